/-! ===== the reference: plans, signs, counts, boards, swaps ===== -/
def moF (a n : Int32) : Int32 := if a - a / n * n < 0 then a - a / n * n + n else a - a / n * n
def evN (t : Int32) : Bool := decide (t - t / nI 2 * nI 2 = 0)
def pnS (t r : Int32) : Int32 := if evN t && decide (t / nI 2 ≤ r) then 1 else 0
def pnOk (t r k : Int32) : Bool := inF t 3 10 && (inF r 0 (if evN t then t - nI 2 else t - nI 1) && inF k 0 (t - nI 1))
def pnF (t r k w : Int32) : Int32 := if pnOk t r k then (if w = 0 then k else if w = nI 1 then t + moF (k - r - pnS t r) t else if w = nI 2 then moF (k + r) t else -1) else -1
set_option maxRecDepth 20000 in
theorem r_plan_2 {pr : aC} {d : Nat} {u : rS} (t r k w : Int32) (hok : pnOk t r k = true) (ht : ¬ t = 0) {Q : Option Value → rS → Prop} (hQ : Q (some (.int (pnF t r k w))) u) : rB pr (d + 1) cd_220 (Option.some Jvm.ClassFile.FieldType.int) Q 42 [some (.ref 25), some (.int t), some (.int r), some (.int k), some (.int w), some (.int (pnS t r))] [] u := by
  refine g_load rfl rfl rfl trivial ?_
  refine g_if_ne rfl (fun c1 => ?_) (fun c1 => ?_)
  · have w0 := c1
    refine g_load rfl rfl rfl trivial ?_
    refine g_iconst (nI 1) rfl (by decide) ?_
    refine g_icmp_ne rfl (fun c2 => ?_) (fun c2 => ?_)
    · have w1 := c2
      refine g_load rfl rfl rfl trivial ?_
      refine g_iconst (nI 2) rfl (by decide) ?_
      refine g_icmp_ne rfl (fun c3 => ?_) (fun c3 => ?_)
      · rw [show pnF t r k w = -1 by unfold pnF; rw [hok, if_pos rfl, if_neg w0, if_neg w1, if_neg c3]] at hQ
        refine g_iconst (-1) rfl (by decide) ?_
        refine g_vret rfl trivial ⟨rfl, rfl⟩ (Nat.le_refl _) (Nat.le_refl _) ?_
        exact hQ
      · rw [show pnF t r k w = moF (k + r) t by unfold pnF; rw [hok, if_pos rfl, if_neg w0, if_neg w1, if_pos c3]] at hQ
        refine g_load rfl rfl rfl trivial ?_
        refine g_load rfl rfl rfl trivial ?_
        refine g_iadd rfl ?_
        refine g_load rfl rfl rfl trivial ?_
        refine g_statI [.int (k + r), .int t] rFr_tr rfl rfl rfl (Nat.le_of_ble_eq_true rfl) (Nat.le_refl _) (Nat.le_refl _) (r_modulo (k + r) t ht ⟨_, rfl, ?_⟩)
        refine g_goto rfl ?_
        refine g_vret rfl trivial ⟨rfl, rfl⟩ (Nat.le_refl _) (Nat.le_refl _) ?_
        exact hQ
    · rw [show pnF t r k w = t + moF (k - r - pnS t r) t by unfold pnF; rw [hok, if_pos rfl, if_neg w0, if_pos c2]] at hQ
      refine g_load rfl rfl rfl trivial ?_
      refine g_load rfl rfl rfl trivial ?_
      refine g_load rfl rfl rfl trivial ?_
      refine g_isub rfl ?_
      refine g_load rfl rfl rfl trivial ?_
      refine g_isub rfl ?_
      refine g_load rfl rfl rfl trivial ?_
      refine g_statI [.int (k - r - pnS t r), .int t] rFr_tr rfl rfl rfl (Nat.le_of_ble_eq_true rfl) (Nat.le_refl _) (Nat.le_refl _) (r_modulo (k - r - pnS t r) t ht ⟨_, rfl, ?_⟩)
      refine g_iadd rfl ?_
      refine g_goto rfl ?_
      refine g_vret rfl trivial ⟨rfl, rfl⟩ (Nat.le_refl _) (Nat.le_refl _) ?_
      exact hQ
  · rw [show pnF t r k w = k by unfold pnF; rw [hok, if_pos rfl, if_pos c1]] at hQ
    refine g_load rfl rfl rfl trivial ?_
    refine g_goto rfl ?_
    refine g_vret rfl trivial ⟨rfl, rfl⟩ (Nat.le_refl _) (Nat.le_refl _) ?_
    exact hQ
set_option maxRecDepth 20000 in
theorem r_plan {pr : aC} {d : Nat} {u : rS} (t r k w : Int32) {Q : Option Value → rS → Prop} (hQ : Q (some (.int (pnF t r k w))) u) : rR pr (d + 1 + 1) 220 [.ref 25, .int t, .int r, .int k, .int w] u Q := by
  refine gR_of mi_220 rFr_rf rfl (Nat.le_of_ble_eq_true rfl) ?_
  show rB pr (d + 1) cd_220 (Option.some Jvm.ClassFile.FieldType.int) Q 0 [some (.ref 25), some (.int t), some (.int r), some (.int k), some (.int w), none] [] u
  refine g_load rfl rfl rfl trivial ?_
  refine g_iconst (nI 3) rfl (by decide) ?_
  refine g_bipush (nI 10) rfl (by decide) ?_
  refine g_statI [.int t, .int (nI 3), .int (nI 10)] rFr_tr rfl rfl rfl (Nat.le_of_ble_eq_true rfl) (Nat.le_refl _) (Nat.le_refl _) (r_in t 3 10 ⟨_, rfl, ?_⟩)
  refine g_if_eq rfl (fun c1 => ?_) (fun c1 => ?_)
  · rw [bI_eq] at c1
    rw [show pnF t r k w = -1 by simp [pnF, pnOk, *]] at hQ
    refine g_iconst (-1) rfl (by decide) ?_
    refine g_vret rfl trivial ⟨rfl, rfl⟩ (Nat.le_refl _) (Nat.le_refl _) ?_
    exact hQ
  · rw [bI_ne] at c1
    have ht0 : ¬ t = 0 := by intro q; subst q; exact absurd c1 (by decide)
    refine g_load rfl rfl rfl trivial ?_
    refine g_iconst (nI 0) rfl (by decide) ?_
    refine g_load rfl rfl rfl trivial ?_
    refine g_iconst (nI 2) rfl (by decide) ?_
    refine g_irem rfl (by decide) ?_
    have K2 : ∀ e2 : Int32, e2 = (if evN t then t - nI 2 else t - nI 1) → rB pr (d + 1) cd_220 (Option.some Jvm.ClassFile.FieldType.int) Q 18 [some (.ref 25), some (.int t), some (.int r), some (.int k), some (.int w), none] [.int e2, .int (nI 0), .int r] u := by
      intro e2 he2
      subst he2
      refine g_statI [.int r, .int (nI 0), .int (if evN t then t - nI 2 else t - nI 1)] rFr_tr rfl rfl rfl (Nat.le_of_ble_eq_true rfl) (Nat.le_refl _) (Nat.le_refl _) (r_in r 0 (if evN t then t - nI 2 else t - nI 1) ⟨_, rfl, ?_⟩)
      refine g_if_eq rfl (fun c3 => ?_) (fun c3 => ?_)
      · rw [bI_eq] at c3
        rw [show pnF t r k w = -1 by simp [pnF, pnOk, *]] at hQ
        refine g_iconst (-1) rfl (by decide) ?_
        refine g_vret rfl trivial ⟨rfl, rfl⟩ (Nat.le_refl _) (Nat.le_refl _) ?_
        exact hQ
      · rw [bI_ne] at c3
        refine g_load rfl rfl rfl trivial ?_
        refine g_iconst (nI 0) rfl (by decide) ?_
        refine g_load rfl rfl rfl trivial ?_
        refine g_iconst (nI 1) rfl (by decide) ?_
        refine g_isub rfl ?_
        refine g_statI [.int k, .int (nI 0), .int (t - nI 1)] rFr_tr rfl rfl rfl (Nat.le_of_ble_eq_true rfl) (Nat.le_refl _) (Nat.le_refl _) (r_in k 0 (t - nI 1) ⟨_, rfl, ?_⟩)
        refine g_if_ne rfl (fun c4 => ?_) (fun c4 => ?_)
        · rw [bI_ne] at c4
          have hok : pnOk t r k = true := by simp [pnOk, *]
          refine g_load rfl rfl rfl trivial ?_
          refine g_iconst (nI 2) rfl (by decide) ?_
          refine g_irem rfl (by decide) ?_
          refine g_if_ne rfl (fun c5 => ?_) (fun c5 => ?_)
          · have hs : nI 0 = pnS t r := by simp [pnS, evN, c5, nI_0]
            refine g_iconst (nI 0) rfl (by decide) ?_
            rw [hs]
            refine g_store [some (.ref 25), some (.int t), some (.int r), some (.int k), some (.int w), some (.int (pnS t r))] rfl rfl trivial (Nat.le_of_ble_eq_true rfl) rfl ?_
            exact r_plan_2 t r k w hok ht0 hQ
          · have hev := c5
            refine g_load rfl rfl rfl trivial ?_
            refine g_load rfl rfl rfl trivial ?_
            refine g_iconst (nI 2) rfl (by decide) ?_
            refine g_idiv rfl (by decide) ?_
            refine g_icmp_lt rfl (fun c6 => ?_) (fun c6 => ?_)
            · have hs : nI 0 = pnS t r := by
                have : ¬ t / nI 2 ≤ r := by rw [Int32.not_le]; exact c6
                simp [pnS, this, nI_0]
              refine g_iconst (nI 0) rfl (by decide) ?_
              rw [hs]
              refine g_store [some (.ref 25), some (.int t), some (.int r), some (.int k), some (.int w), some (.int (pnS t r))] rfl rfl trivial (Nat.le_of_ble_eq_true rfl) rfl ?_
              exact r_plan_2 t r k w hok ht0 hQ
            · have hs : nI 1 = pnS t r := by
                have : t / nI 2 ≤ r := by rw [← Int32.not_lt]; exact c6
                simp [pnS, evN, hev, this, nI1]
              refine g_iconst (nI 1) rfl (by decide) ?_
              refine g_goto rfl ?_
              rw [hs]
              refine g_store [some (.ref 25), some (.int t), some (.int r), some (.int k), some (.int w), some (.int (pnS t r))] rfl rfl trivial (Nat.le_of_ble_eq_true rfl) rfl ?_
              exact r_plan_2 t r k w hok ht0 hQ
        · rw [bI_eq] at c4
          rw [show pnF t r k w = -1 by simp [pnF, pnOk, *]] at hQ
          refine g_iconst (-1) rfl (by decide) ?_
          refine g_vret rfl trivial ⟨rfl, rfl⟩ (Nat.le_refl _) (Nat.le_refl _) ?_
          exact hQ
    refine g_if_ne rfl (fun c2 => ?_) (fun c2 => ?_)
    · refine g_load rfl rfl rfl trivial ?_
      refine g_iconst (nI 1) rfl (by decide) ?_
      refine g_isub rfl ?_
      exact K2 _ (by simp [evN, *])
    · refine g_load rfl rfl rfl trivial ?_
      refine g_iconst (nI 2) rfl (by decide) ?_
      refine g_isub rfl ?_
      refine g_goto rfl ?_
      exact K2 _ (by simp [evN, *])
set_option maxRecDepth 20000 in
theorem r_puts {pr : aC} {d : Nat} {u : rS} (c : Int32) (n : Nat) (hn : u.1 22 = nI n) (hn2 : n < 20) {Q : Option Value → rS → Prop} (hQ : Q none (upd u.1 22 (nI (n + 1)), rU u.2 45 n c)) : rR pr (d + 1) 221 [.ref 25, .int c] u Q := by
  refine gR_of mi_221 rFr_rf rfl (Nat.le_of_ble_eq_true rfl) ?_
  show rB pr (d) cd_221 none Q 0 [some (.ref 25), some (.int c)] [] u
  refine g_load rfl rfl rfl trivial ?_
  refine r_getf rfl rfl ?_
  refine g_load rfl rfl rfl trivial ?_
  refine r_getf rfl rfl ?_
  refine g_load rfl rfl rfl trivial ?_
  rw [hn]
  refine r_ias (n) rfl ⟨by decide, by decide, rfl⟩ rfl (by show _ < 20; omega) ?_
  refine g_load rfl rfl rfl trivial ?_
  refine g_dup rfl rfl ?_
  refine r_getf rfl rfl ?_
  refine g_iconst (nI 1) rfl (by decide) ?_
  rw [show ((u.1, rU u.2 45 n c) : rS).1 22 = nI n from hn]
  refine g_iadd rfl ?_
  rw [nI_add]
  refine r_puti rfl (by simp [rIs]) ?_
  refine g_ret rfl rfl (Nat.le_refl _) (Nat.le_refl _) ?_
  exact hQ
def otG (u : rS) (i : Int32) : Int32 := if inF i 0 (u.1 22 - nI 1) then u.2 45 i.toNatClampNeg else -1
set_option maxRecDepth 20000 in
theorem r_out {pr : aC} {d : Nat} {u : rS} (i : Int32) (n : Nat) (hn : u.1 22 = nI n) (hn2 : n ≤ 20) {Q : Option Value → rS → Prop} (hQ : Q (some (.int (otG u i))) u) : rR pr (d + 1 + 1) 223 [.ref 25, .int i] u Q := by
  refine gR_of mi_223 rFr_rf rfl (Nat.le_of_ble_eq_true rfl) ?_
  show rB pr (d + 1) cd_223 (Option.some Jvm.ClassFile.FieldType.int) Q 0 [some (.ref 25), some (.int i)] [] u
  refine g_load rfl rfl rfl trivial ?_
  refine g_iconst (nI 0) rfl (by decide) ?_
  refine g_load rfl rfl rfl trivial ?_
  refine r_getf rfl rfl ?_
  refine g_iconst (nI 1) rfl (by decide) ?_
  refine g_isub rfl ?_
  rw [hn, pI_eq]
  refine g_statI [.int i, .int (nI 0), .int (pI n)] rFr_tr rfl rfl rfl (Nat.le_of_ble_eq_true rfl) (Nat.le_refl _) (Nat.le_refl _) (r_in i 0 (pI n) ⟨_, rfl, ?_⟩)
  refine g_if_eq rfl (fun c1 => ?_) (fun c1 => ?_)
  · rw [bI_eq] at c1
    rw [show otG u i = -1 by unfold otG; rw [hn, pI_eq, c1]; rfl] at hQ
    refine g_iconst (-1) rfl (by decide) ?_
    refine g_vret rfl trivial ⟨rfl, rfl⟩ (Nat.le_refl _) (Nat.le_refl _) ?_
    exact hQ
  · rw [bI_ne] at c1
    obtain ⟨i', hi, rfl⟩ := in_pI c1 (by omega)
    rw [show otG u (nI i') = u.2 45 i' by unfold otG; rw [hn, pI_eq, if_pos c1, nI_clamp (by omega)]] at hQ
    refine g_load rfl rfl rfl trivial ?_
    refine r_getf rfl rfl ?_
    refine g_load rfl rfl rfl trivial ?_
    refine r_ia (i') rfl ⟨by decide, by decide, rfl⟩ rfl (by show _ < 20; omega) ?_
    refine g_goto rfl ?_
    refine g_vret rfl trivial ⟨rfl, rfl⟩ (Nat.le_refl _) (Nat.le_refl _) ?_
    exact hQ
set_option maxRecDepth 20000 in
theorem r_count_t {pr : aC} {d : Nat} {u : rS} (w : Int32) {Q : Option Value → rS → Prop} (hQ : Q (some (.int (nI (cnt (fun t => decide (¬ u.2 28 t = 0)) 10)))) u) : ∀ (zz : Nat) (x : Nat) (hm : 10 - x < zz) (hle : x ≤ 10), rB pr (d) cd_224 (Option.some Jvm.ClassFile.FieldType.int) Q 12 [some (.ref 25), some (.int w), some (.int (nI (cnt (fun t => decide (¬ u.2 28 t = 0)) x))), some (.int (nI x))] [] u := by
  intro zz
  induction zz with
  | zero => intro x hm hle; exact absurd hm (by omega)
  | succ zz ih =>
    intro x hm hle
    refine g_load rfl rfl rfl trivial ?_
    refine g_bipush (nI 10) rfl (by decide) ?_
    refine g_icmp_ge rfl (fun c1 => ?_) (fun c1 => ?_)
    · rw [nI_leI (by omega) (by omega)] at c1
      have hx : x = 10 := by omega
      subst hx
      refine g_load rfl rfl rfl trivial ?_
      refine g_vret rfl trivial ⟨rfl, rfl⟩ (Nat.le_refl _) (Nat.le_refl _) ?_
      exact hQ
    · rw [nI_leI (by omega) (by omega)] at c1
      refine g_load rfl rfl rfl trivial ?_
      refine g_load rfl rfl rfl trivial ?_
      refine r_getf rfl rfl ?_
      refine g_load rfl rfl rfl trivial ?_
      refine r_ia (x) rfl ⟨by decide, by decide, rfl⟩ rfl (by show _ < 10; omega) ?_
      have K2 : ∀ e2 : Int32, e2 = nI (if ¬ u.2 28 x = 0 then 1 else 0) → rB pr (d) cd_224 (Option.some Jvm.ClassFile.FieldType.int) Q 24 [some (.ref 25), some (.int w), some (.int (nI (cnt (fun t => decide (¬ u.2 28 t = 0)) x))), some (.int (nI x))] [.int e2, .int (nI (cnt (fun t => decide (¬ u.2 28 t = 0)) x))] u := by
        intro e2 he2
        subst he2
        refine g_iadd rfl ?_
        rw [nI_add, show cnt (fun t => decide (¬ u.2 28 t = 0)) x + (if ¬ u.2 28 x = 0 then 1 else 0) = cnt (fun t => decide (¬ u.2 28 t = 0)) (x + 1) by simp [cnt]]
        refine g_store [some (.ref 25), some (.int w), some (.int (nI (cnt (fun t => decide (¬ u.2 28 t = 0)) (x + 1)))), some (.int (nI x))] rfl rfl trivial (Nat.le_of_ble_eq_true rfl) rfl ?_
        refine g_iinc (nI (x + 1)) [some (.ref 25), some (.int w), some (.int (nI (cnt (fun t => decide (¬ u.2 28 t = 0)) (x + 1)))), some (.int (nI (x + 1)))] rfl rfl (nI_1 x) rfl ?_
        refine g_goto rfl ?_
        exact ih (x + 1) (by omega) (by omega)
      refine g_if_eq rfl (fun c2 => ?_) (fun c2 => ?_)
      · refine g_iconst (nI 0) rfl (by decide) ?_
        exact K2 _ (by simp [*])
      · refine g_iconst (nI 1) rfl (by decide) ?_
        refine g_goto rfl ?_
        exact K2 _ (by simp [*])
set_option maxRecDepth 20000 in
theorem r_count_p {pr : aC} {d : Nat} {u : rS} (w : Int32) (nr : Nat) (h1 : u.1 1 = nI nr) (hn : nr ≤ 220) {Q : Option Value → rS → Prop} (hQ : Q (some (.int (nI (cnt (fun p => anyN (hrF u (nI p)) nr) 40)))) u) : ∀ (zz : Nat) (x : Nat) (hm : 40 - x < zz) (hle : x ≤ 40), rB pr (d + 1) cd_224 (Option.some Jvm.ClassFile.FieldType.int) Q 32 [some (.ref 25), some (.int w), some (.int (nI (cnt (fun p => anyN (hrF u (nI p)) nr) x))), some (.int (nI x))] [] u := by
  intro zz
  induction zz with
  | zero => intro x hm hle; exact absurd hm (by omega)
  | succ zz ih =>
    intro x hm hle
    refine g_load rfl rfl rfl trivial ?_
    refine g_bipush (nI 40) rfl (by decide) ?_
    refine g_icmp_ge rfl (fun c1 => ?_) (fun c1 => ?_)
    · rw [nI_leI (by omega) (by omega)] at c1
      have hx : x = 40 := by omega
      subst hx
      refine g_load rfl rfl rfl trivial ?_
      refine g_vret rfl trivial ⟨rfl, rfl⟩ (Nat.le_refl _) (Nat.le_refl _) ?_
      exact hQ
    · rw [nI_leI (by omega) (by omega)] at c1
      refine g_load rfl rfl rfl trivial ?_
      refine g_load rfl rfl rfl trivial ?_
      refine g_load rfl rfl rfl trivial ?_
      refine g_virtI (a := 25) (ci := 8) (n := 1) [.int (nI x)] rFr_tr rfl rfl (by decide) rfl r_this rfl (Nat.le_of_ble_eq_true rfl) (Nat.le_refl _) (Nat.le_refl _) (r_hasResult (nI x) nr h1 hn ⟨_, rfl, ?_⟩)
      have K2 : ∀ e2 : Int32, e2 = nI (if anyN (hrF u (nI x)) nr = true then 1 else 0) → rB pr (d + 1) cd_224 (Option.some Jvm.ClassFile.FieldType.int) Q 43 [some (.ref 25), some (.int w), some (.int (nI (cnt (fun p => anyN (hrF u (nI p)) nr) x))), some (.int (nI x))] [.int e2, .int (nI (cnt (fun p => anyN (hrF u (nI p)) nr) x))] u := by
        intro e2 he2
        subst he2
        refine g_iadd rfl ?_
        rw [nI_add, show cnt (fun p => anyN (hrF u (nI p)) nr) x + (if anyN (hrF u (nI x)) nr = true then 1 else 0) = cnt (fun p => anyN (hrF u (nI p)) nr) (x + 1) by simp [cnt]]
        refine g_store [some (.ref 25), some (.int w), some (.int (nI (cnt (fun p => anyN (hrF u (nI p)) nr) (x + 1)))), some (.int (nI x))] rfl rfl trivial (Nat.le_of_ble_eq_true rfl) rfl ?_
        refine g_iinc (nI (x + 1)) [some (.ref 25), some (.int w), some (.int (nI (cnt (fun p => anyN (hrF u (nI p)) nr) (x + 1)))), some (.int (nI (x + 1)))] rfl rfl (nI_1 x) rfl ?_
        refine g_goto rfl ?_
        exact ih (x + 1) (by omega) (by omega)
      refine g_if_eq rfl (fun c2 => ?_) (fun c2 => ?_)
      · rw [bI_eq] at c2
        refine g_iconst (nI 0) rfl (by decide) ?_
        exact K2 _ (by simp [*])
      · rw [bI_ne] at c2
        refine g_iconst (nI 1) rfl (by decide) ?_
        refine g_goto rfl ?_
        exact K2 _ (by simp [*])
def ctF (u : rS) (nr : Nat) (w : Int32) : Int32 := if w = nI 0 then u.1 0 else if w = nI 1 then u.1 1 else if w = nI 2 then nI (cnt (fun t => decide (¬ u.2 28 t = 0)) 10) else if w = nI 3 then nI (cnt (fun p => anyN (hrF u (nI p)) nr) 40) else -1
theorem nI_ne' : ∀ a, a < 4 → ∀ b, b < 4 → a ≠ b → ¬ nI a = nI b := by decide
set_option maxRecDepth 20000 in
theorem r_count {pr : aC} {d : Nat} {u : rS} (w : Int32) (nr : Nat) (h1 : u.1 1 = nI nr) (hn : nr ≤ 220) {Q : Option Value → rS → Prop} (hQ : Q (some (.int (ctF u nr w))) u) : rR pr (d + 1 + 1) 224 [.ref 25, .int w] u Q := by
  refine gR_of mi_224 rFr_rf rfl (Nat.le_of_ble_eq_true rfl) ?_
  show rB pr (d + 1) cd_224 (Option.some Jvm.ClassFile.FieldType.int) Q 0 [some (.ref 25), some (.int w), none, none] [] u
  refine g_iconst (nI 0) rfl (by decide) ?_
  refine g_store [some (.ref 25), some (.int w), some (.int (nI 0)), none] rfl rfl trivial (Nat.le_of_ble_eq_true rfl) rfl ?_
  refine g_load rfl rfl rfl trivial ?_
  by_cases hsw : w.toInt < 0 ∨ 3 < w.toInt
  · refine g_tabOut 49 rfl hsw rfl ?_
    have hs := fun k (hk : k ≤ 3) => sw_ne (k := k) hsw hk (by decide)
    rw [show ctF u nr w = -1 by unfold ctF; rw [if_neg (hs 0 (by omega)), if_neg (hs 1 (by omega)), if_neg (hs 2 (by omega)), if_neg (hs 3 (by omega))]] at hQ
    refine g_iconst (-1) rfl (by decide) ?_
    refine g_vret rfl trivial ⟨rfl, rfl⟩ (Nat.le_refl _) (Nat.le_refl _) ?_
    exact hQ
  obtain ⟨ksw, hk, rfl⟩ := sw_of (x := w) (n := 3) hsw
  rcases (show ksw = 0 ∨ ksw = 1 ∨ ksw = 2 ∨ ksw = 3 by omega) with rfl | rfl | rfl | rfl
  · refine g_tabIn (29) 4 rfl (by decide) (by decide) rfl rfl ?_
    rw [show ctF u nr (nI 0) = u.1 0 by rfl] at hQ
    refine g_load rfl rfl rfl trivial ?_
    refine r_getf rfl rfl ?_
    refine g_vret rfl trivial ⟨rfl, rfl⟩ (Nat.le_refl _) (Nat.le_refl _) ?_
    exact hQ
  · refine g_tabIn (34) 7 rfl (by decide) (by decide) rfl rfl ?_
    rw [show ctF u nr (nI 1) = u.1 1 by rfl] at hQ
    refine g_load rfl rfl rfl trivial ?_
    refine r_getf rfl rfl ?_
    refine g_vret rfl trivial ⟨rfl, rfl⟩ (Nat.le_refl _) (Nat.le_refl _) ?_
    exact hQ
  · refine g_tabIn (39) 10 rfl (by decide) (by decide) rfl rfl ?_
    rw [show ctF u nr (nI 2) = nI (cnt (fun t => decide (¬ u.2 28 t = 0)) 10) by rfl] at hQ
    refine g_iconst (nI 0) rfl (by decide) ?_
    refine g_store [some (.ref 25), some (.int (nI 2)), some (.int (nI 0)), some (.int (nI 0))] rfl rfl trivial (Nat.le_of_ble_eq_true rfl) rfl ?_
    exact r_count_t _ hQ 11 0 (by omega) (by omega)
  · refine g_tabIn (72) 30 rfl (by decide) (by decide) rfl rfl ?_
    rw [show ctF u nr (nI 3) = nI (cnt (fun p => anyN (hrF u (nI p)) nr) 40) by rfl] at hQ
    refine g_iconst (nI 0) rfl (by decide) ?_
    refine g_store [some (.ref 25), some (.int (nI 3)), some (.int (nI 0)), some (.int (nI 0))] rfl rfl trivial (Nat.le_of_ble_eq_true rfl) rfl ?_
    exact r_count_p _ nr h1 hn hQ 41 0 (by omega) (by omega)
def bdF (u : rS) (nr : Nat) (b w : Int32) : Int32 := if isBd u b then (if w = nI 0 then nI ((b.toNatClampNeg - 1) % 4) else if w = nI 1 then nI (((b.toNatClampNeg - 1) % 16 + (b.toNatClampNeg - 1) % 16 / 4) % 4) else if w = nI 2 then nI (cnt (fun i => decide (u.2 35 i = b)) nr) else if w = nI 3 then oI (first (tabF u b) 0 10) else -1) else -1
set_option maxRecDepth 20000 in
theorem r_board {pr : aC} {d : Nat} {u : rS} (b w : Int32) (nr : Nat) (h1 : u.1 1 = nI nr) (hn : nr ≤ 220) (nb : Nat) (h0 : u.1 0 = nI nb) (hnb : nb ≤ 36) {Q : Option Value → rS → Prop} (hQ : Q (some (.int (bdF u nr b w))) u) : rR pr (d + 2 + 1) 171 [.ref 25, .int b, .int w] u Q := by
  refine gR_of mi_171 rFr_rf rfl (Nat.le_of_ble_eq_true rfl) ?_
  show rB pr (d + 2) cd_171 (Option.some Jvm.ClassFile.FieldType.int) Q 0 [some (.ref 25), some (.int b), some (.int w)] [] u
  refine g_load rfl rfl rfl trivial ?_
  refine g_load rfl rfl rfl trivial ?_
  refine g_virtI (a := 25) (ci := 8) (n := 1) [.int b] rFr_tr rfl rfl (by decide) rfl r_this rfl (Nat.le_of_ble_eq_true rfl) (Nat.le_refl _) (Nat.le_refl _) (r_isBoard b ⟨_, rfl, ?_⟩)
  refine g_if_ne rfl (fun c1 => ?_) (fun c1 => ?_)
  · rw [bI_ne] at c1
    obtain ⟨b', hb, rfl⟩ := bd_of c1 h0 (by omega)
    refine g_load rfl rfl rfl trivial ?_
    by_cases hsw : w.toInt < 0 ∨ 3 < w.toInt
    · refine g_tabOut 22 rfl hsw rfl ?_
      have hs := fun k (hk : k ≤ 3) => sw_ne (k := k) hsw hk (by decide)
      rw [show bdF u nr (nI (b' + 1)) w = -1 by unfold bdF; rw [c1, if_pos rfl, if_neg (hs 0 (by omega)), if_neg (hs 1 (by omega)), if_neg (hs 2 (by omega)), if_neg (hs 3 (by omega))]] at hQ
      refine g_iconst (-1) rfl (by decide) ?_
      refine g_vret rfl trivial ⟨rfl, rfl⟩ (Nat.le_refl _) (Nat.le_refl _) ?_
      exact hQ
    obtain ⟨ksw, hk, rfl⟩ := sw_of (x := w) (n := 3) hsw
    rcases (show ksw = 0 ∨ ksw = 1 ∨ ksw = 2 ∨ ksw = 3 by omega) with rfl | rfl | rfl | rfl
    · refine g_tabIn (29) 8 rfl (by decide) (by decide) rfl rfl ?_
      rw [show bdF u nr (nI (b' + 1)) (nI 0) = nI (b' % 4) by unfold bdF; rw [c1, nI_clamp (by omega)]; rfl] at hQ
      refine g_load rfl rfl rfl trivial ?_
      refine g_statI [(.int (nI (b' + 1)))] rFr_tr rfl rfl rfl (Nat.le_of_ble_eq_true rfl) (Nat.le_refl _) (Nat.le_refl _) (r_dealer b' (by omega) ⟨_, rfl, ?_⟩)
      refine g_vret rfl trivial ⟨rfl, rfl⟩ (Nat.le_refl _) (Nat.le_refl _) ?_
      exact hQ
    · refine g_tabIn (34) 11 rfl (by decide) (by decide) rfl rfl ?_
      rw [show bdF u nr (nI (b' + 1)) (nI 1) = nI ((b' % 16 + b' % 16 / 4) % 4) by unfold bdF; rw [c1, nI_clamp (by omega)]; rfl] at hQ
      refine g_load rfl rfl rfl trivial ?_
      refine g_statI [(.int (nI (b' + 1)))] rFr_tr rfl rfl rfl (Nat.le_of_ble_eq_true rfl) (Nat.le_refl _) (Nat.le_refl _) (r_vulnerable b' (by omega) ⟨_, rfl, ?_⟩)
      refine g_vret rfl trivial ⟨rfl, rfl⟩ (Nat.le_refl _) (Nat.le_refl _) ?_
      exact hQ
    · refine g_tabIn (39) 14 rfl (by decide) (by decide) rfl rfl ?_
      rw [show bdF u nr (nI (b' + 1)) (nI 2) = nI (cnt (fun i => decide (u.2 35 i = nI (b' + 1))) nr) by unfold bdF; rw [c1, nI_clamp (by omega)]; rfl] at hQ
      refine g_load rfl rfl rfl trivial ?_
      refine g_load rfl rfl rfl trivial ?_
      refine g_virtI (a := 25) (ci := 8) (n := 1) [(.int (nI (b' + 1)))] rFr_tr rfl rfl (by decide) rfl r_this rfl (Nat.le_of_ble_eq_true rfl) (Nat.le_refl _) (Nat.le_refl _) (r_resultsOf (nI (b' + 1)) nr h1 hn ⟨_, rfl, ?_⟩)
      refine g_vret rfl trivial ⟨rfl, rfl⟩ (Nat.le_refl _) (Nat.le_refl _) ?_
      exact hQ
    · refine g_tabIn (45) 18 rfl (by decide) (by decide) rfl rfl ?_
      rw [show bdF u nr (nI (b' + 1)) (nI 3) = oI (first (tabF u (nI (b' + 1))) 0 10) by unfold bdF; rw [c1, nI_clamp (by omega)]; rfl] at hQ
      refine g_load rfl rfl rfl trivial ?_
      refine g_load rfl rfl rfl trivial ?_
      refine g_virtI (a := 25) (ci := 8) (n := 1) [(.int (nI (b' + 1)))] rFr_tr rfl rfl (by decide) rfl r_this rfl (Nat.le_of_ble_eq_true rfl) (Nat.le_refl _) (Nat.le_refl _) (r_tableOf (nI (b' + 1)) ⟨_, rfl, ?_⟩)
      refine g_vret rfl trivial ⟨rfl, rfl⟩ (Nat.le_refl _) (Nat.le_refl _) ?_
      exact hQ
  · rw [bI_eq] at c1
    rw [show bdF u nr b w = -1 by unfold bdF; rw [c1]; rfl] at hQ
    refine g_iconst (-1) rfl (by decide) ?_
    refine g_vret rfl trivial ⟨rfl, rfl⟩ (Nat.le_refl _) (Nat.le_refl _) ?_
    exact hQ
