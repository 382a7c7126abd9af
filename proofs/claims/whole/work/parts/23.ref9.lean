/-! ===== the reference: points, totals, places ===== -/
set_option maxRecDepth 20000 in
theorem r_points_l {pr : aC} {d : Nat} {u : rS} (i s : Nat) (al : Int32) (nr : Nat) (h1 : u.1 1 = nI nr) (hn : nr ≤ 220) (hi : i < nr) (hs : s < 2) {Q : Option Value → rS → Prop} (hQ : Q (some (.int (if s = 0 then nI (nsum (pqF u i) nr) else al - nI (nsum (pqF u i) nr)))) u) : ∀ (zz : Nat) (x : Nat) (hm : nr - x < zz) (hle : x ≤ nr), rB pr (d) cd_215 (Option.some Jvm.ClassFile.FieldType.int) Q 44 [some (.ref 25), some (.int (nI i)), some (.int (nI s)), some (.int al), some (.int (nI (nsum (pqF u i) x))), some (.int (nI x))] [] u := by
  intro zz
  induction zz with
  | zero => intro x hm hle; exact absurd hm (by omega)
  | succ zz ih =>
    intro x hm hle
    refine g_load rfl rfl rfl trivial ?_
    refine g_load rfl rfl rfl trivial ?_
    refine r_getf rfl rfl ?_
    rw [h1]
    have hb := nsum_le (pqF_le u i) x
    refine g_icmp_ge rfl (fun c1 => ?_) (fun c1 => ?_)
    · rw [nI_leI (by omega) (by omega)] at c1
      have hx : x = nr := by omega
      subst hx
      refine g_load rfl rfl rfl trivial ?_
      refine g_if_ne rfl (fun c2 => ?_) (fun c2 => ?_)
      · rw [← nI_0, nI_eq (by omega) (by omega)] at c2
        rw [if_neg c2] at hQ
        refine g_load rfl rfl rfl trivial ?_
        refine g_load rfl rfl rfl trivial ?_
        refine g_isub rfl ?_
        exact g_vret rfl trivial ⟨rfl, rfl⟩ (Nat.le_refl _) (Nat.le_refl _) hQ
      · rw [← nI_0, nI_eq (by omega) (by omega)] at c2
        rw [if_pos c2] at hQ
        refine g_load rfl rfl rfl trivial ?_
        refine g_goto rfl ?_
        exact g_vret rfl trivial ⟨rfl, rfl⟩ (Nat.le_refl _) (Nat.le_refl _) hQ
    rw [nI_leI (by omega) (by omega)] at c1
    refine g_load rfl rfl rfl trivial ?_
    refine g_load rfl rfl rfl trivial ?_
    refine g_icmp_eq rfl (fun c1 => ?_) (fun c1 => ?_)
    · rw [nI_eq (by omega) (by omega)] at c1
      have e1 : nsum (pqF u i) (x + 1) = nsum (pqF u i) x := by simp [nsum, pqF, c1]
      rw [← e1]
      refine g_iinc (nI (x + 1)) [some (.ref 25), some (.int (nI i)), some (.int (nI s)), some (.int al), some (.int (nI (nsum (pqF u i) (x + 1)))), some (.int (nI (x + 1)))] rfl rfl (nI_1 x) rfl ?_
      refine g_goto rfl ?_
      exact ih (x + 1) (by omega) (by omega)
    · rw [nI_eq (by omega) (by omega)] at c1
      have hxi := c1
      refine g_load rfl rfl rfl trivial ?_
      refine r_getf rfl rfl ?_
      refine g_load rfl rfl rfl trivial ?_
      refine r_ia (x) rfl ⟨by decide, by decide, rfl⟩ rfl (by show _ < 220; omega) ?_
      refine g_load rfl rfl rfl trivial ?_
      refine r_getf rfl rfl ?_
      refine g_load rfl rfl rfl trivial ?_
      refine r_ia (i) rfl ⟨by decide, by decide, rfl⟩ rfl (by show _ < 220; omega) ?_
      refine g_icmp_eq rfl (fun c2 => ?_) (fun c2 => ?_)
      · have hbd := c2
        refine g_load rfl rfl rfl trivial ?_
        refine g_load rfl rfl rfl trivial ?_
        refine r_getf rfl rfl ?_
        refine g_load rfl rfl rfl trivial ?_
        refine r_za (x) rfl ⟨by decide, by decide, rfl⟩ rfl (by show _ < 220; omega) ?_
        have K3 : ∀ e3 : Int32, e3 = nI (pqF u i x) → rB pr (d) cd_215 (Option.some Jvm.ClassFile.FieldType.int) Q 90 [some (.ref 25), some (.int (nI i)), some (.int (nI s)), some (.int al), some (.int (nI (nsum (pqF u i) x))), some (.int (nI x))] [.int e3, .int (nI (nsum (pqF u i) x))] u := by
          intro e3 he3
          subst he3
          refine g_iadd rfl ?_
          rw [nI_add]
          refine g_store [some (.ref 25), some (.int (nI i)), some (.int (nI s)), some (.int al), some (.int (nI (nsum (pqF u i) (x + 1)))), some (.int (nI x))] rfl rfl trivial (Nat.le_of_ble_eq_true rfl) rfl ?_
          refine g_iinc (nI (x + 1)) [some (.ref 25), some (.int (nI i)), some (.int (nI s)), some (.int al), some (.int (nI (nsum (pqF u i) (x + 1)))), some (.int (nI (x + 1)))] rfl rfl (nI_1 x) rfl ?_
          refine g_goto rfl ?_
          exact ih (x + 1) (by omega) (by omega)
        refine g_if_ne rfl (fun c3 => ?_) (fun c3 => ?_)
        · have ha := c3
          refine g_bipush (nI 10) rfl (by decide) ?_
          refine g_goto rfl ?_
          exact K3 _ (by simp [pqF, *])
        · have ha := c3
          refine g_load rfl rfl rfl trivial ?_
          refine r_getf rfl rfl ?_
          refine g_load rfl rfl rfl trivial ?_
          refine r_ia (x) rfl ⟨by decide, by decide, rfl⟩ rfl (by show _ < 220; omega) ?_
          refine g_load rfl rfl rfl trivial ?_
          refine r_getf rfl rfl ?_
          refine g_load rfl rfl rfl trivial ?_
          refine r_ia (i) rfl ⟨by decide, by decide, rfl⟩ rfl (by show _ < 220; omega) ?_
          refine g_icmp_ne rfl (fun c4 => ?_) (fun c4 => ?_)
          · refine g_load rfl rfl rfl trivial ?_
            refine r_getf rfl rfl ?_
            refine g_load rfl rfl rfl trivial ?_
            refine r_ia (x) rfl ⟨by decide, by decide, rfl⟩ rfl (by show _ < 220; omega) ?_
            refine g_load rfl rfl rfl trivial ?_
            refine r_getf rfl rfl ?_
            refine g_load rfl rfl rfl trivial ?_
            refine r_ia (i) rfl ⟨by decide, by decide, rfl⟩ rfl (by show _ < 220; omega) ?_
            refine g_icmp_ge rfl (fun c5 => ?_) (fun c5 => ?_)
            · have hl : ¬ u.2 42 x < u.2 42 i := by rw [Int32.not_lt]; exact c5
              refine g_iconst (nI 0) rfl (by decide) ?_
              exact K3 _ (by simp [pqF, *])
            · have hl : u.2 42 x < u.2 42 i := by rw [← Int32.not_le]; exact c5
              refine g_bipush (nI 20) rfl (by decide) ?_
              refine g_goto rfl ?_
              exact K3 _ (by simp [pqF, *])
          · refine g_bipush (nI 10) rfl (by decide) ?_
            refine g_goto rfl ?_
            exact K3 _ (by simp [pqF, *])
      · have e1 : nsum (pqF u i) (x + 1) = nsum (pqF u i) x := by simp [nsum, pqF, c2]
        rw [← e1]
        refine g_goto rfl ?_
        refine g_iinc (nI (x + 1)) [some (.ref 25), some (.int (nI i)), some (.int (nI s)), some (.int al), some (.int (nI (nsum (pqF u i) (x + 1)))), some (.int (nI (x + 1)))] rfl rfl (nI_1 x) rfl ?_
        refine g_goto rfl ?_
        exact ih (x + 1) (by omega) (by omega)
theorem ir_t {nr i : Nat} (h : i < nr) (hn : nr < 2 ^ 31) : irF nr (nI i) = true := by
  cases nr with
  | zero => omega
  | succ n =>
    unfold irF inF
    rw [show pI (n + 1) = nI n from rfl, decide_eq_true (by rw [← nI_0]; exact nI_le (by omega) (by omega)), decide_eq_true (nI_le (by omega) (by omega))]; rfl
set_option maxRecDepth 20000 in
theorem r_points {pr : aC} {d : Nat} {u : rS} (i s : Nat) (nr : Nat) (h1 : u.1 1 = nI nr) (hn : nr ≤ 220) (hi : i < nr) (hs : s < 2) {Q : Option Value → rS → Prop} (hQ : Q (some (.int (ptF u nr i s))) u) : rR pr (d + 2 + 1) 215 [.ref 25, .int (nI i), .int (nI s)] u Q := by
  refine gR_of mi_215 rFr_rf rfl (Nat.le_of_ble_eq_true rfl) ?_
  show rB pr (d + 2) cd_215 (Option.some Jvm.ClassFile.FieldType.int) Q 0 [some (.ref 25), some (.int (nI i)), some (.int (nI s)), none, none, none] [] u
  refine g_load rfl rfl rfl trivial ?_
  refine g_load rfl rfl rfl trivial ?_
  refine g_virtI (a := 25) (ci := 8) (n := 1) [.int (nI i)] rFr_tr rfl rfl (by decide) rfl r_this rfl (Nat.le_of_ble_eq_true rfl) (Nat.le_refl _) (Nat.le_refl _) (r_isResult (nI i) nr h1 hn ⟨_, rfl, ?_⟩)
  refine g_if_eq rfl (fun c1 => ?_) (fun c1 => ?_)
  · rw [bI_eq] at c1
    exact absurd (ir_t hi (by omega)) (by rw [c1]; decide)
  · refine g_load rfl rfl rfl trivial ?_
    refine g_iconst (nI 0) rfl (by decide) ?_
    refine g_iconst (nI 1) rfl (by decide) ?_
    refine g_statI [.int (nI s), .int (nI 0), .int (nI 1)] rFr_tr rfl rfl rfl (Nat.le_of_ble_eq_true rfl) (Nat.le_refl _) (Nat.le_refl _) (r_in (nI s) 0 1 ⟨_, rfl, ?_⟩)
    refine g_if_ne rfl (fun c2 => ?_) (fun c2 => ?_)
    · refine g_bipush (nI 20) rfl (by decide) ?_
      refine g_load rfl rfl rfl trivial ?_
      refine g_load rfl rfl rfl trivial ?_
      refine r_getf rfl rfl ?_
      refine g_load rfl rfl rfl trivial ?_
      refine r_ia (i) rfl ⟨by decide, by decide, rfl⟩ rfl (by show _ < 220; omega) ?_
      refine g_virtI (a := 25) (ci := 8) (n := 1) [.int (u.2 35 i)] rFr_tr rfl rfl (by decide) rfl r_this rfl (Nat.le_of_ble_eq_true rfl) (Nat.le_refl _) (Nat.le_refl _) (r_resultsOf (u.2 35 i) nr h1 hn ⟨_, rfl, ?_⟩)
      refine g_iconst (nI 1) rfl (by decide) ?_
      refine g_isub rfl ?_
      refine g_imul rfl ?_
      refine g_store [some (.ref 25), some (.int (nI i)), some (.int (nI s)), some (.int (alN u nr i)), none, none] rfl rfl trivial (Nat.le_of_ble_eq_true rfl) rfl ?_
      refine g_load rfl rfl rfl trivial ?_
      refine r_getf rfl rfl ?_
      refine g_load rfl rfl rfl trivial ?_
      refine r_za (i) rfl ⟨by decide, by decide, rfl⟩ rfl (by show _ < 220; omega) ?_
      refine g_if_eq rfl (fun c3 => ?_) (fun c3 => ?_)
      · rw [show ptF u nr i s = _ from if_pos c3] at hQ
        refine g_iconst (nI 0) rfl (by decide) ?_
        refine g_store [some (.ref 25), some (.int (nI i)), some (.int (nI s)), some (.int (alN u nr i)), some (.int (nI 0)), none] rfl rfl trivial (Nat.le_of_ble_eq_true rfl) rfl ?_
        refine g_iconst (nI 0) rfl (by decide) ?_
        refine g_store [some (.ref 25), some (.int (nI i)), some (.int (nI s)), some (.int (alN u nr i)), some (.int (nI 0)), some (.int (nI 0))] rfl rfl trivial (Nat.le_of_ble_eq_true rfl) rfl ?_
        exact r_points_l i s (alN u nr i) nr h1 hn hi hs hQ (nr + 1) 0 (by omega) (by omega)
      · rw [show ptF u nr i s = _ from if_neg c3] at hQ
        refine g_load rfl rfl rfl trivial ?_
        refine g_load rfl rfl rfl trivial ?_
        refine r_getf rfl rfl ?_
        refine g_iconst (nI 2) rfl (by decide) ?_
        refine g_load rfl rfl rfl trivial ?_
        refine g_imul rfl ?_
        refine g_load rfl rfl rfl trivial ?_
        refine g_iadd rfl ?_
        refine r_ia (2 * i + s) rfl ⟨by decide, by decide, rfl⟩ (by rw [pk_mul, nI_add]) (by show _ < 440; omega) ?_
        refine g_imul rfl ?_
        refine g_bipush (nI 100) rfl (by decide) ?_
        refine g_idiv rfl (by decide) ?_
        refine g_vret rfl trivial ⟨rfl, rfl⟩ (Nat.le_refl _) (Nat.le_refl _) ?_
        exact hQ
    · rw [bI_eq] at c2
      exact absurd (show inF (nI s) 0 1 = true from (by decide : ∀ s, s < 2 → inF (nI s) 0 1 = true) s hs) (by rw [c2]; decide)
def hrF (u : rS) (p : Int32) (i : Nat) : Bool := decide (u.2 36 (2 * i) = p ∨ u.2 36 (2 * i + 1) = p)
set_option maxRecDepth 20000 in
theorem r_hasResult_l {pr : aC} {d : Nat} {u : rS} (p : Int32) (nr : Nat) (h1 : u.1 1 = nI nr) (hn : nr ≤ 220) {Q : Option Value → rS → Prop} (hQ : Q (some (.int (bI (anyN (hrF u p) nr)))) u) : ∀ (zz : Nat) (x : Nat) (hm : nr - x < zz) (hle : x ≤ nr) (hinv : ∀ y, y < x → hrF u p y = false), rB pr (d) cd_216 (Option.some Jvm.ClassFile.FieldType.boolean) Q 2 [some (.ref 25), some (.int p), some (.int (nI x))] [] u := by
  intro zz
  induction zz with
  | zero => intro x hm hle hinv; exact absurd hm (by omega)
  | succ zz ih =>
    intro x hm hle hinv
    refine g_load rfl rfl rfl trivial ?_
    refine g_load rfl rfl rfl trivial ?_
    refine r_getf rfl rfl ?_
    rw [h1]
    refine g_icmp_ge rfl (fun c1 => ?_) (fun c1 => ?_)
    · rw [nI_leI (by omega) (by omega)] at c1
      rw [anyN_f (fun y h => hinv y (by omega))] at hQ
      refine g_iconst (nI 0) rfl (by decide) ?_
      exact g_vret rfl trivial ⟨by decide, by decide⟩ (Nat.le_refl _) (Nat.le_refl _) hQ
    rw [nI_leI (by omega) (by omega)] at c1
    refine g_load rfl rfl rfl trivial ?_
    refine r_getf rfl rfl ?_
    refine g_iconst (nI 2) rfl (by decide) ?_
    refine g_load rfl rfl rfl trivial ?_
    refine g_imul rfl ?_
    refine r_ia (2 * x) rfl ⟨by decide, by decide, rfl⟩ (by rw [pk_mul]) (by show _ < 440; omega) ?_
    refine g_load rfl rfl rfl trivial ?_
    refine g_icmp_eq rfl (fun c1 => ?_) (fun c1 => ?_)
    · rw [anyN_t (i := x) (by omega) (by simp [hrF, c1])] at hQ
      refine g_iconst (nI 1) rfl (by decide) ?_
      refine g_vret rfl trivial (by first | exact ⟨by decide, by decide⟩ | trivial) (Nat.le_refl _) (Nat.le_refl _) ?_
      exact hQ
    · refine g_load rfl rfl rfl trivial ?_
      refine r_getf rfl rfl ?_
      refine g_iconst (nI 2) rfl (by decide) ?_
      refine g_load rfl rfl rfl trivial ?_
      refine g_imul rfl ?_
      refine g_iconst (nI 1) rfl (by decide) ?_
      refine g_iadd rfl ?_
      refine r_ia (2 * x + 1) rfl ⟨by decide, by decide, rfl⟩ (by rw [pk_mul, nI_add]) (by show _ < 440; omega) ?_
      refine g_load rfl rfl rfl trivial ?_
      refine g_icmp_ne rfl (fun c2 => ?_) (fun c2 => ?_)
      · have hf : hrF u p x = false := by simp [hrF, *]
        refine g_iinc (nI (x + 1)) [some (.ref 25), some (.int p), some (.int (nI (x + 1)))] rfl rfl (nI_1 x) rfl ?_
        refine g_goto rfl ?_
        exact ih (x + 1) (by omega) (by omega) (fun y hy => by
          rcases Nat.lt_succ_iff_lt_or_eq.mp hy with h | h
          · exact hinv y h
          · exact h ▸ hf)
      · rw [anyN_t (i := x) (by omega) (by simp [hrF, c2])] at hQ
        refine g_iconst (nI 1) rfl (by decide) ?_
        refine g_vret rfl trivial (by first | exact ⟨by decide, by decide⟩ | trivial) (Nat.le_refl _) (Nat.le_refl _) ?_
        exact hQ
set_option maxRecDepth 20000 in
theorem r_hasResult {pr : aC} {d : Nat} {u : rS} (p : Int32) (nr : Nat) (h1 : u.1 1 = nI nr) (hn : nr ≤ 220) {Q : Option Value → rS → Prop} (hQ : Q (some (.int (bI (anyN (hrF u p) nr)))) u) : rR pr (d + 1) 216 [.ref 25, .int p] u Q := by
  refine gR_of mi_216 rFr_rf rfl (Nat.le_of_ble_eq_true rfl) ?_
  show rB pr (d) cd_216 (Option.some Jvm.ClassFile.FieldType.boolean) Q 0 [some (.ref 25), some (.int p), none] [] u
  refine g_iconst (nI 0) rfl (by decide) ?_
  refine g_store [some (.ref 25), some (.int p), some (.int (nI 0))] rfl rfl trivial (Nat.le_of_ble_eq_true rfl) rfl ?_
  exact r_hasResult_l p nr h1 hn hQ (nr + 1) 0 (by omega) (by omega) (fun y h => absurd h (by omega))
def isum (q : Nat → Int32) : Nat → Int32
  | 0 => 0
  | n + 1 => isum q n + q n
def ttQ (u : rS) (nr : Nat) (p : Int32) (i : Nat) : Int32 := (if u.2 36 (2 * i) = p then ptF u nr i 0 else 0) + (if u.2 36 (2 * i + 1) = p then ptF u nr i 1 else 0)
def tpQ (u : rS) (nr : Nat) (p : Int32) (i : Nat) : Int32 := if hrF u p i then alN u nr i else 0
def ttF (u : rS) (nr : Nat) (p : Int32) : Int32 := if anyN (hrF u p) nr then isum (ttQ u nr p) nr else -1
def tpF (u : rS) (nr : Nat) (p : Int32) : Int32 := if anyN (hrF u p) nr then isum (tpQ u nr p) nr else -1
set_option maxRecDepth 20000 in
theorem r_total_l {pr : aC} {d : Nat} {u : rS} (p : Int32) (nr : Nat) (h1 : u.1 1 = nI nr) (hn : nr ≤ 220) {Q : Option Value → rS → Prop} (hQ : Q (some (.int (isum (ttQ u nr p) nr))) u) : ∀ (zz : Nat) (x : Nat) (hm : nr - x < zz) (hle : x ≤ nr), rB pr (d + 3) cd_217 (Option.some Jvm.ClassFile.FieldType.int) Q 10 [some (.ref 25), some (.int p), some (.int (isum (ttQ u nr p) x)), some (.int (nI x))] [] u := by
  intro zz
  induction zz with
  | zero => intro x hm hle; exact absurd hm (by omega)
  | succ zz ih =>
    intro x hm hle
    refine g_load rfl rfl rfl trivial ?_
    refine g_load rfl rfl rfl trivial ?_
    refine r_getf rfl rfl ?_
    rw [h1]
    refine g_icmp_ge rfl (fun c1 => ?_) (fun c1 => ?_)
    · rw [nI_leI (by omega) (by omega)] at c1
      have hx : x = nr := by omega
      subst hx
      refine g_load rfl rfl rfl trivial ?_
      exact g_vret rfl trivial ⟨rfl, rfl⟩ (Nat.le_refl _) (Nat.le_refl _) hQ
    rw [nI_leI (by omega) (by omega)] at c1
    refine g_load rfl rfl rfl trivial ?_
    refine r_getf rfl rfl ?_
    refine g_iconst (nI 2) rfl (by decide) ?_
    refine g_load rfl rfl rfl trivial ?_
    refine g_imul rfl ?_
    refine r_ia (2 * x) rfl ⟨by decide, by decide, rfl⟩ (by rw [pk_mul]) (by show _ < 440; omega) ?_
    refine g_load rfl rfl rfl trivial ?_
    refine g_icmp_ne rfl (fun c1 => ?_) (fun c1 => ?_)
    · have hA : isum (ttQ u nr p) x = isum (ttQ u nr p) x + (if u.2 36 (2 * x) = p then ptF u nr x 0 else 0) := by rw [if_neg c1, Int32.add_zero]
      refine g_load rfl rfl rfl trivial ?_
      refine r_getf rfl rfl ?_
      refine g_iconst (nI 2) rfl (by decide) ?_
      refine g_load rfl rfl rfl trivial ?_
      refine g_imul rfl ?_
      refine g_iconst (nI 1) rfl (by decide) ?_
      refine g_iadd rfl ?_
      refine r_ia (2 * x + 1) rfl ⟨by decide, by decide, rfl⟩ (by rw [pk_mul, nI_add]) (by show _ < 440; omega) ?_
      refine g_load rfl rfl rfl trivial ?_
      refine g_icmp_ne rfl (fun c2 => ?_) (fun c2 => ?_)
      · have hB : (if u.2 36 (2 * x + 1) = p then ptF u nr x 1 else 0) = 0 := if_neg c2
        refine g_iinc (nI (x + 1)) [some (.ref 25), some (.int p), some (.int (isum (ttQ u nr p) x)), some (.int (nI (x + 1)))] rfl rfl (nI_1 x) rfl ?_
        refine g_goto rfl ?_
        have K := ih (x + 1) (by omega) (by omega)
        have hE : isum (ttQ u nr p) (x + 1) = (isum (ttQ u nr p) x) := by
          show isum (ttQ u nr p) x + ((if u.2 36 (2 * x) = p then ptF u nr x 0 else 0) + (if u.2 36 (2 * x + 1) = p then ptF u nr x 1 else 0)) = _
          rw [hB, ← Int32.add_assoc, ← hA]
          try rw [Int32.add_zero]
        rw [hE] at K
        exact K
      · have hB : (if u.2 36 (2 * x + 1) = p then ptF u nr x 1 else 0) = ptF u nr x 1 := if_pos c2
        refine g_load rfl rfl rfl trivial ?_
        refine g_load rfl rfl rfl trivial ?_
        refine g_load rfl rfl rfl trivial ?_
        refine g_iconst (nI 1) rfl (by decide) ?_
        refine g_virtI (a := 25) (ci := 8) (n := 2) [.int (nI x), .int (nI 1)] rFr_tr rfl rfl (by decide) rfl r_this rfl (Nat.le_of_ble_eq_true rfl) (Nat.le_refl _) (Nat.le_refl _) (r_points x 1 nr h1 hn (by omega) (by omega) ⟨_, rfl, ?_⟩)
        refine g_iadd rfl ?_
        refine g_store [some (.ref 25), some (.int p), some (.int ((isum (ttQ u nr p) x) + (ptF u nr x 1))), some (.int (nI x))] rfl rfl trivial (Nat.le_of_ble_eq_true rfl) rfl ?_
        refine g_iinc (nI (x + 1)) [some (.ref 25), some (.int p), some (.int ((isum (ttQ u nr p) x) + (ptF u nr x 1))), some (.int (nI (x + 1)))] rfl rfl (nI_1 x) rfl ?_
        refine g_goto rfl ?_
        have K := ih (x + 1) (by omega) (by omega)
        have hE : isum (ttQ u nr p) (x + 1) = ((isum (ttQ u nr p) x) + (ptF u nr x 1)) := by
          show isum (ttQ u nr p) x + ((if u.2 36 (2 * x) = p then ptF u nr x 0 else 0) + (if u.2 36 (2 * x + 1) = p then ptF u nr x 1 else 0)) = _
          rw [hB, ← Int32.add_assoc, ← hA]
          try rw [Int32.add_zero]
        rw [hE] at K
        exact K
    · have hA : isum (ttQ u nr p) x + ptF u nr x 0 = isum (ttQ u nr p) x + (if u.2 36 (2 * x) = p then ptF u nr x 0 else 0) := by rw [if_pos c1]
      refine g_load rfl rfl rfl trivial ?_
      refine g_load rfl rfl rfl trivial ?_
      refine g_load rfl rfl rfl trivial ?_
      refine g_iconst (nI 0) rfl (by decide) ?_
      refine g_virtI (a := 25) (ci := 8) (n := 2) [.int (nI x), .int (nI 0)] rFr_tr rfl rfl (by decide) rfl r_this rfl (Nat.le_of_ble_eq_true rfl) (Nat.le_refl _) (Nat.le_refl _) (r_points x 0 nr h1 hn (by omega) (by omega) ⟨_, rfl, ?_⟩)
      refine g_iadd rfl ?_
      refine g_store [some (.ref 25), some (.int p), some (.int (isum (ttQ u nr p) x + ptF u nr x 0)), some (.int (nI x))] rfl rfl trivial (Nat.le_of_ble_eq_true rfl) rfl ?_
      refine g_load rfl rfl rfl trivial ?_
      refine r_getf rfl rfl ?_
      refine g_iconst (nI 2) rfl (by decide) ?_
      refine g_load rfl rfl rfl trivial ?_
      refine g_imul rfl ?_
      refine g_iconst (nI 1) rfl (by decide) ?_
      refine g_iadd rfl ?_
      refine r_ia (2 * x + 1) rfl ⟨by decide, by decide, rfl⟩ (by rw [pk_mul, nI_add]) (by show _ < 440; omega) ?_
      refine g_load rfl rfl rfl trivial ?_
      refine g_icmp_ne rfl (fun c3 => ?_) (fun c3 => ?_)
      · have hB : (if u.2 36 (2 * x + 1) = p then ptF u nr x 1 else 0) = 0 := if_neg c3
        refine g_iinc (nI (x + 1)) [some (.ref 25), some (.int p), some (.int (isum (ttQ u nr p) x + ptF u nr x 0)), some (.int (nI (x + 1)))] rfl rfl (nI_1 x) rfl ?_
        refine g_goto rfl ?_
        have K := ih (x + 1) (by omega) (by omega)
        have hE : isum (ttQ u nr p) (x + 1) = (isum (ttQ u nr p) x + ptF u nr x 0) := by
          show isum (ttQ u nr p) x + ((if u.2 36 (2 * x) = p then ptF u nr x 0 else 0) + (if u.2 36 (2 * x + 1) = p then ptF u nr x 1 else 0)) = _
          rw [hB, ← Int32.add_assoc, ← hA]
          try rw [Int32.add_zero]
        rw [hE] at K
        exact K
      · have hB : (if u.2 36 (2 * x + 1) = p then ptF u nr x 1 else 0) = ptF u nr x 1 := if_pos c3
        refine g_load rfl rfl rfl trivial ?_
        refine g_load rfl rfl rfl trivial ?_
        refine g_load rfl rfl rfl trivial ?_
        refine g_iconst (nI 1) rfl (by decide) ?_
        refine g_virtI (a := 25) (ci := 8) (n := 2) [.int (nI x), .int (nI 1)] rFr_tr rfl rfl (by decide) rfl r_this rfl (Nat.le_of_ble_eq_true rfl) (Nat.le_refl _) (Nat.le_refl _) (r_points x 1 nr h1 hn (by omega) (by omega) ⟨_, rfl, ?_⟩)
        refine g_iadd rfl ?_
        refine g_store [some (.ref 25), some (.int p), some (.int ((isum (ttQ u nr p) x + ptF u nr x 0) + (ptF u nr x 1))), some (.int (nI x))] rfl rfl trivial (Nat.le_of_ble_eq_true rfl) rfl ?_
        refine g_iinc (nI (x + 1)) [some (.ref 25), some (.int p), some (.int ((isum (ttQ u nr p) x + ptF u nr x 0) + (ptF u nr x 1))), some (.int (nI (x + 1)))] rfl rfl (nI_1 x) rfl ?_
        refine g_goto rfl ?_
        have K := ih (x + 1) (by omega) (by omega)
        have hE : isum (ttQ u nr p) (x + 1) = ((isum (ttQ u nr p) x + ptF u nr x 0) + (ptF u nr x 1)) := by
          show isum (ttQ u nr p) x + ((if u.2 36 (2 * x) = p then ptF u nr x 0 else 0) + (if u.2 36 (2 * x + 1) = p then ptF u nr x 1 else 0)) = _
          rw [hB, ← Int32.add_assoc, ← hA]
          try rw [Int32.add_zero]
        rw [hE] at K
        exact K
set_option maxRecDepth 20000 in
theorem r_total {pr : aC} {d : Nat} {u : rS} (p : Int32) (nr : Nat) (h1 : u.1 1 = nI nr) (hn : nr ≤ 220) {Q : Option Value → rS → Prop} (hQ : Q (some (.int (ttF u nr p))) u) : rR pr (d + 3 + 1) 217 [.ref 25, .int p] u Q := by
  refine gR_of mi_217 rFr_rf rfl (Nat.le_of_ble_eq_true rfl) ?_
  show rB pr (d + 3) cd_217 (Option.some Jvm.ClassFile.FieldType.int) Q 0 [some (.ref 25), some (.int p), none, none] [] u
  refine g_load rfl rfl rfl trivial ?_
  refine g_load rfl rfl rfl trivial ?_
  refine g_virtI (a := 25) (ci := 8) (n := 1) [.int p] rFr_tr rfl rfl (by decide) rfl r_this rfl (Nat.le_of_ble_eq_true rfl) (Nat.le_refl _) (Nat.le_refl _) (r_hasResult p nr h1 hn ⟨_, rfl, ?_⟩)
  refine g_if_ne rfl (fun c1 => ?_) (fun c1 => ?_)
  · rw [bI_ne] at c1
    unfold ttF at hQ
    rw [if_pos c1] at hQ
    refine g_iconst (nI 0) rfl (by decide) ?_
    refine g_store [some (.ref 25), some (.int p), some (.int (nI 0)), none] rfl rfl trivial (Nat.le_of_ble_eq_true rfl) rfl ?_
    refine g_iconst (nI 0) rfl (by decide) ?_
    refine g_store [some (.ref 25), some (.int p), some (.int (nI 0)), some (.int (nI 0))] rfl rfl trivial (Nat.le_of_ble_eq_true rfl) rfl ?_
    exact r_total_l p nr h1 hn hQ (nr + 1) 0 (by omega) (by omega)
  · rw [bI_eq] at c1
    unfold ttF at hQ
    rw [c1] at hQ
    refine g_iconst (-1) rfl (by decide) ?_
    refine g_vret rfl trivial ⟨rfl, rfl⟩ (Nat.le_refl _) (Nat.le_refl _) ?_
    exact hQ
set_option maxRecDepth 20000 in
theorem r_top_l {pr : aC} {d : Nat} {u : rS} (p : Int32) (nr : Nat) (h1 : u.1 1 = nI nr) (hn : nr ≤ 220) {Q : Option Value → rS → Prop} (hQ : Q (some (.int (isum (tpQ u nr p) nr))) u) : ∀ (zz : Nat) (x : Nat) (hm : nr - x < zz) (hle : x ≤ nr), rB pr (d + 1) cd_218 (Option.some Jvm.ClassFile.FieldType.int) Q 10 [some (.ref 25), some (.int p), some (.int (isum (tpQ u nr p) x)), some (.int (nI x))] [] u := by
  intro zz
  induction zz with
  | zero => intro x hm hle; exact absurd hm (by omega)
  | succ zz ih =>
    intro x hm hle
    refine g_load rfl rfl rfl trivial ?_
    refine g_load rfl rfl rfl trivial ?_
    refine r_getf rfl rfl ?_
    rw [h1]
    refine g_icmp_ge rfl (fun c1 => ?_) (fun c1 => ?_)
    · rw [nI_leI (by omega) (by omega)] at c1
      have hx : x = nr := by omega
      subst hx
      refine g_load rfl rfl rfl trivial ?_
      exact g_vret rfl trivial ⟨rfl, rfl⟩ (Nat.le_refl _) (Nat.le_refl _) hQ
    rw [nI_leI (by omega) (by omega)] at c1
    refine g_load rfl rfl rfl trivial ?_
    refine r_getf rfl rfl ?_
    refine g_iconst (nI 2) rfl (by decide) ?_
    refine g_load rfl rfl rfl trivial ?_
    refine g_imul rfl ?_
    refine r_ia (2 * x) rfl ⟨by decide, by decide, rfl⟩ (by rw [pk_mul]) (by show _ < 440; omega) ?_
    refine g_load rfl rfl rfl trivial ?_
    refine g_icmp_eq rfl (fun c1 => ?_) (fun c1 => ?_)
    · have hB : tpQ u nr p x = alN u nr x := by simp [tpQ, hrF, c1]
      refine g_load rfl rfl rfl trivial ?_
      refine g_bipush (nI 20) rfl (by decide) ?_
      refine g_load rfl rfl rfl trivial ?_
      refine g_load rfl rfl rfl trivial ?_
      refine r_getf rfl rfl ?_
      refine g_load rfl rfl rfl trivial ?_
      refine r_ia (x) rfl ⟨by decide, by decide, rfl⟩ rfl (by show _ < 220; omega) ?_
      refine g_virtI (a := 25) (ci := 8) (n := 1) [.int (u.2 35 x)] rFr_tr rfl rfl (by decide) rfl r_this rfl (Nat.le_of_ble_eq_true rfl) (Nat.le_refl _) (Nat.le_refl _) (r_resultsOf (u.2 35 x) nr h1 hn ⟨_, rfl, ?_⟩)
      refine g_iconst (nI 1) rfl (by decide) ?_
      refine g_isub rfl ?_
      refine g_imul rfl ?_
      refine g_iadd rfl ?_
      refine g_store [some (.ref 25), some (.int p), some (.int (isum (tpQ u nr p) x + alN u nr x)), some (.int (nI x))] rfl rfl trivial (Nat.le_of_ble_eq_true rfl) rfl ?_
      refine g_iinc (nI (x + 1)) [some (.ref 25), some (.int p), some (.int (isum (tpQ u nr p) x + alN u nr x)), some (.int (nI (x + 1)))] rfl rfl (nI_1 x) rfl ?_
      refine g_goto rfl ?_
      have K := ih (x + 1) (by omega) (by omega)
      rw [show isum (tpQ u nr p) (x + 1) = (isum (tpQ u nr p) x + alN u nr x) by show isum (tpQ u nr p) x + tpQ u nr p x = _; rw [hB]; try rw [Int32.add_zero]] at K
      exact K
    · refine g_load rfl rfl rfl trivial ?_
      refine r_getf rfl rfl ?_
      refine g_iconst (nI 2) rfl (by decide) ?_
      refine g_load rfl rfl rfl trivial ?_
      refine g_imul rfl ?_
      refine g_iconst (nI 1) rfl (by decide) ?_
      refine g_iadd rfl ?_
      refine r_ia (2 * x + 1) rfl ⟨by decide, by decide, rfl⟩ (by rw [pk_mul, nI_add]) (by show _ < 440; omega) ?_
      refine g_load rfl rfl rfl trivial ?_
      refine g_icmp_ne rfl (fun c2 => ?_) (fun c2 => ?_)
      · have hB : tpQ u nr p x = 0 := by simp [tpQ, hrF, *]
        refine g_iinc (nI (x + 1)) [some (.ref 25), some (.int p), some (.int (isum (tpQ u nr p) x)), some (.int (nI (x + 1)))] rfl rfl (nI_1 x) rfl ?_
        refine g_goto rfl ?_
        have K := ih (x + 1) (by omega) (by omega)
        rw [show isum (tpQ u nr p) (x + 1) = (isum (tpQ u nr p) x) by show isum (tpQ u nr p) x + tpQ u nr p x = _; rw [hB]; try rw [Int32.add_zero]] at K
        exact K
      · have hB : tpQ u nr p x = alN u nr x := by simp [tpQ, hrF, c2]
        refine g_load rfl rfl rfl trivial ?_
        refine g_bipush (nI 20) rfl (by decide) ?_
        refine g_load rfl rfl rfl trivial ?_
        refine g_load rfl rfl rfl trivial ?_
        refine r_getf rfl rfl ?_
        refine g_load rfl rfl rfl trivial ?_
        refine r_ia (x) rfl ⟨by decide, by decide, rfl⟩ rfl (by show _ < 220; omega) ?_
        refine g_virtI (a := 25) (ci := 8) (n := 1) [.int (u.2 35 x)] rFr_tr rfl rfl (by decide) rfl r_this rfl (Nat.le_of_ble_eq_true rfl) (Nat.le_refl _) (Nat.le_refl _) (r_resultsOf (u.2 35 x) nr h1 hn ⟨_, rfl, ?_⟩)
        refine g_iconst (nI 1) rfl (by decide) ?_
        refine g_isub rfl ?_
        refine g_imul rfl ?_
        refine g_iadd rfl ?_
        refine g_store [some (.ref 25), some (.int p), some (.int (isum (tpQ u nr p) x + alN u nr x)), some (.int (nI x))] rfl rfl trivial (Nat.le_of_ble_eq_true rfl) rfl ?_
        refine g_iinc (nI (x + 1)) [some (.ref 25), some (.int p), some (.int (isum (tpQ u nr p) x + alN u nr x)), some (.int (nI (x + 1)))] rfl rfl (nI_1 x) rfl ?_
        refine g_goto rfl ?_
        have K := ih (x + 1) (by omega) (by omega)
        rw [show isum (tpQ u nr p) (x + 1) = (isum (tpQ u nr p) x + alN u nr x) by show isum (tpQ u nr p) x + tpQ u nr p x = _; rw [hB]; try rw [Int32.add_zero]] at K
        exact K
set_option maxRecDepth 20000 in
theorem r_top {pr : aC} {d : Nat} {u : rS} (p : Int32) (nr : Nat) (h1 : u.1 1 = nI nr) (hn : nr ≤ 220) {Q : Option Value → rS → Prop} (hQ : Q (some (.int (tpF u nr p))) u) : rR pr (d + 1 + 1) 218 [.ref 25, .int p] u Q := by
  refine gR_of mi_218 rFr_rf rfl (Nat.le_of_ble_eq_true rfl) ?_
  show rB pr (d + 1) cd_218 (Option.some Jvm.ClassFile.FieldType.int) Q 0 [some (.ref 25), some (.int p), none, none] [] u
  refine g_load rfl rfl rfl trivial ?_
  refine g_load rfl rfl rfl trivial ?_
  refine g_virtI (a := 25) (ci := 8) (n := 1) [.int p] rFr_tr rfl rfl (by decide) rfl r_this rfl (Nat.le_of_ble_eq_true rfl) (Nat.le_refl _) (Nat.le_refl _) (r_hasResult p nr h1 hn ⟨_, rfl, ?_⟩)
  refine g_if_ne rfl (fun c1 => ?_) (fun c1 => ?_)
  · rw [bI_ne] at c1
    unfold tpF at hQ
    rw [if_pos c1] at hQ
    refine g_iconst (nI 0) rfl (by decide) ?_
    refine g_store [some (.ref 25), some (.int p), some (.int (nI 0)), none] rfl rfl trivial (Nat.le_of_ble_eq_true rfl) rfl ?_
    refine g_iconst (nI 0) rfl (by decide) ?_
    refine g_store [some (.ref 25), some (.int p), some (.int (nI 0)), some (.int (nI 0))] rfl rfl trivial (Nat.le_of_ble_eq_true rfl) rfl ?_
    exact r_top_l p nr h1 hn hQ (nr + 1) 0 (by omega) (by omega)
  · rw [bI_eq] at c1
    unfold tpF at hQ
    rw [c1] at hQ
    refine g_iconst (-1) rfl (by decide) ?_
    refine g_vret rfl trivial ⟨rfl, rfl⟩ (Nat.le_refl _) (Nat.le_refl _) ?_
    exact hQ
/-- a part as two longs: over, under -/
def ovL (u : rS) (nr : Nat) (p : Int32) : Int64 := if (tpF u nr p).toInt64 = 0 then 1 else (ttF u nr p).toInt64
def unL (u : rS) (nr : Nat) (p : Int32) : Int64 := if (tpF u nr p).toInt64 = 0 then 2 else (tpF u nr p).toInt64
def bpF (u : rS) (nr : Nat) (p : Int32) (q : Nat) : Bool := decide (¬ nI q = p) && (anyN (hrF u (nI q)) nr && decide (ovL u nr p * unL u nr (nI q) < ovL u nr (nI q) * unL u nr p))
def pcF (u : rS) (nr : Nat) (p : Int32) : Int32 := if anyN (hrF u p) nr then nI (1 + cnt (bpF u nr p) 40) else -1
theorem lcmp0 (a : Int64) : lg_cmp a 0 = 0 ↔ a = 0 := by
  unfold lg_cmp
  constructor
  · intro h
    split at h
    · exact absurd h (by decide)
    · rename_i h1
      split at h
      · rename_i h2; exact h2
      · exact absurd h (by decide)
  · intro h; subst h; decide

set_option maxRecDepth 20000 in
theorem r_place_l {pr : aC} {d : Nat} {u : rS} (p : Int32) (nr : Nat) (h1 : u.1 1 = nI nr) (hn : nr ≤ 220) {Q : Option Value → rS → Prop} (hQ : Q (some (.int (nI (1 + cnt (bpF u nr p) 40)))) u) : ∀ (zz : Nat) (x : Nat) (l8 l9 l10 l11 : Option Value) (hm : 40 - x < zz) (hle : x ≤ 40), rB pr (d + 4) cd_219 (Option.some Jvm.ClassFile.FieldType.int) Q 28 [some (.ref 25), some (.int p), some (.int (nI (1 + cnt (bpF u nr p) x))), some (.long (ovL u nr p)), none, some (.long (unL u nr p)), none, some (.int (nI x)), l8, l9, l10, l11] [] u := by
  intro zz
  induction zz with
  | zero => intro x l8 l9 l10 l11 hm hle; exact absurd hm (by omega)
  | succ zz ih =>
    intro x l8 l9 l10 l11 hm hle
    refine g_load rfl rfl rfl trivial ?_
    refine g_bipush (nI 40) rfl (by decide) ?_
    refine g_icmp_ge rfl (fun c1 => ?_) (fun c1 => ?_)
    · rw [nI_leI (by omega) (by omega)] at c1
      have hx : x = 40 := by omega
      subst hx
      refine g_load rfl rfl rfl trivial ?_
      refine g_vret rfl trivial ⟨rfl, rfl⟩ (Nat.le_refl _) (Nat.le_refl _) ?_
      exact hQ
    · rw [nI_leI (by omega) (by omega)] at c1
      refine g_load rfl rfl rfl trivial ?_
      refine g_load rfl rfl rfl trivial ?_
      refine g_icmp_eq rfl (fun c2 => ?_) (fun c2 => ?_)
      · have hc : cnt (bpF u nr p) (x + 1) = cnt (bpF u nr p) x := by simp [cnt, bpF, c2]
        rw [← hc]
        refine g_iinc (nI (x + 1)) [some (.ref 25), some (.int p), some (.int (nI (1 + cnt (bpF u nr p) (x + 1)))), some (.long (ovL u nr p)), none, some (.long (unL u nr p)), none, some (.int (nI (x + 1))), l8, l9, l10, l11] rfl rfl (nI_1 x) rfl ?_
        refine g_goto rfl ?_
        exact ih (x + 1) _ _ _ _ (by omega) (by omega)
      · have hx3 := c2
        refine g_load rfl rfl rfl trivial ?_
        refine g_load rfl rfl rfl trivial ?_
        refine g_virtI (a := 25) (ci := 8) (n := 1) [.int (nI x)] rFr_tr rfl rfl (by decide) rfl r_this rfl (Nat.le_of_ble_eq_true rfl) (Nat.le_refl _) (Nat.le_refl _) (r_hasResult (nI x) nr h1 hn ⟨_, rfl, ?_⟩)
        refine g_if_ne rfl (fun c3 => ?_) (fun c3 => ?_)
        · rw [bI_ne] at c3
          have hx4 := c3
          refine g_load rfl rfl rfl trivial ?_
          refine g_load rfl rfl rfl trivial ?_
          refine g_virtI (a := 25) (ci := 8) (n := 1) [.int (nI x)] rFr_tr rfl rfl (by decide) rfl r_this rfl (Nat.le_of_ble_eq_true rfl) (Nat.le_refl _) (Nat.le_refl _) (r_total (nI x) nr h1 hn ⟨_, rfl, ?_⟩)
          refine g_i2l rfl ?_
          refine g_store [some (.ref 25), some (.int p), some (.int (nI (1 + cnt (bpF u nr p) x))), some (.long (ovL u nr p)), none, some (.long (unL u nr p)), none, some (.int (nI x)), some (.long (Int32.toInt64 (ttF u nr (nI x)))), none, l10, l11] rfl rfl trivial (Nat.le_of_ble_eq_true rfl) rfl ?_
          refine g_load rfl rfl rfl trivial ?_
          refine g_load rfl rfl rfl trivial ?_
          refine g_virtI (a := 25) (ci := 8) (n := 1) [.int (nI x)] rFr_tr rfl rfl (by decide) rfl r_this rfl (Nat.le_of_ble_eq_true rfl) (Nat.le_refl _) (Nat.le_refl _) (r_top (nI x) nr h1 hn ⟨_, rfl, ?_⟩)
          refine g_i2l rfl ?_
          refine g_store [some (.ref 25), some (.int p), some (.int (nI (1 + cnt (bpF u nr p) x))), some (.long (ovL u nr p)), none, some (.long (unL u nr p)), none, some (.int (nI x)), some (.long (Int32.toInt64 (ttF u nr (nI x)))), none, some (.long (Int32.toInt64 (tpF u nr (nI x)))), none] rfl rfl trivial (Nat.le_of_ble_eq_true rfl) rfl ?_
          refine g_load rfl rfl rfl trivial ?_
          refine g_lconst (lN 0) rfl rfl ?_
          refine g_lcmp rfl ?_
          refine g_if_ne rfl (fun c4 => ?_) (fun c4 => ?_)
          · rw [show lN 0 = 0 from rfl, lcmp0] at c4
            have ho : ovL u nr (nI x) = Int32.toInt64 (ttF u nr (nI x)) := if_neg c4
            have hu : unL u nr (nI x) = Int32.toInt64 (tpF u nr (nI x)) := if_neg c4
            refine g_load rfl rfl rfl trivial ?_
            refine g_load rfl rfl rfl trivial ?_
            refine g_lmul rfl ?_
            refine g_load rfl rfl rfl trivial ?_
            refine g_load rfl rfl rfl trivial ?_
            refine g_lmul rfl ?_
            refine g_lcmp rfl ?_
            refine g_if_le rfl (fun c9 => ?_) (fun c9 => ?_)
            · have hc : cnt (bpF u nr p) (x + 1) = cnt (bpF u nr p) x := by
                have hbp : bpF u nr p x = false := by unfold bpF; rw [ho, hu, decide_eq_false (fun q => absurd ((lg_cmp_le _ _).mp c9) (Int64.not_le.mpr q))]; simp
                simp [cnt, hbp]
              rw [← hc]
              refine g_iinc (nI (x + 1)) [some (.ref 25), some (.int p), some (.int (nI (1 + cnt (bpF u nr p) (x + 1)))), some (.long (ovL u nr p)), none, some (.long (unL u nr p)), none, some (.int (nI (x + 1))), some (.long (Int32.toInt64 (ttF u nr (nI x)))), none, some (.long (Int32.toInt64 (tpF u nr (nI x)))), none] rfl rfl (nI_1 x) rfl ?_
              refine g_goto rfl ?_
              exact ih (x + 1) _ _ _ _ (by omega) (by omega)
            · have hc : cnt (bpF u nr p) (x + 1) = cnt (bpF u nr p) x + 1 := by
                have hbp : bpF u nr p x = true := by unfold bpF; rw [ho, hu, decide_eq_true hx3, hx4, decide_eq_true (Int64.not_le.mp (fun q => c9 ((lg_cmp_le _ _).mpr q)))]; rfl
                simp [cnt, hbp]
              refine g_iinc (nI (1 + cnt (bpF u nr p) (x + 1))) [some (.ref 25), some (.int p), some (.int (nI (1 + cnt (bpF u nr p) (x + 1)))), some (.long (ovL u nr p)), none, some (.long (unL u nr p)), none, some (.int (nI x)), some (.long (Int32.toInt64 (ttF u nr (nI x)))), none, some (.long (Int32.toInt64 (tpF u nr (nI x)))), none] rfl rfl (by rw [hc]; exact nI_1 _) rfl ?_
              refine g_iinc (nI (x + 1)) [some (.ref 25), some (.int p), some (.int (nI (1 + cnt (bpF u nr p) (x + 1)))), some (.long (ovL u nr p)), none, some (.long (unL u nr p)), none, some (.int (nI (x + 1))), some (.long (Int32.toInt64 (ttF u nr (nI x)))), none, some (.long (Int32.toInt64 (tpF u nr (nI x)))), none] rfl rfl (nI_1 x) rfl ?_
              refine g_goto rfl ?_
              exact ih (x + 1) _ _ _ _ (by omega) (by omega)
          · rw [show lN 0 = 0 from rfl, lcmp0] at c4
            have ho : ovL u nr (nI x) = lN 1 := if_pos c4
            have hu : unL u nr (nI x) = 2 := if_pos c4
            refine g_lconst (lN 1) rfl rfl ?_
            refine g_store [some (.ref 25), some (.int p), some (.int (nI (1 + cnt (bpF u nr p) x))), some (.long (ovL u nr p)), none, some (.long (unL u nr p)), none, some (.int (nI x)), some (.long (lN 1)), none, some (.long (Int32.toInt64 (tpF u nr (nI x)))), none] rfl rfl trivial (Nat.le_of_ble_eq_true rfl) rfl ?_
            refine g_ldc2 (2) rfl (by decide) ?_
            refine g_store [some (.ref 25), some (.int p), some (.int (nI (1 + cnt (bpF u nr p) x))), some (.long (ovL u nr p)), none, some (.long (unL u nr p)), none, some (.int (nI x)), some (.long (lN 1)), none, some (.long 2), none] rfl rfl trivial (Nat.le_of_ble_eq_true rfl) rfl ?_
            refine g_load rfl rfl rfl trivial ?_
            refine g_load rfl rfl rfl trivial ?_
            refine g_lmul rfl ?_
            refine g_load rfl rfl rfl trivial ?_
            refine g_load rfl rfl rfl trivial ?_
            refine g_lmul rfl ?_
            refine g_lcmp rfl ?_
            refine g_if_le rfl (fun c9 => ?_) (fun c9 => ?_)
            · have hc : cnt (bpF u nr p) (x + 1) = cnt (bpF u nr p) x := by
                have hbp : bpF u nr p x = false := by unfold bpF; rw [ho, hu, decide_eq_false (fun q => absurd ((lg_cmp_le _ _).mp c9) (Int64.not_le.mpr q))]; simp
                simp [cnt, hbp]
              rw [← hc]
              refine g_iinc (nI (x + 1)) [some (.ref 25), some (.int p), some (.int (nI (1 + cnt (bpF u nr p) (x + 1)))), some (.long (ovL u nr p)), none, some (.long (unL u nr p)), none, some (.int (nI (x + 1))), some (.long (lN 1)), none, some (.long 2), none] rfl rfl (nI_1 x) rfl ?_
              refine g_goto rfl ?_
              exact ih (x + 1) _ _ _ _ (by omega) (by omega)
            · have hc : cnt (bpF u nr p) (x + 1) = cnt (bpF u nr p) x + 1 := by
                have hbp : bpF u nr p x = true := by unfold bpF; rw [ho, hu, decide_eq_true hx3, hx4, decide_eq_true (Int64.not_le.mp (fun q => c9 ((lg_cmp_le _ _).mpr q)))]; rfl
                simp [cnt, hbp]
              refine g_iinc (nI (1 + cnt (bpF u nr p) (x + 1))) [some (.ref 25), some (.int p), some (.int (nI (1 + cnt (bpF u nr p) (x + 1)))), some (.long (ovL u nr p)), none, some (.long (unL u nr p)), none, some (.int (nI x)), some (.long (lN 1)), none, some (.long 2), none] rfl rfl (by rw [hc]; exact nI_1 _) rfl ?_
              refine g_iinc (nI (x + 1)) [some (.ref 25), some (.int p), some (.int (nI (1 + cnt (bpF u nr p) (x + 1)))), some (.long (ovL u nr p)), none, some (.long (unL u nr p)), none, some (.int (nI (x + 1))), some (.long (lN 1)), none, some (.long 2), none] rfl rfl (nI_1 x) rfl ?_
              refine g_goto rfl ?_
              exact ih (x + 1) _ _ _ _ (by omega) (by omega)
        · rw [bI_eq] at c3
          have hc : cnt (bpF u nr p) (x + 1) = cnt (bpF u nr p) x := by simp [cnt, bpF, c3]
          rw [← hc]
          refine g_goto rfl ?_
          refine g_iinc (nI (x + 1)) [some (.ref 25), some (.int p), some (.int (nI (1 + cnt (bpF u nr p) (x + 1)))), some (.long (ovL u nr p)), none, some (.long (unL u nr p)), none, some (.int (nI (x + 1))), l8, l9, l10, l11] rfl rfl (nI_1 x) rfl ?_
          refine g_goto rfl ?_
          exact ih (x + 1) _ _ _ _ (by omega) (by omega)
set_option maxRecDepth 20000 in
theorem r_place_2 {pr : aC} {d : Nat} {u : rS} (p : Int32) (nr : Nat) (h1 : u.1 1 = nI nr) (hn : nr ≤ 220) {Q : Option Value → rS → Prop} (hQ : Q (some (.int (nI (1 + cnt (bpF u nr p) 40)))) u) : rB pr (d + 4) cd_219 (Option.some Jvm.ClassFile.FieldType.int) Q 26 [some (.ref 25), some (.int p), some (.int (nI 1)), some (.long (ovL u nr p)), none, some (.long (unL u nr p)), none, none, none, none, none, none] [] u := by
  refine g_iconst (nI 0) rfl (by decide) ?_
  refine g_store [some (.ref 25), some (.int p), some (.int (nI 1)), some (.long (ovL u nr p)), none, some (.long (unL u nr p)), none, some (.int (nI 0)), none, none, none, none] rfl rfl trivial (Nat.le_of_ble_eq_true rfl) rfl ?_
  exact r_place_l p nr h1 hn hQ 41 0 _ _ _ _ (by omega) (by omega)
set_option maxRecDepth 20000 in
theorem r_place {pr : aC} {d : Nat} {u : rS} (p : Int32) (nr : Nat) (h1 : u.1 1 = nI nr) (hn : nr ≤ 220) {Q : Option Value → rS → Prop} (hQ : Q (some (.int (pcF u nr p))) u) : rR pr (d + 4 + 1) 219 [.ref 25, .int p] u Q := by
  refine gR_of mi_219 rFr_rf rfl (Nat.le_of_ble_eq_true rfl) ?_
  show rB pr (d + 4) cd_219 (Option.some Jvm.ClassFile.FieldType.int) Q 0 [some (.ref 25), some (.int p), none, none, none, none, none, none, none, none, none, none] [] u
  refine g_load rfl rfl rfl trivial ?_
  refine g_load rfl rfl rfl trivial ?_
  refine g_virtI (a := 25) (ci := 8) (n := 1) [.int p] rFr_tr rfl rfl (by decide) rfl r_this rfl (Nat.le_of_ble_eq_true rfl) (Nat.le_refl _) (Nat.le_refl _) (r_hasResult p nr h1 hn ⟨_, rfl, ?_⟩)
  refine g_if_ne rfl (fun c1 => ?_) (fun c1 => ?_)
  · rw [bI_ne] at c1
    unfold pcF at hQ
    rw [if_pos c1] at hQ
    refine g_iconst (nI 1) rfl (by decide) ?_
    refine g_store [some (.ref 25), some (.int p), some (.int (nI 1)), none, none, none, none, none, none, none, none, none] rfl rfl trivial (Nat.le_of_ble_eq_true rfl) rfl ?_
    refine g_load rfl rfl rfl trivial ?_
    refine g_load rfl rfl rfl trivial ?_
    refine g_virtI (a := 25) (ci := 8) (n := 1) [.int p] rFr_tr rfl rfl (by decide) rfl r_this rfl (Nat.le_of_ble_eq_true rfl) (Nat.le_refl _) (Nat.le_refl _) (r_total p nr h1 hn ⟨_, rfl, ?_⟩)
    refine g_i2l rfl ?_
    refine g_store [some (.ref 25), some (.int p), some (.int (nI 1)), some (.long (Int32.toInt64 (ttF u nr p))), none, none, none, none, none, none, none, none] rfl rfl trivial (Nat.le_of_ble_eq_true rfl) rfl ?_
    refine g_load rfl rfl rfl trivial ?_
    refine g_load rfl rfl rfl trivial ?_
    refine g_virtI (a := 25) (ci := 8) (n := 1) [.int p] rFr_tr rfl rfl (by decide) rfl r_this rfl (Nat.le_of_ble_eq_true rfl) (Nat.le_refl _) (Nat.le_refl _) (r_top p nr h1 hn ⟨_, rfl, ?_⟩)
    refine g_i2l rfl ?_
    refine g_store [some (.ref 25), some (.int p), some (.int (nI 1)), some (.long (Int32.toInt64 (ttF u nr p))), none, some (.long (Int32.toInt64 (tpF u nr p))), none, none, none, none, none, none] rfl rfl trivial (Nat.le_of_ble_eq_true rfl) rfl ?_
    refine g_load rfl rfl rfl trivial ?_
    refine g_lconst (lN 0) rfl rfl ?_
    refine g_lcmp rfl ?_
    refine g_if_ne rfl (fun c2 => ?_) (fun c2 => ?_)
    · rw [show lN 0 = 0 from rfl, lcmp0] at c2
      have ho : ovL u nr p = Int32.toInt64 (ttF u nr p) := if_neg c2
      have hu : unL u nr p = Int32.toInt64 (tpF u nr p) := if_neg c2
      rw [← ho, ← hu]
      exact r_place_2 p nr h1 hn hQ
    · rw [show lN 0 = 0 from rfl, lcmp0] at c2
      have ho : ovL u nr p = lN 1 := if_pos c2
      have hu : unL u nr p = 2 := if_pos c2
      refine g_lconst (lN 1) rfl rfl ?_
      rw [← ho]
      refine g_store [some (.ref 25), some (.int p), some (.int (nI 1)), some (.long (ovL u nr p)), none, some (.long (Int32.toInt64 (tpF u nr p))), none, none, none, none, none, none] rfl rfl trivial (Nat.le_of_ble_eq_true rfl) rfl ?_
      refine g_ldc2 (2) rfl (by decide) ?_
      rw [← hu]
      refine g_store [some (.ref 25), some (.int p), some (.int (nI 1)), some (.long (ovL u nr p)), none, some (.long (unL u nr p)), none, none, none, none, none, none] rfl rfl trivial (Nat.le_of_ble_eq_true rfl) rfl ?_
      exact r_place_2 p nr h1 hn hQ
  · rw [bI_eq] at c1
    unfold pcF at hQ
    rw [c1] at hQ
    refine g_iconst (-1) rfl (by decide) ?_
    refine g_vret rfl trivial ⟨rfl, rfl⟩ (Nat.le_refl _) (Nat.le_refl _) ?_
    exact hQ
