/-! ===== the club: results read ===== -/
def rWk (u : cS) (F : Nat → Bool) (q : Nat → Bool) (i : Nat) : Prop := ∃ R, u.rR 19 i = some R ∧ u.kd R = 9 ∧ q i = F R
def sdB (u : cS) (p : Int32) (a : Nat) : Bool := decide (¬ sdF p (u.oI a 1) (u.oI a 2) = -1)
set_option maxRecDepth 20000 in
theorem c_hres_l {pr : aC} {d : Nat} {u : cS} (nr : Nat) (hk : kJ u) (hnr : u.oI 16 4 = nI nr) (hnr2 : nr ≤ 209) (p : Int32) (q : Nat → Bool) (hq : ∀ i, i < nr → rWk u (sdB u p) q i) {Q : Option Value → cS → Prop} (hQ : Q (some (.int (bI (anyN q nr)))) u) : ∀ (zz : Nat) (i : Nat) (l3 : Option Value) (hno : ∀ t, t < i → q t = false) (hm : nr - i < zz) (hle : i ≤ nr), cB pr (d + 1) cd_152 (Option.some Jvm.ClassFile.FieldType.boolean) Q 2 [some (.ref 16), some (.int p), some (.int (nI i)), l3] [] u := by
  intro zz
  induction zz with
  | zero => intro i l3 hno hm hle; exact absurd hm (by omega)
  | succ zz ih =>
    intro i l3 hno hm hle
    have hk0 := hk
    obtain ⟨k16, k17, k18, k19, k20, k21, k22, k23, k24⟩ := hk
    refine g_load rfl rfl rfl trivial ?_
    refine g_load rfl rfl rfl trivial ?_
    refine c_getf rfl (by assumption) (by decide) (by rfl) (by rfl) ?_
    rw [hnr]
    refine g_icmp_ge rfl (fun c1 => ?_) (fun c1 => ?_)
    · rw [nI_leI (by omega) (by omega)] at c1
      rw [anyN_f (fun z hz => hno z (by omega))] at hQ
      refine g_iconst (nI 0) rfl (by decide) ?_
      refine g_vret rfl trivial (by first | exact ⟨by decide, by decide⟩ | trivial) (Nat.le_refl _) (Nat.le_refl _) ?_
      exact hQ
    · rw [nI_leI (by omega) (by omega)] at c1
      obtain ⟨R, h1, h2, h3⟩ := hq i (by omega)
      refine g_load rfl rfl rfl trivial ?_
      refine g_load rfl rfl rfl trivial ?_
      refine g_virtI (a := 16) (ci := 7) (n := 1) [.int (nI i)] eF_tr rfl rfl (by decide) rfl (c_ob k16 (by decide) (by rfl)) rfl (Nat.le_of_ble_eq_true rfl) (Nat.le_refl _) (Nat.le_refl _) (c_ratt nr hk0 hnr hnr2 i R (by omega) h1 ⟨_, rfl, ?_⟩)
      refine g_store [some (.ref 16), some (.int p), some (.int (nI i)), some (.ref R)] rfl rfl trivial (Nat.le_of_ble_eq_true rfl) rfl ?_
      refine g_load rfl rfl rfl trivial ?_
      refine g_ifnull_r rfl ?_
      refine g_load rfl rfl rfl trivial ?_
      refine g_load rfl rfl rfl trivial ?_
      refine g_virtI (a := R) (ci := 5) (n := 1) [.int p] eF_tr rfl rfl (by decide) rfl (c_ob (by assumption) (by decide) (by rfl)) rfl (Nat.le_of_ble_eq_true rfl) (Nat.le_refl _) (Nat.le_refl _) (c_rside R h2 p ⟨_, rfl, ?_⟩)
      refine g_iconst (-1) rfl (by decide) ?_
      refine g_icmp_eq rfl (fun c2 => ?_) (fun c2 => ?_)
      · have hn : q i = false := by rw [h3]; unfold sdB; exact decide_eq_false (fun z => z c2)
        refine g_iinc (nI (i + 1)) [some (.ref 16), some (.int p), some (.int (nI (i + 1))), some (.ref R)] rfl rfl (nI_1 i) rfl ?_
        refine g_goto rfl ?_
        refine ih (i + 1) _ (fun t ht => ?_) (by omega) (by omega)
        by_cases e : t = i
        · subst e; exact hn
        · exact hno t (by omega)
      · have hy : q i = true := by rw [h3]; unfold sdB; exact decide_eq_true c2
        rw [anyN_t (i := i) (by omega) hy] at hQ
        refine g_iconst (nI 1) rfl (by decide) ?_
        refine g_vret rfl trivial (by first | exact ⟨by decide, by decide⟩ | trivial) (Nat.le_refl _) (Nat.le_refl _) ?_
        exact hQ
set_option maxRecDepth 20000 in
theorem c_hres {pr : aC} {d : Nat} {u : cS} (nr : Nat) (hk : kJ u) (hnr : u.oI 16 4 = nI nr) (hnr2 : nr ≤ 209) (p : Int32) (q : Nat → Bool) (hq : ∀ i, i < nr → rWk u (sdB u p) q i) {Q : Option Value → cS → Prop} (hQ : Q (some (.int (bI (anyN q nr)))) u) : cR pr (d + 1 + 1) 152 [.ref 16, .int p] u Q := by
  refine gR_of mi_152 eF_rf rfl (Nat.le_of_ble_eq_true rfl) ?_
  show cB pr (d + 1) cd_152 (Option.some Jvm.ClassFile.FieldType.boolean) Q 0 [some (.ref 16), some (.int p), none, none] [] u
  refine g_iconst (nI 0) rfl (by decide) ?_
  refine g_store [some (.ref 16), some (.int p), some (.int (nI 0)), none] rfl rfl trivial (Nat.le_of_ble_eq_true rfl) rfl ?_
  exact c_hres_l nr hk hnr hnr2 p q hq hQ (nr + 1) 0 none (fun t ht => absurd ht (by omega)) (by omega) (by omega)
set_option maxRecDepth 20000 in
theorem c_pwr_l {pr : aC} {d : Nat} {u : cS} (nr : Nat) (hk : kJ u) (hnr : u.oI 16 4 = nI nr) (hnr2 : nr ≤ 209) (q : Nat → Nat → Bool) (hq : ∀ k, k < 40 → ∀ i, i < nr → rWk u (sdB u (nI k)) (q k) i) {Q : Option Value → cS → Prop} (hQ : Q (some (.int (nI (cnt (fun k => anyN (q k) nr) 40)))) u) : ∀ (zz : Nat) (i : Nat) (hm : 40 - i < zz) (hle : i ≤ 40), cB pr (d + 2) cd_153 (Option.some Jvm.ClassFile.FieldType.int) Q 4 [some (.ref 16), some (.int (nI (cnt (fun k => anyN (q k) nr) i))), some (.int (nI i))] [] u := by
  intro zz
  induction zz with
  | zero => intro i hm hle; exact absurd hm (by omega)
  | succ zz ih =>
    intro i hm hle
    have hk0 := hk
    obtain ⟨k16, k17, k18, k19, k20, k21, k22, k23, k24⟩ := hk
    refine g_load rfl rfl rfl trivial ?_
    refine g_bipush (nI 40) rfl (by decide) ?_
    refine g_icmp_ge rfl (fun c1 => ?_) (fun c1 => ?_)
    · rw [nI_leI (by omega) (by omega)] at c1
      have e : i = 40 := by omega
      subst e
      refine g_load rfl rfl rfl trivial ?_
      refine g_vret rfl trivial ⟨rfl, rfl⟩ (Nat.le_refl _) (Nat.le_refl _) ?_
      exact hQ
    · rw [nI_leI (by omega) (by omega)] at c1
      refine g_load rfl rfl rfl trivial ?_
      refine g_load rfl rfl rfl trivial ?_
      refine g_virtI (a := 16) (ci := 7) (n := 1) [.int (nI i)] eF_tr rfl rfl (by decide) rfl (c_ob k16 (by decide) (by rfl)) rfl (Nat.le_of_ble_eq_true rfl) (Nat.le_refl _) (Nat.le_refl _) (c_hres nr hk0 hnr hnr2 (nI i) (q i) (hq i (by omega)) ⟨_, rfl, ?_⟩)
      refine g_if_eq rfl (fun c2 => ?_) (fun c2 => ?_)
      · rw [bI_eq] at c2
        have hc : cnt (fun k => anyN (q k) nr) (i + 1) = cnt (fun k => anyN (q k) nr) i := by show cnt (fun k => anyN (q k) nr) i + (if anyN (q i) nr = true then 1 else 0) = _; rw [c2]; rfl
        refine g_iinc (nI (i + 1)) [some (.ref 16), some (.int (nI (cnt (fun k => anyN (q k) nr) i))), some (.int (nI (i + 1)))] rfl rfl (nI_1 i) rfl ?_
        refine g_goto rfl ?_
        rw [← hc]
        exact ih (i + 1) (by omega) (by omega)
      · rw [bI_ne] at c2
        have hc : cnt (fun k => anyN (q k) nr) (i + 1) = cnt (fun k => anyN (q k) nr) i + 1 := by show cnt (fun k => anyN (q k) nr) i + (if anyN (q i) nr = true then 1 else 0) = _; rw [c2]; rfl
        refine g_iinc (nI (cnt (fun k => anyN (q k) nr) i + 1)) [some (.ref 16), some (.int (nI (cnt (fun k => anyN (q k) nr) i + 1))), some (.int (nI i))] rfl rfl (nI_1 _) rfl ?_
        refine g_iinc (nI (i + 1)) [some (.ref 16), some (.int (nI (cnt (fun k => anyN (q k) nr) i + 1))), some (.int (nI (i + 1)))] rfl rfl (nI_1 i) rfl ?_
        refine g_goto rfl ?_
        rw [← hc]
        exact ih (i + 1) (by omega) (by omega)
set_option maxRecDepth 20000 in
theorem c_pwr {pr : aC} {d : Nat} {u : cS} (nr : Nat) (hk : kJ u) (hnr : u.oI 16 4 = nI nr) (hnr2 : nr ≤ 209) (q : Nat → Nat → Bool) (hq : ∀ k, k < 40 → ∀ i, i < nr → rWk u (sdB u (nI k)) (q k) i) {Q : Option Value → cS → Prop} (hQ : Q (some (.int (nI (cnt (fun k => anyN (q k) nr) 40)))) u) : cR pr (d + 2 + 1) 153 [.ref 16] u Q := by
  refine gR_of mi_153 eF_rf rfl (Nat.le_of_ble_eq_true rfl) ?_
  show cB pr (d + 2) cd_153 (Option.some Jvm.ClassFile.FieldType.int) Q 0 [some (.ref 16), none, none] [] u
  refine g_iconst (nI 0) rfl (by decide) ?_
  refine g_store [some (.ref 16), some (.int (nI (cnt (fun k => anyN (q k) nr) 0))), none] rfl rfl trivial (Nat.le_of_ble_eq_true rfl) rfl ?_
  refine g_iconst (nI 0) rfl (by decide) ?_
  refine g_store [some (.ref 16), some (.int (nI (cnt (fun k => anyN (q k) nr) 0))), some (.int (nI 0))] rfl rfl trivial (Nat.le_of_ble_eq_true rfl) rfl ?_
  exact c_pwr_l nr hk hnr hnr2 q hq hQ 41 0 (by omega) (by omega)
set_option maxRecDepth 20000 in
theorem c_free_r {pr : aC} {d : Nat} {u : cS} (nr : Nat) (hk : kJ u) (hnr : u.oI 16 4 = nI nr) (hnr2 : nr ≤ 209) (x p : Int32) (q : Nat → Bool) (hq : ∀ i, i < nr → rWk u (fun R => decide (u.oI R 0 = x) && sdB u p R) q i) {Q : Option Value → cS → Prop} (hQ : Q (some (.int (bI (!(anyN q nr))))) u) : ∀ (zz : Nat) (i : Nat) (l4 : Option Value) (hno : ∀ t, t < i → q t = false) (hm : nr - i < zz) (hle : i ≤ nr), cB pr (d + 2) cd_147 (Option.some Jvm.ClassFile.FieldType.boolean) Q 24 [some (.ref 16), some (.int x), some (.int p), some (.int (nI i)), l4] [] u := by
  intro zz
  induction zz with
  | zero => intro i l4 hno hm hle; exact absurd hm (by omega)
  | succ zz ih =>
    intro i l4 hno hm hle
    have hk0 := hk
    obtain ⟨k16, k17, k18, k19, k20, k21, k22, k23, k24⟩ := hk
    refine g_load rfl rfl rfl trivial ?_
    refine g_load rfl rfl rfl trivial ?_
    refine c_getf rfl (by assumption) (by decide) (by rfl) (by rfl) ?_
    rw [hnr]
    refine g_icmp_ge rfl (fun c1 => ?_) (fun c1 => ?_)
    · rw [nI_leI (by omega) (by omega)] at c1
      rw [anyN_f (fun z hz => hno z (by omega))] at hQ
      refine g_iconst (nI 1) rfl (by decide) ?_
      refine g_vret rfl trivial (by first | exact ⟨by decide, by decide⟩ | trivial) (Nat.le_refl _) (Nat.le_refl _) ?_
      exact hQ
    · rw [nI_leI (by omega) (by omega)] at c1
      obtain ⟨R, h1, h2, h3⟩ := hq i (by omega)
      have h3 : q i = (decide (u.oI R 0 = x) && sdB u p R) := h3
      refine g_load rfl rfl rfl trivial ?_
      refine g_load rfl rfl rfl trivial ?_
      refine g_virtI (a := 16) (ci := 7) (n := 1) [.int (nI i)] eF_tr rfl rfl (by decide) rfl (c_ob k16 (by decide) (by rfl)) rfl (Nat.le_of_ble_eq_true rfl) (Nat.le_refl _) (Nat.le_refl _) (c_ratt nr hk0 hnr hnr2 i R (by omega) h1 ⟨_, rfl, ?_⟩)
      refine g_store [some (.ref 16), some (.int x), some (.int p), some (.int (nI i)), some (.ref R)] rfl rfl trivial (Nat.le_of_ble_eq_true rfl) rfl ?_
      refine g_load rfl rfl rfl trivial ?_
      refine g_ifnull_r rfl ?_
      refine g_load rfl rfl rfl trivial ?_
      refine g_virtI (a := R) (ci := 5) (n := 0) [] eF_tr rfl rfl (by decide) rfl (c_ob (by assumption) (by decide) (by rfl)) rfl (Nat.le_of_ble_eq_true rfl) (Nat.le_refl _) (Nat.le_refl _) (c_rboard R h2 ⟨_, rfl, ?_⟩)
      refine g_load rfl rfl rfl trivial ?_
      refine g_icmp_ne rfl (fun c2 => ?_) (fun c2 => ?_)
      · have hn : q i = false := by rw [h3, decide_eq_false c2]; rfl
        refine g_iinc (nI (i + 1)) [some (.ref 16), some (.int x), some (.int p), some (.int (nI (i + 1))), some (.ref R)] rfl rfl (nI_1 i) rfl ?_
        refine g_goto rfl ?_
        refine ih (i + 1) _ (fun t ht => ?_) (by omega) (by omega)
        by_cases e : t = i
        · subst e; exact hn
        · exact hno t (by omega)
      · refine g_load rfl rfl rfl trivial ?_
        refine g_load rfl rfl rfl trivial ?_
        refine g_virtI (a := R) (ci := 5) (n := 1) [.int p] eF_tr rfl rfl (by decide) rfl (c_ob (by assumption) (by decide) (by rfl)) rfl (Nat.le_of_ble_eq_true rfl) (Nat.le_refl _) (Nat.le_refl _) (c_rside R h2 p ⟨_, rfl, ?_⟩)
        refine g_iconst (-1) rfl (by decide) ?_
        refine g_icmp_eq rfl (fun c3 => ?_) (fun c3 => ?_)
        · have hn : q i = false := by rw [h3]; unfold sdB; simp [c3]
          refine g_iinc (nI (i + 1)) [some (.ref 16), some (.int x), some (.int p), some (.int (nI (i + 1))), some (.ref R)] rfl rfl (nI_1 i) rfl ?_
          refine g_goto rfl ?_
          refine ih (i + 1) _ (fun t ht => ?_) (by omega) (by omega)
          by_cases e : t = i
          · subst e; exact hn
          · exact hno t (by omega)
        · have hy : q i = true := by rw [h3]; unfold sdB; simp [*]
          rw [anyN_t (i := i) (by omega) hy] at hQ
          refine g_iconst (nI 0) rfl (by decide) ?_
          refine g_vret rfl trivial (by first | exact ⟨by decide, by decide⟩ | trivial) (Nat.le_refl _) (Nat.le_refl _) ?_
          exact hQ
set_option maxRecDepth 20000 in
theorem c_free_t {pr : aC} {d : Nat} {u : cS} (nr : Nat) (hk : kJ u) (hnr : u.oI 16 4 = nI nr) (hnr2 : nr ≤ 209) (x p : Int32) (q : Nat → Bool) (hq : ∀ i, i < nr → rWk u (fun R => decide (u.oI R 0 = x) && sdB u p R) q i) (pt : Nat → Bool) (hp : ∀ t, t < 10 → tWk u (fun T _ => sdB u p T) pt t) {Q : Option Value → cS → Prop} (hQ : Q (some (.int (bI (!(anyN pt 10) && !(anyN q nr))))) u) : ∀ (zz : Nat) (i : Nat) (l4 : Option Value) (hno : ∀ t, t < i → pt t = false) (hm : 10 - i < zz) (hle : i ≤ 10), cB pr (d + 2) cd_147 (Option.some Jvm.ClassFile.FieldType.boolean) Q 2 [some (.ref 16), some (.int x), some (.int p), some (.int (nI i)), l4] [] u := by
  intro zz
  induction zz with
  | zero => intro i l4 hno hm hle; exact absurd hm (by omega)
  | succ zz ih =>
    intro i l4 hno hm hle
    have hk0 := hk
    obtain ⟨k16, k17, k18, k19, k20, k21, k22, k23, k24⟩ := hk
    refine g_load rfl rfl rfl trivial ?_
    refine g_load rfl rfl rfl trivial ?_
    refine c_getf rfl (by assumption) (by decide) (by rfl) (by rfl) ?_
    refine c_len rfl (by assumption) (by decide) (by rfl) (by decide) ?_
    refine g_icmp_ge rfl (fun c1 => ?_) (fun c1 => ?_)
    · rw [nI_leI (by omega) (by omega)] at c1
      have e : i = 10 := by omega
      subst e
      rw [anyN_f (p := pt) (fun z hz => hno z (by omega))] at hQ
      refine g_iconst (nI 0) rfl (by decide) ?_
      refine g_store [some (.ref 16), some (.int x), some (.int p), some (.int (nI 0)), l4] rfl rfl trivial (Nat.le_of_ble_eq_true rfl) rfl ?_
      exact c_free_r nr hk0 hnr hnr2 x p q hq hQ (nr + 1) 0 _ (fun t ht => absurd ht (by omega)) (by omega) (by omega)
    · rw [nI_leI (by omega) (by omega)] at c1
      refine g_load rfl rfl rfl trivial ?_
      refine g_load rfl rfl rfl trivial ?_
      rcases hp i (by omega) with ⟨h1, h2⟩ | ⟨T, B, n, m, h1, h2, h3⟩
      · refine g_virtI (a := 16) (ci := 7) (n := 1) [.int (nI i)] eF_tr rfl rfl (by decide) rfl (c_ob k16 (by decide) (by rfl)) rfl (Nat.le_of_ble_eq_true rfl) (Nat.le_refl _) (Nat.le_refl _) (c_busy_i hk0 i (by omega) h1 ⟨_, rfl, ?_⟩)
        have hn := h2
        refine g_store [some (.ref 16), some (.int x), some (.int p), some (.int (nI i)), some .null] rfl rfl trivial (Nat.le_of_ble_eq_true rfl) rfl ?_
        refine g_load rfl rfl rfl trivial ?_
        refine g_ifnull_n rfl ?_
        refine g_iinc (nI (i + 1)) [some (.ref 16), some (.int x), some (.int p), some (.int (nI (i + 1))), some (.null)] rfl rfl (nI_1 i) rfl ?_
        refine g_goto rfl ?_
        refine ih (i + 1) _ (fun t ht => ?_) (by omega) (by omega)
        by_cases e : t = i
        · subst e; exact hn
        · exact hno t (by omega)
      · refine g_virtI (a := 16) (ci := 7) (n := 1) [.int (nI i)] eF_tr rfl rfl (by decide) rfl (c_ob k16 (by decide) (by rfl)) rfl (Nat.le_of_ble_eq_true rfl) (Nat.le_refl _) (Nat.le_refl _) (c_busy hk0 i T B n m (by omega) h1 h2 ⟨_, rfl, ?_⟩)
        refine g_store [some (.ref 16), some (.int x), some (.int p), some (.int (nI i)), some (.ref T)] rfl rfl trivial (Nat.le_of_ble_eq_true rfl) rfl ?_
        refine g_load rfl rfl rfl trivial ?_
        refine g_ifnull_r rfl ?_
        refine g_load rfl rfl rfl trivial ?_
        refine g_load rfl rfl rfl trivial ?_
        refine g_virtI (a := T) (ci := 6) (n := 1) [.int p] eF_tr rfl rfl (by decide) rfl (c_ob h2.1 (by decide) (by rfl)) rfl (Nat.le_of_ble_eq_true rfl) (Nat.le_refl _) (Nat.le_refl _) (c_tside T h2.1 p ⟨_, rfl, ?_⟩)
        refine g_iconst (-1) rfl (by decide) ?_
        refine g_icmp_eq rfl (fun c2 => ?_) (fun c2 => ?_)
        · have hn : pt i = false := by rw [h3]; unfold sdB; exact decide_eq_false (fun z => z c2)
          refine g_iinc (nI (i + 1)) [some (.ref 16), some (.int x), some (.int p), some (.int (nI (i + 1))), some (.ref T)] rfl rfl (nI_1 i) rfl ?_
          refine g_goto rfl ?_
          refine ih (i + 1) _ (fun t ht => ?_) (by omega) (by omega)
          by_cases e : t = i
          · subst e; exact hn
          · exact hno t (by omega)
        · have hy : pt i = true := by rw [h3]; unfold sdB; exact decide_eq_true c2
          rw [anyN_t (p := pt) (i := i) (by omega) hy] at hQ
          refine g_iconst (nI 0) rfl (by decide) ?_
          refine g_vret rfl trivial (by first | exact ⟨by decide, by decide⟩ | trivial) (Nat.le_refl _) (Nat.le_refl _) ?_
          exact hQ
set_option maxRecDepth 20000 in
theorem c_free {pr : aC} {d : Nat} {u : cS} (nr : Nat) (hk : kJ u) (hnr : u.oI 16 4 = nI nr) (hnr2 : nr ≤ 209) (x p : Int32) (q : Nat → Bool) (hq : ∀ i, i < nr → rWk u (fun R => decide (u.oI R 0 = x) && sdB u p R) q i) (pt : Nat → Bool) (hp : ∀ t, t < 10 → tWk u (fun T _ => sdB u p T) pt t) {Q : Option Value → cS → Prop} (hQ : Q (some (.int (bI (!(anyN pt 10) && !(anyN q nr))))) u) : cR pr (d + 2 + 1) 147 [.ref 16, .int x, .int p] u Q := by
  refine gR_of mi_147 eF_rf rfl (Nat.le_of_ble_eq_true rfl) ?_
  show cB pr (d + 2) cd_147 (Option.some Jvm.ClassFile.FieldType.boolean) Q 0 [some (.ref 16), some (.int x), some (.int p), none, none] [] u
  refine g_iconst (nI 0) rfl (by decide) ?_
  refine g_store [some (.ref 16), some (.int x), some (.int p), some (.int (nI 0)), none] rfl rfl trivial (Nat.le_of_ble_eq_true rfl) rfl ?_
  exact c_free_t nr hk hnr hnr2 x p q hq pt hp hQ 11 0 none (fun t ht => absurd ht (by omega)) (by omega) (by omega)
set_option maxRecDepth 20000 in
theorem c_mostOf {pr : aC} {d : Nat} {u : cS} (nb : Nat) (hk : kJ u) (hnb : u.oI 16 1 = nI nb) (hnb2 : nb ≤ 36) (R bd B : Nat) (kR : u.kd R = 9) (hR : u.oI R 0 = nI (bd + 1)) (hbd : bd < nb) (hB : u.rR 17 bd = some B) (kB : u.kd B = 1) {Q : Option Value → cS → Prop} (hQ : Q (some (.int (nI 20 * (u.oI B 3 - nI 1)))) u) : cR pr (d + 1 + 1) 149 [.ref 16, .ref R] u Q := by
  refine gR_of mi_149 eF_rf rfl (Nat.le_of_ble_eq_true rfl) ?_
  show cB pr (d + 1) cd_149 (Option.some Jvm.ClassFile.FieldType.int) Q 0 [some (.ref 16), some (.ref R), none] [] u
  have hk0 := hk
  obtain ⟨k16, k17, k18, k19, k20, k21, k22, k23, k24⟩ := hk
  refine g_load rfl rfl rfl trivial ?_
  refine g_load rfl rfl rfl trivial ?_
  refine g_virtI (a := R) (ci := 5) (n := 0) [] eF_tr rfl rfl (by decide) rfl (c_ob (by assumption) (by decide) (by rfl)) rfl (Nat.le_of_ble_eq_true rfl) (Nat.le_refl _) (Nat.le_refl _) (c_rboard R kR ⟨_, rfl, ?_⟩)
  rw [hR]
  refine g_virtI (a := 16) (ci := 7) (n := 1) [.int (nI (bd + 1))] eF_tr rfl rfl (by decide) rfl (c_ob k16 (by decide) (by rfl)) rfl (Nat.le_of_ble_eq_true rfl) (Nat.le_refl _) (Nat.le_refl _) (c_bnum nb hk0 hnb hnb2 bd B hbd hB ⟨_, rfl, ?_⟩)
  refine g_store [some (.ref 16), some (.ref R), some (.ref B)] rfl rfl trivial (Nat.le_of_ble_eq_true rfl) rfl ?_
  refine g_load rfl rfl rfl trivial ?_
  refine g_ifnonnull_r rfl ?_
  refine g_bipush (nI 20) rfl (by decide) ?_
  refine g_load rfl rfl rfl trivial ?_
  refine g_virtI (a := B) (ci := 2) (n := 0) [] eF_tr rfl rfl (by decide) rfl (c_ob (by assumption) (by decide) (by rfl)) rfl (Nat.le_of_ble_eq_true rfl) (Nat.le_refl _) (Nat.le_refl _) (c_resultsSoFar B kB ⟨_, rfl, ?_⟩)
  refine g_iconst (nI 1) rfl (by decide) ?_
  refine g_isub rfl ?_
  refine g_imul rfl ?_
  refine g_vret rfl trivial ⟨rfl, rfl⟩ (Nat.le_refl _) (Nat.le_refl _) ?_
  exact hQ
def pgF (x : Bool) (a b : Int32) : Nat := if x = true ∨ a = b then 10 else if a < b then 20 else 0
set_option maxRecDepth 20000 in
theorem c_pag {pr : aC} {d : Nat} {u : cS} (R O : Nat) (kR : u.kd R = 9) (kO : u.kd O = 9) (x : Bool) (hx : u.oI O 9 = bI x) {Q : Option Value → cS → Prop} (hQ : Q (some (.int (nI (pgF x (u.oI O 8) (u.oI R 8))))) u) : cR pr (d + 1 + 1) 151 [.ref R, .ref O] u Q := by
  refine gR_of mi_151 eF_rf rfl (Nat.le_of_ble_eq_true rfl) ?_
  show cB pr (d + 1) cd_151 (Option.some Jvm.ClassFile.FieldType.int) Q 0 [some (.ref R), some (.ref O)] [] u
  refine g_load rfl rfl rfl trivial ?_
  refine g_virtI (a := O) (ci := 5) (n := 0) [] eF_tr rfl rfl (by decide) rfl (c_ob (by assumption) (by decide) (by rfl)) rfl (Nat.le_of_ble_eq_true rfl) (Nat.le_refl _) (Nat.le_refl _) (c_radj O kO x hx ⟨_, rfl, ?_⟩)
  refine g_if_ne rfl (fun c1 => ?_) (fun c1 => ?_)
  · rw [bI_ne] at c1
    rw [show pgF x (u.oI O 8) (u.oI R 8) = 10 from if_pos (Or.inl c1)] at hQ
    refine g_bipush (nI 10) rfl (by decide) ?_
    refine g_vret rfl trivial ⟨rfl, rfl⟩ (Nat.le_refl _) (Nat.le_refl _) ?_
    exact hQ
  · rw [bI_eq] at c1
    refine g_load rfl rfl rfl trivial ?_
    refine g_virtI (a := O) (ci := 5) (n := 0) [] eF_tr rfl rfl (by decide) rfl (c_ob (by assumption) (by decide) (by rfl)) rfl (Nat.le_of_ble_eq_true rfl) (Nat.le_refl _) (Nat.le_refl _) (c_rscore O kO ⟨_, rfl, ?_⟩)
    refine g_load rfl rfl rfl trivial ?_
    refine g_virtI (a := R) (ci := 5) (n := 0) [] eF_tr rfl rfl (by decide) rfl (c_ob (by assumption) (by decide) (by rfl)) rfl (Nat.le_of_ble_eq_true rfl) (Nat.le_refl _) (Nat.le_refl _) (c_rscore R kR ⟨_, rfl, ?_⟩)
    refine g_icmp_ne rfl (fun c2 => ?_) (fun c2 => ?_)
    · unfold pgF at hQ
      rw [if_neg (fun z => by rcases z with z | z; (rw [z] at c1; cases c1); exact c2 z)] at hQ
      refine g_load rfl rfl rfl trivial ?_
      refine g_virtI (a := O) (ci := 5) (n := 0) [] eF_tr rfl rfl (by decide) rfl (c_ob (by assumption) (by decide) (by rfl)) rfl (Nat.le_of_ble_eq_true rfl) (Nat.le_refl _) (Nat.le_refl _) (c_rscore O kO ⟨_, rfl, ?_⟩)
      refine g_load rfl rfl rfl trivial ?_
      refine g_virtI (a := R) (ci := 5) (n := 0) [] eF_tr rfl rfl (by decide) rfl (c_ob (by assumption) (by decide) (by rfl)) rfl (Nat.le_of_ble_eq_true rfl) (Nat.le_refl _) (Nat.le_refl _) (c_rscore R kR ⟨_, rfl, ?_⟩)
      refine g_icmp_ge rfl (fun c3 => ?_) (fun c3 => ?_)
      · rw [if_neg (Int32.not_lt.mpr c3)] at hQ
        refine g_iconst (nI 0) rfl (by decide) ?_
        refine g_vret rfl trivial ⟨rfl, rfl⟩ (Nat.le_refl _) (Nat.le_refl _) ?_
        exact hQ
      · rw [if_pos (Int32.not_le.mp c3)] at hQ
        refine g_bipush (nI 20) rfl (by decide) ?_
        refine g_goto rfl ?_
        refine g_vret rfl trivial ⟨rfl, rfl⟩ (Nat.le_refl _) (Nat.le_refl _) ?_
        exact hQ
    · rw [show pgF x (u.oI O 8) (u.oI R 8) = 10 from if_pos (Or.inr c2)] at hQ
      refine g_bipush (nI 10) rfl (by decide) ?_
      refine g_vret rfl trivial ⟨rfl, rfl⟩ (Nat.le_refl _) (Nat.le_refl _) ?_
      exact hQ
