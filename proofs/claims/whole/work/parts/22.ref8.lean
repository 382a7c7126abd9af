/-! ===== the reference: results ===== -/
theorem sw_of {x : Int32} {n : Nat} (h : ¬ (x.toInt < 0 ∨ (n : Int) < x.toInt)) : ∃ k : Nat, k ≤ n ∧ x = nI k := by
  obtain ⟨j, hj, rfl⟩ := nI_of (x := x) (by rw [Int32.lt_iff_toInt_lt, show (0 : Int32).toInt = 0 by decide]; omega)
  rw [nI_toInt hj] at h
  exact ⟨j, by omega, rfl⟩
theorem sw_ne {x : Int32} {n k : Nat} (h : x.toInt < 0 ∨ (n : Int) < x.toInt) (hk : k ≤ n) (hn : n < 2 ^ 31) : ¬ x = nI k := by
  intro e
  rw [e, nI_toInt (by omega)] at h
  omega
def irF (nr : Nat) (i : Int32) : Bool := inF i 0 (pI nr)
def rsF (u : rS) (nr : Nat) (i w : Int32) : Int32 := if irF nr i then
    (if w = nI 0 then u.2 35 i.toNatClampNeg else if w = nI 1 then u.2 36 (2 * i.toNatClampNeg) else if w = nI 2 then u.2 36 (2 * i.toNatClampNeg + 1) else if w = nI 3 then u.2 37 i.toNatClampNeg else if w = nI 4 then u.2 38 i.toNatClampNeg else if w = nI 5 then u.2 39 i.toNatClampNeg else if w = nI 6 then u.2 40 i.toNatClampNeg else if w = nI 7 then u.2 41 i.toNatClampNeg else if w = nI 8 then u.2 42 i.toNatClampNeg else if w = nI 9 then (if u.2 44 i.toNatClampNeg = 0 then 0 else 1) else -1)
  else if w = nI 8 then -2147483648 else -1
set_option maxRecDepth 20000 in
theorem r_isResult {pr : aC} {d : Nat} {u : rS} (i : Int32) (nr : Nat) (h1 : u.1 1 = nI nr) (hn : nr ≤ 220) {Q : Option Value → rS → Prop} (hQ : Q (some (.int (bI (irF nr i)))) u) : rR pr (d + 1 + 1) 212 [.ref 25, .int i] u Q := by
  refine gR_of mi_212 rFr_rf rfl (Nat.le_of_ble_eq_true rfl) ?_
  show rB pr (d + 1) cd_212 (Option.some Jvm.ClassFile.FieldType.boolean) Q 0 [some (.ref 25), some (.int i)] [] u
  refine g_load rfl rfl rfl trivial ?_
  refine g_iconst (nI 0) rfl (by decide) ?_
  refine g_load rfl rfl rfl trivial ?_
  refine r_getf rfl rfl ?_
  refine g_iconst (nI 1) rfl (by decide) ?_
  refine g_isub rfl ?_
  rw [h1, pI_eq]
  refine g_statI [.int i, .int (nI 0), .int (pI nr)] rFr_tr rfl rfl rfl (Nat.le_of_ble_eq_true rfl) (Nat.le_refl _) (Nat.le_refl _) (r_in i 0 (pI nr) ⟨_, rfl, ?_⟩)
  exact g_vret rfl trivial (bI_rt _) (Nat.le_refl _) (Nat.le_refl _) hQ
set_option maxRecDepth 40000 in
set_option maxRecDepth 20000 in
theorem r_result {pr : aC} {d : Nat} {u : rS} (i w : Int32) (nr : Nat) (h1 : u.1 1 = nI nr) (hn : nr ≤ 220) {Q : Option Value → rS → Prop} (hQ : Q (some (.int (rsF u nr i w))) u) : rR pr (d + 2 + 1) 213 [.ref 25, .int i, .int w] u Q := by
  refine gR_of mi_213 rFr_rf rfl (Nat.le_of_ble_eq_true rfl) ?_
  show rB pr (d + 2) cd_213 (Option.some Jvm.ClassFile.FieldType.int) Q 0 [some (.ref 25), some (.int i), some (.int w)] [] u
  refine g_load rfl rfl rfl trivial ?_
  refine g_load rfl rfl rfl trivial ?_
  refine g_virtI (a := 25) (ci := 8) (n := 1) [.int i] rFr_tr rfl rfl (by decide) rfl r_this rfl (Nat.le_of_ble_eq_true rfl) (Nat.le_refl _) (Nat.le_refl _) (r_isResult i nr h1 hn ⟨_, rfl, ?_⟩)
  refine g_if_ne rfl (fun c1 => ?_) (fun c1 => ?_)
  · rw [bI_ne] at c1
    obtain ⟨i', hi, rfl⟩ := in_pI c1 (by omega)
    refine g_load rfl rfl rfl trivial ?_
    by_cases hsw : w.toInt < 0 ∨ 9 < w.toInt
    · refine g_tabOut 73 rfl hsw rfl ?_
      have hs := fun k (hk : k ≤ 9) => sw_ne (k := k) hsw hk (by decide)
      rw [show rsF u nr (nI i') w = -1 by unfold rsF; rw [c1, if_pos rfl, if_neg (hs 0 (by omega)), if_neg (hs 1 (by omega)), if_neg (hs 2 (by omega)), if_neg (hs 3 (by omega)), if_neg (hs 4 (by omega)), if_neg (hs 5 (by omega)), if_neg (hs 6 (by omega)), if_neg (hs 7 (by omega)), if_neg (hs 8 (by omega)), if_neg (hs 9 (by omega))]] at hQ
      refine g_iconst (-1) rfl (by decide) ?_
      refine g_vret rfl trivial ⟨rfl, rfl⟩ (Nat.le_refl _) (Nat.le_refl _) ?_
      exact hQ
    obtain ⟨ksw, hk, rfl⟩ := sw_of (x := w) (n := 9) hsw
    rcases (show ksw = 0 ∨ ksw = 1 ∨ ksw = 2 ∨ ksw = 3 ∨ ksw = 4 ∨ ksw = 5 ∨ ksw = 6 ∨ ksw = 7 ∨ ksw = 8 ∨ ksw = 9 by omega) with rfl | rfl | rfl | rfl | rfl | rfl | rfl | rfl | rfl | rfl
    · refine g_tabIn (54) 13 rfl (by decide) (by decide) rfl rfl ?_
      rw [show rsF u nr (nI i') (nI 0) = u.2 35 i' by unfold rsF; rw [c1, nI_clamp (by omega)]; rfl] at hQ
      refine g_load rfl rfl rfl trivial ?_
      refine r_getf rfl rfl ?_
      refine g_load rfl rfl rfl trivial ?_
      refine r_ia (i') rfl ⟨by decide, by decide, rfl⟩ rfl (by show _ < 220; omega) ?_
      refine g_vret rfl trivial ⟨rfl, rfl⟩ (Nat.le_refl _) (Nat.le_refl _) ?_
      exact hQ
    · refine g_tabIn (61) 18 rfl (by decide) (by decide) rfl rfl ?_
      rw [show rsF u nr (nI i') (nI 1) = u.2 36 (2 * i') by unfold rsF; rw [c1, nI_clamp (by omega)]; rfl] at hQ
      refine g_load rfl rfl rfl trivial ?_
      refine r_getf rfl rfl ?_
      refine g_iconst (nI 2) rfl (by decide) ?_
      refine g_load rfl rfl rfl trivial ?_
      refine g_imul rfl ?_
      refine r_ia (2 * i') rfl ⟨by decide, by decide, rfl⟩ (pk_mul 2 i') (by show _ < 440; omega) ?_
      refine g_vret rfl trivial ⟨rfl, rfl⟩ (Nat.le_refl _) (Nat.le_refl _) ?_
      exact hQ
    · refine g_tabIn (70) 25 rfl (by decide) (by decide) rfl rfl ?_
      rw [show rsF u nr (nI i') (nI 2) = u.2 36 (2 * i' + 1) by unfold rsF; rw [c1, nI_clamp (by omega)]; rfl] at hQ
      refine g_load rfl rfl rfl trivial ?_
      refine r_getf rfl rfl ?_
      refine g_iconst (nI 2) rfl (by decide) ?_
      refine g_load rfl rfl rfl trivial ?_
      refine g_imul rfl ?_
      refine g_iconst (nI 1) rfl (by decide) ?_
      refine g_iadd rfl ?_
      refine r_ia (2 * i' + 1) rfl ⟨by decide, by decide, rfl⟩ (by rw [pk_mul, nI_add]) (by show _ < 440; omega) ?_
      refine g_vret rfl trivial ⟨rfl, rfl⟩ (Nat.le_refl _) (Nat.le_refl _) ?_
      exact hQ
    · refine g_tabIn (81) 34 rfl (by decide) (by decide) rfl rfl ?_
      rw [show rsF u nr (nI i') (nI 3) = u.2 37 i' by unfold rsF; rw [c1, nI_clamp (by omega)]; rfl] at hQ
      refine g_load rfl rfl rfl trivial ?_
      refine r_getf rfl rfl ?_
      refine g_load rfl rfl rfl trivial ?_
      refine r_ia (i') rfl ⟨by decide, by decide, rfl⟩ rfl (by show _ < 220; omega) ?_
      refine g_vret rfl trivial ⟨rfl, rfl⟩ (Nat.le_refl _) (Nat.le_refl _) ?_
      exact hQ
    · refine g_tabIn (88) 39 rfl (by decide) (by decide) rfl rfl ?_
      rw [show rsF u nr (nI i') (nI 4) = u.2 38 i' by unfold rsF; rw [c1, nI_clamp (by omega)]; rfl] at hQ
      refine g_load rfl rfl rfl trivial ?_
      refine r_getf rfl rfl ?_
      refine g_load rfl rfl rfl trivial ?_
      refine r_ia (i') rfl ⟨by decide, by decide, rfl⟩ rfl (by show _ < 220; omega) ?_
      refine g_vret rfl trivial ⟨rfl, rfl⟩ (Nat.le_refl _) (Nat.le_refl _) ?_
      exact hQ
    · refine g_tabIn (95) 44 rfl (by decide) (by decide) rfl rfl ?_
      rw [show rsF u nr (nI i') (nI 5) = u.2 39 i' by unfold rsF; rw [c1, nI_clamp (by omega)]; rfl] at hQ
      refine g_load rfl rfl rfl trivial ?_
      refine r_getf rfl rfl ?_
      refine g_load rfl rfl rfl trivial ?_
      refine r_ia (i') rfl ⟨by decide, by decide, rfl⟩ rfl (by show _ < 220; omega) ?_
      refine g_vret rfl trivial ⟨rfl, rfl⟩ (Nat.le_refl _) (Nat.le_refl _) ?_
      exact hQ
    · refine g_tabIn (102) 49 rfl (by decide) (by decide) rfl rfl ?_
      rw [show rsF u nr (nI i') (nI 6) = u.2 40 i' by unfold rsF; rw [c1, nI_clamp (by omega)]; rfl] at hQ
      refine g_load rfl rfl rfl trivial ?_
      refine r_getf rfl rfl ?_
      refine g_load rfl rfl rfl trivial ?_
      refine r_ia (i') rfl ⟨by decide, by decide, rfl⟩ rfl (by show _ < 220; omega) ?_
      refine g_vret rfl trivial ⟨rfl, rfl⟩ (Nat.le_refl _) (Nat.le_refl _) ?_
      exact hQ
    · refine g_tabIn (109) 54 rfl (by decide) (by decide) rfl rfl ?_
      rw [show rsF u nr (nI i') (nI 7) = u.2 41 i' by unfold rsF; rw [c1, nI_clamp (by omega)]; rfl] at hQ
      refine g_load rfl rfl rfl trivial ?_
      refine r_getf rfl rfl ?_
      refine g_load rfl rfl rfl trivial ?_
      refine r_ia (i') rfl ⟨by decide, by decide, rfl⟩ rfl (by show _ < 220; omega) ?_
      refine g_vret rfl trivial ⟨rfl, rfl⟩ (Nat.le_refl _) (Nat.le_refl _) ?_
      exact hQ
    · refine g_tabIn (116) 59 rfl (by decide) (by decide) rfl rfl ?_
      rw [show rsF u nr (nI i') (nI 8) = u.2 42 i' by unfold rsF; rw [c1, nI_clamp (by omega)]; rfl] at hQ
      refine g_load rfl rfl rfl trivial ?_
      refine r_getf rfl rfl ?_
      refine g_load rfl rfl rfl trivial ?_
      refine r_ia (i') rfl ⟨by decide, by decide, rfl⟩ rfl (by show _ < 220; omega) ?_
      refine g_vret rfl trivial ⟨rfl, rfl⟩ (Nat.le_refl _) (Nat.le_refl _) ?_
      exact hQ
    · refine g_tabIn (123) 64 rfl (by decide) (by decide) rfl rfl ?_
      rw [show rsF u nr (nI i') (nI 9) = (if u.2 44 i' = 0 then 0 else 1) by unfold rsF; rw [c1, nI_clamp (by omega)]; rfl] at hQ
      refine g_load rfl rfl rfl trivial ?_
      refine r_getf rfl rfl ?_
      refine g_load rfl rfl rfl trivial ?_
      refine r_za (i') rfl ⟨by decide, by decide, rfl⟩ rfl (by show _ < 220; omega) ?_
      refine g_if_eq rfl (fun c2 => ?_) (fun c2 => ?_)
      · rw [if_pos c2] at hQ
        refine g_iconst (nI 0) rfl (by decide) ?_
        refine g_vret rfl trivial ⟨rfl, rfl⟩ (Nat.le_refl _) (Nat.le_refl _) ?_
        exact hQ
      · rw [if_neg c2] at hQ
        refine g_iconst (nI 1) rfl (by decide) ?_
        refine g_goto rfl ?_
        refine g_vret rfl trivial ⟨rfl, rfl⟩ (Nat.le_refl _) (Nat.le_refl _) ?_
        exact hQ
  · rw [bI_eq] at c1
    refine g_load rfl rfl rfl trivial ?_
    refine g_bipush (nI 8) rfl (by decide) ?_
    refine g_icmp_ne rfl (fun c3 => ?_) (fun c3 => ?_)
    · rw [show rsF u nr i w = -1 by unfold rsF; rw [c1]; simp only [Bool.false_eq_true, if_false]; rw [if_neg c3]] at hQ
      refine g_iconst (-1) rfl (by decide) ?_
      refine g_vret rfl trivial ⟨rfl, rfl⟩ (Nat.le_refl _) (Nat.le_refl _) ?_
      exact hQ
    · rw [show rsF u nr i w = -2147483648 by unfold rsF; rw [c1]; simp only [Bool.false_eq_true, if_false]; rw [if_pos c3]] at hQ
      refine g_ldc (-2147483648) rfl ⟨_, Or.inl rfl⟩ (by decide) ?_
      refine g_goto rfl ?_
      refine g_vret rfl trivial ⟨rfl, rfl⟩ (Nat.le_refl _) (Nat.le_refl _) ?_
      exact hQ
def adF (nr : Nat) (i a b : Int32) : Bool := irF nr i && (inF a 0 100 && inF b 0 100)
def uAdj (u : rS) (i : Nat) (a b : Int32) : rS := (u.1, rU (rU (rU u.2 44 i 1) 43 (2 * i) a) 43 (2 * i + 1) b)
set_option maxRecDepth 20000 in
theorem r_adjust {pr : aC} {d : Nat} {u : rS} (i a b : Int32) (nr : Nat) (h1 : u.1 1 = nI nr) (hn : nr ≤ 220) {Q : Option Value → rS → Prop} (hF : adF nr i a b = false → Q (some (.int 0)) u) (hT : adF nr i a b = true → ∀ i', i' < nr → i = nI i' → Q (some (.int 1)) (uAdj u i' a b)) : rR pr (d + 2 + 1) 214 [.ref 25, .int i, .int a, .int b] u Q := by
  refine gR_of mi_214 rFr_rf rfl (Nat.le_of_ble_eq_true rfl) ?_
  show rB pr (d + 2) cd_214 (Option.some Jvm.ClassFile.FieldType.boolean) Q 0 [some (.ref 25), some (.int i), some (.int a), some (.int b)] [] u
  refine g_load rfl rfl rfl trivial ?_
  refine g_load rfl rfl rfl trivial ?_
  refine g_virtI (a := 25) (ci := 8) (n := 1) [.int i] rFr_tr rfl rfl (by decide) rfl r_this rfl (Nat.le_of_ble_eq_true rfl) (Nat.le_refl _) (Nat.le_refl _) (r_isResult i nr h1 hn ⟨_, rfl, ?_⟩)
  refine g_if_eq rfl (fun c1 => ?_) (fun c1 => ?_)
  · rw [bI_eq] at c1
    have hQ := hF (by simp [adF, *])
    refine g_iconst (nI 0) rfl (by decide) ?_
    refine g_vret rfl trivial (by first | exact ⟨by decide, by decide⟩ | trivial) (Nat.le_refl _) (Nat.le_refl _) ?_
    exact hQ
  · rw [bI_ne] at c1
    refine g_load rfl rfl rfl trivial ?_
    refine g_iconst (nI 0) rfl (by decide) ?_
    refine g_bipush (nI 100) rfl (by decide) ?_
    refine g_statI [.int a, .int (nI 0), .int (nI 100)] rFr_tr rfl rfl rfl (Nat.le_of_ble_eq_true rfl) (Nat.le_refl _) (Nat.le_refl _) (r_in a 0 100 ⟨_, rfl, ?_⟩)
    refine g_if_eq rfl (fun c2 => ?_) (fun c2 => ?_)
    · rw [bI_eq] at c2
      have hQ := hF (by simp [adF, *])
      refine g_iconst (nI 0) rfl (by decide) ?_
      refine g_vret rfl trivial (by first | exact ⟨by decide, by decide⟩ | trivial) (Nat.le_refl _) (Nat.le_refl _) ?_
      exact hQ
    · rw [bI_ne] at c2
      refine g_load rfl rfl rfl trivial ?_
      refine g_iconst (nI 0) rfl (by decide) ?_
      refine g_bipush (nI 100) rfl (by decide) ?_
      refine g_statI [.int b, .int (nI 0), .int (nI 100)] rFr_tr rfl rfl rfl (Nat.le_of_ble_eq_true rfl) (Nat.le_refl _) (Nat.le_refl _) (r_in b 0 100 ⟨_, rfl, ?_⟩)
      refine g_if_ne rfl (fun c3 => ?_) (fun c3 => ?_)
      · rw [bI_ne] at c3
        obtain ⟨i', hi, rfl⟩ := in_pI c1 (by omega)
        have hQ := hT (by simp [adF, *]) i' hi rfl
        refine g_load rfl rfl rfl trivial ?_
        refine r_getf rfl rfl ?_
        refine g_load rfl rfl rfl trivial ?_
        refine g_iconst (nI 1) rfl (by decide) ?_
        refine r_zas (i') rfl ⟨by decide, by decide, rfl⟩ rfl (by show _ < 220; omega) ?_
        refine g_load rfl rfl rfl trivial ?_
        refine r_getf rfl rfl ?_
        refine g_iconst (nI 2) rfl (by decide) ?_
        refine g_load rfl rfl rfl trivial ?_
        refine g_imul rfl ?_
        refine g_load rfl rfl rfl trivial ?_
        refine r_ias (2 * i') rfl ⟨by decide, by decide, rfl⟩ (pk_mul 2 i') (by show _ < 440; omega) ?_
        refine g_load rfl rfl rfl trivial ?_
        refine r_getf rfl rfl ?_
        refine g_iconst (nI 2) rfl (by decide) ?_
        refine g_load rfl rfl rfl trivial ?_
        refine g_imul rfl ?_
        refine g_iconst (nI 1) rfl (by decide) ?_
        refine g_iadd rfl ?_
        refine g_load rfl rfl rfl trivial ?_
        refine r_ias (2 * i' + 1) rfl ⟨by decide, by decide, rfl⟩ (by rw [pk_mul, nI_add]) (by show _ < 440; omega) ?_
        refine g_iconst (nI 1) rfl (by decide) ?_
        refine g_vret rfl trivial (by first | exact ⟨by decide, by decide⟩ | trivial) (Nat.le_refl _) (Nat.le_refl _) ?_
        exact hQ
      · rw [bI_eq] at c3
        have hQ := hF (by simp [adF, *])
        refine g_iconst (nI 0) rfl (by decide) ?_
        refine g_vret rfl trivial (by first | exact ⟨by decide, by decide⟩ | trivial) (Nat.le_refl _) (Nat.le_refl _) ?_
        exact hQ
/-- how many results the board of result i has; what each other result gives; the points -/
def rcF (u : rS) (nr i : Nat) : Nat := cnt (fun k => decide (u.2 35 k = u.2 35 i)) nr
def pqF (u : rS) (i k : Nat) : Nat := if k = i ∨ ¬ u.2 35 k = u.2 35 i then 0 else if ¬ u.2 44 k = 0 ∨ u.2 42 k = u.2 42 i then 10 else if u.2 42 k < u.2 42 i then 20 else 0
def nsum (q : Nat → Nat) : Nat → Nat
  | 0 => 0
  | n + 1 => nsum q n + q n
theorem nsum_le {q : Nat → Nat} {b : Nat} (h : ∀ k, q k ≤ b) : ∀ n, nsum q n ≤ b * n
  | 0 => Nat.le_refl 0
  | n + 1 => by
    have := nsum_le h n
    have := h n
    unfold nsum
    rw [Nat.mul_succ]; omega
theorem pqF_le (u : rS) (i k : Nat) : pqF u i k ≤ 20 := by unfold pqF; split <;> (try split) <;> (try split) <;> omega
def alN (u : rS) (nr i : Nat) : Int32 := nI 20 * (nI (rcF u nr i) - nI 1)
def ptF (u : rS) (nr i s : Nat) : Int32 := if u.2 44 i = 0 then (if s = 0 then nI (nsum (pqF u i) nr) else alN u nr i - nI (nsum (pqF u i) nr)) else alN u nr i * u.2 43 (2 * i + s) / nI 100
