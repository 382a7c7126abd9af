/-! ===== the text of a result ===== -/
/-- more or less tricks than bid -/
def mrS (lv tk : Nat) : Nat := if tk = lv + 6 then 61 else if lv + 6 < tk then 43 else 45
def mrN (lv tk : Nat) : Nat := if lv + 6 ≤ tk then tk - (lv + 6) else lv + 6 - tk
def txE (lv tk : Nat) : List Nat := if mrN lv tk = 0 then [] else dgs (mrN lv tk)
def txL (lv sr dc db tk : Nat) : List Nat := (((([48 + lv, sgS sr] ++ List.replicate db 88) ++ [32]) ++ [sgD dc]) ++ [32]) ++ [mrS lv tk] ++ txE lv tk
theorem sgS_c : ∀ i, i < 5 → sgS i < 128 := by decide
theorem sgD_c : ∀ i, i < 4 → sgD i < 128 := by decide
theorem mr_a : ∀ lv, lv < 8 → ∀ tk, tk < 14 → (nI tk - (nI lv + nI 6) = 0 ↔ tk = lv + 6) ∧ (0 < nI tk - (nI lv + nI 6) ↔ lv + 6 < tk) ∧ (if nI tk - (nI lv + nI 6) < 0 then -(nI tk - (nI lv + nI 6)) else nI tk - (nI lv + nI 6)) = nI (mrN lv tk) := by decide +kernel
theorem mr_lt : ∀ lv, lv < 8 → ∀ tk, tk < 14 → mrN lv tk < 100 ∧ (mrN lv tk = 0 ↔ tk = lv + 6) ∧ mrS lv tk < 128 := by decide +kernel
set_option maxRecDepth 20000 in
theorem w_apt_3 {pr : aC} {d : Nat} {u0 u : cS} (R lv sr dc db tk : Nat) (kR : u0.kd R = 9) (h3 : u0.oI R 3 = nI lv) (h4 : u0.oI R 4 = nI sr) (h5 : u0.oI R 5 = nI dc) (h6 : u0.oI R 6 = nI db) (h7 : u0.oI R 7 = nI tk) (l1 : 1 ≤ lv) (l2 : lv ≤ 7) (s1 : sr ≤ 4) (d1 : dc < 4) (b1 : db ≤ 2) (t1 : tk ≤ 13) (nR : R ≠ 23) (E : onS u0 u) (L : List Nat) (hS : sbJ u L) (hL : L.length ≤ 8) {Q : Option Value → cS → Prop} (hE : txL lv sr dc db tk = L ++ [mrS lv tk] ++ txE lv tk) (hQ : ∀ v, onS u0 v → sbJ v (txL lv sr dc db tk) → Q none v) : wB pr (d + 3) cd_72 none Q 65 [some (.ref R), some (.ref 23), some (.int (nI tk - (nI lv + nI 6)))] [.int (nI (mrS lv tk)), .ref 23] u := by
  obtain ⟨m1, m2, m3⟩ := mr_a lv (by omega) tk (by omega)
  obtain ⟨n1, n2, n3⟩ := mr_lt lv (by omega) tk (by omega)
  refine g_virtI (a := 23) (ci := 0) (n := 1) [.int (nI (mrS lv tk))] cFr_tr rfl rfl (by decide) rfl (c_ob (κ := 15) hS.1 (by decide) (by rfl)) rfl (Nat.le_of_ble_eq_true rfl) (Nat.le_refl _) (Nat.le_refl _) (w_apc _ hS _ n3 (by omega) (fun v e1 hS2 => ⟨_, rfl, ?_⟩))
  have E := E.tr e1
  clear e1
  refine g_pop rfl rfl ?_
  refine g_load rfl rfl rfl trivial ?_
  refine g_if_eq rfl (fun c1 => ?_) (fun c1 => ?_)
  · rw [m1] at c1
    have hz : mrN lv tk = 0 := n2.mpr c1
    have e0 : txE lv tk = [] := if_pos hz
    rw [e0, List.append_nil] at hE
    have hQ := hQ v E (by rw [hE]; exact hS2)
    refine g_ret rfl rfl (Nat.le_refl _) (Nat.le_refl _) ?_
    exact hQ
  · rw [m1] at c1
    have hz : ¬ mrN lv tk = 0 := fun z => c1 (n2.mp z)
    have e0 : txE lv tk = dgs (mrN lv tk) := if_neg hz
    refine g_load rfl rfl rfl trivial ?_
    refine g_load rfl rfl rfl trivial ?_
    refine g_statI [.int (nI tk - (nI lv + nI 6))] cFr_tr rfl rfl rfl (Nat.le_of_ble_eq_true rfl) (Nat.le_refl _) (Nat.le_refl _) (p_abs cFr_rf cFr_tr (nI tk - (nI lv + nI 6)) ⟨_, rfl, ?_⟩)
    rw [m3]
    refine g_virtI (a := 23) (ci := 0) (n := 1) [.int (nI (mrN lv tk))] cFr_tr rfl rfl (by decide) rfl (c_ob (κ := 15) hS2.1 (by decide) (by rfl)) rfl (Nat.le_of_ble_eq_true rfl) (Nat.le_refl _) (Nat.le_refl _) (w_api _ hS2 (mrN lv tk) n1 (by rw [List.length_append]; show L.length + 1 + _ ≤ 16; split <;> omega) (fun w e1 hS3 => ⟨_, rfl, ?_⟩))
    have hQ := hQ w (E.tr e1) (by rw [hE, e0]; exact hS3)
    refine g_pop rfl rfl ?_
    refine g_ret rfl rfl (Nat.le_refl _) (Nat.le_refl _) ?_
    exact hQ
set_option maxRecDepth 20000 in
theorem w_apt_2 {pr : aC} {d : Nat} {u0 u : cS} (R lv sr dc db tk : Nat) (kR : u0.kd R = 9) (h3 : u0.oI R 3 = nI lv) (h4 : u0.oI R 4 = nI sr) (h5 : u0.oI R 5 = nI dc) (h6 : u0.oI R 6 = nI db) (h7 : u0.oI R 7 = nI tk) (l1 : 1 ≤ lv) (l2 : lv ≤ 7) (s1 : sr ≤ 4) (d1 : dc < 4) (b1 : db ≤ 2) (t1 : tk ≤ 13) (nR : R ≠ 23) (E : onS u0 u) (l2x : Option Value) (L : List Nat) (hS : sbJ u L) (hL : L.length ≤ 4) {Q : Option Value → cS → Prop} (hE : L = [48 + lv, sgS sr] ++ List.replicate db 88) (hQ : ∀ v, onS u0 v → sbJ v (txL lv sr dc db tk) → Q none v) : wB pr (d + 5) cd_72 none Q 32 [some (.ref R), some (.ref 23), l2x] [] u := by
  refine g_load rfl rfl rfl trivial ?_
  refine g_bipush (nI 32) rfl (by decide) ?_
  refine g_virtI (a := 23) (ci := 0) (n := 1) [.int (nI (32))] cFr_tr rfl rfl (by decide) rfl (c_ob (κ := 15) hS.1 (by decide) (by rfl)) rfl (Nat.le_of_ble_eq_true rfl) (Nat.le_refl _) (Nat.le_refl _) (w_apc _ hS _ (by decide) (by omega) (fun v1 e1 hS => ⟨_, rfl, ?_⟩))
  have E := E.tr e1
  clear e1
  refine g_pop rfl rfl ?_
  refine g_load rfl rfl rfl trivial ?_
  refine g_ldcS rfl ⟨_, Or.inl rfl⟩ ?_
  refine g_load rfl rfl rfl trivial ?_
  refine c_getf rfl (κ := 9) (by rw [E.1]; exact kR) (by decide) (by rfl) (by rfl) ?_
  rw [show v1.oI R 5 = nI dc by rw [E.2.2.2.2.1 R nR]; exact h5]
  refine g_statI [.ref 8, .int (nI dc)] cFr_tr rfl rfl rfl (Nat.le_of_ble_eq_true rfl) (Nat.le_refl _) (Nat.le_refl _) (p_signOf cFr_rf cFr_tr cf_K 8 4 sgD sK_8 dc d1 ⟨_, rfl, ?_⟩)
  refine g_virtI (a := 23) (ci := 0) (n := 1) [.int (nI (sgD dc))] cFr_tr rfl rfl (by decide) rfl (c_ob (κ := 15) hS.1 (by decide) (by rfl)) rfl (Nat.le_of_ble_eq_true rfl) (Nat.le_refl _) (Nat.le_refl _) (w_apc _ hS _ (sgD_c dc d1) (by rw [List.length_append]; show L.length + 1 < 16; omega) (fun v2 e1 hS => ⟨_, rfl, ?_⟩))
  have E := E.tr e1
  clear e1
  refine g_pop rfl rfl ?_
  refine g_load rfl rfl rfl trivial ?_
  refine g_bipush (nI 32) rfl (by decide) ?_
  refine g_virtI (a := 23) (ci := 0) (n := 1) [.int (nI (32))] cFr_tr rfl rfl (by decide) rfl (c_ob (κ := 15) hS.1 (by decide) (by rfl)) rfl (Nat.le_of_ble_eq_true rfl) (Nat.le_refl _) (Nat.le_refl _) (w_apc _ hS _ (by decide) (by rw [List.length_append, List.length_append]; show L.length + 1 + 1 < 16; omega) (fun v3 e1 hS => ⟨_, rfl, ?_⟩))
  have E := E.tr e1
  clear e1
  refine g_pop rfl rfl ?_
  refine g_load rfl rfl rfl trivial ?_
  refine c_getf rfl (κ := 9) (by rw [E.1]; exact kR) (by decide) (by rfl) (by rfl) ?_
  rw [show v3.oI R 7 = nI tk by rw [E.2.2.2.2.1 R nR]; exact h7]
  refine g_load rfl rfl rfl trivial ?_
  refine c_getf rfl (κ := 9) (by rw [E.1]; exact kR) (by decide) (by rfl) (by rfl) ?_
  rw [show v3.oI R 3 = nI lv by rw [E.2.2.2.2.1 R nR]; exact h3]
  refine g_bipush (nI 6) rfl (by decide) ?_
  refine g_iadd rfl ?_
  refine g_isub rfl ?_
  refine g_store [some (.ref R), some (.ref 23), some (.int (nI tk - (nI lv + nI 6)))] rfl rfl trivial (Nat.le_of_ble_eq_true rfl) rfl ?_
  have K := @w_apt_3 pr (d + 2) u0 v3 R lv sr dc db tk kR h3 h4 h5 h6 h7 l1 l2 s1 d1 b1 t1 nR E _ hS (by rw [List.length_append, List.length_append, List.length_append]; show L.length + 1 + 1 + 1 ≤ 8; omega) Q (by unfold txL; rw [hE]) hQ
  obtain ⟨m1, m2, m3⟩ := mr_a lv (by omega) tk (by omega)
  refine g_load rfl rfl rfl trivial ?_
  refine g_load rfl rfl rfl trivial ?_
  refine g_if_ne rfl (fun c1 => ?_) (fun c1 => ?_)
  · rw [m1] at c1
    refine g_load rfl rfl rfl trivial ?_
    refine g_if_le rfl (fun c2 => ?_) (fun c2 => ?_)
    · rw [show mrS lv tk = 45 by unfold mrS; rw [if_neg c1, if_neg (fun z => absurd (m2.mpr z) (Int32.not_lt.mpr c2))]] at K
      refine g_bipush (nI 45) rfl (by decide) ?_
      exact K
    · rw [show mrS lv tk = 43 by unfold mrS; rw [if_neg c1, if_pos (m2.mp (Int32.not_le.mp c2))]] at K
      refine g_bipush (nI 43) rfl (by decide) ?_
      refine g_goto rfl ?_
      exact K
  · rw [m1] at c1
    rw [show mrS lv tk = 61 from if_pos c1] at K
    refine g_bipush (nI 61) rfl (by decide) ?_
    refine g_goto rfl ?_
    exact K
set_option maxRecDepth 20000 in
theorem w_apt_1 {pr : aC} {d : Nat} {u0 : cS} (R lv sr dc db tk : Nat) (kR : u0.kd R = 9) (h3 : u0.oI R 3 = nI lv) (h4 : u0.oI R 4 = nI sr) (h5 : u0.oI R 5 = nI dc) (h6 : u0.oI R 6 = nI db) (h7 : u0.oI R 7 = nI tk) (l1 : 1 ≤ lv) (l2 : lv ≤ 7) (s1 : sr ≤ 4) (d1 : dc < 4) (b1 : db ≤ 2) (t1 : tk ≤ 13) (nR : R ≠ 23) {Q : Option Value → cS → Prop} (hQ : ∀ v, onS u0 v → sbJ v (txL lv sr dc db tk) → Q none v) : ∀ (zz : Nat) (i : Nat) (u : cS) (E : onS u0 u) (hS : sbJ u ([48 + lv, sgS sr] ++ List.replicate i 88)) (hm : db - i < zz) (hle : i ≤ db), wB pr (d + 5) cd_72 none Q 22 [some (.ref R), some (.ref 23), some (.int (nI i))] [] u := by
  intro zz
  induction zz with
  | zero => intro i u E hS hm hle; exact absurd hm (by omega)
  | succ zz ih =>
    intro i u E hS hm hle
    refine g_load rfl rfl rfl trivial ?_
    refine g_load rfl rfl rfl trivial ?_
    refine c_getf rfl (κ := 9) (by rw [E.1]; exact kR) (by decide) (by rfl) (by rfl) ?_
    rw [show u.oI R 6 = nI db by rw [E.2.2.2.2.1 R nR]; exact h6]
    refine g_icmp_ge rfl (fun c1 => ?_) (fun c1 => ?_)
    · rw [nI_leI (by omega) (by omega)] at c1
      have e : i = db := by omega
      subst e
      exact w_apt_2 R lv sr dc i tk kR h3 h4 h5 h6 h7 l1 l2 s1 d1 b1 t1 nR E _ _ hS (by simp; omega) rfl hQ
    · rw [nI_leI (by omega) (by omega)] at c1
      refine g_load rfl rfl rfl trivial ?_
      refine g_bipush (nI 88) rfl (by decide) ?_
      refine g_virtI (a := 23) (ci := 0) (n := 1) [.int (nI (88))] cFr_tr rfl rfl (by decide) rfl (c_ob (κ := 15) hS.1 (by decide) (by rfl)) rfl (Nat.le_of_ble_eq_true rfl) (Nat.le_refl _) (Nat.le_refl _) (w_apc _ hS _ (by decide) (by simp; omega) (fun v1 e1 hS => ⟨_, rfl, ?_⟩))
      have E := E.tr e1
      clear e1
      refine g_pop rfl rfl ?_
      refine g_iinc (nI (i + 1)) [some (.ref R), some (.ref 23), some (.int (nI (i + 1)))] rfl rfl (nI_1 i) rfl ?_
      refine g_goto rfl ?_
      exact ih (i + 1) v1 E (by rw [List.append_assoc, show List.replicate i 88 ++ [88] = List.replicate (i + 1) 88 from (List.replicate_succ').symm] at hS; exact hS) (by omega) (by omega)
set_option maxRecDepth 20000 in
theorem w_apt {pr : aC} {d : Nat} {u : cS} (R lv sr dc db tk : Nat) (kR : u.kd R = 9) (h3 : u.oI R 3 = nI lv) (h4 : u.oI R 4 = nI sr) (h5 : u.oI R 5 = nI dc) (h6 : u.oI R 6 = nI db) (h7 : u.oI R 7 = nI tk) (l1 : 1 ≤ lv) (l2 : lv ≤ 7) (s1 : sr ≤ 4) (d1 : dc < 4) (b1 : db ≤ 2) (t1 : tk ≤ 13) (nR : R ≠ 23) (hS : sbJ u []) {Q : Option Value → cS → Prop} (hQ : ∀ v, onS u v → sbJ v (txL lv sr dc db tk) → Q none v) : wR pr (d + 5 + 1) 72 [.ref R, .ref 23] u Q := by
  refine gR_of mi_72 cFr_rf rfl (Nat.le_of_ble_eq_true rfl) ?_
  show wB pr (d + 5) cd_72 none Q 0 [some (.ref R), some (.ref 23), none] [] u
  have E := onS.rf u
  have hlv : dgs lv = [48 + lv] := if_pos (by omega)
  refine g_load rfl rfl rfl trivial ?_
  refine c_getf rfl (κ := 9) kR (by decide) (by rfl) (by rfl) ?_
  rw [h3]
  refine g_if_ne rfl (fun c1 => ?_) (fun c1 => ?_)
  · refine g_load rfl rfl rfl trivial ?_
    refine g_load rfl rfl rfl trivial ?_
    refine c_getf rfl (κ := 9) kR (by decide) (by rfl) (by rfl) ?_
    rw [h3]
    refine g_virtI (a := 23) (ci := 0) (n := 1) [.int (nI lv)] cFr_tr rfl rfl (by decide) rfl (c_ob (κ := 15) hS.1 (by decide) (by rfl)) rfl (Nat.le_of_ble_eq_true rfl) (Nat.le_refl _) (Nat.le_refl _) (w_api _ hS lv (by omega) (by show 0 + _ ≤ 16; split <;> omega) (fun v0 e1 hS => ⟨_, rfl, ?_⟩))
    have E := E.tr e1
    clear e1
    rw [List.nil_append, hlv] at hS
    refine g_pop rfl rfl ?_
    refine g_load rfl rfl rfl trivial ?_
    refine g_ldcS rfl ⟨_, Or.inl rfl⟩ ?_
    refine g_load rfl rfl rfl trivial ?_
    refine c_getf rfl (κ := 9) (by rw [E.1]; exact kR) (by decide) (by rfl) (by rfl) ?_
    rw [show v0.oI R 4 = nI sr by rw [E.2.2.2.2.1 R nR]; exact h4]
    refine g_statI [.ref 6, .int (nI sr)] cFr_tr rfl rfl rfl (Nat.le_of_ble_eq_true rfl) (Nat.le_refl _) (Nat.le_refl _) (p_signOf cFr_rf cFr_tr cf_K 6 5 sgS sK_6 sr (by omega) ⟨_, rfl, ?_⟩)
    refine g_virtI (a := 23) (ci := 0) (n := 1) [.int (nI (sgS sr))] cFr_tr rfl rfl (by decide) rfl (c_ob (κ := 15) hS.1 (by decide) (by rfl)) rfl (Nat.le_of_ble_eq_true rfl) (Nat.le_refl _) (Nat.le_refl _) (w_apc _ hS _ (sgS_c sr (by omega)) (by simp) (fun v1 e1 hS => ⟨_, rfl, ?_⟩))
    have E := E.tr e1
    clear e1
    refine g_pop rfl rfl ?_
    refine g_iconst (nI 0) rfl (by decide) ?_
    refine g_store [some (.ref R), some (.ref 23), some (.int (nI 0))] rfl rfl trivial (Nat.le_of_ble_eq_true rfl) rfl ?_
    exact w_apt_1 R lv sr dc db tk kR h3 h4 h5 h6 h7 l1 l2 s1 d1 b1 t1 nR hQ 4 0 v1 E (by simpa using hS) (by omega) (by omega)
  · exact absurd c1 (nI_ne0 (by omega) (by omega))
set_option maxRecDepth 20000 in
theorem w_apt_p {pr : aC} {d : Nat} {u : cS} (R : Nat) (kR : u.kd R = 9) (h3 : u.oI R 3 = 0) (hS : sbJ u []) {Q : Option Value → cS → Prop} (hQ : ∀ v, onS u v → sbJ v [112, 97, 115, 115] → Q none v) : wR pr (d + 5 + 1) 72 [.ref R, .ref 23] u Q := by
  refine gR_of mi_72 cFr_rf rfl (Nat.le_of_ble_eq_true rfl) ?_
  show wB pr (d + 5) cd_72 none Q 0 [some (.ref R), some (.ref 23), none] [] u
  refine g_load rfl rfl rfl trivial ?_
  refine c_getf rfl (κ := 9) kR (by decide) (by rfl) (by rfl) ?_
  rw [h3]
  refine g_if_ne rfl (fun c1 => ?_) (fun c1 => ?_)
  · exact absurd rfl c1
  · refine g_load rfl rfl rfl trivial ?_
    refine g_ldcS rfl ⟨_, Or.inl rfl⟩ ?_
    refine g_virtI (a := 23) (ci := 0) (n := 1) [.ref 4] cFr_tr rfl rfl (by decide) rfl (c_ob (κ := 15) hS.1 (by decide) (by rfl)) rfl (Nat.le_of_ble_eq_true rfl) (Nat.le_refl _) (Nat.le_refl _) (w_aps hS (fun v e1 e2 => ⟨_, rfl, ?_⟩))
    refine g_pop rfl rfl ?_
    refine g_ret rfl rfl (Nat.le_refl _) (Nat.le_refl _) ?_
    exact hQ v e1 e2
