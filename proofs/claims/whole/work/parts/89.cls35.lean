/-! ===== the reference: write ===== -/
theorem rf_K {u : rS} (h : aH) (hR : RF u h) : cK h ∧ 16 ≤ h.2 := ⟨hR.2.2.2, by have := hR.1; omega⟩
/-- only the text differs: it holds L -/
def rtx (r w : rS) (L : List Nat) : Prop := (∀ g, g ≠ 22 → w.1 g = r.1 g) ∧ (∀ a, a ≠ 45 → w.2 a = r.2 a) ∧ w.1 22 = nI L.length ∧ ∀ i, i < L.length → w.2 45 i = nI (L.getD i 0)
theorem r_putx {pr : aC} {d : Nat} {r u : rS} (L : List Nat) (hX : rtx r u L) (c : Nat) (h20 : L.length < 20) {Q : Option Value → rS → Prop} (hQ : ∀ v, rtx r v (L ++ [c]) → Q none v) : rR pr (d + 1) 221 [.ref 25, .int (nI c)] u Q := by
  obtain ⟨h1, h2, h3, h4⟩ := hX
  refine r_puts (nI c) L.length h3 h20 (hQ _ ⟨fun g hg => ?_, fun a ha => ?_, ?_, fun i hi => ?_⟩)
  · show (if g = 22 then _ else u.1 g) = _; rw [if_neg hg]; exact h1 g hg
  · show rU u.2 45 L.length (nI c) a = _; rw [rU_a ha]; exact h2 a ha
  · show (if 22 = 22 then nI (L.length + 1) else u.1 22) = _; rw [if_pos rfl, List.length_append]; rfl
  · show rU u.2 45 L.length (nI c) 45 i = _
    have hi' : i < L.length + 1 := by rw [List.length_append] at hi; exact hi
    by_cases e : i = L.length
    · rw [e, rU_s, gD_r]
    · rw [rU_k e, gD_l (by omega)]; exact h4 i (by omega)
theorem rn_a : ∀ lv, lv < 8 → ∀ tk, tk < 14 → (nI tk - nI lv - nI 6 = 0 ↔ tk = lv + 6) ∧ (0 < nI tk - nI lv - nI 6 ↔ lv + 6 < tk) ∧ (0 ≤ nI tk - nI lv - nI 6 ↔ lv + 6 ≤ tk) ∧ (lv + 6 ≤ tk → nI tk - nI lv - nI 6 = nI (mrN lv tk)) ∧ (tk < lv + 6 → -(nI tk - nI lv - nI 6) = nI (mrN lv tk)) := by decide +kernel
set_option maxRecDepth 20000 in
theorem r_wr_5 {pr : aC} {d : Nat} {r u : rS} (i lv sr dc db tk : Nat) (hi : i < 220) (h3 : r.2 37 i = nI lv) (h4 : r.2 38 i = nI sr) (h5 : r.2 39 i = nI dc) (h6 : r.2 40 i = nI db) (h7 : r.2 41 i = nI tk) (l1 : 1 ≤ lv) (l2 : lv ≤ 7) (s1 : sr ≤ 4) (d1 : dc < 4) (b1 : db ≤ 2) (t1 : tk ≤ 13) (L : List Nat) (hX : rtx r u L) (hL : L.length ≤ 10) {Q : Option Value → rS → Prop} (hE : txL lv sr dc db tk = L ++ (if mrN lv tk = 0 then [] else [48 + mrN lv tk % 10])) (hQ : ∀ v, rtx r v (txL lv sr dc db tk) → Q (some (.int (nI (txL lv sr dc db tk).length))) v) : rB pr (d + 1) cd_222 (Option.some Jvm.ClassFile.FieldType.int) Q 111 [some (.ref 25), some (.int (nI i)), some (.int (nI tk - nI lv - nI 6)), some (.int (nI (mrN lv tk)))] [] u := by
  obtain ⟨n1, n2, n3⟩ := mr_lt lv (by omega) tk (by omega)
  refine g_load rfl rfl rfl trivial ?_
  refine g_if_le rfl (fun c1 => ?_) (fun c1 => ?_)
  · have hz : mrN lv tk = 0 := by
      apply Nat.eq_zero_of_not_pos
      intro z
      exact nI_nle z (by omega) c1
    rw [if_pos hz, List.append_nil] at hE
    refine g_load rfl rfl rfl trivial ?_
    refine r_getf rfl rfl ?_
    rw [hX.2.2.1]
    rw [← hE] at hX ⊢
    refine g_vret rfl trivial ⟨rfl, rfl⟩ (Nat.le_refl _) (Nat.le_refl _) ?_
    exact hQ _ hX
  · have hz : ¬ mrN lv tk = 0 := fun z => c1 (by rw [z]; decide)
    rw [if_neg hz] at hE
    refine g_load rfl rfl rfl trivial ?_
    refine g_bipush (nI 48) rfl (by decide) ?_
    refine g_load rfl rfl rfl trivial ?_
    refine g_bipush (nI 10) rfl (by decide) ?_
    refine g_irem rfl (by decide) ?_
    rw [pk_rem (by omega) (by omega) (by omega)]
    refine g_iadd rfl ?_
    rw [nI_add]
    refine g_virtV (a := 25) (ci := 8) (n := 1) [.int (nI (48 + mrN lv tk % 10))] rFr_tr rfl rfl (by decide) rfl r_this rfl (Nat.le_of_ble_eq_true rfl) (Nat.le_refl _) (Nat.le_refl _) (r_putx _ hX (48 + mrN lv tk % 10) (by omega) (fun v2 hX => ⟨rfl, ?_⟩))
    refine g_load rfl rfl rfl trivial ?_
    refine r_getf rfl rfl ?_
    rw [hX.2.2.1]
    rw [← hE] at hX ⊢
    refine g_vret rfl trivial ⟨rfl, rfl⟩ (Nat.le_refl _) (Nat.le_refl _) ?_
    exact hQ _ hX
set_option maxRecDepth 20000 in
theorem r_wr_4 {pr : aC} {d : Nat} {r u : rS} (i lv sr dc db tk : Nat) (hi : i < 220) (h3 : r.2 37 i = nI lv) (h4 : r.2 38 i = nI sr) (h5 : r.2 39 i = nI dc) (h6 : r.2 40 i = nI db) (h7 : r.2 41 i = nI tk) (l1 : 1 ≤ lv) (l2 : lv ≤ 7) (s1 : sr ≤ 4) (d1 : dc < 4) (b1 : db ≤ 2) (t1 : tk ≤ 13) (L : List Nat) (hX : rtx r u L) (hL : L.length ≤ 9) {Q : Option Value → rS → Prop} (hE : txL lv sr dc db tk = L ++ txE lv tk) (hQ : ∀ v, rtx r v (txL lv sr dc db tk) → Q (some (.int (nI (txL lv sr dc db tk).length))) v) : rB pr (d + 1) cd_222 (Option.some Jvm.ClassFile.FieldType.int) Q 101 [some (.ref 25), some (.int (nI i)), some (.int (nI tk - nI lv - nI 6)), some (.int (nI (mrN lv tk)))] [] u := by
  obtain ⟨n1, n2, n3⟩ := mr_lt lv (by omega) tk (by omega)
  refine g_load rfl rfl rfl trivial ?_
  refine g_bipush (nI 9) rfl (by decide) ?_
  refine g_icmp_le rfl (fun c1 => ?_) (fun c1 => ?_)
  · rw [nI_leI (by omega) (by omega)] at c1
    have e0 : txE lv tk = if mrN lv tk = 0 then [] else [48 + mrN lv tk % 10] := by
      unfold txE dgs
      rw [if_pos (show mrN lv tk < 10 by omega), show mrN lv tk % 10 = mrN lv tk by omega]
    rw [e0] at hE
    exact r_wr_5 i lv sr dc db tk hi h3 h4 h5 h6 h7 l1 l2 s1 d1 b1 t1 L hX (by omega) hE hQ
  · rw [nI_leI (by omega) (by omega)] at c1
    have e0 : txE lv tk = [48 + mrN lv tk / 10] ++ (if mrN lv tk = 0 then [] else [48 + mrN lv tk % 10]) := by unfold txE dgs; rw [if_neg (by omega), if_neg (by omega), if_neg (by omega)]; rfl
    rw [e0, ← List.append_assoc] at hE
    refine g_load rfl rfl rfl trivial ?_
    refine g_bipush (nI 48) rfl (by decide) ?_
    refine g_load rfl rfl rfl trivial ?_
    refine g_bipush (nI 10) rfl (by decide) ?_
    refine g_idiv rfl (by decide) ?_
    rw [pk_div (by omega) (by omega) (by omega)]
    refine g_iadd rfl ?_
    rw [nI_add]
    refine g_virtV (a := 25) (ci := 8) (n := 1) [.int (nI (48 + mrN lv tk / 10))] rFr_tr rfl rfl (by decide) rfl r_this rfl (Nat.le_of_ble_eq_true rfl) (Nat.le_refl _) (Nat.le_refl _) (r_putx _ hX (48 + mrN lv tk / 10) (by omega) (fun v1 hX => ⟨rfl, ?_⟩))
    exact r_wr_5 i lv sr dc db tk hi h3 h4 h5 h6 h7 l1 l2 s1 d1 b1 t1 _ hX (by rw [List.length_append]; show L.length + 1 ≤ 10; omega) hE hQ
set_option maxRecDepth 20000 in
theorem r_wr_3 {pr : aC} {d : Nat} {r u : rS} (i lv sr dc db tk : Nat) (hi : i < 220) (h3 : r.2 37 i = nI lv) (h4 : r.2 38 i = nI sr) (h5 : r.2 39 i = nI dc) (h6 : r.2 40 i = nI db) (h7 : r.2 41 i = nI tk) (l1 : 1 ≤ lv) (l2 : lv ≤ 7) (s1 : sr ≤ 4) (d1 : dc < 4) (b1 : db ≤ 2) (t1 : tk ≤ 13) (L : List Nat) (hX : rtx r u L) (hL : L.length ≤ 8) {Q : Option Value → rS → Prop} (hE : txL lv sr dc db tk = L ++ [mrS lv tk] ++ txE lv tk) (hQ : ∀ v, rtx r v (txL lv sr dc db tk) → Q (some (.int (nI (txL lv sr dc db tk).length))) v) : rB pr (d + 1) cd_222 (Option.some Jvm.ClassFile.FieldType.int) Q 93 [some (.ref 25), some (.int (nI i)), some (.int (nI tk - nI lv - nI 6)), none] [.int (nI (mrS lv tk)), .ref 25] u := by
  obtain ⟨m1, m2, m3, m4, m5⟩ := rn_a lv (by omega) tk (by omega)
  refine g_virtV (a := 25) (ci := 8) (n := 1) [.int (nI (mrS lv tk))] rFr_tr rfl rfl (by decide) rfl r_this rfl (Nat.le_of_ble_eq_true rfl) (Nat.le_refl _) (Nat.le_refl _) (r_putx _ hX (mrS lv tk) (by omega) (fun v1 hX => ⟨rfl, ?_⟩))
  refine g_load rfl rfl rfl trivial ?_
  refine g_if_ge rfl (fun c1 => ?_) (fun c1 => ?_)
  · have hle := m3.mp c1
    have hv := m4 hle
    refine g_load rfl rfl rfl trivial ?_
    refine g_store [some (.ref 25), some (.int (nI i)), some (.int (nI tk - nI lv - nI 6)), some (.int (nI (mrN lv tk)))] rfl rfl trivial (Nat.le_of_ble_eq_true rfl) (by rw [← hv]; rfl) ?_
    exact r_wr_4 i lv sr dc db tk hi h3 h4 h5 h6 h7 l1 l2 s1 d1 b1 t1 _ hX (by rw [List.length_append]; show L.length + 1 ≤ 9; omega) hE hQ
  · have hlt : tk < lv + 6 := by
      apply Nat.lt_of_not_le
      intro z
      exact c1 (m3.mpr z)
    have hv := m5 hlt
    refine g_load rfl rfl rfl trivial ?_
    refine g_ineg rfl ?_
    refine g_goto rfl ?_
    refine g_store [some (.ref 25), some (.int (nI i)), some (.int (nI tk - nI lv - nI 6)), some (.int (nI (mrN lv tk)))] rfl rfl trivial (Nat.le_of_ble_eq_true rfl) (by rw [← hv]; rfl) ?_
    exact r_wr_4 i lv sr dc db tk hi h3 h4 h5 h6 h7 l1 l2 s1 d1 b1 t1 _ hX (by rw [List.length_append]; show L.length + 1 ≤ 9; omega) hE hQ
set_option maxRecDepth 20000 in
theorem r_wr_2 {pr : aC} {d : Nat} {r u : rS} (i lv sr dc db tk : Nat) (hi : i < 220) (h3 : r.2 37 i = nI lv) (h4 : r.2 38 i = nI sr) (h5 : r.2 39 i = nI dc) (h6 : r.2 40 i = nI db) (h7 : r.2 41 i = nI tk) (l1 : 1 ≤ lv) (l2 : lv ≤ 7) (s1 : sr ≤ 4) (d1 : dc < 4) (b1 : db ≤ 2) (t1 : tk ≤ 13) (l2x : Option Value) (L : List Nat) (hX : rtx r u L) (hL : L.length ≤ 4) {Q : Option Value → rS → Prop} (hE : L = [48 + lv, sgS sr] ++ List.replicate db 88) (hQ : ∀ v, rtx r v (txL lv sr dc db tk) → Q (some (.int (nI (txL lv sr dc db tk).length))) v) : rB pr (d + 4) cd_222 (Option.some Jvm.ClassFile.FieldType.int) Q 57 [some (.ref 25), some (.int (nI i)), l2x, none] [] u := by
  refine g_load rfl rfl rfl trivial ?_
  refine g_bipush (nI 32) rfl (by decide) ?_
  refine g_virtV (a := 25) (ci := 8) (n := 1) [.int (nI (32))] rFr_tr rfl rfl (by decide) rfl r_this rfl (Nat.le_of_ble_eq_true rfl) (Nat.le_refl _) (Nat.le_refl _) (r_putx _ hX (32) (by omega) (fun v1 hX => ⟨rfl, ?_⟩))
  refine g_load rfl rfl rfl trivial ?_
  refine g_ldcS rfl ⟨_, Or.inr rfl⟩ ?_
  refine g_load rfl rfl rfl trivial ?_
  refine r_getf rfl rfl ?_
  refine g_load rfl rfl rfl trivial ?_
  refine r_ia i rfl ⟨by decide, by decide, rfl⟩ rfl (by show _ < 220; omega) ?_
  rw [hX.2.1 _ (by decide), h5]
  refine g_virtCI (a := 12) (n := 1) [.int (nI dc)] rFr_tr rfl rfl (by decide) rfl (by decide) (fun h hR => (rf_K h hR).1 12 (by decide)) rfl (Nat.le_of_ble_eq_true rfl) (Nat.le_refl _) (Nat.le_refl _) (p_sCharAt rFr_rf rFr_tr rf_K 12 4 sgD sK_12 dc d1 ⟨_, rfl, ?_⟩)
  refine g_virtV (a := 25) (ci := 8) (n := 1) [.int (nI (sgD dc))] rFr_tr rfl rfl (by decide) rfl r_this rfl (Nat.le_of_ble_eq_true rfl) (Nat.le_refl _) (Nat.le_refl _) (r_putx _ hX (sgD dc) (by rw [List.length_append]; show L.length + 1 < 20; omega) (fun v2 hX => ⟨rfl, ?_⟩))
  refine g_load rfl rfl rfl trivial ?_
  refine g_bipush (nI 32) rfl (by decide) ?_
  refine g_virtV (a := 25) (ci := 8) (n := 1) [.int (nI (32))] rFr_tr rfl rfl (by decide) rfl r_this rfl (Nat.le_of_ble_eq_true rfl) (Nat.le_refl _) (Nat.le_refl _) (r_putx _ hX (32) (by rw [List.length_append, List.length_append]; show L.length + 1 + 1 < 20; omega) (fun v3 hX => ⟨rfl, ?_⟩))
  refine g_load rfl rfl rfl trivial ?_
  refine r_getf rfl rfl ?_
  refine g_load rfl rfl rfl trivial ?_
  refine r_ia i rfl ⟨by decide, by decide, rfl⟩ rfl (by show _ < 220; omega) ?_
  rw [hX.2.1 _ (by decide), h7]
  refine g_load rfl rfl rfl trivial ?_
  refine r_getf rfl rfl ?_
  refine g_load rfl rfl rfl trivial ?_
  refine r_ia i rfl ⟨by decide, by decide, rfl⟩ rfl (by show _ < 220; omega) ?_
  rw [hX.2.1 _ (by decide), h3]
  refine g_isub rfl ?_
  refine g_bipush (nI 6) rfl (by decide) ?_
  refine g_isub rfl ?_
  refine g_store [some (.ref 25), some (.int (nI i)), some (.int (nI tk - nI lv - nI 6)), none] rfl rfl trivial (Nat.le_of_ble_eq_true rfl) rfl ?_
  have K := @r_wr_3 pr (d + 3) r v3 i lv sr dc db tk hi h3 h4 h5 h6 h7 l1 l2 s1 d1 b1 t1 _ hX (by rw [List.length_append, List.length_append, List.length_append]; show L.length + 1 + 1 + 1 ≤ 8; omega) Q (by unfold txL; rw [hE]) hQ
  obtain ⟨m1, m2, m3, m4, m5⟩ := rn_a lv (by omega) tk (by omega)
  refine g_load rfl rfl rfl trivial ?_
  refine g_load rfl rfl rfl trivial ?_
  refine g_if_ne rfl (fun c1 => ?_) (fun c1 => ?_)
  · rw [m1] at c1
    refine g_load rfl rfl rfl trivial ?_
    refine g_if_le rfl (fun c2 => ?_) (fun c2 => ?_)
    · rw [show mrS lv tk = 45 by unfold mrS; rw [if_neg c1, if_neg (fun z => absurd (m2.mpr z) (Int32.not_lt.mpr c2))]] at K
      refine g_bipush (nI 45) rfl (by decide) ?_
      exact K
    · rw [show mrS lv tk = 43 by unfold mrS; rw [if_neg c1, if_pos (m2.mp (Int32.not_le.mp c2))]] at K
      refine g_bipush (nI 43) rfl (by decide) ?_
      refine g_goto rfl ?_
      exact K
  · rw [m1] at c1
    rw [show mrS lv tk = 61 from if_pos c1] at K
    refine g_bipush (nI 61) rfl (by decide) ?_
    refine g_goto rfl ?_
    exact K
set_option maxRecDepth 20000 in
theorem r_wr_1 {pr : aC} {d : Nat} {r : rS} (i lv sr dc db tk : Nat) (hi : i < 220) (h3 : r.2 37 i = nI lv) (h4 : r.2 38 i = nI sr) (h5 : r.2 39 i = nI dc) (h6 : r.2 40 i = nI db) (h7 : r.2 41 i = nI tk) (l1 : 1 ≤ lv) (l2 : lv ≤ 7) (s1 : sr ≤ 4) (d1 : dc < 4) (b1 : db ≤ 2) (t1 : tk ≤ 13) {Q : Option Value → rS → Prop} (hQ : ∀ v, rtx r v (txL lv sr dc db tk) → Q (some (.int (nI (txL lv sr dc db tk).length))) v) : ∀ (zz : Nat) (j : Nat) (u : rS) (hX : rtx r u ([48 + lv, sgS sr] ++ List.replicate j 88)) (hm : db - j < zz) (hle : j ≤ db), rB pr (d + 4) cd_222 (Option.some Jvm.ClassFile.FieldType.int) Q 46 [some (.ref 25), some (.int (nI i)), some (.int (nI j)), none] [] u := by
  intro zz
  induction zz with
  | zero => intro j u hX hm hle; exact absurd hm (by omega)
  | succ zz ih =>
    intro j u hX hm hle
    refine g_load rfl rfl rfl trivial ?_
    refine g_load rfl rfl rfl trivial ?_
    refine r_getf rfl rfl ?_
    refine g_load rfl rfl rfl trivial ?_
    refine r_ia i rfl ⟨by decide, by decide, rfl⟩ rfl (by show _ < 220; omega) ?_
    rw [hX.2.1 _ (by decide), h6]
    refine g_icmp_ge rfl (fun c1 => ?_) (fun c1 => ?_)
    · rw [nI_leI (by omega) (by omega)] at c1
      have e : j = db := by omega
      subst e
      exact r_wr_2 i lv sr dc j tk hi h3 h4 h5 h6 h7 l1 l2 s1 d1 b1 t1 _ _ hX (by simp; omega) rfl hQ
    · rw [nI_leI (by omega) (by omega)] at c1
      refine g_load rfl rfl rfl trivial ?_
      refine g_bipush (nI 88) rfl (by decide) ?_
      refine g_virtV (a := 25) (ci := 8) (n := 1) [.int (nI (88))] rFr_tr rfl rfl (by decide) rfl r_this rfl (Nat.le_of_ble_eq_true rfl) (Nat.le_refl _) (Nat.le_refl _) (r_putx _ hX (88) (by simp; omega) (fun v1 hX => ⟨rfl, ?_⟩))
      refine g_iinc (nI (j + 1)) [some (.ref 25), some (.int (nI i)), some (.int (nI (j + 1))), none] rfl rfl (nI_1 j) rfl ?_
      refine g_goto rfl ?_
      exact ih (j + 1) v1 (by rw [List.append_assoc, show List.replicate j 88 ++ [88] = List.replicate (j + 1) 88 from (List.replicate_succ').symm] at hX; exact hX) (by omega) (by omega)
theorem rtx_0 (r : rS) : rtx r (upd r.1 22 (nI 0), r.2) [] := by
  refine ⟨fun g hg => ?_, fun _ _ => rfl, ?_, fun i hi => absurd hi (by simp)⟩
  · show (if g = 22 then _ else r.1 g) = _; rw [if_neg hg]
  · show (if 22 = 22 then nI 0 else r.1 22) = _; rw [if_pos rfl]; rfl
set_option maxRecDepth 20000 in
theorem r_write_c {pr : aC} {d : Nat} {r : rS} (i lv sr dc db tk : Nat) (hi : i < 220) (h3 : r.2 37 i = nI lv) (h4 : r.2 38 i = nI sr) (h5 : r.2 39 i = nI dc) (h6 : r.2 40 i = nI db) (h7 : r.2 41 i = nI tk) (l1 : 1 ≤ lv) (l2 : lv ≤ 7) (s1 : sr ≤ 4) (d1 : dc < 4) (b1 : db ≤ 2) (t1 : tk ≤ 13) (nr : Nat) (h1 : r.1 1 = nI nr) (hnr : nr ≤ 220) (hin : i < nr) {Q : Option Value → rS → Prop} (hQ : ∀ v, rtx r v (txL lv sr dc db tk) → Q (some (.int (nI (txL lv sr dc db tk).length))) v) : rR pr (d + 4 + 1) 222 [.ref 25, .int (nI i)] r Q := by
  refine gR_of mi_222 rFr_rf rfl (Nat.le_of_ble_eq_true rfl) ?_
  show rB pr (d + 4) cd_222 (Option.some Jvm.ClassFile.FieldType.int) Q 0 [some (.ref 25), some (.int (nI i)), none, none] [] r
  refine g_load rfl rfl rfl trivial ?_
  refine g_load rfl rfl rfl trivial ?_
  refine g_virtI (a := 25) (ci := 8) (n := 1) [.int (nI i)] rFr_tr rfl rfl (by decide) rfl r_this rfl (Nat.le_of_ble_eq_true rfl) (Nat.le_refl _) (Nat.le_refl _) (r_isResult (nI i) nr h1 hnr ⟨_, rfl, ?_⟩)
  rw [irF_t (by omega) hin]
  refine g_if_ne rfl (fun c1 => ?_) (fun c1 => ?_)
  · refine g_load rfl rfl rfl trivial ?_
    refine g_iconst (nI 0) rfl (by decide) ?_
    refine r_puti rfl (by simp [rIs]) ?_
    have hX := rtx_0 r
    generalize (upd r.1 22 (nI 0), r.2) = u at hX ⊢
    refine g_load rfl rfl rfl trivial ?_
    refine r_getf rfl rfl ?_
    refine g_load rfl rfl rfl trivial ?_
    refine r_ia i rfl ⟨by decide, by decide, rfl⟩ rfl (by show _ < 220; omega) ?_
    rw [hX.2.1 _ (by decide), h3]
    refine g_if_ne rfl (fun c2 => ?_) (fun c2 => ?_)
    · refine g_load rfl rfl rfl trivial ?_
      refine g_bipush (nI 48) rfl (by decide) ?_
      refine g_load rfl rfl rfl trivial ?_
      refine r_getf rfl rfl ?_
      refine g_load rfl rfl rfl trivial ?_
      refine r_ia i rfl ⟨by decide, by decide, rfl⟩ rfl (by show _ < 220; omega) ?_
      rw [hX.2.1 _ (by decide), h3]
      refine g_iadd rfl ?_
      rw [nI_add]
      refine g_virtV (a := 25) (ci := 8) (n := 1) [.int (nI (48 + lv))] rFr_tr rfl rfl (by decide) rfl r_this rfl (Nat.le_of_ble_eq_true rfl) (Nat.le_refl _) (Nat.le_refl _) (r_putx _ hX (48 + lv) (by decide) (fun v1 hX => ⟨rfl, ?_⟩))
      refine g_load rfl rfl rfl trivial ?_
      refine g_ldcS rfl ⟨_, Or.inl rfl⟩ ?_
      refine g_load rfl rfl rfl trivial ?_
      refine r_getf rfl rfl ?_
      refine g_load rfl rfl rfl trivial ?_
      refine r_ia i rfl ⟨by decide, by decide, rfl⟩ rfl (by show _ < 220; omega) ?_
      rw [hX.2.1 _ (by decide), h4]
      refine g_virtCI (a := 10) (n := 1) [.int (nI sr)] rFr_tr rfl rfl (by decide) rfl (by decide) (fun h hR => (rf_K h hR).1 10 (by decide)) rfl (Nat.le_of_ble_eq_true rfl) (Nat.le_refl _) (Nat.le_refl _) (p_sCharAt rFr_rf rFr_tr rf_K 10 5 sgS sK_10 sr (by omega) ⟨_, rfl, ?_⟩)
      refine g_virtV (a := 25) (ci := 8) (n := 1) [.int (nI (sgS sr))] rFr_tr rfl rfl (by decide) rfl r_this rfl (Nat.le_of_ble_eq_true rfl) (Nat.le_refl _) (Nat.le_refl _) (r_putx _ hX (sgS sr) (by simp) (fun v2 hX => ⟨rfl, ?_⟩))
      refine g_iconst (nI 0) rfl (by decide) ?_
      refine g_store [some (.ref 25), some (.int (nI i)), some (.int (nI 0)), none] rfl rfl trivial (Nat.le_of_ble_eq_true rfl) rfl ?_
      exact r_wr_1 i lv sr dc db tk hi h3 h4 h5 h6 h7 l1 l2 s1 d1 b1 t1 hQ 4 0 v2 (by simpa using hX) (by omega) (by omega)
    · exact absurd c2 (nI_ne0 (by omega) (by omega))
  · exact absurd c1 (show ¬ bI true = 0 by decide)
set_option maxRecDepth 20000 in
theorem r_write_p {pr : aC} {d : Nat} {r : rS} (i : Nat) (hi : i < 220) (h3 : r.2 37 i = 0) (nr : Nat) (h1 : r.1 1 = nI nr) (hnr : nr ≤ 220) (hin : i < nr) {Q : Option Value → rS → Prop} (hQ : ∀ v, rtx r v [112, 97, 115, 115] → Q (some (.int (nI 4))) v) : rR pr (d + 4 + 1) 222 [.ref 25, .int (nI i)] r Q := by
  refine gR_of mi_222 rFr_rf rfl (Nat.le_of_ble_eq_true rfl) ?_
  show rB pr (d + 4) cd_222 (Option.some Jvm.ClassFile.FieldType.int) Q 0 [some (.ref 25), some (.int (nI i)), none, none] [] r
  refine g_load rfl rfl rfl trivial ?_
  refine g_load rfl rfl rfl trivial ?_
  refine g_virtI (a := 25) (ci := 8) (n := 1) [.int (nI i)] rFr_tr rfl rfl (by decide) rfl r_this rfl (Nat.le_of_ble_eq_true rfl) (Nat.le_refl _) (Nat.le_refl _) (r_isResult (nI i) nr h1 hnr ⟨_, rfl, ?_⟩)
  rw [irF_t (by omega) hin]
  refine g_if_ne rfl (fun c1 => ?_) (fun c1 => ?_)
  · refine g_load rfl rfl rfl trivial ?_
    refine g_iconst (nI 0) rfl (by decide) ?_
    refine r_puti rfl (by simp [rIs]) ?_
    have hX := rtx_0 r
    generalize (upd r.1 22 (nI 0), r.2) = u at hX ⊢
    refine g_load rfl rfl rfl trivial ?_
    refine r_getf rfl rfl ?_
    refine g_load rfl rfl rfl trivial ?_
    refine r_ia i rfl ⟨by decide, by decide, rfl⟩ rfl (by show _ < 220; omega) ?_
    rw [hX.2.1 _ (by decide), h3]
    refine g_if_ne rfl (fun c2 => ?_) (fun c2 => ?_)
    · exact absurd rfl c2
    · refine g_load rfl rfl rfl trivial ?_
      refine g_bipush (nI 112) rfl (by decide) ?_
      refine g_virtV (a := 25) (ci := 8) (n := 1) [.int (nI (112))] rFr_tr rfl rfl (by decide) rfl r_this rfl (Nat.le_of_ble_eq_true rfl) (Nat.le_refl _) (Nat.le_refl _) (r_putx _ hX (112) (by decide) (fun v1 hX => ⟨rfl, ?_⟩))
      refine g_load rfl rfl rfl trivial ?_
      refine g_bipush (nI 97) rfl (by decide) ?_
      refine g_virtV (a := 25) (ci := 8) (n := 1) [.int (nI (97))] rFr_tr rfl rfl (by decide) rfl r_this rfl (Nat.le_of_ble_eq_true rfl) (Nat.le_refl _) (Nat.le_refl _) (r_putx _ hX (97) (by decide) (fun v2 hX => ⟨rfl, ?_⟩))
      refine g_load rfl rfl rfl trivial ?_
      refine g_bipush (nI 115) rfl (by decide) ?_
      refine g_virtV (a := 25) (ci := 8) (n := 1) [.int (nI (115))] rFr_tr rfl rfl (by decide) rfl r_this rfl (Nat.le_of_ble_eq_true rfl) (Nat.le_refl _) (Nat.le_refl _) (r_putx _ hX (115) (by decide) (fun v3 hX => ⟨rfl, ?_⟩))
      refine g_load rfl rfl rfl trivial ?_
      refine g_bipush (nI 115) rfl (by decide) ?_
      refine g_virtV (a := 25) (ci := 8) (n := 1) [.int (nI (115))] rFr_tr rfl rfl (by decide) rfl r_this rfl (Nat.le_of_ble_eq_true rfl) (Nat.le_refl _) (Nat.le_refl _) (r_putx _ hX (115) (by decide) (fun v4 hX => ⟨rfl, ?_⟩))
      refine g_iconst (nI 4) rfl (by decide) ?_
      refine g_vret rfl trivial ⟨rfl, rfl⟩ (Nat.le_refl _) (Nat.le_refl _) ?_
      exact hQ _ hX
  · exact absurd c1 (show ¬ bI true = 0 by decide)
set_option maxRecDepth 20000 in
theorem r_write_n {pr : aC} {d : Nat} {r : rS} (i : Int32) (nr : Nat) (h1 : r.1 1 = nI nr) (hnr : nr ≤ 220) (hno : irF nr i = false) {Q : Option Value → rS → Prop} (hQ : Q (some (.int (-1))) r) : rR pr (d + 4 + 1) 222 [.ref 25, .int i] r Q := by
  refine gR_of mi_222 rFr_rf rfl (Nat.le_of_ble_eq_true rfl) ?_
  show rB pr (d + 4) cd_222 (Option.some Jvm.ClassFile.FieldType.int) Q 0 [some (.ref 25), some (.int i), none, none] [] r
  refine g_load rfl rfl rfl trivial ?_
  refine g_load rfl rfl rfl trivial ?_
  refine g_virtI (a := 25) (ci := 8) (n := 1) [.int i] rFr_tr rfl rfl (by decide) rfl r_this rfl (Nat.le_of_ble_eq_true rfl) (Nat.le_refl _) (Nat.le_refl _) (r_isResult i nr h1 hnr ⟨_, rfl, ?_⟩)
  rw [hno]
  refine g_if_ne rfl (fun c1 => ?_) (fun c1 => ?_)
  · exact absurd rfl c1
  · refine g_iconst (-1) rfl (by decide) ?_
    refine g_vret rfl trivial ⟨rfl, rfl⟩ (Nat.le_refl _) (Nat.le_refl _) ?_
    exact hQ
