/-! ===== the JDK: numbers and Strings are appended ===== -/
theorem ng_10 : ∀ x, x < 100 → ((nI x).toInt < 0 → False) ∧ (-10 < -nI x ↔ x < 10) ∧ (-100 < -nI x) ∧ (-9 ≤ -nI x ↔ x < 10) ∧ -(-nI x) = nI x := by decide +kernel
set_option maxRecDepth 20000 in
theorem p_ssz_2 {pr : aC} {d : Nat} {σ : Type} {Rp : σ → aH → Prop} {Fr : aH → aH → Prop} (hrf : ∀ h, Fr h h) (htr : ∀ a b d, Fr a b → Fr b d → Fr a d) {u : σ} (x : Nat) (hx : x < 100) {Q : Option Value → σ → Prop} (hQ : Q (some (.int (nI 2))) u) : pB Rp Fr pr (d) cd_245 (Option.some Jvm.ClassFile.FieldType.int) Q 13 [some (.int (-nI x)), some (.int (nI 0)), some (.int (-100)), some (.int (nI 2))] [] u := by
  refine g_load rfl rfl rfl trivial ?_
  refine g_bipush (nI 10) rfl (by decide) ?_
  refine g_icmp_ge rfl (fun c1 => ?_) (fun c1 => ?_)
  · exact absurd c1 (by decide)
  · refine g_load rfl rfl rfl trivial ?_
    refine g_load rfl rfl rfl trivial ?_
    refine g_icmp_le rfl (fun c2 => ?_) (fun c2 => ?_)
    · exact absurd (ng_10 x hx).2.2.1 (Int32.not_lt.mpr c2)
    · refine g_load rfl rfl rfl trivial ?_
      refine g_load rfl rfl rfl trivial ?_
      refine g_iadd rfl ?_
      refine g_vret rfl trivial ⟨rfl, rfl⟩ (Nat.le_refl _) (Nat.le_refl _) ?_
      exact hQ
set_option maxRecDepth 20000 in
theorem p_ssz {pr : aC} {d : Nat} {σ : Type} {Rp : σ → aH → Prop} {Fr : aH → aH → Prop} (hrf : ∀ h, Fr h h) (htr : ∀ a b d, Fr a b → Fr b d → Fr a d) {u : σ} (x : Nat) (hx : x < 100) {Q : Option Value → σ → Prop} (hQ : Q (some (.int (nI (if x < 10 then 1 else 2)))) u) : pR Rp Fr pr (d + 1) 245 [.int (nI x)] u Q := by
  refine gR_of mi_245 hrf rfl (Nat.le_of_ble_eq_true rfl) ?_
  show pB Rp Fr pr (d) cd_245 (Option.some Jvm.ClassFile.FieldType.int) Q 0 [some (.int (nI x)), none, none, none] [] u
  refine g_iconst (nI 1) rfl (by decide) ?_
  refine g_store [some (.int (nI x)), some (.int (nI 1)), none, none] rfl rfl trivial (Nat.le_of_ble_eq_true rfl) rfl ?_
  refine g_load rfl rfl rfl trivial ?_
  refine g_if_lt rfl (fun c1 => ?_) (fun c1 => ?_)
  · exact absurd c1 (nI_pos (by omega))
  · refine g_iconst (nI 0) rfl (by decide) ?_
    refine g_store [some (.int (nI x)), some (.int (nI 0)), none, none] rfl rfl trivial (Nat.le_of_ble_eq_true rfl) rfl ?_
    refine g_load rfl rfl rfl trivial ?_
    refine g_ineg rfl ?_
    refine g_store [some (.int (-nI x)), some (.int (nI 0)), none, none] rfl rfl trivial (Nat.le_of_ble_eq_true rfl) rfl ?_
    refine g_bipush (-10) rfl (by decide) ?_
    refine g_store [some (.int (-nI x)), some (.int (nI 0)), some (.int (-10)), none] rfl rfl trivial (Nat.le_of_ble_eq_true rfl) rfl ?_
    refine g_iconst (nI 1) rfl (by decide) ?_
    refine g_store [some (.int (-nI x)), some (.int (nI 0)), some (.int (-10)), some (.int (nI 1))] rfl rfl trivial (Nat.le_of_ble_eq_true rfl) rfl ?_
    refine g_load rfl rfl rfl trivial ?_
    refine g_bipush (nI 10) rfl (by decide) ?_
    refine g_icmp_ge rfl (fun c2 => ?_) (fun c2 => ?_)
    · exact absurd c2 (by decide)
    · refine g_load rfl rfl rfl trivial ?_
      refine g_load rfl rfl rfl trivial ?_
      refine g_icmp_le rfl (fun c3 => ?_) (fun c3 => ?_)
      · have h1 : ¬ x < 10 := fun z => absurd ((ng_10 x hx).2.1.mpr z) (Int32.not_lt.mpr c3)
        rw [if_neg h1] at hQ
        refine g_bipush (nI 10) rfl (by decide) ?_
        refine g_load rfl rfl rfl trivial ?_
        refine g_imul rfl ?_
        refine g_store [some (.int (-nI x)), some (.int (nI 0)), some (.int (-100)), some (.int (nI 1))] rfl rfl trivial (Nat.le_of_ble_eq_true rfl) rfl ?_
        refine g_iinc (nI 2) [some (.int (-nI x)), some (.int (nI 0)), some (.int (-100)), some (.int (nI 2))] rfl rfl rfl rfl ?_
        exact g_goto rfl (p_ssz_2 hrf htr x hx hQ)
      · have h1 : x < 10 := (ng_10 x hx).2.1.mp (Int32.not_le.mp c3)
        rw [if_pos h1] at hQ
        refine g_load rfl rfl rfl trivial ?_
        refine g_load rfl rfl rfl trivial ?_
        refine g_iadd rfl ?_
        refine g_vret rfl trivial ⟨rfl, rfl⟩ (Nat.le_refl _) (Nat.le_refl _) ?_
        exact hQ
theorem b48 : ∀ x, x < 100 → vp_nar .byte (nI (48 + x % 10)) = nI (48 + x % 10) ∧ vp_nar .byte (nI (48 + x / 10)) = nI (48 + x / 10) := by decide +kernel
/-- the digits of a number below a hundred -/
def dgs (x : Nat) : List Nat := if x < 10 then [48 + x] else [48 + x / 10, 48 + x % 10]
def gcS (u : cS) (k x : Nat) : cS := if x < 10 then upI u 24 (k - 1) (nI (48 + x % 10)) else upI (upI u 24 (k - 1) (nI (48 + x % 10))) 24 (k - 2) (nI (48 + x / 10))
set_option maxRecDepth 20000 in
theorem w_gch {pr : aC} {d : Nat} {u : cS} (k24 : u.kd 24 = 16) (k x : Nat) (hx : x < 100) (hk : 2 ≤ k ∨ (x < 10 ∧ 1 ≤ k)) (hk2 : k ≤ 16) {Q : Option Value → cS → Prop} (hQ : ∀ o, Q (some (.int o)) (gcS u k x)) : wR pr (d + 1) 246 [.int (nI x), .int (nI k), .ref 24] u Q := by
  refine gR_of mi_246 cFr_rf rfl (Nat.le_of_ble_eq_true rfl) ?_
  show wB pr (d) cd_246 (Option.some Jvm.ClassFile.FieldType.int) Q 0 [some (.int (nI x)), some (.int (nI k)), some (.ref 24), none, none, none, none] [] u
  refine g_load rfl rfl rfl trivial ?_
  refine g_store [some (.int (nI x)), some (.int (nI k)), some (.ref 24), none, none, some (.int (nI k)), none] rfl rfl trivial (Nat.le_of_ble_eq_true rfl) rfl ?_
  refine g_load rfl rfl rfl trivial ?_
  refine g_if_ge rfl (fun c1 => ?_) (fun c1 => ?_)
  · refine g_iconst (nI 0) rfl (by decide) ?_
    refine g_store [some (.int (nI x)), some (.int (nI k)), some (.ref 24), none, none, some (.int (nI k)), some (.int (nI 0))] rfl rfl trivial (Nat.le_of_ble_eq_true rfl) rfl ?_
    refine g_load rfl rfl rfl trivial ?_
    refine g_if_ne rfl (fun c2 => ?_) (fun c2 => ?_)
    · exact absurd rfl c2
    · refine g_load rfl rfl rfl trivial ?_
      refine g_ineg rfl ?_
      refine g_store [some (.int (-nI x)), some (.int (nI k)), some (.ref 24), none, none, some (.int (nI k)), some (.int (nI 0))] rfl rfl trivial (Nat.le_of_ble_eq_true rfl) rfl ?_
      refine g_load rfl rfl rfl trivial ?_
      refine g_bipush (-100) rfl (by decide) ?_
      refine g_icmp_gt rfl (fun c3 => ?_) (fun c3 => ?_)
      · refine g_load rfl rfl rfl trivial ?_
        refine g_iinc (nI (k - 1)) [some (.int (-nI x)), some (.int (nI k)), some (.ref 24), none, none, some (.int (nI (k - 1))), some (.int (nI 0))] rfl rfl (by rw [show k = (k - 1) + 1 by omega]; exact pk_m1 _) rfl ?_
        refine g_load rfl rfl rfl trivial ?_
        refine g_gets0 rfl ?_
        refine g_load rfl rfl rfl trivial ?_
        refine g_ineg rfl ?_
        rw [(ng_10 x hx).2.2.2.2]
        refine c_baC x rfl (by decide) (by rfl) rfl (by omega) (by decide) ?_
        refine c_bas (k - 1) rfl (κ := 16) (by exact k24) (by decide) (by rfl) rfl (by omega) (by decide) (by rfl) ?_
        rw [(b48 x hx).1]
        refine g_load rfl rfl rfl trivial ?_
        refine g_bipush (-9) rfl (by decide) ?_
        refine g_icmp_ge rfl (fun c4 => ?_) (fun c4 => ?_)
        · have h1 : x < 10 := (ng_10 x hx).2.2.2.1.mp c4
          have hQ : ∀ o, Q (some (.int o)) (upI u 24 (k - 1) (nI (48 + x % 10))) := fun o => by have h9 := hQ o; unfold gcS at h9; rw [if_pos h1] at h9; exact h9
          refine g_load rfl rfl rfl trivial ?_
          refine g_if_eq rfl (fun c5 => ?_) (fun c5 => ?_)
          · refine g_load rfl rfl rfl trivial ?_
            refine g_vret rfl trivial ⟨rfl, rfl⟩ (Nat.le_refl _) (Nat.le_refl _) ?_
            exact hQ _
          · exact absurd rfl c5
        · have h1 : ¬ x < 10 := fun z => c4 ((ng_10 x hx).2.2.2.1.mpr z)
          have hQ : ∀ o, Q (some (.int o)) (upI (upI u 24 (k - 1) (nI (48 + x % 10))) 24 (k - 2) (nI (48 + x / 10))) := fun o => by have h9 := hQ o; unfold gcS at h9; rw [if_neg h1] at h9; exact h9
          refine g_load rfl rfl rfl trivial ?_
          refine g_iinc (nI (k - 2)) [some (.int (-nI x)), some (.int (nI k)), some (.ref 24), none, none, some (.int (nI (k - 2))), some (.int (nI 0))] rfl rfl (by rw [show k - 1 = (k - 2) + 1 by omega]; exact pk_m1 _) rfl ?_
          refine g_load rfl rfl rfl trivial ?_
          refine g_gets0 rfl ?_
          refine g_load rfl rfl rfl trivial ?_
          refine g_ineg rfl ?_
          rw [(ng_10 x hx).2.2.2.2]
          refine c_baC x rfl (by decide) (by rfl) rfl (by omega) (by decide) ?_
          refine c_bas (k - 2) rfl (κ := 16) (by exact k24) (by decide) (by rfl) rfl (by omega) (by decide) (by rfl) ?_
          rw [(b48 x hx).2]
          refine g_load rfl rfl rfl trivial ?_
          refine g_if_eq rfl (fun c6 => ?_) (fun c6 => ?_)
          · refine g_load rfl rfl rfl trivial ?_
            refine g_vret rfl trivial ⟨rfl, rfl⟩ (Nat.le_refl _) (Nat.le_refl _) ?_
            exact hQ _
          · exact absurd rfl c6
      · exact absurd (ng_10 x hx).2.2.1 c3
  · exact absurd c1 (fun z => nI_pos (by omega) (Int32.not_le.mp z))
theorem dgs_l (x : Nat) : (dgs x).length = if x < 10 then 1 else 2 := by unfold dgs; split <;> rfl
theorem dgs_c {x : Nat} (hx : x < 100) (i : Nat) (hi : i < (dgs x).length) : (dgs x).getD i 0 < 128 := by
  unfold dgs at hi ⊢
  split at hi
  · rename_i h
    rw [if_pos h]
    have : i = 0 := by simp at hi; omega
    subst this; show 48 + x < 128; omega
  · rename_i h
    rw [if_neg h]
    rcases (show i = 0 ∨ i = 1 by simp at hi; omega) with e | e
    · subst e; show 48 + x / 10 < 128; omega
    · subst e; show 48 + x % 10 < 128; omega
theorem sb_num {u : cS} {L : List Nat} {x : Nat} (hL : sbJ u L) (hx : x < 100) (h16 : L.length + (if x < 10 then 1 else 2) ≤ 16) : onS u (upO (gcS u (L.length + (if x < 10 then 1 else 2)) x) 23 3 (nI (L.length + (if x < 10 then 1 else 2)))) ∧ sbJ (upO (gcS u (L.length + (if x < 10 then 1 else 2)) x) 23 3 (nI (L.length + (if x < 10 then 1 else 2)))) (L ++ dgs x) := by
  have hL0 := hL
  obtain ⟨k23, k24, hcd, hn, hn2, hg, hg2⟩ := hL
  by_cases h : x < 10
  · rw [if_pos h] at h16 ⊢
    unfold gcS dgs
    rw [if_pos h, if_pos h, show x % 10 = x by omega, show L.length + 1 - 1 = L.length by omega]
    exact sb_app hL0 (by omega) (by omega)
  · rw [if_neg h] at h16 ⊢
    unfold gcS dgs
    rw [if_neg h, if_neg h, show L.length + 2 - 1 = L.length + 1 by omega, show L.length + 2 - 2 = L.length by omega]
    have el : (L ++ [48 + x / 10, 48 + x % 10]).length = L.length + 2 := by simp
    have g0 : ∀ i, i < L.length → (L ++ [48 + x / 10, 48 + x % 10]).getD i 0 = L.getD i 0 := fun i hi => by simp [List.getD, List.getElem?_append_left hi]
    have g1 : (L ++ [48 + x / 10, 48 + x % 10]).getD L.length 0 = 48 + x / 10 := by simp [List.getD]
    have g2 : (L ++ [48 + x / 10, 48 + x % 10]).getD (L.length + 1) 0 = 48 + x % 10 := by simp [List.getD]
    refine ⟨⟨rfl, rfl, rfl, rfl, fun b hb => u2_a u.oI _ hb, fun b hb => ?_⟩, k23, k24, ?_, ?_, by omega, fun i hi => ?_, fun i hi => ?_⟩
    · show u2 (u2 u.rI 24 (L.length + 1) (nI (48 + x % 10))) 24 L.length (nI (48 + x / 10)) b = _
      rw [u2_a _ _ hb, u2_a _ _ hb]
    · show u2 u.oI 23 3 (nI (L.length + 2)) 23 1 = 0; rw [u2_k _ _ (by decide)]; exact hcd
    · show u2 u.oI 23 3 (nI (L.length + 2)) 23 3 = _; rw [u2_s, el]
    · show u2 (u2 u.rI 24 (L.length + 1) (nI (48 + x % 10))) 24 L.length (nI (48 + x / 10)) 24 i = _
      by_cases e : i = L.length
      · rw [e, u2_s, g1]
      · rw [u2_k _ _ e]
        by_cases e2 : i = L.length + 1
        · rw [e2, u2_s, g2]
        · rw [u2_k _ _ e2, g0 i (by omega)]; exact hg i (by omega)
    · by_cases e : i = L.length
      · rw [e, g1]; omega
      · by_cases e2 : i = L.length + 1
        · rw [e2, g2]; omega
        · rw [g0 i (by omega)]; exact hg2 i (by omega)
set_option maxRecDepth 20000 in
theorem w_api5 {pr : aC} {d : Nat} {u : cS} (L : List Nat) (hL : sbJ u L) (x : Nat) (hx : x < 100) (h16 : L.length + (if x < 10 then 1 else 2) ≤ 16) {Q : Option Value → cS → Prop} (hQ : ∀ v, onS u v → sbJ v (L ++ dgs x) → Q (some (.ref 23)) v) : wR pr (d + 1 + 1) 244 [.ref 23, .int (nI x)] u Q := by
  refine gR_of mi_244 cFr_rf rfl (Nat.le_of_ble_eq_true rfl) ?_
  show wB pr (d + 1) cd_244 (Option.some (Jvm.ClassFile.FieldType.object "java/lang/AbstractStringBuilder")) Q 0 [some (.ref 23), some (.int (nI x)), none, none] [] u
  have hL0 := hL
  obtain ⟨k23, k24, hcd, hn, hn2, hg, hg2⟩ := hL
  have hs1 : 1 ≤ (if x < 10 then 1 else 2) := by split <;> omega
  have hs2 : 2 ≤ L.length + (if x < 10 then 1 else 2) ∨ (x < 10 ∧ 1 ≤ L.length + (if x < 10 then 1 else 2)) := by
    by_cases h : x < 10
    · exact Or.inr ⟨h, by omega⟩
    · rw [if_neg h]; omega
  have hg24 : (gcS u (L.length + (if x < 10 then 1 else 2)) x).kd = u.kd := by unfold gcS; split <;> rfl
  refine g_load rfl rfl rfl trivial ?_
  refine c_getf rfl (κ := 15) (by exact k23) (by decide) (by rfl) (by rfl) ?_
  rw [hn]
  refine g_store [some (.ref 23), some (.int (nI x)), some (.int (nI L.length)), none] rfl rfl trivial (Nat.le_of_ble_eq_true rfl) rfl ?_
  refine g_load rfl rfl rfl trivial ?_
  refine g_load rfl rfl rfl trivial ?_
  refine g_statI [.int (nI x)] cFr_tr rfl rfl rfl (Nat.le_of_ble_eq_true rfl) (Nat.le_refl _) (Nat.le_refl _) (p_ssz cFr_rf cFr_tr x hx ⟨_, rfl, ?_⟩)
  refine g_iadd rfl ?_
  rw [nI_add]
  refine g_store [some (.ref 23), some (.int (nI x)), some (.int (nI L.length)), some (.int (nI (L.length + (if x < 10 then 1 else 2))))] rfl rfl trivial (Nat.le_of_ble_eq_true rfl) rfl ?_
  refine g_load rfl rfl rfl trivial ?_
  refine g_load rfl rfl rfl trivial ?_
  refine g_virtV (a := 23) (ci := 0) (n := 1) [.int (nI (L.length + (if x < 10 then 1 else 2)))] cFr_tr rfl rfl (by decide) rfl (c_ob (κ := 15) k23 (by decide) (by rfl)) rfl (Nat.le_of_ble_eq_true rfl) (Nat.le_refl _) (Nat.le_refl _) (c_lift cFr_rf (fun _ h => h) (c_ens k23 k24 hcd (L.length + (if x < 10 then 1 else 2)) (by omega) ⟨rfl, ?_⟩))
  refine g_load rfl rfl rfl trivial ?_
  refine g_virtI (a := 23) (ci := 0) (n := 0) [] cFr_tr rfl rfl (by decide) rfl (c_ob (κ := 15) k23 (by decide) (by rfl)) rfl (Nat.le_of_ble_eq_true rfl) (Nat.le_refl _) (Nat.le_refl _) (c_lift cFr_rf (fun _ h => h) (c_lat k23 k24 hcd ⟨_, rfl, ?_⟩))
  refine g_if_eq rfl (fun c1 => ?_) (fun c1 => ?_)
  · exact absurd c1 (by decide)
  · refine g_load rfl rfl rfl trivial ?_
    refine g_load rfl rfl rfl trivial ?_
    refine g_load rfl rfl rfl trivial ?_
    refine c_getf rfl (κ := 15) (by exact k23) (by decide) (by rfl) (by rfl) ?_
    refine g_statI [.int (nI x), .int (nI (L.length + (if x < 10 then 1 else 2))), .ref 24] cFr_tr rfl rfl rfl (Nat.le_of_ble_eq_true rfl) (Nat.le_refl _) (Nat.le_refl _) (w_gch k24 (L.length + (if x < 10 then 1 else 2)) x hx hs2 h16 (fun o => ⟨_, rfl, ?_⟩))
    refine g_pop rfl rfl ?_
    refine g_goto rfl ?_
    refine g_load rfl rfl rfl trivial ?_
    refine g_load rfl rfl rfl trivial ?_
    refine c_puti rfl (κ := 15) (by exact (show (gcS u (L.length + (if x < 10 then 1 else 2)) x).kd 23 = 15 by rw [hg24]; exact k23)) (by decide) (by rfl) (Nat.le_of_ble_eq_true rfl) ⟨_, _, rfl, rfl, rfl, rfl⟩ (by simp [cCell, upO, u2, cS.kd, cS.oI, cS.rI, cS.rL, cS.rR, cS.tp]) ?_
    refine g_load rfl rfl rfl trivial ?_
    refine g_vret rfl trivial (by first | exact ⟨by decide, by decide⟩ | trivial) (Nat.le_refl _) (Nat.le_refl _) ?_
    exact hQ _ (sb_num hL0 hx h16).1 (sb_num hL0 hx h16).2
set_option maxRecDepth 20000 in
theorem w_api {pr : aC} {d : Nat} {u : cS} (L : List Nat) (hL : sbJ u L) (x : Nat) (hx : x < 100) (h16 : L.length + (if x < 10 then 1 else 2) ≤ 16) {Q : Option Value → cS → Prop} (hQ : ∀ v, onS u v → sbJ v (L ++ dgs x) → Q (some (.ref 23)) v) : wR pr (d + 2 + 1) 243 [.ref 23, .int (nI x)] u Q := by
  refine gR_of mi_243 cFr_rf rfl (Nat.le_of_ble_eq_true rfl) ?_
  show wB pr (d + 2) cd_243 (Option.some (Jvm.ClassFile.FieldType.object "java/lang/StringBuilder")) Q 0 [some (.ref 23), some (.int (nI x))] [] u
  have k23 := hL.1
  refine g_load rfl rfl rfl trivial ?_
  refine g_load rfl rfl rfl trivial ?_
  refine g_superI (a := 23) (n := 1) [.int (nI x)] cFr_tr rfl rfl (by decide) rfl (c_ob (κ := 15) k23 (by decide) (by rfl)) rfl (Nat.le_of_ble_eq_true rfl) (Nat.le_refl _) (Nat.le_refl _) (w_api5 L hL x hx h16 (fun v e1 e2 => ⟨_, rfl, ?_⟩))
  refine g_pop rfl rfl ?_
  refine g_load rfl rfl rfl trivial ?_
  refine g_vret rfl trivial (by first | exact ⟨by decide, by decide⟩ | trivial) (Nat.le_refl _) (Nat.le_refl _) ?_
  exact hQ v e1 e2
