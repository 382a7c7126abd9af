/-! ===== the club: what its methods share (nothing written) ===== -/
set_option maxRecDepth 20000 in
theorem p_isPair {pr : aC} {d : Nat} {σ : Type} {Rp : σ → aH → Prop} {Fr : aH → aH → Prop} (hrf : ∀ h, Fr h h) (htr : ∀ a b d, Fr a b → Fr b d → Fr a d) {u : σ} (p : Int32) {Q : Option Value → σ → Prop} (hQ : Q (some (.int (bI (inF p 0 39)))) u) : pR Rp Fr pr (d + 1) 145 [.int p] u Q := by
  refine gR_of mi_145 hrf rfl (Nat.le_of_ble_eq_true rfl) ?_
  show pB Rp Fr pr (d) cd_145 (Option.some Jvm.ClassFile.FieldType.boolean) Q 0 [some (.int p)] [] u
  refine g_load rfl rfl rfl trivial ?_
  refine g_if_lt rfl (fun c1 => ?_) (fun c1 => ?_)
  · rw [show inF p 0 39 = false by unfold inF; simp [show ¬ (0 : Int32) ≤ p from Int32.not_le.mpr c1]] at hQ
    refine g_iconst (nI 0) rfl (by decide) ?_
    refine g_vret rfl trivial (by first | exact ⟨by decide, by decide⟩ | trivial) (Nat.le_refl _) (Nat.le_refl _) ?_
    exact hQ
  · refine g_load rfl rfl rfl trivial ?_
    refine g_bipush (nI 40) rfl (by decide) ?_
    refine g_icmp_ge rfl (fun c2 => ?_) (fun c2 => ?_)
    · have h9 : ¬ p ≤ 39 := fun z => by
        rw [Int32.le_iff_toInt_le] at c2 z
        have e1 : (nI 40).toInt = 40 := by decide
        have e2 : (39 : Int32).toInt = 39 := by decide
        omega
      rw [show inF p 0 39 = false by unfold inF; simp [h9]] at hQ
      refine g_iconst (nI 0) rfl (by decide) ?_
      refine g_vret rfl trivial (by first | exact ⟨by decide, by decide⟩ | trivial) (Nat.le_refl _) (Nat.le_refl _) ?_
      exact hQ
    · have h9 : p ≤ 39 := by
        rw [Int32.le_iff_toInt_le] at c2 ⊢
        have e1 : (nI 40).toInt = 40 := by decide
        have e2 : (39 : Int32).toInt = 39 := by decide
        omega
      rw [show inF p 0 39 = true by unfold inF; simp [h9, Int32.not_lt.mp c1]] at hQ
      refine g_iconst (nI 1) rfl (by decide) ?_
      refine g_goto rfl ?_
      refine g_vret rfl trivial (by first | exact ⟨by decide, by decide⟩ | trivial) (Nat.le_refl _) (Nat.le_refl _) ?_
      exact hQ
set_option maxRecDepth 20000 in
theorem p_isPart {pr : aC} {d : Nat} {σ : Type} {Rp : σ → aH → Prop} {Fr : aH → aH → Prop} (hrf : ∀ h, Fr h h) (htr : ∀ a b d, Fr a b → Fr b d → Fr a d) {u : σ} (p : Int32) {Q : Option Value → σ → Prop} (hQ : Q (some (.int (bI (inF p 0 100)))) u) : pR Rp Fr pr (d + 1) 146 [.int p] u Q := by
  refine gR_of mi_146 hrf rfl (Nat.le_of_ble_eq_true rfl) ?_
  show pB Rp Fr pr (d) cd_146 (Option.some Jvm.ClassFile.FieldType.boolean) Q 0 [some (.int p)] [] u
  refine g_load rfl rfl rfl trivial ?_
  refine g_if_lt rfl (fun c1 => ?_) (fun c1 => ?_)
  · rw [show inF p 0 100 = false by unfold inF; simp [show ¬ (0 : Int32) ≤ p from Int32.not_le.mpr c1]] at hQ
    refine g_iconst (nI 0) rfl (by decide) ?_
    refine g_vret rfl trivial (by first | exact ⟨by decide, by decide⟩ | trivial) (Nat.le_refl _) (Nat.le_refl _) ?_
    exact hQ
  · refine g_load rfl rfl rfl trivial ?_
    refine g_bipush (nI 100) rfl (by decide) ?_
    refine g_icmp_gt rfl (fun c2 => ?_) (fun c2 => ?_)
    · rw [show inF p 0 100 = false by unfold inF; simp [show ¬ p ≤ (100 : Int32) from Int32.not_le.mpr c2]] at hQ
      refine g_iconst (nI 0) rfl (by decide) ?_
      refine g_vret rfl trivial (by first | exact ⟨by decide, by decide⟩ | trivial) (Nat.le_refl _) (Nat.le_refl _) ?_
      exact hQ
    · rw [show inF p 0 100 = true by unfold inF; simp [show p ≤ (100 : Int32) from Int32.not_lt.mp c2, Int32.not_lt.mp c1]] at hQ
      refine g_iconst (nI 1) rfl (by decide) ?_
      refine g_goto rfl ?_
      refine g_vret rfl trivial (by first | exact ⟨by decide, by decide⟩ | trivial) (Nat.le_refl _) (Nat.le_refl _) ?_
      exact hQ
set_option maxRecDepth 20000 in
theorem c_bnum {pr : aC} {d : Nat} {u : cS} (nb : Nat) (hk : kJ u) (hnb : u.oI 16 1 = nI nb) (hnb2 : nb ≤ 36) (b B : Nat) (hb : b < nb) (hB : u.rR 17 b = some B) {Q : Option Value → cS → Prop} (hQ : Q (some (.ref B)) u) : cR pr (d + 1) 139 [.ref 16, .int (nI (b + 1))] u Q := by
  refine gR_of mi_139 eF_rf rfl (Nat.le_of_ble_eq_true rfl) ?_
  show cB pr (d) cd_139 (Option.some (Jvm.ClassFile.FieldType.object "BridgeClub$Board")) Q 0 [some (.ref 16), some (.int (nI (b + 1)))] [] u
  obtain ⟨k16, k17, k18, k19, k20, k21, k22, k23, k24⟩ := hk
  refine g_load rfl rfl rfl trivial ?_
  refine g_iconst (nI 1) rfl (by decide) ?_
  refine g_icmp_lt rfl (fun c1 => ?_) (fun c1 => ?_)
  · rw [nI_ltI (by omega) (by omega)] at c1
    exact absurd c1 (by omega)
  · refine g_load rfl rfl rfl trivial ?_
    refine g_load rfl rfl rfl trivial ?_
    refine c_getf rfl (by assumption) (by decide) (by rfl) (by rfl) ?_
    rw [hnb]
    refine g_icmp_gt rfl (fun c2 => ?_) (fun c2 => ?_)
    · rw [nI_ltI (by omega) (by omega)] at c2
      exact absurd c2 (by omega)
    · refine g_load rfl rfl rfl trivial ?_
      refine g_load rfl rfl rfl trivial ?_
      refine c_getf rfl (by assumption) (by decide) (by rfl) (by rfl) ?_
      refine c_len rfl (by assumption) (by decide) (by rfl) (by decide) ?_
      refine g_icmp_gt rfl (fun c3 => ?_) (fun c3 => ?_)
      · rw [nI_ltI (by omega) (by omega)] at c3
        exact absurd c3 (by omega)
      · refine g_load rfl rfl rfl trivial ?_
        refine c_getf rfl (by assumption) (by decide) (by rfl) (by rfl) ?_
        refine g_load rfl rfl rfl trivial ?_
        refine g_iconst (nI 1) rfl (by decide) ?_
        refine g_isub rfl ?_
        rw [pk_sub (by omega), Nat.add_sub_cancel]
        refine c_aa b rfl (by assumption) (by decide) (by rfl) ⟨by decide, by decide⟩ rfl (by omega) (by decide) ?_
        rw [hB]
        refine g_goto rfl ?_
        refine g_vret rfl trivial (by first | exact ⟨by decide, by decide⟩ | trivial) (Nat.le_refl _) (Nat.le_refl _) ?_
        exact hQ
set_option maxRecDepth 20000 in
theorem c_bnum_n {pr : aC} {d : Nat} {u : cS} (nb : Nat) (hk : kJ u) (hnb : u.oI 16 1 = nI nb) (hnb2 : nb ≤ 36) (n : Int32) (hn : inF n 1 (nI nb) = false) {Q : Option Value → cS → Prop} (hQ : Q (some .null) u) : cR pr (d + 1) 139 [.ref 16, .int n] u Q := by
  refine gR_of mi_139 eF_rf rfl (Nat.le_of_ble_eq_true rfl) ?_
  show cB pr (d) cd_139 (Option.some (Jvm.ClassFile.FieldType.object "BridgeClub$Board")) Q 0 [some (.ref 16), some (.int n)] [] u
  obtain ⟨k16, k17, k18, k19, k20, k21, k22, k23, k24⟩ := hk
  refine g_load rfl rfl rfl trivial ?_
  refine g_iconst (nI 1) rfl (by decide) ?_
  refine g_icmp_lt rfl (fun c1 => ?_) (fun c1 => ?_)
  · refine g_null rfl ?_
    refine g_vret rfl trivial (by first | exact ⟨by decide, by decide⟩ | trivial) (Nat.le_refl _) (Nat.le_refl _) ?_
    exact hQ
  · refine g_load rfl rfl rfl trivial ?_
    refine g_load rfl rfl rfl trivial ?_
    refine c_getf rfl (by assumption) (by decide) (by rfl) (by rfl) ?_
    rw [hnb]
    refine g_icmp_gt rfl (fun c2 => ?_) (fun c2 => ?_)
    · refine g_null rfl ?_
      refine g_vret rfl trivial (by first | exact ⟨by decide, by decide⟩ | trivial) (Nat.le_refl _) (Nat.le_refl _) ?_
      exact hQ
    · exfalso
      have h9 : inF n 1 (nI nb) = true := by unfold inF; simp [Int32.not_lt.mp (show ¬ n < 1 from c1), Int32.not_lt.mp c2]
      rw [hn] at h9
      cases h9
set_option maxRecDepth 20000 in
theorem c_ratt {pr : aC} {d : Nat} {u : cS} (nr : Nat) (hk : kJ u) (hnr : u.oI 16 4 = nI nr) (hnr2 : nr ≤ 209) (i R : Nat) (hi : i < nr) (hR : u.rR 19 i = some R) {Q : Option Value → cS → Prop} (hQ : Q (some (.ref R)) u) : cR pr (d + 1) 140 [.ref 16, .int (nI i)] u Q := by
  refine gR_of mi_140 eF_rf rfl (Nat.le_of_ble_eq_true rfl) ?_
  show cB pr (d) cd_140 (Option.some (Jvm.ClassFile.FieldType.object "BridgeClub$Result")) Q 0 [some (.ref 16), some (.int (nI i))] [] u
  obtain ⟨k16, k17, k18, k19, k20, k21, k22, k23, k24⟩ := hk
  refine g_load rfl rfl rfl trivial ?_
  refine g_if_lt rfl (fun c1 => ?_) (fun c1 => ?_)
  · exact absurd c1 (nI_pos (by omega))
  · refine g_load rfl rfl rfl trivial ?_
    refine g_load rfl rfl rfl trivial ?_
    refine c_getf rfl (by assumption) (by decide) (by rfl) (by rfl) ?_
    rw [hnr]
    refine g_icmp_ge rfl (fun c2 => ?_) (fun c2 => ?_)
    · rw [nI_leI (by omega) (by omega)] at c2
      exact absurd c2 (by omega)
    · refine g_load rfl rfl rfl trivial ?_
      refine g_load rfl rfl rfl trivial ?_
      refine c_getf rfl (by assumption) (by decide) (by rfl) (by rfl) ?_
      refine c_len rfl (by assumption) (by decide) (by rfl) (by decide) ?_
      refine g_icmp_ge rfl (fun c3 => ?_) (fun c3 => ?_)
      · rw [nI_leI (by omega) (by omega)] at c3
        exact absurd c3 (by omega)
      · refine g_load rfl rfl rfl trivial ?_
        refine c_getf rfl (by assumption) (by decide) (by rfl) (by rfl) ?_
        refine g_load rfl rfl rfl trivial ?_
        refine c_aa i rfl (by assumption) (by decide) (by rfl) ⟨by decide, by decide⟩ rfl (by omega) (by decide) ?_
        rw [hR]
        refine g_goto rfl ?_
        refine g_vret rfl trivial (by first | exact ⟨by decide, by decide⟩ | trivial) (Nat.le_refl _) (Nat.le_refl _) ?_
        exact hQ
theorem irF_of {nr : Nat} {i : Int32} (hn : nr ≤ 1000) (h : irF nr i = true) : ∃ j, j < nr ∧ i = nI j := by
  unfold irF at h
  cases nr with
  | zero =>
    exfalso
    unfold inF at h
    simp only [Bool.and_eq_true, decide_eq_true_eq, Int32.le_iff_toInt_le] at h
    have e1 : (0 : Int32).toInt = 0 := by decide
    have e2 : (pI 0).toInt = -1 := by decide
    omega
  | succ k =>
    obtain ⟨y, _, h2, h3⟩ := in_of h (n := 0) (m := k) rfl rfl (by omega) (by decide)
    exact ⟨y, by omega, h3⟩
theorem irF_t {nr i : Nat} (hn : nr ≤ 1000) (h : i < nr) : irF nr (nI i) = true := by
  unfold irF inF
  cases nr with
  | zero => omega
  | succ k =>
    show (decide (nI 0 ≤ nI i) && decide (nI i ≤ nI k)) = true
    rw [decide_eq_true ((nI_leI (by omega) (by omega)).mpr (by omega)), decide_eq_true ((nI_leI (by omega) (by omega)).mpr (by omega))]; rfl
theorem irF_n {nr : Nat} {i : Int32} (h : irF nr i = false) (h0 : ¬ i < 0) (hn : nr ≤ 1000) : nI nr ≤ i := by
  apply Classical.byContradiction
  intro z
  obtain ⟨j, hj, rfl⟩ := nI_of h0
  rw [nI_leI (by omega) (by omega)] at z
  rw [irF_t hn (by omega)] at h; cases h
set_option maxRecDepth 20000 in
theorem c_ratt_n {pr : aC} {d : Nat} {u : cS} (nr : Nat) (hk : kJ u) (hnr : u.oI 16 4 = nI nr) (hnr2 : nr ≤ 209) (i : Int32) (hi : irF nr i = false) {Q : Option Value → cS → Prop} (hQ : Q (some .null) u) : cR pr (d + 1) 140 [.ref 16, .int i] u Q := by
  refine gR_of mi_140 eF_rf rfl (Nat.le_of_ble_eq_true rfl) ?_
  show cB pr (d) cd_140 (Option.some (Jvm.ClassFile.FieldType.object "BridgeClub$Result")) Q 0 [some (.ref 16), some (.int i)] [] u
  obtain ⟨k16, k17, k18, k19, k20, k21, k22, k23, k24⟩ := hk
  refine g_load rfl rfl rfl trivial ?_
  refine g_if_lt rfl (fun c1 => ?_) (fun c1 => ?_)
  · refine g_null rfl ?_
    refine g_vret rfl trivial (by first | exact ⟨by decide, by decide⟩ | trivial) (Nat.le_refl _) (Nat.le_refl _) ?_
    exact hQ
  · refine g_load rfl rfl rfl trivial ?_
    refine g_load rfl rfl rfl trivial ?_
    refine c_getf rfl (by assumption) (by decide) (by rfl) (by rfl) ?_
    rw [hnr]
    refine g_icmp_ge rfl (fun c2 => ?_) (fun c2 => ?_)
    · refine g_null rfl ?_
      refine g_vret rfl trivial (by first | exact ⟨by decide, by decide⟩ | trivial) (Nat.le_refl _) (Nat.le_refl _) ?_
      exact hQ
    · exact absurd (irF_n hi c1 (by omega)) c2
set_option maxRecDepth 20000 in
theorem c_busy {pr : aC} {d : Nat} {u : cS} (hk : kJ u) (t T B n m : Nat) (ht : t < 10) (hT : u.rR 18 t = some T) (hb : tB u T B n m) {Q : Option Value → cS → Prop} (hQ : Q (some (.ref T)) u) : cR pr (d + 1 + 1) 141 [.ref 16, .int (nI t)] u Q := by
  refine gR_of mi_141 eF_rf rfl (Nat.le_of_ble_eq_true rfl) ?_
  show cB pr (d + 1) cd_141 (Option.some (Jvm.ClassFile.FieldType.object "BridgeClub$Table")) Q 0 [some (.ref 16), some (.int (nI t)), none] [] u
  obtain ⟨k16, k17, k18, k19, k20, k21, k22, k23, k24⟩ := hk
  have kT := hb.1
  have hon := hb.2.2.2.2.2.2.2.2.1
  refine g_load rfl rfl rfl trivial ?_
  refine g_if_lt rfl (fun c1 => ?_) (fun c1 => ?_)
  · exact absurd c1 (nI_pos (by omega))
  · refine g_load rfl rfl rfl trivial ?_
    refine g_load rfl rfl rfl trivial ?_
    refine c_getf rfl (by assumption) (by decide) (by rfl) (by rfl) ?_
    refine c_len rfl (by assumption) (by decide) (by rfl) (by decide) ?_
    refine g_icmp_lt rfl (fun c2 => ?_) (fun c2 => ?_)
    · refine g_load rfl rfl rfl trivial ?_
      refine c_getf rfl (by assumption) (by decide) (by rfl) (by rfl) ?_
      refine g_load rfl rfl rfl trivial ?_
      refine c_aa t rfl (by assumption) (by decide) (by rfl) ⟨by decide, by decide⟩ rfl (by omega) (by decide) ?_
      rw [hT]
      refine g_store [some (.ref 16), some (.int (nI t)), some (.ref T)] rfl rfl trivial (Nat.le_of_ble_eq_true rfl) rfl ?_
      refine g_load rfl rfl rfl trivial ?_
      refine g_ifnull_r rfl ?_
      refine g_load rfl rfl rfl trivial ?_
      refine g_virtI (a := T) (ci := 6) (n := 0) [] eF_tr rfl rfl (by decide) rfl (c_ob (by assumption) (by decide) (by rfl)) rfl (Nat.le_of_ble_eq_true rfl) (Nat.le_refl _) (Nat.le_refl _) (c_isBusy T kT ⟨_, rfl, ?_⟩)
      rw [hon]
      refine g_if_eq rfl (fun c3 => ?_) (fun c3 => ?_)
      · exact absurd c3 (show ¬ bI true = 0 by decide)
      · refine g_load rfl rfl rfl trivial ?_
        refine g_goto rfl ?_
        refine g_vret rfl trivial (by first | exact ⟨by decide, by decide⟩ | trivial) (Nat.le_refl _) (Nat.le_refl _) ?_
        exact hQ
    · rw [nI_ltI (by omega) (by omega)] at c2
      exact absurd ht c2
set_option maxRecDepth 20000 in
theorem c_busy_i {pr : aC} {d : Nat} {u : cS} (hk : kJ u) (t : Nat) (ht : t < 10) (hT : tI0 u t) {Q : Option Value → cS → Prop} (hQ : Q (some .null) u) : cR pr (d + 1 + 1) 141 [.ref 16, .int (nI t)] u Q := by
  refine gR_of mi_141 eF_rf rfl (Nat.le_of_ble_eq_true rfl) ?_
  show cB pr (d + 1) cd_141 (Option.some (Jvm.ClassFile.FieldType.object "BridgeClub$Table")) Q 0 [some (.ref 16), some (.int (nI t)), none] [] u
  obtain ⟨k16, k17, k18, k19, k20, k21, k22, k23, k24⟩ := hk
  refine g_load rfl rfl rfl trivial ?_
  refine g_if_lt rfl (fun c1 => ?_) (fun c1 => ?_)
  · exact absurd c1 (nI_pos (by omega))
  · refine g_load rfl rfl rfl trivial ?_
    refine g_load rfl rfl rfl trivial ?_
    refine c_getf rfl (by assumption) (by decide) (by rfl) (by rfl) ?_
    refine c_len rfl (by assumption) (by decide) (by rfl) (by decide) ?_
    refine g_icmp_lt rfl (fun c2 => ?_) (fun c2 => ?_)
    · refine g_load rfl rfl rfl trivial ?_
      refine c_getf rfl (by assumption) (by decide) (by rfl) (by rfl) ?_
      refine g_load rfl rfl rfl trivial ?_
      refine c_aa t rfl (by assumption) (by decide) (by rfl) ⟨by decide, by decide⟩ rfl (by omega) (by decide) ?_
      rcases hT with hT | ⟨T, hT, hTk, hon⟩
      · rw [hT]
        refine g_store [some (.ref 16), some (.int (nI t)), some .null] rfl rfl trivial (Nat.le_of_ble_eq_true rfl) rfl ?_
        refine g_load rfl rfl rfl trivial ?_
        refine g_ifnull_n rfl ?_
        refine g_null rfl ?_
        exact g_vret rfl trivial (by first | exact ⟨by decide, by decide⟩ | trivial) (Nat.le_refl _) (Nat.le_refl _) hQ
      rw [hT]
      have kT := hTk.1
      refine g_store [some (.ref 16), some (.int (nI t)), some (.ref T)] rfl rfl trivial (Nat.le_of_ble_eq_true rfl) rfl ?_
      refine g_load rfl rfl rfl trivial ?_
      refine g_ifnull_r rfl ?_
      refine g_load rfl rfl rfl trivial ?_
      refine g_virtI (a := T) (ci := 6) (n := 0) [] eF_tr rfl rfl (by decide) rfl (c_ob (by assumption) (by decide) (by rfl)) rfl (Nat.le_of_ble_eq_true rfl) (Nat.le_refl _) (Nat.le_refl _) (c_isBusy T kT ⟨_, rfl, ?_⟩)
      rw [hon]
      refine g_if_eq rfl (fun c3 => ?_) (fun c3 => ?_)
      · refine g_null rfl ?_
        refine g_vret rfl trivial (by first | exact ⟨by decide, by decide⟩ | trivial) (Nat.le_refl _) (Nat.le_refl _) ?_
        exact hQ
      · exact absurd rfl c3
    · rw [nI_ltI (by omega) (by omega)] at c2
      exact absurd ht c2
set_option maxRecDepth 20000 in
theorem c_busy_o {pr : aC} {d : Nat} {u : cS} (hk : kJ u) (t : Int32) (ht : inF t 0 9 = false) {Q : Option Value → cS → Prop} (hQ : Q (some .null) u) : cR pr (d + 1 + 1) 141 [.ref 16, .int t] u Q := by
  refine gR_of mi_141 eF_rf rfl (Nat.le_of_ble_eq_true rfl) ?_
  show cB pr (d + 1) cd_141 (Option.some (Jvm.ClassFile.FieldType.object "BridgeClub$Table")) Q 0 [some (.ref 16), some (.int t), none] [] u
  obtain ⟨k16, k17, k18, k19, k20, k21, k22, k23, k24⟩ := hk
  refine g_load rfl rfl rfl trivial ?_
  refine g_if_lt rfl (fun c1 => ?_) (fun c1 => ?_)
  · refine g_null rfl ?_
    refine g_vret rfl trivial (by first | exact ⟨by decide, by decide⟩ | trivial) (Nat.le_refl _) (Nat.le_refl _) ?_
    exact hQ
  · refine g_load rfl rfl rfl trivial ?_
    refine g_load rfl rfl rfl trivial ?_
    refine c_getf rfl (by assumption) (by decide) (by rfl) (by rfl) ?_
    refine c_len rfl (by assumption) (by decide) (by rfl) (by decide) ?_
    refine g_icmp_lt rfl (fun c2 => ?_) (fun c2 => ?_)
    · exfalso
      obtain ⟨j, hj, rfl⟩ := nI_of c1
      rw [nI_ltI (by omega) (by omega)] at c2
      have h9 : inF (nI j) 0 9 = true := by
        show (decide (nI 0 ≤ nI j) && decide (nI j ≤ nI 9)) = true
        rw [decide_eq_true ((nI_leI (by omega) (by omega)).mpr (by omega)), decide_eq_true ((nI_leI (by omega) (by omega)).mpr (by omega))]; rfl
      rw [ht] at h9
      cases h9
    · refine g_null rfl ?_
      refine g_vret rfl trivial (by first | exact ⟨by decide, by decide⟩ | trivial) (Nat.le_refl _) (Nat.le_refl _) ?_
      exact hQ
/-- what a walk over the tables sees: nothing, or a table that is busy; F what is asked of it -/
def tWk (u : cS) (F : Nat → Nat → Bool) (p : Nat → Bool) (t : Nat) : Prop := (tI0 u t ∧ p t = false) ∨ ∃ T B n m, u.rR 18 t = some T ∧ tB u T B n m ∧ p t = F T B
set_option maxRecDepth 20000 in
theorem c_twb_l {pr : aC} {d : Nat} {u : cS} (hk : kJ u) (x : Int32) (p : Nat → Bool) (hp : ∀ t, t < 10 → tWk u (fun _ B => decide (u.oI B 0 = x)) p t) {Q : Option Value → cS → Prop} (hQ : Q (some (.int (oI (first p 0 10)))) u) : ∀ (zz : Nat) (i : Nat) (l3 : Option Value) (hno : ∀ t, t < i → p t = false) (hm : 10 - i < zz) (hle : i ≤ 10), cB pr (d + 2) cd_143 (Option.some Jvm.ClassFile.FieldType.int) Q 2 [some (.ref 16), some (.int x), some (.int (nI i)), l3] [] u := by
  intro zz
  induction zz with
  | zero => intro i l3 hno hm hle; exact absurd hm (by omega)
  | succ zz ih =>
    intro i l3 hno hm hle
    have hk0 := hk
    obtain ⟨k16, k17, k18, k19, k20, k21, k22, k23, k24⟩ := hk
    refine g_load rfl rfl rfl trivial ?_
    refine g_load rfl rfl rfl trivial ?_
    refine c_getf rfl (by assumption) (by decide) (by rfl) (by rfl) ?_
    refine c_len rfl (by assumption) (by decide) (by rfl) (by decide) ?_
    refine g_icmp_ge rfl (fun c1 => ?_) (fun c1 => ?_)
    · rw [nI_leI (by omega) (by omega)] at c1
      have e : i = 10 := by omega
      subst e
      rw [first_miss (fun z _ hz => hno z (by omega))] at hQ
      refine g_iconst (-1) rfl (by decide) ?_
      refine g_vret rfl trivial ⟨rfl, rfl⟩ (Nat.le_refl _) (Nat.le_refl _) ?_
      exact hQ
    · rw [nI_leI (by omega) (by omega)] at c1
      refine g_load rfl rfl rfl trivial ?_
      refine g_load rfl rfl rfl trivial ?_
      rcases hp i (by omega) with ⟨h1, h2⟩ | ⟨T, B, n, m, h1, h2, h3⟩
      · refine g_virtI (a := 16) (ci := 7) (n := 1) [.int (nI i)] eF_tr rfl rfl (by decide) rfl (c_ob k16 (by decide) (by rfl)) rfl (Nat.le_of_ble_eq_true rfl) (Nat.le_refl _) (Nat.le_refl _) (c_busy_i hk0 i (by omega) h1 ⟨_, rfl, ?_⟩)
        have hpn := h2
        refine g_store [some (.ref 16), some (.int x), some (.int (nI i)), some .null] rfl rfl trivial (Nat.le_of_ble_eq_true rfl) rfl ?_
        refine g_load rfl rfl rfl trivial ?_
        refine g_ifnull_n rfl ?_
        refine g_iinc (nI (i + 1)) [some (.ref 16), some (.int x), some (.int (nI (i + 1))), some (.null)] rfl rfl (nI_1 i) rfl ?_
        refine g_goto rfl ?_
        refine ih (i + 1) _ (fun t ht => ?_) (by omega) (by omega)
        by_cases e : t = i
        · subst e; exact hpn
        · exact hno t (by omega)
      · refine g_virtI (a := 16) (ci := 7) (n := 1) [.int (nI i)] eF_tr rfl rfl (by decide) rfl (c_ob k16 (by decide) (by rfl)) rfl (Nat.le_of_ble_eq_true rfl) (Nat.le_refl _) (Nat.le_refl _) (c_busy hk0 i T B n m (by omega) h1 h2 ⟨_, rfl, ?_⟩)
        refine g_store [some (.ref 16), some (.int x), some (.int (nI i)), some (.ref T)] rfl rfl trivial (Nat.le_of_ble_eq_true rfl) rfl ?_
        refine g_load rfl rfl rfl trivial ?_
        refine g_ifnull_r rfl ?_
        refine g_load rfl rfl rfl trivial ?_
        refine g_virtI (a := T) (ci := 6) (n := 0) [] eF_tr rfl rfl (by decide) rfl (c_ob h2.1 (by decide) (by rfl)) rfl (Nat.le_of_ble_eq_true rfl) (Nat.le_refl _) (Nat.le_refl _) (c_tboard T B n m h2 ⟨_, rfl, ?_⟩)
        refine g_load rfl rfl rfl trivial ?_
        refine g_icmp_ne rfl (fun c2 => ?_) (fun c2 => ?_)
        · have hpn : p i = false := by rw [h3]; exact decide_eq_false c2
          refine g_iinc (nI (i + 1)) [some (.ref 16), some (.int x), some (.int (nI (i + 1))), some (.ref T)] rfl rfl (nI_1 i) rfl ?_
          refine g_goto rfl ?_
          refine ih (i + 1) _ (fun t ht => ?_) (by omega) (by omega)
          by_cases e : t = i
          · subst e; exact hpn
          · exact hno t (by omega)
        · have hpy : p i = true := by rw [h3]; exact decide_eq_true c2
          rw [first_hit (t := i) (by omega) (by omega) hpy (fun z _ hz => hno z hz)] at hQ
          refine g_load rfl rfl rfl trivial ?_
          refine g_vret rfl trivial ⟨rfl, rfl⟩ (Nat.le_refl _) (Nat.le_refl _) ?_
          exact hQ
set_option maxRecDepth 20000 in
theorem c_twb {pr : aC} {d : Nat} {u : cS} (hk : kJ u) (x : Int32) (p : Nat → Bool) (hp : ∀ t, t < 10 → tWk u (fun _ B => decide (u.oI B 0 = x)) p t) {Q : Option Value → cS → Prop} (hQ : Q (some (.int (oI (first p 0 10)))) u) : cR pr (d + 2 + 1) 143 [.ref 16, .int x] u Q := by
  refine gR_of mi_143 eF_rf rfl (Nat.le_of_ble_eq_true rfl) ?_
  show cB pr (d + 2) cd_143 (Option.some Jvm.ClassFile.FieldType.int) Q 0 [some (.ref 16), some (.int x), none, none] [] u
  refine g_iconst (nI 0) rfl (by decide) ?_
  refine g_store [some (.ref 16), some (.int x), some (.int (nI 0)), none] rfl rfl trivial (Nat.le_of_ble_eq_true rfl) rfl ?_
  exact c_twb_l hk x p hp hQ 11 0 none (fun t ht => absurd ht (by omega)) (by omega) (by omega)
set_option maxRecDepth 20000 in
theorem c_bts_l {pr : aC} {d : Nat} {u : cS} (hk : kJ u) (p : Nat → Bool) (hp : ∀ t, t < 10 → tWk u (fun _ _ => true) p t) {Q : Option Value → cS → Prop} (hQ : Q (some (.int (nI (cnt p 10)))) u) : ∀ (zz : Nat) (i : Nat) (hm : 10 - i < zz) (hle : i ≤ 10), cB pr (d + 2) cd_144 (Option.some Jvm.ClassFile.FieldType.int) Q 4 [some (.ref 16), some (.int (nI (cnt p i))), some (.int (nI i))] [] u := by
  intro zz
  induction zz with
  | zero => intro i hm hle; exact absurd hm (by omega)
  | succ zz ih =>
    intro i hm hle
    have hk0 := hk
    obtain ⟨k16, k17, k18, k19, k20, k21, k22, k23, k24⟩ := hk
    refine g_load rfl rfl rfl trivial ?_
    refine g_load rfl rfl rfl trivial ?_
    refine c_getf rfl (by assumption) (by decide) (by rfl) (by rfl) ?_
    refine c_len rfl (by assumption) (by decide) (by rfl) (by decide) ?_
    refine g_icmp_ge rfl (fun c1 => ?_) (fun c1 => ?_)
    · rw [nI_leI (by omega) (by omega)] at c1
      have e : i = 10 := by omega
      subst e
      refine g_load rfl rfl rfl trivial ?_
      refine g_vret rfl trivial ⟨rfl, rfl⟩ (Nat.le_refl _) (Nat.le_refl _) ?_
      exact hQ
    · rw [nI_leI (by omega) (by omega)] at c1
      refine g_load rfl rfl rfl trivial ?_
      refine g_load rfl rfl rfl trivial ?_
      rcases hp i (by omega) with ⟨h1, h2⟩ | ⟨T, B, n, m, h1, h2, h3⟩
      · refine g_virtI (a := 16) (ci := 7) (n := 1) [.int (nI i)] eF_tr rfl rfl (by decide) rfl (c_ob k16 (by decide) (by rfl)) rfl (Nat.le_of_ble_eq_true rfl) (Nat.le_refl _) (Nat.le_refl _) (c_busy_i hk0 i (by omega) h1 ⟨_, rfl, ?_⟩)
        have hc : cnt p (i + 1) = cnt p i := by show cnt p i + _ = _; rw [h2]; rfl
        refine g_ifnull_n rfl ?_
        refine g_iinc (nI (i + 1)) [some (.ref 16), some (.int (nI (cnt p i))), some (.int (nI (i + 1)))] rfl rfl (nI_1 i) rfl ?_
        refine g_goto rfl ?_
        rw [← hc]
        exact ih (i + 1) (by omega) (by omega)
      · refine g_virtI (a := 16) (ci := 7) (n := 1) [.int (nI i)] eF_tr rfl rfl (by decide) rfl (c_ob k16 (by decide) (by rfl)) rfl (Nat.le_of_ble_eq_true rfl) (Nat.le_refl _) (Nat.le_refl _) (c_busy hk0 i T B n m (by omega) h1 h2 ⟨_, rfl, ?_⟩)
        have hc : cnt p (i + 1) = cnt p i + 1 := by show cnt p i + _ = _; rw [h3]; rfl
        refine g_ifnull_r rfl ?_
        refine g_iinc (nI (cnt p i + 1)) [some (.ref 16), some (.int (nI (cnt p i + 1))), some (.int (nI i))] rfl rfl (nI_1 _) rfl ?_
        refine g_iinc (nI (i + 1)) [some (.ref 16), some (.int (nI (cnt p i + 1))), some (.int (nI (i + 1)))] rfl rfl (nI_1 i) rfl ?_
        refine g_goto rfl ?_
        rw [← hc]
        exact ih (i + 1) (by omega) (by omega)
set_option maxRecDepth 20000 in
theorem c_bts {pr : aC} {d : Nat} {u : cS} (hk : kJ u) (p : Nat → Bool) (hp : ∀ t, t < 10 → tWk u (fun _ _ => true) p t) {Q : Option Value → cS → Prop} (hQ : Q (some (.int (nI (cnt p 10)))) u) : cR pr (d + 2 + 1) 144 [.ref 16] u Q := by
  refine gR_of mi_144 eF_rf rfl (Nat.le_of_ble_eq_true rfl) ?_
  show cB pr (d + 2) cd_144 (Option.some Jvm.ClassFile.FieldType.int) Q 0 [some (.ref 16), none, none] [] u
  refine g_iconst (nI 0) rfl (by decide) ?_
  refine g_store [some (.ref 16), some (.int (nI (cnt p 0))), none] rfl rfl trivial (Nat.le_of_ble_eq_true rfl) rfl ?_
  refine g_iconst (nI 0) rfl (by decide) ?_
  refine g_store [some (.ref 16), some (.int (nI (cnt p 0))), some (.int (nI 0))] rfl rfl trivial (Nat.le_of_ble_eq_true rfl) rfl ?_
  exact c_bts_l hk p hp hQ 11 0 (by omega) (by omega)
