/-! ===== the club: finish ===== -/
theorem fin_addC {u v : cS} {T B nr : Nat} {R : Nat → Int32} (hv : newR u v R) (hT : T < u.tp) (hB : B < u.tp) (h50 : 50 ≤ u.tp) (nB : B ≠ 16) (nT : T ≠ 19) : addC (upR u T 0 none) (upR (upO (upO (upR v 19 nr (some u.tp)) 16 4 (nI (nr + 1))) B 3 (u.oI B 3 + nI 1)) T 0 none) B nr R := by
  obtain ⟨v1, v2, v3, v4⟩ := hv
  refine ⟨v1, fun b => ?_, ?_, fun b n1 n2 n3 => ?_, ?_, ?_, fun j hj => ?_, ?_, fun b hb => ⟨?_, ?_⟩, fun b n1 n2 => ?_, ?_, fun j hj => ?_⟩
  · show v.kd b = if b = u.tp then 9 else u.kd b
    by_cases e : b = u.tp
    · rw [if_pos e, e]; exact v3
    · rw [if_neg e]; exact (v2 b e).1
  · show u2 (u2 v.oI 16 4 _) B 3 _ u.tp = R
    rw [u2_a _ _ (by omega), u2_a _ _ (by omega)]; exact v4
  · have n1 : b ≠ u.tp := n1
    show u2 (u2 v.oI 16 4 _) B 3 _ b = u.oI b
    rw [u2_a _ _ n3, u2_a _ _ n2]; exact (v2 b n1).2.1
  · show u2 (u2 v.oI 16 4 _) B 3 _ 16 1 = u.oI 16 1
    rw [u2_a _ _ (Ne.symm nB), u2_k _ _ (by decide), (v2 16 (by omega)).2.1]
  · show u2 (u2 v.oI 16 4 _) B 3 _ 16 4 = _
    rw [u2_a _ _ (Ne.symm nB), u2_s]
  · show u2 (u2 v.oI 16 4 _) B 3 _ B j = u.oI B j
    rw [u2_k _ _ hj, u2_a _ _ nB, (v2 B (by omega)).2.1]
  · show u2 (u2 v.oI 16 4 _) B 3 _ B 3 = u.oI B 3 + nI 1
    rw [u2_s]
  · exact (v2 b hb).2.2.1
  · exact (v2 b hb).2.2.2.1
  · have n1 : b ≠ u.tp := n1
    show u2 (u2 v.rR 19 nr _) T 0 none b = u2 u.rR T 0 none b
    by_cases e : b = T
    · subst e
      funext j
      by_cases ej : j = 0
      · subst ej; rw [u2_s, u2_s]
      · rw [u2_k _ _ ej, u2_k _ _ ej, u2_a _ _ n2, (v2 b n1).2.2.2.2]
    · rw [u2_a _ _ e, u2_a _ _ e, u2_a _ _ n2, (v2 b n1).2.2.2.2]
  · show u2 (u2 v.rR 19 nr _) T 0 none 19 nr = some u.tp
    rw [u2_a _ _ (Ne.symm nT), u2_s]
  · show u2 (u2 v.rR 19 nr _) T 0 none 19 j = u2 u.rR T 0 none 19 j
    rw [u2_a _ _ (Ne.symm nT), u2_a _ _ (Ne.symm nT), u2_k _ _ hj, (v2 19 (by omega)).2.2.2.2]
set_option maxRecDepth 20000 in
theorem w_finish {pr : aC} {d : Nat} {u : cS} (hk : kJ u) (nb nr T B bd n m : Nat) (hnb : u.oI 16 1 = nI nb) (hnb2 : nb ≤ 36) (hnr : u.oI 16 4 = nI nr) (hnr2 : nr < 210) (hT : tB u T B n m) (hbd : bd < nb) (hB : u.rR 17 bd = some B) (hB0 : u.oI B 0 = nI (bd + 1)) (htp : ∀ a, u.kd a ≠ 0 → a < u.tp) (h50 : 50 ≤ u.tp) (cl : Int32) (R : Nat → Int32) (hTo : ∀ Q' : Option Value → cS → Prop, (∀ v, newR u v R → Q' (some (.ref u.tp)) v) → gR CF cFr (aRun pg pr (d + 5)) 106 [.ref T, .int cl] u 1 12 Q') {Q : Option Value → cS → Prop} (hQ : ∀ z, addC (upR u T 0 none) z B nr R → Q none z) : gR CF cFr (aRun pg pr (d + 5 + 1)) 148 [.ref 16, .ref T, .int cl] u 1 12 Q := by
  refine gR_of mi_148 cFr_rf rfl (Nat.le_of_ble_eq_true rfl) ?_
  show gB CF cFr (aRun pg pr (d + 5)) cd_148 1 12 none Q 0 [some (.ref 16), some (.ref T), some (.int cl), none] [] u 0 0
  have hk0 := hk
  obtain ⟨k16, k17, k18, k19, k20, k21, k22, k23, k24⟩ := hk
  have kT := hT.1
  have kB := hT.2.2.2.2.2.2.1
  have tT : T < u.tp := htp T (by rw [kT]; decide)
  have tBl : B < u.tp := htp B (by rw [kB]; decide)
  have nB : B ≠ 16 := fun q => by rw [q, k16] at kB; exact absurd kB (by decide)
  have nT : T ≠ 19 := fun q => by rw [q, k19] at kT; exact absurd kT (by decide)
  refine g_load rfl rfl rfl trivial ?_
  refine g_load rfl rfl rfl trivial ?_
  refine g_virtI (a := T) (ci := 6) (n := 0) [] cFr_tr rfl rfl (by decide) rfl (c_ob (κ := 3) kT (by decide) (by rfl)) rfl (Nat.le_of_ble_eq_true rfl) (Nat.le_of_ble_eq_true rfl) (Nat.le_of_ble_eq_true rfl) (c_lift cFr_rf (fun _ h => h) (c_tboard T B n m hT ⟨_, rfl, ?_⟩))
  rw [hB0]
  refine g_virtI (a := 16) (ci := 7) (n := 1) [.int (nI (bd + 1))] cFr_tr rfl rfl (by decide) rfl (c_ob (κ := 10) k16 (by decide) (by rfl)) rfl (Nat.le_of_ble_eq_true rfl) (Nat.le_of_ble_eq_true rfl) (Nat.le_of_ble_eq_true rfl) (c_lift cFr_rf (fun _ h => h) (c_bnum nb hk0 hnb hnb2 bd B hbd hB ⟨_, rfl, ?_⟩))
  refine g_store [some (.ref 16), some (.ref T), some (.int cl), some (.ref B)] rfl rfl trivial (Nat.le_of_ble_eq_true rfl) rfl ?_
  refine g_load rfl rfl rfl trivial ?_
  refine g_ifnull_r rfl ?_
  refine g_load rfl rfl rfl trivial ?_
  refine c_getf rfl (by assumption) (by decide) (by rfl) (by rfl) ?_
  refine g_load rfl rfl rfl trivial ?_
  refine c_getf rfl (by assumption) (by decide) (by rfl) (by rfl) ?_
  refine c_len rfl (by assumption) (by decide) (by rfl) (by decide) ?_
  rw [hnr]
  refine g_icmp_ge rfl (fun c1 => ?_) (fun c1 => ?_)
  · rw [nI_leI (by omega) (by omega)] at c1
    exact absurd c1 (by omega)
  · refine g_load rfl rfl rfl trivial ?_
    refine c_getf rfl (by assumption) (by decide) (by rfl) (by rfl) ?_
    refine g_load rfl rfl rfl trivial ?_
    refine c_getf rfl (by assumption) (by decide) (by rfl) (by rfl) ?_
    rw [hnr]
    refine g_load rfl rfl rfl trivial ?_
    refine g_load rfl rfl rfl trivial ?_
    refine g_virtual (a := T) (ci := 6) (n := 1) [.int cl] 1 12 cFr_tr rfl rfl (by decide) rfl (c_ob (κ := 3) kT (by decide) (by rfl)) rfl (Nat.le_of_ble_eq_true rfl) (Nat.le_of_ble_eq_true rfl) (Nat.le_of_ble_eq_true rfl) (hTo _ (fun v hv => ?_))
    have v16 : v.kd 16 = 10 := (hv.2.1 16 (by omega)).1.trans k16
    have v19 : v.kd 19 = 13 := (hv.2.1 19 (by omega)).1.trans k19
    have vB : v.kd B = 1 := (hv.2.1 B (by omega)).1.trans kB
    have vT : v.kd T = 3 := (hv.2.1 T (by omega)).1.trans kT
    have o4 : v.oI 16 4 = nI nr := by rw [(hv.2.1 16 (by omega)).2.1]; exact hnr
    refine c_aas nr rfl (κ := 13) v19 (by decide) (by rfl) ⟨by decide, by decide⟩ rfl (by omega) (by decide) (κ' := 9) hv.2.2.1 (by decide) (by rfl) rfl rfl (by rfl) ?_
    refine g_load rfl rfl rfl trivial ?_
    refine g_dup rfl rfl ?_
    refine c_getf rfl (κ := 10) (by exact v16) (by decide) (by rfl) (by rfl) ?_
    rw [show (upR v 19 nr (some u.tp)).oI 16 4 = nI nr from o4]
    refine g_iconst (nI 1) rfl (by decide) ?_
    refine g_iadd rfl ?_
    rw [nI_add]
    refine c_puti rfl (κ := 10) (by exact v16) (by decide) (by rfl) (Nat.le_of_ble_eq_true rfl) ⟨_, _, rfl, rfl, rfl, rfl⟩ (by simp [cCell, upO, u2, cS.kd, cS.oI, cS.rI, cS.rL, cS.rR, cS.tp]) ?_
    refine g_load rfl rfl rfl trivial ?_
    refine g_virtV (a := B) (ci := 2) (n := 0) [] cFr_tr rfl rfl (by decide) rfl (c_ob (κ := 1) (by exact vB) (by decide) (by rfl)) rfl (Nat.le_of_ble_eq_true rfl) (Nat.le_of_ble_eq_true rfl) (Nat.le_of_ble_eq_true rfl) (w_addResult B (by exact vB) ⟨rfl, ?_⟩)
    rw [show (upO (upR v 19 nr (some u.tp)) 16 4 (nI (nr + 1))).oI B 3 = u.oI B 3 by show u2 v.oI 16 4 _ B 3 = _; rw [u2_a _ _ nB, (hv.2.1 B (by omega)).2.1]]
    refine g_load rfl rfl rfl trivial ?_
    refine g_virtV (a := T) (ci := 6) (n := 0) [] cFr_tr rfl rfl (by decide) rfl (c_ob (κ := 3) (by exact vT) (by decide) (by rfl)) rfl (Nat.le_of_ble_eq_true rfl) (Nat.le_of_ble_eq_true rfl) (Nat.le_of_ble_eq_true rfl) (w_tstop T (by exact vT) ⟨rfl, ?_⟩)
    refine g_ret rfl rfl (Nat.le_of_ble_eq_true rfl) (Nat.le_of_ble_eq_true rfl) ?_
    exact hQ _ (fin_addC hv tT tBl h50 nB nT)
