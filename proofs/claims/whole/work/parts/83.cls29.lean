/-! ===== the club beside the reference: claim ===== -/
theorem onR.rf (r : rS) (t : Nat) : onR r r t := ⟨fun _ _ => rfl, fun _ _ _ => rfl, fun _ _ _ _ => rfl, fun _ _ _ => rfl, fun _ _ => rfl, fun _ _ => rfl⟩
theorem rSame_rf (r : rS) : rSame r r := ⟨rfl, rfl, rfl, fun _ _ => rfl⟩
theorem tJ.oe {u v : cS} {r : rS} {nb t T B bd n m : Nat} (hT : tJ u r nb t T B bd n m) (h : onE u v) (k21 : u.kd 21 = 14) (k22 : u.kd 22 = 2) : tJ v r nb t T B bd n m := by
  have hk := hT.2.1.tk
  refine tJ_fr hT (Nat.le_refl _) (by rw [h.2.2.2.1]) (by rw [h.2.2.2.1]) (fun a ha hb => ?_) (by rw [h.1]) (by rw [h.1]) (rT.rf r t n m bd)
  have n21 : a ≠ 21 := fun e => hk.ne k21 (by decide) (by rw [← e]; exact ⟨ha, hb⟩)
  have n22 : a ≠ 22 := fun e => hk.ne k22 (by decide) (by rw [← e]; exact ⟨ha, hb⟩)
  exact ⟨by rw [h.1], h.2.2.2.2.1 a n21, by rw [h.2.2.1], h.2.2.2.2.2 a n22, by rw [h.2.2.2.1]⟩
set_option maxRecDepth 20000 in
theorem j_claim {pr : aC} {d : Nat} {u : cS} {r : rS} {nb nr : Nat} (hJ : J u r nb nr) (t x : Int32) {Q : Option Value → cS → Prop} (hN : (¬ phF r t = nI 2 ∨ ∃ t0 T B bd n m, t0 < 10 ∧ t = nI t0 ∧ tJ u r nb t0 T B bd n m ∧ 4 < 13 - m / 4) → Q (some (.int 0)) u) (hQ : ∀ t0 T B bd n m b tr r0 v, t0 < 10 → t = nI t0 → tJ u r nb t0 T B bd n m → r.2 28 t0 = nI 2 → last ge3 (cf r t0) n = some b → plJ u r t0 T bd b m → stF (cf r t0) b = nI tr → tr < 5 → 13 - m / 4 ≤ 4 → r0 ≤ 13 - m / 4 → gVal tr (dcN (cf r t0) (bd % 4) b % 2) (52 - m) (hH r t0 m) (seatF r t0 b bd m) (m % 4) (ledF (tkG r t0 m) (m % 4)) (topF (tkG r t0 m) tr (m % 4)) (winF (tkG r t0 m) tr (ldN r t0 b bd m) (m % 4)) r0 → onE u v → (¬ nI r0 = x → Q (some (.int 0)) v) ∧ (nI r0 = x → ∀ z, (∀ v1 w, rSame r v1 → ended v1 w t0 nr (recC v1 t0 n b bd (wonF r t0 b bd (m / 4) + r0)) → J z w nb (nr + 1)) → Q (some (.int 1)) z)) : gR CF cFr (aRun pg pr (d + 34 + 1)) 115 [.ref 16, .int t, .int x] u 1 12 Q := by
  refine gR_of mi_115 cFr_rf rfl (Nat.le_of_ble_eq_true rfl) ?_
  show gB CF cFr (aRun pg pr (d + 34)) cd_115 1 12 (Option.some Jvm.ClassFile.FieldType.boolean) Q 0 [some (.ref 16), some (.int t), some (.int x), none] [] u 0 0
  have hnr2 := hJ.nr
  obtain ⟨hnr, hr1, _⟩ := hJ.hr
  obtain ⟨hnb, hnb2, hr0⟩ := hJ.hb
  have hk0 := hJ.k
  obtain ⟨k16, k17, k18, k19, k20, k21, k22, k23, k24⟩ := hJ.k
  refine g_load rfl rfl rfl trivial ?_
  refine g_load rfl rfl rfl trivial ?_
  rcases hJ.bz t with ⟨hph, hid⟩ | ⟨t0, T, B, bd, n, m, ht0, rfl, hT⟩
  · have hNo := hN (Or.inl (by rw [hph]; decide))
    refine g_virtI (a := 16) (ci := 7) (n := 1) [.int t] cFr_tr rfl rfl (by decide) rfl (c_ob (κ := 10) k16 (by decide) (by rfl)) rfl (Nat.le_of_ble_eq_true rfl) (Nat.le_of_ble_eq_true rfl) (Nat.le_of_ble_eq_true rfl) (c_lift cFr_rf (fun _ h => h) (c_endT_n hk0 t hid ⟨_, rfl, ?_⟩))
    refine g_store [some (.ref 16), some (.int t), some (.int x), some (.null)] rfl rfl trivial (Nat.le_of_ble_eq_true rfl) rfl ?_
    refine g_load rfl rfl rfl trivial ?_
    refine g_ifnull_n rfl ?_
    refine g_iconst (nI 0) rfl (by decide) ?_
    exact g_vret rfl trivial ⟨by decide, by decide⟩ (Nat.le_of_ble_eq_true rfl) (Nat.le_of_ble_eq_true rfl) hNo
  have hTB := hT.2.1
  have kT := hTB.1
  refine g_virtI (a := 16) (ci := 7) (n := 1) [.int (nI t0)] cFr_tr rfl rfl (by decide) rfl (c_ob (κ := 10) k16 (by decide) (by rfl)) rfl (Nat.le_of_ble_eq_true rfl) (Nat.le_of_ble_eq_true rfl) (Nat.le_of_ble_eq_true rfl) (c_lift cFr_rf (fun _ h => h) (c_endT hk0 t0 T B n m ht0 hT.1 hTB (fun hov h4 => ⟨_, rfl, ?_⟩) (fun hno => ⟨_, rfl, ?_⟩)))
  rotate_left
  · skip
    have hNo := hN (by
      rcases hno with e | e
      · refine Or.inl (fun z => ?_)
        rw [ph_in ht0] at z
        rcases hT.2.2.2.2.2.2.2.2.2.2.2.2.2.2 with ⟨h1, _⟩ | ⟨_, h3, _⟩
        · rw [h1] at z; exact absurd z (by decide)
        · rw [hT.ov, h3] at e; cases e
      · exact Or.inr ⟨t0, T, B, bd, n, m, ht0, rfl, hT, e⟩)
    refine g_store [some (.ref 16), some (.int (nI t0)), some (.int x), some (.null)] rfl rfl trivial (Nat.le_of_ble_eq_true rfl) rfl ?_
    refine g_load rfl rfl rfl trivial ?_
    refine g_ifnull_n rfl ?_
    refine g_iconst (nI 0) rfl (by decide) ?_
    exact g_vret rfl trivial ⟨by decide, by decide⟩ (Nat.le_of_ble_eq_true rfl) (Nat.le_of_ble_eq_true rfl) hNo
  obtain ⟨h28, b, hb1, hp⟩ : r.2 28 t0 = nI 2 ∧ ∃ b, last ge3 (cf r t0) n = some b ∧ plJ u r t0 T bd b m := by
    rcases hT.2.2.2.2.2.2.2.2.2.2.2.2.2.2 with ⟨_, _, h3, _⟩ | ⟨h1, _, b, h2, h3⟩
    · rw [hT.ov, h3] at hov; cases hov
    · exact ⟨h1, b, h2, h3⟩
  obtain ⟨tr, htr5, htr⟩ := hT.2.2.2.2.2.2.2.2.2.2.2.1.st hb1
  have hE := tJ.edp hJ hT hb1 hp h4 htr htr5
  have hgk := tJ.gok hJ hT hb1 hp
  have hdc := dcF_N (f := cf r t0) (dl := bd % 4) (last_lt hb1).2
  have hldl := ldF_lt (g := gf r t0) (tr := stF (cf r t0) b) (show (dcN (cf r t0) (bd % 4) b + 1) % 4 < 4 by omega) (m / 4)
  obtain ⟨r0, hr0', hv⟩ := gVal_ex (tr := tr) (sd := dcN (cf r t0) (bd % 4) b % 2) (n := 52 - m) (led := ledF (tkG r t0 m) (m % 4)) (top := topF (tkG r t0 m) tr (m % 4)) (show 52 - m + m % 4 = 4 * (13 - m / 4) by have := hp.2.2.1; omega) hgk hE.2.2.2.2.1
  have hds : ∀ x y, x < m % 4 → y < m % 4 → u.rI (T + 3 + 1) (m - m % 4 + x) = u.rI (T + 3 + 1) (m - m % 4 + y) → x = y := fun x y hx hy z => by
    rw [hT.2.2.2.2.2.2.2.2.2.1 _ (by omega), hT.2.2.2.2.2.2.2.2.2.1 _ (by omega)] at z
    have := hp.2.2.2.2.2.1 _ _ (by omega) (by omega) z
    omega
  have hlm : u.rI (T + 3 + 2) (m / 4) = nI (ldN r t0 b bd m) := hp.2.2.2.1 (m / 4) (Nat.le_refl _)
  refine g_store [some (.ref 16), some (.int (nI t0)), some (.int x), some (.ref T)] rfl rfl trivial (Nat.le_of_ble_eq_true rfl) rfl ?_
  refine g_load rfl rfl rfl trivial ?_
  refine g_ifnull_r rfl ?_
  refine g_load rfl rfl rfl trivial ?_
  refine c_getf rfl (κ := 10) k16 (by decide) (by rfl) (by rfl) ?_
  refine g_load rfl rfl rfl trivial ?_
  refine g_virtI (a := 21) (ci := 3) (n := 1) [.ref T] cFr_tr rfl rfl (by decide) rfl (c_ob (κ := 14) k21 (by decide) (by rfl)) rfl (Nat.le_of_ble_eq_true rfl) (Nat.le_of_ble_eq_true rfl) (Nat.le_of_ble_eq_true rfl) (w_most T B n m (dcN (cf r t0) (bd % 4) b) (ldN r t0 b bd m) hTB k21 k22 hp.1 hdc.2 hlm hldl hds tr _ _ _ _ hE r0 hr0' hv (fun v hL => ⟨_, rfl, ?_⟩))
  have hQq := hQ t0 T B bd n m b tr r0 v ht0 rfl hT h28 hb1 hp htr htr5 h4 hr0' hv hL.1
  refine g_load rfl rfl rfl trivial ?_
  refine g_icmp_eq rfl (fun c1 => ?_) (fun c1 => ?_)
  · have hx := c1
    refine g_load rfl rfl rfl trivial ?_
    refine g_load rfl rfl rfl trivial ?_
    refine g_load rfl rfl rfl trivial ?_
    subst hx
    have hJv := hJ.oe hL.1 (rSame_rf r)
    have hTv := hT.oe hL.1 k21 k22
    have hTBv := hTv.2.1
    have hkv := hJv.k
    obtain ⟨b', hb1', hpv⟩ : ∃ b', b' = b ∧ plJ v r t0 T bd b m := by
      rcases hTv.2.2.2.2.2.2.2.2.2.2.2.2.2.2 with ⟨h1, _⟩ | ⟨_, _, b2, h2, h3⟩
      · rw [h28] at h1; exact absurd h1 (by decide)
      · rw [hb1] at h2; cases h2; exact ⟨b, rfl, h3⟩
    refine g_virtual (a := 16) (ci := 7) (n := 2) [.ref T, .int (nI r0)] 1 12 cFr_tr rfl rfl (by decide) rfl (c_ob (κ := 10) hkv.1 (by decide) (by rfl)) rfl (Nat.le_of_ble_eq_true rfl) (Nat.le_of_ble_eq_true rfl) (Nat.le_of_ble_eq_true rfl) (w_finish (d := d + 28) hkv nb nr T B bd n m hJv.hb.1 hnb2 hJv.hr.1 (by omega) hTBv hTv.2.2.1 hTv.2.2.2.1 (hJv.bo hTv).2.2.2.1 hJv.a.1.2 hJv.a.1.1 (nI r0) _ (fun Q' hQ' => w_toResult_c (d := d + 28) T B n m hTBv r0 hJv.a.1.2 hJv.a.1.1 b (dcN (cf r t0) (bd % 4) b) bd (((dcN (cf r t0) (bd % 4) b) + 1) % 4) (by rw [last_cg hTv.2.2.2.2.2.2.2.2.1]; exact hb1) hpv.1 hdc.2 (hJv.bo hTv).2.2.2.1 (by have := hT.2.2.1; omega) (Nat.mod_lt _ (by decide)) (fun j hj => by rw [hpv.2.2.2.1 j hj, hpv.2.1, hTv.gg hj]) hQ') (fun z hadd => ?_))
    have hQ := hQq.2 rfl z (fun v1 w hS hw => by
      have hcf1 : cf v1 t0 = cf r t0 := by unfold cf; rw [hS.2.2.2 33 (by decide)]
      have hW : wonF r t0 b bd (m / 4) = wnF (v.rI (T + 3 + 1)) (v.oI (T + 3) 5) (((dcN (cf r t0) (bd % 4) b) + 1) % 4) ((dcN (cf r t0) (bd % 4) b) % 2) (m / 4) := by
        unfold wonF
        rw [hpv.2.1, hTv.wg (Nat.le_refl _)]
      have hWl : wonF r t0 b bd (m / 4) ≤ m / 4 := wnF_le _ _ _ _ _
      have hm52 := hp.2.2.1
      refine recC_ok hJv ht0 hTv (rSame_on (onR.rf r t0) hS) (by rw [hS.2.2.2 29 (by decide)]) (by rw [hS.2.2.2 30 (by decide)]) (fun i _ => by rw [hcf1]) (by rw [hcf1]; exact hb1) (onT.rf v T) rfl (W := wonF r t0 b bd (m / 4) + r0) (by omega) ?_ hw
      rw [hcf1, hW]
      exact hadd)
    refine g_iconst (nI 1) rfl (by decide) ?_
    refine g_vret rfl trivial (by first | exact ⟨by decide, by decide⟩ | trivial) (Nat.le_of_ble_eq_true rfl) (Nat.le_of_ble_eq_true rfl) ?_
    exact hQ
  · have hNo := hQq.1 c1
    refine g_iconst (nI 0) rfl (by decide) ?_
    exact g_vret rfl trivial ⟨by decide, by decide⟩ (Nat.le_of_ble_eq_true rfl) (Nat.le_of_ble_eq_true rfl) hNo
