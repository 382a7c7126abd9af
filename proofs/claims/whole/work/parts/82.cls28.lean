/-! ===== the club beside the reference: play, claim ===== -/
theorem pl_iff {u : cS} {r : rS} {nb nr t T B bd n m l0 : Nat} (hJ : J u r nb nr) (h : tJ u r nb t T B bd n m) (ht : t < 10) (hL : r.2 28 t = nI 2 → ∀ b, last ge3 (cf r t) n = some b → l0 = (dcN (cf r t) (bd % 4) b + 1) % 4) (c : Int32) : (ovF (u.rI (T + 1 + 1)) n && (isCd c && hb (chT (u.rL (B + 1)) (u.rL (T + 3) 0) (u.rI (T + 3 + 1)) m ((ldF (gf r t) (u.oI (T + 3) 5) l0 (m / 4) + m % 4) % 4)) c.toNatClampNeg)) = true ↔ plOk r (nI t) c := by
  unfold plOk
  rw [ph_in ht, nI_clamp (by omega), h.eM, h.eD hJ.hb.2.1, h.ov]
  rcases h.2.2.2.2.2.2.2.2.2.2.2.2.2.2 with ⟨h1, _, h3, _⟩ | ⟨h1, h3, b, hb1, h2⟩
  · rw [h3]
    constructor
    · intro z; cases z
    · rintro ⟨z, _⟩; rw [h1] at z; exact absurd z (by decide)
  · rw [h3, Bool.true_and, h.eB hb1]
    cases hx : isCd c with
    | false =>
      constructor
      · intro z; cases z
      · rintro ⟨_, z⟩; unfold mpF at z; rw [hx] at z; cases z
    | true =>
      obtain ⟨c0, hc0, rfl⟩ := cd_of hx
      rw [Bool.true_and, nI_clamp (by omega), mp_ch hJ h h.ck (Nat.mod_lt _ (by decide)) hc0, hL h1 b hb1, h2.2.1]
      exact ⟨fun z => ⟨h1, z⟩, fun z => z.2⟩
theorem pl_2 {u : cS} {r : rS} {nb nr t T B bd n m : Nat} (hJ : J u r nb nr) (h : tJ u r nb t T B bd n m) (ht : t < 10) {c : Int32} (hc : plOk r (nI t) c) : ∃ b, r.2 28 t = nI 2 ∧ ovF (cf r t) n = true ∧ last ge3 (cf r t) n = some b ∧ plJ u r t T bd b m ∧ mpF r t m (seatF r t b bd m) c = true := by
  unfold plOk at hc
  rw [ph_in ht, nI_clamp (by omega), h.eM, h.eD hJ.hb.2.1] at hc
  rcases h.2.2.2.2.2.2.2.2.2.2.2.2.2.2 with ⟨h1, _⟩ | ⟨h1, h3, b, hb1, h2⟩
  · rw [h1] at hc; exact absurd hc.1 (by decide)
  · rw [h.eB hb1] at hc
    exact ⟨b, h1, h3, hb1, h2, hc.2⟩
theorem rSame_on {r v v1 : rS} {t : Nat} (h : onR r v t) (hS : rSame v v1) : onR r v1 t := by
  obtain ⟨s0, s1, s22, s2⟩ := hS
  obtain ⟨o1, o2, o3, o4, o5, o6⟩ := h
  refine ⟨fun g hg => ?_, fun a h1 h2 => by rw [s2 a h1]; exact o2 a h1 h2, fun a ha z hz => by rw [s2 a (by omega)]; exact o3 a ha z hz, fun z q1 q2 => by rw [s2 30 (by decide)]; exact o4 z q1 q2, fun z q => by rw [s2 33 (by decide)]; exact o5 z q, fun z q => by rw [s2 34 (by decide)]; exact o6 z q⟩
  rcases hg with e | e | e
  · rw [e, s0]; exact o1 0 (by omega)
  · rw [e, s1]; exact o1 1 (by omega)
  · rw [e, s22]; exact o1 22 (by omega)
set_option maxRecDepth 20000 in
theorem j_play {pr : aC} {d : Nat} {u : cS} {r : rS} {nb nr : Nat} (hJ : J u r nb nr) (t c : Int32) {Q : Option Value → cS → Prop} (hF : ¬ plOk r t c → Q (some (.int (-1))) u) (hQ : ∀ t0, t0 < 10 → t = nI t0 → plOk r t c → (∀ z, ¬ (mC r t0 + 1) % 4 = 0 → (∀ v, playedP r v t0 (mC r t0) c → J z v nb nr) → Q (some (.int 0)) z) ∧ (∀ z, (mC r t0 + 1) % 4 = 0 → mC r t0 + 1 < 52 → (∀ v, playedP r v t0 (mC r t0) c → J z v nb nr) → Q (some (.int 1)) z) ∧ (∀ z, mC r t0 + 1 = 52 → (∀ v v1 w, playedP r v t0 (mC r t0) c → rSame v v1 → ended v1 w t0 nr (recC v1 t0 (nC r t0) (bB r t0) (bD r t0) (wonF v t0 (bB r t0) (bD r t0) 13)) → J z w nb (nr + 1)) → Q (some (.int 2)) z)) : gR CF cFr (aRun pg pr (d + 6 + 1)) 114 [.ref 16, .int t, .int c] u 1 12 Q := by
  refine gR_of mi_114 cFr_rf rfl (Nat.le_of_ble_eq_true rfl) ?_
  show gB CF cFr (aRun pg pr (d + 6)) cd_114 1 12 (Option.some Jvm.ClassFile.FieldType.int) Q 0 [some (.ref 16), some (.int t), some (.int c), none] [] u 0 0
  have hnr2 := hJ.nr
  obtain ⟨hnr, hr1, _⟩ := hJ.hr
  obtain ⟨hnb, hnb2, hr0⟩ := hJ.hb
  have hk0 := hJ.k
  obtain ⟨k16, k17, k18, k19, k20, k21, k22, k23, k24⟩ := hJ.k
  refine g_load rfl rfl rfl trivial ?_
  refine g_load rfl rfl rfl trivial ?_
  rcases hJ.bz t with ⟨hph, hid⟩ | ⟨t0, T, B, bd, n, m, ht0, rfl, hT⟩
  · refine g_virtI (a := 16) (ci := 7) (n := 1) [.int t] cFr_tr rfl rfl (by decide) rfl (c_ob (κ := 10) k16 (by decide) (by rfl)) rfl (Nat.le_of_ble_eq_true rfl) (Nat.le_of_ble_eq_true rfl) (Nat.le_of_ble_eq_true rfl) (c_lift cFr_rf (fun _ h => h) (c_busy_x hk0 t hid ⟨_, rfl, ?_⟩))
    refine g_store [some (.ref 16), some (.int t), some (.int c), some (.null)] rfl rfl trivial (Nat.le_of_ble_eq_true rfl) rfl ?_
    have hQ := hF (fun z => by have := z.1; rw [hph] at this; exact absurd this (by decide))
    refine g_load rfl rfl rfl trivial ?_
    refine g_ifnull_n rfl ?_
    refine g_iconst (-1) rfl (by decide) ?_
    refine g_vret rfl trivial ⟨rfl, rfl⟩ (Nat.le_of_ble_eq_true rfl) (Nat.le_of_ble_eq_true rfl) ?_
    exact hQ
  have hTB := hT.2.1
  have kT := hTB.1
  refine g_virtI (a := 16) (ci := 7) (n := 1) [.int (nI t0)] cFr_tr rfl rfl (by decide) rfl (c_ob (κ := 10) k16 (by decide) (by rfl)) rfl (Nat.le_of_ble_eq_true rfl) (Nat.le_of_ble_eq_true rfl) (Nat.le_of_ble_eq_true rfl) (c_lift cFr_rf (fun _ h => h) (c_busy hk0 t0 T B n m ht0 hT.1 hTB ⟨_, rfl, ?_⟩))
  refine g_store [some (.ref 16), some (.int (nI t0)), some (.int c), some (.ref T)] rfl rfl trivial (Nat.le_of_ble_eq_true rfl) rfl ?_
  obtain ⟨l0, hl0, hL, hL2⟩ := hT.ld
  have hld := ldF_lt (g := gf r t0) (tr := u.oI (T + 3) 5) hl0 (m / 4)
  refine g_load rfl rfl rfl trivial ?_
  refine g_ifnull_r rfl ?_
  refine g_load rfl rfl rfl trivial ?_
  refine g_load rfl rfl rfl trivial ?_
  refine g_virtI (a := T) (ci := 6) (n := 1) [.int c] cFr_tr rfl rfl (by decide) rfl (c_ob (κ := 3) kT (by decide) (by rfl)) rfl (Nat.le_of_ble_eq_true rfl) (Nat.le_of_ble_eq_true rfl) (Nat.le_of_ble_eq_true rfl) (c_lift cFr_rf (fun _ h => h) (c_admitsCard T B n m hTB c _ (hL (m / 4) (Nat.le_refl _)) hld hT.ckU ⟨_, rfl, ?_⟩))
  refine g_if_ne rfl (fun c1 => ?_) (fun c1 => ?_)
  · rw [bI_ne, pl_iff hJ hT ht0 hL2] at c1
    have hpl := c1
    refine g_load rfl rfl rfl trivial ?_
    refine g_load rfl rfl rfl trivial ?_
    obtain ⟨b, h28, hov, hb1, hp, hmp⟩ := pl_2 hJ hT ht0 hpl
    obtain ⟨c0, hc0, rfl, hown, hfr⟩ := mp_of hJ hT hmp
    have hm52 := hp.2.2.1
    have eN := hT.eN
    have eM := hT.eM
    have eB := hT.eB hb1
    have eD := hT.eD hnb2
    have hgf := hT.2.2.2.2.2.2.2.2.2.1
    have hdc := (dcF_N (f := cf r t0) (dl := bd % 4) (last_lt hb1).2).2
    have hLp := hp.2.2.2.1
    have hld4 := ldF_lt (g := gf r t0) (tr := (stF (cf r t0) b)) (show ((dcN (cf r t0) (bd % 4) b + 1) % 4) < 4 by omega) (m / 4)
    obtain ⟨hQ0, hQ1, hQ2⟩ := hQ t0 ht0 rfl hpl
    rw [eM] at hQ0 hQ1 hQ2
    rw [eN, eB, eD] at hQ2
    refine g_virtV (a := T) (ci := 6) (n := 1) [.int (nI c0)] cFr_tr rfl rfl (by decide) rfl (c_ob (κ := 3) kT (by decide) (by rfl)) rfl (Nat.le_of_ble_eq_true rfl) (Nat.le_of_ble_eq_true rfl) (Nat.le_of_ble_eq_true rfl) (w_addCard (d := d + 1) T B n m hTB hm52 c0 _ (hLp (m / 4) (Nat.le_refl _)) hld4 (fun h4 x y hx hy q => ?_) (fun h4 => ⟨rfl, ?_⟩) (fun h4 => ⟨rfl, ?_⟩))
    · have hu : ∀ i, i ≤ m → upd (u.rI (T + 3 + 1)) m (nI c0) i = upd (gf r t0) m (nI c0) i := fun i hi => by
        unfold upd
        by_cases e : i = m
        · rw [if_pos e, if_pos e]
        · rw [if_neg e, if_neg e]; exact hgf i (by omega)
      rw [hu _ (by omega), hu _ (by omega)] at q
      have inj : ∀ i j, i < m + 1 → j < m + 1 → upd (gf r t0) m (nI c0) i = upd (gf r t0) m (nI c0) j → i = j := by
        intro i j hi hj q
        by_cases q1 : i = m
        · by_cases q2 : j = m
          · omega
          · rw [q1, upd_at, ← upd_lt (k := m) (Nat.le_refl _) j (by omega)] at q
            exact absurd q.symm (hfr j (by omega))
        · by_cases q2 : j = m
          · rw [q2, upd_at, ← upd_lt (k := m) (Nat.le_refl _) i (by omega)] at q
            exact absurd q (hfr i (by omega))
          · rw [← upd_lt (k := m) (Nat.le_refl _) i (by omega), ← upd_lt (k := m) (Nat.le_refl _) j (by omega)] at q
            exact hp.2.2.2.2.2.1 i j (by omega) (by omega) q
      have := inj _ _ (by omega) (by omega) q
      omega
    · have hz := zP_a (c := c0) (T := T) h4 hLp
      have tZ := hz.tb hTB hm52
      have kZ := tZ.1
      refine g_load rfl rfl rfl trivial ?_
      refine g_virtI (a := T) (ci := 6) (n := 0) [] cFr_tr rfl rfl (by decide) rfl (c_ob (κ := 3) kZ (by decide) (by rfl)) rfl (Nat.le_of_ble_eq_true rfl) (Nat.le_of_ble_eq_true rfl) (Nat.le_of_ble_eq_true rfl) (c_lift cFr_rf (fun _ h => h) (c_cardsInTrick T B n (m + 1) tZ ⟨_, rfl, ?_⟩))
      refine g_if_eq rfl (fun c9 => absurd c9 (nI_ne0 (by omega) (by omega))) (fun _ => ?_)
      have hQ := hQ0 _ h4 (fun v hv => J.play hJ ht0 hT h28 hov hb1 hp hc0 hown hfr (by omega) hv hz)
      refine g_iconst (nI 0) rfl (by decide) ?_
      exact g_vret rfl trivial ⟨rfl, rfl⟩ (Nat.le_of_ble_eq_true rfl) (Nat.le_of_ble_eq_true rfl) hQ
    have hz := zP_b (c := c0) (T := T) h4 hLp hgf hp.2.1
    have tZ := hz.tb hTB hm52
    have kZ := tZ.1
    generalize upI (addP u (T + 3) m c0) (T + 3 + 2) ((m + 1) / 4) (nI ((ldF (gf r t0) (stF (cf r t0) b) ((dcN (cf r t0) (bd % 4) b + 1) % 4) (m / 4) + bst (upd (u.rI (T + 3 + 1)) m (nI c0)) (u.oI (T + 3) 5) (m + 1 - 4) 3) % 4)) = x at hz tZ kZ ⊢
    refine g_load rfl rfl rfl trivial ?_
    refine g_virtI (a := T) (ci := 6) (n := 0) [] cFr_tr rfl rfl (by decide) rfl (c_ob (κ := 3) kZ (by decide) (by rfl)) rfl (Nat.le_of_ble_eq_true rfl) (Nat.le_of_ble_eq_true rfl) (Nat.le_of_ble_eq_true rfl) (c_lift cFr_rf (fun _ h => h) (c_cardsInTrick T B n (m + 1) tZ ⟨_, rfl, ?_⟩))
    rw [h4]
    refine g_if_eq rfl (fun _ => ?_) (fun c9 => absurd rfl c9)
    refine g_load rfl rfl rfl trivial ?_
    refine g_virtI (a := T) (ci := 6) (n := 0) [] cFr_tr rfl rfl (by decide) rfl (c_ob (κ := 3) kZ (by decide) (by rfl)) rfl (Nat.le_of_ble_eq_true rfl) (Nat.le_of_ble_eq_true rfl) (Nat.le_of_ble_eq_true rfl) (c_lift cFr_rf (fun _ h => h) (c_tricksLeft T B n (m + 1) tZ ⟨_, rfl, ?_⟩))
    refine g_if_le rfl (fun c9 => ?_) (fun c9 => ?_)
    rotate_left
    · have hlt : m + 1 < 52 := by
        apply Classical.byContradiction
        intro e
        exact c9 (by rw [show 13 - (m + 1) / 4 = 0 by omega]; decide)
      have hQ := hQ1 _ h4 hlt (fun v hv => J.play hJ ht0 hT h28 hov hb1 hp hc0 hown hfr hlt hv hz)
      refine g_iconst (nI 1) rfl (by decide) ?_
      exact g_vret rfl trivial ⟨rfl, rfl⟩ (Nat.le_of_ble_eq_true rfl) (Nat.le_of_ble_eq_true rfl) hQ
    have hm51 : m + 1 = 52 := by
      apply Classical.byContradiction
      intro e
      exact nI_nle (show 0 < 13 - (m + 1) / 4 by omega) (by omega) c9
    have hxo := hz.1
    have aZ := hxo.B hTB
    have a16 : agr u x 16 := hxo.2.2 16 (hTB.tk.ne k16 (by decide))
    have a17 : agr u x 17 := hxo.2.2 17 (hTB.tk.ne k17 (by decide))
    have x2 : x.rI (T + 1 + 1) = u.rI (T + 1 + 1) := hz.2.2.2.2.1
    have x4 : x.rI (T + 3 + 1) = upd (u.rI (T + 3 + 1)) m (nI c0) := hz.2.2.2.2.2.1
    have x5 : x.oI (T + 3) 5 = (stF (cf r t0) b) := hz.2.2.2.2.2.2.2.2.1.trans hp.2.1
    have x54 : x.oI (T + 3) 4 = nI (dcN (cf r t0) (bd % 4) b) := hz.2.2.2.2.2.2.2.1.trans hp.1
    have hxg : ∀ i, i < m + 1 → x.rI (T + 3 + 1) i = upd (gf r t0) m (nI c0) i := fun i hi => by
      rw [x4]
      unfold upd
      by_cases e : i = m
      · rw [if_pos e, if_pos e]
      · rw [if_neg e, if_neg e]; exact hgf i (by omega)
    refine g_load rfl rfl rfl trivial ?_
    refine g_load rfl rfl rfl trivial ?_
    refine g_iconst (nI 0) rfl (by decide) ?_
    refine g_virtual (a := 16) (ci := 7) (n := 2) [.ref T, .int (nI 0)] 1 12 cFr_tr rfl rfl (by decide) rfl (c_ob (κ := 10) (by rw [hxo.1]; exact k16) (by decide) (by rfl)) rfl (Nat.le_of_ble_eq_true rfl) (Nat.le_of_ble_eq_true rfl) (Nat.le_of_ble_eq_true rfl) (w_finish (d := d) (by unfold kJ; rw [hxo.1]; exact hk0) nb nr T B bd n (m + 1) (by rw [a16.2.1]; exact hnb) hnb2 (by rw [a16.2.1]; exact hnr) (by omega) tZ hT.2.2.1 (by rw [a17.2.2.2.2]; exact hT.2.2.2.1) (by rw [aZ.1.2.1]; exact (hJ.bo hT).2.2.2.1) (by rw [hxo.1, hxo.2.1]; exact hJ.a.1.2) (by rw [hxo.2.1]; exact hJ.a.1.1) (nI 0) _ (fun Q' hQ' => w_toResult_c (d := d) T B n (m + 1) tZ 0 (by rw [hxo.1, hxo.2.1]; exact hJ.a.1.2) (by rw [hxo.2.1]; exact hJ.a.1.1) b (dcN (cf r t0) (bd % 4) b) bd ((dcN (cf r t0) (bd % 4) b + 1) % 4) (by rw [x2, last_cg hT.2.2.2.2.2.2.2.2.1]; exact hb1) x54 hdc (by rw [aZ.1.2.1]; exact (hJ.bo hT).2.2.2.1) (by have := hT.2.2.1; omega) (Nat.mod_lt _ (by decide)) (fun j hj => by rw [hz.2.2.2.2.2.2.2.2.2.2 j hj, x5, ldF_cg (f := x.rI (T + 3 + 1)) (g := upd (gf r t0) m (nI c0)) (fun i hi => hxg i (by omega))]) hQ') (fun z hadd => ?_))
    have hQ := hQ2 z hm51 (fun v v1 w hv hS hw => by
      have hcf1 : cf v1 t0 = cf r t0 := by rw [← played_cf hv]; unfold cf; rw [hS.2.2.2 33 (by decide)]
      have hW : wonF v t0 b bd 13 = wnF (x.rI (T + 3 + 1)) (x.oI (T + 3) 5) ((dcN (cf r t0) (bd % 4) b + 1) % 4) ((dcN (cf r t0) (bd % 4) b) % 2) ((m + 1) / 4) + 0 := by
        unfold wonF
        rw [played_cf hv, played_gf hv, x5, hm51, wnF_cg (f := x.rI (T + 3 + 1)) (g := upd (gf r t0) m (nI c0)) (fun i hi => hxg i (by omega))]; rfl
      have hWl : wonF v t0 b bd 13 ≤ 13 := wnF_le _ _ _ _ _
      refine recC_ok hJ ht0 hT (rSame_on (played_on hv (by omega)) hS) (by rw [hS.2.2.2 29 (by decide), hv.2.2.2.1 29 (by decide) (by decide) (by decide)]) (by rw [hS.2.2.2 30 (by decide), hv.2.2.2.1 30 (by decide) (by decide) (by decide)]) (fun i _ => by rw [hcf1]) (by rw [hcf1]; exact hb1) hxo hz.2.1 hWl ?_ hw
      rw [hcf1, hW, ← x2]
      exact hadd)
    refine g_iconst (nI 2) rfl (by decide) ?_
    exact g_vret rfl trivial ⟨rfl, rfl⟩ (Nat.le_of_ble_eq_true rfl) (Nat.le_of_ble_eq_true rfl) hQ
  · rw [bI_eq] at c1
    have hQ := hF (fun z => by rw [(pl_iff hJ hT ht0 hL2 c).mpr z] at c1; cases c1)
    refine g_iconst (-1) rfl (by decide) ?_
    refine g_vret rfl trivial ⟨rfl, rfl⟩ (Nat.le_of_ble_eq_true rfl) (Nat.le_of_ble_eq_true rfl) ?_
    exact hQ
