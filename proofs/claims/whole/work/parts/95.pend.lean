/-! ===== best, bestCard, claim beside the reference's ===== -/
theorem sv_g {r : rS} {t b bd m tr sd x : Nat} (hm : m < 52) (h : sVal tr sd (hH r t m) (tkG r t m) (ldN r t b bd m) (m % 4) (13 - m / 4) x) : gVal tr sd (52 - m) (hH r t m) (seatF r t b bd m) (m % 4) (ledF (tkG r t m) (m % 4)) (topF (tkG r t m) tr (m % 4)) (winF (tkG r t m) tr (ldN r t b bd m) (m % 4)) x := by
  unfold sVal at h
  rw [if_neg (by omega), show 4 * (13 - m / 4) - m % 4 = 52 - m by omega] at h
  exact h
theorem mp_lg {r : rS} {t m s c : Nat} (hck : cdOk (gf r t) m) (hc : c < 52) : mpF r t m s (nI c) = true ↔ gLg (hH r t m) s (ledF (tkG r t m) (m % 4)) c := by
  have ei : isCd (nI c) = true := cd_t hc
  unfold mpF gLg
  rw [ei, Bool.true_and]
  simp only [Bool.and_eq_true, Bool.or_eq_true, decide_eq_true_eq]
  by_cases hz : m % 4 = 0
  · have hl : ledF (tkG r t m) (m % 4) = none := by unfold ledF; rw [if_pos hz]
    rw [hl]
    exact ⟨fun h => ⟨hc, h.1, fun q hq => by cases hq⟩, fun h => ⟨h.2.1, Or.inl hz⟩⟩
  · have hl : ledF (tkG r t m) (m % 4) = some (cN (gf r t) (4 * (m / 4)) / 13) := by unfold ledF; rw [if_neg hz]; rfl
    rw [hl]
    have hq4 := (hck (4 * (m / 4)) (by omega)).1
    generalize hq : cN (gf r t) (4 * (m / 4)) / 13 = q
    have hq5 : q < 4 := by omega
    have hd : nI c / nI 13 = nI q ↔ c / 13 = q := by
      rw [pk_div (by omega) (by omega) (by omega), nI_eq (by omega) (by omega)]
    constructor
    · rintro ⟨h1, h2⟩
      refine ⟨hc, h1, fun q' hq' => ?_⟩
      cases hq'
      rcases h2 with h2 | h2 | h2
      · exact absurd h2 hz
      · exact Or.inl (hd.mp h2)
      · refine Or.inr (fun c' z1 z2 z3 => ?_)
        have : anyN (fun k => hdF r t m (nI s) (nI (13 * q + k))) 13 = true := anyN_t (i := c' - 13 * q) (by omega) (by
          show hdF r t m (nI s) (nI (13 * q + (c' - 13 * q))) = true
          rw [show 13 * q + (c' - 13 * q) = c' by omega]
          exact z2)
        rw [this] at h2
        cases h2
    · rintro ⟨_, h1, h2⟩
      refine ⟨h1, Or.inr ?_⟩
      rcases h2 q rfl with h | h
      · exact Or.inl (hd.mpr h)
      · refine Or.inr ?_
        rw [anyN_f (fun k hk => ?_)]
        · rfl
        · cases e : hdF r t m (nI s) (nI (13 * q + k)) with
          | false => rfl
          | true => exact absurd (show (13 * q + k) / 13 = q by omega) (h (13 * q + k) (by omega) e)
theorem bcO_eq {P P' : Nat → Prop} {o o' : Int32} (hP : ∀ c, c < 52 → (P c ↔ P' c)) (h : bcO P o) (h' : bcO P' o') : o' = o := by
  rcases h with ⟨c, c1, c2, c3, rfl⟩ | ⟨h, rfl⟩
  · rcases h' with ⟨d, d1, d2, d3, rfl⟩ | ⟨h', _⟩
    · have : d = c := by
        rcases Nat.lt_trichotomy c d with z | z | z
        · exact absurd ((hP c c1).mp c2) (d3 c z)
        · exact z.symm
        · exact absurd ((hP d d1).mpr d2) (c3 d z)
      rw [this]
    · exact absurd ((hP c c1).mp c2) (h' c c1)
  · rcases h' with ⟨d, d1, d2, d3, rfl⟩ | ⟨_, rfl⟩
    · exact absurd ((hP d d1).mpr d2) (h d d1)
    · rfl
theorem lb_bc {r : rS} {t b bd m tr r0 c : Nat} (hck : cdOk (gf r t) m) (hm : m < 52) (hc : c < 52) (hv : gVal tr (dcN (cf r t) (bd % 4) b % 2) (52 - m) (hH r t m) (seatF r t b bd m) (m % 4) (ledF (tkG r t m) (m % 4)) (topF (tkG r t m) tr (m % 4)) (winF (tkG r t m) tr (ldN r t b bd m) (m % 4)) r0) : lbP tr (dcN (cf r t) (bd % 4) b % 2) (52 - m - 1) r0 (hH r t m) (seatF r t b bd m) (m % 4) (ledF (tkG r t m) (m % 4)) (topF (tkG r t m) tr (m % 4)) (winF (tkG r t m) tr (ldN r t b bd m) (m % 4)) c ↔ bcP r t b bd m tr r0 c := by
  unfold lbP bcP
  rw [mp_lg hck hc, show 4 * (13 - m / 4) - m % 4 - 1 = 52 - m - 1 by omega]
  rw [show 52 - m = 52 - m - 1 + 1 by omega] at hv
  exact ⟨fun h => ⟨h.1, (gVc_iff hv h.1).mpr h.2⟩, fun h => ⟨h.1, (gVc_iff hv h.1).mp h.2⟩⟩
theorem tJ.two {u : cS} {r : rS} {nb t T B bd n m : Nat} (hT : tJ u r nb t T B bd n m) (h28 : r.2 28 t = nI 2) : ∃ b, last ge3 (cf r t) n = some b ∧ plJ u r t T bd b m := by
  rcases hT.2.2.2.2.2.2.2.2.2.2.2.2.2.2 with ⟨h, _⟩ | ⟨_, _, b, h2, h3⟩
  · rw [h] at h28; exact absurd h28 (by decide)
  · exact ⟨b, h2, h3⟩
theorem b_best {pr : aC} {d : Nat} {u : cS} {r : rS} {nb nr t T B bd n m b tr : Nat} (hJ : J u r nb nr) (ht : t < 10) (hT : tJ u r nb t T B bd n m) (h28 : r.2 28 t = nI 2) (hb : last ge3 (cf r t) n = some b) (hp : plJ u r t T bd b m) (htr : stF (cf r t) b = nI tr) (htr5 : tr < 5) {Q : Option Value → rS → Prop} (hN4 : 4 < 13 - m / 4 → ∀ v, rSame r v → Q (some (.int (-1))) v) (hQ : 13 - m / 4 ≤ 4 → ∀ v x, rSame r v → x ≤ 4 → sVal tr (dcN (cf r t) (bd % 4) b % 2) (hH r t m) (tkG r t m) (ldN r t b bd m) (m % 4) (13 - m / 4) x → Q (some (.int (nI x))) v) : rR pr (d + 40 + 1) 207 [.ref 25, .int (nI t)] r Q :=
  r_best t n b bd m ht hT.2.2.2.2.2.2.1 (by have := hT.2.1.2.2.2.2.2.2.2.2.2.2.1; omega) hb hT.2.2.2.2.1 (by have := hT.2.2.1; have := hJ.hb.2.1; omega) hT.2.2.2.2.2.2.2.1 (by have := hp.2.2.1; omega) nb tr hJ.hb.2.2 hJ.hb.2.1 hT.ck hp.2.2.1 htr htr5 (fun h4 => tJ.sok hJ hT hb hp h4) h28 hN4 hQ
theorem b_bestCard {pr : aC} {d : Nat} {u : cS} {r : rS} {nb nr t T B bd n m b tr : Nat} (hJ : J u r nb nr) (ht : t < 10) (hT : tJ u r nb t T B bd n m) (h28 : r.2 28 t = nI 2) (hb : last ge3 (cf r t) n = some b) (hp : plJ u r t T bd b m) (htr : stF (cf r t) b = nI tr) (htr5 : tr < 5) {Q : Option Value → rS → Prop} (hN4 : 4 < 13 - m / 4 → ∀ v, rSame r v → Q (some (.int (-1))) v) (hQ : 13 - m / 4 ≤ 4 → ∀ v x o, rSame r v → x ≤ 4 → sVal tr (dcN (cf r t) (bd % 4) b % 2) (hH r t m) (tkG r t m) (ldN r t b bd m) (m % 4) (13 - m / 4) x → bcO (bcP r t b bd m tr x) o → Q (some (.int o)) v) : rR pr (d + 41 + 1) 208 [.ref 25, .int (nI t)] r Q :=
  r_bestCard t n b bd m ht hT.2.2.2.2.2.2.1 (by have := hT.2.1.2.2.2.2.2.2.2.2.2.2.1; omega) hb hT.2.2.2.2.1 (by have := hT.2.2.1; have := hJ.hb.2.1; omega) hT.2.2.2.2.2.2.2.1 (by have := hp.2.2.1; omega) nb tr hJ.hb.2.2 hJ.hb.2.1 hT.ck hp.2.2.1 htr htr5 (fun h4 => tJ.sok hJ hT hb hp h4) h28 hN4 hQ
theorem b_claim {pr : aC} {d : Nat} {u : cS} {r : rS} {nb nr t T B bd n m b tr : Nat} (hJ : J u r nb nr) (ht : t < 10) (hT : tJ u r nb t T B bd n m) (h28 : r.2 28 t = nI 2) (hb : last ge3 (cf r t) n = some b) (hp : plJ u r t T bd b m) (htr : stF (cf r t) b = nI tr) (htr5 : tr < 5) (x : Int32) (hx : ¬ x < 0) {Q : Option Value → rS → Prop} (hN4 : 4 < 13 - m / 4 → ∀ v, rSame r v → Q (some (.int 0)) v) (hQ : 13 - m / 4 ≤ 4 → ∀ y, y ≤ 4 → sVal tr (dcN (cf r t) (bd % 4) b % 2) (hH r t m) (tkG r t m) (ldN r t b bd m) (m % 4) (13 - m / 4) y → (∀ v, rSame r v → ¬ nI y = x → Q (some (.int 0)) v) ∧ (∀ v w, rSame r v → nI y = x → ended v w t nr (recC v t n b bd (wonF r t b bd (m / 4) + y)) → Q (some (.int 1)) w)) : rR pr (d + 42 + 1) 194 [.ref 25, .int (nI t), .int x] r Q :=
  r_claim t n b bd m ht hT.2.2.2.2.2.2.1 (by have := hT.2.1.2.2.2.2.2.2.2.2.2.2.1; omega) hb hT.2.2.2.2.1 (by have := hT.2.2.1; have := hJ.hb.2.1; omega) hT.2.2.2.2.2.2.2.1 (by have := hp.2.2.1; omega) nb tr hJ.hb.2.2 hJ.hb.2.1 hT.ck hp.2.2.1 htr htr5 (fun h4 => tJ.sok hJ hT hb hp h4) x hx h28 nr hJ.hr.2.1 (by have := hJ.nr; omega) hN4 hQ
theorem p_best {pr : aC} {D L : Nat} {xs : Nat → Int32} {u : cS} {r : rS} {nb nr : Nat} (hJ : J u r nb nr) (t : Int32) : pX (aRun pg pr (D + 50)) L xs 124 207 0 0 [.int t] u r := by
  refine l_w (j_best hJ t (fun f => ⟨_, u, rfl, rfl, l_r ?_⟩) (fun t0 T B bd n m b tr r0 v ht et hT h28 hb hp htr htr5 h4 hr0 hv hE => ⟨_, v, rfl, rfl, l_r ?_⟩))
  · by_cases h2 : phF r t = nI 2
    · rcases f with f | ⟨t0, T, B, bd, n, m, ht, et, hT, h4⟩
      · exact absurd h2 f
      · subst et
        rw [phF_t ht] at h2
        obtain ⟨b, hb, hp⟩ := hT.two h2
        obtain ⟨tr, htr5, htr⟩ := hT.2.2.2.2.2.2.2.2.2.2.2.1.st hb
        exact b_best hJ ht hT h2 hb hp htr htr5 (fun _ v hs => ⟨rfl, nb, nr, hJ.oe (onE_rf u) hs⟩) (fun h => absurd h (by omega))
    · exact r_best_n t h2 ⟨rfl, nb, nr, hJ⟩
  · subst et
    refine b_best hJ ht hT h28 hb hp htr htr5 (fun h => absurd h (by omega)) (fun _ r1 x hs hx hsv => ⟨?_, nb, nr, hJ.oe hE hs⟩)
    rw [gVal_inj hv (sv_g hp.2.2.1 hsv)]
theorem p_bestCard {pr : aC} {D L : Nat} {xs : Nat → Int32} {u : cS} {r : rS} {nb nr : Nat} (hJ : J u r nb nr) (t : Int32) : pX (aRun pg pr (D + 50)) L xs 125 208 0 0 [.int t] u r := by
  refine l_w (j_bestCard hJ t (fun f => ⟨_, u, rfl, rfl, l_r ?_⟩) (fun o t0 T B bd n m b tr r0 v ht et hT h28 hb hp htr htr5 h4 hr0 hv hE ho => ⟨_, v, rfl, rfl, l_r ?_⟩))
  · by_cases h2 : phF r t = nI 2
    · rcases f with f | ⟨t0, T, B, bd, n, m, ht, et, hT, h4⟩
      · exact absurd h2 f
      · subst et
        rw [phF_t ht] at h2
        obtain ⟨b, hb, hp⟩ := hT.two h2
        obtain ⟨tr, htr5, htr⟩ := hT.2.2.2.2.2.2.2.2.2.2.2.1.st hb
        exact b_bestCard hJ ht hT h2 hb hp htr htr5 (fun _ v hs => ⟨rfl, nb, nr, hJ.oe (onE_rf u) hs⟩) (fun h => absurd h (by omega))
    · exact r_bestCard_n t h2 ⟨rfl, nb, nr, hJ⟩
  · subst et
    refine b_bestCard hJ ht hT h28 hb hp htr htr5 (fun h => absurd h (by omega)) (fun _ r1 x o' hs hx hsv ho' => ⟨?_, nb, nr, hJ.oe hE hs⟩)
    have e := gVal_inj hv (sv_g hp.2.2.1 hsv)
    subst e
    rw [bcO_eq (fun c hc => lb_bc hT.ck hp.2.2.1 hc hv) ho ho']
theorem p_claim {pr : aC} {D L : Nat} {xs : Nat → Int32} {u : cS} {r : rS} {nb nr : Nat} (hJ : J u r nb nr) (t x : Int32) : pX (aRun pg pr (D + 50)) L xs 115 194 1 12 [.int t, .int x] u r := by
  refine l_w (j_claim hJ t x (fun f => ⟨_, u, rfl, rfl, l_r ?_⟩) (fun t0 T B bd n m b tr r0 v ht et hT h28 hb hp htr htr5 h4 hr0 hv hE => ⟨fun hne => ⟨_, v, rfl, rfl, l_r ?_⟩, fun he z hz => ⟨_, z, rfl, rfl, l_r ?_⟩⟩))
  · by_cases h2 : phF r t = nI 2
    · rcases f with f | ⟨t0, T, B, bd, n, m, ht, et, hT, h4⟩
      · exact absurd h2 f
      · subst et
        by_cases hx : x < 0
        · exact r_claim_n _ x (Or.inr hx) ⟨rfl, nb, nr, hJ⟩
        rw [phF_t ht] at h2
        obtain ⟨b, hb, hp⟩ := hT.two h2
        obtain ⟨tr, htr5, htr⟩ := hT.2.2.2.2.2.2.2.2.2.2.2.1.st hb
        exact b_claim hJ ht hT h2 hb hp htr htr5 x hx (fun _ v hs => ⟨rfl, nb, nr, hJ.oe (onE_rf u) hs⟩) (fun h => absurd h (by omega))
    · exact r_claim_n t x (Or.inl h2) ⟨rfl, nb, nr, hJ⟩
  · subst et
    by_cases hx : x < 0
    · exact r_claim_n _ x (Or.inr hx) ⟨rfl, nb, nr, hJ.oe hE (rSame_rf r)⟩
    refine b_claim hJ ht hT h28 hb hp htr htr5 x hx (fun h => absurd h (by omega)) (fun _ y hy hsv => ?_)
    have e := gVal_inj hv (sv_g hp.2.2.1 hsv)
    subst e
    exact ⟨fun r1 hs _ => ⟨rfl, nb, nr, hJ.oe hE hs⟩, fun _ _ _ h => absurd h hne⟩
  · subst et
    by_cases hx : x < 0
    · rw [← he] at hx
      exact absurd hx (nI_pos (by omega))
    refine b_claim hJ ht hT h28 hb hp htr htr5 x hx (fun h => absurd h (by omega)) (fun _ y hy hsv => ?_)
    have e := gVal_inj hv (sv_g hp.2.2.1 hsv)
    subst e
    exact ⟨fun _ _ h => absurd he h, fun r1 w hs _ hw => ⟨rfl, nb, nr + 1, hz r1 w hs hw⟩⟩
