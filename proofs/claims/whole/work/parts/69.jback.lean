/-! ===== back, adjust: the joint invariant is kept ===== -/
theorem tJ.cn {u : cS} {r : rS} {nb t T B bd n m : Nat} (h : tJ u r nb t T B bd n m) {i : Nat} (hi : i < m) : cN (u.rI (T + 3 + 1)) i = cN (gf r t) i := by
  unfold cN
  rw [h.2.2.2.2.2.2.2.2.2.1 i hi]
theorem J.back_m {u : cS} {r : rS} {nb nr t T B bd n m : Nat} (hJ : J u r nb nr) (ht : t < 10) (hT : tJ u r nb t T B bd n m) (hm : 0 < m) : J (dropP u (T + 3) m (cN (u.rI (T + 3 + 1)) (m - 1))) (uBack r t n m) nb nr := by
  have hk := hT.2.1.tk
  have hT0 := hT
  have er : uBack r t n m = (r.1, rU r.2 32 t (nI (m - 1))) := if_pos hm
  rw [er]
  obtain ⟨h1, h2, h3, h4, h5, ⟨h6, h7, h8⟩, h9, h10, h11, h12, h13, h14, h15, h16, h17⟩ := hT
  have h2' := h2
  obtain ⟨k0, k1, k2, k3, k4, k5, kb, kb1, hon, hn, hn2, hmm, hm2⟩ := h2
  have hv : onT u (dropP u (T + 3) m (cN (u.rI (T + 3 + 1)) (m - 1))) T := ((onT.rf u T).L _ ⟨by omega, by omega⟩).O _ ⟨by omega, by omega⟩
  have hr : onR r (r.1, rU r.2 32 t (nI (m - 1))) t := by
    refine ⟨fun _ _ => rfl, fun a _ h => rU_a (by omega), fun a ha z hz => ?_, fun z _ _ => by show rU r.2 32 t (nI (m - 1)) 30 z = _; rw [rU_a (by decide)], fun z _ => by show rU r.2 32 t (nI (m - 1)) 33 z = _; rw [rU_a (by decide)], fun z _ => by show rU r.2 32 t (nI (m - 1)) 34 z = _; rw [rU_a (by decide)]⟩
    show rU r.2 32 t (nI (m - 1)) a z = _
    by_cases e : a = 32
    · rw [e, rU_k hz]
    · rw [rU_a e]
  have e28 : (rU r.2 32 t (nI (m - 1))) 28 = r.2 28 := rU_a (by decide)
  have eO : ∀ j, j ≠ 2 → (dropP u (T + 3) m (cN (u.rI (T + 3 + 1)) (m - 1))).oI (T + 3) j = u.oI (T + 3) j := fun j hj => u2_k u.oI _ hj
  have eO2 : (dropP u (T + 3) m (cN (u.rI (T + 3 + 1)) (m - 1))).oI (T + 3) 2 = nI (m - 1) := u2_s u.oI (T + 3) 2 _
  have eOa : ∀ a, a ≠ T + 3 → (dropP u (T + 3) m (cN (u.rI (T + 3 + 1)) (m - 1))).oI a = u.oI a := fun a ha => u2_a u.oI _ ha
  have eL : (dropP u (T + 3) m (cN (u.rI (T + 3 + 1)) (m - 1))).rL (T + 3) 0 = u.rL (T + 3) 0 &&& (bt1 (cN (u.rI (T + 3 + 1)) (m - 1)) ^^^ (-1)) := u2_s u.rL (T + 3) 0 _
  -- in the play
  obtain ⟨a1, a2, b, a3, a4⟩ : r.2 28 t = nI 2 ∧ ovF (cf r t) n = true ∧ ∃ b, last ge3 (cf r t) n = some b ∧ plJ u r t T bd b m := by
    rcases h17 with ⟨_, e, _⟩ | ⟨e1, e2, b, e3, e4⟩
    · omega
    · exact ⟨e1, e2, b, e3, e4⟩
  obtain ⟨b1, b2, b3, b4, b5, b6, b7⟩ := a4
  refine J_tab hJ ht h1 hk hv hr (by show nr + cnt (fun z => decide (¬ (rU r.2 32 t (nI (m - 1))) 28 z = 0)) 10 ≤ 209; rw [e28]; exact hJ.hr.2.2) (Or.inr ⟨B, bd, n, m - 1, h1, ⟨k0, k1, k2, k3, k4, k5, kb, kb1, hon, ?_, hn2, eO2, by omega⟩, h3, h4, ?_, ⟨?_, ?_, ?_⟩, ?_, rU_s r.2 32 t (nI (m - 1)), h11, fun i hi => h12 i (by omega), ?_, h14, ?_, ?_, Or.inr ⟨?_, a2, b, a3, ?_⟩⟩)
  · rw [eOa _ (by omega)]; exact hn
  · show (rU r.2 32 t (nI (m - 1))) 29 t = _; rw [rU_a (by decide)]; exact h5
  · show _ = (rU r.2 32 t (nI (m - 1))) 30 (2 * t); rw [rU_a (by decide), eOa _ (by omega)]; exact h6
  · show _ = (rU r.2 32 t (nI (m - 1))) 30 (2 * t + 1); rw [rU_a (by decide), eOa _ (by omega)]; exact h7
  · show ¬ (rU r.2 32 t (nI (m - 1))) 30 (2 * t) = (rU r.2 32 t (nI (m - 1))) 30 (2 * t + 1); rw [rU_a (by decide)]; exact h8
  · show (rU r.2 32 t (nI (m - 1))) 31 t = _; rw [rU_a (by decide)]; exact h9
  · rw [eOa _ (by omega)]; exact h13
  · show (rU r.2 32 t (nI (m - 1))) 27 bd = 1; rw [rU_a (by decide)]; exact h15
  · rw [eL, hT0.cn (by omega)]
    have hc := b5 (m - 1) (by omega)
    refine ⟨fun k hk => by rw [hb_and, h16.1 k hk]; rfl, fun c hc' => ?_⟩
    rw [hb_and, hb_xor, hb_bt (by omega), hb_m1 (by omega), h16.2 c hc', Bool.xor_true]
    show _ = anyN (fun k => decide (gf r t k = nI c)) (m - 1)
    have em : m = (m - 1) + 1 := by omega
    conv => lhs; rw [em]
    show ((anyN (fun k => decide (gf r t k = nI c)) (m - 1) || decide (gf r t (m - 1) = nI c)) && !decide (c = cN (gf r t) (m - 1 + 1 - 1))) = _
    rw [show m - 1 + 1 - 1 = m - 1 by omega]
    by_cases e : c = cN (gf r t) (m - 1)
    · rw [decide_eq_true e]
      have : anyN (fun k => decide (gf r t k = nI c)) (m - 1) = false := anyN_f (fun k hk => decide_eq_false (fun z => by
        have := b6 k (m - 1) (by omega) (by omega) (z.trans (by rw [e]; exact hc.2.symm))
        omega))
      rw [this]; simp
    · rw [decide_eq_false e, decide_eq_false (show ¬ gf r t (m - 1) = nI c from fun z => e (by
        rw [hc.2] at z
        exact ((nI_eq (by omega) (by omega)).mp z).symm))]
      simp
  · show (rU r.2 32 t (nI (m - 1))) 28 t = _; rw [e28]; exact a1
  · refine ⟨?_, ?_, by omega, fun j hj => b4 j (by omega), fun i hi => b5 i (by omega), fun x y hx hy z => b6 x y (by omega) (by omega) z, fun i hi => ?_⟩
    · rw [eO 4 (by decide)]; exact b1
    · rw [eO 5 (by decide)]; exact b2
    · show (rU r.2 32 t (nI (m - 1))) 26 _ = _; rw [rU_a (by decide)]; exact b7 i (by omega)
theorem J.back_n {u : cS} {r : rS} {nb nr t T B bd n : Nat} (hJ : J u r nb nr) (ht : t < 10) (hT : tJ u r nb t T B bd n 0) (hn0 : 0 < n) : J (upO u (T + 1) 1 (nI (n - 1))) (uBack r t n 0) nb nr := by
  have hk := hT.2.1.tk
  have er : uBack r t n 0 = (r.1, rU (rU r.2 31 t (nI (n - 1))) 28 t (nI 1)) := if_neg (by omega)
  rw [er]
  obtain ⟨l0, hl0, hL, _⟩ := hT.ld
  obtain ⟨dc, hdc, hdc2, _⟩ := hT.dc
  have hph := hT.ph
  obtain ⟨h1, h2, h3, h4, h5, ⟨h6, h7, h8⟩, h9, h10, h11, h12, h13, h14, h15, h16, h17⟩ := hT
  obtain ⟨k0, k1, k2, k3, k4, k5, kb, kb1, hon, hn, hn2, hmm, hm2⟩ := h2
  have hv : onT u (upO u (T + 1) 1 (nI (n - 1))) T := (onT.rf u T).O _ ⟨by omega, by omega⟩
  have e28 : ∀ z, (rU (rU r.2 31 t (nI (n - 1))) 28 t (nI 1)) 28 z = if z = t then nI 1 else r.2 28 z := fun z => by
    by_cases e : z = t
    · subst e; rw [if_pos rfl, rU_s]
    · rw [if_neg e, rU_k e, rU_a (by decide)]
  have eo : ∀ a, a ≠ 28 → a ≠ 31 → (rU (rU r.2 31 t (nI (n - 1))) 28 t (nI 1)) a = r.2 a := fun a h28 h31 => by rw [rU_a h28, rU_a h31]
  have hr : onR r (r.1, rU (rU r.2 31 t (nI (n - 1))) 28 t (nI 1)) t := by
    refine ⟨fun _ _ => rfl, fun a _ h => eo a (by omega) (by omega), fun a ha z hz => ?_, fun z _ _ => by show (rU (rU r.2 31 t (nI (n - 1))) 28 t (nI 1)) 30 z = _; rw [eo 30 (by decide) (by decide)], fun z _ => by show (rU (rU r.2 31 t (nI (n - 1))) 28 t (nI 1)) 33 z = _; rw [eo 33 (by decide) (by decide)], fun z _ => by show (rU (rU r.2 31 t (nI (n - 1))) 28 t (nI 1)) 34 z = _; rw [eo 34 (by decide) (by decide)]⟩
    show (rU (rU r.2 31 t (nI (n - 1))) 28 t (nI 1)) a z = _
    rcases ha with e | e | e | e
    · rw [e, e28, if_neg hz]
    · rw [e, eo 29 (by decide) (by decide)]
    · rw [e, rU_a (by decide), rU_k hz]
    · rw [e, eo 32 (by decide) (by decide)]
  have eO : ∀ a j, a ≠ T + 1 ∨ j ≠ 1 → (upO u (T + 1) 1 (nI (n - 1))).oI a j = u.oI a j := fun a j h => by
    show u2 u.oI (T + 1) 1 _ a j = _
    by_cases e : a = T + 1
    · subst e; rw [u2_k _ _ (by omega)]
    · rw [u2_a _ _ e]
  refine J_tab hJ ht h1 hk hv hr ?_ (Or.inr ⟨B, bd, n - 1, 0, h1, ⟨k0, k1, k2, k3, k4, k5, kb, kb1, hon, u2_s u.oI (T + 1) 1 _, by omega, ?_, by omega⟩, h3, h4, ?_, ⟨?_, ?_, ?_⟩, ?_, ?_, fun i hi => ?_, fun i hi => by omega, ?_, ?_, ?_, ?_, Or.inl ⟨?_, rfl, ?_, ⟨dc, hdc, ?_⟩, l0, hl0, hL 0 (by omega)⟩⟩)
  · have h1 := hJ.hr.2.2
    have h2 : cnt (fun z => decide (¬ (rU (rU r.2 31 t (nI (n - 1))) 28 t (nI 1)) 28 z = 0)) 10 = cnt (fun z => decide (¬ r.2 28 z = 0)) 10 := cnt_congr (fun z _ => by
      rw [e28]
      by_cases e : z = t
      · rw [if_pos e, e]
        exact (decide_eq_true (show ¬ nI 1 = 0 by decide)).trans (decide_eq_true hph).symm
      · rw [if_neg e])
    show nr + cnt (fun z => decide (¬ (rU (rU r.2 31 t (nI (n - 1))) 28 t (nI 1)) 28 z = 0)) 10 ≤ 209
    omega
  · rw [eO _ _ (by omega)]; exact hmm
  · show (rU (rU r.2 31 t (nI (n - 1))) 28 t (nI 1)) 29 t = _; rw [eo 29 (by decide) (by decide)]; exact h5
  · show _ = (rU (rU r.2 31 t (nI (n - 1))) 28 t (nI 1)) 30 (2 * t); rw [eo 30 (by decide) (by decide), eO _ _ (by omega)]; exact h6
  · show _ = (rU (rU r.2 31 t (nI (n - 1))) 28 t (nI 1)) 30 (2 * t + 1); rw [eo 30 (by decide) (by decide), eO _ _ (by omega)]; exact h7
  · show ¬ (rU (rU r.2 31 t (nI (n - 1))) 28 t (nI 1)) 30 (2 * t) = (rU (rU r.2 31 t (nI (n - 1))) 28 t (nI 1)) 30 (2 * t + 1); rw [eo 30 (by decide) (by decide)]; exact h8
  · show (rU (rU r.2 31 t (nI (n - 1))) 28 t (nI 1)) 31 t = _; rw [rU_a (by decide), rU_s]
  · show (rU (rU r.2 31 t (nI (n - 1))) 28 t (nI 1)) 32 t = _; rw [eo 32 (by decide) (by decide)]; exact h10
  · show _ = (rU (rU r.2 31 t (nI (n - 1))) 28 t (nI 1)) 33 (340 * t + i); rw [eo 33 (by decide) (by decide)]; exact h11 i (by omega)
  · rw [eO _ _ (by omega)]; exact h13
  · have : cf (r.1, rU (rU r.2 31 t (nI (n - 1))) 28 t (nI 1)) t = cf r t := by unfold cf; rw [show (r.1, rU (rU r.2 31 t (nI (n - 1))) 28 t (nI 1)).2 33 = r.2 33 from eo 33 (by decide) (by decide)]
    rw [this]; exact h14.mono (by omega)
  · show (rU (rU r.2 31 t (nI (n - 1))) 28 t (nI 1)) 27 bd = _; rw [eo 27 (by decide) (by decide)]; exact h15
  · have : gf (r.1, rU (rU r.2 31 t (nI (n - 1))) 28 t (nI 1)) t = gf r t := by unfold gf; rw [show (r.1, rU (rU r.2 31 t (nI (n - 1))) 28 t (nI 1)).2 34 = r.2 34 from eo 34 (by decide) (by decide)]
    rw [this]; exact h16
  · show (rU (rU r.2 31 t (nI (n - 1))) 28 t (nI 1)) 28 t = _; rw [e28, if_pos rfl]
  · have : cf (r.1, rU (rU r.2 31 t (nI (n - 1))) 28 t (nI 1)) t = cf r t := by unfold cf; rw [show (r.1, rU (rU r.2 31 t (nI (n - 1))) 28 t (nI 1)).2 33 = r.2 33 from eo 33 (by decide) (by decide)]
    rw [this]; exact (h14 (n - 1) (by omega)).2
  · rw [eO _ _ (by omega)]; exact hdc2
