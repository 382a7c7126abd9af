/-! ===== a result more: the joint invariant is kept ===== -/
/-- the class: a result R at u.tp, the nr-th, of the board at B -/
def addC (u z : cS) (B nr : Nat) (R : Nat → Int32) : Prop := z.tp = u.tp + 1 ∧ (∀ b, z.kd b = if b = u.tp then 9 else u.kd b) ∧ z.oI u.tp = R ∧ (∀ b, b ≠ u.tp → b ≠ 16 → b ≠ B → z.oI b = u.oI b) ∧ z.oI 16 1 = u.oI 16 1 ∧ z.oI 16 4 = nI (nr + 1) ∧ (∀ j, j ≠ 3 → z.oI B j = u.oI B j) ∧ z.oI B 3 = u.oI B 3 + nI 1 ∧ (∀ b, b ≠ u.tp → z.rI b = u.rI b ∧ z.rL b = u.rL b) ∧ (∀ b, b ≠ u.tp → b ≠ 19 → z.rR b = u.rR b) ∧ z.rR 19 nr = some u.tp ∧ ∀ j, j ≠ nr → z.rR 19 j = u.rR 19 j
/-- the reference: the same -/
def addM (r w : rS) (nr : Nat) (R : Nat → Int32) : Prop := w.1 0 = r.1 0 ∧ w.1 22 = r.1 22 ∧ w.1 1 = nI (nr + 1) ∧ (∀ a, (a < 35 ∨ a = 43 ∨ 44 < a) → ∀ z, w.2 a z = r.2 a z) ∧ (∀ a, ((35 ≤ a ∧ a ≤ 42 ∧ a ≠ 36) ∨ a = 44) → w.2 a nr = R a ∧ ∀ z, z ≠ nr → w.2 a z = r.2 a z) ∧ w.2 36 (2 * nr) = R 36 ∧ w.2 36 (2 * nr + 1) = R 0 ∧ ∀ z, z ≠ 2 * nr → z ≠ 2 * nr + 1 → w.2 36 z = r.2 36 z
theorem J.addRes {u z : cS} {r w : rS} {nb nr bd B : Nat} {R : Nat → Int32} {M : Nat → Int32} (hJ : J u r nb nr) (hbd : bd < nb) (hB : bJ u r nr bd B) (hz : addC u z B nr R) (hw : addM r w nr M) (hc : nr + 1 + cnt (fun t => decide (¬ r.2 28 t = 0)) 10 ≤ 209) (m35 : M 35 = nI (bd + 1)) (m44 : M 44 = 0) (mp : ¬ M 36 = M 0) (q0 : R 0 = M 35) (q1 : R 1 = M 36) (q2 : R 2 = M 0) (q3 : R 3 = M 37) (q4 : R 4 = M 38) (q5 : R 5 = M 39) (q6 : R 6 = M 40) (q7 : R 7 = M 41) (q8 : R 8 = M 42) (q9 : R 9 = 0) (mv : M 37 = 0 ∨ ∃ lv sr dc db tk, 1 ≤ lv ∧ lv ≤ 7 ∧ sr ≤ 4 ∧ dc < 4 ∧ db ≤ 2 ∧ tk ≤ 13 ∧ M 37 = nI lv ∧ M 38 = nI sr ∧ M 39 = nI dc ∧ M 40 = nI db ∧ M 41 = nI tk) : J z w nb (nr + 1) := by
  obtain ⟨z1, z2, z3, z4, z5, z6, z7, z8, z9, z10, z11, z12⟩ := hz
  obtain ⟨w1, w2, w3, w4, w5, w6, w7, w8⟩ := hw
  have h50 := hJ.a.1.1
  have hlt := hJ.a.1.2
  obtain ⟨k16, k17, k18, k19, k20, k21, k22, k23, k24⟩ := hJ.k
  have wf : ∀ a, (a < 35 ∨ a = 43 ∨ 44 < a) → w.2 a = r.2 a := fun a ha => funext (w4 a ha)
  have kk : ∀ a, u.kd a ≠ 0 → z.kd a = u.kd a := fun a hk => by rw [z2, if_neg (by have := hlt a hk; omega)]
  have ag : ∀ a, u.kd a ≠ 0 → a ≠ 16 → a ≠ B → a ≠ 19 → agr u z a := fun a hk n1 n2 n3 => by
    have hl := hlt a hk
    exact ⟨kk a hk, z4 a (by omega) n1 n2, (z9 a (by omega)).1, (z9 a (by omega)).2, z10 a (by omega) n3⟩
  have agk : ∀ a κ, u.kd a = κ → κ ≠ 0 → κ ≠ 10 → κ ≠ 1 → κ ≠ 13 → agr u z a := fun a κ h0 n0 n1 n2 n3 => ag a (by rw [h0]; exact n0) (fun e => by rw [e, k16] at h0; exact n1 h0.symm) (fun e => by rw [e, hB.2.1] at h0; exact n2 h0.symm) (fun e => by rw [e, k19] at h0; exact n3 h0.symm)
  have c35 : ∀ b, cnt (fun i => decide (w.2 35 i = nI (b + 1))) (nr + 1) = cnt (fun i => decide (r.2 35 i = nI (b + 1))) nr + (if nI (bd + 1) = nI (b + 1) then 1 else 0) := fun b => by
    show cnt (fun i => decide (w.2 35 i = nI (b + 1))) nr + (if decide (w.2 35 nr = nI (b + 1)) = true then 1 else 0) = _
    rw [cnt_congr (p := fun i => decide (w.2 35 i = nI (b + 1))) (q := fun i => decide (r.2 35 i = nI (b + 1))) (fun i hi => by rw [(w5 35 (by omega)).2 i (by omega)]), (w5 35 (by omega)).1, m35]
    by_cases e : nI (bd + 1) = nI (b + 1)
    · rw [if_pos e, decide_eq_true e, if_pos rfl]
    · rw [if_neg e, decide_eq_false e, if_neg (by decide)]
  have hb36 := hJ.hb.2.1
  refine ⟨?_, ⟨⟨by rw [z1]; omega, fun a ha => ?_⟩, ?_, fun i j P hi hj p1 p2 => ?_⟩, ?_, ⟨z6, w3, ?_⟩, fun b hb => ?_, fun t ht => ?_, fun i hi => ?_, ?_⟩
  · unfold kJ
    rw [kk 16 (by rw [k16]; decide), kk 17 (by rw [k17]; decide), kk 18 (by rw [k18]; decide), kk 19 (by rw [k19]; decide), kk 20 (by rw [k20]; decide), kk 21 (by rw [k21]; decide), kk 22 (by rw [k22]; decide), kk 23 (by rw [k23]; decide), kk 24 (by rw [k24]; decide)]
    exact hJ.k
  · rw [z1]
    rw [z2] at ha
    by_cases e : a = u.tp
    · omega
    · rw [if_neg e] at ha; have := hlt a ha; omega
  · rw [z10 18 (by omega) (by decide)]; exact hJ.a.2.1
  · have old : ∀ i, i < nr → ∀ P, u.rR 19 i = some P → P < u.tp := fun i hi P hP => by
      obtain ⟨R', hR'⟩ := hJ.rs hi
      have := hR'.1; rw [hP] at this; cases this
      exact hlt _ (by rw [hR'.2.1]; decide)
    by_cases e1 : i = nr
    · by_cases e2 : j = nr
      · omega
      · rw [e1, z11] at p1
        cases p1
        rw [z12 j e2] at p2
        have := old j (by omega) _ p2; omega
    · rw [z12 i e1] at p1
      by_cases e2 : j = nr
      · rw [e2, z11] at p2
        cases p2
        have := old i (by omega) _ p1; omega
      · rw [z12 j e2] at p2
        exact hJ.a.2.2 i j P (by omega) (by omega) p1 p2
  · rw [z5, w1]; exact hJ.hb
  · rw [wf 28 (by decide)]; exact hc
  · by_cases e : b = bd
    · subst e
      obtain ⟨h1, h2, h3, h4, h5, h6, h7, h8⟩ := hB
      have a1 := agk (B + 1) 2 h3 (by decide) (by decide) (by decide) (by decide)
      refine ⟨B, by rw [z10 17 (by omega) (by decide)]; exact h1, (kk B (by rw [h2]; decide)).trans h2, a1.1.trans h3, by rw [z7 0 (by decide)]; exact h4, by rw [z7 2 (by decide), wf 27 (by decide)]; exact h5, by rw [wf 27 (by decide)]; exact h6, ?_, ?_⟩
      · rw [z8, h7, c35, if_pos rfl, nI_add]
      · rw [a1.2.2.2.1, wf 26 (by decide)]; exact h8
    · obtain ⟨B', hB'⟩ := hJ.bd hb
      have hne : B' ≠ B := fun q => e (by
        have h1 := hB'.2.2.2.1
        rw [q, hB.2.2.2.1] at h1
        have := (nI_eq (by omega) (by omega)).mp h1
        omega)
      refine ⟨B', bJ_fr hB' (by rw [z10 17 (by omega) (by decide)]) (ag B' (by rw [hB'.2.1]; decide) (fun q => by have := hB'.2.1; rw [q, k16] at this; exact absurd this (by decide)) hne (fun q => by have := hB'.2.1; rw [q, k19] at this; exact absurd this (by decide))) (agk _ 2 hB'.2.2.1 (by decide) (by decide) (by decide) (by decide)) (by rw [wf 27 (by decide)]) ?_ (fun c _ => by rw [wf 26 (by decide)])⟩
      rw [c35, if_neg (fun q => e (by have := (nI_eq (by omega) (by omega)).mp q; omega))]; rfl
  · rcases hJ.tb ht with ⟨p1, p2⟩ | ⟨T, B', bd', n, m, hT⟩
    · refine Or.inl ⟨by rw [wf 28 (by decide)]; exact p1, tI0_fr p2 (by rw [z10 18 (by omega) (by decide)]) (fun T hT => ?_)⟩
      rcases p2 with p2 | ⟨T', p3, p4, p5⟩
      · rw [p2] at hT; cases hT
      · rw [p3] at hT; cases hT
        refine ⟨fun a ha hb => kk a (by rw [p4.at ha hb]; omega), ?_⟩
        exact (agk T 3 p4.1 (by decide) (by decide) (by decide) (by decide)).2.2.2.2
    · have hk := hT.2.1.tk
      refine Or.inr ⟨T, B', bd', n, m, tJ_fr hT (Nat.le_refl _) (by rw [z10 18 (by omega) (by decide)]) (by rw [z10 17 (by omega) (by decide)]) (fun a ha hb => ag a (by rw [hk.at ha hb]; omega) (fun q => hk.ne k16 (by decide) (by rw [← q]; exact ⟨ha, hb⟩)) (fun q => hk.ne hB.2.1 (by decide) (by rw [← q]; exact ⟨ha, hb⟩)) (fun q => hk.ne k19 (by decide) (by rw [← q]; exact ⟨ha, hb⟩))) (kk B' (by rw [hT.2.1.2.2.2.2.2.2.1]; decide)) (kk _ (by rw [hT.2.1.2.2.2.2.2.2.2.1]; decide)) ⟨by rw [wf 28 (by decide)], by rw [wf 29 (by decide)], by rw [wf 30 (by decide)], by rw [wf 30 (by decide)], by rw [wf 31 (by decide)], by rw [wf 32 (by decide)], fun i _ => by unfold cf; rw [wf 33 (by decide)], fun i _ => by unfold gf; rw [wf 34 (by decide)], by rw [wf 27 (by decide)], fun c _ => by rw [wf 26 (by decide)]⟩⟩
  · by_cases e : i = nr
    · subst e
      refine ⟨u.tp, z11, by rw [z2, if_pos rfl], ?_⟩
      unfold rvJ
      rw [z3, (w5 35 (by omega)).1, w6, w7, (w5 37 (by omega)).1, (w5 38 (by omega)).1, (w5 39 (by omega)).1, (w5 40 (by omega)).1, (w5 41 (by omega)).1, (w5 42 (by omega)).1, (w5 44 (by omega)).1]
      exact ⟨q0, q1, q2, q3, q4, q5, q6, q7, q8, q9.trans m44.symm, Or.inl m44, ⟨bd, hbd, m35⟩, mp, mv⟩
    · obtain ⟨P, hP⟩ := hJ.rs (show i < nr by omega)
      refine ⟨P, rJ_fr hP (Nat.le_refl _) (z12 i e) (agk P 9 hP.2.1 (by decide) (by decide) (by decide) (by decide)) (fun a ha => ?_) ⟨w8 _ (by omega) (by omega), w8 _ (by omega) (by omega)⟩ ⟨by rw [wf 43 (by decide)], by rw [wf 43 (by decide)]⟩⟩
      exact (w5 a (by omega)).2 i e
  · obtain ⟨len, t1, t2, t3, t4, t5⟩ := hJ.tx
    have a23 := agk 23 15 k23 (by decide) (by decide) (by decide) (by decide)
    have a24 := agk 24 16 k24 (by decide) (by decide) (by decide) (by decide)
    refine ⟨len, t1, by rw [a23.2.1]; exact t2, by rw [w2]; exact t3, by rw [a23.2.1]; exact t4, fun x hx => ?_⟩
    rw [a24.2.2.1, wf 45 (by decide)]; exact t5 x hx
