/-! ===== begin: the joint invariant is kept ===== -/
theorem J.mark {u : cS} {r : rS} {nb nr b B : Nat} (hJ : J u r nb nr) (hb : b < nb) (hB : bJ u r nr b B) : J (upO u B 2 1) (r.1, rU r.2 27 b 1) nb nr := by
  obtain ⟨k16, k17, k18, k19, k20, k21, k22, k23, k24⟩ := hJ.k
  have ag : ∀ x, x ≠ B → agr u (upO u B 2 1) x := fun x hx => ⟨rfl, u2_a u.oI _ hx, rfl, rfl, rfl⟩
  have agk : ∀ x κ, u.kd x = κ → κ ≠ 1 → agr u (upO u B 2 1) x := fun x κ h1 h2 => ag x (fun e => by rw [e, hB.2.1] at h1; exact h2 h1.symm)
  have eo : ∀ x, x ≠ 27 → (rU r.2 27 b 1) x = r.2 x := fun x h => rU_a h
  have a16 := agk 16 10 k16 (by decide)
  have a23 := agk 23 15 k23 (by decide)
  refine ⟨hJ.k, hJ.a, ?_, ?_, fun bb hbb => ?_, fun t ht => ?_, fun i hi => ?_, ?_⟩
  · rw [a16.2.1]; exact hJ.hb
  · rw [a16.2.1]
    show _ ∧ _ ∧ nr + cnt (fun t => decide (¬ (rU r.2 27 b 1) 28 t = 0)) 10 ≤ 209
    rw [eo 28 (by decide)]; exact hJ.hr
  · by_cases e : bb = b
    · subst e
      obtain ⟨h1, h2, h3, h4, h5, h6, h7, h8⟩ := hB
      have hB1 : B + 1 ≠ B := by omega
      refine ⟨B, h1, h2, h3, ?_, ?_, Or.inr (rU_s r.2 27 bb 1), ?_, ?_⟩
      · show u2 u.oI B 2 1 B 0 = _; rw [u2_k _ _ (by decide)]; exact h4
      · show u2 u.oI B 2 1 B 2 = rU r.2 27 bb 1 27 bb; rw [u2_s, rU_s]
      · show u2 u.oI B 2 1 B 3 = nI (cnt (fun i => decide ((rU r.2 27 bb 1) 35 i = nI (bb + 1))) nr); rw [u2_k _ _ (by decide), eo 35 (by decide)]; exact h7
      · show bH (u.rL (B + 1)) (fun c => (rU r.2 27 bb 1) 26 (52 * bb + c)); rw [eo 26 (by decide)]; exact h8
    · obtain ⟨B', hB'⟩ := hJ.bd hbb
      have hne : B' ≠ B := fun z => e (by
        have h1 := hB'.2.2.2.1
        rw [z, hB.2.2.2.1] at h1
        have := (nI_eq (by have := hJ.hb.2.1; omega) (by have := hJ.hb.2.1; omega)).mp h1
        omega)
      exact ⟨B', bJ_fr hB' rfl (ag B' hne) (agk _ 2 hB'.2.2.1 (by decide)) (rU_k (A := r.2) (a := 27) (n := b) (v := 1) e) (by show cnt (fun i => decide ((rU r.2 27 b 1) 35 i = _)) nr = _; rw [eo 35 (by decide)]) (fun c _ => by show (rU r.2 27 b 1) 26 _ = _; rw [eo 26 (by decide)])⟩
  · rcases hJ.tb ht with ⟨h1, h2⟩ | ⟨T, B', bd, n, m, hT⟩
    · exact Or.inl ⟨by show (rU r.2 27 b 1) 28 t = 0; rw [eo 28 (by decide)]; exact h1, tI0_fr h2 rfl (fun T _ => ⟨fun a _ _ => rfl, rfl⟩)⟩
    · refine Or.inr ⟨T, B', bd, n, m, tJ_fr hT (Nat.le_refl _) rfl rfl (fun x h1 h2 => agk x _ (hT.2.1.tk.at h1 h2) (by omega)) rfl rfl ⟨by show (rU r.2 27 b 1) 28 t = _; rw [eo 28 (by decide)], by show (rU r.2 27 b 1) 29 t = _; rw [eo 29 (by decide)], by show (rU r.2 27 b 1) 30 _ = _; rw [eo 30 (by decide)], by show (rU r.2 27 b 1) 30 _ = _; rw [eo 30 (by decide)], by show (rU r.2 27 b 1) 31 t = _; rw [eo 31 (by decide)], by show (rU r.2 27 b 1) 32 t = _; rw [eo 32 (by decide)], fun i _ => by unfold cf; show _ = (rU r.2 27 b 1) 33 _; rw [eo 33 (by decide)], fun i _ => by unfold gf; show _ = (rU r.2 27 b 1) 34 _; rw [eo 34 (by decide)], ?_, fun c _ => by show (rU r.2 27 b 1) 26 _ = _; rw [eo 26 (by decide)]⟩⟩
      show (rU r.2 27 b 1) 27 bd = _
      by_cases e : bd = b
      · rw [e, rU_s, ← e]; exact hT.2.2.2.2.2.2.2.2.2.2.2.2.1.symm
      · rw [rU_k e]
  · obtain ⟨R, hR⟩ := hJ.rs hi
    exact ⟨R, rJ_fr hR (Nat.le_refl _) rfl (agk R 9 hR.2.1 (by decide)) (fun x hx => by show (rU r.2 27 b 1) x i = _; rw [eo x (by omega)]) ⟨by show (rU r.2 27 b 1) 36 _ = _; rw [eo 36 (by decide)], by show (rU r.2 27 b 1) 36 _ = _; rw [eo 36 (by decide)]⟩ ⟨by show (rU r.2 27 b 1) 43 _ = _; rw [eo 43 (by decide)], by show (rU r.2 27 b 1) 43 _ = _; rw [eo 43 (by decide)]⟩⟩
  · obtain ⟨len, t1, t2, t3, t4, t5⟩ := hJ.tx
    exact ⟨len, t1, by rw [a23.2.1]; exact t2, t3, by rw [a23.2.1]; exact t4, fun x hx => by show ∃ c, _ ∧ u.rI 24 x = _ ∧ (rU r.2 27 b 1) 45 x = _; rw [eo 45 (by decide)]; exact t5 x hx⟩
theorem gn_0 {w : Int64} (hw : w = lN 0) (g : Nat → Int32) : gnJ w g 0 := by
  subst hw
  exact ⟨fun k _ => hb_0 k, fun c _ => hb_0 c⟩
/-- a board is begun at an idle table -/
theorem J.begin {u : cS} {r : rS} {nb nr t b T B : Nat} {n e : Int32} (hJ : J u r nb nr) (ht : t < 10) (hT : u.rR 18 t = some T) (hk : tK u T) (hbn : b < nb) (hB : bJ u r nr b B) (hne : ¬ n = e) (hnr : nr < 200) : J (tSt u T B n e (nI (b % 4))) (uBegin r t b n e) nb nr := by
  have hJ1 := hJ.mark hbn hB
  have hBT : ¬ (T ≤ B ∧ B ≤ T + 5) := hk.ne hB.2.1 (by decide)
  have nB0 : T ≠ B := fun z => hBT (by omega)
  have nB1 : T + 1 ≠ B := fun z => hBT (by omega)
  have nB3 : T + 3 ≠ B := fun z => hBT (by omega)
  have k18 := hJ.k.2.2.1
  have n18 : 18 ≠ T := fun z => by have := hk.1; rw [← z, k18] at this; exact absurd this (by decide)
  -- fields
  have hv : onT (upO u B 2 1) (tSt u T B n e (nI (b % 4))) T := by
    refine ⟨rfl, rfl, fun a ha => ⟨rfl, ?_, ?_, ?_, ?_⟩⟩
    · show u2 (u2 (u2 (u2 (u2 (u2 (u2 (u2 u.oI B 2 1) T 1 n) T 2 e) (T + 1) 2 (nI (b % 4))) (T + 1) 1 0) (T + 3) 2 (nI 0)) (T + 3) 4 (nI 0)) (T + 3) 5 (nI 0) a = u2 u.oI B 2 1 a
      rw [u2_a _ _ (by omega), u2_a _ _ (by omega), u2_a _ _ (by omega), u2_a _ _ (by omega), u2_a _ _ (by omega), u2_a _ _ (by omega), u2_a _ _ (by omega)]
    · show u2 u.rI (T + 3 + 2) 0 _ a = u.rI a
      rw [u2_a _ _ (by omega)]
    · show u2 u.rL (T + 3) 0 _ a = u.rL a
      rw [u2_a _ _ (by omega)]
    · show u2 u.rR T 0 _ a = u.rR a
      rw [u2_a _ _ (by omega)]
  have r28 : ∀ z, (uBegin r t b n e).2 28 z = if z = t then nI 1 else r.2 28 z := fun z => by
    show (rU (rU (rU (rU (rU (rU (rU r.2 28 t (nI 1)) 29 t (nI (b + 1))) 30 (2 * t) n) 30 (2 * t + 1) e) 31 t (nI 0)) 32 t (nI 0)) 27 b 1) 28 z = _
    rw [rU_a (by decide), rU_a (by decide), rU_a (by decide), rU_a (by decide), rU_a (by decide), rU_a (by decide)]
    by_cases q : z = t
    · rw [if_pos q, q, rU_s]
    · rw [if_neg q, rU_k q]
  have r29 : ∀ z, (uBegin r t b n e).2 29 z = if z = t then nI (b + 1) else r.2 29 z := fun z => by
    show (rU (rU (rU (rU (rU (rU (rU r.2 28 t (nI 1)) 29 t (nI (b + 1))) 30 (2 * t) n) 30 (2 * t + 1) e) 31 t (nI 0)) 32 t (nI 0)) 27 b 1) 29 z = _
    rw [rU_a (by decide), rU_a (by decide), rU_a (by decide), rU_a (by decide), rU_a (by decide)]
    by_cases q : z = t
    · rw [if_pos q, q, rU_s]
    · rw [if_neg q, rU_k q, rU_a (by decide)]
  have r30 : ∀ z, (uBegin r t b n e).2 30 z = if z = 2 * t + 1 then e else if z = 2 * t then n else r.2 30 z := fun z => by
    show (rU (rU (rU (rU (rU (rU (rU r.2 28 t (nI 1)) 29 t (nI (b + 1))) 30 (2 * t) n) 30 (2 * t + 1) e) 31 t (nI 0)) 32 t (nI 0)) 27 b 1) 30 z = _
    rw [rU_a (by decide), rU_a (by decide), rU_a (by decide)]
    by_cases q : z = 2 * t + 1
    · rw [if_pos q, q, rU_s]
    · rw [if_neg q, rU_k q]
      by_cases q2 : z = 2 * t
      · rw [if_pos q2, q2, rU_s]
      · rw [if_neg q2, rU_k q2, rU_a (by decide), rU_a (by decide)]
  have r31 : ∀ z, (uBegin r t b n e).2 31 z = if z = t then nI 0 else r.2 31 z := fun z => by
    show (rU (rU (rU (rU (rU (rU (rU r.2 28 t (nI 1)) 29 t (nI (b + 1))) 30 (2 * t) n) 30 (2 * t + 1) e) 31 t (nI 0)) 32 t (nI 0)) 27 b 1) 31 z = _
    rw [rU_a (by decide), rU_a (by decide)]
    by_cases q : z = t
    · rw [if_pos q, q, rU_s]
    · rw [if_neg q, rU_k q, rU_a (by decide), rU_a (by decide), rU_a (by decide), rU_a (by decide)]
  have r32 : ∀ z, (uBegin r t b n e).2 32 z = if z = t then nI 0 else r.2 32 z := fun z => by
    show (rU (rU (rU (rU (rU (rU (rU r.2 28 t (nI 1)) 29 t (nI (b + 1))) 30 (2 * t) n) 30 (2 * t + 1) e) 31 t (nI 0)) 32 t (nI 0)) 27 b 1) 32 z = _
    rw [rU_a (by decide)]
    by_cases q : z = t
    · rw [if_pos q, q, rU_s]
    · rw [if_neg q, rU_k q, rU_a (by decide), rU_a (by decide), rU_a (by decide), rU_a (by decide), rU_a (by decide)]
  have ro : ∀ a, (a < 27 ∨ 32 < a) → (uBegin r t b n e).2 a = r.2 a := fun a ha => by
    show (rU (rU (rU (rU (rU (rU (rU r.2 28 t (nI 1)) 29 t (nI (b + 1))) 30 (2 * t) n) 30 (2 * t + 1) e) 31 t (nI 0)) 32 t (nI 0)) 27 b 1) a = _
    rw [rU_a (by omega), rU_a (by omega), rU_a (by omega), rU_a (by omega), rU_a (by omega), rU_a (by omega), rU_a (by omega)]
  have r27 : (uBegin r t b n e).2 27 = (rU r.2 27 b 1) 27 := by
    funext z
    show (rU (rU (rU (rU (rU (rU (rU r.2 28 t (nI 1)) 29 t (nI (b + 1))) 30 (2 * t) n) 30 (2 * t + 1) e) 31 t (nI 0)) 32 t (nI 0)) 27 b 1) 27 z = _
    by_cases q : z = b
    · rw [q, rU_s, rU_s]
    · rw [rU_k q, rU_k q, rU_a (by decide), rU_a (by decide), rU_a (by decide), rU_a (by decide), rU_a (by decide), rU_a (by decide)]
  have hr : onR (r.1, rU r.2 27 b 1) (uBegin r t b n e) t := by
    refine ⟨fun _ _ => rfl, fun a _ h => ?_, fun a ha z hz => ?_, fun z q1 q2 => ?_, fun z _ => ?_, fun z _ => ?_⟩
    · by_cases q : a = 27
      · rw [q]; exact r27
      · rw [ro a (by omega)]; exact (rU_a (A := r.2) (n := b) (v := 1) q).symm
    · show _ = (rU r.2 27 b 1) a z
      rcases ha with q | q | q | q
      · rw [q, r28, if_neg hz, rU_a (by decide)]
      · rw [q, r29, if_neg hz, rU_a (by decide)]
      · rw [q, r31, if_neg hz, rU_a (by decide)]
      · rw [q, r32, if_neg hz, rU_a (by decide)]
    · show _ = (rU r.2 27 b 1) 30 z
      rw [r30, if_neg q2, if_neg q1, rU_a (by decide)]
    · show _ = (rU r.2 27 b 1) 33 z
      rw [ro 33 (by decide), rU_a (by decide)]
    · show _ = (rU r.2 27 b 1) 34 z
      rw [ro 34 (by decide), rU_a (by decide)]
  have hB1 := hJ.bd hbn
  refine J_tab hJ1 ht hT hk hv hr ?_ (Or.inr ⟨B, b, 0, 0, ?_, ⟨hk.1, hk.2.1, hk.2.2.1, hk.2.2.2.1, hk.2.2.2.2.1, hk.2.2.2.2.2, hB.2.1, hB.2.2.1, u2_s u.rR T 0 _, ?_, by omega, ?_, by omega⟩, hbn, ?_, ?_, ⟨?_, ?_, ?_⟩, ?_, ?_, fun i hi => absurd hi (by omega), fun i hi => absurd hi (by omega), ?_, fun k hk => absurd hk (by omega), ?_, gn_0 (u2_s u.rL (T + 3) 0 _) _, Or.inl ⟨?_, rfl, rfl, ⟨0, by decide, ?_⟩, 1, by decide, u2_s u.rI (T + 3 + 2) 0 _⟩⟩)
  · have := cnt_le (fun z => decide (¬ (uBegin r t b n e).2 28 z = 0)) 10
    omega
  · show u2 u.rR T 0 _ 18 t = _; rw [u2_a _ _ n18]; exact hT
  · show u2 (u2 (u2 (u2 (u2 (u2 (u2 (u2 u.oI B 2 1) T 1 n) T 2 e) (T + 1) 2 (nI (b % 4))) (T + 1) 1 0) (T + 3) 2 (nI 0)) (T + 3) 4 (nI 0)) (T + 3) 5 (nI 0) (T + 1) 1 = _
    rw [u2_a _ _ (by omega), u2_a _ _ (by omega), u2_a _ _ (by omega), u2_s]; rfl
  · show u2 (u2 (u2 (u2 (u2 (u2 (u2 (u2 u.oI B 2 1) T 1 n) T 2 e) (T + 1) 2 (nI (b % 4))) (T + 1) 1 0) (T + 3) 2 (nI 0)) (T + 3) 4 (nI 0)) (T + 3) 5 (nI 0) (T + 3) 2 = _
    rw [u2_k _ _ (by decide), u2_k _ _ (by decide), u2_s]
  · show u2 u.rR T 0 _ 17 b = _
    rw [u2_a _ _ (fun z => by have := hk.1; rw [← z, hJ.k.2.1] at this; exact absurd this (by decide))]; exact hB.1
  · rw [r29, if_pos rfl]
  · show u2 (u2 (u2 (u2 (u2 (u2 (u2 (u2 u.oI B 2 1) T 1 n) T 2 e) (T + 1) 2 (nI (b % 4))) (T + 1) 1 0) (T + 3) 2 (nI 0)) (T + 3) 4 (nI 0)) (T + 3) 5 (nI 0) T 1 = _
    rw [u2_a _ _ (by omega), u2_a _ _ (by omega), u2_a _ _ (by omega), u2_a _ _ (by omega), u2_a _ _ (by omega), u2_k _ _ (by decide), u2_s, r30, if_neg (by omega), if_pos rfl]
  · show u2 (u2 (u2 (u2 (u2 (u2 (u2 (u2 u.oI B 2 1) T 1 n) T 2 e) (T + 1) 2 (nI (b % 4))) (T + 1) 1 0) (T + 3) 2 (nI 0)) (T + 3) 4 (nI 0)) (T + 3) 5 (nI 0) T 2 = _
    rw [u2_a _ _ (by omega), u2_a _ _ (by omega), u2_a _ _ (by omega), u2_a _ _ (by omega), u2_a _ _ (by omega), u2_s, r30, if_pos rfl]
  · rw [r30, r30, if_neg (by omega), if_pos rfl, if_pos rfl]; exact hne
  · rw [r31, if_pos rfl]
  · rw [r32, if_pos rfl]
  · show u2 (u2 (u2 (u2 (u2 (u2 (u2 (u2 u.oI B 2 1) T 1 n) T 2 e) (T + 1) 2 (nI (b % 4))) (T + 1) 1 0) (T + 3) 2 (nI 0)) (T + 3) 4 (nI 0)) (T + 3) 5 (nI 0) (T + 1) 2 = _
    rw [u2_a _ _ (by omega), u2_a _ _ (by omega), u2_a _ _ (by omega), u2_k _ _ (by decide), u2_s]
  · rw [r27, rU_s]
  · rw [r28, if_pos rfl]
  · show u2 (u2 (u2 (u2 (u2 (u2 (u2 (u2 u.oI B 2 1) T 1 n) T 2 e) (T + 1) 2 (nI (b % 4))) (T + 1) 1 0) (T + 3) 2 (nI 0)) (T + 3) 4 (nI 0)) (T + 3) 5 (nI 0) (T + 3) 4 = _
    rw [u2_k _ _ (by decide), u2_s]
/-- a table is made, idle yet -/
theorem J.newT {u : cS} {r : rS} {nb nr t : Nat} (hJ : J u r nb nr) (ht : t < 10) (h28 : r.2 28 t = 0) : J (upR (tN u u.tp) 18 t (some u.tp)) r nb nr ∧ tK (upR (tN u u.tp) 18 t (some u.tp)) u.tp := by
  have h50 := hJ.a.1.1
  have hlt := hJ.a.1.2
  obtain ⟨k16, k17, k18, k19, k20, k21, k22, k23, k24⟩ := hJ.k
  have kz : ∀ a, ¬ (u.tp ≤ a ∧ a ≤ u.tp + 5) → (upR (tN u u.tp) 18 t (some u.tp)).kd a = u.kd a := fun a ha => by
    show (if a = u.tp then 3 else if a = u.tp + 1 then 4 else if a = u.tp + 2 then 5 else if a = u.tp + 3 then 6 else if a = u.tp + 4 then 7 else if a = u.tp + 5 then 8 else u.kd a) = _
    rw [if_neg (by omega), if_neg (by omega), if_neg (by omega), if_neg (by omega), if_neg (by omega), if_neg (by omega)]
  have ag : ∀ a, ¬ (u.tp ≤ a ∧ a ≤ u.tp + 5) → a ≠ 18 → agr u (upR (tN u u.tp) 18 t (some u.tp)) a := fun a ha n => ⟨kz a ha, if_neg ha, if_neg ha, if_neg ha, by
    show u2 (tN u u.tp).rR 18 t _ a = _
    rw [u2_a _ _ n]; exact if_neg ha⟩
  have agk : ∀ a κ, u.kd a = κ → κ ≠ 0 → κ ≠ 12 → agr u (upR (tN u u.tp) 18 t (some u.tp)) a := fun a κ h0 n0 n1 => ag a (by have := hlt a (by rw [h0]; exact n0); omega) (fun e => by rw [e, k18] at h0; exact n1 h0.symm)
  have r18 : ∀ z, z ≠ t → (upR (tN u u.tp) 18 t (some u.tp)).rR 18 z = u.rR 18 z := fun z hz => by
    show u2 (tN u u.tp).rR 18 t _ 18 z = _
    rw [u2_k _ _ hz]
    show (if u.tp ≤ 18 ∧ 18 ≤ u.tp + 5 then _ else u.rR 18) z = _
    rw [if_neg (by omega)]
  have r18t : (upR (tN u u.tp) 18 t (some u.tp)).rR 18 t = some u.tp := by
    show u2 (tN u u.tp).rR 18 t _ 18 t = _
    rw [u2_s]
  have hTK : tK (upR (tN u u.tp) 18 t (some u.tp)) u.tp := by
    refine ⟨?_, ?_, ?_, ?_, ?_, ?_⟩
    · show (if u.tp = u.tp then 3 else _) = _; rw [if_pos rfl]
    · show (if u.tp + 1 = u.tp then 3 else if u.tp + 1 = u.tp + 1 then 4 else _) = _; rw [if_neg (by omega), if_pos rfl]
    · show (if u.tp + 1 + 1 = u.tp then 3 else if u.tp + 1 + 1 = u.tp + 1 then 4 else if u.tp + 1 + 1 = u.tp + 2 then 5 else _) = _; rw [if_neg (by omega), if_neg (by omega), if_pos (by omega)]
    · show (if u.tp + 3 = u.tp then 3 else if u.tp + 3 = u.tp + 1 then 4 else if u.tp + 3 = u.tp + 2 then 5 else if u.tp + 3 = u.tp + 3 then 6 else _) = _; rw [if_neg (by omega), if_neg (by omega), if_neg (by omega), if_pos rfl]
    · show (if u.tp + 3 + 1 = u.tp then 3 else if u.tp + 3 + 1 = u.tp + 1 then 4 else if u.tp + 3 + 1 = u.tp + 2 then 5 else if u.tp + 3 + 1 = u.tp + 3 then 6 else if u.tp + 3 + 1 = u.tp + 4 then 7 else _) = _; rw [if_neg (by omega), if_neg (by omega), if_neg (by omega), if_neg (by omega), if_pos (by omega)]
    · show (if u.tp + 3 + 2 = u.tp then 3 else if u.tp + 3 + 2 = u.tp + 1 then 4 else if u.tp + 3 + 2 = u.tp + 2 then 5 else if u.tp + 3 + 2 = u.tp + 3 then 6 else if u.tp + 3 + 2 = u.tp + 4 then 7 else if u.tp + 3 + 2 = u.tp + 5 then 8 else _) = _; rw [if_neg (by omega), if_neg (by omega), if_neg (by omega), if_neg (by omega), if_neg (by omega), if_pos (by omega)]
  have hold : ∀ z T, z < 10 → u.rR 18 z = some T → T + 5 < u.tp ∧ tK u T := fun z T hz hT => by
    have hk : tK u T := by
      rcases hJ.tb hz with ⟨_, q2⟩ | ⟨T', B, bd, n, m, hT'⟩
      · rcases q2 with q2 | ⟨T', q3, q4, _⟩
        · rw [q2] at hT; cases hT
        · rw [q3] at hT; cases hT; exact q4
      · have := hT'.1; rw [hT] at this; cases this; exact hT'.2.1.tk
    exact ⟨hlt _ (by rw [hk.at (by omega) (Nat.le_refl _)]; omega), hk⟩
  have kk : ∀ a, u.kd a ≠ 0 → (upR (tN u u.tp) 18 t (some u.tp)).kd a = u.kd a := fun a hk => kz a (by have := hlt a hk; omega)
  refine ⟨⟨?_, ⟨⟨?_, fun a ha => ?_⟩, fun z z' T hz hz' q1 q2 => ?_, ?_⟩, ?_, ?_, fun b hb => ?_, fun z hz => ?_, fun i hi => ?_, ?_⟩, hTK⟩
  · unfold kJ
    rw [kk 16 (by rw [k16]; decide), kk 17 (by rw [k17]; decide), kk 18 (by rw [k18]; decide), kk 19 (by rw [k19]; decide), kk 20 (by rw [k20]; decide), kk 21 (by rw [k21]; decide), kk 22 (by rw [k22]; decide), kk 23 (by rw [k23]; decide), kk 24 (by rw [k24]; decide)]
    exact hJ.k
  · show 50 ≤ u.tp + 6; omega
  · show a < u.tp + 6
    by_cases q : u.tp ≤ a ∧ a ≤ u.tp + 5
    · omega
    · rw [kz a q] at ha
      have := hlt a ha; omega
  · by_cases e1 : z = t
    · by_cases e2 : z' = t
      · omega
      · rw [e1, r18t] at q1
        cases q1
        rw [r18 z' e2] at q2
        have := (hold z' _ hz' q2).1; omega
    · rw [r18 z e1] at q1
      by_cases e2 : z' = t
      · rw [e2, r18t] at q2
        cases q2
        have := (hold z _ hz q1).1; omega
      · rw [r18 z' e2] at q2
        exact hJ.a.2.1 z z' T hz hz' q1 q2
  · rw [(agk 19 13 k19 (by decide) (by decide)).2.2.2.2]; exact hJ.a.2.2
  · rw [(agk 16 10 k16 (by decide) (by decide)).2.1]; exact hJ.hb
  · rw [(agk 16 10 k16 (by decide) (by decide)).2.1]; exact hJ.hr
  · obtain ⟨B, hB⟩ := hJ.bd hb
    exact ⟨B, bJ_fr hB (by rw [(agk 17 11 k17 (by decide) (by decide)).2.2.2.2]) (agk B 1 hB.2.1 (by decide) (by decide)) (agk _ 2 hB.2.2.1 (by decide) (by decide)) rfl rfl (fun _ _ => rfl)⟩
  · by_cases e : z = t
    · subst e
      refine Or.inl ⟨h28, Or.inr ⟨u.tp, r18t, hTK, ?_⟩⟩
      show u2 (tN u u.tp).rR 18 z _ u.tp 0 = _
      rw [u2_a _ _ (by omega)]
      show (if u.tp ≤ u.tp ∧ u.tp ≤ u.tp + 5 then (fun _ => none) else _) 0 = _
      rw [if_pos ⟨Nat.le_refl _, by omega⟩]
    · rcases hJ.tb hz with ⟨q1, q2⟩ | ⟨T, B, bd, n, m, hT⟩
      · refine Or.inl ⟨q1, tI0_fr q2 (r18 z e) (fun T hT => ?_)⟩
        obtain ⟨hl, hk⟩ := hold z T hz hT
        exact ⟨fun a ha hb => kz a (by omega), (ag T (by omega) (fun q => by have := hk.1; rw [q, k18] at this; exact absurd this (by decide))).2.2.2.2⟩
      · obtain ⟨hl, hk⟩ := hold z T hz hT.1
        exact Or.inr ⟨T, B, bd, n, m, tJ_fr hT (Nat.le_refl _) (r18 z e) (by rw [(agk 17 11 k17 (by decide) (by decide)).2.2.2.2]) (fun a ha hb => ag a (by omega) (fun q => hk.ne k18 (by decide) (by rw [← q]; exact ⟨ha, hb⟩))) (kk B (by rw [hT.2.1.2.2.2.2.2.2.1]; decide)) (kk _ (by rw [hT.2.1.2.2.2.2.2.2.2.1]; decide)) (rT.rf r z n m bd)⟩
  · obtain ⟨R, hR⟩ := hJ.rs hi
    exact ⟨R, rJ_fr hR (Nat.le_refl _) (by rw [(agk 19 13 k19 (by decide) (by decide)).2.2.2.2]) (agk R 9 hR.2.1 (by decide) (by decide)) (fun _ _ => rfl) ⟨rfl, rfl⟩ ⟨rfl, rfl⟩⟩
  · obtain ⟨len, t1, t2, t3, t4, t5⟩ := hJ.tx
    refine ⟨len, t1, ?_, t3, ?_, fun i hi => ?_⟩
    · rw [(agk 23 15 k23 (by decide) (by decide)).2.1]; exact t2
    · rw [(agk 23 15 k23 (by decide) (by decide)).2.1]; exact t4
    · rw [(agk 24 16 k24 (by decide) (by decide)).2.2.1]; exact t5 i hi
