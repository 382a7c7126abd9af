/-! ===== endings beside the reference ===== -/
theorem J.oe {u v : cS} {r r' : rS} {nb nr : Nat} (hJ : J u r nb nr) (h : onE u v) (hS : rSame r r') : J v r' nb nr := by
  obtain ⟨s0, s1, s22, s2⟩ := hS
  obtain ⟨k16, k17, k18, k19, k20, k21, k22, k23, k24⟩ := hJ.k
  have ag : ∀ a κ, u.kd a = κ → κ ≠ 14 → a ≠ 22 → agr u v a := fun a κ hk hn h22 => ⟨by rw [h.1], h.2.2.2.2.1 a (fun e => by rw [e, k21] at hk; exact hn hk.symm), by rw [h.2.2.1], h.2.2.2.2.2 a h22, by rw [h.2.2.2.1]⟩
  have n22 : ∀ a κ, u.kd a = κ → κ ≠ 2 → a ≠ 22 := fun a κ hk hn e => by rw [e, k22] at hk; exact hn hk.symm
  have nB : ∀ B, u.kd B = 1 → B + 1 ≠ 22 := fun B hk e => by
    have : B = 21 := by omega
    rw [this, k21] at hk; exact absurd hk (by decide)
  refine ⟨?_, ?_, ?_, ?_, fun b hb => ?_, fun t ht => ?_, fun i hi => ?_, ?_⟩
  · unfold kJ; rw [h.1]; exact hJ.k
  · unfold aJ; rw [h.1, h.2.1, h.2.2.2.1]; exact hJ.a
  · rw [(ag 16 10 k16 (by decide) (by decide)).2.1, s0]; exact hJ.hb
  · rw [(ag 16 10 k16 (by decide) (by decide)).2.1, s1, s2 28 (by decide)]; exact hJ.hr
  · obtain ⟨B, hB⟩ := hJ.bd hb
    exact ⟨B, bJ_fr hB (by rw [h.2.2.2.1]) (ag B 1 hB.2.1 (by decide) (n22 B 1 hB.2.1 (by decide))) (ag _ 2 hB.2.2.1 (by decide) (nB B hB.2.1)) (by rw [s2 27 (by decide)]) (by rw [s2 35 (by decide)]) (fun c _ => by rw [s2 26 (by decide)])⟩
  · rcases hJ.tb ht with ⟨h1, h2⟩ | ⟨T, B, bd, n, m, hT⟩
    · refine Or.inl ⟨by rw [s2 28 (by decide)]; exact h1, tI0_fr h2 (by rw [h.2.2.2.1]) (fun T _ => ⟨fun a _ _ => by rw [h.1], by rw [h.2.2.2.1]⟩)⟩
    · obtain ⟨k0, k1, k2, k3, k4, k5, kb, kb1, _⟩ := hT.2.1
      refine Or.inr ⟨T, B, bd, n, m, tJ_fr hT (Nat.le_refl _) (by rw [h.2.2.2.1]) (by rw [h.2.2.2.1]) (fun a ha hb => ?_) (by rw [h.1]) (by rw [h.1]) ⟨by rw [s2 28 (by decide)], by rw [s2 29 (by decide)], by rw [s2 30 (by decide)], by rw [s2 30 (by decide)], by rw [s2 31 (by decide)], by rw [s2 32 (by decide)], fun i _ => by unfold cf; rw [s2 33 (by decide)], fun i _ => by unfold gf; rw [s2 34 (by decide)], by rw [s2 27 (by decide)], fun c _ => by rw [s2 26 (by decide)]⟩⟩
      rcases (show a = T ∨ a = T + 1 ∨ a = T + 1 + 1 ∨ a = T + 3 ∨ a = T + 3 + 1 ∨ a = T + 3 + 2 by omega) with e | e | e | e | e | e
      · rw [e]; exact ag _ 3 k0 (by decide) (n22 _ 3 k0 (by decide))
      · rw [e]; exact ag _ 4 k1 (by decide) (n22 _ 4 k1 (by decide))
      · rw [e]; exact ag _ 5 k2 (by decide) (n22 _ 5 k2 (by decide))
      · rw [e]; exact ag _ 6 k3 (by decide) (n22 _ 6 k3 (by decide))
      · rw [e]; exact ag _ 7 k4 (by decide) (n22 _ 7 k4 (by decide))
      · rw [e]; exact ag _ 8 k5 (by decide) (n22 _ 8 k5 (by decide))
  · obtain ⟨R, hR⟩ := hJ.rs hi
    exact ⟨R, rJ_fr hR (Nat.le_refl _) (by rw [h.2.2.2.1]) (ag R 9 hR.2.1 (by decide) (n22 R 9 hR.2.1 (by decide))) (fun a ha => by rw [s2 a (by omega)]) ⟨by rw [s2 36 (by decide)], by rw [s2 36 (by decide)]⟩ ⟨by rw [s2 43 (by decide)], by rw [s2 43 (by decide)]⟩⟩
  · obtain ⟨len, t1, t2, t3, t4, t5⟩ := hJ.tx
    refine ⟨len, t1, ?_, by rw [s22]; exact t3, ?_, fun i hi => ?_⟩
    · rw [(ag 23 15 k23 (by decide) (by decide)).2.1]; exact t2
    · rw [(ag 23 15 k23 (by decide) (by decide)).2.1]; exact t4
    · rw [h.2.2.1, s2 45 (by decide)]; exact t5 i hi
/-- how many cards a seat has played -/
theorem own_4 {L : Nat → Nat} {x : Nat} (hx : x < 4) (hL : ∀ j, L j < 4) : ∀ j, cnt (fun i => decide ((L (i / 4) + i % 4) % 4 = x)) (4 * j) = j
  | 0 => rfl
  | j + 1 => by
    have ih := own_4 hx hL j
    have h := hL j
    have e : 4 * (j + 1) = 4 * j + 1 + 1 + 1 + 1 := by omega
    rw [e]
    unfold cnt
    unfold cnt
    unfold cnt
    unfold cnt
    rw [ih, show (4 * j + 1 + 1 + 1) / 4 = j by omega, show (4 * j + 1 + 1) / 4 = j by omega, show (4 * j + 1) / 4 = j by omega, show 4 * j / 4 = j by omega, show (4 * j + 1 + 1 + 1) % 4 = 3 by omega, show (4 * j + 1 + 1) % 4 = 2 by omega, show (4 * j + 1) % 4 = 1 by omega, show 4 * j % 4 = 0 by omega]
    generalize L j = l at h
    have : ∀ x, x < 4 → ∀ l, l < 4 → (if decide ((l + 0) % 4 = x) = true then 1 else 0) + (if decide ((l + 1) % 4 = x) = true then 1 else 0) + (if decide ((l + 2) % 4 = x) = true then 1 else 0) + (if decide ((l + 3) % 4 = x) = true then 1 else 0) = 1 := by decide
    have := this x hx l h
    omega
theorem own_m {L : Nat → Nat} {x : Nat} (hx : x < 4) (hL : ∀ j, L j < 4) (m : Nat) : cnt (fun i => decide ((L (i / 4) + i % 4) % 4 = x)) m = m / 4 + (if (x + 4 - L (m / 4)) % 4 < m % 4 then 1 else 0) := by
  have h4 := own_4 hx hL (m / 4)
  have h := hL (m / 4)
  rcases (show m % 4 = 0 ∨ m % 4 = 1 ∨ m % 4 = 2 ∨ m % 4 = 3 by omega) with e | e | e | e
  · have em : m = 4 * (m / 4) := by omega
    rw [if_neg (by omega)]
    conv => lhs; rw [em]
    rw [h4]; rfl
  · have em : m = 4 * (m / 4) + 1 := by omega
    rw [e]
    conv => lhs; rw [em]
    unfold cnt
    rw [h4, show 4 * (m / 4) / 4 = m / 4 by omega, show 4 * (m / 4) % 4 = 0 by omega]
    generalize L (m / 4) = l at h ⊢
    have : ∀ x, x < 4 → ∀ l, l < 4 → (if decide ((l + 0) % 4 = x) = true then 1 else 0) = (if (x + 4 - l) % 4 < 1 then 1 else 0) := by decide
    rw [this x hx l h]
  · have em : m = 4 * (m / 4) + 1 + 1 := by omega
    rw [e]
    conv => lhs; rw [em]
    unfold cnt
    unfold cnt
    rw [h4, show (4 * (m / 4) + 1) / 4 = m / 4 by omega, show 4 * (m / 4) / 4 = m / 4 by omega, show (4 * (m / 4) + 1) % 4 = 1 by omega, show 4 * (m / 4) % 4 = 0 by omega]
    generalize L (m / 4) = l at h ⊢
    have : ∀ x, x < 4 → ∀ l, l < 4 → (if decide ((l + 0) % 4 = x) = true then 1 else 0) + (if decide ((l + 1) % 4 = x) = true then 1 else 0) = (if (x + 4 - l) % 4 < 2 then 1 else 0) := by decide
    have := this x hx l h
    omega
  · have em : m = 4 * (m / 4) + 1 + 1 + 1 := by omega
    rw [e]
    conv => lhs; rw [em]
    unfold cnt
    unfold cnt
    unfold cnt
    rw [h4, show (4 * (m / 4) + 1 + 1) / 4 = m / 4 by omega, show (4 * (m / 4) + 1) / 4 = m / 4 by omega, show 4 * (m / 4) / 4 = m / 4 by omega, show (4 * (m / 4) + 1 + 1) % 4 = 2 by omega, show (4 * (m / 4) + 1) % 4 = 1 by omega, show 4 * (m / 4) % 4 = 0 by omega]
    generalize L (m / 4) = l at h ⊢
    have : ∀ x, x < 4 → ∀ l, l < 4 → (if decide ((l + 0) % 4 = x) = true then 1 else 0) + (if decide ((l + 1) % 4 = x) = true then 1 else 0) + (if decide ((l + 2) % 4 = x) = true then 1 else 0) = (if (x + 4 - l) % 4 < 3 then 1 else 0) := by decide
    have := this x hx l h
    omega
/-- cards held and cards played make thirteen -/
theorem held_m {f : Nat → Int32} {g : Nat → Int32} {own : Nat → Nat} {x : Nat} (hx : x < 4) : ∀ m, (∀ i, i < m → cN g i < 52 ∧ g i = nI (cN g i)) → (∀ i j, i < m → j < m → g i = g j → i = j) → (∀ i, i < m → f (cN g i) = nI (own i) ∧ own i < 4) → cnt (fun c => decide (f c = nI x)) 52 = 13 → cnt (fun c => decide (f c = nI x) && !(anyN (fun k => decide (g k = nI c)) m)) 52 + cnt (fun i => decide (own i = x)) m = 13
  | 0, _, _, _, h => by
    show cnt (fun c => decide (f c = nI x) && !false) 52 + 0 = 13
    rw [← h]
    exact cnt_congr (fun i _ => by simp)
  | m + 1, h1, h2, h3, h => by
    have ih := held_m (own := own) hx m (fun i hi => h1 i (by omega)) (fun i j hi hj => h2 i j (by omega) (by omega)) (fun i hi => h3 i (by omega)) h
    have hm := h1 m (by omega)
    have ho := h3 m (by omega)
    have hnp : anyN (fun k => decide (g k = nI (cN g m))) m = false := anyN_f (fun k hk => decide_eq_false (fun z => by
      have := h2 k m (by omega) (by omega) (z.trans hm.2.symm)
      omega))
    have hany : ∀ c, c < 52 → anyN (fun k => decide (g k = nI c)) (m + 1) = (anyN (fun k => decide (g k = nI c)) m || decide (c = cN g m)) := by
      intro c hc
      show (anyN (fun k => decide (g k = nI c)) m || decide (g m = nI c)) = _
      congr 1
      rw [hm.2]
      exact decide_eq_decide.mpr ⟨fun z => ((nI_eq (by omega) (by omega)).mp z).symm, fun z => by rw [z]⟩
    show _ + (cnt (fun i => decide (own i = x)) m + (if decide (own m = x) = true then 1 else 0)) = 13
    by_cases e : own m = x
    · rw [decide_eq_true e, if_pos rfl]
      have := cnt_rm (p := fun c => decide (f c = nI x) && !(anyN (fun k => decide (g k = nI c)) m)) (q := fun c => decide (f c = nI x) && !(anyN (fun k => decide (g k = nI c)) (m + 1))) hm.1 (by show (decide (f (cN g m) = nI x) && !(anyN (fun k => decide (g k = nI (cN g m))) m)) = true; rw [hnp, ho.1, e]; simp) (fun c hc => by
        show (decide (f c = nI x) && !(anyN (fun k => decide (g k = nI c)) (m + 1))) = _
        rw [hany c hc]
        by_cases e2 : c = cN g m
        · rw [if_pos e2, decide_eq_true e2]; simp
        · rw [if_neg e2, decide_eq_false e2, Bool.or_false])
      omega
    · rw [decide_eq_false e, if_neg (by decide)]
      have := cnt_congr (n := 52) (p := fun c => decide (f c = nI x) && !(anyN (fun k => decide (g k = nI c)) (m + 1))) (q := fun c => decide (f c = nI x) && !(anyN (fun k => decide (g k = nI c)) m)) (fun c hc => by
        show (decide (f c = nI x) && !(anyN (fun k => decide (g k = nI c)) (m + 1))) = _
        rw [hany c hc]
        by_cases e2 : c = cN g m
        · rw [e2, ho.1, decide_eq_false (fun z => e ((nI_eq (by omega) (by omega)).mp z))]; rfl
        · rw [decide_eq_false e2, Bool.or_false])
      rw [this]
      omega
