/-! ===== auctions: what the class tells is what the reference tells; no auction passes the room ===== -/
/-- calls that the laws allow, none behind an auction that is over -/
def aucOk (f : Nat → Int32) (n : Nat) : Prop := ∀ k, k < n → mcF f k (f k) = true ∧ ovF f k = false
theorem aucOk.in {f : Nat → Int32} {n : Nat} (h : aucOk f n) {k : Nat} (hk : k < n) : inF (f k) 0 37 = true := by
  have := (h k hk).1
  unfold mcF at this
  rw [Bool.and_eq_true] at this
  exact this.1
theorem aucOk.nat {f : Nat → Int32} {n : Nat} (h : aucOk f n) {k : Nat} (hk : k < n) : ∃ y, y ≤ 37 ∧ f k = nI y := by
  obtain ⟨y, _, h2, h3⟩ := in_of (h.in hk) (n := 0) (m := 37) rfl rfl (by decide) (by decide)
  exact ⟨y, h2, h3⟩
theorem aucOk.fz {f : Nat → Int32} {n : Nat} (h : aucOk f n) {k : Nat} (hk : k < n) : fr1 (nI 1) (f k) = nz (f k) := by
  obtain ⟨y, h1, h2⟩ := h.nat hk
  rw [h2]
  have : ∀ y, y ≤ 37 → fr1 (nI 1) (nI y) = nz (nI y) := by decide
  exact this y h1
theorem aucOk.la {f : Nat → Int32} {n : Nat} (h : aucOk f n) : last (fr1 (nI 1)) f n = last nz f n := last_congr (fun _ hi => h.fz hi)
theorem aucOk.mono {f : Nat → Int32} {n m : Nat} (h : aucOk f n) (hm : m ≤ n) : aucOk f m := fun k hk => h k (by omega)
/-- where an auction stands: no bid and at most three passes, or the latest call that isn't a pass at i, the latest bid β + 2, doubled d times -/
def aucB (f : Nat → Int32) (n : Nat) : Prop := (last nz f n = none ∧ last ge3 f n = none ∧ (ovF f n = false → n ≤ 3)) ∨ ∃ i β d b, last nz f n = some i ∧ last ge3 f n = some b ∧ f b = nI (β + 2) ∧ 1 ≤ β ∧ β ≤ 35 ∧ d ≤ 2 ∧ i ≤ 3 + 9 * (β - 1) + 3 * d ∧ (ovF f n = false → n ≤ i + 3) ∧ (d = 0 → f i = nI (β + 2)) ∧ (d = 1 → f i = 1) ∧ (d = 2 → f i = 2)
theorem aucB_of {f : Nat → Int32} : ∀ {n : Nat}, aucOk f n → aucB f n
  | 0, h => Or.inl ⟨rfl, rfl, fun _ => by omega⟩
  | n + 1, h => by
    have hn := h n (by omega)
    have hov := hn.2
    have hmc := hn.1
    have ih := aucB_of (h.mono (Nat.le_succ n))
    have hln := (h.mono (Nat.le_succ n)).la
    have hln1 := h.la
    obtain ⟨y, hy1, hy⟩ := h.nat (Nat.lt_succ_self n)
    have hL : last nz f (n + 1) = if nz (f n) then some n else last nz f n := rfl
    have hG : last ge3 f (n + 1) = if ge3 (f n) then some n else last ge3 f n := rfl
    by_cases y0 : y = 0
    · -- a pass
      subst y0
      have z1 : nz (f n) = false := by rw [hy]; decide
      have z2 : ge3 (f n) = false := by rw [hy]; decide
      rw [z1] at hL
      rw [z2] at hG
      simp only [Bool.false_eq_true, if_false] at hL hG
      rcases ih with ⟨a1, a2, a3⟩ | ⟨i, β, d, b, a1, a2, a3, a4, a5, a6, a7, a8, a9⟩
      · refine Or.inl ⟨hL.trans a1, hG.trans a2, fun ho => ?_⟩
        unfold ovF at ho
        rw [hln1, hL, a1] at ho
        simp only [Bool.and_true, decide_eq_false_iff_not] at ho
        omega
      · refine Or.inr ⟨i, β, d, b, hL.trans a1, hG.trans a2, a3, a4, a5, a6, a7, fun ho => ?_, a9⟩
        have h8 := a8 hov
        unfold ovF at ho
        rw [hln1, hL, a1] at ho
        simp only [Bool.and_eq_false_iff, decide_eq_false_iff_not] at ho
        have := (last_lt a1).1
        omega
    · have z1 : nz (f n) = true := by rw [hy]; unfold nz; rw [decide_eq_true_eq]; exact fun e => y0 ((nI_eq (b := 0) (by omega) (by omega)).mp e)
      rw [z1, if_pos rfl] at hL
      have bound : last nz f n = none → n ≤ 3 := by
        intro e
        rcases ih with ⟨a1, a2, a3⟩ | ⟨i, β, d, b, a1, _⟩
        · exact a3 hov
        · rw [a1] at e; cases e
      unfold mcF at hmc
      rw [Bool.and_eq_true] at hmc
      obtain ⟨_, hmc⟩ := hmc
      rw [show decide (f n = 0) = false by rw [hy]; exact decide_eq_false (fun e => y0 ((nI_eq (b := 0) (by omega) (by omega)).mp e)), Bool.false_or] at hmc
      by_cases y1 : y = 1
      · subst y1
        rw [if_pos (hy.trans nI1)] at hmc
        have z2 : ge3 (f n) = false := by rw [hy]; decide
        rw [z2] at hG
        simp only [Bool.false_eq_true, if_false] at hG
        rcases ih with ⟨a1, a2, a3⟩ | ⟨i, β, d, b, a1, a2, a3, a4, a5, a6, a7, a8, a9, a10, a11⟩
        · rw [a1] at hmc; cases hmc
        · rw [a1] at hmc
          simp only [Bool.and_eq_true, decide_eq_true_eq] at hmc
          have d0 : d = 0 := by
            apply Nat.eq_zero_of_not_pos
            intro hd
            rcases (show d = 1 ∨ d = 2 by omega) with e | e
            · rw [a10 e] at hmc; exact absurd hmc.2 (by decide)
            · rw [a11 e] at hmc; exact absurd hmc.2 (by decide)
          subst d0
          have h8 := a8 hov
          exact Or.inr ⟨n, β, 1, b, hL, hG.trans a2, a3, a4, a5, by omega, by omega, fun _ => by omega, fun e => by omega, fun _ => hy, fun e => by omega⟩
      · have ny1 : ¬ f n = 1 := by rw [hy, ← nI1]; exact fun e => y1 ((nI_eq (by omega) (by omega)).mp e)
        rw [if_neg ny1] at hmc
        by_cases y2 : y = 2
        · subst y2
          rw [if_pos (hy.trans (show nI 2 = 2 by decide))] at hmc
          have z2 : ge3 (f n) = false := by rw [hy]; decide
          rw [z2] at hG
          simp only [Bool.false_eq_true, if_false] at hG
          rcases ih with ⟨a1, a2, a3⟩ | ⟨i, β, d, b, a1, a2, a3, a4, a5, a6, a7, a8, a9, a10, a11⟩
          · rw [a1] at hmc; cases hmc
          · rw [a1] at hmc
            simp only [Bool.and_eq_true, decide_eq_true_eq] at hmc
            have d1 : d = 1 := by
              rcases (show d = 0 ∨ d = 1 ∨ d = 2 by omega) with e | e | e
              · rw [a9 e, ← nI1, nI_eq (by omega) (by omega)] at hmc; omega
              · exact e
              · rw [a11 e] at hmc; exact absurd hmc.2 (by decide)
            subst d1
            have h8 := a8 hov
            exact Or.inr ⟨n, β, 2, b, hL, hG.trans a2, a3, a4, a5, by omega, by omega, fun _ => by omega, fun e => by omega, fun e => by omega, fun _ => hy⟩
        · have ny2 : ¬ f n = 2 := by rw [hy]; exact fun e => y2 ((nI_eq (b := 2) (by omega) (by omega)).mp e)
          rw [if_neg ny2] at hmc
          have z2 : ge3 (f n) = true := by rw [hy]; unfold ge3; rw [decide_eq_true_eq, nI_leI (by omega) (by omega)]; omega
          rw [z2, if_pos rfl] at hG
          refine Or.inr ⟨n, y - 2, 0, n, hL, hG, by rw [hy]; congr 1; omega, by omega, by omega, by omega, ?_, fun _ => by omega, fun _ => by rw [hy]; congr 1; omega, fun e => by omega, fun e => by omega⟩
          rcases ih with ⟨a1, a2, a3⟩ | ⟨i, β, d, b, a1, a2, a3, a4, a5, a6, a7, a8, a9, a10, a11⟩
          · have := bound a1
            omega
          · rw [a2] at hmc
            simp only [decide_eq_true_eq] at hmc
            rw [a3, hy, nI_ltI (by omega) (by omega)] at hmc
            have h8 := a8 hov
            omega
theorem aucOk.le318 {f : Nat → Int32} {n : Nat} (h : aucOk f n) (ho : ovF f n = false) : n ≤ 318 := by
  rcases aucB_of h with ⟨_, _, a3⟩ | ⟨i, β, d, b, a1, a2, a3, a4, a5, a6, a7, a8, _⟩
  · have := a3 ho; omega
  · have := a8 ho; omega
theorem aucOk.le319 {f : Nat → Int32} {n : Nat} (h : aucOk f n) : n ≤ 319 := by
  cases n with
  | zero => omega
  | succ n => have := (h.mono (Nat.le_succ n)).le318 (h n (by omega)).2; omega
theorem aucOk.am {f : Nat → Int32} {n : Nat} (h : aucOk f n) (ho : ovF f n = false) (c : Int32) : amF f n c = mcF f n c := by
  have h3 := h.le318 ho
  unfold amF mcF
  rw [h.la, show decide (n < 319) = true from decide_eq_true (by omega), Bool.true_and]
  by_cases hc : inF c 0 37 = true
  · obtain ⟨y, _, hy1, rfl⟩ := in_of hc (n := 0) (m := 37) rfl rfl (by decide) (by decide)
    rw [hc, Bool.true_and, Bool.true_and]
    by_cases y0 : y = 0
    · subst y0
      rw [show decide (nI 0 = 0) = true from rfl, Bool.true_or, Bool.true_or]
    · rw [show decide (nI y = 0) = false from decide_eq_false (fun e => y0 ((nI_eq (b := 0) (by omega) (by omega)).mp e)), Bool.false_or, Bool.false_or]
      by_cases y3 : 3 ≤ y
      · rw [if_pos (by rw [nI_leI (by omega) (by omega)]; exact y3), if_neg (by rw [← nI1, nI_eq (by omega) (by omega)]; omega), if_neg (fun e => by have := (nI_eq (b := 2) (by omega) (by omega)).mp e; omega)]
        unfold lbF
        cases last ge3 f n with
        | some b => rfl
        | none => exact decide_eq_true (show (-1 : Int32) < nI y by
            rw [Int32.lt_iff_toInt_lt, nI_toInt (by omega)]
            have : (-1 : Int32).toInt = -1 := by decide
            omega)
      · rw [if_neg (by rw [nI_leI (by omega) (by omega)]; exact y3)]
        have par : ∀ i, i < n → decide ((n - i) % 2 = 1) = decide ((i + n) % 2 = 1) := fun i hi => decide_eq_decide.mpr ⟨fun z => by omega, fun z => by omega⟩
        have h23 : ∀ i, i < n → (nI 3 ≤ f i ↔ nI 2 < f i) := by
          intro i hi
          obtain ⟨z, hz1, hz⟩ := h.nat hi
          rw [hz, nI_leI (by omega) (by omega), nI_ltI (by omega) (by omega)]
          omega
        by_cases y1 : y = 1
        · subst y1
          rw [if_pos (show nI 1 = 1 from nI1)]
          cases hl : last nz f n with
          | none => rfl
          | some i =>
            have hi := (last_lt hl).1
            show (decide ((n - i) % 2 = 1) && (if nI 1 = nI 1 then decide (nI 3 ≤ f i) else decide (f i = nI 1))) = _
            rw [if_pos rfl, par i hi, decide_eq_decide.mpr (h23 i hi)]
        · have y2 : y = 2 := by omega
          subst y2
          rw [if_neg (show ¬ nI 2 = 1 by decide), if_pos (show nI 2 = 2 from rfl)]
          cases hl : last nz f n with
          | none => rfl
          | some i =>
            have hi := (last_lt hl).1
            show (decide ((n - i) % 2 = 1) && (if nI 2 = nI 1 then decide (nI 3 ≤ f i) else decide (f i = nI 1))) = _
            rw [if_neg (by decide), par i hi, nI1]
  · rw [Bool.not_eq_true] at hc
    rw [hc, Bool.false_and, Bool.false_and]
/-- over, as the reference sees it when a call comes -/
theorem aucOk.ov {f : Nat → Int32} {n : Nat} (h : aucOk f (n + 1)) : ovF f (n + 1) = true ↔ (last nz f (n + 1) = none ∧ n = 3) ∨ ∃ i, last nz f (n + 1) = some i ∧ n - i = 3 := by
  have hov := (h n (by omega)).2
  have hl := (h.mono (Nat.le_succ n)).la
  unfold ovF at hov ⊢
  rw [hl] at hov
  rw [h.la]
  have hL : last nz f (n + 1) = if nz (f n) then some n else last nz f n := rfl
  by_cases z : nz (f n) = true
  · rw [if_pos z] at hL
    rw [hL]
    simp only [Bool.and_eq_true, decide_eq_true_eq]
    constructor
    · intro q; omega
    · rintro (⟨q, _⟩ | ⟨i, q, q2⟩)
      · cases q
      · cases q; omega
  · rw [if_neg z] at hL
    rw [hL]
    cases e : last nz f n with
    | none =>
      rw [e] at hov
      simp only [Bool.and_true, decide_eq_false_iff_not] at hov
      simp only [Bool.and_true, decide_eq_true_eq]
      constructor
      · intro q; exact Or.inl ⟨trivial, by omega⟩
      · rintro (⟨_, q⟩ | ⟨i, q, q2⟩)
        · omega
        · cases q
    | some i =>
      rw [e] at hov
      have hi := (last_lt e).1
      simp only [Bool.and_eq_false_iff, decide_eq_false_iff_not] at hov
      simp only [Bool.and_eq_true, decide_eq_true_eq]
      constructor
      · intro q; exact Or.inr ⟨i, rfl, by omega⟩
      · rintro (⟨q, _⟩ | ⟨j, q, q2⟩)
        · cases q
        · cases q; omega
/-- doubled, where there is a bid -/
theorem aucOk.db {f : Nat → Int32} {n : Nat} (h : aucOk f n) : dbG f n = if (last ge3 f n).isSome then dblF f n else -1 := by
  unfold dbG dblF
  rw [h.la]
  rcases aucB_of h with ⟨a1, a2, _⟩ | ⟨i, β, d, b, a1, a2, _⟩
  · rw [a1, a2]; rfl
  · rw [a1, a2]
    show (if nI 3 ≤ f i then 0 else f i) = (if true = true then (if nI 2 < f i then 0 else f i) else -1)
    rw [if_pos rfl]
    obtain ⟨z, hz1, hz⟩ := h.nat (last_lt a1).1
    have e : (nI 3 ≤ f i ↔ nI 2 < f i) := by
      rw [hz, nI_leI (by omega) (by omega), nI_ltI (by omega) (by omega)]; omega
    by_cases q : nI 3 ≤ f i
    · rw [if_pos q, if_pos (e.mp q)]
    · rw [if_neg q, if_neg (fun x => q (e.mpr x))]
