/-! ===== hands that change: swap, deal ===== -/
theorem hb_gv {L : Nat → Int64} {s c x : Nat} (hc : c < 64) (hx : x < 4) (k : Nat) (hk : k < 64) : hb (gvS L s c x) k = if k = c then decide (x = s) else hb (L x) k := by
  unfold gvS gvL
  by_cases e : x = s
  · subst e
    rw [if_pos rfl, if_pos hx, hb_or, hb_and, hb_xor, hb_bt hc, hb_m1 hk]
    by_cases e2 : k = c
    · rw [if_pos e2, decide_eq_true e2]; simp
    · rw [if_neg e2, decide_eq_false e2]; simp
  · rw [if_neg e, if_pos hx, hb_and, hb_xor, hb_bt hc, hb_m1 hk]
    by_cases e2 : k = c
    · rw [if_pos e2, decide_eq_true e2, decide_eq_false e]; simp
    · rw [if_neg e2, decide_eq_false e2]; simp
theorem cd_gv {L : Nat → Int64} {s c x : Nat} (hc : c < 52) (hx : x < 4) (h : cdS (L x)) : cdS (gvS L s c x) := by
  intro k hk
  by_cases hk2 : k < 64
  · rw [hb_gv (by omega) hx k hk2, if_neg (by omega)]; exact h k hk
  · exact hb_ge (by omega)
theorem cnt_off {p : Nat → Bool} {n a : Nat} (ha : a < n) : cnt p n = cnt (fun i => if i = a then false else p i) n + (if p a then 1 else 0) := by
  cases e : p a with
  | true =>
    have := cnt_rm (p := p) (q := fun i => if i = a then false else p i) ha e (fun i _ => rfl)
    rw [if_pos rfl]; omega
  | false =>
    simp only [Bool.false_eq_true, if_false, Nat.add_zero]
    refine cnt_congr (fun i _ => ?_)
    by_cases h : i = a
    · rw [if_pos h, h, e]
    · rw [if_neg h]
theorem cnt_swap {p q : Nat → Bool} {n a c : Nat} (ha : a < n) (hc : c < n) (h1 : q a = p c) (h2 : q c = p a) (h3 : ∀ i, i < n → i ≠ a → i ≠ c → q i = p i) : cnt q n = cnt p n := by
  by_cases e : a = c
  · subst e
    exact cnt_congr (fun i hi => by
      by_cases h : i = a
      · rw [h, h1]
      · exact h3 i hi h h)
  · rw [cnt_off (p := q) ha, cnt_off (p := p) ha, cnt_off (p := fun i => if i = a then false else q i) hc, cnt_off (p := fun i => if i = a then false else p i) hc]
    have e2 : cnt (fun i => if i = c then false else if i = a then false else q i) n = cnt (fun i => if i = c then false else if i = a then false else p i) n := cnt_congr (fun i hi => by
      by_cases hc' : i = c
      · rw [if_pos hc', if_pos hc']
      · rw [if_neg hc', if_neg hc']
        by_cases ha' : i = a
        · rw [if_pos ha', if_pos ha']
        · rw [if_neg ha', if_neg ha', h3 i hi ha' hc'])
    rw [e2, if_neg (Ne.symm e), if_neg (Ne.symm e), h1, h2]
    omega
/-- two cards change hands -/
theorem bH.swap {L : Nat → Int64} {f f' : Nat → Int32} {a c sa sc : Nat} (h : bH L f) (ha : a < 52) (hc : c < 52) (hsa : sa < 4) (hsc : sc < 4) (fa : f a = nI sa) (fc : f c = nI sc) (f1 : f' a = f c) (f2 : f' c = f a) (f3 : ∀ i, i < 52 → i ≠ a → i ≠ c → f' i = f i) : bH (gvS (gvS L sc a) sa c) f' := by
  obtain ⟨h1, h2, h3⟩ := h
  have key : ∀ x, x < 4 → ∀ k, k < 52 → hb (gvS (gvS L sc a) sa c x) k = if k = c then decide (x = sa) else if k = a then decide (x = sc) else hb (L x) k := fun x hx k hk => by
    rw [hb_gv (by omega) hx k (by omega), hb_gv (by omega) hx k (by omega)]
  have hba : ∀ x, x < 4 → hb (L x) a = decide (x = sa) := by
    obtain ⟨s, z1, z2, z3⟩ := h2 a ha
    have : s = sa := (nI_eq (by omega) (by omega)).mp (z2.symm.trans fa)
    subst this; exact z3
  have hbc : ∀ x, x < 4 → hb (L x) c = decide (x = sc) := by
    obtain ⟨s, z1, z2, z3⟩ := h2 c hc
    have : s = sc := (nI_eq (by omega) (by omega)).mp (z2.symm.trans fc)
    subst this; exact z3
  refine ⟨fun s hs => cd_gv hc hs (cd_gv ha hs (h1 s hs)), fun k hk => ?_, fun s hs => ?_⟩
  · by_cases e : k = c
    · subst e
      exact ⟨sa, hsa, f2.trans fa, fun x hx => by rw [key x hx k hk, if_pos rfl]⟩
    · by_cases e2 : k = a
      · subst e2
        exact ⟨sc, hsc, f1.trans fc, fun x hx => by rw [key x hx k hk, if_neg e, if_pos rfl]⟩
      · obtain ⟨s, z1, z2, z3⟩ := h2 k hk
        exact ⟨s, z1, (f3 k hk e2 e).trans z2, fun x hx => by rw [key x hx k hk, if_neg e, if_neg e2]; exact z3 x hx⟩
  · rw [← h3 s hs]
    refine cnt_swap ha hc ?_ ?_ (fun i hi n1 n2 => by rw [key s hs i hi, if_neg n2, if_neg n1])
    · rw [key s hs a ha, hbc s hs]
      by_cases e : a = c
      · rw [if_pos e]
        have : sa = sc := by
          rw [e] at fa
          exact (nI_eq (by omega) (by omega)).mp (fa.symm.trans fc)
        rw [this]
      · rw [if_neg e, if_pos rfl]
    · rw [key s hs c hc, if_pos rfl, hba s hs]
/-- the row behind the exchanges holds every card -/
def rowSj (f : Nat → Int32) : Prop := ∀ c, c < 52 → ∃ x, x < 52 ∧ cN f x = c
theorem rowSj_swp {f : Nat → Int32} (h : rowSj f) {i j : Nat} (hi : i < 52) (hj : j < 52) : rowSj (swp f i j) := by
  intro c hc
  obtain ⟨x, hx, hx2⟩ := h c hc
  have hcN : ∀ k, cN (swp f i j) k = cN f (if k = j then i else if k = i then j else k) := fun k => by unfold cN; rw [swp_at]
  by_cases e1 : x = i
  · refine ⟨j, hj, ?_⟩
    rw [hcN, if_pos rfl, ← e1]; exact hx2
  · by_cases e2 : x = j
    · refine ⟨i, hi, ?_⟩
      rw [hcN]
      by_cases e3 : i = j
      · exact absurd (e2.trans e3.symm) e1
      · rw [if_neg e3, if_pos rfl, ← e2]; exact hx2
    · refine ⟨x, hx, ?_⟩
      rw [hcN, if_neg e2, if_neg e1]; exact hx2
theorem rowSj_N (seed : Int32) : ∀ n, n ≤ 51 → rowSj (rwN seed n)
  | 0, _ => fun c hc => ⟨c, hc, by unfold rwN cN; exact nI_clamp (by omega)⟩
  | n + 1, h => rowSj_swp (rowSj_N seed n (by omega)) (by omega) (by have := Nat.mod_lt ((sdN seed (n + 1)).toBitVec.toNat / 65536) (show 0 < 51 - n + 1 by omega); unfold jN; omega)
/-- while cards are given: k of the row f -/
def dlJ (L : Nat → Int64) (f : Nat → Int32) (k : Nat) : Prop := (∀ s, s < 4 → cdS (L s)) ∧ (∀ x, x < k → ∀ s, s < 4 → hb (L s) (cN f x) = decide (s = x % 4)) ∧ (∀ c, c < 52 → (∀ x, x < k → cN f x ≠ c) → ∀ s, s < 4 → hb (L s) c = false) ∧ ∀ s, s < 4 → cnt (hb (L s)) 52 = cnt (fun x => decide (x % 4 = s)) k
theorem dlJ_0 {L : Nat → Int64} {f : Nat → Int32} (h : ∀ s, s < 4 → L s = 0) : dlJ L f 0 := by
  refine ⟨fun s hs k _ => by rw [h s hs, hb_0], fun x hx => by omega, fun c _ _ s hs => by rw [h s hs, hb_0], fun s hs => ?_⟩
  rw [h s hs]
  have : ∀ n, cnt (hb 0) n = 0 := fun n => by
    induction n with
    | zero => rfl
    | succ n ih => show cnt (hb 0) n + _ = 0; rw [ih, hb_0]; rfl
  rw [this]; rfl
theorem dlJ_s {L : Nat → Int64} {f : Nat → Int32} {k : Nat} (h : dlJ L f k) (hf : rowOk f) (hk : k < 52) : dlJ (gvS L (k % 4) (cN f k)) f (k + 1) := by
  obtain ⟨h1, h2, h3, h4⟩ := h
  have hc := (hf.1 k hk).1
  have hnew : ∀ s, s < 4 → hb (L s) (cN f k) = false := h3 _ hc (fun x hx e => by have := hf.2 x k (by omega) hk e; omega)
  refine ⟨fun s hs => cd_gv hc hs (h1 s hs), fun x hx s hs => ?_, fun c hc2 hno s hs => ?_, fun s hs => ?_⟩
  · by_cases e : x = k
    · subst e; rw [hb_gv (by omega) hs _ (by omega), if_pos rfl]
    · have hx2 : x < k := by omega
      have hxc := (hf.1 x (by omega)).1
      rw [hb_gv (by omega) hs _ (by omega), if_neg (fun z => by have := hf.2 x k (by omega) hk z; omega)]
      exact h2 x hx2 s hs
  · rw [hb_gv (by omega) hs _ (by omega), if_neg (fun z => hno k (by omega) z.symm)]
    exact h3 c hc2 (fun x hx => hno x (by omega)) s hs
  · show _ = cnt (fun x => decide (x % 4 = s)) k + (if decide (k % 4 = s) = true then 1 else 0)
    rw [← h4 s hs]
    by_cases e : k % 4 = s
    · rw [decide_eq_true e, if_pos rfl]
      have := cnt_rm (p := hb (gvS L (k % 4) (cN f k) s)) (q := hb (L s)) (n := 52) hc (by rw [hb_gv (by omega) hs _ (by omega), if_pos rfl]; exact decide_eq_true e.symm) (fun i hi => by
        by_cases z : i = cN f k
        · rw [if_pos z, z]; exact hnew s hs
        · rw [if_neg z, hb_gv (by omega) hs _ (by omega), if_neg z])
      omega
    · rw [decide_eq_false e, if_neg (by decide), Nat.add_zero]
      refine cnt_congr (fun i hi => ?_)
      rw [hb_gv (by omega) hs _ (by omega)]
      by_cases z : i = cN f k
      · rw [if_pos z, z, hnew s hs]; exact decide_eq_false (fun y => e y.symm)
      · rw [if_neg z]
theorem dlJ.bH {L : Nat → Int64} {f g : Nat → Int32} (h : dlJ L f 52) (hs : rowSj f) (hg : ∀ x, x < 52 → g (cN f x) = nI (x % 4)) : bH L g := by
  obtain ⟨h1, h2, h3, h4⟩ := h
  refine ⟨h1, fun c hc => ?_, fun s hs' => ?_⟩
  · obtain ⟨x, hx, rfl⟩ := hs c hc
    exact ⟨x % 4, Nat.mod_lt _ (by decide), hg x hx, fun s' hs' => h2 x hx s' hs'⟩
  · rw [h4 s hs']
    have : ∀ s, s < 4 → cnt (fun x => decide (x % 4 = s)) 52 = 13 := by decide
    exact this s hs'
