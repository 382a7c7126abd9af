/-! ===== the class and the reference side by side ===== -/
/-- the hands of a board: L the class's longs, f the reference's seats by card -/
def bH (L : Nat → Int64) (f : Nat → Int32) : Prop := (∀ s, s < 4 → cdS (L s)) ∧ (∀ c, c < 52 → ∃ s, s < 4 ∧ f c = nI s ∧ ∀ s', s' < 4 → hb (L s') c = decide (s' = s)) ∧ ∀ s, s < 4 → cnt (hb (L s)) 52 = 13
def bJ (u : cS) (r : rS) (nr b B : Nat) : Prop := u.rR 17 b = some B ∧ u.kd B = 1 ∧ u.kd (B + 1) = 2 ∧ u.oI B 0 = nI (b + 1) ∧ u.oI B 2 = r.2 27 b ∧ (r.2 27 b = 0 ∨ r.2 27 b = 1) ∧ u.oI B 3 = nI (cnt (fun i => decide (r.2 35 i = nI (b + 1))) nr) ∧ bH (u.rL (B + 1)) (fun c => r.2 26 (52 * b + c))
def tK (u : cS) (T : Nat) : Prop := u.kd T = 3 ∧ u.kd (T + 1) = 4 ∧ u.kd (T + 1 + 1) = 5 ∧ u.kd (T + 3) = 6 ∧ u.kd (T + 3 + 1) = 7 ∧ u.kd (T + 3 + 2) = 8
/-- nothing is played at table t -/
def tI0 (u : cS) (t : Nat) : Prop := u.rR 18 t = none ∨ ∃ T, u.rR 18 t = some T ∧ tK u T ∧ u.rR T 0 = none
/-- what is gone -/
def gnJ (w : Int64) (g : Nat → Int32) (m : Nat) : Prop := cdS w ∧ ∀ c, c < 52 → hb w c = anyN (fun k => decide (g k = nI c)) m
/-- who plays the i-th card -/
def plS (g : Nat → Int32) (tr : Int32) (l0 i : Nat) : Nat := (ldF g tr l0 (i / 4) + i % 4) % 4
/-- the play under way -/
def plJ (u : cS) (r : rS) (t T bd b m : Nat) : Prop := u.oI (T + 3) 4 = nI (dcN (cf r t) (bd % 4) b) ∧ u.oI (T + 3) 5 = stF (cf r t) b ∧ m < 52 ∧ (∀ j, j ≤ m / 4 → u.rI (T + 3 + 2) j = nI (ldF (gf r t) (stF (cf r t) b) ((dcN (cf r t) (bd % 4) b + 1) % 4) j)) ∧ cdOk (gf r t) m ∧ (∀ x y, x < m → y < m → gf r t x = gf r t y → x = y) ∧ ∀ i, i < m → r.2 26 (52 * bd + cN (gf r t) i) = nI (plS (gf r t) (stF (cf r t) b) ((dcN (cf r t) (bd % 4) b + 1) % 4) i)
/-- phases of a table -/
def phJ (u : cS) (r : rS) (t T bd n m : Nat) : Prop := (r.2 28 t = nI 1 ∧ m = 0 ∧ ovF (cf r t) n = false ∧ (∃ dc, dc < 4 ∧ u.oI (T + 3) 4 = nI dc) ∧ ∃ l0, l0 < 4 ∧ u.rI (T + 3 + 2) 0 = nI l0) ∨ (r.2 28 t = nI 2 ∧ ovF (cf r t) n = true ∧ ∃ b, last ge3 (cf r t) n = some b ∧ plJ u r t T bd b m)
/-- the board bd, at B, is played at table t: n calls, m cards -/
def tJ (u : cS) (r : rS) (nb t T B bd n m : Nat) : Prop := u.rR 18 t = some T ∧ tB u T B n m ∧ bd < nb ∧ u.rR 17 bd = some B ∧ r.2 29 t = nI (bd + 1) ∧ (u.oI T 1 = r.2 30 (2 * t) ∧ u.oI T 2 = r.2 30 (2 * t + 1) ∧ ¬ r.2 30 (2 * t) = r.2 30 (2 * t + 1)) ∧ r.2 31 t = nI n ∧ r.2 32 t = nI m ∧ (∀ i, i < n → u.rI (T + 1 + 1) i = cf r t i) ∧ (∀ i, i < m → u.rI (T + 3 + 1) i = gf r t i) ∧ u.oI (T + 1) 2 = nI (bd % 4) ∧ aucOk (cf r t) n ∧ r.2 27 bd = 1 ∧ gnJ (u.rL (T + 3) 0) (gf r t) m ∧ phJ u r t T bd n m
/-- what a result may hold -/
def rvJ (r : rS) (i : Nat) : Prop := r.2 37 i = 0 ∨ ∃ lv sr dc db tk, 1 ≤ lv ∧ lv ≤ 7 ∧ sr ≤ 4 ∧ dc < 4 ∧ db ≤ 2 ∧ tk ≤ 13 ∧ r.2 37 i = nI lv ∧ r.2 38 i = nI sr ∧ r.2 39 i = nI dc ∧ r.2 40 i = nI db ∧ r.2 41 i = nI tk
def rJ (u : cS) (r : rS) (nb i R : Nat) : Prop := u.rR 19 i = some R ∧ u.kd R = 9 ∧ u.oI R 0 = r.2 35 i ∧ u.oI R 1 = r.2 36 (2 * i) ∧ u.oI R 2 = r.2 36 (2 * i + 1) ∧ u.oI R 3 = r.2 37 i ∧ u.oI R 4 = r.2 38 i ∧ u.oI R 5 = r.2 39 i ∧ u.oI R 6 = r.2 40 i ∧ u.oI R 7 = r.2 41 i ∧ u.oI R 8 = r.2 42 i ∧ u.oI R 9 = r.2 44 i ∧ (r.2 44 i = 0 ∨ (r.2 44 i = 1 ∧ u.oI R 10 = r.2 43 (2 * i) ∧ u.oI R 11 = r.2 43 (2 * i + 1))) ∧ (∃ bd, bd < nb ∧ r.2 35 i = nI (bd + 1)) ∧ ¬ r.2 36 (2 * i) = r.2 36 (2 * i + 1) ∧ rvJ r i
/-- the text -/
def txJ (u : cS) (r : rS) : Prop := ∃ len, len ≤ 16 ∧ u.oI 23 3 = nI len ∧ r.1 22 = nI len ∧ u.oI 23 1 = 0 ∧ ∀ i, i < len → ∃ c, c < 128 ∧ u.rI 24 i = nI c ∧ r.2 45 i = nI c
def kJ (u : cS) : Prop := u.kd 16 = 10 ∧ u.kd 17 = 11 ∧ u.kd 18 = 12 ∧ u.kd 19 = 13 ∧ u.kd 20 = 7 ∧ u.kd 21 = 14 ∧ u.kd 22 = 2 ∧ u.kd 23 = 15 ∧ u.kd 24 = 16
def aJ (u : cS) (nr : Nat) : Prop := (50 ≤ u.tp ∧ ∀ a, u.kd a ≠ 0 → a < u.tp) ∧ (∀ t t' T, t < 10 → t' < 10 → u.rR 18 t = some T → u.rR 18 t' = some T → t = t') ∧ ∀ i j R, i < nr → j < nr → u.rR 19 i = some R → u.rR 19 j = some R → i = j
def J (u : cS) (r : rS) (nb nr : Nat) : Prop := kJ u ∧ aJ u nr ∧ (u.oI 16 1 = nI nb ∧ nb ≤ 36 ∧ r.1 0 = nI nb) ∧ (u.oI 16 4 = nI nr ∧ r.1 1 = nI nr ∧ nr + cnt (fun t => decide (¬ r.2 28 t = 0)) 10 ≤ 209) ∧ (∀ b, b < nb → ∃ B, bJ u r nr b B) ∧ (∀ t, t < 10 → (r.2 28 t = 0 ∧ tI0 u t) ∨ ∃ T B bd n m, tJ u r nb t T B bd n m) ∧ (∀ i, i < nr → ∃ R, rJ u r nb i R) ∧ txJ u r
theorem J.k {u : cS} {r : rS} {nb nr : Nat} (h : J u r nb nr) : kJ u := h.1
theorem J.a {u : cS} {r : rS} {nb nr : Nat} (h : J u r nb nr) : aJ u nr := h.2.1
theorem J.hb {u : cS} {r : rS} {nb nr : Nat} (h : J u r nb nr) : u.oI 16 1 = nI nb ∧ nb ≤ 36 ∧ r.1 0 = nI nb := h.2.2.1
theorem J.hr {u : cS} {r : rS} {nb nr : Nat} (h : J u r nb nr) : u.oI 16 4 = nI nr ∧ r.1 1 = nI nr ∧ nr + cnt (fun t => decide (¬ r.2 28 t = 0)) 10 ≤ 209 := h.2.2.2.1
theorem J.bd {u : cS} {r : rS} {nb nr : Nat} (h : J u r nb nr) {b : Nat} (hb : b < nb) : ∃ B, bJ u r nr b B := h.2.2.2.2.1 b hb
theorem J.tb {u : cS} {r : rS} {nb nr : Nat} (h : J u r nb nr) {t : Nat} (ht : t < 10) : (r.2 28 t = 0 ∧ tI0 u t) ∨ ∃ T B bd n m, tJ u r nb t T B bd n m := h.2.2.2.2.2.1 t ht
theorem J.rs {u : cS} {r : rS} {nb nr : Nat} (h : J u r nb nr) {i : Nat} (hi : i < nr) : ∃ R, rJ u r nb i R := h.2.2.2.2.2.2.1 i hi
theorem J.tx {u : cS} {r : rS} {nb nr : Nat} (h : J u r nb nr) : txJ u r := h.2.2.2.2.2.2.2
theorem J.nr {u : cS} {r : rS} {nb nr : Nat} (h : J u r nb nr) : nr ≤ 209 := by have := h.hr.2.2; omega
theorem tJ.ph {u : cS} {r : rS} {nb t T B bd n m : Nat} (h : tJ u r nb t T B bd n m) : ¬ r.2 28 t = 0 := by
  rcases h.2.2.2.2.2.2.2.2.2.2.2.2.2.2 with ⟨e, _⟩ | ⟨e, _⟩
  · rw [e]; decide
  · rw [e]; decide
/-- spec functions see no more than the calls and cards there are -/
theorem ovF_congr {f g : Nat → Int32} {n : Nat} (h : ∀ i, i < n → f i = g i) : ovF f n = ovF g n := by
  unfold ovF
  rw [last_congr (p := fr1 (nI 1)) (q := fr1 (nI 1)) (f := f) (g := g) (fun i hi => by rw [h i hi])]
theorem last_cg {p : Int32 → Bool} {f g : Nat → Int32} {n : Nat} (h : ∀ i, i < n → f i = g i) : last p f n = last p g n := last_congr (fun i hi => by rw [h i hi])
theorem lbF_cg {f g : Nat → Int32} {n : Nat} (h : ∀ i, i < n → f i = g i) : lbF f n = lbF g n := by
  unfold lbF
  rw [last_cg h]
  cases e : last ge3 g n with
  | none => rfl
  | some b => exact h b (last_lt e).1
theorem amF_cg {f g : Nat → Int32} {n : Nat} (h : ∀ i, i < n → f i = g i) (c : Int32) : amF f n c = amF g n c := by
  unfold amF
  rw [lbF_cg h, last_cg h]
  cases e : last (fr1 (nI 1)) g n with
  | none => rfl
  | some b => simp only [h b (last_lt e).1]
theorem lvG_cg {f g : Nat → Int32} {n : Nat} (h : ∀ i, i < n → f i = g i) : lvG f n = lvG g n := by
  unfold lvG
  rw [last_cg h]
  cases e : last ge3 g n with
  | none => rfl
  | some b => show lvF f b = lvF g b; unfold lvF; rw [h b (last_lt e).1]
theorem stF_cg {f g : Nat → Int32} {n b : Nat} (h : ∀ i, i < n → f i = g i) (hb : b < n) : stF f b = stF g b := by unfold stF; rw [h b hb]
theorem lvF_cg {f g : Nat → Int32} {n b : Nat} (h : ∀ i, i < n → f i = g i) (hb : b < n) : lvF f b = lvF g b := by unfold lvF; rw [h b hb]
theorem stG_cg {f g : Nat → Int32} {n : Nat} (h : ∀ i, i < n → f i = g i) : stG f n = stG g n := by
  unfold stG
  rw [last_cg h]
  cases e : last ge3 g n with
  | none => rfl
  | some b => exact stF_cg h (last_lt e).1
theorem dbG_cg {f g : Nat → Int32} {n : Nat} (h : ∀ i, i < n → f i = g i) : dbG f n = dbG g n := by
  unfold dbG
  rw [last_cg h]
  cases e : last (fr1 (nI 1)) g n with
  | none => rfl
  | some b => simp only [h b (last_lt e).1]
theorem dblF_cg {f g : Nat → Int32} {n : Nat} (h : ∀ i, i < n → f i = g i) : dblF f n = dblF g n := by
  unfold dblF
  rw [last_cg h]
  cases e : last nz g n with
  | none => rfl
  | some b => show (if nI 2 < f b then 0 else f b) = (if nI 2 < g b then 0 else g b); rw [h b (last_lt e).1]
theorem first_cg {p q : Nat → Bool} : ∀ {n i : Nat}, (∀ x, i ≤ x → x < i + n → p x = q x) → first p i n = first q i n
  | 0, _, _ => rfl
  | n + 1, i, h => by
    unfold first
    rw [h i (Nat.le_refl i) (by omega), first_cg (fun x h1 h2 => h x (by omega) (by omega))]
theorem anyN_cg {p q : Nat → Bool} : ∀ {n : Nat}, (∀ x, x < n → p x = q x) → anyN p n = anyN q n
  | 0, _ => rfl
  | n + 1, h => by
    unfold anyN
    rw [anyN_cg (fun x hx => h x (by omega)), h n (by omega)]
theorem dcP_cg {f g : Nat → Int32} {n b x : Nat} (h : ∀ i, i < n → f i = g i) (hb : b < n) (hx : x < n) : dcP f b x = dcP g b x := by
  unfold dcP
  rw [stF_cg h hb, h x hx]
theorem dcN_cg {f g : Nat → Int32} {n b dl : Nat} (h : ∀ i, i < n → f i = g i) (hb : b < n) : dcN f dl b = dcN g dl b := by
  unfold dcN
  rw [first_cg (q := dcP g b) (fun x _ hx => dcP_cg h hb (by omega))]
theorem caF_cg {f g : Nat → Int32} {n : Nat} (hn : n < 2 ^ 31) (h : ∀ i, i < n → f i = g i) (i : Int32) : caF f n i = caF g n i := by
  unfold caF
  by_cases h1 : i < 0
  · rw [if_pos h1, if_pos h1]
  · rw [if_neg h1, if_neg h1]
    obtain ⟨j, hj, rfl⟩ := nI_of h1
    by_cases h2 : nI n ≤ nI j
    · rw [if_pos h2, if_pos h2]
    · rw [if_neg h2, if_neg h2, nI_clamp hj]
      rw [nI_leI hn hj] at h2
      exact h j (by omega)
theorem bst_cg {f g : Nat → Int32} {tr : Int32} {s : Nat} : ∀ {i : Nat}, (∀ x, x ≤ s + i → f x = g x) → bst f tr s i = bst g tr s i
  | 0, _ => rfl
  | i + 1, h => by
    have ih := bst_cg (tr := tr) (s := s) (i := i) (fun x hx => h x (by omega))
    have hl := bst_le g tr s i
    unfold bst
    rw [ih, h (s + (i + 1)) (by omega), h (s + bst g tr s i) (by omega)]
theorem ldF_cg {f g : Nat → Int32} {tr : Int32} {l0 : Nat} : ∀ {j : Nat}, (∀ x, x < 4 * j → f x = g x) → ldF f tr l0 j = ldF g tr l0 j
  | 0, _ => rfl
  | j + 1, h => by
    unfold ldF
    rw [ldF_cg (fun x hx => h x (by omega)), bst_cg (i := 3) (fun x hx => h x (by omega))]
theorem wnF_cg {f g : Nat → Int32} {tr : Int32} {l0 s : Nat} : ∀ {j : Nat}, (∀ x, x < 4 * j → f x = g x) → wnF f tr l0 s j = wnF g tr l0 s j
  | 0, _ => rfl
  | j + 1, h => by
    unfold wnF
    rw [wnF_cg (fun x hx => h x (by omega)), ldF_cg (j := j + 1) h]
