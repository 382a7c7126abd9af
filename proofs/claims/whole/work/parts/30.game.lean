/-! ===== the last tricks as a game: gw n need .. : the declarer's side (sd) wins at least need of the tricks that the n cards left make ===== -/
def gLg (H : Nat → Nat → Bool) (s : Nat) (led : Option Nat) (c : Nat) : Prop := c < 52 ∧ H s c = true ∧ ∀ q, led = some q → c / 13 = q ∨ ∀ c', c' < 52 → H s c' = true → ¬ c' / 13 = q
def gBt (c top tr : Nat) : Prop := if c / 13 = top / 13 then top < c else c / 13 = tr
def gTk (k c top tr : Nat) : Bool := decide (k = 0) || (if c / 13 = top / 13 then decide (top < c) else decide (c / 13 = tr))
def gRm (H : Nat → Nat → Bool) (s c : Nat) : Nat → Nat → Bool := fun s' c' => if s' = s ∧ c' = c then false else H s' c'
def gw (tr sd : Nat) : Nat → Nat → (Nat → Nat → Bool) → Nat → Nat → Option Nat → Nat → Nat → Prop
  | 0, need, _, _, _, _, _, _ => need = 0
  | n + 1, need, H, s, k, led, top, w =>
    if s % 2 = sd then ∃ c, gLg H s led c ∧ (if k = 3 then gw tr sd n (need - (if (if gTk k c top tr then s else w) % 2 = sd then 1 else 0)) (gRm H s c) (if gTk k c top tr then s else w) 0 none 0 0 else gw tr sd n need (gRm H s c) ((s + 1) % 4) (k + 1) (some (led.getD (c / 13))) (if gTk k c top tr then c else top) (if gTk k c top tr then s else w))
    else ∀ c, gLg H s led c → (if k = 3 then gw tr sd n (need - (if (if gTk k c top tr then s else w) % 2 = sd then 1 else 0)) (gRm H s c) (if gTk k c top tr then s else w) 0 none 0 0 else gw tr sd n need (gRm H s c) ((s + 1) % 4) (k + 1) (some (led.getD (c / 13))) (if gTk k c top tr then c else top) (if gTk k c top tr then s else w))
/-- what comes of a card -/
def gCh (tr sd n need : Nat) (H : Nat → Nat → Bool) (s k : Nat) (led : Option Nat) (top w c : Nat) : Prop := if k = 3 then gw tr sd n (need - (if (if gTk k c top tr then s else w) % 2 = sd then 1 else 0)) (gRm H s c) (if gTk k c top tr then s else w) 0 none 0 0 else gw tr sd n need (gRm H s c) ((s + 1) % 4) (k + 1) (some (led.getD (c / 13))) (if gTk k c top tr then c else top) (if gTk k c top tr then s else w)
theorem gw_s (tr sd n need : Nat) (H : Nat → Nat → Bool) (s k : Nat) (led : Option Nat) (top w : Nat) : gw tr sd (n + 1) need H s k led top w = (if s % 2 = sd then ∃ c, gLg H s led c ∧ gCh tr sd n need H s k led top w c else ∀ c, gLg H s led c → gCh tr sd n need H s k led top w c) := rfl
/-- how many cards a seat holds -/
def hN (H : Nat → Nat → Bool) (s : Nat) : Nat := cnt (H s) 52
/-- the hands fit: t tricks are left, k cards lie in the one under way, s plays next -/
def gOk (H : Nat → Nat → Bool) (s k t : Nat) : Prop := s < 4 ∧ k < 4 ∧ 1 ≤ t ∧ ∀ j, j < 4 → hN H ((s + j) % 4) = if j < 4 - k then t else t - 1
theorem cnt_pos {p : Nat → Bool} : ∀ {n : Nat}, 0 < cnt p n → ∃ i, i < n ∧ p i = true
  | 0, h => by simp [cnt] at h
  | n + 1, h => by
    unfold cnt at h
    by_cases hp : p n = true
    · exact ⟨n, Nat.lt_succ_self n, hp⟩
    · rw [if_neg hp] at h
      obtain ⟨i, h1, h2⟩ := cnt_pos (n := n) (by omega)
      exact ⟨i, by omega, h2⟩
theorem cnt_congr {p q : Nat → Bool} : ∀ {n : Nat}, (∀ i, i < n → p i = q i) → cnt p n = cnt q n
  | 0, _ => rfl
  | n + 1, h => by
    unfold cnt
    rw [cnt_congr (n := n) (fun i hi => h i (by omega)), h n (by omega)]
theorem cnt_rm {p q : Nat → Bool} : ∀ {n c : Nat}, c < n → p c = true → (∀ i, i < n → q i = if i = c then false else p i) → cnt q n + 1 = cnt p n
  | 0, c, h, _, _ => by omega
  | n + 1, c, h, hp, hq => by
    unfold cnt
    by_cases hc : c = n
    · subst hc
      rw [hq c (by omega), if_pos rfl, hp]
      rw [cnt_congr (p := q) (q := p) (fun i hi => by rw [hq i (by omega), if_neg (by omega)])]
      simp
    · have e : q n = p n := by rw [hq n (by omega), if_neg (fun z => hc z.symm)]
      rw [e]
      have := cnt_rm (n := n) (c := c) (p := p) (q := q) (by omega) hp (fun i hi => hq i (by omega))
      omega
theorem hN_rm {H : Nat → Nat → Bool} {s c : Nat} (hc : c < 52) (h : H s c = true) : hN (gRm H s c) s + 1 = hN H s :=
  cnt_rm hc h (fun i hi => by unfold gRm; by_cases q : i = c <;> simp [q])
theorem hN_ne {H : Nat → Nat → Bool} {s c s' : Nat} (h : s' ≠ s) : hN (gRm H s c) s' = hN H s' :=
  cnt_congr (fun i hi => by unfold gRm; rw [if_neg (fun q => h q.1)])
theorem gLg_some {H : Nat → Nat → Bool} {s : Nat} (led : Option Nat) (h : 0 < hN H s) : ∃ c, gLg H s led c := by
  obtain ⟨c, h1, h2⟩ := cnt_pos h
  cases led with
  | none => exact ⟨c, h1, h2, fun q hq => by cases hq⟩
  | some q =>
    by_cases hf : ∃ c', c' < 52 ∧ H s c' = true ∧ c' / 13 = q
    · obtain ⟨c', h3, h4, h5⟩ := hf
      exact ⟨c', h3, h4, fun q' hq => by cases hq; exact Or.inl h5⟩
    · exact ⟨c, h1, h2, fun q' hq => by cases hq; exact Or.inr (fun c' h3 h4 h5 => hf ⟨c', h3, h4, h5⟩)⟩
theorem gOk.next {H : Nat → Nat → Bool} {s k t c : Nat} (h : gOk H s k t) (hk : k < 3) (hc : c < 52) (hh : H s c = true) : gOk (gRm H s c) ((s + 1) % 4) (k + 1) t := by
  obtain ⟨h1, h2, h3, h4⟩ := h
  refine ⟨Nat.mod_lt _ (by omega), by omega, h3, fun j hj => ?_⟩
  by_cases hj3 : j = 3
  · subst hj3
    have e : ((s + 1) % 4 + 3) % 4 = s := by omega
    rw [e, if_neg (by omega)]
    have := hN_rm hc hh
    have h0 := h4 0 (by omega)
    rw [show (s + 0) % 4 = s by omega, if_pos (by omega)] at h0
    omega
  · have e : ((s + 1) % 4 + j) % 4 = (s + (j + 1)) % 4 := by omega
    rw [e, hN_ne (by omega), h4 (j + 1) (by omega)]
    by_cases q : j < 4 - (k + 1)
    · rw [if_pos q, if_pos (by omega)]
    · rw [if_neg q, if_neg (by omega)]
theorem gOk.trick {H : Nat → Nat → Bool} {s t c w : Nat} (h : gOk H s 3 t) (ht : 2 ≤ t) (hw : w < 4) (hc : c < 52) (hh : H s c = true) : gOk (gRm H s c) w 0 (t - 1) := by
  obtain ⟨h1, h2, h3, h4⟩ := h
  refine ⟨hw, by omega, by omega, fun j hj => ?_⟩
  rw [if_pos (by omega)]
  have key : ∀ x, x < 4 → hN (gRm H s c) x = t - 1 := by
    intro x hx
    by_cases q : x = s
    · subst q
      have := hN_rm hc hh
      have h0 := h4 0 (by omega)
      rw [show (x + 0) % 4 = x by omega, if_pos (by omega)] at h0
      omega
    · rw [hN_ne q]
      obtain ⟨j, hj, e⟩ : ∃ j, j < 4 ∧ (s + j) % 4 = x := ⟨(x + 4 - s) % 4, by omega, by omega⟩
      rw [← e, h4 j hj, if_neg (by omega)]
  exact key _ (by omega)
theorem gOk.pos {H : Nat → Nat → Bool} {s k t : Nat} (h : gOk H s k t) : 0 < hN H s := by
  have h0 := h.2.2.2 0 (by omega)
  rw [show (s + 0) % 4 = s by have := h.1; omega, if_pos (by have := h.2.1; omega)] at h0
  have := h.2.2.1
  omega
theorem ite01 (a b : Nat) : (if a = b then 1 else 0 : Nat) ≤ 1 := by split <;> omega
/-- no more than the tricks that are left -/
theorem gw_le (tr sd : Nat) : ∀ (n need t : Nat) (H : Nat → Nat → Bool) (s k : Nat) (led : Option Nat) (top w : Nat), n + k = 4 * t → gOk H s k t → w < 4 → gw tr sd n need H s k led top w → need ≤ t
  | 0, need, t, H, s, k, led, top, w, hn, hok, hw, h => by
    have : need = 0 := h
    omega
  | n + 1, need, t, H, s, k, led, top, w, hn, hok, hw, h => by
    rw [gw_s] at h
    have key : ∃ c, gLg H s led c ∧ gCh tr sd n need H s k led top w c := by
      split at h
      · exact h
      · obtain ⟨c, hc⟩ := gLg_some led hok.pos
        exact ⟨c, hc, h c hc⟩
    obtain ⟨c, hc, hch⟩ := key
    have h2 := hok.2.1
    have h1 := hok.1
    unfold gCh at hch
    by_cases hk : k = 3
    · subst hk
      rw [if_pos rfl] at hch
      by_cases ht : t = 1
      · subst ht
        have hn0 : n = 0 := by omega
        subst hn0
        have e : need - (if (if gTk 3 c top tr then s else w) % 2 = sd then 1 else 0) = 0 := hch
        have h01 := ite01 ((if gTk 3 c top tr then s else w) % 2) sd
        omega
      · have hlt : (if gTk 3 c top tr then s else w) < 4 := by split <;> omega
        have := gw_le tr sd n _ (t - 1) _ _ _ _ _ _ (by omega) (hok.trick (by omega) hlt hc.1 hc.2.1) (by omega) hch
        have h01 := ite01 ((if gTk 3 c top tr then s else w) % 2) sd
        omega
    · rw [if_neg hk] at hch
      have hlt : (if gTk k c top tr then s else w) < 4 := by split <;> omega
      exact gw_le tr sd n need t _ _ _ _ _ _ (by omega) (hok.next (by omega) hc.1 hc.2.1) hlt hch
/-- at least none -/
theorem gw_0 (tr sd : Nat) : ∀ (n t : Nat) (H : Nat → Nat → Bool) (s k : Nat) (led : Option Nat) (top w : Nat), n + k = 4 * t → gOk H s k t → w < 4 → gw tr sd n 0 H s k led top w
  | 0, t, H, s, k, led, top, w, hn, hok, hw => rfl
  | n + 1, t, H, s, k, led, top, w, hn, hok, hw => by
    rw [gw_s]
    have key : ∀ c, gLg H s led c → gCh tr sd n 0 H s k led top w c := by
      intro c hc
      have h2 := hok.2.1
      have h1 := hok.1
      unfold gCh
      by_cases hk : k = 3
      · subst hk
        rw [if_pos rfl, Nat.zero_sub]
        by_cases ht : t = 1
        · have hn0 : n = 0 := by omega
          subst hn0; rfl
        · have hlt : (if gTk 3 c top tr then s else w) < 4 := by split <;> omega
          exact gw_0 tr sd n (t - 1) _ _ _ _ _ _ (by omega) (hok.trick (by omega) hlt hc.1 hc.2.1) (by omega)
      · rw [if_neg hk]
        have hlt : (if gTk k c top tr then s else w) < 4 := by split <;> omega
        exact gw_0 tr sd n t _ _ _ _ _ _ (by omega) (hok.next (by omega) hc.1 hc.2.1) hlt
    split
    · obtain ⟨c, hc⟩ := gLg_some led hok.pos
      exact ⟨c, hc, key c hc⟩
    · exact key
/-- r is how many the declarer's side wins -/
def gVal (tr sd n : Nat) (H : Nat → Nat → Bool) (s k : Nat) (led : Option Nat) (top w r : Nat) : Prop := ∀ need, gw tr sd n need H s k led top w ↔ need ≤ r
def gVc (tr sd n : Nat) (H : Nat → Nat → Bool) (s k : Nat) (led : Option Nat) (top w c r : Nat) : Prop := ∀ need, gCh tr sd n need H s k led top w c ↔ need ≤ r
theorem gVal_inj {tr sd n : Nat} {H : Nat → Nat → Bool} {s k : Nat} {led : Option Nat} {top w r r' : Nat} (h : gVal tr sd n H s k led top w r) (h' : gVal tr sd n H s k led top w r') : r = r' :=
  Nat.le_antisymm ((h' r).mp ((h r).mpr (Nat.le_refl r))) ((h r').mp ((h' r').mpr (Nat.le_refl r')))
/-- the hands alone matter, and only the cards -/
theorem gw_congr (tr sd : Nat) : ∀ (n need : Nat) (H H' : Nat → Nat → Bool) (s k : Nat) (led : Option Nat) (top w : Nat), s < 4 → w < 4 → (∀ x c, x < 4 → c < 52 → H x c = H' x c) → gw tr sd n need H s k led top w → gw tr sd n need H' s k led top w
  | 0, need, H, H', s, k, led, top, w, _, _, _, h => h
  | n + 1, need, H, H', s, k, led, top, w, hs, hw, he, h => by
    rw [gw_s] at h ⊢
    have hl : ∀ c, gLg H s led c ↔ gLg H' s led c := by
      intro c
      unfold gLg
      constructor
      · rintro ⟨a, b, d⟩
        refine ⟨a, by rw [← he s c hs a]; exact b, fun q hq => (d q hq).imp id (fun z c' h1 h2 => z c' h1 (by rw [he s c' hs h1]; exact h2))⟩
      · rintro ⟨a, b, d⟩
        refine ⟨a, by rw [he s c hs a]; exact b, fun q hq => (d q hq).imp id (fun z c' h1 h2 => z c' h1 (by rw [← he s c' hs h1]; exact h2))⟩
    have hr : ∀ c x c', x < 4 → c' < 52 → gRm H s c x c' = gRm H' s c x c' := fun c x c' h1 h2 => by unfold gRm; rw [he x c' h1 h2]
    have hc : ∀ c, gCh tr sd n need H s k led top w c → gCh tr sd n need H' s k led top w c := by
      intro c h
      unfold gCh at h ⊢
      have hlt : (if gTk k c top tr then s else w) < 4 := by split <;> omega
      split
      · rename_i q; rw [if_pos q] at h
        exact gw_congr tr sd n _ _ _ _ _ _ _ _ hlt (by omega) (hr c) h
      · rename_i q; rw [if_neg q] at h
        exact gw_congr tr sd n _ _ _ _ _ _ _ _ (Nat.mod_lt _ (by omega)) hlt (hr c) h
    split
    · rename_i q; rw [if_pos q] at h
      obtain ⟨c, h1, h2⟩ := h
      exact ⟨c, (hl c).mp h1, hc c h2⟩
    · rename_i q; rw [if_neg q] at h
      exact fun c h1 => hc c (h c ((hl c).mpr h1))
