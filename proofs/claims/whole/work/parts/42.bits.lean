/-! ===== sets of cards as bits of a long ===== -/
def hb (w : Int64) (c : Nat) : Bool := w.toBitVec.getLsbD c
theorem hb_and (a b : Int64) (c : Nat) : hb (a &&& b) c = (hb a c && hb b c) := by unfold hb; rw [Int64.toBitVec_and, BitVec.getLsbD_and]
theorem hb_or (a b : Int64) (c : Nat) : hb (a ||| b) c = (hb a c || hb b c) := by unfold hb; rw [Int64.toBitVec_or, BitVec.getLsbD_or]
theorem hb_xor (a b : Int64) (c : Nat) : hb (a ^^^ b) c = (hb a c ^^ hb b c) := by unfold hb; rw [Int64.toBitVec_xor, BitVec.getLsbD_xor]
theorem hb_ext {a b : Int64} (h : ∀ c, c < 64 → hb a c = hb b c) : a = b := Int64.toBitVec_inj.mp (BitVec.eq_of_getLsbD_eq h)
theorem hb_0 (c : Nat) : hb 0 c = false := by unfold hb; exact BitVec.getLsbD_zero
theorem hb_m1 {c : Nat} (h : c < 64) : hb (-1) c = true := by
  have : ∀ c, c < 64 → hb (-1) c = true := by decide +kernel
  exact this c h
theorem hb_ge {w : Int64} {c : Nat} (h : 64 ≤ c) : hb w c = false := BitVec.getLsbD_of_ge _ _ h
def bt1 (c : Nat) : Int64 := lN 1 <<< ((nI c).toInt64 &&& 63)
theorem hb_bt {c : Nat} (hc : c < 64) (k : Nat) : hb (bt1 c) k = decide (k = c) := by
  have h : ∀ c, c < 64 → (bt1 c).toBitVec = BitVec.twoPow 64 c := by decide +kernel
  unfold hb
  rw [h c hc, BitVec.getLsbD_twoPow]
  by_cases e : c = k
  · subst e; simp [hc]
  · simp [e, Ne.symm e]
theorem hb_nz {w : Int64} (h : ¬ w = 0) : ∃ c, c < 64 ∧ hb w c = true := by
  apply Classical.byContradiction
  intro q
  refine h (hb_ext fun c hc => ?_)
  rw [hb_0]
  cases e : hb w c
  · rfl
  · exact absurd ⟨c, hc, e⟩ q
theorem hb_has {w : Int64} {c : Nat} (hc : c < 64) : w &&& bt1 c = 0 ↔ hb w c = false := by
  constructor
  · intro h
    have := congrArg (fun z => hb z c) h
    simp only [hb_and, hb_bt hc, hb_0, decide_true, Bool.and_true] at this
    exact this
  · intro h
    refine hb_ext fun k hk => ?_
    rw [hb_and, hb_bt hc, hb_0]
    by_cases e : k = c
    · subst e; rw [h]; rfl
    · simp [e]
theorem hb_low {w : Int64} {c : Nat} (hc : c < 64) (h : hb w c = true) (hl : ∀ k, k < c → hb w k = false) : w &&& -w = bt1 c := by
  refine hb_ext fun k hk => ?_
  rw [hb_and, hb_bt hc]
  unfold hb at *
  rw [Int64.toBitVec_neg, BitVec.getLsbD_neg]
  by_cases e : k = c
  · subst e
    have : ¬ ∃ j, j < k ∧ w.toBitVec.getLsbD j = true := by
      rintro ⟨j, hj, hj2⟩; rw [hl j hj] at hj2; cases hj2
    simp [h, this]
  · by_cases e2 : k < c
    · rw [hl k e2]; simp [e]
    · have : ∃ j, j < k ∧ w.toBitVec.getLsbD j = true := ⟨c, by omega, h⟩
      simp [e, hk, this]
theorem lg_0 {w : Int64} : lg_cmp w (lN 0) = 0 ↔ w = 0 := by
  show lg_cmp w 0 = 0 ↔ w = 0
  unfold lg_cmp
  by_cases h : w > 0
  · rw [if_pos h]
    exact ⟨fun z => absurd z (by decide), fun z => absurd (z ▸ h) (by decide)⟩
  · rw [if_neg h]
    by_cases e : w = 0
    · rw [if_pos e]; exact ⟨fun _ => e, fun _ => rfl⟩
    · rw [if_neg e]; exact ⟨fun z => absurd z (by decide), fun z => absurd z e⟩
theorem hb_suit {s : Nat} (hs : s < 4) {k : Nat} (hk : k < 64) : hb ((8191 : Int64) <<< ((nI 13 * nI s).toInt64 &&& 63)) k = decide (13 * s ≤ k ∧ k < 13 * s + 13) := by
  have h : ∀ s, s < 4 → ∀ k, k < 64 → hb ((8191 : Int64) <<< ((nI 13 * nI s).toInt64 &&& 63)) k = decide (13 * s ≤ k ∧ k < 13 * s + 13) := by decide +kernel
  exact h s hs k hk
/-- a set that holds none but cards -/
def cdS (w : Int64) : Prop := ∀ k, 52 ≤ k → hb w k = false
/-- the cards of one suit -/
def suS (w : Int64) (s : Nat) : Int64 := w &&& ((8191 : Int64) <<< ((nI 13 * nI s).toInt64 &&& 63))
theorem hb_suS {w : Int64} {s : Nat} (hs : s < 4) {k : Nat} (hk : k < 52) : hb (suS w s) k = (hb w k && decide (k / 13 = s)) := by
  unfold suS
  rw [hb_and, hb_suit hs (by omega)]
  congr 1
  exact decide_eq_decide.mpr ⟨fun h => by omega, fun h => by omega⟩
/-- what may be played: led -1 nothing, else the suit led -/
def chS (w : Int64) (led : Int32) : Int64 := if led = -1 then w else if suS w led.toNatClampNeg = 0 then w else suS w led.toNatClampNeg
theorem hb_ch {w : Int64} {s k : Nat} (hs : s < 4) (hk : k < 52) (hw : cdS w) : hb (chS w (nI s)) k = (hb w k && (decide (k / 13 = s) || !(anyN (fun c => hb w c && decide (c / 13 = s)) 52))) := by
  have hm : ¬ nI s = -1 := nI_m1 (by omega)
  unfold chS
  rw [if_neg hm, nI_clamp (by omega)]
  by_cases e : suS w s = 0
  · rw [if_pos e]
    have : anyN (fun c => hb w c && decide (c / 13 = s)) 52 = false := anyN_f (fun c hc => by
      show (hb w c && decide (c / 13 = s)) = false
      rw [← hb_suS hs hc, e, hb_0])
    rw [this]; simp
  · rw [if_neg e, hb_suS hs hk]
    have : anyN (fun c => hb w c && decide (c / 13 = s)) 52 = true := by
      obtain ⟨c, hc, h1⟩ := hb_nz e
      have hc52 : c < 52 := by
        apply Nat.lt_of_not_le
        intro z
        unfold suS at h1
        rw [hb_and, hw c z] at h1
        cases h1
      exact anyN_t hc52 (by show (hb w c && decide (c / 13 = s)) = true; rw [← hb_suS hs hc52]; exact h1)
    rw [this]; simp
