/-! ===== tables: what the class's rows tell is what the reference's tell ===== -/
theorem J.bz {u : cS} {r : rS} {nb nr : Nat} (hJ : J u r nb nr) (t : Int32) : (phF r t = 0 ∧ (inF t 0 9 = false ∨ ∃ t', t' < 10 ∧ t = nI t' ∧ tI0 u t')) ∨ ∃ t' T B bd n m, t' < 10 ∧ t = nI t' ∧ tJ u r nb t' T B bd n m := by
  cases hi : inF t 0 9 with
  | false => exact Or.inl ⟨by unfold phF; rw [hi, if_neg (by decide)], Or.inl rfl⟩
  | true =>
    obtain ⟨t', _, h2, rfl⟩ := in_of hi (n := 0) (m := 9) rfl rfl (by decide) (by decide)
    rcases hJ.tb (show t' < 10 by omega) with ⟨h3, h4⟩ | ⟨T, B, bd, n, m, h⟩
    · exact Or.inl ⟨by unfold phF; rw [hi, if_pos rfl, nI_clamp (by omega)]; exact h3, Or.inr ⟨t', by omega, rfl, h4⟩⟩
    · exact Or.inr ⟨t', T, B, bd, n, m, by omega, rfl, h⟩
theorem ph_in {r : rS} {t : Nat} (ht : t < 10) : phF r (nI t) = r.2 28 t := by
  unfold phF
  rw [show inF (nI t) 0 9 = true by show (decide (nI 0 ≤ nI t) && decide (nI t ≤ nI 9)) = true; rw [decide_eq_true ((nI_leI (by omega) (by omega)).mpr (by omega)), decide_eq_true ((nI_leI (by omega) (by omega)).mpr (by omega))]; rfl, if_pos rfl, nI_clamp (by omega)]
theorem tJ.eN {u : cS} {r : rS} {nb t T B bd n m : Nat} (h : tJ u r nb t T B bd n m) : nC r t = n := by
  unfold nC; rw [h.2.2.2.2.2.2.1]; exact nI_clamp (by have := h.2.1.2.2.2.2.2.2.2.2.2.2.1; omega)
theorem tJ.eM {u : cS} {r : rS} {nb t T B bd n m : Nat} (h : tJ u r nb t T B bd n m) : mC r t = m := by
  unfold mC; rw [h.2.2.2.2.2.2.2.1]; exact nI_clamp (by have := h.2.1.2.2.2.2.2.2.2.2.2.2.2.2; omega)
theorem tJ.eD {u : cS} {r : rS} {nb t T B bd n m : Nat} (h : tJ u r nb t T B bd n m) (hb : nb ≤ 36) : bD r t = bd := by
  unfold bD; rw [h.2.2.2.2.1, nI_clamp (by have := h.2.2.1; omega)]; rfl
theorem tJ.eB {u : cS} {r : rS} {nb t T B bd n m b : Nat} (h : tJ u r nb t T B bd n m) (hb : last ge3 (cf r t) n = some b) : bB r t = b := by
  unfold bB; rw [h.eN, hb]; rfl
/-- what a seat still holds -/
theorem hl_hd {u : cS} {r : rS} {nb nr t T B bd n m s c : Nat} (hJ : J u r nb nr) (h : tJ u r nb t T B bd n m) (hs : s < 4) (hc : c < 52) : hb (hlL u T B s) c = hdF r t m (nI s) (nI c) := by
  obtain ⟨hnb, hnb2, hr0⟩ := hJ.hb
  obtain ⟨B', hB⟩ := hJ.bd h.2.2.1
  have e : B' = B := by have := hB.1; rw [h.2.2.2.1] at this; exact (Option.some.inj this).symm
  subst e
  obtain ⟨s0, hs0, h1, h2⟩ := hB.2.2.2.2.2.2.2.2.1 c hc
  have hg := h.2.2.2.2.2.2.2.2.2.2.2.2.2.1
  unfold hlL hdF
  rw [hb_and, hb_xor, hb_m1 (by omega), h2 s hs, hg.2 c hc, Bool.xor_true]
  congr 1
  unfold handF
  have hbd := h.2.2.1
  rw [h.2.2.2.2.1, bd_t hr0 (by omega) hbd, cd_t hc, nI_clamp (by omega), nI_clamp (by omega)]
  simp only [Bool.and_self, if_true, Nat.add_sub_cancel]
  have h1 : r.2 26 (52 * bd + c) = nI s0 := h1
  rw [h1]
  exact decide_eq_decide.mpr ⟨fun z => by rw [z], fun z => ((nI_eq (by omega) (by omega)).mp z).symm⟩
theorem any_su {p : Nat → Bool} {q : Nat} (hq : q < 4) : anyN (fun c => p c && decide (c / 13 = q)) 52 = anyN (fun k => p (13 * q + k)) 13 := by
  cases e : anyN (fun k => p (13 * q + k)) 13 with
  | true =>
    obtain ⟨i, h1, h2⟩ := anyN_iff.mp e
    exact anyN_t (i := 13 * q + i) (by omega) (by show (p (13 * q + i) && decide ((13 * q + i) / 13 = q)) = true; rw [h2, decide_eq_true (by omega)]; rfl)
  | false =>
    refine anyN_f (fun i hi => ?_)
    cases e2 : (p i && decide (i / 13 = q)) with
    | false => rfl
    | true =>
      exfalso
      simp only [Bool.and_eq_true, decide_eq_true_eq] at e2
      have := anyN_t (p := fun k => p (13 * q + k)) (n := 13) (i := i % 13) (by omega) (by show p (13 * q + i % 13) = true; rw [show 13 * q + i % 13 = i by omega]; exact e2.1)
      rw [e] at this; cases this
theorem hl_cd {u : cS} {r : rS} {nb nr t T B bd n m s : Nat} (hJ : J u r nb nr) (h : tJ u r nb t T B bd n m) (hs : s < 4) : cdS (hlL u T B s) := by
  obtain ⟨B', hB⟩ := hJ.bd h.2.2.1
  have e : B' = B := by have := hB.1; rw [h.2.2.2.1] at this; exact (Option.some.inj this).symm
  subst e
  intro k hk
  unfold hlL
  rw [hb_and, hB.2.2.2.2.2.2.2.1 s hs k hk]; rfl
/-- what may be played -/
theorem mp_ch {u : cS} {r : rS} {nb nr t T B bd n m s c : Nat} (hJ : J u r nb nr) (h : tJ u r nb t T B bd n m) (hck : cdOk (gf r t) m) (hs : s < 4) (hc : c < 52) : hb (chT (u.rL (B + 1)) (u.rL (T + 3) 0) (u.rI (T + 3 + 1)) m s) c = mpF r t m s (nI c) := by
  have hgf := h.2.2.2.2.2.2.2.2.2.1
  unfold chT mpF
  rw [cd_t hc, Bool.true_and]
  show hb (chS (hlL u T B s) (ledC (u.rI (T + 3 + 1)) m)) c = _
  by_cases h4 : m % 4 = 0
  · rw [ledC_n h4, show chS (hlL u T B s) (-1) = hlL u T B s from if_pos rfl, hl_hd hJ h hs hc, decide_eq_true h4, Bool.true_or, Bool.and_true]
  · have hck' : cdOk (u.rI (T + 3 + 1)) m := fun i hi => by unfold cN; rw [hgf i hi]; exact hck i hi
    obtain ⟨e1, e2⟩ := ledC_s h4 hck'
    have e3 : cN (u.rI (T + 3 + 1)) (m - m % 4) = cN (gf r t) (4 * (m / 4)) := by
      unfold cN
      rw [hgf _ (by omega), show m - m % 4 = 4 * (m / 4) by omega]
    rw [e3] at e1 e2
    rw [e1, hb_ch e2 hc (hl_cd hJ h hs), hl_hd hJ h hs hc, decide_eq_false h4, Bool.false_or]
    congr 1
    rw [pk_div (by omega) (by omega) (by omega)]
    congr 1
    · exact decide_eq_decide.mpr (nI_eq (by omega) (by omega)).symm
    · congr 1
      rw [any_su e2]
      exact anyN_cg (fun k hk => hl_hd hJ h hs (by omega))
theorem ca_cl {r : rS} {t n : Nat} (ht : t < 10) (hn : n ≤ 319) (h31 : r.2 31 t = nI n) (hph : ¬ r.2 28 t = 0) (i : Int32) : caF (cf r t) n i = clF r (nI t) i := by
  unfold clF
  rw [ph_in ht, nI_clamp (by omega), h31, pI_eq]
  show _ = if ¬ r.2 28 t = 0 ∧ irF n i = true then _ else _
  cases hi : irF n i with
  | true =>
    obtain ⟨j, hj, rfl⟩ := irF_of (by omega) hi
    rw [caF_at hj (by omega), if_pos ⟨hph, rfl⟩, nI_clamp (by omega)]; rfl
  | false =>
    rw [if_neg (fun z => by cases z.2)]
    unfold caF
    by_cases h0 : i < 0
    · rw [if_pos h0]
    · rw [if_neg h0, if_pos (irF_n hi h0 (by omega))]
theorem ca_pl {r : rS} {t m : Nat} (ht : t < 10) (hm : m ≤ 52) (h32 : r.2 32 t = nI m) (hph : ¬ r.2 28 t = 0) (i : Int32) : caF (gf r t) m i = plF r (nI t) i := by
  unfold plF
  rw [ph_in ht, nI_clamp (by omega), h32, pI_eq]
  show _ = if ¬ r.2 28 t = 0 ∧ irF m i = true then _ else _
  cases hi : irF m i with
  | true =>
    obtain ⟨j, hj, rfl⟩ := irF_of (by omega) hi
    rw [caF_at hj (by omega), if_pos ⟨hph, rfl⟩, nI_clamp (by omega)]; rfl
  | false =>
    rw [if_neg (fun z => by cases z.2)]
    unfold caF
    by_cases h0 : i < 0
    · rw [if_pos h0]
    · rw [if_neg h0, if_pos (irF_n hi h0 (by omega))]
