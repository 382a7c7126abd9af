/-! ===== what of the joint invariant a change leaves as it is ===== -/
def agr (u v : cS) (a : Nat) : Prop := v.kd a = u.kd a ∧ v.oI a = u.oI a ∧ v.rI a = u.rI a ∧ v.rL a = u.rL a ∧ v.rR a = u.rR a
theorem agr.rf (u : cS) (a : Nat) : agr u u a := ⟨rfl, rfl, rfl, rfl, rfl⟩
theorem mcF_cg {f g : Nat → Int32} {n : Nat} (h : ∀ i, i < n → f i = g i) (c : Int32) : mcF f n c = mcF g n c := by
  unfold mcF
  rw [last_cg (p := nz) h, last_cg (p := ge3) h]
  cases e : last nz g n with
  | none =>
    cases e2 : last ge3 g n with
    | none => rfl
    | some b2 => simp only [h b2 (last_lt e2).1]
  | some b =>
    cases e2 : last ge3 g n with
    | none => simp only [h b (last_lt e).1]
    | some b2 => simp only [h b (last_lt e).1, h b2 (last_lt e2).1]
theorem aucOk_cg {f g : Nat → Int32} {n : Nat} (h : ∀ i, i < n → f i = g i) (ha : aucOk f n) : aucOk g n := by
  intro k hk
  obtain ⟨h1, h2⟩ := ha k hk
  rw [mcF_cg (g := g) (fun i hi => h i (by omega)), h k hk] at h1
  rw [ovF_congr (g := g) (fun i hi => h i (by omega))] at h2
  exact ⟨h1, h2⟩
theorem gnJ_cg {w : Int64} {f g : Nat → Int32} {m : Nat} (h : ∀ i, i < m → f i = g i) (hg : gnJ w f m) : gnJ w g m :=
  ⟨hg.1, fun c hc => (hg.2 c hc).trans (anyN_cg (fun k hk => by rw [h k hk]))⟩
theorem cdOk_cg {f g : Nat → Int32} {m : Nat} (h : ∀ i, i < m → f i = g i) (hf : cdOk f m) : cdOk g m := fun i hi => by
  have := hf i hi
  unfold cN at this ⊢
  rw [← h i hi]; exact this
theorem bJ_fr {u v : cS} {r r' : rS} {nr nr' b B : Nat} (h : bJ u r nr b B) (e17 : v.rR 17 b = u.rR 17 b) (eB : agr u v B) (eB1 : agr u v (B + 1)) (e27 : r'.2 27 b = r.2 27 b) (e35 : cnt (fun i => decide (r'.2 35 i = nI (b + 1))) nr' = cnt (fun i => decide (r.2 35 i = nI (b + 1))) nr) (e26 : ∀ c, c < 52 → r'.2 26 (52 * b + c) = r.2 26 (52 * b + c)) : bJ v r' nr' b B := by
  obtain ⟨h1, h2, h3, h4, h5, h6, h7, h8⟩ := h
  refine ⟨e17.trans h1, eB.1.trans h2, eB1.1.trans h3, by rw [eB.2.1]; exact h4, by rw [eB.2.1, e27]; exact h5, by rw [e27]; exact h6, by rw [eB.2.1, e35]; exact h7, ?_⟩
  rw [eB1.2.2.2.1]
  refine ⟨h8.1, fun c hc => ?_, h8.2.2⟩
  obtain ⟨s, a1, a2, a3⟩ := h8.2.1 c hc
  exact ⟨s, a1, (e26 c hc).trans a2, a3⟩
theorem tK_fr {u v : cS} {T : Nat} (h : tK u T) (e : ∀ a, T ≤ a → a ≤ T + 5 → v.kd a = u.kd a) : tK v T := by
  obtain ⟨h1, h2, h3, h4, h5, h6⟩ := h
  exact ⟨(e T (by omega) (by omega)).trans h1, (e _ (by omega) (by omega)).trans h2, (e _ (by omega) (by omega)).trans h3, (e _ (by omega) (by omega)).trans h4, (e _ (by omega) (by omega)).trans h5, (e _ (by omega) (by omega)).trans h6⟩
theorem tI0_fr {u v : cS} {t : Nat} (h : tI0 u t) (e18 : v.rR 18 t = u.rR 18 t) (e : ∀ T, u.rR 18 t = some T → (∀ a, T ≤ a → a ≤ T + 5 → v.kd a = u.kd a) ∧ v.rR T = u.rR T) : tI0 v t := by
  rcases h with h | ⟨T, h1, h2, h3⟩
  · exact Or.inl (e18.trans h)
  · obtain ⟨a1, a2⟩ := e T h1
    exact Or.inr ⟨T, e18.trans h1, tK_fr h2 a1, by rw [a2]; exact h3⟩
/-- the reference's rows of table t are the same -/
def rT (r r' : rS) (t n m bd : Nat) : Prop := r'.2 28 t = r.2 28 t ∧ r'.2 29 t = r.2 29 t ∧ r'.2 30 (2 * t) = r.2 30 (2 * t) ∧ r'.2 30 (2 * t + 1) = r.2 30 (2 * t + 1) ∧ r'.2 31 t = r.2 31 t ∧ r'.2 32 t = r.2 32 t ∧ (∀ i, i < n → cf r t i = cf r' t i) ∧ (∀ i, i < m → gf r t i = gf r' t i) ∧ r'.2 27 bd = r.2 27 bd ∧ ∀ c, c < 52 → r'.2 26 (52 * bd + c) = r.2 26 (52 * bd + c)
theorem rT.rf (r : rS) (t n m bd : Nat) : rT r r t n m bd := ⟨rfl, rfl, rfl, rfl, rfl, rfl, fun _ _ => rfl, fun _ _ => rfl, rfl, fun _ _ => rfl⟩
theorem plJ_fr {u v : cS} {r r' : rS} {t T bd b n m : Nat} (h : plJ u r t T bd b m) (e : ∀ a, T ≤ a → a ≤ T + 5 → agr u v a) (hr : rT r r' t n m bd) (hb : b < n) : plJ v r' t T bd b m := by
  obtain ⟨h1, h2, h3, h4, h5, h6, h7⟩ := h
  obtain ⟨_, _, _, _, _, _, c1, c2, c3, c4⟩ := hr
  have d1 := dcN_cg (dl := bd % 4) c1 hb
  have d2 := stF_cg c1 hb
  refine ⟨by rw [(e (T + 3) (by omega) (by omega)).2.1, ← d1]; exact h1, by rw [(e (T + 3) (by omega) (by omega)).2.1, ← d2]; exact h2, h3, fun j hj => ?_, cdOk_cg c2 h5, fun x y hx hy z => h6 x y hx hy (by rw [c2 x hx, c2 y hy]; exact z), fun i hi => ?_⟩
  · rw [(e (T + 3 + 2) (by omega) (by omega)).2.2.1, h4 j hj, ← d1, ← d2, ldF_cg (f := gf r t) (g := gf r' t) (fun x hx => c2 x (by omega))]
  · have h5' := h5 i hi
    have hcN : cN (gf r' t) i = cN (gf r t) i := by unfold cN; rw [← c2 i hi]
    rw [hcN, c4 _ h5'.1, h7 i hi]
    unfold plS
    rw [← d1, ← d2, ldF_cg (f := gf r t) (g := gf r' t) (fun x hx => c2 x (by omega))]
theorem tB_fr {u v : cS} {T B n m : Nat} (h : tB u T B n m) (e : ∀ a, T ≤ a → a ≤ T + 5 → agr u v a) (eB : v.kd B = u.kd B) (eB1 : v.kd (B + 1) = u.kd (B + 1)) : tB v T B n m := by
  obtain ⟨k0, k1, k2, k3, k4, k5, kb, kb1, hon, hn, hn2, hm, hm2⟩ := h
  exact ⟨(e _ (by omega) (by omega)).1.trans k0, (e _ (by omega) (by omega)).1.trans k1, (e _ (by omega) (by omega)).1.trans k2, (e _ (by omega) (by omega)).1.trans k3, (e _ (by omega) (by omega)).1.trans k4, (e _ (by omega) (by omega)).1.trans k5, eB.trans kb, eB1.trans kb1, by rw [(e T (by omega) (by omega)).2.2.2.2]; exact hon, by rw [(e (T + 1) (by omega) (by omega)).2.1]; exact hn, hn2, by rw [(e (T + 3) (by omega) (by omega)).2.1]; exact hm, hm2⟩
theorem tJ_fr {u v : cS} {r r' : rS} {nb nb' t T B bd n m : Nat} (h : tJ u r nb t T B bd n m) (hnb : nb ≤ nb') (e18 : v.rR 18 t = u.rR 18 t) (e17 : v.rR 17 bd = u.rR 17 bd) (e : ∀ a, T ≤ a → a ≤ T + 5 → agr u v a) (eB : v.kd B = u.kd B) (eB1 : v.kd (B + 1) = u.kd (B + 1)) (hr : rT r r' t n m bd) : tJ v r' nb' t T B bd n m := by
  have hr0 := hr
  obtain ⟨h1, h2, h3, h4, h5, ⟨h6, h7, h8⟩, h9, h10, h11, h12, h13, h14, h15, h16, h17⟩ := h
  obtain ⟨c28, c29, c30, c30', c31, c32, c1, c2, c27, c26⟩ := hr
  refine ⟨e18.trans h1, tB_fr h2 e eB eB1, by omega, e17.trans h4, c29.trans h5, ⟨?_, ?_, by rw [c30, c30']; exact h8⟩, c31.trans h9, c32.trans h10, fun i hi => ?_, fun i hi => ?_, ?_, aucOk_cg c1 h14, c27.trans h15, ?_, ?_⟩
  · rw [(e T (by omega) (by omega)).2.1, c30]; exact h6
  · rw [(e T (by omega) (by omega)).2.1, c30']; exact h7
  · rw [(e (T + 1 + 1) (by omega) (by omega)).2.2.1, h11 i hi]; exact c1 i hi
  · rw [(e (T + 3 + 1) (by omega) (by omega)).2.2.1, h12 i hi]; exact c2 i hi
  · rw [(e (T + 1) (by omega) (by omega)).2.1]; exact h13
  · rw [(e (T + 3) (by omega) (by omega)).2.2.2.1]; exact gnJ_cg c2 h16
  · rcases h17 with ⟨a1, a2, a3, ⟨dc, a4, a5⟩, l0, a6, a7⟩ | ⟨a1, a2, b, a3, a4⟩
    · refine Or.inl ⟨c28.trans a1, a2, by rw [← ovF_congr c1]; exact a3, ⟨dc, a4, by rw [(e (T + 3) (by omega) (by omega)).2.1]; exact a5⟩, l0, a6, by rw [(e (T + 3 + 2) (by omega) (by omega)).2.2.1]; exact a7⟩
    · exact Or.inr ⟨c28.trans a1, by rw [← ovF_congr c1]; exact a2, b, by rw [← last_cg c1]; exact a3, plJ_fr a4 e hr0 (last_lt a3).1⟩
theorem rJ_fr {u v : cS} {r r' : rS} {nb nb' i R : Nat} (h : rJ u r nb i R) (hnb : nb ≤ nb') (e19 : v.rR 19 i = u.rR 19 i) (e : agr u v R) (er : ∀ a, a = 35 ∨ (37 ≤ a ∧ a ≤ 42) ∨ a = 44 → r'.2 a i = r.2 a i) (e36 : r'.2 36 (2 * i) = r.2 36 (2 * i) ∧ r'.2 36 (2 * i + 1) = r.2 36 (2 * i + 1)) (e43 : r'.2 43 (2 * i) = r.2 43 (2 * i) ∧ r'.2 43 (2 * i + 1) = r.2 43 (2 * i + 1)) : rJ v r' nb' i R := by
  obtain ⟨h1, h2, h3⟩ := h
  refine ⟨e19.trans h1, e.1.trans h2, ?_⟩
  have f35 := er 35 (by omega)
  have f37 := er 37 (by omega)
  have f38 := er 38 (by omega)
  have f39 := er 39 (by omega)
  have f40 := er 40 (by omega)
  have f41 := er 41 (by omega)
  have f42 := er 42 (by omega)
  have f44 := er 44 (by omega)
  unfold rvJ at *
  rw [e.2.1, f35, f37, f38, f39, f40, f41, f42, f44, e36.1, e36.2, e43.1, e43.2]
  obtain ⟨a1, a2, a3, a4, a5, a6, a7, a8, a9, a10, a11, ⟨bd, b1, b2⟩, a12⟩ := h3
  exact ⟨a1, a2, a3, a4, a5, a6, a7, a8, a9, a10, a11, ⟨bd, by omega, b2⟩, a12⟩
