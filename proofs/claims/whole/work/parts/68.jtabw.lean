/-! ===== one table changes: the rest of the joint invariant stays ===== -/
theorem tK.at {u : cS} {T a : Nat} (h : tK u T) (h1 : T ≤ a) (h2 : a ≤ T + 5) : u.kd a = 3 + (a - T) := by
  obtain ⟨k0, k1, k2, k3, k4, k5⟩ := h
  rcases (show a = T ∨ a = T + 1 ∨ a = T + 1 + 1 ∨ a = T + 3 ∨ a = T + 3 + 1 ∨ a = T + 3 + 2 by omega) with e | e | e | e | e | e
  · rw [e, k0]; omega
  · rw [e, k1]; omega
  · rw [e, k2]; omega
  · rw [e, k3]; omega
  · rw [e, k4]; omega
  · rw [e, k5]; omega
theorem tB.tk {u : cS} {T B n m : Nat} (h : tB u T B n m) : tK u T := ⟨h.1, h.2.1, h.2.2.1, h.2.2.2.1, h.2.2.2.2.1, h.2.2.2.2.2.1⟩
theorem tK.ne {u : cS} {T a κ : Nat} (h : tK u T) (hk : u.kd a = κ) (hn : κ < 3 ∨ 8 < κ) : ¬ (T ≤ a ∧ a ≤ T + 5) := by
  rintro ⟨h1, h2⟩
  rw [h.at h1 h2] at hk
  omega
theorem tK.dj {u : cS} {T T' a : Nat} (h : tK u T) (h' : tK u T') (hne : T ≠ T') (h1 : T' ≤ a) (h2 : a ≤ T' + 5) : ¬ (T ≤ a ∧ a ≤ T + 5) := by
  rintro ⟨h3, h4⟩
  have e1 := h.at h3 h4
  have e2 := h'.at h1 h2
  omega
/-- only table t's cells, from T on, differ -/
def onT (u v : cS) (T : Nat) : Prop := v.kd = u.kd ∧ v.tp = u.tp ∧ ∀ a, ¬ (T ≤ a ∧ a ≤ T + 5) → agr u v a
/-- only table t's rows differ -/
def onR (r r' : rS) (t : Nat) : Prop := (∀ g, g = 0 ∨ g = 1 ∨ g = 22 → r'.1 g = r.1 g) ∧ (∀ a, a < 46 → (a < 28 ∨ 34 < a) → r'.2 a = r.2 a) ∧ (∀ a, a = 28 ∨ a = 29 ∨ a = 31 ∨ a = 32 → ∀ z, z ≠ t → r'.2 a z = r.2 a z) ∧ (∀ z, z ≠ 2 * t → z ≠ 2 * t + 1 → r'.2 30 z = r.2 30 z) ∧ (∀ z, ¬ (340 * t ≤ z ∧ z < 340 * t + 340) → r'.2 33 z = r.2 33 z) ∧ (∀ z, ¬ (52 * t ≤ z ∧ z < 52 * t + 52) → r'.2 34 z = r.2 34 z)
theorem onR.rT {r r' : rS} {t t' n m bd : Nat} (h : onR r r' t) (hne : t' ≠ t) (hn : n ≤ 319) (hm : m ≤ 52) : rT r r' t' n m bd := by
  obtain ⟨_, h2, h3, h4, h5, h6⟩ := h
  refine ⟨h3 28 (by omega) t' hne, h3 29 (by omega) t' hne, h4 _ (by omega) (by omega), h4 _ (by omega) (by omega), h3 31 (by omega) t' hne, h3 32 (by omega) t' hne, fun i hi => ?_, fun i hi => ?_, by rw [h2 27 (by decide) (by decide)], fun c _ => by rw [h2 26 (by decide) (by decide)]⟩
  · exact (h5 _ (by omega)).symm
  · exact (h6 _ (by omega)).symm
theorem J_tab {u v : cS} {r r' : rS} {nb nr t T : Nat} (hJ : J u r nb nr) (ht : t < 10) (hT : u.rR 18 t = some T) (hk : tK u T) (hv : onT u v T) (hr : onR r r' t) (hc : nr + cnt (fun t => decide (¬ r'.2 28 t = 0)) 10 ≤ 209) (hnew : (r'.2 28 t = 0 ∧ tI0 v t) ∨ ∃ B bd n m, tJ v r' nb t T B bd n m) : J v r' nb nr := by
  obtain ⟨v1, v2, v3⟩ := hv
  have hr0 := hr
  obtain ⟨r1, r2, r3, r4, r5, r6⟩ := hr
  obtain ⟨k16, k17, k18, k19, k20, k21, k22, k23, k24⟩ := hJ.k
  have ag : ∀ a κ, u.kd a = κ → (κ < 3 ∨ 8 < κ) → agr u v a := fun a κ h1 h2 => v3 a (hk.ne h1 h2)
  have a16 := ag 16 10 k16 (by decide)
  have a17 := ag 17 11 k17 (by decide)
  have a18 := ag 18 12 k18 (by decide)
  have a19 := ag 19 13 k19 (by decide)
  have a23 := ag 23 15 k23 (by decide)
  have a24 := ag 24 16 k24 (by decide)
  refine ⟨?_, ?_, ?_, ?_, fun b hb => ?_, fun t' ht' => ?_, fun i hi => ?_, ?_⟩
  · unfold kJ; rw [v1]; exact hJ.k
  · unfold aJ; rw [v1, v2, a18.2.2.2.2, a19.2.2.2.2]; exact hJ.a
  · rw [a16.2.1, r1 0 (by omega)]; exact hJ.hb
  · rw [a16.2.1, r1 1 (by omega)]; exact ⟨hJ.hr.1, hJ.hr.2.1, hc⟩
  · obtain ⟨B, hB⟩ := hJ.bd hb
    exact ⟨B, bJ_fr hB (by rw [a17.2.2.2.2]) (ag B 1 hB.2.1 (by decide)) (ag _ 2 hB.2.2.1 (by decide)) (by rw [r2 27 (by decide) (by decide)]) (by rw [r2 35 (by decide) (by decide)]) (fun c _ => by rw [r2 26 (by decide) (by decide)])⟩
  · by_cases e : t' = t
    · subst e
      rcases hnew with h | ⟨B, bd, n, m, h⟩
      · exact Or.inl h
      · exact Or.inr ⟨T, B, bd, n, m, h⟩
    · rcases hJ.tb ht' with ⟨h1, h2⟩ | ⟨T', B, bd, n, m, hT'⟩
      · refine Or.inl ⟨by rw [r3 28 (by omega) t' e]; exact h1, ?_⟩
        rcases h2 with h2 | ⟨T', h3, h4, h5⟩
        · exact Or.inl (by rw [a18.2.2.2.2]; exact h2)
        · have hne : T ≠ T' := fun z => e (hJ.a.2.1 t' t T' ht' ht h3 (by rw [← z]; exact hT))
          refine Or.inr ⟨T', by rw [a18.2.2.2.2]; exact h3, tK_fr h4 (fun a _ _ => by rw [v1]), ?_⟩
          rw [(v3 T' (hk.dj h4 hne (Nat.le_refl _) (by omega))).2.2.2.2]; exact h5
      · have hk' := hT'.2.1.tk
        have hne : T ≠ T' := fun z => e (hJ.a.2.1 t' t T' ht' ht hT'.1 (by rw [← z]; exact hT))
        refine Or.inr ⟨T', B, bd, n, m, tJ_fr hT' (Nat.le_refl _) (by rw [a18.2.2.2.2]) (by rw [a17.2.2.2.2]) (fun a h1 h2 => v3 a (hk.dj hk' hne h1 h2)) (by rw [v1]) (by rw [v1]) (hr0.rT e hT'.2.1.2.2.2.2.2.2.2.2.2.2.1 hT'.2.1.2.2.2.2.2.2.2.2.2.2.2.2)⟩
  · obtain ⟨R, hR⟩ := hJ.rs hi
    exact ⟨R, rJ_fr hR (Nat.le_refl _) (by rw [a19.2.2.2.2]) (ag R 9 hR.2.1 (by decide)) (fun a ha => by rw [r2 a (by omega) (by omega)]) ⟨by rw [r2 36 (by decide) (by decide)], by rw [r2 36 (by decide) (by decide)]⟩ ⟨by rw [r2 43 (by decide) (by decide)], by rw [r2 43 (by decide) (by decide)]⟩⟩
  · obtain ⟨len, t1, t2, t3, t4, t5⟩ := hJ.tx
    refine ⟨len, t1, by rw [a23.2.1]; exact t2, by rw [r1 22 (by omega)]; exact t3, by rw [a23.2.1]; exact t4, fun i hi => ?_⟩
    rw [a24.2.2.1, r2 45 (by decide) (by decide)]; exact t5 i hi
theorem onT.rf (u : cS) (T : Nat) : onT u u T := ⟨rfl, rfl, fun a _ => agr.rf u a⟩
theorem onT.O {u v : cS} {T : Nat} (h : onT u v T) {a k : Nat} (x : Int32) (h1 : T ≤ a ∧ a ≤ T + 5) : onT u (upO v a k x) T := ⟨h.1, h.2.1, fun b hb => ⟨(h.2.2 b hb).1, (u2_a v.oI x (fun e : b = a => hb (by rw [e]; exact h1))).trans (h.2.2 b hb).2.1, (h.2.2 b hb).2.2.1, (h.2.2 b hb).2.2.2.1, (h.2.2 b hb).2.2.2.2⟩⟩
theorem onT.I {u v : cS} {T : Nat} (h : onT u v T) {a k : Nat} (x : Int32) (h1 : T ≤ a ∧ a ≤ T + 5) : onT u (upI v a k x) T := ⟨h.1, h.2.1, fun b hb => ⟨(h.2.2 b hb).1, (h.2.2 b hb).2.1, (u2_a v.rI x (fun e : b = a => hb (by rw [e]; exact h1))).trans (h.2.2 b hb).2.2.1, (h.2.2 b hb).2.2.2.1, (h.2.2 b hb).2.2.2.2⟩⟩
theorem onT.L {u v : cS} {T : Nat} (h : onT u v T) {a k : Nat} (x : Int64) (h1 : T ≤ a ∧ a ≤ T + 5) : onT u (upL v a k x) T := ⟨h.1, h.2.1, fun b hb => ⟨(h.2.2 b hb).1, (h.2.2 b hb).2.1, (h.2.2 b hb).2.2.1, (u2_a v.rL x (fun e : b = a => hb (by rw [e]; exact h1))).trans (h.2.2 b hb).2.2.2.1, (h.2.2 b hb).2.2.2.2⟩⟩
theorem onT.R {u v : cS} {T : Nat} (h : onT u v T) {a k : Nat} (x : Option Nat) (h1 : T ≤ a ∧ a ≤ T + 5) : onT u (upR v a k x) T := ⟨h.1, h.2.1, fun b hb => ⟨(h.2.2 b hb).1, (h.2.2 b hb).2.1, (h.2.2 b hb).2.2.1, (h.2.2 b hb).2.2.2.1, (u2_a v.rR x (fun e : b = a => hb (by rw [e]; exact h1))).trans (h.2.2 b hb).2.2.2.2⟩⟩
theorem rU_s (A : Nat → Nat → Int32) (a n : Nat) (v : Int32) : rU A a n v a n = v := by unfold rU upd; simp
theorem rU_a {A : Nat → Nat → Int32} {a b n : Nat} {v : Int32} (h : b ≠ a) : rU A a n v b = A b := if_neg h
theorem rU_k {A : Nat → Nat → Int32} {a n z : Nat} {v : Int32} (h : z ≠ n) : rU A a n v a z = A a z := by unfold rU upd; simp [h]
/-- a table is left -/
theorem J.leave {u : cS} {r : rS} {nb nr t T B bd n m : Nat} (hJ : J u r nb nr) (ht : t < 10) (hT : tJ u r nb t T B bd n m) : J (upR u T 0 none) (uLeave r t) nb nr := by
  have hk := hT.2.1.tk
  refine J_tab hJ ht hT.1 hk ((onT.rf u T).R none ⟨Nat.le_refl _, by omega⟩) ?_ ?_ (Or.inl ⟨rU_s r.2 28 t 0, ?_⟩)
  · refine ⟨fun _ _ => rfl, fun a _ h => rU_a (by omega), fun a ha z hz => ?_, fun z _ _ => by show rU r.2 28 t 0 30 z = _; rw [rU_a (by decide)], fun z _ => by show rU r.2 28 t 0 33 z = _; rw [rU_a (by decide)], fun z _ => by show rU r.2 28 t 0 34 z = _; rw [rU_a (by decide)]⟩
    show rU r.2 28 t 0 a z = _
    by_cases e : a = 28
    · rw [e, rU_k hz]
    · rw [rU_a e]
  · have h1 := hJ.hr.2.2
    have h2 : cnt (fun z => decide (¬ (uLeave r t).2 28 z = 0)) 10 ≤ cnt (fun z => decide (¬ r.2 28 z = 0)) 10 := cnt_sub (fun z _ hz => by
      rw [decide_eq_true_eq] at hz ⊢
      by_cases e : z = t
      · subst e; exact absurd (rU_s r.2 28 z 0) hz
      · have : (uLeave r t).2 28 z = r.2 28 z := rU_k (A := r.2) (a := 28) (n := t) (v := 0) e
        rw [this] at hz; exact hz)
    omega
  · have nT : ¬ 18 = T := fun e => by have := hk.1; rw [← e, hJ.k.2.2.1] at this; exact absurd this (by decide)
    refine Or.inr ⟨T, ?_, hk, ?_⟩
    · show u2 u.rR T 0 none 18 t = _
      rw [u2_a _ _ nT]; exact hT.1
    · show u2 u.rR T 0 none T 0 = _
      rw [u2_s]
