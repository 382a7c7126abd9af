/-! ===== the abstract heap and the machine's at the law's entry ===== -/
def kA (as : List Nat) (k : Nat) : Nat := as.getD k 0
theorem s_V {args : Array Value} {s : State} (hts : ∀ w ∈ lw_tbl, w.before args s = true) (as : List Nat) (Ty : Nat → ClassId) (D : Nat → ClassId × (Nat → Nat)) (hTy : ∀ t, t < 7 → ArrOfT s (Ty t) (aTy t) ∧ va_RA s (Ty t) (aTy t)) (hD : ∀ c q, aCls[c]? = some q → u_Kn s q.1 q.2.1 q.2.2 (D c).1 (D c).2) (hSt : aSt (s, kA as, Ty, (fun c => (D c).1, fun c => (D c).2))) (hSr : aSr (s, kA as, Ty, (fun c => (D c).1, fun c => (D c).2)) s) : aV (s, kA as, Ty, (fun c => (D c).1, fun c => (D c).2)) s := by
  refine ⟨Vm.Alike.refl _, ⟨hD, fun k q hq => ?_⟩, fun w hw => va_Nw.of (n_w w hw).2 (hts w (n_w w hw).1), va_AO.of (hts _ a_mem.1.1), va_AO.of (hts _ a_mem.1.2), va_AO.of (hts _ a_mem.2), hSt, hSr⟩
  have hk : k < 7 := by
    have := (List.getElem?_eq_some_iff.mp hq).1
    simpa [aTys] using this
  rw [aTys_at _ hk] at hq
  cases hq
  exact hTy k hk
theorem s_H {s : State} {t0 t1 t2 t3 a4 v5 a6 v7 a8 v9 a10 v11 a12 v13 b f15 L : Nat} {xs : Nat → Int32} (Ty : Nat → ClassId) (D : va_G)
    (T0 : va_T .int t0 24 (fun j => .int (stpF j)) (fun q => s.heap.size ≤ q) s s.heap) (T1 : va_T .int t1 24 (fun j => .int (stpF j)) (fun q => s.heap.size ≤ q) s s.heap)
    (T2 : va_T .byte t2 100 (fun j => .int (nI (48 + j % 10))) (fun q => s.heap.size ≤ q) s s.heap) (T3 : va_T .byte t3 100 (fun j => .int (nI (48 + j / 10))) (fun q => s.heap.size ≤ q) s s.heap)
    (S4 : va_O "java/lang/String" a4 (fun q => s.heap.size ≤ q) s s.heap ∧ va_OF "java/lang/String" "coder" "B" (.int 0) a4 (fun q => s.heap.size ≤ q) s s.heap ∧ va_OF "java/lang/String" "value" "[B" (.ref v5) a4 (fun q => s.heap.size ≤ q) s s.heap ∧ va_T .byte v5 4 (fun j => .int (([112, 97, 115, 115] : List Int32).getD j 0)) (fun q => s.heap.size ≤ q) s s.heap)
    (S6 : va_O "java/lang/String" a6 (fun q => s.heap.size ≤ q) s s.heap ∧ va_OF "java/lang/String" "coder" "B" (.int 0) a6 (fun q => s.heap.size ≤ q) s s.heap ∧ va_OF "java/lang/String" "value" "[B" (.ref v7) a6 (fun q => s.heap.size ≤ q) s s.heap ∧ va_T .byte v7 5 (fun j => .int (([67, 68, 72, 83, 78] : List Int32).getD j 0)) (fun q => s.heap.size ≤ q) s s.heap)
    (S8 : va_O "java/lang/String" a8 (fun q => s.heap.size ≤ q) s s.heap ∧ va_OF "java/lang/String" "coder" "B" (.int 0) a8 (fun q => s.heap.size ≤ q) s s.heap ∧ va_OF "java/lang/String" "value" "[B" (.ref v9) a8 (fun q => s.heap.size ≤ q) s s.heap ∧ va_T .byte v9 4 (fun j => .int (([78, 69, 83, 87] : List Int32).getD j 0)) (fun q => s.heap.size ≤ q) s s.heap)
    (S10 : va_O "java/lang/String" a10 (fun q => s.heap.size ≤ q) s s.heap ∧ va_OF "java/lang/String" "coder" "B" (.int 0) a10 (fun q => s.heap.size ≤ q) s s.heap ∧ va_OF "java/lang/String" "value" "[B" (.ref v11) a10 (fun q => s.heap.size ≤ q) s s.heap ∧ va_T .byte v11 5 (fun j => .int (([67, 68, 72, 83, 78] : List Int32).getD j 0)) (fun q => s.heap.size ≤ q) s s.heap)
    (S12 : va_O "java/lang/String" a12 (fun q => s.heap.size ≤ q) s s.heap ∧ va_OF "java/lang/String" "coder" "B" (.int 0) a12 (fun q => s.heap.size ≤ q) s s.heap ∧ va_OF "java/lang/String" "value" "[B" (.ref v13) a12 (fun q => s.heap.size ≤ q) s s.heap ∧ va_T .byte v13 4 (fun j => .int (([78, 69, 83, 87] : List Int32).getD j 0)) (fun q => s.heap.size ≤ q) s s.heap)
    (hX : va_X b L xs s s.heap) (hbl : b < s.heap.size) : aHp (s, kA [t0, t1, t2, t3, a4, v5, a6, v7, a8, v9, a10, v11, a12, v13, b, f15], Ty, D) s.heap (hS L xs) := by
  refine ⟨Nat.le_refl _, rfl, fun q _ => rfl, fun k h1 h2 => absurd h2 (by show ¬ k < 16; omega), fun k e hk he => ?_, fun k fs hk he => ?_⟩
  · rcases (show k = 0 ∨ k = 1 ∨ k = 2 ∨ k = 3 ∨ k = 4 ∨ k = 5 ∨ k = 6 ∨ k = 7 ∨ k = 8 ∨ k = 9 ∨ k = 10 ∨ k = 11 ∨ k = 12 ∨ k = 13 ∨ k = 14 ∨ k = 15 by omega) with z | z | z | z | z | z | z | z | z | z | z | z | z | z | z | z <;> subst z
    · exact T0
    · exact T1
    · exact T2
    · exact T3
    · exact absurd (show (Sum.inr (9, [.ref 5, .int 0]) : va_E) = .inl e from he) (by simp)
    · exact S4.2.2.2
    · exact absurd (show (Sum.inr (9, [.ref 7, .int 0]) : va_E) = .inl e from he) (by simp)
    · exact S6.2.2.2
    · exact absurd (show (Sum.inr (9, [.ref 9, .int 0]) : va_E) = .inl e from he) (by simp)
    · exact S8.2.2.2
    · exact absurd (show (Sum.inr (9, [.ref 11, .int 0]) : va_E) = .inl e from he) (by simp)
    · exact S10.2.2.2
    · exact absurd (show (Sum.inr (9, [.ref 13, .int 0]) : va_E) = .inl e from he) (by simp)
    · exact S12.2.2.2
    · obtain ⟨scr, h1, h2, h3, h4, h5⟩ := hX
      show va_T .int b L (fun j => .int (xs j)) (fun q => s.heap.size ≤ q) s s.heap
      exact ⟨scr, h1, h2, h3, Nat.le_of_eq h4.symm, by rw [h4], h5, fun z => absurd hbl (Nat.not_lt.mpr z)⟩
    · exact absurd (show (Sum.inr (10, []) : va_E) = .inl e from he) (by simp)
  · rcases (show k = 0 ∨ k = 1 ∨ k = 2 ∨ k = 3 ∨ k = 4 ∨ k = 5 ∨ k = 6 ∨ k = 7 ∨ k = 8 ∨ k = 9 ∨ k = 10 ∨ k = 11 ∨ k = 12 ∨ k = 13 ∨ k = 14 ∨ k = 15 by omega) with z | z | z | z | z | z | z | z | z | z | z | z | z | z | z | z <;> subst z
    · exact absurd (show (cT 0 : va_E) = .inr (9, fs) from he) (by simp [cT])
    · exact absurd (show (cT 1 : va_E) = .inr (9, fs) from he) (by simp [cT])
    · exact absurd (show (cT 2 : va_E) = .inr (9, fs) from he) (by simp [cT])
    · exact absurd (show (cT 3 : va_E) = .inr (9, fs) from he) (by simp [cT])
    · have he' : (Sum.inr (9, [.ref 5, .int 0]) : va_E) = .inr (9, fs) := he
      cases he'
      exact ⟨S4.1, 5, by decide, rfl, S4.2.2.1, S4.2.1⟩
    · exact absurd (show (cT 5 : va_E) = .inr (9, fs) from he) (by simp [cT])
    · have he' : (Sum.inr (9, [.ref 7, .int 0]) : va_E) = .inr (9, fs) := he
      cases he'
      exact ⟨S6.1, 7, by decide, rfl, S6.2.2.1, S6.2.1⟩
    · exact absurd (show (cT 7 : va_E) = .inr (9, fs) from he) (by simp [cT])
    · have he' : (Sum.inr (9, [.ref 9, .int 0]) : va_E) = .inr (9, fs) := he
      cases he'
      exact ⟨S8.1, 9, by decide, rfl, S8.2.2.1, S8.2.1⟩
    · exact absurd (show (cT 9 : va_E) = .inr (9, fs) from he) (by simp [cT])
    · have he' : (Sum.inr (9, [.ref 11, .int 0]) : va_E) = .inr (9, fs) := he
      cases he'
      exact ⟨S10.1, 11, by decide, rfl, S10.2.2.1, S10.2.1⟩
    · exact absurd (show (cT 11 : va_E) = .inr (9, fs) from he) (by simp [cT])
    · have he' : (Sum.inr (9, [.ref 13, .int 0]) : va_E) = .inr (9, fs) := he
      cases he'
      exact ⟨S12.1, 13, by decide, rfl, S12.2.2.1, S12.2.1⟩
    · exact absurd (show (cT 13 : va_E) = .inr (9, fs) from he) (by simp [cT])
    · exact absurd (show (Sum.inl (0, L, .inl xs) : va_E) = .inr (9, fs) from he) (by simp)
    · exact absurd (show (Sum.inr (10, []) : va_E) = .inr (9, fs) from he) (by simp)
theorem s_drop {s t : State} {L : List Loc} {k n : Nat} (h : s.sameButNew t L k n) (hf : ∀ q ∈ L, s.heap.size ≤ q.base) : s.sameButNew t [] k n := by
  obtain ⟨h1, h2, h3, h4, h5, h6⟩ := h
  refine ⟨h1, h2, h3, h4, h5, fun a c hc => ?_⟩
  obtain ⟨c', e1, e2, e3, e4⟩ := h6 a c hc
  exact ⟨c', e1, e2, e3, fun i _ => e4 i (fun hm => absurd (Array.getElem?_eq_some_iff.mp hc).1 (Nat.not_lt.mpr (hf _ hm)))⟩
theorem s_room {s : State} {pl : Platform} {r r' : Room} (hf : r.frames ≤ r'.frames) (hl : r.locals ≤ r'.locals) (hc : r.cells ≤ r'.cells) (hs : r.slots ≤ r'.slots) (h : s.hasRoom pl r' = true) : s.hasRoom pl r = true := by
  simp only [State.hasRoom, Bool.and_eq_true, decide_eq_true_eq] at h ⊢
  obtain ⟨⟨⟨⟨y, a, b, c, d, e⟩, f⟩, g⟩, i⟩ := h
  exact ⟨⟨⟨⟨by omega, by omega, by omega, by omega, by omega, e⟩, by omega⟩, by omega⟩, i⟩
