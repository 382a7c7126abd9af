/-! ===== what the start gives ===== -/
theorem x_sel {args : Array Value} {s : State} {C : String} {y z : MethodName} (hyc : z.cls = y.cls) (hz : (Cond.selects C z z).before args s = true) (hy : y.cls ≠ "java/lang/invoke/MethodHandle" ∧ y.cls ≠ "java/lang/invoke/VarHandle") (hpriv : (Cond.privateMethod y).before args s = true) (hinst : (Cond.instanceMethod y).before args s = true) : (Cond.selects C y y).before args s = true := by
  obtain ⟨c, r, m, hc, hr, hm, hs, mk, hmk, hni⟩ := Cond.selects_spec (args := args) (first := s) (o := none) (s := s) (idx := []) hz
  obtain ⟨mk', methM, hnamed, hmethM, -, -⟩ := Cond.instanceMethod_spec hinst
  have hfound : s.methodFound? y.cls y.name y.desc = some mk' := State.methodFound?_of_named hnamed hy
  have h1 := findClass_of_methodNamed hm
  rw [hyc] at h1
  have hcl : mk'.cls = m.cls := Option.some.inj ((findClass_of_methodNamed hnamed).symm.trans h1)
  have hsel : selectMethod {} s.vm c mk' = .method mk' := selectMethod_private hmethM (Cond.privateMethod_at hpriv mk' methM hnamed hmethM)
  simp only [Cond.before, Cond.holds, Cond.value, hc, hfound, hnamed, hsel, hcl, hmk]
  simp; exact hni
theorem x_mem : (Cond.selects RJ4 ⟨RJ5, "isLatin1", "()Z"⟩ ⟨RJ5, "isLatin1", "()Z"⟩ ∈ lw_tbl ∧ Cond.privateMethod ⟨RJ5, "ensureCapacityInternal", "(I)V"⟩ ∈ lw_tbl ∧ Cond.instanceMethod ⟨RJ5, "ensureCapacityInternal", "(I)V"⟩ ∈ lw_tbl) ∧ (Cond.privateMethod ⟨RJ5, "putStringAt", "(ILjava/lang/String;)V"⟩ ∈ lw_tbl ∧ Cond.instanceMethod ⟨RJ5, "putStringAt", "(ILjava/lang/String;)V"⟩ ∈ lw_tbl) ∧ (Cond.privateMethod ⟨RJ5, "inflateIfNeededFor", "(Ljava/lang/String;)V"⟩ ∈ lw_tbl ∧ Cond.instanceMethod ⟨RJ5, "inflateIfNeededFor", "(Ljava/lang/String;)V"⟩ ∈ lw_tbl) := by decide +kernel
theorem xsel_ok {args : Array Value} {s : State} (hts : ∀ w ∈ lw_tbl, w.before args s = true) : ∀ w ∈ xsel, w.before args s = true := by
  intro w hw
  have hm := x_mem
  have h0 := hts _ hm.1.1
  unfold xsel at hw
  simp only [List.mem_cons, List.not_mem_nil, or_false] at hw
  rcases hw with rfl | rfl | rfl
  · exact x_sel (z := ⟨RJ5, "isLatin1", "()Z"⟩) rfl h0 ⟨by decide, by decide⟩ (hts _ hm.1.2.1) (hts _ hm.1.2.2)
  · exact x_sel (z := ⟨RJ5, "isLatin1", "()Z"⟩) rfl h0 ⟨by decide, by decide⟩ (hts _ hm.2.1.1) (hts _ hm.2.1.2)
  · exact x_sel (z := ⟨RJ5, "isLatin1", "()Z"⟩) rfl h0 ⟨by decide, by decide⟩ (hts _ hm.2.2.1) (hts _ hm.2.2.2)
theorem good_ok {args : Array Value} {s : State} (hts : ∀ w ∈ lw_tbl, w.before args s = true) : ∀ w ∈ lw_good, w.before args s = true := by
  intro w hw
  rcases List.mem_append.mp (List.mem_filter.mp hw).1 with h | h
  · exact xsel_ok hts w h
  · exact hts w h
theorem a_mem : (Cond.arrayOver (.object RX1) ∈ lw_tbl ∧ Cond.arrayOver (.object RX7) ∈ lw_tbl) ∧ Cond.arrayOver (.object RX5) ∈ lw_tbl := by decide +kernel
theorem a_prim {args : Array Value} {s : State} {ty : FieldType} (h : (Cond.arrayClass ty).before args s = true) : ∃ c, s.vm.findClass ("[" ++ ty.toString) = some c ∧ ArrOfT s c ty := by
  obtain ⟨c, k, comp, h1, h2, h3⟩ := Cond.arrayClass_spec (args := args) (first := s) (o := none) (s := s) (idx := []) h
  exact ⟨c, h1, fun n z => ⟨fun k h => (by cases h), k, h2, comp, h3⟩⟩
theorem a_ref {args : Array Value} {s : State} {C : String} (h : (Cond.arrayOver (.object C)).before args s = true) : ∃ c, ArrOfT s c (.object C) ∧ va_RA s c (.object C) := by
  obtain ⟨comp, c, k, h1, h2, h3, h4, h5⟩ := Cond.arrayOver_spec (args := args) (first := s) (o := none) (s := s) (idx := []) h
  exact ⟨c, fun n z => ⟨fun k h => (by cases h), k, h3, comp, h4⟩, k, comp, h3, h4, h1, h5⟩
theorem a_tys {args : Array Value} {s : State} (hts : ∀ w ∈ lw_tbl, w.before args s = true) (t : Nat) : ∃ c : ClassId, t < 7 → ArrOfT s c (aTy t) ∧ va_RA s c (aTy t) := by
  by_cases ht : t < 7
  · rcases (show t = 0 ∨ t = 1 ∨ t = 2 ∨ t = 3 ∨ t = 4 ∨ t = 5 ∨ t = 6 by omega) with e | e | e | e | e | e | e <;> subst e
    · obtain ⟨c, h1, h2⟩ := a_prim (hts _ aArrB.1.1)
      exact ⟨c, fun _ => ⟨h2, h1⟩⟩
    · obtain ⟨c, h1, h2⟩ := a_prim (hts _ aArrB.1.2)
      exact ⟨c, fun _ => ⟨h2, h1⟩⟩
    · obtain ⟨c, h1, h2⟩ := a_prim (hts _ aArrB.2.1)
      exact ⟨c, fun _ => ⟨h2, h1⟩⟩
    · obtain ⟨c, h1, h2⟩ := a_prim (hts _ aArrB.2.2)
      exact ⟨c, fun _ => ⟨h2, h1⟩⟩
    · obtain ⟨c, h⟩ := a_ref (hts _ a_mem.1.1)
      exact ⟨c, fun _ => h⟩
    · obtain ⟨c, h⟩ := a_ref (hts _ a_mem.1.2)
      exact ⟨c, fun _ => h⟩
    · obtain ⟨c, h⟩ := a_ref (hts _ a_mem.2)
      exact ⟨c, fun _ => h⟩
  · exact ⟨0, fun h => absurd h ht⟩
theorem a_cls {args : Array Value} {s : State} (hts : ∀ w ∈ lw_tbl, w.before args s = true) (ci : Nat) : ∃ d : ClassId × (Nat → Nat), ∀ q, aCls[ci]? = some q → u_Kn s q.1 q.2.1 q.2.2 d.1 d.2 := by
  cases hq : aCls[ci]? with
  | none => exact ⟨(0, fun _ => 0), fun q h => by cases h⟩
  | some q =>
    have h1 := aInB_of ci hq
    have h2 := aIsB_of ci hq
    unfold aInB at h1
    unfold aIsB at h2
    simp only [Bool.and_eq_true, decide_eq_true_eq] at h2
    obtain ⟨cC, iS, h⟩ := u_known (C := q.1) (T := q.2.1) (N := q.2.2) hts (fun w hw => by
      have := List.all_eq_true.mp h1 w hw
      simp only [Bool.and_eq_true, decide_eq_true_eq] at this
      exact this.1) (hts _ h2.1.1.1)
    exact ⟨(cC, iS), fun q' hq' => by cases hq'; exact h⟩
/-- a row of the constants; a String constant -/
theorem k_str {args : Array Value} {s : State} (tm : Term) (n : Nat) (f : Nat → Int32) (hn : n < 2 ^ 31) (hex : (Cond.exactly tm "java/lang/String").before args s = true) (hco : (Cond.eq (.field tm "java/lang/String" "coder" "B") (.int 0)).before args s = true) (har : (Cond.arrayOf (.field tm "java/lang/String" "value" "[B") .byte).before args s = true) (hle : (Cond.eq (.length (.field tm "java/lang/String" "value" "[B")) (.int (Int32.ofNat n))).before args s = true) (hel : ∀ j : Nat, j < n → (Cond.eq (.elem (.field tm "java/lang/String" "value" "[B") (.int (Int32.ofNat j))) (.int (f j))).before args s = true) : ∃ a t, tm.eval args s none [] s = some (.ref a) ∧ va_O "java/lang/String" a (fun q => s.heap.size ≤ q) s s.heap ∧ va_OF "java/lang/String" "coder" "B" (.int 0) a (fun q => s.heap.size ≤ q) s s.heap ∧ va_OF "java/lang/String" "value" "[B" (.ref t) a (fun q => s.heap.size ≤ q) s s.heap ∧ va_T .byte t n (fun j => .int (f j)) (fun q => s.heap.size ≤ q) s s.heap := by
  have hA : ∀ a : Nat, a < s.heap.size → ¬ (fun q => s.heap.size ≤ q) a := fun a ha h => absurd ha (Nat.not_lt.mpr h)
  obtain ⟨a, c, cA, kA, q1, q2, q3, q4, q5, q6, -⟩ := Cond.exactly_spec (args := args) (first := s) (o := none) (s := s) (idx := []) (t := tm) (cls := "java/lang/String") hex
  obtain ⟨t, ht, hT⟩ := va_Tof (f := fun j => .int (f j)) (A := fun q => s.heap.size ≤ q) hn har (va_eqt hle) (fun j hj => va_eqt (hel j hj)) hA
  exact ⟨a, t, q1, ⟨cA, q3, q5, by rw [q6]; exact q2, hA a (Array.getElem?_eq_some_iff.mp q3).1⟩, vk_OFof q1 (va_eqt hco) hA, vk_OFof q1 ht hA, hT⟩
theorem k_tab {args : Array Value} {s : State} {C n d : String} {ty : FieldType} (N : Nat) (f : Nat → Int32) (hN : N < 2 ^ 31) (hl : (Cond.laysStatic C n d).before args s = true) (hini : (Cond.initialized C).before args s = true) (har : (Cond.arrayOf (.static C n d) ty).before args s = true) (hle : (Cond.eq (.length (.static C n d)) (.int (Int32.ofNat N))).before args s = true) (hel : ∀ j : Nat, j < N → (Cond.eq (.elem (.static C n d) (.int (Int32.ofNat j))) (.int (f j))).before args s = true) : ∃ t, va_Z C n d (.ref t) (fun q => s.heap.size ≤ q) s s.heap ∧ va_T ty t N (fun j => .int (f j)) (fun q => s.heap.size ≤ q) s s.heap := by
  have hA : ∀ a : Nat, a < s.heap.size → ¬ (fun q => s.heap.size ≤ q) a := fun a ha h => absurd ha (Nat.not_lt.mpr h)
  obtain ⟨t, ht, hT⟩ := va_Tof (f := fun j => .int (f j)) (A := fun q => s.heap.size ≤ q) hN har (va_eqt hle) (fun j hj => va_eqt (hel j hj)) hA
  exact ⟨t, va_Zof hl hini ht hA, hT⟩
def nF : List Cond := flatC (Cond.and given_1 narrow_1)
def nE (tm : Term) (N : Nat) (f : Nat → Int32) : List Cond := (List.range N).map (fun j => Cond.eq (.elem tm (.int (Int32.ofNat j))) (.int (f j)))
theorem nE_at {tm : Term} {N : Nat} {f : Nat → Int32} {j : Nat} (hj : j < N) : Cond.eq (.elem tm (.int (Int32.ofNat j))) (.int (f j)) ∈ nE tm N f := List.mem_map.mpr ⟨j, List.mem_range.mpr hj, rfl⟩
def nT (C n d : String) (ty : FieldType) (N : Nat) (f : Nat → Int32) : List Cond := Cond.arrayOf (.static C n d) ty :: Cond.eq (.length (.static C n d)) (.int (Int32.ofNat N)) :: nE (.static C n d) N f
def nS (own : String) (k : Nat) (n : Nat) (f : Nat → Int32) : List Cond := Cond.exactly (.string own k) "java/lang/String" :: Cond.eq (.field (.string own k) "java/lang/String" "coder" "B") (.int 0) :: Cond.arrayOf (.field (.string own k) "java/lang/String" "value" "[B") .byte :: Cond.eq (.length (.field (.string own k) "java/lang/String" "value" "[B")) (.int (Int32.ofNat n)) :: nE (.field (.string own k) "java/lang/String" "value" "[B") n f
theorem n_in {b N : Nat} {ws : List Cond} (h : (nF.drop b).take N = ws) {w : Cond} (hw : w ∈ ws) : w ∈ nF := by
  rw [← h] at hw
  exact List.mem_of_mem_drop (List.mem_of_mem_take hw)
theorem nT_ok {args : Array Value} {s : State} (hts : ∀ w ∈ lw_tbl, w.before args s = true) (hn : ∀ w ∈ nF, w.before args s = true) {C n d : String} {ty : FieldType} {N b M : Nat} {f : Nat → Int32} (hN : N < 2 ^ 31) (h1 : Cond.laysStatic C n d ∈ lw_tbl) (h2 : Cond.initialized C ∈ lw_tbl) (h : (nF.drop b).take M = nT C n d ty N f) : ∃ t, va_Z C n d (.ref t) (fun q => s.heap.size ≤ q) s s.heap ∧ va_T ty t N (fun j => .int (f j)) (fun q => s.heap.size ≤ q) s s.heap :=
  k_tab N f hN (hts _ h1) (hts _ h2) (hn _ (n_in h (List.mem_cons_self))) (hn _ (n_in h (List.mem_cons_of_mem _ List.mem_cons_self))) (fun j hj => hn _ (n_in h (List.mem_cons_of_mem _ (List.mem_cons_of_mem _ (nE_at hj)))))
theorem nS_ok {args : Array Value} {s : State} (hts : ∀ w ∈ lw_tbl, w.before args s = true) (hn : ∀ w ∈ nF, w.before args s = true) {own tx : String} {k n b M : Nat} {f : Nat → Int32} (hN : n < 2 ^ 31) (h1 : Cond.stringRef own k tx ∈ lw_tbl) (h : (nF.drop b).take M = nS own k n f) : ∃ a t, vk_R own k tx a s ∧ va_O "java/lang/String" a (fun q => s.heap.size ≤ q) s s.heap ∧ va_OF "java/lang/String" "coder" "B" (.int 0) a (fun q => s.heap.size ≤ q) s s.heap ∧ va_OF "java/lang/String" "value" "[B" (.ref t) a (fun q => s.heap.size ≤ q) s s.heap ∧ va_T .byte t n (fun j => .int (f j)) (fun q => s.heap.size ≤ q) s s.heap := by
  obtain ⟨a, t, e, hs⟩ := k_str (args := args) (s := s) (.string own k) n f hN (hn _ (n_in h (List.mem_cons_self))) (hn _ (n_in h (List.mem_cons_of_mem _ List.mem_cons_self))) (hn _ (n_in h (List.mem_cons_of_mem _ (List.mem_cons_of_mem _ List.mem_cons_self)))) (hn _ (n_in h (List.mem_cons_of_mem _ (List.mem_cons_of_mem _ (List.mem_cons_of_mem _ List.mem_cons_self))))) (fun j hj => hn _ (n_in h (List.mem_cons_of_mem _ (List.mem_cons_of_mem _ (List.mem_cons_of_mem _ (List.mem_cons_of_mem _ (nE_at hj)))))))
  exact ⟨a, t, vk_R.of (hts _ h1) e, hs⟩
