/-! ===== how the AM's heap, locals and stack stand in the machine's ===== -/
abbrev aG : Type := State × (Nat → Nat) × (Nat → ClassId) × va_G
def ad (G : aG) (k : Nat) : Nat := if k < 16 then G.2.1 k else G.1.heap.size + (k - 16)
def up (G : aG) (v : Value) : Value := match v with
  | .ref a => .ref (ad G a)
  | v => v
def trU (G : aG) (u : vp_A) : vp_A := match u.2 with
  | .inr (.inr (.inr (.inr f))) => (u.1, .inr (.inr (.inr (.inr (fun j => (f j).map (ad G))))))
  | _ => u
def trE (G : aG) (e : va_E) : va_E := match e with
  | .inl (t, u) => .inl (G.2.2.1 t, trU G u)
  | .inr (ci, fs) => .inr (ci, fs.map (up G))
def aTys (G : aG) : List (ClassId × FieldType) := (List.range 7).map (fun t => (G.2.2.1 t, aTy t))
abbrev aOld (G : aG) : Nat → Prop := fun q => G.1.heap.size ≤ q
/-- what the statics hold -/
def aSt (G : aG) : Prop := ∀ q ∈ aSta, (q.2.2.2.2 = 0 → va_Z q.1 q.2.1 q.2.2.1 (.ref (ad G q.2.2.2.1)) (aOld G) G.1 G.1.heap) ∧ (q.2.2.2.2 = 1 → va_Z q.1 q.2.1 q.2.2.1 (.int (Int32.ofNat q.2.2.2.1)) (aOld G) G.1 G.1.heap) ∧ (q.2.2.2.2 = 2 → va_Z q.1 q.2.1 q.2.2.1 .null (aOld G) G.1 G.1.heap ∨ va_Z q.1 q.2.1 q.2.2.1 (.ref (ad G q.2.2.2.1)) (aOld G) G.1 G.1.heap)
/-- the String constants are loaded -/
def aSr (G : aG) (U : State) : Prop := ∀ q ∈ aStr, vk_R q.1 q.2.1 q.2.2.1 (ad G q.2.2.2) U
def aV (G : aG) (U : State) : Prop := G.1.vm.Alike U.vm ∧ va_K G.2.2.2 aCls (aTys G) U ∧ (∀ w ∈ aNw, va_Nw w U) ∧ va_AO RX1 U ∧ va_AO RX7 U ∧ va_AO RX5 U ∧ aSt G ∧ aSr G U
def aCst (G : aG) (k : Nat) (e : va_E) : Prop := match e with
  | .inl (t, n, .inl f) => va_T (aTy t) (G.2.1 k) n (fun j => .int (f j)) (fun q => G.1.heap.size ≤ q) G.1 G.1.heap
  | _ => False
/-- a String constant -/
def aCO (G : aG) (k : Nat) (fs : List Value) : Prop := va_O RJ0 (G.2.1 k) (aOld G) G.1 G.1.heap ∧ ∃ b, b < 16 ∧ fs = [.ref b, .int 0] ∧ va_OF RJ0 "value" "[B" (.ref (G.2.1 b)) (G.2.1 k) (aOld G) G.1 G.1.heap ∧ va_OF RJ0 "coder" "B" (.int 0) (G.2.1 k) (aOld G) G.1 G.1.heap
def aHp (G : aG) (H : Heap) (h : aH) : Prop := 16 ≤ h.2 ∧ H.size = G.1.heap.size + (h.2 - 16) ∧ (∀ q, q < G.1.heap.size → H[q]? = G.1.heap[q]?) ∧ (∀ k, 16 ≤ k → k < h.2 → va_at G.2.2.2 aCls (ad G k, trE G (h.1 k)) H) ∧ (∀ k e, k < 16 → h.1 k = .inl e → aCst G k (h.1 k)) ∧ ∀ k fs, k < 16 → h.1 k = .inr (9, fs) → aCO G k fs
def aLv (G : aG) (ls : Array Slot) (n : Nat) (l : aL) : Prop := ls.size = n ∧ l.length = n ∧ lv_wf ls ∧ ∀ (i : Nat) (v : Value), l[i]? = some (some v) → ls[i]? = some (Slot.val (up G v))
def aLs (G : aG) (l : aL) : List (Nat × Value) := (List.range l.length).filterMap (fun i => match l[i]? with
  | some (some v) => some (i, up G v)
  | _ => none)
theorem ad_hi {G : aG} {k : Nat} (h : 16 ≤ k) : ad G k = G.1.heap.size + (k - 16) := by unfold ad; rw [if_neg (by omega)]
theorem ad_lo {G : aG} {k : Nat} (h : k < 16) : ad G k = G.2.1 k := by unfold ad; rw [if_pos h]
theorem up_cat (G : aG) (v : Value) : (up G v).category = v.category := by cases v <;> rfl
theorem up_cats (G : aG) (vs : List Value) : ((vs.map (up G)).map fun v => v.category).sum = aCat vs := by
  unfold aCat
  rw [List.map_map]
  congr 1
  apply List.map_congr_left
  intro v _
  exact up_cat G v
theorem up_fit {G : aG} {ty : FieldType} {v : Value} (h1 : narrow ty v = v) (h2 : fits ty v = true) : narrow ty (up G v) = up G v ∧ fits ty (up G v) = true := by
  cases v with
  | ref a =>
    cases ty <;> first | exact ⟨rfl, rfl⟩ | exact absurd h2 (by simp [fits])
  | _ => exact ⟨h1, h2⟩
theorem up_rf (G : aG) (r : Option Nat) : up G (aRef r) = va_rf (r.map (ad G)) := by cases r <;> rfl
theorem aTys_at (G : aG) {t : Nat} (h : t < 7) : (aTys G)[t]? = some (G.2.2.1 t, aTy t) := by
  unfold aTys
  rw [List.getElem?_map, List.getElem?_range h]
  rfl
theorem aHp.at {G : aG} {H : Heap} {h : aH} (X : aHp G H h) {k : Nat} {e : va_E} (h1 : 16 ≤ k) (h2 : k < h.2) (he : h.1 k = e) : va_at G.2.2.2 aCls (ad G k, trE G e) H := by
  subst he; exact X.2.2.2.1 k h1 h2
theorem aHp.put {G : aG} {H H' : Heap} {h : aH} (X : aHp G H h) {a : Nat} {e : va_E} (h1 : 16 ≤ a) (h2 : a < h.2) (hz : H'.size = H.size) (ho : ∀ q, q ≠ ad G a → H'[q]? = H[q]?) (he : va_at G.2.2.2 aCls (ad G a, trE G e) H') : aHp G H' (aUp h a e) := by
  obtain ⟨x1, x2, x3, x4, x5, x6⟩ := X
  refine ⟨x1, hz.trans x2, fun q hq => ?_, fun k k1 k2 => ?_, fun k u k1 hu => ?_, fun k u k1 hu => ?_⟩
  · rw [ho q (by rw [ad_hi h1]; omega)]; exact x3 q hq
  · by_cases hk : k = a
    · subst hk
      show va_at _ _ (_, trE G (va_up h.1 k e k)) _
      rw [va_up_self]; exact he
    · show va_at _ _ (_, trE G (va_up h.1 a e k)) _
      rw [va_up_ne _ _ hk]
      exact (x4 k k1 k2).kept (ho _ (by show ad G k ≠ ad G a; rw [ad_hi k1, ad_hi h1]; omega))
  · have hk : k ≠ a := by omega
    have : (aUp h a e).1 k = h.1 k := va_up_ne _ _ hk
    rw [this] at hu ⊢
    exact x5 k u k1 hu
  · have hk : k ≠ a := by omega
    have : (aUp h a e).1 k = h.1 k := va_up_ne _ _ hk
    rw [this] at hu
    exact x6 k u k1 hu
theorem aHp.new {G : aG} {H H' : Heap} {h : aH} (X : aHp G H h) {e : va_E} (hz : H'.size = H.size + 1) (ho : ∀ q, q < H.size → H'[q]? = H[q]?) (he : va_at G.2.2.2 aCls (H.size, trE G e) H') : aHp G H' (aNew h e) := by
  obtain ⟨x1, x2, x3, x4, x5, x6⟩ := X
  refine ⟨Nat.le_succ_of_le x1, ?_, fun q hq => ?_, fun k k1 k2 => ?_, fun k u k1 hu => ?_, fun k u k1 hu => ?_⟩
  · show _ = _ + (h.2 + 1 - 16); omega
  · rw [ho q (by omega)]; exact x3 q hq
  · by_cases hk : k = h.2
    · subst hk
      show va_at _ _ (_, trE G (va_up h.1 h.2 e h.2)) _
      rw [va_up_self, ad_hi k1, ← x2]; exact he
    · show va_at _ _ (_, trE G (va_up h.1 h.2 e k)) _
      have k2' : k < h.2 + 1 := k2
      rw [va_up_ne _ _ hk]
      exact (x4 k k1 (by omega)).kept (ho _ (by show ad G k < _; rw [ad_hi k1]; omega))
  · have hk : k ≠ h.2 := by omega
    have : (aNew h e).1 k = h.1 k := va_up_ne _ _ hk
    rw [this] at hu ⊢
    exact x5 k u k1 hu
  · have hk : k ≠ h.2 := by omega
    have : (aNew h e).1 k = h.1 k := va_up_ne _ _ hk
    rw [this] at hu
    exact x6 k u k1 hu
theorem aHp.ref {G : aG} {H : Heap} {h : aH} (X : aHp G H h) : ad G h.2 = H.size := by rw [ad_hi X.1, X.2.1]
theorem aLs_mem {G : aG} {l : aL} {i : Nat} {v : Value} (h : l[i]? = some (some v)) : (i, up G v) ∈ aLs G l := by
  refine List.mem_filterMap.mpr ⟨i, List.mem_range.mpr ?_, ?_⟩
  · exact (List.getElem?_eq_some_iff.mp h).1
  · rw [h]
theorem aLv.has {G : aG} {ls : Array Slot} {n : Nat} {l : aL} (h : aLv G ls n l) : lv_has ls n (aLs G l) := by
  refine ⟨h.1, h.2.2.1, fun q hq => ?_⟩
  obtain ⟨i, -, hi⟩ := List.mem_filterMap.mp hq
  split at hi
  · rename_i v hv
    cases hi
    exact h.2.2.2 i v hv
  · cases hi
theorem aLv.at {G : aG} {ls : Array Slot} {n : Nat} {l : aL} (h : aLv G ls n l) {i : Nat} {v : Value} (hi : l[i]? = some (some v)) : ls[i]? = some (.val (up G v)) := h.2.2.2 i v hi
theorem aClr_len (l : aL) (i : Nat) : (aClr l i).length = l.length := by
  cases i with
  | zero => rfl
  | succ i =>
    rw [show aClr l (i + 1) = (match l[i]? with
      | some (some (.long _)) => l.set i none
      | some (some (.double _)) => l.set i none
      | _ => l) from rfl]
    split
    · exact List.length_set
    · exact List.length_set
    · rfl
theorem aClr_at {l : aL} {i j : Nat} {v : Value} (h : (aClr l i)[j]? = some (some v)) : l[j]? = some (some v) ∧ ¬ (j + 1 = i ∧ v.category = 2) := by
  cases i with
  | zero => exact ⟨h, by omega⟩
  | succ i =>
    rw [show aClr l (i + 1) = (match l[i]? with
      | some (some (.long _)) => l.set i none
      | some (some (.double _)) => l.set i none
      | _ => l) from rfl] at h
    split at h
    · rename_i x hx
      by_cases hj : j = i
      · subst hj
        rw [List.getElem?_set_self (List.getElem?_eq_some_iff.mp hx).1] at h
        cases h
      · rw [List.getElem?_set_ne (fun q => hj q.symm)] at h
        exact ⟨h, fun q => hj (by omega)⟩
    · rename_i x hx
      by_cases hj : j = i
      · subst hj
        rw [List.getElem?_set_self (List.getElem?_eq_some_iff.mp hx).1] at h
        cases h
      · rw [List.getElem?_set_ne (fun q => hj q.symm)] at h
        exact ⟨h, fun q => hj (by omega)⟩
    · rename_i hx hx2
      refine ⟨h, fun q => ?_⟩
      have hj : j = i := by omega
      subst hj
      cases v with
      | long x => exact hx x h
      | double x => exact hx2 x h
      | _ => exact absurd q.2 (by simp [Value.category])
theorem aSet_len (l : aL) (i : Nat) (v : Value) : (aSet l i v).length = l.length := by
  unfold aSet
  split <;> simp [aClr_len]
theorem aLv.set1 {G : aG} {ls' : Array Slot} {n : Nat} {l : aL} {i : Nat} {v : Value} (hn : l.length = n) (hi : i < n) (hc : v.category = 1) (h : lv_has ls' n ((i, up G v) :: (aLs G l).filter (fun q => !(q.1 == i) && !(q.1 + 1 == i && q.2.category == 2)))) : aLv G ls' n (aSet l i v) := by
  refine ⟨h.1, (aSet_len l i v).trans hn, h.2.1, fun j w hj => ?_⟩
  have hs : aSet l i v = (aClr l i).set i (some v) := by
    cases v <;> first | rfl | simp [Value.category] at hc
  rw [hs] at hj
  by_cases hji : j = i
  · subst hji
    rw [List.getElem?_set_self (by rw [aClr_len]; omega)] at hj
    cases hj
    exact h.2.2 (j, up G v) List.mem_cons_self
  · rw [List.getElem?_set_ne (fun q => hji q.symm)] at hj
    obtain ⟨h1, h2⟩ := aClr_at hj
    refine h.2.2 (j, up G w) (List.mem_cons_of_mem _ (List.mem_filter.mpr ⟨aLs_mem h1, ?_⟩))
    simp only [Bool.and_eq_true, Bool.not_eq_true', beq_eq_false_iff_ne, ne_eq, Bool.and_eq_false_iff, up_cat]
    refine ⟨hji, ?_⟩
    by_cases q : j + 1 = i
    · exact Or.inr (fun z => h2 ⟨q, z⟩)
    · exact Or.inl q
theorem aLv.set2 {G : aG} {ls' : Array Slot} {n : Nat} {l : aL} {i : Nat} {x : Int64} (hn : l.length = n) (hi : i + 1 < n) (h : lv_has ls' n ((i, .long x) :: (aLs G l).filter (fun q => !(q.1 == i) && (!(q.1 == i + 1) && !(q.1 + 1 == i && q.2.category == 2))))) : aLv G ls' n (aSet l i (.long x)) := by
  refine ⟨h.1, (aSet_len l i _).trans hn, h.2.1, fun j w hj => ?_⟩
  have hs : aSet l i (.long x) = ((aClr l i).set i (some (.long x))).set (i + 1) none := rfl
  rw [hs] at hj
  by_cases hj1 : j = i + 1
  · subst hj1
    rw [List.getElem?_set_self (by rw [List.length_set, aClr_len]; omega)] at hj
    cases hj
  · rw [List.getElem?_set_ne (fun q => hj1 q.symm)] at hj
    by_cases hji : j = i
    · subst hji
      rw [List.getElem?_set_self (by rw [aClr_len]; omega)] at hj
      cases hj
      exact h.2.2 (j, .long x) List.mem_cons_self
    · rw [List.getElem?_set_ne (fun q => hji q.symm)] at hj
      obtain ⟨h1, h2⟩ := aClr_at hj
      refine h.2.2 (j, up G w) (List.mem_cons_of_mem _ (List.mem_filter.mpr ⟨aLs_mem h1, ?_⟩))
      simp only [Bool.and_eq_true, Bool.not_eq_true', beq_eq_false_iff_ne, ne_eq, Bool.and_eq_false_iff, up_cat]
      refine ⟨hji, hj1, ?_⟩
      by_cases q : j + 1 = i
      · exact Or.inr (fun z => h2 ⟨q, z⟩)
      · exact Or.inl q
theorem aLv.inc {G : aG} {ls' : Array Slot} {n : Nat} {l : aL} {i : Nat} {a b : Int32} (hn : l.length = n) (ha : l[i]? = some (some (.int a))) (h : lv_has ls' n ((i, .int b) :: (aLs G l).filter (fun q => !(q.1 == i) && !(q.1 + 1 == i && q.2.category == 2)))) (hw : ∀ j w, l[j]? = some (some w) → j + 1 = i → ¬ w.category = 2) : aLv G ls' n (l.set i (some (.int b))) := by
  refine ⟨h.1, (List.length_set).trans hn, h.2.1, fun j w hj => ?_⟩
  by_cases hji : j = i
  · subst hji
    rw [List.getElem?_set_self (List.getElem?_eq_some_iff.mp ha).1] at hj
    cases hj
    exact h.2.2 (j, .int b) List.mem_cons_self
  · rw [List.getElem?_set_ne (fun q => hji q.symm)] at hj
    refine h.2.2 (j, up G w) (List.mem_cons_of_mem _ (List.mem_filter.mpr ⟨aLs_mem hj, ?_⟩))
    simp only [Bool.and_eq_true, Bool.not_eq_true', beq_eq_false_iff_ne, ne_eq, Bool.and_eq_false_iff, up_cat]
    refine ⟨hji, ?_⟩
    by_cases q : j + 1 = i
    · exact Or.inr (hw j w hj q)
    · exact Or.inl q
/-- at an int's place no long stands before -/
theorem aLv.noLong {G : aG} {ls : Array Slot} {n : Nat} {l : aL} (h : aLv G ls n l) {i : Nat} {a : Int32} (ha : l[i]? = some (some (.int a))) : ∀ j w, l[j]? = some (some w) → j + 1 = i → ¬ w.category = 2 := by
  intro j w hj hji hc
  have h1 := h.at hj
  have h2 := h.2.2.1.1 j (up G w) h1 (by rw [up_cat]; exact hc)
  rw [hji, h.at ha] at h2
  cases h2
theorem aGet_at {cd : List aE} {k : Nat} {i : Instr} {x y : Nat} (h : aGet cd k = some (i, x, y)) : ∃ len w, cd[k]? = some (aPc cd k, i, len, x, y, w) := by
  unfold aGet at h
  unfold aPc
  split at h
  · rename_i pc i' len x' y' w hk
    cases h
    exact ⟨len, w, by rw [hk]⟩
  · cases h
