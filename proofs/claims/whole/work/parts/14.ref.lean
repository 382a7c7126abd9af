/-! ===== the reference's state: its whole numbers I (by slot), its rows A (by address 26 .. 49) ===== -/
abbrev rS : Type := (Nat → Int32) × (Nat → Nat → Int32)
def rN : Nat → Nat
  | 26 => 1872 | 27 => 36 | 28 => 10 | 29 => 10 | 30 => 20 | 31 => 10 | 32 => 10 | 33 => 3400 | 34 => 520
  | 36 => 440 | 43 => 440 | 45 => 20 | 46 => 52 | 47 => 2 | 48 => 16 | 49 => 4 | _ => 220
def rK : Nat → Nat
  | 27 => 1 | 44 => 1 | _ => 0
def rF (I : Nat → Int32) : List Value := [.int (I 0), .int (I 1), .ref 26, .ref 27, .ref 28, .ref 29, .ref 30, .ref 31, .ref 32, .ref 33, .ref 34, .ref 35, .ref 36, .ref 37, .ref 38, .ref 39, .ref 40, .ref 41, .ref 42, .ref 43, .ref 44, .ref 45, .int (I 22), .ref 46, .ref 47, .int (I 25), .int (I 26), .ref 48, .ref 49, .int (I 29), .int (I 30)]
def stpF : Nat → Int32 := fun i => ([20, 50, 90, 130, 170, 220, 270, 320, 370, 430, 500, 600, 750, 900, 1100, 1300, 1500, 1750, 2000, 2250, 2500, 3000, 3500, 4000] : List Int32).getD i 0
/-- the constants: the rows of steps, the JDK's digits, the Strings and their bytes -/
def cT (a : Nat) : va_E := match a with
  | 0 => .inl (0, 24, .inl stpF)
  | 1 => .inl (0, 24, .inl stpF)
  | 2 => .inl (2, 100, .inl (fun i => nI (48 + i % 10)))
  | 3 => .inl (2, 100, .inl (fun i => nI (48 + i / 10)))
  | 4 => .inr (9, [.ref 5, .int 0])
  | 5 => .inl (2, 4, .inl (fun i => ([112, 97, 115, 115] : List Int32).getD i 0))
  | 6 => .inr (9, [.ref 7, .int 0])
  | 7 => .inl (2, 5, .inl (fun i => ([67, 68, 72, 83, 78] : List Int32).getD i 0))
  | 8 => .inr (9, [.ref 9, .int 0])
  | 9 => .inl (2, 4, .inl (fun i => ([78, 69, 83, 87] : List Int32).getD i 0))
  | 10 => .inr (9, [.ref 11, .int 0])
  | 11 => .inl (2, 5, .inl (fun i => ([67, 68, 72, 83, 78] : List Int32).getD i 0))
  | 12 => .inr (9, [.ref 13, .int 0])
  | 13 => .inl (2, 4, .inl (fun i => ([78, 69, 83, 87] : List Int32).getD i 0))
  | _ => .inr (10, [])
def cK (h : aH) : Prop := ∀ a, a < 14 → h.1 a = cT a
theorem cK.up {h : aH} (hK : cK h) {a : Nat} {e : va_E} (h1 : 16 ≤ a) : cK (aUp h a e) := by
  intro b hb
  show va_up h.1 a e b = _
  rw [va_up_ne _ _ (by omega)]; exact hK b hb
theorem cK.new {h : aH} (hK : cK h) (h2 : 16 ≤ h.2) {e : va_E} : cK (aNew h e) := by
  intro b hb
  show va_up h.1 h.2 e b = _
  rw [va_up_ne _ _ (by omega)]; exact hK b hb
def RF (u : rS) (h : aH) : Prop := 50 ≤ h.2 ∧ h.1 25 = .inr (8, rF u.1) ∧ (∀ a, 26 ≤ a → a < 50 → h.1 a = .inl (rK a, rN a, .inl (u.2 a))) ∧ cK h
def rFr (h h' : aH) : Prop := h'.2 = h.2 ∧ ∀ a, (a < 25 ∨ 50 ≤ a) → h'.1 a = h.1 a
theorem rFr_rf (h : aH) : rFr h h := ⟨rfl, fun _ _ => rfl⟩
theorem rFr_tr (a b d : aH) (h1 : rFr a b) (h2 : rFr b d) : rFr a d := ⟨h2.1.trans h1.1, fun x hx => (h2.2 x hx).trans (h1.2 x hx)⟩
def rU (A : Nat → Nat → Int32) (a n : Nat) (v : Int32) : Nat → Nat → Int32 := fun b => if b = a then upd (A a) n v else A b
theorem RF.put {u : rS} {h : aH} (hR : RF u h) {a n : Nat} {v : Int32} (h1 : 26 ≤ a) (h2 : a < 50) : RF (u.1, rU u.2 a n v) (aUp h a (.inl (rK a, rN a, .inl (upd (u.2 a) n v)))) := by
  refine ⟨hR.1, ?_, fun b b1 b2 => ?_, hR.2.2.2.up (by omega)⟩
  · show va_up h.1 a _ 25 = _
    rw [va_up_ne _ _ (by omega)]; exact hR.2.1
  · show va_up h.1 a _ b = _
    by_cases hb : b = a
    · subst hb; rw [va_up_self]; unfold rU; simp
    · rw [va_up_ne _ _ hb, hR.2.2.1 b b1 b2]; unfold rU; simp [hb]
theorem rFr.up {h0 h : aH} (hF : rFr h0 h) {a : Nat} {e : va_E} (h1 : 25 ≤ a) (h2 : a < 50) : rFr h0 (aUp h a e) := by
  refine ⟨hF.1, fun b hb => ?_⟩
  show va_up h.1 a _ b = _
  rw [va_up_ne _ _ (by omega)]; exact hF.2 b hb
def rIs (f : Nat) : Prop := f = 0 ∨ f = 1 ∨ f = 22 ∨ f = 25 ∨ f = 26 ∨ f = 29 ∨ f = 30
theorem rF_set {f : Nat} (hf : rIs f) (I : Nat → Int32) (v : Int32) : (rF I).set f (.int v) = rF (upd I f v) := by
  rcases hf with rfl | rfl | rfl | rfl | rfl | rfl | rfl <;> rfl
theorem rF_fit {f : Nat} (hf : rIs f) (v : Int32) : aFit 8 f (.int v) := by
  rcases hf with rfl | rfl | rfl | rfl | rfl | rfl | rfl <;> exact ⟨_, _, rfl, rfl, rfl, rfl⟩
section REF
variable {cl : aC} {cd : List aE} {C S : Nat} {rt : Option FieldType} {Q : Option Value → rS → Prop} {k : Nat} {l : aL} {st : List Value} {u : rS} {c s : Nat}
theorem r_getf {j f : Nat} {v : Value} (hg : aGet cd k = some (.getfield j, 8, f)) (hv : (rF u.1)[f]? = some v) (hP : gB RF rFr cl cd C S rt Q (k + 1) l (v :: st) u c s) : gB RF rFr cl cd C S rt Q k l (.ref 25 :: st) u c s :=
  fun h0 h QQ hR hF hQ P hr => hr 26 k j 8 f 25 _ v l st h c s hg (by decide) (Nat.lt_of_lt_of_le (by decide) hR.1) hR.2.1 hv (hP h0 h QQ hR hF hQ P hr)
theorem r_puti {j f : Nat} {v : Int32} (hg : aGet cd k = some (.putfield j, 8, f)) (hf : rIs f) (hP : gB RF rFr cl cd C S rt Q (k + 1) l st (upd u.1 f v, u.2) c s) : gB RF rFr cl cd C S rt Q k l (.int v :: .ref 25 :: st) u c s := by
  intro h0 h QQ hR hF hQ P hr
  refine hr 27 k j 8 f 25 _ (.int v) l st h c s hg (by decide) (Nat.lt_of_lt_of_le (by decide) hR.1) hR.2.1 (by show f < 31; rcases hf with rfl | rfl | rfl | rfl | rfl | rfl | rfl <;> decide) (rF_fit hf v) (hP h0 (aUp h 25 (.inr (8, (rF u.1).set f (.int v)))) QQ ⟨hR.1, ?_, fun b b1 b2 => ?_, hR.2.2.2.up (by decide)⟩ (hF.up (by decide) (by decide)) hQ P hr)
  · show va_up h.1 25 (.inr (8, (rF u.1).set f (.int v))) 25 = .inr (8, rF (upd u.1 f v))
    rw [va_up_self]; exact congrArg (fun x => Sum.inr (8, x)) (rF_set hf u.1 v)
  · show va_up h.1 25 _ b = _
    rw [va_up_ne _ _ (by omega)]; exact hR.2.2.1 b b1 b2
theorem r_ia {x y a : Nat} {i : Int32} (n : Nat) (hg : aGet cd k = some (.iaload, x, y)) (ha : 26 ≤ a ∧ a < 50 ∧ rK a = 0) (hi : i = nI n) (hn : n < rN a) (hP : gB RF rFr cl cd C S rt Q (k + 1) l (.int (u.2 a n) :: st) u c s) : gB RF rFr cl cd C S rt Q k l (.int i :: .ref a :: st) u c s := by
  intro h0 h QQ hR hF hQ P hr
  have hb : rN a < 2 ^ 31 := by unfold rN; split <;> decide
  have he := hR.2.2.1 a ha.1 ha.2.1
  rw [ha.2.2] at he
  refine hr 29 k x y a (rN a) _ i l st h c s hg (Nat.lt_of_lt_of_le ha.2.1 hR.1) he (hi ▸ vp_in_nI hn hb) ?_
  rw [hi, nI_clamp (by omega)]
  exact hP h0 h QQ hR hF hQ P hr
theorem r_za {x y a : Nat} {i : Int32} (n : Nat) (hg : aGet cd k = some (.baload, x, y)) (ha : 26 ≤ a ∧ a < 50 ∧ rK a = 1) (hi : i = nI n) (hn : n < rN a) (hP : gB RF rFr cl cd C S rt Q (k + 1) l (.int (u.2 a n) :: st) u c s) : gB RF rFr cl cd C S rt Q k l (.int i :: .ref a :: st) u c s := by
  intro h0 h QQ hR hF hQ P hr
  have hb : rN a < 2 ^ 31 := by unfold rN; split <;> decide
  have he := hR.2.2.1 a ha.1 ha.2.1
  rw [ha.2.2] at he
  refine hr 30 k x y a 1 (rN a) _ i l st h c s hg (Nat.lt_of_lt_of_le ha.2.1 hR.1) (Or.inl rfl) he (hi ▸ vp_in_nI hn hb) ?_
  rw [hi, nI_clamp (by omega)]
  exact hP h0 h QQ hR hF hQ P hr
theorem r_ias {x y a : Nat} {i v : Int32} (n : Nat) (hg : aGet cd k = some (.iastore, x, y)) (ha : 26 ≤ a ∧ a < 50 ∧ rK a = 0) (hi : i = nI n) (hn : n < rN a) (hP : gB RF rFr cl cd C S rt Q (k + 1) l st (u.1, rU u.2 a n v) c s) : gB RF rFr cl cd C S rt Q k l (.int v :: .int i :: .ref a :: st) u c s := by
  intro h0 h QQ hR hF hQ P hr
  have hb : rN a < 2 ^ 31 := by unfold rN; split <;> decide
  have he := hR.2.2.1 a ha.1 ha.2.1
  have hp := hR.put (n := n) (v := v) ha.1 ha.2.1
  rw [ha.2.2] at he hp
  refine hr 33 k x y a (rN a) _ i v l st h c s hg (Nat.le_trans (by decide) ha.1) (Nat.lt_of_lt_of_le ha.2.1 hR.1) he (hi ▸ vp_in_nI hn hb) ?_
  rw [hi, nI_clamp (by omega)]
  exact hP h0 _ QQ hp (hF.up (by omega) ha.2.1) hQ P hr
theorem r_zas {x y a : Nat} {i v : Int32} (n : Nat) (hg : aGet cd k = some (.bastore, x, y)) (ha : 26 ≤ a ∧ a < 50 ∧ rK a = 1) (hi : i = nI n) (hn : n < rN a) (hP : gB RF rFr cl cd C S rt Q (k + 1) l st (u.1, rU u.2 a n (vp_nar .boolean v)) c s) : gB RF rFr cl cd C S rt Q k l (.int v :: .int i :: .ref a :: st) u c s := by
  intro h0 h QQ hR hF hQ P hr
  have hb : rN a < 2 ^ 31 := by unfold rN; split <;> decide
  have he := hR.2.2.1 a ha.1 ha.2.1
  have hp := hR.put (n := n) (v := vp_nar .boolean v) ha.1 ha.2.1
  rw [ha.2.2] at he hp
  refine hr 34 k x y a (rN a) _ i v l st h c s hg (Nat.le_trans (by decide) ha.1) (Nat.lt_of_lt_of_le ha.2.1 hR.1) he (hi ▸ vp_in_nI hn hb) ?_
  rw [hi, nI_clamp (by omega)]
  exact hP h0 _ QQ hp (hF.up (by omega) ha.2.1) hQ P hr
theorem r_this (h : aH) (hR : RF u h) : 16 ≤ 25 ∧ 25 < h.2 ∧ ∃ fs, h.1 25 = .inr (8, fs) := ⟨by decide, Nat.lt_of_lt_of_le (by decide) hR.1, _, hR.2.1⟩
end REF
/-- a method of the reference, at depth d -/
abbrev rR (pr : aC) (d j : Nat) (as : List Value) (u : rS) (Q : Option Value → rS → Prop) : Prop := gR RF rFr (aRun pg pr d) j as u 0 0 Q
abbrev rB (pr : aC) (d : Nat) (cd : List aE) (rt : Option FieldType) (Q : Option Value → rS → Prop) (k : Nat) (l : aL) (st : List Value) (u : rS) : Prop := gB RF rFr (aRun pg pr d) cd 0 0 rt Q k l st u 0 0
