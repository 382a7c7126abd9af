/-! ===== the class's state: by address, kinds, whole numbers of objects, rows of ints, longs, references ===== -/
abbrev cS : Type := (Nat → Nat) × (Nat → Nat → Int32) × (Nat → Nat → Int32) × (Nat → Nat → Int64) × (Nat → Nat → Option Nat) × Nat
abbrev cS.kd (u : cS) : Nat → Nat := u.1
abbrev cS.oI (u : cS) : Nat → Nat → Int32 := u.2.1
abbrev cS.rI (u : cS) : Nat → Nat → Int32 := u.2.2.1
abbrev cS.rL (u : cS) : Nat → Nat → Int64 := u.2.2.2.1
abbrev cS.rR (u : cS) : Nat → Nat → Option Nat := u.2.2.2.2.1
/-- where the next cell is made -/
abbrev cS.tp (u : cS) : Nat := u.2.2.2.2.2
/-- the cell of a kind: 1 Board, 2 its hands, 3 Table, 4 Auction, 5 calls, 6 Play, 7 52 ints, 8 leaders, 9 Result, 10 the club, 11 boards, 12 tables, 13 results, 14 Ending, 15 text, 16 its bytes -/
def cCell (u : cS) (a : Nat) (κ : Nat) : va_E := match κ with
  | 1 => .inr (2, [.int (u.oI a 0), .ref (a + 1), .int (u.oI a 2), .int (u.oI a 3)])
  | 2 => .inl (3, 4, .inr (.inl (u.rL a)))
  | 3 => .inr (6, [aRef (u.rR a 0), .int (u.oI a 1), .int (u.oI a 2), .ref (a + 1), .ref (a + 3)])
  | 4 => .inr (1, [.ref (a + 1), .int (u.oI a 1), .int (u.oI a 2)])
  | 5 => .inl (0, 319, .inl (u.rI a))
  | 6 => .inr (4, [.ref (a + 1), .ref (a + 2), .int (u.oI a 2), .long (u.rL a 0), .int (u.oI a 4), .int (u.oI a 5)])
  | 7 => .inl (0, 52, .inl (u.rI a))
  | 8 => .inl (0, 14, .inl (u.rI a))
  | 9 => .inr (5, [.int (u.oI a 0), .int (u.oI a 1), .int (u.oI a 2), .int (u.oI a 3), .int (u.oI a 4), .int (u.oI a 5), .int (u.oI a 6), .int (u.oI a 7), .int (u.oI a 8), .int (u.oI a 9), .int (u.oI a 10), .int (u.oI a 11)])
  | 10 => .inr (7, [.ref 17, .int (u.oI a 1), .ref 18, .ref 19, .int (u.oI a 4), .ref 20, .ref 21, .ref 23])
  | 11 => .inl (4, 36, .inr (.inr (.inr (.inr (u.rR a)))))
  | 12 => .inl (5, 10, .inr (.inr (.inr (.inr (u.rR a)))))
  | 13 => .inl (6, 210, .inr (.inr (.inr (.inr (u.rR a)))))
  | 14 => .inr (3, [.ref 22, .int (u.oI a 1), .int (u.oI a 2), .int (u.oI a 3), .int (u.oI a 4), .int (u.oI a 5), .int (u.oI a 6), .int (u.oI a 7)])
  | 15 => .inr (0, [.ref 24, .int (u.oI a 1), .int (u.oI a 2), .int (u.oI a 3)])
  | 16 => .inl (2, 16, .inl (u.rI a))
  | 21 => .inr (2, [.int (u.oI a 0), aRef (u.rR a 1), .int (u.oI a 2), .int (u.oI a 3)])
  | 23 => .inr (6, [aRef (u.rR a 0), .int (u.oI a 1), .int (u.oI a 2), aRef (u.rR a 3), aRef (u.rR a 4)])
  | 24 => .inr (1, [aRef (u.rR a 1), .int (u.oI a 1), .int (u.oI a 2)])
  | 26 => .inr (4, [aRef (u.rR a 1), aRef (u.rR a 2), .int (u.oI a 2), .long (u.rL a 0), .int (u.oI a 4), .int (u.oI a 5)])
  | 30 => .inr (7, [aRef (u.rR a 0), .int (u.oI a 1), aRef (u.rR a 2), aRef (u.rR a 3), .int (u.oI a 4), aRef (u.rR a 5), aRef (u.rR a 6), aRef (u.rR a 7)])
  | 34 => .inr (3, [aRef (u.rR a 0), .int (u.oI a 1), .int (u.oI a 2), .int (u.oI a 3), .int (u.oI a 4), .int (u.oI a 5), .int (u.oI a 6), .int (u.oI a 7)])
  | 35 => .inr (0, [aRef (u.rR a 0), .int (u.oI a 1), .int (u.oI a 2), .int (u.oI a 3)])
  | _ => .inr (10, [])
def CF (u : cS) (h : aH) : Prop := (16 ≤ h.2 ∧ h.2 = u.tp) ∧ cK h ∧ ∀ a, u.kd a ≠ 0 → 16 ≤ a ∧ (a < 25 ∨ 50 ≤ a) ∧ a < h.2 ∧ h.1 a = cCell u a (u.kd a)
abbrev eF (h h' : aH) : Prop := h' = h
theorem eF_rf (h : aH) : eF h h := rfl
theorem eF_tr (a b d : aH) (h1 : eF a b) (h2 : eF b d) : eF a d := h2.trans h1
def cFr (h h' : aH) : Prop := h.2 ≤ h'.2 ∧ ∀ a, (a < 16 ∨ (25 ≤ a ∧ a < 50)) → h'.1 a = h.1 a
theorem cFr_rf (h : aH) : cFr h h := ⟨Nat.le_refl _, fun _ _ => rfl⟩
theorem cFr_tr (a b d : aH) (h1 : cFr a b) (h2 : cFr b d) : cFr a d := ⟨Nat.le_trans h1.1 h2.1, fun x hx => (h2.2 x hx).trans (h1.2 x hx)⟩
/-- a method of the class that writes nothing; its body; one that writes -/
abbrev cR (pr : aC) (d j : Nat) (as : List Value) (u : cS) (Q : Option Value → cS → Prop) : Prop := gR CF eF (aRun pg pr d) j as u 0 0 Q
abbrev cB (pr : aC) (d : Nat) (cd : List aE) (rt : Option FieldType) (Q : Option Value → cS → Prop) (k : Nat) (l : aL) (st : List Value) (u : cS) : Prop := gB CF eF (aRun pg pr d) cd 0 0 rt Q k l st u 0 0
abbrev wR (pr : aC) (d j : Nat) (as : List Value) (u : cS) (Q : Option Value → cS → Prop) : Prop := gR CF cFr (aRun pg pr d) j as u 0 0 Q
abbrev wB (pr : aC) (d : Nat) (cd : List aE) (rt : Option FieldType) (Q : Option Value → cS → Prop) (k : Nat) (l : aL) (st : List Value) (u : cS) : Prop := gB CF cFr (aRun pg pr d) cd 0 0 rt Q k l st u 0 0
def u2 {α : Type} (f : Nat → Nat → α) (a k : Nat) (v : α) : Nat → Nat → α := fun b => if b = a then (fun j => if j = k then v else f a j) else f b
theorem u2_s {α : Type} (f : Nat → Nat → α) (a k : Nat) (v : α) : u2 f a k v a k = v := by simp [u2]
theorem u2_k {α : Type} (f : Nat → Nat → α) {a k j : Nat} (v : α) (h : j ≠ k) : u2 f a k v a j = f a j := by simp [u2, h]
theorem u2_a {α : Type} (f : Nat → Nat → α) {a b k : Nat} (v : α) (h : b ≠ a) : u2 f a k v b = f b := by simp [u2, h]
theorem u2_row (f : Nat → Nat → Int32) (a k : Nat) (v : Int32) : u2 f a k v a = upd (f a) k v := by funext j; simp [u2, upd]
theorem u2_rowL (f : Nat → Nat → Int64) (a k : Nat) (v : Int64) : u2 f a k v a = vp_updL (f a) k v := by funext j; simp [u2, vp_updL]
theorem u2_rowR (f : Nat → Nat → Option Nat) (a k : Nat) (v : Option Nat) : u2 f a k v a = va_up (f a) k v := by funext j; simp [u2, va_up]
def upO (u : cS) (a k : Nat) (v : Int32) : cS := (u.kd, u2 u.oI a k v, u.rI, u.rL, u.rR, u.tp)
def upI (u : cS) (a k : Nat) (v : Int32) : cS := (u.kd, u.oI, u2 u.rI a k v, u.rL, u.rR, u.tp)
def upL (u : cS) (a k : Nat) (v : Int64) : cS := (u.kd, u.oI, u.rI, u2 u.rL a k v, u.rR, u.tp)
def upR (u : cS) (a k : Nat) (v : Option Nat) : cS := (u.kd, u.oI, u.rI, u.rL, u2 u.rR a k v, u.tp)
theorem cCell_O {u : cS} {a b k : Nat} {v : Int32} (h : b ≠ a) (κ : Nat) : cCell (upO u a k v) b κ = cCell u b κ := by
  unfold cCell upO; simp only [cS.oI, cS.rI, cS.rL, cS.rR, u2_a u.2.1 v h]
theorem cCell_I {u : cS} {a b k : Nat} {v : Int32} (h : b ≠ a) (κ : Nat) : cCell (upI u a k v) b κ = cCell u b κ := by
  unfold cCell upI; simp only [cS.oI, cS.rI, cS.rL, cS.rR, u2_a u.2.2.1 v h]
theorem cCell_L {u : cS} {a b k : Nat} {v : Int64} (h : b ≠ a) (κ : Nat) : cCell (upL u a k v) b κ = cCell u b κ := by
  unfold cCell upL; simp only [cS.oI, cS.rI, cS.rL, cS.rR, u2_a u.2.2.2.1 v h]
theorem cCell_R {u : cS} {a b k : Nat} {v : Option Nat} (h : b ≠ a) (κ : Nat) : cCell (upR u a k v) b κ = cCell u b κ := by
  unfold cCell upR; simp only [cS.oI, cS.rI, cS.rL, cS.rR, u2_a u.2.2.2.2.1 v h]
/-- one cell is written -/
theorem CF.put {u u' : cS} {h : aH} (hR : CF u h) {a : Nat} {e : va_E} (hk : u.kd a ≠ 0) (hkd : u'.kd = u.kd) (htp : u'.tp = u.tp) (ho : ∀ b, b ≠ a → ∀ κ, cCell u' b κ = cCell u b κ) (he : cCell u' a (u.kd a) = e) : CF u' (aUp h a e) := by
  obtain ⟨h1, h2, h3⟩ := hR
  have ha := h3 a hk
  refine ⟨⟨h1.1, h1.2.trans htp.symm⟩, h2.up ha.1, fun b hb => ?_⟩
  rw [hkd] at hb ⊢
  obtain ⟨x1, x2, x3, x4⟩ := h3 b hb
  refine ⟨x1, x2, x3, ?_⟩
  show va_up h.1 a e b = _
  by_cases hba : b = a
  · subst hba; rw [va_up_self, he]
  · rw [va_up_ne _ _ hba, x4, ho b hba]
theorem cFr.up {h0 h : aH} (hF : cFr h0 h) {a : Nat} {e : va_E} (h1 : 16 ≤ a) (h2 : a < 25 ∨ 50 ≤ a) : cFr h0 (aUp h a e) := by
  refine ⟨hF.1, fun b hb => ?_⟩
  show va_up h.1 a _ b = _
  rw [va_up_ne _ _ (by omega)]; exact hF.2 b hb
section CLS
variable {Fr : aH → aH → Prop} {cl : aC} {cd : List aE} {C S : Nat} {rt : Option FieldType} {Q : Option Value → cS → Prop} {k : Nat} {l : aL} {st : List Value} {u : cS} {c s : Nat}
theorem c_ob {a κ ci : Nat} {fs : List Value} (hk : u.kd a = κ) (h0 : κ ≠ 0) (hc : cCell u a κ = .inr (ci, fs)) (h : aH) (hR : CF u h) : 16 ≤ a ∧ a < h.2 ∧ ∃ fs, h.1 a = .inr (ci, fs) := by
  obtain ⟨x1, x2, x3, x4⟩ := hR.2.2 a (by rw [hk]; exact h0)
  exact ⟨x1, x3, fs, by rw [x4, hk, hc]⟩
theorem c_getf {j ci f a κ : Nat} {fs : List Value} {v : Value} (hg : aGet cd k = some (.getfield j, ci, f)) (hk : u.kd a = κ) (h0 : κ ≠ 0) (hc : cCell u a κ = .inr (ci, fs)) (hv : fs[f]? = some v) (hP : gB CF Fr cl cd C S rt Q (k + 1) l (v :: st) u c s) : gB CF Fr cl cd C S rt Q k l (.ref a :: st) u c s := by
  intro h0' h QQ hR hF hQ P hr
  obtain ⟨x1, x2, x3, x4⟩ := hR.2.2 a (by rw [hk]; exact h0)
  rw [hk, hc] at x4
  exact hr 26 k j ci f a fs v l st h c s hg x1 x3 x4 hv (hP h0' h QQ hR hF hQ P hr)
theorem c_ia {x y a κ N : Nat} {f : Nat → Int32} {i : Int32} (n : Nat) (hg : aGet cd k = some (.iaload, x, y)) (hk : u.kd a = κ) (h0 : κ ≠ 0) (hc : cCell u a κ = .inl (0, N, .inl f)) (hi : i = nI n) (hn : n < N) (hN : N < 1000) (hP : gB CF Fr cl cd C S rt Q (k + 1) l (.int (f n) :: st) u c s) : gB CF Fr cl cd C S rt Q k l (.int i :: .ref a :: st) u c s := by
  intro h0' h QQ hR hF hQ P hr
  obtain ⟨x1, x2, x3, x4⟩ := hR.2.2 a (by rw [hk]; exact h0)
  rw [hk, hc] at x4
  refine hr 29 k x y a N f i l st h c s hg x3 x4 (hi ▸ vp_in_nI hn (by omega)) ?_
  rw [hi, nI_clamp (by omega)]
  exact hP h0' h QQ hR hF hQ P hr
theorem c_ba {x y a κ N : Nat} {f : Nat → Int32} {i : Int32} (n : Nat) (hg : aGet cd k = some (.baload, x, y)) (hk : u.kd a = κ) (h0 : κ ≠ 0) (hc : cCell u a κ = .inl (2, N, .inl f)) (hi : i = nI n) (hn : n < N) (hN : N < 1000) (hP : gB CF Fr cl cd C S rt Q (k + 1) l (.int (f n) :: st) u c s) : gB CF Fr cl cd C S rt Q k l (.int i :: .ref a :: st) u c s := by
  intro h0' h QQ hR hF hQ P hr
  obtain ⟨x1, x2, x3, x4⟩ := hR.2.2 a (by rw [hk]; exact h0)
  rw [hk, hc] at x4
  refine hr 30 k x y a 2 N f i l st h c s hg x3 (Or.inr rfl) x4 (hi ▸ vp_in_nI hn (by omega)) ?_
  rw [hi, nI_clamp (by omega)]
  exact hP h0' h QQ hR hF hQ P hr
theorem c_la {x y a κ N : Nat} {f : Nat → Int64} {i : Int32} (n : Nat) (hg : aGet cd k = some (.laload, x, y)) (hk : u.kd a = κ) (h0 : κ ≠ 0) (hc : cCell u a κ = .inl (3, N, .inr (.inl f))) (hi : i = nI n) (hn : n < N) (hN : N < 1000) (hP : gB CF Fr cl cd C S rt Q (k + 1) l (.long (f n) :: st) u c s) : gB CF Fr cl cd C S rt Q k l (.int i :: .ref a :: st) u c s := by
  intro h0' h QQ hR hF hQ P hr
  obtain ⟨x1, x2, x3, x4⟩ := hR.2.2 a (by rw [hk]; exact h0)
  rw [hk, hc] at x4
  refine hr 31 k x y a N f i l st h c s hg x1 x3 x4 (hi ▸ vp_in_nI hn (by omega)) ?_
  rw [hi, nI_clamp (by omega)]
  exact hP h0' h QQ hR hF hQ P hr
theorem c_aa {x y a κ N t : Nat} {f : Nat → Option Nat} {i : Int32} (n : Nat) (hg : aGet cd k = some (.aaload, x, y)) (hk : u.kd a = κ) (h0 : κ ≠ 0) (hc : cCell u a κ = .inl (t, N, .inr (.inr (.inr (.inr f))))) (ht : 4 ≤ t ∧ t < 7) (hi : i = nI n) (hn : n < N) (hN : N < 1000) (hP : gB CF Fr cl cd C S rt Q (k + 1) l (aRef (f n) :: st) u c s) : gB CF Fr cl cd C S rt Q k l (.int i :: .ref a :: st) u c s := by
  intro h0' h QQ hR hF hQ P hr
  obtain ⟨x1, x2, x3, x4⟩ := hR.2.2 a (by rw [hk]; exact h0)
  rw [hk, hc] at x4
  refine hr 32 k x y a t N f i l st h c s hg x1 x3 ht.1 ht.2 x4 (hi ▸ vp_in_nI hn (by omega)) ?_
  rw [hi, nI_clamp (by omega)]
  exact hP h0' h QQ hR hF hQ P hr
theorem c_len {x y a κ t N : Nat} {w : (Nat → Int32) ⊕ (Nat → Int64) ⊕ _} (hg : aGet cd k = some (.arraylength, x, y)) (hk : u.kd a = κ) (h0 : κ ≠ 0) (hc : cCell u a κ = .inl (t, N, w)) (ht : t < 7) (hP : gB CF Fr cl cd C S rt Q (k + 1) l (.int (nI N) :: st) u c s) : gB CF Fr cl cd C S rt Q k l (.ref a :: st) u c s := by
  intro h0' h QQ hR hF hQ P hr
  obtain ⟨x1, x2, x3, x4⟩ := hR.2.2 a (by rw [hk]; exact h0)
  rw [hk, hc] at x4
  exact hr 28 k x y a t (N, w) l st h c s hg x3 x4 ht (hP h0' h QQ hR hF hQ P hr)
/-- a row of the constants -/
theorem c_iaC {x y a N : Nat} {f : Nat → Int32} {i : Int32} (n : Nat) (hg : aGet cd k = some (.iaload, x, y)) (ha : a < 14) (hc : cT a = .inl (0, N, .inl f)) (hi : i = nI n) (hn : n < N) (hN : N < 1000) (hP : gB CF Fr cl cd C S rt Q (k + 1) l (.int (f n) :: st) u c s) : gB CF Fr cl cd C S rt Q k l (.int i :: .ref a :: st) u c s := by
  intro h0' h QQ hR hF hQ P hr
  refine hr 29 k x y a N f i l st h c s hg (by have := hR.1.1; omega) ((hR.2.1 a ha).trans hc) (hi ▸ vp_in_nI hn (by omega)) ?_
  rw [hi, nI_clamp (by omega)]
  exact hP h0' h QQ hR hF hQ P hr
theorem c_baC {x y a N : Nat} {f : Nat → Int32} {i : Int32} (n : Nat) (hg : aGet cd k = some (.baload, x, y)) (ha : a < 14) (hc : cT a = .inl (2, N, .inl f)) (hi : i = nI n) (hn : n < N) (hN : N < 1000) (hP : gB CF Fr cl cd C S rt Q (k + 1) l (.int (f n) :: st) u c s) : gB CF Fr cl cd C S rt Q k l (.int i :: .ref a :: st) u c s := by
  intro h0' h QQ hR hF hQ P hr
  refine hr 30 k x y a 2 N f i l st h c s hg (by have := hR.1.1; omega) (Or.inr rfl) ((hR.2.1 a ha).trans hc) (hi ▸ vp_in_nI hn (by omega)) ?_
  rw [hi, nI_clamp (by omega)]
  exact hP h0' h QQ hR hF hQ P hr
theorem c_lenC {x y a t N : Nat} {w : (Nat → Int32) ⊕ (Nat → Int64) ⊕ _} (hg : aGet cd k = some (.arraylength, x, y)) (ha : a < 14) (hc : cT a = .inl (t, N, w)) (ht : t < 7) (hP : gB CF Fr cl cd C S rt Q (k + 1) l (.int (nI N) :: st) u c s) : gB CF Fr cl cd C S rt Q k l (.ref a :: st) u c s := by
  intro h0' h QQ hR hF hQ P hr
  exact hr 28 k x y a t (N, w) l st h c s hg (by have := hR.1.1; omega) ((hR.2.1 a ha).trans hc) ht (hP h0' h QQ hR hF hQ P hr)
theorem c_puti {j ci f a κ : Nat} {fs : List Value} {v : Int32} (hg : aGet cd k = some (.putfield j, ci, f)) (hk : u.kd a = κ) (h0 : κ ≠ 0) (hc : cCell u a κ = .inr (ci, fs)) (hl : f < fs.length) (hfit : aFit ci f (.int v)) (hs : cCell (upO u a f v) a κ = .inr (ci, fs.set f (.int v))) (hP : gB CF cFr cl cd C S rt Q (k + 1) l st (upO u a f v) c s) : gB CF cFr cl cd C S rt Q k l (.int v :: .ref a :: st) u c s := by
  intro h0' h QQ hR hF hQ P hr
  have hk0 : u.kd a ≠ 0 := by rw [hk]; exact h0
  obtain ⟨x1, x2, x3, x4⟩ := hR.2.2 a hk0
  rw [hk, hc] at x4
  exact hr 27 k j ci f a fs (.int v) l st h c s hg x1 x3 x4 hl hfit (hP h0' _ QQ (hR.put hk0 rfl rfl (fun b hb κ => cCell_O hb κ) (by rw [hk]; exact hs)) (hF.up x1 x2) hQ P hr)
theorem c_putl {j ci f a κ : Nat} {fs : List Value} {v : Int64} (hg : aGet cd k = some (.putfield j, ci, f)) (hk : u.kd a = κ) (h0 : κ ≠ 0) (hc : cCell u a κ = .inr (ci, fs)) (hl : f < fs.length) (hfit : aFit ci f (.long v)) (hs : cCell (upL u a 0 v) a κ = .inr (ci, fs.set f (.long v))) (hP : gB CF cFr cl cd C S rt Q (k + 1) l st (upL u a 0 v) c s) : gB CF cFr cl cd C S rt Q k l (.long v :: .ref a :: st) u c s := by
  intro h0' h QQ hR hF hQ P hr
  have hk0 : u.kd a ≠ 0 := by rw [hk]; exact h0
  obtain ⟨x1, x2, x3, x4⟩ := hR.2.2 a hk0
  rw [hk, hc] at x4
  exact hr 27 k j ci f a fs (.long v) l st h c s hg x1 x3 x4 hl hfit (hP h0' _ QQ (hR.put hk0 rfl rfl (fun b hb κ => cCell_L hb κ) (by rw [hk]; exact hs)) (hF.up x1 x2) hQ P hr)
theorem c_putr {j ci f a κ : Nat} {fs : List Value} {v : Option Nat} (hg : aGet cd k = some (.putfield j, ci, f)) (hk : u.kd a = κ) (h0 : κ ≠ 0) (hc : cCell u a κ = .inr (ci, fs)) (hl : f < fs.length) (hfit : aFit ci f (aRef v)) (q : Nat) (hs : cCell (upR u a q v) a κ = .inr (ci, fs.set f (aRef v))) {w : Value} (hw : w = aRef v) (hP : gB CF cFr cl cd C S rt Q (k + 1) l st (upR u a q v) c s) : gB CF cFr cl cd C S rt Q k l (w :: .ref a :: st) u c s := by
  intro h0' h QQ hR hF hQ P hr
  subst hw
  have hk0 : u.kd a ≠ 0 := by rw [hk]; exact h0
  obtain ⟨x1, x2, x3, x4⟩ := hR.2.2 a hk0
  rw [hk, hc] at x4
  exact hr 27 k j ci f a fs (aRef v) l st h c s hg x1 x3 x4 hl hfit (hP h0' _ QQ (hR.put hk0 rfl rfl (fun b hb κ => cCell_R hb κ) (by rw [hk]; exact hs)) (hF.up x1 x2) hQ P hr)
theorem c_ias {x y a κ N : Nat} {i v : Int32} (n : Nat) (hg : aGet cd k = some (.iastore, x, y)) (hk : u.kd a = κ) (h0 : κ ≠ 0) (hc : cCell u a κ = .inl (0, N, .inl (u.rI a))) (hi : i = nI n) (hn : n < N) (hN : N < 1000) (hs : cCell (upI u a n v) a κ = .inl (0, N, .inl ((upI u a n v).rI a))) (hP : gB CF cFr cl cd C S rt Q (k + 1) l st (upI u a n v) c s) : gB CF cFr cl cd C S rt Q k l (.int v :: .int i :: .ref a :: st) u c s := by
  intro h0' h QQ hR hF hQ P hr
  have hk0 : u.kd a ≠ 0 := by rw [hk]; exact h0
  obtain ⟨x1, x2, x3, x4⟩ := hR.2.2 a hk0
  rw [hk, hc] at x4
  refine hr 33 k x y a N _ i v l st h c s hg x1 x3 x4 (hi ▸ vp_in_nI hn (by omega)) ?_
  rw [hi, nI_clamp (by omega)]
  exact hP h0' _ QQ (hR.put hk0 rfl rfl (fun b hb κ => cCell_I hb κ) (by rw [hk, hs]; show Sum.inl (0, N, Sum.inl (u2 u.rI a n v a)) = _; rw [u2_row])) (hF.up x1 x2) hQ P hr
theorem c_las {x y a κ N : Nat} {i : Int32} {v : Int64} (n : Nat) (hg : aGet cd k = some (.lastore, x, y)) (hk : u.kd a = κ) (h0 : κ ≠ 0) (hc : cCell u a κ = .inl (3, N, .inr (.inl (u.rL a)))) (hi : i = nI n) (hn : n < N) (hN : N < 1000) (hs : cCell (upL u a n v) a κ = .inl (3, N, .inr (.inl ((upL u a n v).rL a)))) (hP : gB CF cFr cl cd C S rt Q (k + 1) l st (upL u a n v) c s) : gB CF cFr cl cd C S rt Q k l (.long v :: .int i :: .ref a :: st) u c s := by
  intro h0' h QQ hR hF hQ P hr
  have hk0 : u.kd a ≠ 0 := by rw [hk]; exact h0
  obtain ⟨x1, x2, x3, x4⟩ := hR.2.2 a hk0
  rw [hk, hc] at x4
  refine hr 36 k x y a N _ i v l st h c s hg x1 x3 x4 (hi ▸ vp_in_nI hn (by omega)) ?_
  rw [hi, nI_clamp (by omega)]
  exact hP h0' _ QQ (hR.put hk0 rfl rfl (fun b hb κ => cCell_L hb κ) (by rw [hk, hs]; show Sum.inl (3, N, Sum.inr (Sum.inl (u2 u.rL a n v a))) = _; rw [u2_rowL])) (hF.up x1 x2) hQ P hr
theorem c_bas {x y a κ N : Nat} {i v : Int32} (n : Nat) (hg : aGet cd k = some (.bastore, x, y)) (hk : u.kd a = κ) (h0 : κ ≠ 0) (hc : cCell u a κ = .inl (2, N, .inl (u.rI a))) (hi : i = nI n) (hn : n < N) (hN : N < 1000) (hs : cCell (upI u a n (vp_nar .byte v)) a κ = .inl (2, N, .inl ((upI u a n (vp_nar .byte v)).rI a))) (hP : gB CF cFr cl cd C S rt Q (k + 1) l st (upI u a n (vp_nar .byte v)) c s) : gB CF cFr cl cd C S rt Q k l (.int v :: .int i :: .ref a :: st) u c s := by
  intro h0' h QQ hR hF hQ P hr
  have hk0 : u.kd a ≠ 0 := by rw [hk]; exact h0
  obtain ⟨x1, x2, x3, x4⟩ := hR.2.2 a hk0
  rw [hk, hc] at x4
  refine hr 35 k x y a N _ i v l st h c s hg x1 x3 x4 (hi ▸ vp_in_nI hn (by omega)) ?_
  rw [hi, nI_clamp (by omega)]
  exact hP h0' _ QQ (hR.put hk0 rfl rfl (fun b hb κ => cCell_I hb κ) (by rw [hk, hs]; show Sum.inl (2, N, Sum.inl (u2 u.rI a n (vp_nar .byte v) a)) = _; rw [u2_row])) (hF.up x1 x2) hQ P hr
theorem c_aas {x y a b κ κ' N t : Nat} {i : Int32} {ci : Nat} {fs : List Value} {q : vw_C} (n : Nat) (hg : aGet cd k = some (.aastore, x, y)) (hk : u.kd a = κ) (h0 : κ ≠ 0) (hc : cCell u a κ = .inl (t, N, .inr (.inr (.inr (.inr (u.rR a)))))) (ht : 4 ≤ t ∧ t < 7) (hi : i = nI n) (hn : n < N) (hN : N < 1000) (hk' : u.kd b = κ') (h0' : κ' ≠ 0) (hc' : cCell u b κ' = .inr (ci, fs)) (hq : aCls[ci]? = some q) (hty : aTy t = .object q.1) (hs : cCell (upR u a n (some b)) a κ = .inl (t, N, .inr (.inr (.inr (.inr ((upR u a n (some b)).rR a)))))) (hP : gB CF cFr cl cd C S rt Q (k + 1) l st (upR u a n (some b)) c s) : gB CF cFr cl cd C S rt Q k l (.ref b :: .int i :: .ref a :: st) u c s := by
  intro h0'' h QQ hR hF hQ P hr
  have hk0 : u.kd a ≠ 0 := by rw [hk]; exact h0
  obtain ⟨x1, x2, x3, x4⟩ := hR.2.2 a hk0
  obtain ⟨y1, y2, y3, y4⟩ := hR.2.2 b (by rw [hk']; exact h0')
  rw [hk, hc] at x4
  rw [hk', hc'] at y4
  refine hr 37 k x y a t N _ i b ci fs q l st h c s hg x1 x3 ht.1 ht.2 x4 (hi ▸ vp_in_nI hn (by omega)) y1 y3 y4 hq hty ?_
  rw [hi, nI_clamp (by omega)]
  exact hP h0'' _ QQ (hR.put hk0 rfl rfl (fun b hb κ => cCell_R hb κ) (by rw [hk, hs]; show Sum.inl (t, N, Sum.inr (Sum.inr (Sum.inr (Sum.inr (u2 u.rR a n (some b) a))))) = _; rw [u2_rowR])) (hF.up x1 x2) hQ P hr
/-- a new object of a kind -/
def mkO (u : cS) (κ : Nat) : cS := ((fun b => if b = u.tp then κ else u.kd b), (fun b => if b = u.tp then fun _ => 0 else u.oI b), (fun b => if b = u.tp then fun _ => 0 else u.rI b), (fun b => if b = u.tp then fun _ => 0 else u.rL b), (fun b => if b = u.tp then fun _ => none else u.rR b), u.tp + 1)
theorem cCell_mk {u : cS} {b κ : Nat} (h : b ≠ u.tp) (κ' : Nat) : cCell (mkO u κ) b κ' = cCell u b κ' := by
  have e1 : (mkO u κ).oI b = u.oI b := if_neg h
  have e2 : (mkO u κ).rI b = u.rI b := if_neg h
  have e3 : (mkO u κ).rL b = u.rL b := if_neg h
  have e4 : (mkO u κ).rR b = u.rR b := if_neg h
  unfold cCell; rw [e1, e2, e3, e4]
theorem CF.new {u : cS} {h : aH} (hR : CF u h) {κ : Nat} {e : va_E} (ha : u.tp < 25 ∨ 50 ≤ u.tp) (he : cCell (mkO u κ) u.tp κ = e) : CF (mkO u κ) (aNew h e) := by
  obtain ⟨h1, h2, h3⟩ := hR
  refine ⟨⟨Nat.le_succ_of_le h1.1, ?_⟩, h2.new h1.1, fun b hb => ?_⟩
  · show h.2 + 1 = u.tp + 1; rw [h1.2]
  · by_cases hbt : b = u.tp
    · subst hbt
      refine ⟨by have := h1.1; have := h1.2; omega, ha, by show u.tp < h.2 + 1; have := h1.2; omega, ?_⟩
      show va_up h.1 h.2 e u.tp = _
      rw [← h1.2, va_up_self, h1.2, ← he]
      show _ = cCell (mkO u κ) u.tp (if u.tp = u.tp then κ else u.kd u.tp)
      rw [if_pos rfl]
    · have hk : (mkO u κ).kd b = u.kd b := if_neg hbt
      rw [hk] at hb ⊢
      obtain ⟨x1, x2, x3, x4⟩ := h3 b hb
      refine ⟨x1, x2, by show b < h.2 + 1; omega, ?_⟩
      show va_up h.1 h.2 e b = _
      rw [va_up_ne _ _ (by have := h1.2; omega), x4, cCell_mk hbt]
theorem cFr.new {h0 h : aH} (hF : cFr h0 h) {e : va_E} (h1 : 16 ≤ h.2) (h2 : h.2 < 25 ∨ 50 ≤ h.2) : cFr h0 (aNew h e) := by
  refine ⟨Nat.le_succ_of_le hF.1, fun b hb => ?_⟩
  show va_up h.1 h.2 _ b = _
  rw [va_up_ne _ _ (by omega)]; exact hF.2 b hb
theorem c_new {j ci y : Nat} (κ : Nat) (hg : aGet cd k = some (.new j, ci, y)) (ha : u.tp < 25 ∨ 50 ≤ u.tp) (hc : c + 1 ≤ C) (hs : s + aN ci ≤ S) (he : cCell (mkO u κ) u.tp κ = .inr (ci, aDef ci)) (hP : gB CF cFr cl cd C S rt Q (k + 1) l (.ref u.tp :: st) (mkO u κ) (c + 1) (s + aN ci)) : gB CF cFr cl cd C S rt Q k l st u c s := by
  intro h0' h QQ hR hF hQ P hr
  refine hr 40 k j ci y l st h c s hg hc hs ?_
  rw [hR.1.2]
  exact hP h0' _ QQ (hR.new ha he) (hF.new hR.1.1 (by rw [hR.1.2]; exact ha)) hQ P hr
theorem c_newa {at' : _} {t y : Nat} {n : Int32} (κ N : Nat) (hg : aGet cd k = some (.newarray at', t, y)) (ht : t < 4) (hn : n = nI N) (hN : N < 1000) (ha : u.tp < 25 ∨ 50 ≤ u.tp) (hc : c + 1 ≤ C) (hs : s + N ≤ S) (he : cCell (mkO u κ) u.tp κ = aArr0 t N) (hP : gB CF cFr cl cd C S rt Q (k + 1) l (.ref u.tp :: st) (mkO u κ) (c + 1) (s + N)) : gB CF cFr cl cd C S rt Q k l (.int n :: st) u c s := by
  intro h0' h QQ hR hF hQ P hr
  have en : n.toNatClampNeg = N := by rw [hn]; exact nI_clamp (by omega)
  refine hr 38 k at' t y n l st h c s hg ht (by rw [hn]; exact nI_pos (by omega)) (by omega) hc (by omega) ?_
  rw [hR.1.2, en]
  exact hP h0' _ QQ (hR.new ha he) (hF.new hR.1.1 (by rw [hR.1.2]; exact ha)) hQ P hr
theorem c_anew {j t y : Nat} {n : Int32} (κ N : Nat) (hg : aGet cd k = some (.anewarray j, t, y)) (ht : 4 ≤ t ∧ t < 7) (hn : n = nI N) (hN : N < 1000) (ha : u.tp < 25 ∨ 50 ≤ u.tp) (hc : c + 1 ≤ C) (hs : s + N ≤ S) (he : cCell (mkO u κ) u.tp κ = aArr0 t N) (hP : gB CF cFr cl cd C S rt Q (k + 1) l (.ref u.tp :: st) (mkO u κ) (c + 1) (s + N)) : gB CF cFr cl cd C S rt Q k l (.int n :: st) u c s := by
  intro h0' h QQ hR hF hQ P hr
  have en : n.toNatClampNeg = N := by rw [hn]; exact nI_clamp (by omega)
  refine hr 39 k j t y n l st h c s hg ht.1 ht.2 (by rw [hn]; exact nI_pos (by omega)) (by omega) hc (by omega) ?_
  rw [hR.1.2, en]
  exact hP h0' _ QQ (hR.new ha he) (hF.new hR.1.1 (by rw [hR.1.2]; exact ha)) hQ P hr
/-- another kind for the same cell -/
def reK (u : cS) (a κ : Nat) : cS := ((fun b => if b = a then κ else u.kd b), u.oI, u.rI, u.rL, u.rR, u.tp)
theorem CF.reK {u : cS} {h : aH} (hR : CF u h) {a κ : Nat} (hk : u.kd a ≠ 0) (he : cCell u a κ = cCell u a (u.kd a)) : CF (reK u a κ) h := by
  obtain ⟨h1, h2, h3⟩ := hR
  refine ⟨h1, h2, fun b hb => ?_⟩
  by_cases hba : b = a
  · subst hba
    obtain ⟨x1, x2, x3, x4⟩ := h3 b hk
    refine ⟨x1, x2, x3, ?_⟩
    rw [x4, ← he]
    show _ = cCell u b (if b = b then κ else u.kd b)
    rw [if_pos rfl]
  · have e : (if b = a then κ else u.kd b) = u.kd b := if_neg hba
    have hb : (if b = a then κ else u.kd b) ≠ 0 := hb
    rw [e] at hb
    have h4 := h3 b hb
    refine ⟨h4.1, h4.2.1, h4.2.2.1, ?_⟩
    show _ = cCell u b (if b = a then κ else u.kd b)
    rw [e]; exact h4.2.2.2
end CLS
/-- a method that writes nothing, used where something is written, or where more is known -/
theorem c_lift {σ : Type} {Rp' : σ → aH → Prop} {Fr' : aH → aH → Prop} (hfr : ∀ h, Fr' h h) {w : σ} {u : cS} (hv : ∀ h, Rp' w h → CF u h) {cl : aC} {j : Nat} {as : List Value} {Q : Option Value → σ → Prop} (h : gR CF eF cl j as u 0 0 (fun r _ => Q r w)) : gR Rp' Fr' cl j as w 0 0 Q := by
  intro h0 QQ hR hQ
  refine h h0 QQ (hv h0 hR) (fun r h' u' hR' hE hq => ?_)
  have hE : h' = h0 := hE
  subst hE
  exact hQ r _ w hR (hfr _) hq
