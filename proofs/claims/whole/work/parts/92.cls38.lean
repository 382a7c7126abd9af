/-! ===== the reference is made ===== -/
abbrev iS : Type := List Value × Nat
def iF (u : iS) (h : aH) : Prop := (u.2 ≤ 24 ∧ h.2 = 26 + u.2) ∧ h.1 25 = .inr (8, u.1) ∧ (∀ a, 26 ≤ a → a < 26 + u.2 → h.1 a = .inl (rK a, rN a, .inl (fun _ => 0))) ∧ cK h
def iFr (h h' : aH) : Prop := h.2 ≤ h'.2 ∧ ∀ a, a < 25 → h'.1 a = h.1 a
theorem iFr_rf (h : aH) : iFr h h := ⟨Nat.le_refl _, fun _ _ => rfl⟩
theorem iFr_tr (a b d : aH) (h1 : iFr a b) (h2 : iFr b d) : iFr a d := ⟨Nat.le_trans h1.1 h2.1, fun x hx => (h2.2 x hx).trans (h1.2 x hx)⟩
def rG : List Value := [.int 0, .int 0, .null, .null, .null, .null, .null, .null, .null, .null, .null, .null, .null, .null, .null, .null, .null, .null, .null, .null, .null, .null, .int 0, .null, .null, .int 0, .int 0, .null, .null, .int 0, .int 0]
section INI
variable {cl : aC} {cd : List aE} {C S : Nat} {rt : Option FieldType} {Q : Option Value → iS → Prop} {k : Nat} {l : aL} {st : List Value} {u : iS} {c s : Nat}
theorem i_newa {at' : _} {t y : Nat} {n : Int32} (N : Nat) (hg : aGet cd k = some (.newarray at', t, y)) (ht : t < 2) (hn : n = nI N) (hN : N < 10000) (h24 : u.2 < 24) (hK : rK (26 + u.2) = t) (hNN : rN (26 + u.2) = N) (hc : c + 1 ≤ C) (hs : s + N ≤ S) (hP : gB iF iFr cl cd C S rt Q (k + 1) l (.ref (26 + u.2) :: st) (u.1, u.2 + 1) (c + 1) (s + N)) : gB iF iFr cl cd C S rt Q k l (.int n :: st) u c s := by
  intro h0' h QQ hR hF hQ P hr
  have en : n.toNatClampNeg = N := by rw [hn]; exact nI_clamp (by omega)
  refine hr 38 k at' t y n l st h c s hg (by omega) (by rw [hn]; exact nI_pos (by omega)) (by omega) hc (by omega) ?_
  rw [hR.1.2, en]
  obtain ⟨⟨h1, h2⟩, h3, h4, h5⟩ := hR
  have ea : aArr0 t N = .inl (t, N, .inl (fun _ => 0)) := by
    rcases (show t = 0 ∨ t = 1 by omega) with e | e <;> subst e <;> rfl
  refine hP h0' _ QQ ⟨⟨h24, ?_⟩, ?_, fun a a1 a2 => ?_, h5.new (by omega)⟩ ⟨?_, fun b hb => ?_⟩ hQ P hr
  · show h.2 + 1 = 26 + (u.2 + 1); omega
  · show va_up h.1 h.2 _ 25 = _
    rw [va_up_ne _ _ (by omega)]; exact h3
  · show va_up h.1 h.2 _ a = _
    by_cases e : a = 26 + u.2
    · rw [show h.2 = a from by omega, va_up_self, ea, e, hK, hNN]
    · rw [va_up_ne _ _ (by omega)]; exact h4 a a1 (by have a2' : a < 26 + (u.2 + 1) := a2; omega)
  · exact Nat.le_succ_of_le hF.1
  · show va_up h.1 h.2 _ b = _
    rw [va_up_ne _ _ (by omega)]; exact hF.2 b hb
theorem i_put {j f : Nat} {v : Value} (fs : List Value) (hg : aGet cd k = some (.putfield j, 8, f)) (hl : f < u.1.length) (hfit : aFit 8 f v) (hfs : u.1.set f v = fs) (hP : gB iF iFr cl cd C S rt Q (k + 1) l st (fs, u.2) c s) : gB iF iFr cl cd C S rt Q k l (v :: .ref 25 :: st) u c s := by
  intro h0' h QQ hR hF hQ P hr
  obtain ⟨⟨h1, h2⟩, h3, h4, h5⟩ := hR
  refine hr 27 k j 8 f 25 _ v l st h c s hg (by decide) (by omega) h3 hl hfit (hP h0' (aUp h 25 (.inr (8, u.1.set f v))) QQ ⟨⟨h1, h2⟩, ?_, fun a a1 a2 => ?_, h5.up (by decide)⟩ ⟨hF.1, fun b hb => ?_⟩ hQ P hr)
  · show va_up h.1 25 (.inr (8, u.1.set f v)) 25 = .inr (8, fs)
    rw [va_up_self, hfs]
  · show va_up h.1 25 _ a = _
    rw [va_up_ne _ _ (by omega)]; exact h4 a a1 a2
  · show va_up h.1 25 _ b = _
    rw [va_up_ne _ _ (by omega)]; exact hF.2 b hb
end INI
def iG : Nat → List Value
  | 0 => rG
  | 1 => [.int 0, .int 0, .ref 26, .null, .null, .null, .null, .null, .null, .null, .null, .null, .null, .null, .null, .null, .null, .null, .null, .null, .null, .null, .int 0, .null, .null, .int 0, .int 0, .null, .null, .int 0, .int 0]
  | 2 => [.int 0, .int 0, .ref 26, .ref 27, .null, .null, .null, .null, .null, .null, .null, .null, .null, .null, .null, .null, .null, .null, .null, .null, .null, .null, .int 0, .null, .null, .int 0, .int 0, .null, .null, .int 0, .int 0]
  | 3 => [.int 0, .int 0, .ref 26, .ref 27, .ref 28, .null, .null, .null, .null, .null, .null, .null, .null, .null, .null, .null, .null, .null, .null, .null, .null, .null, .int 0, .null, .null, .int 0, .int 0, .null, .null, .int 0, .int 0]
  | 4 => [.int 0, .int 0, .ref 26, .ref 27, .ref 28, .ref 29, .null, .null, .null, .null, .null, .null, .null, .null, .null, .null, .null, .null, .null, .null, .null, .null, .int 0, .null, .null, .int 0, .int 0, .null, .null, .int 0, .int 0]
  | 5 => [.int 0, .int 0, .ref 26, .ref 27, .ref 28, .ref 29, .ref 30, .null, .null, .null, .null, .null, .null, .null, .null, .null, .null, .null, .null, .null, .null, .null, .int 0, .null, .null, .int 0, .int 0, .null, .null, .int 0, .int 0]
  | 6 => [.int 0, .int 0, .ref 26, .ref 27, .ref 28, .ref 29, .ref 30, .ref 31, .null, .null, .null, .null, .null, .null, .null, .null, .null, .null, .null, .null, .null, .null, .int 0, .null, .null, .int 0, .int 0, .null, .null, .int 0, .int 0]
  | 7 => [.int 0, .int 0, .ref 26, .ref 27, .ref 28, .ref 29, .ref 30, .ref 31, .ref 32, .null, .null, .null, .null, .null, .null, .null, .null, .null, .null, .null, .null, .null, .int 0, .null, .null, .int 0, .int 0, .null, .null, .int 0, .int 0]
  | 8 => [.int 0, .int 0, .ref 26, .ref 27, .ref 28, .ref 29, .ref 30, .ref 31, .ref 32, .ref 33, .null, .null, .null, .null, .null, .null, .null, .null, .null, .null, .null, .null, .int 0, .null, .null, .int 0, .int 0, .null, .null, .int 0, .int 0]
  | 9 => [.int 0, .int 0, .ref 26, .ref 27, .ref 28, .ref 29, .ref 30, .ref 31, .ref 32, .ref 33, .ref 34, .null, .null, .null, .null, .null, .null, .null, .null, .null, .null, .null, .int 0, .null, .null, .int 0, .int 0, .null, .null, .int 0, .int 0]
  | 10 => [.int 0, .int 0, .ref 26, .ref 27, .ref 28, .ref 29, .ref 30, .ref 31, .ref 32, .ref 33, .ref 34, .ref 35, .null, .null, .null, .null, .null, .null, .null, .null, .null, .null, .int 0, .null, .null, .int 0, .int 0, .null, .null, .int 0, .int 0]
  | 11 => [.int 0, .int 0, .ref 26, .ref 27, .ref 28, .ref 29, .ref 30, .ref 31, .ref 32, .ref 33, .ref 34, .ref 35, .ref 36, .null, .null, .null, .null, .null, .null, .null, .null, .null, .int 0, .null, .null, .int 0, .int 0, .null, .null, .int 0, .int 0]
  | 12 => [.int 0, .int 0, .ref 26, .ref 27, .ref 28, .ref 29, .ref 30, .ref 31, .ref 32, .ref 33, .ref 34, .ref 35, .ref 36, .ref 37, .null, .null, .null, .null, .null, .null, .null, .null, .int 0, .null, .null, .int 0, .int 0, .null, .null, .int 0, .int 0]
  | 13 => [.int 0, .int 0, .ref 26, .ref 27, .ref 28, .ref 29, .ref 30, .ref 31, .ref 32, .ref 33, .ref 34, .ref 35, .ref 36, .ref 37, .ref 38, .null, .null, .null, .null, .null, .null, .null, .int 0, .null, .null, .int 0, .int 0, .null, .null, .int 0, .int 0]
  | 14 => [.int 0, .int 0, .ref 26, .ref 27, .ref 28, .ref 29, .ref 30, .ref 31, .ref 32, .ref 33, .ref 34, .ref 35, .ref 36, .ref 37, .ref 38, .ref 39, .null, .null, .null, .null, .null, .null, .int 0, .null, .null, .int 0, .int 0, .null, .null, .int 0, .int 0]
  | 15 => [.int 0, .int 0, .ref 26, .ref 27, .ref 28, .ref 29, .ref 30, .ref 31, .ref 32, .ref 33, .ref 34, .ref 35, .ref 36, .ref 37, .ref 38, .ref 39, .ref 40, .null, .null, .null, .null, .null, .int 0, .null, .null, .int 0, .int 0, .null, .null, .int 0, .int 0]
  | 16 => [.int 0, .int 0, .ref 26, .ref 27, .ref 28, .ref 29, .ref 30, .ref 31, .ref 32, .ref 33, .ref 34, .ref 35, .ref 36, .ref 37, .ref 38, .ref 39, .ref 40, .ref 41, .null, .null, .null, .null, .int 0, .null, .null, .int 0, .int 0, .null, .null, .int 0, .int 0]
  | 17 => [.int 0, .int 0, .ref 26, .ref 27, .ref 28, .ref 29, .ref 30, .ref 31, .ref 32, .ref 33, .ref 34, .ref 35, .ref 36, .ref 37, .ref 38, .ref 39, .ref 40, .ref 41, .ref 42, .null, .null, .null, .int 0, .null, .null, .int 0, .int 0, .null, .null, .int 0, .int 0]
  | 18 => [.int 0, .int 0, .ref 26, .ref 27, .ref 28, .ref 29, .ref 30, .ref 31, .ref 32, .ref 33, .ref 34, .ref 35, .ref 36, .ref 37, .ref 38, .ref 39, .ref 40, .ref 41, .ref 42, .ref 43, .null, .null, .int 0, .null, .null, .int 0, .int 0, .null, .null, .int 0, .int 0]
  | 19 => [.int 0, .int 0, .ref 26, .ref 27, .ref 28, .ref 29, .ref 30, .ref 31, .ref 32, .ref 33, .ref 34, .ref 35, .ref 36, .ref 37, .ref 38, .ref 39, .ref 40, .ref 41, .ref 42, .ref 43, .ref 44, .null, .int 0, .null, .null, .int 0, .int 0, .null, .null, .int 0, .int 0]
  | 20 => [.int 0, .int 0, .ref 26, .ref 27, .ref 28, .ref 29, .ref 30, .ref 31, .ref 32, .ref 33, .ref 34, .ref 35, .ref 36, .ref 37, .ref 38, .ref 39, .ref 40, .ref 41, .ref 42, .ref 43, .ref 44, .ref 45, .int 0, .null, .null, .int 0, .int 0, .null, .null, .int 0, .int 0]
  | 21 => [.int 0, .int 0, .ref 26, .ref 27, .ref 28, .ref 29, .ref 30, .ref 31, .ref 32, .ref 33, .ref 34, .ref 35, .ref 36, .ref 37, .ref 38, .ref 39, .ref 40, .ref 41, .ref 42, .ref 43, .ref 44, .ref 45, .int 0, .ref 46, .null, .int 0, .int 0, .null, .null, .int 0, .int 0]
  | 22 => [.int 0, .int 0, .ref 26, .ref 27, .ref 28, .ref 29, .ref 30, .ref 31, .ref 32, .ref 33, .ref 34, .ref 35, .ref 36, .ref 37, .ref 38, .ref 39, .ref 40, .ref 41, .ref 42, .ref 43, .ref 44, .ref 45, .int 0, .ref 46, .ref 47, .int 0, .int 0, .null, .null, .int 0, .int 0]
  | 23 => [.int 0, .int 0, .ref 26, .ref 27, .ref 28, .ref 29, .ref 30, .ref 31, .ref 32, .ref 33, .ref 34, .ref 35, .ref 36, .ref 37, .ref 38, .ref 39, .ref 40, .ref 41, .ref 42, .ref 43, .ref 44, .ref 45, .int 0, .ref 46, .ref 47, .int 0, .int 0, .ref 48, .null, .int 0, .int 0]
  | 24 => [.int 0, .int 0, .ref 26, .ref 27, .ref 28, .ref 29, .ref 30, .ref 31, .ref 32, .ref 33, .ref 34, .ref 35, .ref 36, .ref 37, .ref 38, .ref 39, .ref 40, .ref 41, .ref 42, .ref 43, .ref 44, .ref 45, .int 0, .ref 46, .ref 47, .int 0, .int 0, .ref 48, .ref 49, .int 0, .int 0]
  | _ => []
set_option maxRecDepth 20000 in
theorem i_refInit {pr : aC} {d : Nat} {Q : Option Value → iS → Prop} (hQ : Q none (iG 24, 24)) : gR iF iFr (aRun pg pr (d + 1)) 158 [.ref 25] (iG 0, 0) 24 8622 Q := by
  refine gR_of mi_158 iFr_rf rfl (Nat.le_of_ble_eq_true rfl) ?_
  show gB iF iFr (aRun pg pr (d)) cd_158 24 8622 none Q 0 [some (.ref 25)] [] (iG 0, 0) 0 0
  refine g_load rfl rfl rfl trivial ?_
  refine g_objInit rfl (Nat.le_of_ble_eq_true rfl) ?_
  refine g_load rfl rfl rfl trivial ?_
  refine g_sipush (nI 1872) rfl (by decide) ?_
  refine i_newa 1872 rfl (by decide) rfl (by decide) (by decide) rfl rfl (Nat.le_of_ble_eq_true rfl) (Nat.le_of_ble_eq_true rfl) ?_
  show gB iF iFr _ _ _ _ _ _ _ _ _ (iG 0, 1) 1 1872
  refine i_put (iG 1) rfl (Nat.le_of_ble_eq_true rfl) ⟨_, _, rfl, rfl, rfl, rfl⟩ rfl ?_
  refine g_load rfl rfl rfl trivial ?_
  refine g_bipush (nI 36) rfl (by decide) ?_
  refine i_newa 36 rfl (by decide) rfl (by decide) (by decide) rfl rfl (Nat.le_of_ble_eq_true rfl) (Nat.le_of_ble_eq_true rfl) ?_
  show gB iF iFr _ _ _ _ _ _ _ _ _ (iG 1, 2) 2 1908
  refine i_put (iG 2) rfl (Nat.le_of_ble_eq_true rfl) ⟨_, _, rfl, rfl, rfl, rfl⟩ rfl ?_
  refine g_load rfl rfl rfl trivial ?_
  refine g_bipush (nI 10) rfl (by decide) ?_
  refine i_newa 10 rfl (by decide) rfl (by decide) (by decide) rfl rfl (Nat.le_of_ble_eq_true rfl) (Nat.le_of_ble_eq_true rfl) ?_
  show gB iF iFr _ _ _ _ _ _ _ _ _ (iG 2, 3) 3 1918
  refine i_put (iG 3) rfl (Nat.le_of_ble_eq_true rfl) ⟨_, _, rfl, rfl, rfl, rfl⟩ rfl ?_
  refine g_load rfl rfl rfl trivial ?_
  refine g_bipush (nI 10) rfl (by decide) ?_
  refine i_newa 10 rfl (by decide) rfl (by decide) (by decide) rfl rfl (Nat.le_of_ble_eq_true rfl) (Nat.le_of_ble_eq_true rfl) ?_
  show gB iF iFr _ _ _ _ _ _ _ _ _ (iG 3, 4) 4 1928
  refine i_put (iG 4) rfl (Nat.le_of_ble_eq_true rfl) ⟨_, _, rfl, rfl, rfl, rfl⟩ rfl ?_
  refine g_load rfl rfl rfl trivial ?_
  refine g_bipush (nI 20) rfl (by decide) ?_
  refine i_newa 20 rfl (by decide) rfl (by decide) (by decide) rfl rfl (Nat.le_of_ble_eq_true rfl) (Nat.le_of_ble_eq_true rfl) ?_
  show gB iF iFr _ _ _ _ _ _ _ _ _ (iG 4, 5) 5 1948
  refine i_put (iG 5) rfl (Nat.le_of_ble_eq_true rfl) ⟨_, _, rfl, rfl, rfl, rfl⟩ rfl ?_
  refine g_load rfl rfl rfl trivial ?_
  refine g_bipush (nI 10) rfl (by decide) ?_
  refine i_newa 10 rfl (by decide) rfl (by decide) (by decide) rfl rfl (Nat.le_of_ble_eq_true rfl) (Nat.le_of_ble_eq_true rfl) ?_
  show gB iF iFr _ _ _ _ _ _ _ _ _ (iG 5, 6) 6 1958
  refine i_put (iG 6) rfl (Nat.le_of_ble_eq_true rfl) ⟨_, _, rfl, rfl, rfl, rfl⟩ rfl ?_
  refine g_load rfl rfl rfl trivial ?_
  refine g_bipush (nI 10) rfl (by decide) ?_
  refine i_newa 10 rfl (by decide) rfl (by decide) (by decide) rfl rfl (Nat.le_of_ble_eq_true rfl) (Nat.le_of_ble_eq_true rfl) ?_
  show gB iF iFr _ _ _ _ _ _ _ _ _ (iG 6, 7) 7 1968
  refine i_put (iG 7) rfl (Nat.le_of_ble_eq_true rfl) ⟨_, _, rfl, rfl, rfl, rfl⟩ rfl ?_
  refine g_load rfl rfl rfl trivial ?_
  refine g_sipush (nI 3400) rfl (by decide) ?_
  refine i_newa 3400 rfl (by decide) rfl (by decide) (by decide) rfl rfl (Nat.le_of_ble_eq_true rfl) (Nat.le_of_ble_eq_true rfl) ?_
  show gB iF iFr _ _ _ _ _ _ _ _ _ (iG 7, 8) 8 5368
  refine i_put (iG 8) rfl (Nat.le_of_ble_eq_true rfl) ⟨_, _, rfl, rfl, rfl, rfl⟩ rfl ?_
  refine g_load rfl rfl rfl trivial ?_
  refine g_sipush (nI 520) rfl (by decide) ?_
  refine i_newa 520 rfl (by decide) rfl (by decide) (by decide) rfl rfl (Nat.le_of_ble_eq_true rfl) (Nat.le_of_ble_eq_true rfl) ?_
  show gB iF iFr _ _ _ _ _ _ _ _ _ (iG 8, 9) 9 5888
  refine i_put (iG 9) rfl (Nat.le_of_ble_eq_true rfl) ⟨_, _, rfl, rfl, rfl, rfl⟩ rfl ?_
  refine g_load rfl rfl rfl trivial ?_
  refine g_sipush (nI 220) rfl (by decide) ?_
  refine i_newa 220 rfl (by decide) rfl (by decide) (by decide) rfl rfl (Nat.le_of_ble_eq_true rfl) (Nat.le_of_ble_eq_true rfl) ?_
  show gB iF iFr _ _ _ _ _ _ _ _ _ (iG 9, 10) 10 6108
  refine i_put (iG 10) rfl (Nat.le_of_ble_eq_true rfl) ⟨_, _, rfl, rfl, rfl, rfl⟩ rfl ?_
  refine g_load rfl rfl rfl trivial ?_
  refine g_sipush (nI 440) rfl (by decide) ?_
  refine i_newa 440 rfl (by decide) rfl (by decide) (by decide) rfl rfl (Nat.le_of_ble_eq_true rfl) (Nat.le_of_ble_eq_true rfl) ?_
  show gB iF iFr _ _ _ _ _ _ _ _ _ (iG 10, 11) 11 6548
  refine i_put (iG 11) rfl (Nat.le_of_ble_eq_true rfl) ⟨_, _, rfl, rfl, rfl, rfl⟩ rfl ?_
  refine g_load rfl rfl rfl trivial ?_
  refine g_sipush (nI 220) rfl (by decide) ?_
  refine i_newa 220 rfl (by decide) rfl (by decide) (by decide) rfl rfl (Nat.le_of_ble_eq_true rfl) (Nat.le_of_ble_eq_true rfl) ?_
  show gB iF iFr _ _ _ _ _ _ _ _ _ (iG 11, 12) 12 6768
  refine i_put (iG 12) rfl (Nat.le_of_ble_eq_true rfl) ⟨_, _, rfl, rfl, rfl, rfl⟩ rfl ?_
  refine g_load rfl rfl rfl trivial ?_
  refine g_sipush (nI 220) rfl (by decide) ?_
  refine i_newa 220 rfl (by decide) rfl (by decide) (by decide) rfl rfl (Nat.le_of_ble_eq_true rfl) (Nat.le_of_ble_eq_true rfl) ?_
  show gB iF iFr _ _ _ _ _ _ _ _ _ (iG 12, 13) 13 6988
  refine i_put (iG 13) rfl (Nat.le_of_ble_eq_true rfl) ⟨_, _, rfl, rfl, rfl, rfl⟩ rfl ?_
  refine g_load rfl rfl rfl trivial ?_
  refine g_sipush (nI 220) rfl (by decide) ?_
  refine i_newa 220 rfl (by decide) rfl (by decide) (by decide) rfl rfl (Nat.le_of_ble_eq_true rfl) (Nat.le_of_ble_eq_true rfl) ?_
  show gB iF iFr _ _ _ _ _ _ _ _ _ (iG 13, 14) 14 7208
  refine i_put (iG 14) rfl (Nat.le_of_ble_eq_true rfl) ⟨_, _, rfl, rfl, rfl, rfl⟩ rfl ?_
  refine g_load rfl rfl rfl trivial ?_
  refine g_sipush (nI 220) rfl (by decide) ?_
  refine i_newa 220 rfl (by decide) rfl (by decide) (by decide) rfl rfl (Nat.le_of_ble_eq_true rfl) (Nat.le_of_ble_eq_true rfl) ?_
  show gB iF iFr _ _ _ _ _ _ _ _ _ (iG 14, 15) 15 7428
  refine i_put (iG 15) rfl (Nat.le_of_ble_eq_true rfl) ⟨_, _, rfl, rfl, rfl, rfl⟩ rfl ?_
  refine g_load rfl rfl rfl trivial ?_
  refine g_sipush (nI 220) rfl (by decide) ?_
  refine i_newa 220 rfl (by decide) rfl (by decide) (by decide) rfl rfl (Nat.le_of_ble_eq_true rfl) (Nat.le_of_ble_eq_true rfl) ?_
  show gB iF iFr _ _ _ _ _ _ _ _ _ (iG 15, 16) 16 7648
  refine i_put (iG 16) rfl (Nat.le_of_ble_eq_true rfl) ⟨_, _, rfl, rfl, rfl, rfl⟩ rfl ?_
  refine g_load rfl rfl rfl trivial ?_
  refine g_sipush (nI 220) rfl (by decide) ?_
  refine i_newa 220 rfl (by decide) rfl (by decide) (by decide) rfl rfl (Nat.le_of_ble_eq_true rfl) (Nat.le_of_ble_eq_true rfl) ?_
  show gB iF iFr _ _ _ _ _ _ _ _ _ (iG 16, 17) 17 7868
  refine i_put (iG 17) rfl (Nat.le_of_ble_eq_true rfl) ⟨_, _, rfl, rfl, rfl, rfl⟩ rfl ?_
  refine g_load rfl rfl rfl trivial ?_
  refine g_sipush (nI 440) rfl (by decide) ?_
  refine i_newa 440 rfl (by decide) rfl (by decide) (by decide) rfl rfl (Nat.le_of_ble_eq_true rfl) (Nat.le_of_ble_eq_true rfl) ?_
  show gB iF iFr _ _ _ _ _ _ _ _ _ (iG 17, 18) 18 8308
  refine i_put (iG 18) rfl (Nat.le_of_ble_eq_true rfl) ⟨_, _, rfl, rfl, rfl, rfl⟩ rfl ?_
  refine g_load rfl rfl rfl trivial ?_
  refine g_sipush (nI 220) rfl (by decide) ?_
  refine i_newa 220 rfl (by decide) rfl (by decide) (by decide) rfl rfl (Nat.le_of_ble_eq_true rfl) (Nat.le_of_ble_eq_true rfl) ?_
  show gB iF iFr _ _ _ _ _ _ _ _ _ (iG 18, 19) 19 8528
  refine i_put (iG 19) rfl (Nat.le_of_ble_eq_true rfl) ⟨_, _, rfl, rfl, rfl, rfl⟩ rfl ?_
  refine g_load rfl rfl rfl trivial ?_
  refine g_bipush (nI 20) rfl (by decide) ?_
  refine i_newa 20 rfl (by decide) rfl (by decide) (by decide) rfl rfl (Nat.le_of_ble_eq_true rfl) (Nat.le_of_ble_eq_true rfl) ?_
  show gB iF iFr _ _ _ _ _ _ _ _ _ (iG 19, 20) 20 8548
  refine i_put (iG 20) rfl (Nat.le_of_ble_eq_true rfl) ⟨_, _, rfl, rfl, rfl, rfl⟩ rfl ?_
  refine g_load rfl rfl rfl trivial ?_
  refine g_bipush (nI 52) rfl (by decide) ?_
  refine i_newa 52 rfl (by decide) rfl (by decide) (by decide) rfl rfl (Nat.le_of_ble_eq_true rfl) (Nat.le_of_ble_eq_true rfl) ?_
  show gB iF iFr _ _ _ _ _ _ _ _ _ (iG 20, 21) 21 8600
  refine i_put (iG 21) rfl (Nat.le_of_ble_eq_true rfl) ⟨_, _, rfl, rfl, rfl, rfl⟩ rfl ?_
  refine g_load rfl rfl rfl trivial ?_
  refine g_iconst (nI 2) rfl (by decide) ?_
  refine i_newa 2 rfl (by decide) rfl (by decide) (by decide) rfl rfl (Nat.le_of_ble_eq_true rfl) (Nat.le_of_ble_eq_true rfl) ?_
  show gB iF iFr _ _ _ _ _ _ _ _ _ (iG 21, 22) 22 8602
  refine i_put (iG 22) rfl (Nat.le_of_ble_eq_true rfl) ⟨_, _, rfl, rfl, rfl, rfl⟩ rfl ?_
  refine g_load rfl rfl rfl trivial ?_
  refine g_bipush (nI 16) rfl (by decide) ?_
  refine i_newa 16 rfl (by decide) rfl (by decide) (by decide) rfl rfl (Nat.le_of_ble_eq_true rfl) (Nat.le_of_ble_eq_true rfl) ?_
  show gB iF iFr _ _ _ _ _ _ _ _ _ (iG 22, 23) 23 8618
  refine i_put (iG 23) rfl (Nat.le_of_ble_eq_true rfl) ⟨_, _, rfl, rfl, rfl, rfl⟩ rfl ?_
  refine g_load rfl rfl rfl trivial ?_
  refine g_iconst (nI 4) rfl (by decide) ?_
  refine i_newa 4 rfl (by decide) rfl (by decide) (by decide) rfl rfl (Nat.le_of_ble_eq_true rfl) (Nat.le_of_ble_eq_true rfl) ?_
  show gB iF iFr _ _ _ _ _ _ _ _ _ (iG 23, 24) 24 8622
  refine i_put (iG 24) rfl (Nat.le_of_ble_eq_true rfl) ⟨_, _, rfl, rfl, rfl, rfl⟩ rfl ?_
  refine g_ret rfl rfl (Nat.le_of_ble_eq_true rfl) (Nat.le_of_ble_eq_true rfl) ?_
  exact hQ
def rZ : rS := (fun _ => 0, fun _ _ => 0)
theorem iF_end {h : aH} (hR : iF (iG 24, 24) h) : RF rZ h := by
  obtain ⟨⟨h1, h2⟩, h3, h4, h5⟩ := hR
  exact ⟨Nat.le_of_eq h2.symm, h3, fun a a1 a2 => h4 a a1 a2, h5⟩
def iD : cS := (iK, fun _ _ => 0, fun _ _ => 0, fun _ _ => 0, fun _ _ => none, 50)
theorem iK_lt {b : Nat} (hb : iK b ≠ 0) : 16 ≤ b ∧ b < 25 := by
  unfold iK at hb
  apply Classical.byContradiction
  intro z
  apply hb
  rw [if_neg (by omega), if_neg (by omega), if_neg (by omega), if_neg (by omega), if_neg (by omega), if_neg (by omega), if_neg (by omega), if_neg (by omega), if_neg (by omega)]
theorem iC_end {h h' : aH} (hR : CF iC h) (hF : iFr h h') (h2 : h'.2 = 50) (hK : cK h') : CF iD h' := by
  refine ⟨⟨by omega, h2⟩, hK, fun a ha => ?_⟩
  have ha' := iK_lt ha
  obtain ⟨x1, x2, x3, x4⟩ := hR.2.2 a ha
  exact ⟨x1, x2, by omega, (hF.2 a ha'.2).trans x4⟩
