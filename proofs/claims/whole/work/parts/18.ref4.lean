/-! ===== the reference: play ===== -/
section REFV
variable {cl : aC} {cd : List aE} {C S : Nat} {rt : Option FieldType} {Q : Option Value → rS → Prop} {k : Nat} {l : aL} {st : List Value} {u : rS} {c s : Nat}
theorem r_putv {j f : Nat} {v : Int32} (hg : aGet cd k = some (.putfield j, 8, f)) (hf : rIs f) (hP : ∀ u1 : rS, u1.2 = u.2 → u1.1 f = v → (∀ g, g ≠ f → u1.1 g = u.1 g) → gB RF rFr cl cd C S rt Q (k + 1) l st u1 c s) : gB RF rFr cl cd C S rt Q k l (.int v :: .ref 25 :: st) u c s :=
  r_puti hg hf (hP _ rfl (by simp [upd]) (fun g hg => by simp [upd, hg]))
theorem r_iasv {x y a : Nat} {i v : Int32} (n : Nat) (hg : aGet cd k = some (.iastore, x, y)) (ha : 26 ≤ a ∧ a < 50 ∧ rK a = 0) (hi : i = nI n) (hn : n < rN a) (hP : ∀ u1 : rS, u1.1 = u.1 → (∀ b, b ≠ a → u1.2 b = u.2 b) → u1.2 a n = v → (∀ z, z ≠ n → u1.2 a z = u.2 a z) → gB RF rFr cl cd C S rt Q (k + 1) l st u1 c s) : gB RF rFr cl cd C S rt Q k l (.int v :: .int i :: .ref a :: st) u c s :=
  r_ias n hg ha hi hn (hP _ rfl (fun b hb => by simp [rU, hb]) (by simp [rU, upd]) (fun z hz => by simp [rU, upd, hz]))
theorem r_zasv {x y a : Nat} {i v : Int32} (n : Nat) (hg : aGet cd k = some (.bastore, x, y)) (ha : 26 ≤ a ∧ a < 50 ∧ rK a = 1) (hi : i = nI n) (hn : n < rN a) (hP : ∀ u1 : rS, u1.1 = u.1 → (∀ b, b ≠ a → u1.2 b = u.2 b) → u1.2 a n = vp_nar .boolean v → (∀ z, z ≠ n → u1.2 a z = u.2 a z) → gB RF rFr cl cd C S rt Q (k + 1) l st u1 c s) : gB RF rFr cl cd C S rt Q k l (.int v :: .int i :: .ref a :: st) u c s :=
  r_zas n hg ha hi hn (hP _ rfl (fun b hb => by simp [rU, hb]) (by simp [rU, upd]) (fun z hz => by simp [rU, upd, hz]))
end REFV
/-- the same but for what is only written down on the way -/
def rSame (u u' : rS) : Prop := u'.1 0 = u.1 0 ∧ u'.1 1 = u.1 1 ∧ u'.1 22 = u.1 22 ∧ ∀ a, a < 46 → u'.2 a = u.2 a
theorem rSame.rf (u : rS) : rSame u u := ⟨rfl, rfl, rfl, fun _ _ => rfl⟩
theorem rSame.tr {a b d : rS} (h1 : rSame a b) (h2 : rSame b d) : rSame a d := ⟨h2.1.trans h1.1, h2.2.1.trans h1.2.1, h2.2.2.1.trans h1.2.2.1, fun x hx => (h2.2.2.2 x hx).trans (h1.2.2.2 x hx)⟩
theorem rSame_cf {u u' : rS} (h : rSame u u') (t : Nat) : cf u' t = cf u t := by unfold cf; rw [h.2.2.2 33 (by decide)]
theorem rSame_gf {u u' : rS} (h : rSame u u') (t : Nat) : gf u' t = gf u t := by unfold gf; rw [h.2.2.2 34 (by decide)]
def btF (a b tr : Int32) : Bool := if a / nI 13 = b / nI 13 then decide (b < a) else decide (a / nI 13 = tr)
def bst (g : Nat → Int32) (tr : Int32) (s : Nat) : Nat → Nat
  | 0 => 0
  | k + 1 => if btF (g (s + (k + 1))) (g (s + bst g tr s k)) tr then k + 1 else bst g tr s k
theorem bst_le (g : Nat → Int32) (tr : Int32) (s : Nat) : ∀ k, bst g tr s k ≤ k
  | 0 => Nat.le_refl 0
  | k + 1 => by
    unfold bst
    have := bst_le g tr s k
    split <;> omega
def ldF (g : Nat → Int32) (tr : Int32) (l0 : Nat) : Nat → Nat
  | 0 => l0
  | j + 1 => (ldF g tr l0 j + bst g tr (4 * j) 3) % 4
def wnF (g : Nat → Int32) (tr : Int32) (l0 s : Nat) : Nat → Nat
  | 0 => 0
  | j + 1 => wnF g tr l0 s j + (if ldF g tr l0 (j + 1) % 2 = s then 1 else 0)
theorem ldF_lt {g : Nat → Int32} {tr : Int32} {l0 : Nat} (h : l0 < 4) : ∀ j, ldF g tr l0 j < 4
  | 0 => h
  | j + 1 => Nat.mod_lt _ (by omega)
theorem wnF_le (g : Nat → Int32) (tr : Int32) (l0 s : Nat) : ∀ j, wnF g tr l0 s j ≤ j
  | 0 => Nat.le_refl 0
  | j + 1 => by
    unfold wnF
    have := wnF_le g tr l0 s j
    split <;> omega
def dcN (f : Nat → Int32) (dl b : Nat) : Nat := match first (dcP f b) 0 (b + 1) with
  | some i => (dl + i) % 4
  | none => 0
theorem first_some {p : Nat → Bool} : ∀ {n i t : Nat}, i ≤ t → t < i + n → p t = true → ∃ x, first p i n = some x ∧ i ≤ x ∧ x < i + n
  | 0, i, t, h1, h2, _ => by omega
  | n + 1, i, t, h1, h2, hp => by
    unfold first
    by_cases hi : p i = true
    · rw [if_pos hi]; exact ⟨i, rfl, by omega, by omega⟩
    · rw [if_neg hi]
      have : i ≠ t := fun q => hi (q ▸ hp)
      obtain ⟨x, h3, h4, h5⟩ := first_some (n := n) (i := i + 1) (t := t) (by omega) (by omega) hp
      exact ⟨x, h3, by omega, by omega⟩
theorem dcF_N {f : Nat → Int32} {dl b : Nat} (h : ge3 (f b) = true) : dcF f dl b = nI (dcN f dl b) ∧ dcN f dl b < 4 := by
  have hp : dcP f b b = true := by
    unfold dcP
    rw [decide_eq_true_eq]
    refine ⟨?_, rfl, rfl⟩
    simp only [ge3, decide_eq_true_eq] at h
    rw [Int32.le_iff_toInt_le] at h
    rw [Int32.lt_iff_toInt_lt]
    rw [show (nI 3).toInt = 3 by decide] at h
    rw [show (nI 2).toInt = 2 by decide]
    omega
  obtain ⟨x, h1, -, -⟩ := first_some (i := 0) (n := b + 1) (t := b) (by omega) (by omega) hp
  unfold dcF dcN
  rw [h1]
  exact ⟨rfl, Nat.mod_lt _ (by omega)⟩
set_option maxRecDepth 20000 in
theorem r_suit {pr : aC} {d : Nat} {u : rS} (c : Int32) {Q : Option Value → rS → Prop} (hQ : Q (some (.int (c / nI 13))) u) : rR pr (d + 1) 186 [.int c] u Q := by
  refine gR_of mi_186 rFr_rf rfl (Nat.le_of_ble_eq_true rfl) ?_
  show rB pr (d) cd_186 (Option.some Jvm.ClassFile.FieldType.int) Q 0 [some (.int c)] [] u
  refine g_load rfl rfl rfl trivial ?_
  refine g_bipush (nI 13) rfl (by decide) ?_
  refine g_idiv rfl (by decide) ?_
  refine g_vret rfl trivial ⟨rfl, rfl⟩ (Nat.le_refl _) (Nat.le_refl _) ?_
  exact hQ
set_option maxRecDepth 20000 in
theorem r_beats {pr : aC} {d : Nat} {u : rS} (a b tr : Int32) {Q : Option Value → rS → Prop} (hQ : Q (some (.int (bI (btF a b tr)))) u) : rR pr (d + 1 + 1) 187 [.int a, .int b, .int tr] u Q := by
  refine gR_of mi_187 rFr_rf rfl (Nat.le_of_ble_eq_true rfl) ?_
  show rB pr (d + 1) cd_187 (Option.some Jvm.ClassFile.FieldType.boolean) Q 0 [some (.int a), some (.int b), some (.int tr)] [] u
  refine g_load rfl rfl rfl trivial ?_
  refine g_statI [.int a] rFr_tr rfl rfl rfl (Nat.le_of_ble_eq_true rfl) (Nat.le_refl _) (Nat.le_refl _) (r_suit a ⟨_, rfl, ?_⟩)
  refine g_load rfl rfl rfl trivial ?_
  refine g_statI [.int b] rFr_tr rfl rfl rfl (Nat.le_of_ble_eq_true rfl) (Nat.le_refl _) (Nat.le_refl _) (r_suit b ⟨_, rfl, ?_⟩)
  refine g_icmp_ne rfl (fun c1 => ?_) (fun c1 => ?_)
  · refine g_load rfl rfl rfl trivial ?_
    refine g_statI [.int a] rFr_tr rfl rfl rfl (Nat.le_of_ble_eq_true rfl) (Nat.le_refl _) (Nat.le_refl _) (r_suit a ⟨_, rfl, ?_⟩)
    refine g_load rfl rfl rfl trivial ?_
    refine g_icmp_ne rfl (fun c2 => ?_) (fun c2 => ?_)
    · have hbt : btF a b tr = false := by unfold btF; rw [if_neg c1, decide_eq_false_iff_not]; exact c2
      refine g_iconst (nI 0) rfl (by decide) ?_
      refine g_vret rfl trivial (by first | exact ⟨by decide, by decide⟩ | trivial) (Nat.le_refl _) (Nat.le_refl _) ?_
      rw [hbt] at hQ
      exact hQ
    · have hbt : btF a b tr = true := by unfold btF; rw [if_neg c1, decide_eq_true_eq]; exact c2
      refine g_iconst (nI 1) rfl (by decide) ?_
      refine g_goto rfl ?_
      refine g_vret rfl trivial (by first | exact ⟨by decide, by decide⟩ | trivial) (Nat.le_refl _) (Nat.le_refl _) ?_
      rw [hbt] at hQ
      exact hQ
  · refine g_load rfl rfl rfl trivial ?_
    refine g_load rfl rfl rfl trivial ?_
    refine g_icmp_le rfl (fun c3 => ?_) (fun c3 => ?_)
    · have hbt : btF a b tr = false := by unfold btF; rw [if_pos c1, decide_eq_false_iff_not, Int32.not_lt]; exact c3
      refine g_iconst (nI 0) rfl (by decide) ?_
      refine g_vret rfl trivial (by first | exact ⟨by decide, by decide⟩ | trivial) (Nat.le_refl _) (Nat.le_refl _) ?_
      rw [hbt] at hQ
      exact hQ
    · have hbt : btF a b tr = true := by unfold btF; rw [if_pos c1, decide_eq_true_eq, ← Int32.not_le]; exact c3
      refine g_iconst (nI 1) rfl (by decide) ?_
      refine g_goto rfl ?_
      refine g_vret rfl trivial (by first | exact ⟨by decide, by decide⟩ | trivial) (Nat.le_refl _) (Nat.le_refl _) ?_
      rw [hbt] at hQ
      exact hQ
/-- the leader, the start and the tricks won, as goThrough leaves them behind j tricks -/
def gtAt (u : rS) (g : Nat → Int32) (tr : Int32) (l0 j : Nat) : Prop := u.1 25 = nI (ldF g tr l0 j) ∧ u.1 26 = nI (4 * j) ∧ u.2 47 0 = nI (wnF g tr l0 0 j) ∧ u.2 47 1 = nI (wnF g tr l0 1 j)
set_option maxRecDepth 20000 in
theorem r_goThrough_i {pr : aC} {d : Nat} {u : rS} (t j : Nat) (g : Nat → Int32) (tr : Int32) (ht : t < 10) (hj : 4 * j + 4 ≤ 52) (hg : gf u t = g) (h26 : u.1 26 = nI (4 * j)) {Q : Option Value → rS → Prop} (hQ : rB pr (d + 4) cd_188 none Q 71 [some (.ref 25), some (.int (nI t)), some (.int tr), some (.int (nI (bst g tr (4 * j) 3))), some (.int (nI 4))] [] u) : ∀ (zz : Nat) (i : Nat) (hm : 3 - i < zz) (hle : i ≤ 3), rB pr (d + 4) cd_188 none Q 39 [some (.ref 25), some (.int (nI t)), some (.int tr), some (.int (nI (bst g tr (4 * j) i))), some (.int (nI (i + 1)))] [] u := by
  intro zz
  induction zz with
  | zero => intro i hm hle; exact absurd hm (by omega)
  | succ zz ih =>
    intro i hm hle
    refine g_load rfl rfl rfl trivial ?_
    refine g_iconst (nI 4) rfl (by decide) ?_
    refine g_icmp_ge rfl (fun c1 => ?_) (fun c1 => ?_)
    · rw [nI_leI (by omega) (by omega)] at c1
      have hi : i = 3 := by omega
      subst hi
      exact hQ
    · rw [nI_leI (by omega) (by omega)] at c1
      have hbl := bst_le g tr (4 * j) i
      refine g_load rfl rfl rfl trivial ?_
      refine r_getf rfl rfl ?_
      refine g_bipush (nI 52) rfl (by decide) ?_
      refine g_load rfl rfl rfl trivial ?_
      refine g_imul rfl ?_
      refine g_load rfl rfl rfl trivial ?_
      refine r_getf rfl rfl ?_
      refine g_iadd rfl ?_
      refine g_load rfl rfl rfl trivial ?_
      refine g_iadd rfl ?_
      refine r_ia (52 * t + (4 * j + (i + 1))) rfl ⟨by decide, by decide, rfl⟩ (by rw [h26, pk_mul, nI_add, nI_add]; congr 1; omega) (by show _ < 520; omega) ?_
      refine g_load rfl rfl rfl trivial ?_
      refine r_getf rfl rfl ?_
      refine g_bipush (nI 52) rfl (by decide) ?_
      refine g_load rfl rfl rfl trivial ?_
      refine g_imul rfl ?_
      refine g_load rfl rfl rfl trivial ?_
      refine r_getf rfl rfl ?_
      refine g_iadd rfl ?_
      refine g_load rfl rfl rfl trivial ?_
      refine g_iadd rfl ?_
      refine r_ia (52 * t + (4 * j + bst g tr (4 * j) i)) rfl ⟨by decide, by decide, rfl⟩ (by rw [h26, pk_mul, nI_add, nI_add]; congr 1; omega) (by show _ < 520; omega) ?_
      refine g_load rfl rfl rfl trivial ?_
      change gB RF rFr _ _ _ _ _ _ _ _ [.int tr, .int (gf u t (4 * j + bst g tr (4 * j) i)), .int (gf u t (4 * j + (i + 1)))] _ _ _
      refine g_statI [.int (gf u t (4 * j + (i + 1))), .int (gf u t (4 * j + bst g tr (4 * j) i)), .int tr] rFr_tr rfl rfl rfl (Nat.le_of_ble_eq_true rfl) (Nat.le_refl _) (Nat.le_refl _) (r_beats (gf u t (4 * j + (i + 1))) (gf u t (4 * j + bst g tr (4 * j) i)) tr ⟨_, rfl, ?_⟩)
      refine g_if_eq rfl (fun c2 => ?_) (fun c2 => ?_)
      · rw [bI_eq, hg] at c2
        have hb1 : bst g tr (4 * j) (i + 1) = bst g tr (4 * j) i := by simp [bst, c2]
        rw [← hb1]
        refine g_iinc (nI (i + 1 + 1)) [some (.ref 25), some (.int (nI t)), some (.int tr), some (.int (nI (bst g tr (4 * j) (i + 1)))), some (.int (nI (i + 1 + 1)))] rfl rfl (nI_1 (i + 1)) rfl ?_
        refine g_goto rfl ?_
        exact ih (i + 1) (by omega) (by omega)
      · rw [bI_ne, hg] at c2
        have hb1 : bst g tr (4 * j) (i + 1) = i + 1 := by simp [bst, c2]
        refine g_load rfl rfl rfl trivial ?_
        refine g_store [some (.ref 25), some (.int (nI t)), some (.int tr), some (.int (nI (i + 1))), some (.int (nI (i + 1)))] rfl rfl trivial (Nat.le_of_ble_eq_true rfl) rfl ?_
        rw [show [some (Value.ref 25), some (Value.int (nI t)), some (Value.int tr), some (Value.int (nI (i + 1))), some (Value.int (nI (i + 1)))] = [some (Value.ref 25), some (Value.int (nI t)), some (Value.int tr), some (Value.int (nI (bst g tr (4 * j) (i + 1)))), some (Value.int (nI (i + 1)))] by rw [hb1]]
        refine g_iinc (nI (i + 1 + 1)) [some (.ref 25), some (.int (nI t)), some (.int tr), some (.int (nI (bst g tr (4 * j) (i + 1)))), some (.int (nI (i + 1 + 1)))] rfl rfl (nI_1 (i + 1)) rfl ?_
        refine g_goto rfl ?_
        exact ih (i + 1) (by omega) (by omega)
set_option maxRecDepth 20000 in
theorem r_goThrough_l {pr : aC} {d : Nat} {u0 : rS} (t m : Nat) (g : Nat → Int32) (tr : Int32) (l0 : Nat) (ht : t < 10) (hg : gf u0 t = g) (hl0 : l0 < 4) (hm0 : u0.2 32 t = nI m) (hm52 : m ≤ 52) {Q : Option Value → rS → Prop} (hQ : ∀ u1, rSame u0 u1 → gtAt u1 g tr l0 (m / 4) → Q none u1) : ∀ (zz : Nat) (j : Nat) (u : rS) (l3 l4 : Option Value) (hS : rSame u0 u) (hG : gtAt u g tr l0 j) (hj : 4 * j ≤ m) (hm : m / 4 - j < zz), rB pr (d + 4) cd_188 none Q 26 [some (.ref 25), some (.int (nI t)), some (.int tr), l3, l4] [] u := by
  intro zz
  induction zz with
  | zero => intro j u l3 l4 hS hG hj hm; exact absurd hm (by omega)
  | succ zz ih =>
    intro j u l3 l4 hS hG hj hm
    refine g_load rfl rfl rfl trivial ?_
    refine r_getf rfl rfl ?_
    refine g_iconst (nI 4) rfl (by decide) ?_
    refine g_iadd rfl ?_
    refine g_load rfl rfl rfl trivial ?_
    refine r_getf rfl rfl ?_
    refine g_load rfl rfl rfl trivial ?_
    refine r_ia (t) rfl ⟨by decide, by decide, rfl⟩ rfl (by show _ < 10; omega) ?_
    rw [hG.2.1, nI_add, hS.2.2.2 32 (by decide), hm0]
    refine g_icmp_gt rfl (fun c1 => ?_) (fun c1 => ?_)
    · rw [nI_ltI (by omega) (by omega)] at c1
      have hjm : j = m / 4 := by omega
      refine g_ret rfl rfl (Nat.le_refl _) (Nat.le_refl _) (hQ u hS (hjm ▸ hG))
    rw [nI_ltI (by omega) (by omega)] at c1
    refine g_iconst (nI 0) rfl (by decide) ?_
    refine g_store [some (.ref 25), some (.int (nI t)), some (.int tr), some (.int (nI 0)), l4] rfl rfl trivial (Nat.le_of_ble_eq_true rfl) (by cases l4 <;> rfl) ?_
    refine g_iconst (nI 1) rfl (by decide) ?_
    refine g_store [some (.ref 25), some (.int (nI t)), some (.int tr), some (.int (nI 0)), some (.int (nI 1))] rfl rfl trivial (Nat.le_of_ble_eq_true rfl) rfl ?_
    refine r_goThrough_i t j g tr ht (by omega) ((rSame_gf hS t).trans hg) hG.2.1 ?_ 4 0 (by omega) (by omega)
    have hld := ldF_lt (g := g) (tr := tr) hl0 j
    have hbl := bst_le g tr (4 * j) 3
    refine g_load rfl rfl rfl trivial ?_
    refine g_load rfl rfl rfl trivial ?_
    refine r_getf rfl rfl ?_
    refine g_load rfl rfl rfl trivial ?_
    refine g_iadd rfl ?_
    rw [hG.1, nI_add]
    refine g_iconst (nI 4) rfl (by decide) ?_
    refine g_irem rfl (by decide) ?_
    rw [pk_rem (by omega) (by omega) (by omega)]
    refine r_putv rfl (by simp [rIs]) (fun u1 p2 pf po => ?_)
    refine g_load rfl rfl rfl trivial ?_
    refine r_getf rfl rfl ?_
    refine g_load rfl rfl rfl trivial ?_
    refine r_getf rfl rfl ?_
    rw [pf]
    refine g_iconst (nI 2) rfl (by decide) ?_
    refine g_irem rfl (by decide) ?_
    rw [pk_rem (by omega) (by omega) (by omega)]
    refine g_dup2 rfl rfl rfl ?_
    refine r_ia ((ldF g tr l0 j + bst g tr (4 * j) 3) % 4 % 2) rfl ⟨by decide, by decide, rfl⟩ rfl (by show _ < 2; omega) ?_
    refine g_iconst (nI 1) rfl (by decide) ?_
    refine g_iadd rfl ?_
    refine r_iasv ((ldF g tr l0 j + bst g tr (4 * j) 3) % 4 % 2) rfl ⟨by decide, by decide, rfl⟩ rfl (by show _ < 2; omega) (fun u2 q1 q2 q3 q4 => ?_)
    refine g_load rfl rfl rfl trivial ?_
    refine g_dup rfl rfl ?_
    refine r_getf rfl rfl ?_
    refine g_iconst (nI 4) rfl (by decide) ?_
    refine g_iadd rfl ?_
    refine r_putv rfl (by simp [rIs]) (fun u3 s2 sf so => ?_)
    refine g_goto rfl ?_
    refine ih (j + 1) u3 _ _ ?_ ?_ (by omega) (by omega)
    · refine hS.tr ⟨?_, ?_, ?_, fun a ha => ?_⟩
      · rw [so 0 (by decide), q1, po 0 (by decide)]
      · rw [so 1 (by decide), q1, po 1 (by decide)]
      · rw [so 22 (by decide), q1, po 22 (by decide)]
      · rw [s2, q2 a (by omega), p2]
    · have hl' : ldF g tr l0 (j + 1) = (ldF g tr l0 j + bst g tr (4 * j) 3) % 4 := rfl
      have hw : ∀ x, x < 2 → u3.2 47 x = nI (wnF g tr l0 x (j + 1)) := by
        intro x hx
        have hx0 : u.2 47 x = nI (wnF g tr l0 x j) := by
          rcases (show x = 0 ∨ x = 1 by omega) with rfl | rfl
          · exact hG.2.2.1
          · exact hG.2.2.2
        rw [s2]
        by_cases hxe : x = (ldF g tr l0 j + bst g tr (4 * j) 3) % 4 % 2
        · rw [← hxe] at q3
          rw [q3, p2, hx0, nI_add]
          simp only [wnF, hl', ← hxe, if_true]
        · rw [q4 x hxe, p2, hx0]
          have hxe' : ¬ (ldF g tr l0 j + bst g tr (4 * j) 3) % 4 % 2 = x := fun q => hxe q.symm
          simp only [wnF, hl', if_neg hxe', Nat.add_zero]
      refine ⟨?_, ?_, hw 0 (by omega), hw 1 (by omega)⟩
      · rw [so 25 (by decide), q1, pf, hl']
      · rw [sf, q1, po 26 (by decide), hG.2.1, nI_add]
        congr 1
set_option maxRecDepth 20000 in
theorem r_goThrough {pr : aC} {d : Nat} {u : rS} (t n b bd m : Nat) (ht : t < 10) (hc : u.2 31 t = nI n) (hn : n ≤ 340) (hb : last ge3 (cf u t) n = some b) (hbd : u.2 29 t = nI (bd + 1)) (hbd2 : bd < 36) (hm0 : u.2 32 t = nI m) (hm52 : m ≤ 52) {Q : Option Value → rS → Prop} (hQ : ∀ u1, rSame u u1 → gtAt u1 (gf u t) (stF (cf u t) b) ((dcN (cf u t) (bd % 4) b + 1) % 4) (m / 4) → Q none u1) : rR pr (d + 4 + 1) 188 [.ref 25, .int (nI t)] u Q := by
  refine gR_of mi_188 rFr_rf rfl (Nat.le_of_ble_eq_true rfl) ?_
  show rB pr (d + 4) cd_188 none Q 0 [some (.ref 25), some (.int (nI t)), none, none, none] [] u
  refine g_load rfl rfl rfl trivial ?_
  refine g_load rfl rfl rfl trivial ?_
  refine g_virtI (a := 25) (ci := 8) (n := 1) [.int (nI t)] rFr_tr rfl rfl (by decide) rfl r_this rfl (Nat.le_of_ble_eq_true rfl) (Nat.le_refl _) (Nat.le_refl _) (r_strain t n b ht hc hn hb ⟨_, rfl, ?_⟩)
  refine g_store [some (.ref 25), some (.int (nI t)), some (.int (stF (cf u t) b)), none, none] rfl rfl trivial (Nat.le_of_ble_eq_true rfl) rfl ?_
  refine g_load rfl rfl rfl trivial ?_
  refine g_load rfl rfl rfl trivial ?_
  refine g_load rfl rfl rfl trivial ?_
  refine g_virtI (a := 25) (ci := 8) (n := 1) [.int (nI t)] rFr_tr rfl rfl (by decide) rfl r_this rfl (Nat.le_of_ble_eq_true rfl) (Nat.le_refl _) (Nat.le_refl _) (r_declarer t n b bd ht hc hn hb hbd hbd2 ⟨_, rfl, ?_⟩)
  obtain ⟨hd1, hd4⟩ := dcF_N (dl := bd % 4) (last_lt hb).2
  rw [hd1]
  refine g_iconst (nI 1) rfl (by decide) ?_
  refine g_iadd rfl ?_
  rw [nI_add]
  refine g_iconst (nI 4) rfl (by decide) ?_
  refine g_irem rfl (by decide) ?_
  rw [pk_rem (by omega) (by omega) (by omega)]
  refine r_putv rfl (by simp [rIs]) (fun u1 p2 pf po => ?_)
  refine g_load rfl rfl rfl trivial ?_
  refine g_iconst (nI 0) rfl (by decide) ?_
  refine r_putv rfl (by simp [rIs]) (fun u2 q2 qf qo => ?_)
  refine g_load rfl rfl rfl trivial ?_
  refine r_getf rfl rfl ?_
  refine g_iconst (nI 0) rfl (by decide) ?_
  refine g_iconst (nI 0) rfl (by decide) ?_
  refine r_iasv (0) rfl ⟨by decide, by decide, rfl⟩ rfl (by decide) (fun u3 r1 r2 r3 r4 => ?_)
  refine g_load rfl rfl rfl trivial ?_
  refine r_getf rfl rfl ?_
  refine g_iconst (nI 1) rfl (by decide) ?_
  refine g_iconst (nI 0) rfl (by decide) ?_
  refine r_iasv (1) rfl ⟨by decide, by decide, rfl⟩ rfl (by decide) (fun u4 s1 s2 s3 s4 => ?_)
  refine r_goThrough_l t m (gf u t) (stF (cf u t) b) ((dcN (cf u t) (bd % 4) b + 1) % 4) (u0 := u) ht rfl (by omega) hm0 hm52 hQ (m / 4 + 1) 0 u4 none none ?_ ?_ (by omega) (by omega)
  · refine ⟨?_, ?_, ?_, fun a ha => ?_⟩
    · rw [s1, r1, qo 0 (by decide), po 0 (by decide)]
    · rw [s1, r1, qo 1 (by decide), po 1 (by decide)]
    · rw [s1, r1, qo 22 (by decide), po 22 (by decide)]
    · rw [s2 a (by omega), r2 a (by omega), q2, p2]
  · refine ⟨?_, ?_, ?_, ?_⟩
    · rw [s1, r1, qo 25 (by decide), pf]; rfl
    · rw [s1, r1, qf]
    · rw [s4 0 (by decide), r3]; rfl
    · rw [s3]; rfl
set_option maxRecDepth 20000 in
theorem r_turn_p {pr : aC} {d : Nat} {u : rS} (t n b bd m : Nat) (ht : t < 10) (hc : u.2 31 t = nI n) (hn : n ≤ 340) (hb : last ge3 (cf u t) n = some b) (hbd : u.2 29 t = nI (bd + 1)) (hbd2 : bd < 36) (hm0 : u.2 32 t = nI m) (hm52 : m ≤ 52) (hph : ¬ u.2 28 t = nI 1) {Q : Option Value → rS → Prop} (hQ : ∀ u1, rSame u u1 → gtAt u1 (gf u t) (stF (cf u t) b) ((dcN (cf u t) (bd % 4) b + 1) % 4) (m / 4) → Q (some (.int (nI ((ldF (gf u t) (stF (cf u t) b) ((dcN (cf u t) (bd % 4) b + 1) % 4) (m / 4) + m % 4) % 4)))) u1) : rR pr (d + 5 + 1) 189 [.ref 25, .int (nI t)] u Q := by
  refine gR_of mi_189 rFr_rf rfl (Nat.le_of_ble_eq_true rfl) ?_
  show rB pr (d + 5) cd_189 (Option.some Jvm.ClassFile.FieldType.int) Q 0 [some (.ref 25), some (.int (nI t))] [] u
  refine g_load rfl rfl rfl trivial ?_
  refine r_getf rfl rfl ?_
  refine g_load rfl rfl rfl trivial ?_
  refine r_ia (t) rfl ⟨by decide, by decide, rfl⟩ rfl (by show _ < 10; omega) ?_
  refine g_iconst (nI 1) rfl (by decide) ?_
  refine g_icmp_ne rfl (fun c1 => ?_) (fun c1 => ?_)
  · refine g_load rfl rfl rfl trivial ?_
    refine g_load rfl rfl rfl trivial ?_
    refine g_virtV (a := 25) (ci := 8) (n := 1) [.int (nI t)] rFr_tr rfl rfl (by decide) rfl r_this rfl (Nat.le_of_ble_eq_true rfl) (Nat.le_refl _) (Nat.le_refl _) (r_goThrough t n b bd m ht hc hn hb hbd hbd2 hm0 hm52 (fun u1 hS hG => ⟨rfl, ?_⟩))
    refine g_load rfl rfl rfl trivial ?_
    refine r_getf rfl rfl ?_
    refine g_load rfl rfl rfl trivial ?_
    refine r_getf rfl rfl ?_
    refine g_load rfl rfl rfl trivial ?_
    refine r_ia (t) rfl ⟨by decide, by decide, rfl⟩ rfl (by show _ < 10; omega) ?_
    rw [hS.2.2.2 32 (by decide), hm0, hG.1]
    refine g_iadd rfl ?_
    rw [nI_add]
    refine g_load rfl rfl rfl trivial ?_
    refine r_getf rfl rfl ?_
    rw [hG.2.1]
    refine g_isub rfl ?_
    have hld := ldF_lt (g := gf u t) (tr := stF (cf u t) b) (show (dcN (cf u t) (bd % 4) b + 1) % 4 < 4 by omega) (m / 4)
    rw [pk_sub (by omega)]
    refine g_iconst (nI 4) rfl (by decide) ?_
    refine g_irem rfl (by decide) ?_
    rw [pk_rem (by omega) (by omega) (by omega)]
    refine g_vret rfl trivial ⟨rfl, rfl⟩ (Nat.le_refl _) (Nat.le_refl _) ?_
    have e1 : ldF (gf u t) (stF (cf u t) b) ((dcN (cf u t) (bd % 4) b + 1) % 4) (m / 4) + m - 4 * (m / 4) = ldF (gf u t) (stF (cf u t) b) ((dcN (cf u t) (bd % 4) b + 1) % 4) (m / 4) + m % 4 := by omega
    rw [e1]
    exact hQ u1 hS hG
  · exact absurd c1 hph
set_option maxRecDepth 20000 in
theorem r_turn_a {pr : aC} {d : Nat} {u : rS} (t n bd : Nat) (ht : t < 10) (hc : u.2 31 t = nI n) (hn : n < 340) (hbd : u.2 29 t = nI (bd + 1)) (hbd2 : bd < 36) (hph : u.2 28 t = nI 1) {Q : Option Value → rS → Prop} (hQ : Q (some (.int (nI ((bd % 4 + n) % 4)))) u) : rR pr (d + 2 + 1) 189 [.ref 25, .int (nI t)] u Q := by
  refine gR_of mi_189 rFr_rf rfl (Nat.le_of_ble_eq_true rfl) ?_
  show rB pr (d + 2) cd_189 (Option.some Jvm.ClassFile.FieldType.int) Q 0 [some (.ref 25), some (.int (nI t))] [] u
  refine g_load rfl rfl rfl trivial ?_
  refine r_getf rfl rfl ?_
  refine g_load rfl rfl rfl trivial ?_
  refine r_ia (t) rfl ⟨by decide, by decide, rfl⟩ rfl (by show _ < 10; omega) ?_
  refine g_iconst (nI 1) rfl (by decide) ?_
  refine g_icmp_ne rfl (fun c1 => ?_) (fun c1 => ?_)
  · exact absurd hph c1
  · refine g_load rfl rfl rfl trivial ?_
    refine g_load rfl rfl rfl trivial ?_
    refine g_load rfl rfl rfl trivial ?_
    refine r_getf rfl rfl ?_
    refine g_load rfl rfl rfl trivial ?_
    refine r_ia (t) rfl ⟨by decide, by decide, rfl⟩ rfl (by show _ < 10; omega) ?_
    rw [hc]
    refine g_virtI (a := 25) (ci := 8) (n := 2) [.int (nI t), .int (nI n)] rFr_tr rfl rfl (by decide) rfl r_this rfl (Nat.le_of_ble_eq_true rfl) (Nat.le_refl _) (Nat.le_refl _) (r_callerOf t n bd ht hn hbd hbd2 ⟨_, rfl, ?_⟩)
    refine g_vret rfl trivial ⟨rfl, rfl⟩ (Nat.le_refl _) (Nat.le_refl _) ?_
    exact hQ
set_option maxRecDepth 20000 in
theorem r_wasPlayed_l {pr : aC} {d : Nat} {u : rS} (t m : Nat) (c : Int32) (ht : t < 10) (hm0 : u.2 32 t = nI m) (hm52 : m ≤ 52) {Q : Option Value → rS → Prop} (hQ : Q (some (.int (bI (anyN (fun k => decide (gf u t k = c)) m)))) u) : ∀ (zz : Nat) (i : Nat) (hm : m - i < zz) (hle : i ≤ m) (hinv : ∀ x, x < i → decide (gf u t x = c) = false), rB pr (d) cd_190 (Option.some Jvm.ClassFile.FieldType.boolean) Q 2 [some (.ref 25), some (.int (nI t)), some (.int c), some (.int (nI i))] [] u := by
  intro zz
  induction zz with
  | zero => intro i hm hle hinv; exact absurd hm (by omega)
  | succ zz ih =>
    intro i hm hle hinv
    refine g_load rfl rfl rfl trivial ?_
    refine g_load rfl rfl rfl trivial ?_
    refine r_getf rfl rfl ?_
    refine g_load rfl rfl rfl trivial ?_
    refine r_ia (t) rfl ⟨by decide, by decide, rfl⟩ rfl (by show _ < 10; omega) ?_
    rw [hm0]
    refine g_icmp_ge rfl (fun c1 => ?_) (fun c1 => ?_)
    · rw [nI_leI (by omega) (by omega)] at c1
      rw [anyN_f (fun x h => hinv x (by omega))] at hQ
      refine g_iconst (nI 0) rfl (by decide) ?_
      exact g_vret rfl trivial ⟨by decide, by decide⟩ (Nat.le_refl _) (Nat.le_refl _) hQ
    rw [nI_leI (by omega) (by omega)] at c1
    refine g_load rfl rfl rfl trivial ?_
    refine r_getf rfl rfl ?_
    refine g_bipush (nI 52) rfl (by decide) ?_
    refine g_load rfl rfl rfl trivial ?_
    refine g_imul rfl ?_
    refine g_load rfl rfl rfl trivial ?_
    refine g_iadd rfl ?_
    refine r_ia (52 * t + i) rfl ⟨by decide, by decide, rfl⟩ (by rw [pk_mul, nI_add]) (by show _ < 520; omega) ?_
    refine g_load rfl rfl rfl trivial ?_
    refine g_icmp_ne rfl (fun c1 => ?_) (fun c1 => ?_)
    · have hf : decide (gf u t i = c) = false := decide_eq_false c1
      refine g_iinc (nI (i + 1)) [some (.ref 25), some (.int (nI t)), some (.int c), some (.int (nI (i + 1)))] rfl rfl (nI_1 i) rfl ?_
      refine g_goto rfl ?_
      exact ih (i + 1) (by omega) (by omega) (fun x hx => by
        rcases Nat.lt_succ_iff_lt_or_eq.mp hx with h | h
        · exact hinv x h
        · exact h ▸ hf)
    · rw [anyN_t (i := i) (by omega) (decide_eq_true c1)] at hQ
      refine g_iconst (nI 1) rfl (by decide) ?_
      refine g_vret rfl trivial (by first | exact ⟨by decide, by decide⟩ | trivial) (Nat.le_refl _) (Nat.le_refl _) ?_
      exact hQ
set_option maxRecDepth 20000 in
theorem r_wasPlayed {pr : aC} {d : Nat} {u : rS} (t m : Nat) (c : Int32) (ht : t < 10) (hm0 : u.2 32 t = nI m) (hm52 : m ≤ 52) {Q : Option Value → rS → Prop} (hQ : Q (some (.int (bI (anyN (fun k => decide (gf u t k = c)) m)))) u) : rR pr (d + 1) 190 [.ref 25, .int (nI t), .int c] u Q := by
  refine gR_of mi_190 rFr_rf rfl (Nat.le_of_ble_eq_true rfl) ?_
  show rB pr (d) cd_190 (Option.some Jvm.ClassFile.FieldType.boolean) Q 0 [some (.ref 25), some (.int (nI t)), some (.int c), none] [] u
  refine g_iconst (nI 0) rfl (by decide) ?_
  refine g_store [some (.ref 25), some (.int (nI t)), some (.int c), some (.int (nI 0))] rfl rfl trivial (Nat.le_of_ble_eq_true rfl) rfl ?_
  exact r_wasPlayed_l t m c ht hm0 hm52 hQ (m + 1) 0 (by omega) (by omega) (fun x h => absurd h (by omega))
def hdF (u : rS) (t m : Nat) (s c : Int32) : Bool := decide (handF u (u.2 29 t) c = s) && !(anyN (fun k => decide (gf u t k = c)) m)
set_option maxRecDepth 20000 in
theorem r_holds {pr : aC} {d : Nat} {u : rS} (t m nb : Nat) (s c : Int32) (ht : t < 10) (h0 : u.1 0 = nI nb) (hnb : nb ≤ 36) (hm0 : u.2 32 t = nI m) (hm52 : m ≤ 52) {Q : Option Value → rS → Prop} (hQ : Q (some (.int (bI (hdF u t m s c)))) u) : rR pr (d + 3 + 1) 191 [.ref 25, .int (nI t), .int s, .int c] u Q := by
  refine gR_of mi_191 rFr_rf rfl (Nat.le_of_ble_eq_true rfl) ?_
  show rB pr (d + 3) cd_191 (Option.some Jvm.ClassFile.FieldType.boolean) Q 0 [some (.ref 25), some (.int (nI t)), some (.int s), some (.int c)] [] u
  refine g_load rfl rfl rfl trivial ?_
  refine g_load rfl rfl rfl trivial ?_
  refine r_getf rfl rfl ?_
  refine g_load rfl rfl rfl trivial ?_
  refine r_ia (t) rfl ⟨by decide, by decide, rfl⟩ rfl (by show _ < 10; omega) ?_
  refine g_load rfl rfl rfl trivial ?_
  refine g_virtI (a := 25) (ci := 8) (n := 2) [.int (u.2 29 t), .int c] rFr_tr rfl rfl (by decide) rfl r_this rfl (Nat.le_of_ble_eq_true rfl) (Nat.le_refl _) (Nat.le_refl _) (r_hand (u.2 29 t) c nb h0 hnb ⟨_, rfl, ?_⟩)
  refine g_load rfl rfl rfl trivial ?_
  refine g_icmp_ne rfl (fun c1 => ?_) (fun c1 => ?_)
  · have hh : hdF u t m s c = false := by unfold hdF; rw [decide_eq_false c1]; rfl
    refine g_iconst (nI 0) rfl (by decide) ?_
    refine g_vret rfl trivial (by first | exact ⟨by decide, by decide⟩ | trivial) (Nat.le_refl _) (Nat.le_refl _) ?_
    rw [hh] at hQ
    exact hQ
  · refine g_load rfl rfl rfl trivial ?_
    refine g_load rfl rfl rfl trivial ?_
    refine g_load rfl rfl rfl trivial ?_
    refine g_virtI (a := 25) (ci := 8) (n := 2) [.int (nI t), .int c] rFr_tr rfl rfl (by decide) rfl r_this rfl (Nat.le_of_ble_eq_true rfl) (Nat.le_refl _) (Nat.le_refl _) (r_wasPlayed t m c ht hm0 hm52 ⟨_, rfl, ?_⟩)
    refine g_if_ne rfl (fun c2 => ?_) (fun c2 => ?_)
    · rw [bI_ne] at c2
      have hh : hdF u t m s c = false := by unfold hdF; rw [c2]; simp
      refine g_iconst (nI 0) rfl (by decide) ?_
      refine g_vret rfl trivial (by first | exact ⟨by decide, by decide⟩ | trivial) (Nat.le_refl _) (Nat.le_refl _) ?_
      rw [hh] at hQ
      exact hQ
    · rw [bI_eq] at c2
      have hh : hdF u t m s c = true := by unfold hdF; rw [c2, decide_eq_true c1]; rfl
      refine g_iconst (nI 1) rfl (by decide) ?_
      refine g_goto rfl ?_
      refine g_vret rfl trivial (by first | exact ⟨by decide, by decide⟩ | trivial) (Nat.le_refl _) (Nat.le_refl _) ?_
      rw [hh] at hQ
      exact hQ
