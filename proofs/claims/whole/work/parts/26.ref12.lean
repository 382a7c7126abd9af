/-! ===== the reference: deal ===== -/
def sdN (seed : Int32) : Nat → Int32
  | 0 => seed
  | n + 1 => sdN seed n * 1103515245 + nI 12345
def jN (s : Int32) (i : Nat) : Nat := s.toBitVec.toNat / 65536 % (i + 1)
def swp (f : Nat → Int32) (i j : Nat) : Nat → Int32 := upd (upd f i (f j)) j (f i)
/-- the row behind n exchanges -/
def rwN (seed : Int32) : Nat → Nat → Int32
  | 0 => nI
  | n + 1 => swp (rwN seed n) (51 - n) (jN (sdN seed (n + 1)) (51 - n))
/-- a row of all cards -/
def rowOk (f : Nat → Int32) : Prop := cdOk f 52 ∧ ∀ x y, x < 52 → y < 52 → cN f x = cN f y → x = y
theorem rowOk_0 : rowOk nI := by
  have h : ∀ i, i < 52 → cN nI i = i := fun i hi => by unfold cN; exact nI_clamp (by omega)
  refine ⟨fun i hi => ?_, fun x y hx hy e => ?_⟩
  · rw [h i hi]; exact ⟨hi, rfl⟩
  · rw [h x hx, h y hy] at e; exact e
theorem swp_at (f : Nat → Int32) {i j k : Nat} : swp f i j k = f (if k = j then i else if k = i then j else k) := by
  unfold swp upd
  by_cases h1 : k = j
  · simp [h1]
  · by_cases h2 : k = i
    · subst h2; simp [h1]
    · simp [h1, h2]
theorem rowOk_swp {f : Nat → Int32} (h : rowOk f) {i j : Nat} (hi : i < 52) (hj : j < 52) : rowOk (swp f i j) := by
  have hc : ∀ k, cN (swp f i j) k = cN f (if k = j then i else if k = i then j else k) := fun k => by unfold cN; rw [swp_at]
  have hb : ∀ k, k < 52 → (if k = j then i else if k = i then j else k) < 52 := fun k hk => by split <;> (try split) <;> omega
  refine ⟨fun k hk => ?_, fun x y hx hy e => ?_⟩
  · rw [hc, swp_at]; exact h.1 _ (hb k hk)
  · rw [hc, hc] at e
    have := h.2 _ _ (hb x hx) (hb y hy) e
    split at this <;> split at this <;> (try split at this) <;> (try split at this) <;> omega
theorem rowOk_N (seed : Int32) : ∀ n, n ≤ 51 → rowOk (rwN seed n)
  | 0, _ => rowOk_0
  | n + 1, h => rowOk_swp (rowOk_N seed n (by omega)) (by omega) (by have := Nat.mod_lt ((sdN seed (n + 1)).toBitVec.toNat / 65536) (show 0 < 51 - n + 1 by omega); unfold jN; omega)
theorem jN_eq (s : Int32) (i : Nat) (hi : i < 52) : (s.toUInt32 >>> ((nI 16).toUInt32 &&& Int32.toUInt32 31)).toInt32 - (s.toUInt32 >>> ((nI 16).toUInt32 &&& Int32.toUInt32 31)).toInt32 / nI (i + 1) * nI (i + 1) = nI (jN s i) := by
  have h1 : (s.toUInt32 >>> ((nI 16).toUInt32 &&& Int32.toUInt32 31)).toInt32 = nI (s.toBitVec.toNat / 65536) := by
    apply Int32.toBitVec_inj.mp
    apply BitVec.eq_of_toNat_eq
    rw [pk_ushr s (nI 16) 16 (by decide), pk_tn (by have := s.toBitVec.isLt; omega)]
  rw [h1, pk_rem (by have := s.toBitVec.isLt; omega) (by omega) (by omega)]
  rfl
/-- while a board is dealt: only the free row (46) has changed, and holds f -/
def dSt (u0 u : rS) (f : Nat → Int32) : Prop := u.1 = u0.1 ∧ (∀ b, b ≠ 46 → u.2 b = u0.2 b) ∧ ∀ k, k < 52 → u.2 46 k = f k
set_option maxRecDepth 20000 in
theorem r_deal_1 {pr : aC} {d : Nat} {u0 : rS} (seed : Int32) {Q : Option Value → rS → Prop} (hQ : ∀ u, dSt u0 u nI → rB pr d cd_161 (some .int) Q 20 [some (.ref 25), some (.int seed), some (.ref 46), some (.int (nI 52)), none, none, none] [] u) : ∀ (zz : Nat) (x : Nat) (u : rS) (h1 : u.1 = u0.1) (h2 : ∀ b, b ≠ 46 → u.2 b = u0.2 b) (h3 : ∀ k, k < x → u.2 46 k = nI k) (hm : 52 - x < zz) (hle : x ≤ 52), rB pr (d) cd_161 (Option.some Jvm.ClassFile.FieldType.int) Q 11 [some (.ref 25), some (.int seed), some (.ref 46), some (.int (nI x)), none, none, none] [] u := by
  intro zz
  induction zz with
  | zero => intro x u h1 h2 h3 hm hle; exact absurd hm (by omega)
  | succ zz ih =>
    intro x u h1 h2 h3 hm hle
    refine g_load rfl rfl rfl trivial ?_
    refine g_bipush (nI 52) rfl (by decide) ?_
    refine g_icmp_ge rfl (fun c1 => ?_) (fun c1 => ?_)
    · rw [nI_leI (by omega) (by omega)] at c1
      have hx : x = 52 := by omega
      subst hx
      exact hQ u ⟨h1, h2, h3⟩
    · rw [nI_leI (by omega) (by omega)] at c1
      refine g_load rfl rfl rfl trivial ?_
      refine g_load rfl rfl rfl trivial ?_
      refine g_load rfl rfl rfl trivial ?_
      refine r_iasv (x) rfl ⟨by decide, by decide, rfl⟩ rfl (by show _ < 52; omega) (fun u1 q1 q2 q3 q4 => ?_)
      refine g_iinc (nI (x + 1)) [some (.ref 25), some (.int seed), some (.ref 46), some (.int (nI (x + 1))), none, none, none] rfl rfl (nI_1 x) rfl ?_
      refine g_goto rfl ?_
      exact ih (x + 1) u1 (q1.trans h1) (fun b hb => (q2 b hb).trans (h2 b hb)) (fun k hk => by
        by_cases hkx : k = x
        · subst hkx; exact q3
        · rw [q4 k hkx]; exact h3 k (by omega)) (by omega) (by omega)
set_option maxRecDepth 20000 in
theorem r_deal_2 {pr : aC} {d : Nat} {u0 : rS} (seed : Int32) {Q : Option Value → rS → Prop} (hQ : ∀ u l5 l6, dSt u0 u (rwN seed 51) → rB pr d cd_161 (some .int) Q 56 [some (.ref 25), some (.int seed), some (.ref 46), some (.int (sdN seed 51)), some (.int (nI 0)), l5, l6] [] u) : ∀ (zz : Nat) (x : Nat) (u : rS) (l5 l6 : Option Value) (hD : dSt u0 u (rwN seed x)) (hm : 51 - x < zz) (hle : x ≤ 51), rB pr (d) cd_161 (Option.some Jvm.ClassFile.FieldType.int) Q 24 [some (.ref 25), some (.int seed), some (.ref 46), some (.int (sdN seed x)), some (.int (nI (51 - x))), l5, l6] [] u := by
  intro zz
  induction zz with
  | zero => intro x u l5 l6 hD hm hle; exact absurd hm (by omega)
  | succ zz ih =>
    intro x u l5 l6 hD hm hle
    refine g_load rfl rfl rfl trivial ?_
    refine g_if_le rfl (fun c1 => ?_) (fun c1 => ?_)
    · rw [← nI_0, nI_leI (by omega) (by omega)] at c1
      have hx : x = 51 := by omega
      subst hx
      exact hQ u l5 l6 hD
    · rw [← nI_0, nI_leI (by omega) (by omega)] at c1
      refine g_load rfl rfl rfl trivial ?_
      refine g_ldc (1103515245) rfl ⟨_, Or.inl rfl⟩ (by decide) ?_
      refine g_imul rfl ?_
      refine g_sipush (nI 12345) rfl (by decide) ?_
      refine g_iadd rfl ?_
      refine g_store [some (.ref 25), some (.int seed), some (.ref 46), some (.int (sdN seed (x + 1))), some (.int (nI (51 - x))), l5, l6] rfl rfl trivial (Nat.le_of_ble_eq_true rfl) rfl ?_
      refine g_load rfl rfl rfl trivial ?_
      refine g_bipush (nI 16) rfl (by decide) ?_
      refine g_iushr rfl ?_
      refine g_load rfl rfl rfl trivial ?_
      refine g_iconst (nI 1) rfl (by decide) ?_
      refine g_iadd rfl ?_
      rw [nI_add]
      refine g_irem rfl (by rw [← nI_0, nI_eq (by omega) (by omega)]; omega) ?_
      rw [jN_eq _ _ (by omega)]
      have hj : jN (sdN seed (x + 1)) (51 - x) < 51 - x + 1 := Nat.mod_lt _ (by omega)
      refine g_store [some (.ref 25), some (.int seed), some (.ref 46), some (.int (sdN seed (x + 1))), some (.int (nI (51 - x))), some (.int (nI (jN (sdN seed (x + 1)) (51 - x)))), l6] rfl rfl trivial (Nat.le_of_ble_eq_true rfl) rfl ?_
      refine g_load rfl rfl rfl trivial ?_
      refine g_load rfl rfl rfl trivial ?_
      refine r_ia (51 - x) rfl ⟨by decide, by decide, rfl⟩ rfl (by show _ < 52; omega) ?_
      rw [hD.2.2 (51 - x) (by omega)]
      refine g_store [some (.ref 25), some (.int seed), some (.ref 46), some (.int (sdN seed (x + 1))), some (.int (nI (51 - x))), some (.int (nI (jN (sdN seed (x + 1)) (51 - x)))), some (.int (rwN seed x (51 - x)))] rfl rfl trivial (Nat.le_of_ble_eq_true rfl) rfl ?_
      refine g_load rfl rfl rfl trivial ?_
      refine g_load rfl rfl rfl trivial ?_
      refine g_load rfl rfl rfl trivial ?_
      refine g_load rfl rfl rfl trivial ?_
      refine r_ia (jN (sdN seed (x + 1)) (51 - x)) rfl ⟨by decide, by decide, rfl⟩ rfl (by show _ < 52; omega) ?_
      rw [hD.2.2 (jN (sdN seed (x + 1)) (51 - x)) (by omega)]
      refine r_iasv (51 - x) rfl ⟨by decide, by decide, rfl⟩ rfl (by show _ < 52; omega) (fun u1 q1 q2 q3 q4 => ?_)
      refine g_load rfl rfl rfl trivial ?_
      refine g_load rfl rfl rfl trivial ?_
      refine g_load rfl rfl rfl trivial ?_
      refine r_iasv (jN (sdN seed (x + 1)) (51 - x)) rfl ⟨by decide, by decide, rfl⟩ rfl (by show _ < 52; omega) (fun u2 s1 s2 s3 s4 => ?_)
      refine g_iinc (nI (51 - (x + 1))) [some (.ref 25), some (.int seed), some (.ref 46), some (.int (sdN seed (x + 1))), some (.int (nI (51 - (x + 1)))), some (.int (nI (jN (sdN seed (x + 1)) (51 - x)))), some (.int (rwN seed x (51 - x)))] rfl rfl (by rw [show 51 - x = 51 - (x + 1) + 1 by omega]; exact pk_m1 _) rfl ?_
      refine g_goto rfl ?_
      refine ih (x + 1) u2 _ _ ⟨s1.trans (q1.trans hD.1), fun b hb => (s2 b hb).trans ((q2 b hb).trans (hD.2.1 b hb)), fun k hk => ?_⟩ (by omega) (by omega)
      show u2.2 46 k = swp (rwN seed x) (51 - x) (jN (sdN seed (x + 1)) (51 - x)) k
      unfold swp upd
      by_cases h1 : k = jN (sdN seed (x + 1)) (51 - x)
      · rw [if_pos h1, h1, s3]
      · rw [if_neg h1, s4 k h1]
        by_cases h2 : k = 51 - x
        · rw [if_pos h2, h2, q3]
        · rw [if_neg h2, q4 k h2, hD.2.2 k hk]
/-- what a deal leaves -/
def dealt (u u' : rS) (nb : Nat) (f : Nat → Int32) (k : Nat) : Prop := u'.1 = u.1 ∧ (∀ a, a ≠ 26 → a ≠ 46 → u'.2 a = u.2 a) ∧ (∀ z, z < 52 * nb → u'.2 26 z = u.2 26 z) ∧ ∀ x, x < k → u'.2 26 (52 * nb + cN f x) = nI (x % 4)
set_option maxRecDepth 20000 in
theorem r_deal_3 {pr : aC} {d : Nat} {u0 : rS} (seed : Int32) (nb : Nat) (f : Nat → Int32) (h0 : u0.1 0 = nI nb) (hnb : nb < 36) (hf : rowOk f) {Q : Option Value → rS → Prop} (s3 : Int32) (hQ : ∀ u l4 l5 l6, dealt u0 u nb f 52 → rB pr d cd_161 (some .int) Q 77 [some (.ref 25), some (.int seed), some (.ref 46), some (.int s3), l4, l5, l6] [] u) : ∀ (zz : Nat) (x : Nat) (u : rS) (l5 l6 : Option Value) (hD : dealt u0 u nb f x) (hr : ∀ k, k < 52 → u.2 46 k = f k) (hm : 52 - x < zz) (hle : x ≤ 52), rB pr (d) cd_161 (Option.some Jvm.ClassFile.FieldType.int) Q 58 [some (.ref 25), some (.int seed), some (.ref 46), some (.int s3), some (.int (nI x)), l5, l6] [] u := by
  intro zz
  induction zz with
  | zero => intro x u l5 l6 hD hr hm hle; exact absurd hm (by omega)
  | succ zz ih =>
    intro x u l5 l6 hD hr hm hle
    refine g_load rfl rfl rfl trivial ?_
    refine g_bipush (nI 52) rfl (by decide) ?_
    refine g_icmp_ge rfl (fun c1 => ?_) (fun c1 => ?_)
    · rw [nI_leI (by omega) (by omega)] at c1
      have hx : x = 52 := by omega
      subst hx
      exact hQ u _ _ _ hD
    · rw [nI_leI (by omega) (by omega)] at c1
      have hcx := hf.1 x (by omega)
      refine g_load rfl rfl rfl trivial ?_
      refine r_getf rfl rfl ?_
      refine g_bipush (nI 52) rfl (by decide) ?_
      refine g_load rfl rfl rfl trivial ?_
      refine r_getf rfl rfl ?_
      refine g_imul rfl ?_
      refine g_load rfl rfl rfl trivial ?_
      refine g_load rfl rfl rfl trivial ?_
      refine r_ia (x) rfl ⟨by decide, by decide, rfl⟩ rfl (by show _ < 52; omega) ?_
      rw [hr x (by omega), hcx.2, show u.1 0 = nI nb by rw [hD.1]; exact h0, pk_mul]
      refine g_iadd rfl ?_
      rw [nI_add]
      refine g_load rfl rfl rfl trivial ?_
      refine g_iconst (nI 4) rfl (by decide) ?_
      refine g_irem rfl (by decide) ?_
      rw [pk_rem (by omega) (by omega) (by omega)]
      refine r_iasv (52 * nb + cN f x) rfl ⟨by decide, by decide, rfl⟩ rfl (by show _ < 1872; omega) (fun u1 q1 q2 q3 q4 => ?_)
      refine g_iinc (nI (x + 1)) [some (.ref 25), some (.int seed), some (.ref 46), some (.int s3), some (.int (nI (x + 1))), l5, l6] rfl rfl (nI_1 x) rfl ?_
      refine g_goto rfl ?_
      refine ih (x + 1) u1 _ _ ⟨q1.trans hD.1, fun a h1 h2 => (q2 a h1).trans (hD.2.1 a h1 h2), fun z hz => (q4 z (by omega)).trans (hD.2.2.1 z hz), fun y hy => ?_⟩ (fun k hk => by rw [q2 46 (by decide)]; exact hr k hk) (by omega) (by omega)
      by_cases hyx : y = x
      · subst hyx; exact q3
      · rw [q4 _ (fun q => hyx (hf.2 y x (by omega) (by omega) (by omega)))]
        exact hD.2.2.2 y (by omega)
set_option maxRecDepth 20000 in
theorem r_deal {pr : aC} {d : Nat} {u : rS} (seed : Int32) (nb : Nat) (h0 : u.1 0 = nI nb) (hnb : nb ≤ 36) {Q : Option Value → rS → Prop} (hF : nb = 36 → Q (some (.int (-1))) u) (hT : nb < 36 → ∀ u1 u', dealt u u1 nb (rwN seed 51) 52 → u'.1 = upd u.1 0 (nI (nb + 1)) → u'.2 = rU u1.2 27 nb 0 → Q (some (.int (nI (nb + 1)))) u') : rR pr (d + 1) 161 [.ref 25, .int seed] u Q := by
  refine gR_of mi_161 rFr_rf rfl (Nat.le_of_ble_eq_true rfl) ?_
  show rB pr (d) cd_161 (Option.some Jvm.ClassFile.FieldType.int) Q 0 [some (.ref 25), some (.int seed), none, none, none, none, none] [] u
  refine g_load rfl rfl rfl trivial ?_
  refine r_getf rfl rfl ?_
  refine g_bipush (nI 36) rfl (by decide) ?_
  rw [h0]
  refine g_icmp_ne rfl (fun c1 => ?_) (fun c1 => ?_)
  · rw [nI_eq (by omega) (by omega)] at c1
    refine g_load rfl rfl rfl trivial ?_
    refine r_getf rfl rfl ?_
    refine g_store [some (.ref 25), some (.int seed), some (.ref 46), none, none, none, none] rfl rfl trivial (Nat.le_of_ble_eq_true rfl) rfl ?_
    refine g_iconst (nI 0) rfl (by decide) ?_
    refine g_store [some (.ref 25), some (.int seed), some (.ref 46), some (.int (nI 0)), none, none, none] rfl rfl trivial (Nat.le_of_ble_eq_true rfl) rfl ?_
    refine r_deal_1 seed (fun u1 hD => ?_) 53 0 u rfl (fun _ _ => rfl) (fun k hk => absurd hk (by omega)) (by omega) (by omega)
    refine g_load rfl rfl rfl trivial ?_
    refine g_store [some (.ref 25), some (.int seed), some (.ref 46), some (.int seed), none, none, none] rfl rfl trivial (Nat.le_of_ble_eq_true rfl) rfl ?_
    refine g_bipush (nI 51) rfl (by decide) ?_
    refine g_store [some (.ref 25), some (.int seed), some (.ref 46), some (.int seed), some (.int (nI 51)), none, none] rfl rfl trivial (Nat.le_of_ble_eq_true rfl) rfl ?_
    refine r_deal_2 seed (fun u2 l5 l6 hD2 => ?_) 52 0 u1 none none hD (by omega) (by omega)
    refine g_iconst (nI 0) rfl (by decide) ?_
    refine g_store [some (.ref 25), some (.int seed), some (.ref 46), some (.int (sdN seed 51)), some (.int (nI 0)), l5, l6] rfl rfl trivial (Nat.le_of_ble_eq_true rfl) rfl ?_
    refine r_deal_3 (u0 := u) seed nb (rwN seed 51) h0 (by omega) (rowOk_N seed 51 (by omega)) (sdN seed 51) (fun u3 l4 l5 l6 hD3 => ?_) 53 0 u2 l5 l6 ⟨hD2.1, fun a h1 h2 => hD2.2.1 a h2, fun z hz => by rw [hD2.2.1 26 (by decide)], fun x hx => absurd hx (by omega)⟩ hD2.2.2 (by omega) (by omega)
    have h3 : u3.1 0 = nI nb := by rw [hD3.1]; exact h0
    refine g_load rfl rfl rfl trivial ?_
    refine r_getf rfl rfl ?_
    refine g_load rfl rfl rfl trivial ?_
    refine r_getf rfl rfl ?_
    refine g_iconst (nI 0) rfl (by decide) ?_
    rw [h3]
    refine r_zas (nb) rfl ⟨by decide, by decide, rfl⟩ rfl (by show _ < 36; omega) ?_
    refine g_load rfl rfl rfl trivial ?_
    refine g_dup rfl rfl ?_
    refine r_getf rfl rfl ?_
    refine g_iconst (nI 1) rfl (by decide) ?_
    refine g_iadd rfl ?_
    rw [show ((u3.1, rU u3.2 27 nb (vp_nar .boolean (nI 0))) : rS).1 0 = nI nb from h3, nI_add]
    refine r_puti rfl (by simp [rIs]) ?_
    refine g_load rfl rfl rfl trivial ?_
    refine r_getf rfl rfl ?_
    refine g_vret rfl trivial ⟨rfl, rfl⟩ (Nat.le_refl _) (Nat.le_refl _) ?_
    exact hT (by omega) u3 _ hD3 (by rw [← hD3.1]) (by rfl)
  · rw [nI_eq (by omega) (by omega)] at c1
    have hQ := hF c1
    refine g_iconst (-1) rfl (by decide) ?_
    refine g_vret rfl trivial ⟨rfl, rfl⟩ (Nat.le_refl _) (Nat.le_refl _) ?_
    exact hQ
