/-! ===== the club beside the reference: deal ===== -/
/-- only the pack differs -/
def onP (u v : cS) : Prop := v.kd = u.kd ∧ v.oI = u.oI ∧ v.rL = u.rL ∧ v.rR = u.rR ∧ v.tp = u.tp ∧ ∀ b, b ≠ 20 → v.rI b = u.rI b
theorem onP.rf (u : cS) : onP u u := ⟨rfl, rfl, rfl, rfl, rfl, fun _ _ => rfl⟩
theorem onP.tr {u v w : cS} (h : onP u v) (k : onP v w) : onP u w := ⟨k.1.trans h.1, k.2.1.trans h.2.1, k.2.2.1.trans h.2.2.1, k.2.2.2.1.trans h.2.2.2.1, k.2.2.2.2.1.trans h.2.2.2.2.1, fun b hb => (k.2.2.2.2.2 b hb).trans (h.2.2.2.2.2 b hb)⟩
theorem c_ipk {cl : aC} {cd : List aE} {C S : Nat} {rt : Option FieldType} {Q : Option Value → cS → Prop} {k : Nat} {l : aL} {st : List Value} {u : cS} {c s x y : Nat} {i v : Int32} (n : Nat) (hg : aGet cd k = some (.iastore, x, y)) (hk : u.kd 20 = 7) (hi : i = nI n) (hn : n < 52) (hP : ∀ w, onP u w → w.rI 20 n = v → (∀ z, z ≠ n → w.rI 20 z = u.rI 20 z) → gB CF cFr cl cd C S rt Q (k + 1) l st w c s) : gB CF cFr cl cd C S rt Q k l (.int v :: .int i :: .ref 20 :: st) u c s :=
  c_ias n hg (κ := 7) hk (by decide) (by rfl) hi hn (by decide) (by rfl) (hP (upI u 20 n v) ⟨rfl, rfl, rfl, rfl, rfl, fun _ hb => u2_a u.rI v hb⟩ (u2_s u.rI 20 n v) (fun _ hz => u2_k (a := 20) u.rI v hz))
theorem c_view {Fr : aH → aH → Prop} {cl : aC} {cd : List aE} {C S : Nat} {rt : Option FieldType} {Q : Option Value → cS → Prop} {k : Nat} {l : aL} {st : List Value} {u u' : cS} {c s : Nat} (hv : ∀ h, CF u h → CF u' h) (hP : gB CF Fr cl cd C S rt Q k l st u' c s) : gB CF Fr cl cd C S rt Q k l st u c s :=
  fun h0 h QQ hR hF hQ P hr => hP h0 h QQ (hv h hR) hF hQ P hr
abbrev gW (C S c s : Nat) (pr : aC) (d : Nat) (cd : List aE) (rt : Option FieldType) (Q : Option Value → cS → Prop) (k : Nat) (l : aL) (st : List Value) (u : cS) : Prop := gB CF cFr (aRun pg pr d) cd C S rt Q k l st u c s
set_option maxRecDepth 20000 in
theorem w_shuf_2 {pr : aC} {d : Nat} {u0 : cS} (seed : Int32) (k16 : u0.kd 16 = 10) (k20 : u0.kd 20 = 7) {Q : Option Value → cS → Prop} (hQ : ∀ v, onP u0 v → (∀ k, k < 52 → v.rI 20 k = rwN seed 51 k) → Q none v) : ∀ (zz : Nat) (x : Nat) (u : cS) (l4 l5 : Option Value) (P : onP u0 u) (hD : ∀ k, k < 52 → u.rI 20 k = rwN seed x k) (hm : 51 - x < zz) (hle : x ≤ 51), wB pr (d) cd_138 none Q 22 [some (.ref 16), some (.int seed), some (.int (sdN seed x)), some (.int (nI (51 - x))), l4, l5] [] u := by
  intro zz
  induction zz with
  | zero => intro x u l4 l5 P hD hm hle; exact absurd hm (by omega)
  | succ zz ih =>
    intro x u l4 l5 P hD hm hle
    refine g_load rfl rfl rfl trivial ?_
    refine g_iconst (nI 1) rfl (by decide) ?_
    refine g_icmp_lt rfl (fun c1 => ?_) (fun c1 => ?_)
    · rw [nI_ltI (by omega) (by omega)] at c1
      have e : x = 51 := by omega
      subst e
      have hQ := hQ u P hD
      refine g_ret rfl rfl (Nat.le_refl _) (Nat.le_refl _) ?_
      exact hQ
    · rw [nI_ltI (by omega) (by omega)] at c1
      refine g_load rfl rfl rfl trivial ?_
      refine g_ldc (1103515245) rfl ⟨_, Or.inl rfl⟩ (by decide) ?_
      refine g_imul rfl ?_
      refine g_sipush (nI 12345) rfl (by decide) ?_
      refine g_iadd rfl ?_
      refine g_store [some (.ref 16), some (.int seed), some (.int (sdN seed (x + 1))), some (.int (nI (51 - x))), l4, l5] rfl rfl trivial (Nat.le_of_ble_eq_true rfl) rfl ?_
      refine g_load rfl rfl rfl trivial ?_
      refine g_bipush (nI 16) rfl (by decide) ?_
      refine g_iushr rfl ?_
      refine g_load rfl rfl rfl trivial ?_
      refine g_iconst (nI 1) rfl (by decide) ?_
      refine g_iadd rfl ?_
      rw [nI_add]
      refine g_irem rfl (by rw [← nI_0, nI_eq (by omega) (by omega)]; omega) ?_
      rw [jN_eq _ _ (by omega)]
      have hj : jN (sdN seed (x + 1)) (51 - x) < 51 - x + 1 := Nat.mod_lt _ (by omega)
      refine g_store [some (.ref 16), some (.int seed), some (.int (sdN seed (x + 1))), some (.int (nI (51 - x))), some (.int (nI (jN (sdN seed (x + 1)) (51 - x)))), l5] rfl rfl trivial (Nat.le_of_ble_eq_true rfl) rfl ?_
      refine g_load rfl rfl rfl trivial ?_
      refine c_getf rfl (κ := 10) (by rw [P.1]; exact k16) (by decide) (by rfl) (by rfl) ?_
      refine g_load rfl rfl rfl trivial ?_
      refine c_ia (51 - x) rfl (κ := 7) (by rw [P.1]; exact k20) (by decide) (by rfl) rfl (by omega) (by decide) ?_
      rw [hD (51 - x) (by omega)]
      refine g_store [some (.ref 16), some (.int seed), some (.int (sdN seed (x + 1))), some (.int (nI (51 - x))), some (.int (nI (jN (sdN seed (x + 1)) (51 - x)))), some (.int (rwN seed x (51 - x)))] rfl rfl trivial (Nat.le_of_ble_eq_true rfl) rfl ?_
      refine g_load rfl rfl rfl trivial ?_
      refine c_getf rfl (κ := 10) (by rw [P.1]; exact k16) (by decide) (by rfl) (by rfl) ?_
      refine g_load rfl rfl rfl trivial ?_
      refine g_load rfl rfl rfl trivial ?_
      refine c_getf rfl (κ := 10) (by rw [P.1]; exact k16) (by decide) (by rfl) (by rfl) ?_
      refine g_load rfl rfl rfl trivial ?_
      refine c_ia (jN (sdN seed (x + 1)) (51 - x)) rfl (κ := 7) (by rw [P.1]; exact k20) (by decide) (by rfl) rfl (by omega) (by decide) ?_
      rw [hD (jN (sdN seed (x + 1)) (51 - x)) (by omega)]
      refine c_ipk (51 - x) rfl (by rw [P.1]; exact k20) rfl (by omega) (fun u1 q1 q3 q4 => ?_)
      refine g_load rfl rfl rfl trivial ?_
      refine c_getf rfl (κ := 10) (by rw [q1.1, P.1]; exact k16) (by decide) (by rfl) (by rfl) ?_
      refine g_load rfl rfl rfl trivial ?_
      refine g_load rfl rfl rfl trivial ?_
      refine c_ipk (jN (sdN seed (x + 1)) (51 - x)) rfl (by rw [q1.1, P.1]; exact k20) rfl (by omega) (fun u2 s1 s3 s4 => ?_)
      refine g_iinc (nI (51 - (x + 1))) [some (.ref 16), some (.int seed), some (.int (sdN seed (x + 1))), some (.int (nI (51 - (x + 1)))), some (.int (nI (jN (sdN seed (x + 1)) (51 - x)))), some (.int (rwN seed x (51 - x)))] rfl rfl (by rw [show 51 - x = 51 - (x + 1) + 1 by omega]; exact pk_m1 _) rfl ?_
      refine g_goto rfl ?_
      refine ih (x + 1) u2 _ _ (P.tr (q1.tr s1)) (fun k hk => ?_) (by omega) (by omega)
      show u2.rI 20 k = swp (rwN seed x) (51 - x) (jN (sdN seed (x + 1)) (51 - x)) k
      unfold swp upd
      by_cases h1 : k = jN (sdN seed (x + 1)) (51 - x)
      · rw [if_pos h1, h1, s3]
      · rw [if_neg h1, s4 k h1]
        by_cases h2 : k = 51 - x
        · rw [if_pos h2, h2, q3]
        · rw [if_neg h2, q4 k h2, hD k hk]
set_option maxRecDepth 20000 in
theorem w_shuf_1 {pr : aC} {d : Nat} {u0 : cS} (seed : Int32) (k16 : u0.kd 16 = 10) (k20 : u0.kd 20 = 7) {Q : Option Value → cS → Prop} (hQ : ∀ v, onP u0 v → (∀ k, k < 52 → v.rI 20 k = rwN seed 51 k) → Q none v) : ∀ (zz : Nat) (x : Nat) (u : cS) (P : onP u0 u) (hD : ∀ k, k < x → u.rI 20 k = nI k) (hm : 52 - x < zz) (hle : x ≤ 52), wB pr (d) cd_138 none Q 2 [some (.ref 16), some (.int seed), some (.int (nI x)), none, none, none] [] u := by
  intro zz
  induction zz with
  | zero => intro x u P hD hm hle; exact absurd hm (by omega)
  | succ zz ih =>
    intro x u P hD hm hle
    refine g_load rfl rfl rfl trivial ?_
    refine g_load rfl rfl rfl trivial ?_
    refine c_getf rfl (κ := 10) (by rw [P.1]; exact k16) (by decide) (by rfl) (by rfl) ?_
    refine c_len rfl (κ := 7) (by rw [P.1]; exact k20) (by decide) (by rfl) (by decide) ?_
    refine g_icmp_ge rfl (fun c1 => ?_) (fun c1 => ?_)
    · rw [nI_leI (by omega) (by omega)] at c1
      have e : x = 52 := by omega
      subst e
      refine g_load rfl rfl rfl trivial ?_
      refine g_store [some (.ref 16), some (.int seed), some (.int (sdN seed 0)), none, none, none] rfl rfl trivial (Nat.le_of_ble_eq_true rfl) rfl ?_
      refine g_load rfl rfl rfl trivial ?_
      refine c_getf rfl (κ := 10) (by rw [P.1]; exact k16) (by decide) (by rfl) (by rfl) ?_
      refine c_len rfl (κ := 7) (by rw [P.1]; exact k20) (by decide) (by rfl) (by decide) ?_
      refine g_iconst (nI 1) rfl (by decide) ?_
      refine g_isub rfl ?_
      rw [pk_sub (by omega)]
      refine g_store [some (.ref 16), some (.int seed), some (.int (sdN seed 0)), some (.int (nI (51 - 0))), none, none] rfl rfl trivial (Nat.le_of_ble_eq_true rfl) rfl ?_
      exact w_shuf_2 seed k16 k20 hQ 52 0 u none none P (fun k hk => hD k hk) (by omega) (by omega)
    · rw [nI_leI (by omega) (by omega)] at c1
      refine g_load rfl rfl rfl trivial ?_
      refine c_getf rfl (κ := 10) (by rw [P.1]; exact k16) (by decide) (by rfl) (by rfl) ?_
      refine g_load rfl rfl rfl trivial ?_
      refine g_load rfl rfl rfl trivial ?_
      refine c_ipk x rfl (by rw [P.1]; exact k20) rfl (by omega) (fun u1 q1 q3 q4 => ?_)
      refine g_iinc (nI (x + 1)) [some (.ref 16), some (.int seed), some (.int (nI (x + 1))), none, none, none] rfl rfl (nI_1 x) rfl ?_
      refine g_goto rfl ?_
      exact ih (x + 1) u1 (P.tr q1) (fun k hk => by
        by_cases hkx : k = x
        · subst hkx; exact q3
        · rw [q4 k hkx]; exact hD k (by omega)) (by omega) (by omega)
set_option maxRecDepth 20000 in
theorem w_shuffle {pr : aC} {d : Nat} {u : cS} (seed : Int32) (k16 : u.kd 16 = 10) (k20 : u.kd 20 = 7) {Q : Option Value → cS → Prop} (hQ : ∀ v, onP u v → (∀ k, k < 52 → v.rI 20 k = rwN seed 51 k) → Q none v) : wR pr (d + 1) 138 [.ref 16, .int seed] u Q := by
  refine gR_of mi_138 cFr_rf rfl (Nat.le_of_ble_eq_true rfl) ?_
  show wB pr (d) cd_138 none Q 0 [some (.ref 16), some (.int seed), none, none, none, none] [] u
  refine g_iconst (nI 0) rfl (by decide) ?_
  refine g_store [some (.ref 16), some (.int seed), some (.int (nI 0)), none, none, none] rfl rfl trivial (Nat.le_of_ble_eq_true rfl) rfl ?_
  exact w_shuf_1 seed k16 k20 hQ 53 0 u (onP.rf u) (fun k hk => absurd hk (by omega)) (by omega) (by omega)
/-- only the longs at a differ: what they are is told apart -/
def onG (u v : cS) (a : Nat) : Prop := v.kd = u.kd ∧ v.oI = u.oI ∧ v.rI = u.rI ∧ v.rR = u.rR ∧ v.tp = u.tp ∧ ∀ b, b ≠ a → v.rL b = u.rL b
theorem onG.of {u v : cS} {a : Nat} {L : Nat → Int64} (h : onL u v a L) : onG u v a := ⟨h.1, h.2.1, h.2.2.1, h.2.2.2.1.1, h.2.2.2.1.2, h.2.2.2.2.1⟩
theorem onG.tr {u v w : cS} {a : Nat} (h : onG u v a) (k : onG v w a) : onG u w a := ⟨k.1.trans h.1, k.2.1.trans h.2.1, k.2.2.1.trans h.2.2.1, k.2.2.2.1.trans h.2.2.2.1, k.2.2.2.2.1.trans h.2.2.2.2.1, fun b hb => (k.2.2.2.2.2 b hb).trans (h.2.2.2.2.2 b hb)⟩
set_option maxRecDepth 20000 in
theorem w_deal_l {pr : aC} {d : Nat} (C S c0 s0 : Nat) (hC : c0 ≤ C) (hS : s0 ≤ S) {v0 : cS} (seed : Int32) (B : Nat) (f : Nat → Int32) (hf : rowOk f) (k16 : v0.kd 16 = 10) (k20 : v0.kd 20 = 7) (kB : v0.kd B = 1) (kB1 : v0.kd (B + 1) = 2) (h20 : ∀ k, k < 52 → v0.rI 20 k = f k) {Q : Option Value → cS → Prop} (hQ : ∀ w, onG v0 w (B + 1) → dlJ (w.rL (B + 1)) f 52 → gW C S c0 s0 pr (d + 2) cd_108 (some .int) Q 37 [some (.ref 16), some (.int seed), some (.ref B), some (.int (nI 52))] [] w) : ∀ (zz : Nat) (x : Nat) (w : cS) (G : onG v0 w (B + 1)) (hD : dlJ (w.rL (B + 1)) f x) (hm : 52 - x < zz) (hle : x ≤ 52), gW C S c0 s0 pr (d + 2) cd_108 (Option.some Jvm.ClassFile.FieldType.int) Q 21 [some (.ref 16), some (.int seed), some (.ref B), some (.int (nI x))] [] w := by
  intro zz
  induction zz with
  | zero => intro x w G hD hm hle; exact absurd hm (by omega)
  | succ zz ih =>
    intro x w G hD hm hle
    refine g_load rfl rfl rfl trivial ?_
    refine g_load rfl rfl rfl trivial ?_
    refine c_getf rfl (κ := 10) (by rw [G.1]; exact k16) (by decide) (by rfl) (by rfl) ?_
    refine c_len rfl (κ := 7) (by rw [G.1]; exact k20) (by decide) (by rfl) (by decide) ?_
    refine g_icmp_ge rfl (fun c1 => ?_) (fun c1 => ?_)
    · rw [nI_leI (by omega) (by omega)] at c1
      have e : x = 52 := by omega
      subst e
      exact hQ w G hD
    · rw [nI_leI (by omega) (by omega)] at c1
      have hcx := hf.1 x (by omega)
      refine g_load rfl rfl rfl trivial ?_
      refine g_load rfl rfl rfl trivial ?_
      refine g_iconst (nI 4) rfl (by decide) ?_
      refine g_irem rfl (by decide) ?_
      rw [pk_rem (by omega) (by omega) (by omega)]
      refine g_load rfl rfl rfl trivial ?_
      refine c_getf rfl (κ := 10) (by rw [G.1]; exact k16) (by decide) (by rfl) (by rfl) ?_
      refine g_load rfl rfl rfl trivial ?_
      refine c_ia x rfl (κ := 7) (by rw [G.1]; exact k20) (by decide) (by rfl) rfl (by omega) (by decide) ?_
      rw [show w.rI 20 x = nI (cN f x) by rw [G.2.2.1, h20 x (by omega)]; exact hcx.2]
      refine g_virtV (a := B) (ci := 2) (n := 2) [.int (nI (x % 4)), .int (nI (cN f x))] cFr_tr rfl rfl (by decide) rfl (c_ob (κ := 1) (by rw [G.1]; exact kB) (by decide) (by rfl)) rfl (Nat.le_of_ble_eq_true rfl) hC hS (w_give B (by rw [G.1]; exact kB) (by rw [G.1]; exact kB1) (x % 4) (cN f x) (by omega) (fun z hz => ⟨rfl, ?_⟩))
      refine g_iinc (nI (x + 1)) [some (.ref 16), some (.int seed), some (.ref B), some (.int (nI (x + 1)))] rfl rfl (nI_1 x) rfl ?_
      refine g_goto rfl ?_
      exact ih (x + 1) z (G.tr (onG.of hz)) (by rw [hz.2.2.2.2.2]; exact dlJ_s hD hf (by omega)) (by omega) (by omega)
theorem cnt_ff : ∀ n, cnt (fun _ => false) n = 0
  | 0 => rfl
  | n + 1 => by show cnt (fun _ => false) n + 0 = 0; rw [cnt_ff n]
theorem J.deal {u v w : cS} {r u1 r' : rS} {nb nr : Nat} {seed : Int32} (hJ : J u r nb nr) (hnb : nb < 36) (hP : onP u v) (hG : onG (bN v (nI (nb + 1))) w (v.tp + 1)) (hD : dlJ (w.rL (v.tp + 1)) (rwN seed 51) 52) (h1 : dealt r u1 nb (rwN seed 51) 52) (h2 : r'.1 = upd r.1 0 (nI (nb + 1))) (h3 : r'.2 = rU u1.2 27 nb 0) : J (upO (upR w 17 nb (some v.tp)) 16 1 (nI (nb + 1))) r' (nb + 1) nr := by
  have tp : v.tp = u.tp := hP.2.2.2.2.1
  have h50 := hJ.a.1.1
  have hlt := hJ.a.1.2
  obtain ⟨k16, k17, k18, k19, k20, k21, k22, k23, k24⟩ := hJ.k
  -- fields of the new state
  have kz : ∀ a, (upO (upR w 17 nb (some v.tp)) 16 1 (nI (nb + 1))).kd a = if a = v.tp then 1 else if a = v.tp + 1 then 2 else u.kd a := fun a => by
    show w.kd a = _
    rw [hG.1]
    show (if a = v.tp then 1 else if a = v.tp + 1 then 2 else v.kd a) = _
    rw [hP.1]
  have oz : ∀ a, a ≠ 16 → a ≠ v.tp → a ≠ v.tp + 1 → (upO (upR w 17 nb (some v.tp)) 16 1 (nI (nb + 1))).oI a = u.oI a := fun a n1 n2 n3 => by
    show u2 w.oI 16 1 _ a = _
    rw [u2_a _ _ n1, hG.2.1]
    show (if a = v.tp then _ else if a = v.tp + 1 then _ else v.oI a) = _
    rw [if_neg n2, if_neg n3, hP.2.1]
  have iz : ∀ a, a ≠ 20 → a ≠ v.tp → a ≠ v.tp + 1 → (upO (upR w 17 nb (some v.tp)) 16 1 (nI (nb + 1))).rI a = u.rI a := fun a n1 n2 n3 => by
    show w.rI a = _
    rw [hG.2.2.1]
    show (if a = v.tp ∨ a = v.tp + 1 then _ else v.rI a) = _
    rw [if_neg (by omega), hP.2.2.2.2.2 a n1]
  have lz : ∀ a, a ≠ v.tp → a ≠ v.tp + 1 → (upO (upR w 17 nb (some v.tp)) 16 1 (nI (nb + 1))).rL a = u.rL a := fun a n2 n3 => by
    show w.rL a = _
    rw [hG.2.2.2.2.2 a n3]
    show (if a = v.tp ∨ a = v.tp + 1 then _ else v.rL a) = _
    rw [if_neg (by omega), hP.2.2.1]
  have rz : ∀ a, a ≠ 17 → a ≠ v.tp → a ≠ v.tp + 1 → (upO (upR w 17 nb (some v.tp)) 16 1 (nI (nb + 1))).rR a = u.rR a := fun a n1 n2 n3 => by
    show u2 w.rR 17 nb _ a = _
    rw [u2_a _ _ n1, hG.2.2.2.1]
    show (if a = v.tp ∨ a = v.tp + 1 then _ else v.rR a) = _
    rw [if_neg (by omega), hP.2.2.2.1]
  have r17 : ∀ b, b ≠ nb → (upO (upR w 17 nb (some v.tp)) 16 1 (nI (nb + 1))).rR 17 b = u.rR 17 b := fun b hb => by
    show u2 w.rR 17 nb _ 17 b = _
    rw [u2_k _ _ hb, hG.2.2.2.1]
    show (if 17 = v.tp ∨ 17 = v.tp + 1 then _ else v.rR 17) b = _
    rw [if_neg (by omega), hP.2.2.2.1]
  have o16 : ∀ j, j ≠ 1 → (upO (upR w 17 nb (some v.tp)) 16 1 (nI (nb + 1))).oI 16 j = u.oI 16 j := fun j hj => by
    show u2 w.oI 16 1 _ 16 j = _
    rw [u2_k _ _ hj, hG.2.1]
    show (if 16 = v.tp then _ else if 16 = v.tp + 1 then _ else v.oI 16) j = _
    rw [if_neg (by omega), if_neg (by omega), hP.2.1]
  have ag : ∀ a, u.kd a ≠ 0 → a ≠ 16 → a ≠ 17 → a ≠ 20 → agr u (upO (upR w 17 nb (some v.tp)) 16 1 (nI (nb + 1))) a := fun a hk n1 n2 n3 => by
    have hl := hlt a hk
    exact ⟨by rw [kz, if_neg (by omega), if_neg (by omega)], oz a n1 (by omega) (by omega), iz a n3 (by omega) (by omega), lz a (by omega) (by omega), rz a n2 (by omega) (by omega)⟩
  have agk : ∀ a κ, u.kd a = κ → κ ≠ 0 → κ ≠ 10 → κ ≠ 11 → κ ≠ 7 → agr u (upO (upR w 17 nb (some v.tp)) 16 1 (nI (nb + 1))) a := fun a κ h0 n0 n1 n2 n3 => ag a (by rw [h0]; exact n0) (fun e => by rw [e, k16] at h0; exact n1 h0.symm) (fun e => by rw [e, k17] at h0; exact n2 h0.symm) (fun e => by rw [e, k20] at h0; exact n3 h0.symm)
  have kk : ∀ a, u.kd a ≠ 0 → (upO (upR w 17 nb (some v.tp)) 16 1 (nI (nb + 1))).kd a = u.kd a := fun a hk => by
    have hl := hlt a hk
    rw [kz, if_neg (by omega), if_neg (by omega)]
  have e2 : ∀ a, a ≠ 26 → a ≠ 46 → a ≠ 27 → r'.2 a = r.2 a := fun a n1 n2 n3 => by rw [h3, rU_a n3, h1.2.1 a n1 n2]
  have e27 : ∀ b, b ≠ nb → r'.2 27 b = r.2 27 b := fun b hb => by rw [h3, rU_k hb, h1.2.1 27 (by decide) (by decide)]
  have e26 : r'.2 26 = u1.2 26 := by rw [h3, rU_a (by decide)]
  refine ⟨?_, ⟨⟨?_, fun a ha => ?_⟩, ?_, ?_⟩, ⟨u2_s w.oI 16 1 _, by omega, ?_⟩, ⟨?_, ?_, ?_⟩, fun b hb => ?_, fun t ht => ?_, fun i hi => ?_, ?_⟩
  · unfold kJ
    rw [kk 16 (by rw [k16]; decide), kk 17 (by rw [k17]; decide), kk 18 (by rw [k18]; decide), kk 19 (by rw [k19]; decide), kk 20 (by rw [k20]; decide), kk 21 (by rw [k21]; decide), kk 22 (by rw [k22]; decide), kk 23 (by rw [k23]; decide), kk 24 (by rw [k24]; decide)]
    exact hJ.k
  · show 50 ≤ w.tp
    rw [hG.2.2.2.2.1]; show 50 ≤ v.tp + 2; omega
  · show a < w.tp
    rw [hG.2.2.2.2.1]; show a < v.tp + 2
    rw [kz] at ha
    by_cases n1 : a = v.tp
    · omega
    · by_cases n2 : a = v.tp + 1
      · omega
      · rw [if_neg n1, if_neg n2] at ha
        have := hlt a ha; omega
  · rw [rz 18 (by decide) (by omega) (by omega)]; exact hJ.a.2.1
  · rw [rz 19 (by decide) (by omega) (by omega)]; exact hJ.a.2.2
  · rw [h2]; exact if_pos rfl
  · rw [o16 4 (by decide)]; exact hJ.hr.1
  · rw [h2]; show (if 1 = 0 then _ else r.1 1) = _; rw [if_neg (by decide)]; exact hJ.hr.2.1
  · rw [e2 28 (by decide) (by decide) (by decide)]; exact hJ.hr.2.2
  · by_cases e : b = nb
    · subst e
      refine ⟨v.tp, ?_, ?_, ?_, ?_, ?_, ?_, ?_, ?_⟩
      · show u2 w.rR 17 b _ 17 b = _; rw [u2_s]
      · rw [kz, if_pos rfl]
      · rw [kz, if_neg (by omega), if_pos rfl]
      · show u2 w.oI 16 1 _ v.tp 0 = _
        rw [u2_a _ _ (by omega), hG.2.1]
        show (if v.tp = v.tp then (fun k => if k = 0 then nI (b + 1) else 0) else _) 0 = _
        rw [if_pos rfl]; rfl
      · show u2 w.oI 16 1 _ v.tp 2 = _
        rw [u2_a _ _ (by omega), hG.2.1, h3, rU_s]
        show (if v.tp = v.tp then (fun k => if k = 0 then nI (b + 1) else 0) else _) 2 = _
        rw [if_pos rfl]; rfl
      · left; rw [h3, rU_s]
      · show u2 w.oI 16 1 _ v.tp 3 = _
        rw [u2_a _ _ (by omega), hG.2.1, e2 35 (by decide) (by decide) (by decide)]
        have hz : cnt (fun i => decide (r.2 35 i = nI (b + 1))) nr = 0 := by
          rw [cnt_congr (q := fun _ => false) (fun i hi => ?_)]
          · exact cnt_ff nr
          · obtain ⟨R, hR⟩ := hJ.rs hi
            obtain ⟨bd, q1, q2⟩ := hR.2.2.2.2.2.2.2.2.2.2.2.2.2.1
            exact decide_eq_false (fun z => by
              rw [q2] at z
              have := (nI_eq (by omega) (by omega)).mp z
              omega)
        rw [hz]
        show (if v.tp = v.tp then (fun k => if k = 0 then nI (b + 1) else 0) else _) 3 = _
        rw [if_pos rfl]; rfl
      · show bH (w.rL (v.tp + 1)) _
        refine hD.bH (rowSj_N seed 51 (by decide)) (fun x hx => ?_)
        show r'.2 26 (52 * b + cN (rwN seed 51) x) = _
        rw [e26]; exact h1.2.2.2 x hx
    · have hb' : b < nb := by omega
      obtain ⟨B, hB⟩ := hJ.bd hb'
      exact ⟨B, bJ_fr hB (r17 b e) (agk B 1 hB.2.1 (by decide) (by decide) (by decide) (by decide)) (agk _ 2 hB.2.2.1 (by decide) (by decide) (by decide) (by decide)) (e27 b e) (by rw [e2 35 (by decide) (by decide) (by decide)]) (fun c hc => by rw [e26]; exact h1.2.2.1 _ (by omega))⟩
  · rcases hJ.tb ht with ⟨q1, q2⟩ | ⟨T, B, bd, n, m, hT⟩
    · refine Or.inl ⟨by rw [e2 28 (by decide) (by decide) (by decide)]; exact q1, tI0_fr q2 (by rw [rz 18 (by decide) (by omega) (by omega)]) (fun T hT => ?_)⟩
      rcases q2 with q2 | ⟨T', q3, q4, q5⟩
      · rw [q2] at hT; cases hT
      · have : T' = T := by rw [q3] at hT; exact Option.some.inj hT
        subst this
        refine ⟨fun a ha hb => kk a (by rw [q4.at ha hb]; omega), ?_⟩
        exact (agk T' 3 q4.1 (by decide) (by decide) (by decide) (by decide)).2.2.2.2
    · obtain ⟨c0, c1, c2, c3, c4, c5, cb, cb1, _⟩ := hT.2.1
      have hbd := hT.2.2.1
      refine Or.inr ⟨T, B, bd, n, m, tJ_fr hT (by omega) (by rw [rz 18 (by decide) (by omega) (by omega)]) (r17 bd (by omega)) (fun a ha hb => ?_) (kk B (by rw [cb]; decide)) (kk _ (by rw [cb1]; decide)) ⟨by rw [e2 28 (by decide) (by decide) (by decide)], by rw [e2 29 (by decide) (by decide) (by decide)], by rw [e2 30 (by decide) (by decide) (by decide)], by rw [e2 30 (by decide) (by decide) (by decide)], by rw [e2 31 (by decide) (by decide) (by decide)], by rw [e2 32 (by decide) (by decide) (by decide)], fun i _ => by unfold cf; rw [e2 33 (by decide) (by decide) (by decide)], fun i _ => by unfold gf; rw [e2 34 (by decide) (by decide) (by decide)], e27 bd (by omega), fun c hc => by rw [e26]; exact h1.2.2.1 _ (by omega)⟩⟩
      have hne : ∀ x κ, u.kd x = κ → (κ < 3 ∨ 8 < κ) → a ≠ x := fun x κ hx hκ e => hT.2.1.tk.ne hx hκ (by rw [← e]; exact ⟨ha, hb⟩)
      refine ag a (by rw [hT.2.1.tk.at ha hb]; omega) (hne 16 10 k16 (by decide)) (hne 17 11 k17 (by decide)) (fun e => ?_)
      have h7 := hT.2.1.tk.at ha hb
      rw [e, k20] at h7
      have : T = 16 := by omega
      rw [this, k16] at c0; exact absurd c0 (by decide)
  · obtain ⟨R, hR⟩ := hJ.rs hi
    refine ⟨R, rJ_fr hR (by omega) (by rw [rz 19 (by decide) (by omega) (by omega)]) (agk R 9 hR.2.1 (by decide) (by decide) (by decide) (by decide)) (fun a ha => by rw [e2 a (by omega) (by omega) (by omega)]) ⟨by rw [e2 36 (by decide) (by decide) (by decide)], by rw [e2 36 (by decide) (by decide) (by decide)]⟩ ⟨by rw [e2 43 (by decide) (by decide) (by decide)], by rw [e2 43 (by decide) (by decide) (by decide)]⟩⟩
  · obtain ⟨len, t1, t2, t3, t4, t5⟩ := hJ.tx
    refine ⟨len, t1, ?_, ?_, ?_, fun i hi => ?_⟩
    · rw [oz 23 (by decide) (by omega) (by omega)]; exact t2
    · rw [h2]; show (if 22 = 0 then _ else r.1 22) = _; rw [if_neg (by decide)]; exact t3
    · rw [oz 23 (by decide) (by omega) (by omega)]; exact t4
    · rw [iz 24 (by decide) (by omega) (by omega), e2 45 (by decide) (by decide) (by decide)]; exact t5 i hi
