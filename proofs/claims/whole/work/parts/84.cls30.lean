/-! ===== the JDK: Strings that are constants ===== -/
theorem q_len {σ : Type} {Rp : σ → aH → Prop} {Fr : aH → aH → Prop} {cl : aC} {cd : List aE} {C S : Nat} {rt : Option FieldType} {Q : Option Value → σ → Prop} {k : Nat} {l : aL} {st : List Value} {u : σ} {c s : Nat} {x y a t N : Nat} {w : (Nat → Int32) ⊕ (Nat → Int64) ⊕ _} (hg : aGet cd k = some (.arraylength, x, y)) (hc : ∀ h, Rp u h → a < h.2 ∧ h.1 a = .inl (t, N, w)) (ht : t < 7) (hP : gB Rp Fr cl cd C S rt Q (k + 1) l (.int (nI N) :: st) u c s) : gB Rp Fr cl cd C S rt Q k l (.ref a :: st) u c s :=
  fun h0 h QQ hR hF hQ P hr => hr 28 k x y a t (N, w) l st h c s hg (hc h hR).1 (hc h hR).2 ht (hP h0 h QQ hR hF hQ P hr)
theorem q_ba {σ : Type} {Rp : σ → aH → Prop} {Fr : aH → aH → Prop} {cl : aC} {cd : List aE} {C S : Nat} {rt : Option FieldType} {Q : Option Value → σ → Prop} {k : Nat} {l : aL} {st : List Value} {u : σ} {c s : Nat} {x y a N : Nat} {f : Nat → Int32} {i : Int32} (n : Nat) (hg : aGet cd k = some (.baload, x, y)) (hc : ∀ h, Rp u h → a < h.2 ∧ h.1 a = .inl (2, N, .inl f)) (hi : i = nI n) (hn : n < N) (hN : N < 1000) (hP : gB Rp Fr cl cd C S rt Q (k + 1) l (.int (f n) :: st) u c s) : gB Rp Fr cl cd C S rt Q k l (.int i :: .ref a :: st) u c s := by
  intro h0 h QQ hR hF hQ P hr
  refine hr 30 k x y a 2 N f i l st h c s hg (hc h hR).1 (Or.inr rfl) (hc h hR).2 (hi ▸ vp_in_nI hn (by omega)) ?_
  rw [hi, nI_clamp (by omega)]
  exact hP h0 h QQ hR hF hQ P hr
theorem sh_0 : ∀ n, n < 300 → nI n >>> ((0 : Int32) &&& 31) = nI n := by decide +kernel
theorem sl_0 : ∀ n, n < 300 → nI n <<< ((0 : Int32) &&& 31) = nI n := by decide +kernel
theorem ch_c : ∀ c, c < 128 → ((nI c &&& nI 255).toUInt32 % 65536).toInt32 = nI c := by decide +kernel
theorem by_c : ∀ c, c < 128 → (nI c).toInt8.toInt32 = nI c := by decide +kernel
theorem nar_c : ∀ c, c < 128 → vp_nar .byte (nI c) = nI c := by decide +kernel
/-- a String among the constants, its N bytes b -/
def sK (a N : Nat) (b : Nat → Nat) : Prop := a + 1 < 14 ∧ N < 300 ∧ cT a = .inr (9, [.ref (a + 1), .int 0]) ∧ (∃ f, cT (a + 1) = .inl (2, N, .inl f) ∧ ∀ i, i < N → f i = nI (b i) ∧ b i < 128)
theorem rt_c {c : Nat} (h : c < 128) : aRT (some .char) (some (.int (nI c))) := by
  have h1 : ∀ c, c < 128 → ((nI c).toUInt32 % 65536).toInt32 = nI c := by decide +kernel
  have h2 : ∀ c, c < 128 → fits .char (.int (nI c)) = true := by decide +kernel
  exact ⟨congrArg Value.int (h1 c h), h2 c h⟩
set_option maxRecDepth 20000 in
theorem p_sCoder {pr : aC} {d : Nat} {σ : Type} {Rp : σ → aH → Prop} {Fr : aH → aH → Prop} (hrf : ∀ h, Fr h h) (htr : ∀ a b d, Fr a b → Fr b d → Fr a d) {u : σ} (hK : ∀ h, Rp u h → cK h ∧ 16 ≤ h.2) (a N : Nat) (b : Nat → Nat) (hs : sK a N b)  {Q : Option Value → σ → Prop} (hQ : Q (some (.int 0)) u) : pR Rp Fr pr (d + 1) 252 [.ref a] u Q := by
  refine gR_of mi_252 hrf rfl (Nat.le_of_ble_eq_true rfl) ?_
  show pB Rp Fr pr (d) cd_252 (Option.some Jvm.ClassFile.FieldType.byte) Q 0 [some (.ref a)] [] u
  obtain ⟨ha, hN, hc1, f, hc2, hf⟩ := hs
  have hb1 : ∀ h, Rp u h → h.1 a = .inr (9, [.ref (a + 1), .int 0]) := fun h hR => ((hK h hR).1 a (by omega)).trans hc1
  have hb2 : ∀ h, Rp u h → a + 1 < h.2 ∧ h.1 (a + 1) = .inl (2, N, .inl f) := fun h hR => ⟨by have := (hK h hR).2; omega, ((hK h hR).1 (a + 1) ha).trans hc2⟩
  refine g_gets1 1 rfl rfl ?_
  refine g_if_eq rfl (fun c1 => ?_) (fun c1 => ?_)
  · exact absurd c1 (by decide)
  · refine g_load rfl rfl rfl trivial ?_
    refine g_getfC rfl (by omega) hb1 rfl ?_
    refine g_goto rfl ?_
    refine g_vret rfl trivial (by first | exact ⟨by decide, by decide⟩ | trivial) (Nat.le_refl _) (Nat.le_refl _) ?_
    exact hQ
set_option maxRecDepth 20000 in
theorem p_sLatin1 {pr : aC} {d : Nat} {σ : Type} {Rp : σ → aH → Prop} {Fr : aH → aH → Prop} (hrf : ∀ h, Fr h h) (htr : ∀ a b d, Fr a b → Fr b d → Fr a d) {u : σ} (hK : ∀ h, Rp u h → cK h ∧ 16 ≤ h.2) (a N : Nat) (b : Nat → Nat) (hs : sK a N b)  {Q : Option Value → σ → Prop} (hQ : Q (some (.int 1)) u) : pR Rp Fr pr (d + 1) 255 [.ref a] u Q := by
  refine gR_of mi_255 hrf rfl (Nat.le_of_ble_eq_true rfl) ?_
  show pB Rp Fr pr (d) cd_255 (Option.some Jvm.ClassFile.FieldType.boolean) Q 0 [some (.ref a)] [] u
  obtain ⟨ha, hN, hc1, f, hc2, hf⟩ := hs
  have hb1 : ∀ h, Rp u h → h.1 a = .inr (9, [.ref (a + 1), .int 0]) := fun h hR => ((hK h hR).1 a (by omega)).trans hc1
  have hb2 : ∀ h, Rp u h → a + 1 < h.2 ∧ h.1 (a + 1) = .inl (2, N, .inl f) := fun h hR => ⟨by have := (hK h hR).2; omega, ((hK h hR).1 (a + 1) ha).trans hc2⟩
  refine g_gets1 1 rfl rfl ?_
  refine g_if_eq rfl (fun c1 => ?_) (fun c1 => ?_)
  · exact absurd c1 (by decide)
  · refine g_load rfl rfl rfl trivial ?_
    refine g_getfC rfl (by omega) hb1 rfl ?_
    refine g_if_ne rfl (fun c2 => ?_) (fun c2 => ?_)
    · exact absurd rfl c2
    · refine g_iconst (nI 1) rfl (by decide) ?_
      refine g_goto rfl ?_
      refine g_vret rfl trivial (by first | exact ⟨by decide, by decide⟩ | trivial) (Nat.le_refl _) (Nat.le_refl _) ?_
      exact hQ
set_option maxRecDepth 20000 in
theorem p_sLen {pr : aC} {d : Nat} {σ : Type} {Rp : σ → aH → Prop} {Fr : aH → aH → Prop} (hrf : ∀ h, Fr h h) (htr : ∀ a b d, Fr a b → Fr b d → Fr a d) {u : σ} (hK : ∀ h, Rp u h → cK h ∧ 16 ≤ h.2) (a N : Nat) (b : Nat → Nat) (hs : sK a N b)  {Q : Option Value → σ → Prop} (hQ : Q (some (.int (nI N))) u) : pR Rp Fr pr (d + 1 + 1) 253 [.ref a] u Q := by
  refine gR_of mi_253 hrf rfl (Nat.le_of_ble_eq_true rfl) ?_
  show pB Rp Fr pr (d + 1) cd_253 (Option.some Jvm.ClassFile.FieldType.int) Q 0 [some (.ref a)] [] u
  obtain ⟨ha, hN, hc1, f, hc2, hf⟩ := hs
  have hb1 : ∀ h, Rp u h → h.1 a = .inr (9, [.ref (a + 1), .int 0]) := fun h hR => ((hK h hR).1 a (by omega)).trans hc1
  have hb2 : ∀ h, Rp u h → a + 1 < h.2 ∧ h.1 (a + 1) = .inl (2, N, .inl f) := fun h hR => ⟨by have := (hK h hR).2; omega, ((hK h hR).1 (a + 1) ha).trans hc2⟩
  refine g_load rfl rfl rfl trivial ?_
  refine g_getfC rfl (by omega) hb1 rfl ?_
  refine q_len rfl hb2 (by decide) ?_
  refine g_load rfl rfl rfl trivial ?_
  refine g_virtCI (a := a) (n := 0) [] htr rfl rfl (by decide) rfl (by omega) hb1 rfl (Nat.le_of_ble_eq_true rfl) (Nat.le_refl _) (Nat.le_refl _) (p_sCoder hrf htr hK a N b ⟨ha, hN, hc1, f, hc2, hf⟩ ⟨_, rfl, ?_⟩)
  refine g_ishr rfl ?_
  rw [sh_0 N hN]
  refine g_vret rfl trivial ⟨rfl, rfl⟩ (Nat.le_refl _) (Nat.le_refl _) ?_
  exact hQ
set_option maxRecDepth 20000 in
theorem p_chk_n {pr : aC} {d : Nat} {σ : Type} {Rp : σ → aH → Prop} {Fr : aH → aH → Prop} (hrf : ∀ h, Fr h h) (htr : ∀ a b d, Fr a b → Fr b d → Fr a d) {u : σ} (i n : Nat) (hi : i < n) (hn : n < 1000) {Q : Option Value → σ → Prop} (hQ : Q (some (.int (nI i))) u) : pR Rp Fr pr (d + 1) 258 [.int (nI i), .int (nI n), .null] u Q := by
  refine gR_of mi_258 hrf rfl (Nat.le_of_ble_eq_true rfl) ?_
  show pB Rp Fr pr (d) cd_258 (Option.some Jvm.ClassFile.FieldType.int) Q 0 [some (.int (nI i)), some (.int (nI n)), some (.null)] [] u
  refine g_load rfl rfl rfl trivial ?_
  refine g_if_lt rfl (fun c1 => ?_) (fun c1 => ?_)
  · exact absurd c1 (nI_pos (by omega))
  · refine g_load rfl rfl rfl trivial ?_
    refine g_load rfl rfl rfl trivial ?_
    refine g_icmp_lt rfl (fun c2 => ?_) (fun c2 => ?_)
    · refine g_load rfl rfl rfl trivial ?_
      refine g_vret rfl trivial ⟨rfl, rfl⟩ (Nat.le_refl _) (Nat.le_refl _) ?_
      exact hQ
    · rw [nI_ltI (by omega) (by omega)] at c2
      exact absurd hi c2
set_option maxRecDepth 20000 in
theorem p_chk_r {pr : aC} {d : Nat} {σ : Type} {Rp : σ → aH → Prop} {Fr : aH → aH → Prop} (hrf : ∀ h, Fr h h) (htr : ∀ a b d, Fr a b → Fr b d → Fr a d) {u : σ} (i n : Nat) (hi : i < n) (hn : n < 1000) {Q : Option Value → σ → Prop} (hQ : Q (some (.int (nI i))) u) : pR Rp Fr pr (d + 1) 258 [.int (nI i), .int (nI n), .ref 15] u Q := by
  refine gR_of mi_258 hrf rfl (Nat.le_of_ble_eq_true rfl) ?_
  show pB Rp Fr pr (d) cd_258 (Option.some Jvm.ClassFile.FieldType.int) Q 0 [some (.int (nI i)), some (.int (nI n)), some (.ref 15)] [] u
  refine g_load rfl rfl rfl trivial ?_
  refine g_if_lt rfl (fun c1 => ?_) (fun c1 => ?_)
  · exact absurd c1 (nI_pos (by omega))
  · refine g_load rfl rfl rfl trivial ?_
    refine g_load rfl rfl rfl trivial ?_
    refine g_icmp_lt rfl (fun c2 => ?_) (fun c2 => ?_)
    · refine g_load rfl rfl rfl trivial ?_
      refine g_vret rfl trivial ⟨rfl, rfl⟩ (Nat.le_refl _) (Nat.le_refl _) ?_
      exact hQ
    · rw [nI_ltI (by omega) (by omega)] at c2
      exact absurd hi c2
set_option maxRecDepth 20000 in
theorem p_sChk {pr : aC} {d : Nat} {σ : Type} {Rp : σ → aH → Prop} {Fr : aH → aH → Prop} (hrf : ∀ h, Fr h h) (htr : ∀ a b d, Fr a b → Fr b d → Fr a d) {u : σ} (i n : Nat) (hi : i < n) (hn : n < 1000) {Q : Option Value → σ → Prop} (hQ : Q none u) : pR Rp Fr pr (d + 1 + 1) 256 [.int (nI i), .int (nI n)] u Q := by
  refine gR_of mi_256 hrf rfl (Nat.le_of_ble_eq_true rfl) ?_
  show pB Rp Fr pr (d + 1) cd_256 none Q 0 [some (.int (nI i)), some (.int (nI n))] [] u
  refine g_load rfl rfl rfl trivial ?_
  refine g_load rfl rfl rfl trivial ?_
  refine g_gets2 rfl ?_ ?_
  · refine g_statI [.int (nI i), .int (nI n), .null] htr rfl rfl rfl (Nat.le_of_ble_eq_true rfl) (Nat.le_refl _) (Nat.le_refl _) (p_chk_n hrf htr i n hi hn ⟨_, rfl, ?_⟩)
    refine g_pop rfl rfl ?_
    refine g_ret rfl rfl (Nat.le_refl _) (Nat.le_refl _) ?_
    exact hQ
  · refine g_statI [.int (nI i), .int (nI n), .ref 15] htr rfl rfl rfl (Nat.le_of_ble_eq_true rfl) (Nat.le_refl _) (Nat.le_refl _) (p_chk_r hrf htr i n hi hn ⟨_, rfl, ?_⟩)
    refine g_pop rfl rfl ?_
    refine g_ret rfl rfl (Nat.le_refl _) (Nat.le_refl _) ?_
    exact hQ
set_option maxRecDepth 20000 in
theorem p_lCharAt {pr : aC} {d : Nat} {σ : Type} {Rp : σ → aH → Prop} {Fr : aH → aH → Prop} (hrf : ∀ h, Fr h h) (htr : ∀ a b d, Fr a b → Fr b d → Fr a d) {u : σ} (hK : ∀ h, Rp u h → cK h ∧ 16 ≤ h.2) (a N : Nat) (b : Nat → Nat) (hs : sK a N b) (i : Nat) (hi : i < N) {Q : Option Value → σ → Prop} (hQ : Q (some (.int (nI (b i)))) u) : pR Rp Fr pr (d + 2 + 1) 257 [.ref (a + 1), .int (nI i)] u Q := by
  refine gR_of mi_257 hrf rfl (Nat.le_of_ble_eq_true rfl) ?_
  show pB Rp Fr pr (d + 2) cd_257 (Option.some Jvm.ClassFile.FieldType.char) Q 0 [some (.ref (a + 1)), some (.int (nI i))] [] u
  obtain ⟨ha, hN, hc1, f, hc2, hf⟩ := hs
  have hb1 : ∀ h, Rp u h → h.1 a = .inr (9, [.ref (a + 1), .int 0]) := fun h hR => ((hK h hR).1 a (by omega)).trans hc1
  have hb2 : ∀ h, Rp u h → a + 1 < h.2 ∧ h.1 (a + 1) = .inl (2, N, .inl f) := fun h hR => ⟨by have := (hK h hR).2; omega, ((hK h hR).1 (a + 1) ha).trans hc2⟩
  refine g_load rfl rfl rfl trivial ?_
  refine g_load rfl rfl rfl trivial ?_
  refine q_len rfl hb2 (by decide) ?_
  refine g_statV [.int (nI i), .int (nI N)] htr rfl rfl rfl (Nat.le_of_ble_eq_true rfl) (Nat.le_refl _) (Nat.le_refl _) (p_sChk hrf htr i N hi (by omega) ⟨rfl, ?_⟩)
  refine g_load rfl rfl rfl trivial ?_
  refine g_load rfl rfl rfl trivial ?_
  refine q_ba i rfl hb2 rfl hi (by omega) ?_
  rw [(hf i hi).1]
  refine g_sipush (nI 255) rfl (by decide) ?_
  refine g_iand rfl ?_
  refine g_i2c rfl ?_
  rw [ch_c _ (hf i hi).2]
  exact g_vret rfl trivial (rt_c (hf i hi).2) (Nat.le_refl _) (Nat.le_refl _) hQ
set_option maxRecDepth 20000 in
theorem p_sCharAt {pr : aC} {d : Nat} {σ : Type} {Rp : σ → aH → Prop} {Fr : aH → aH → Prop} (hrf : ∀ h, Fr h h) (htr : ∀ a b d, Fr a b → Fr b d → Fr a d) {u : σ} (hK : ∀ h, Rp u h → cK h ∧ 16 ≤ h.2) (a N : Nat) (b : Nat → Nat) (hs : sK a N b) (i : Nat) (hi : i < N) {Q : Option Value → σ → Prop} (hQ : Q (some (.int (nI (b i)))) u) : pR Rp Fr pr (d + 3 + 1) 254 [.ref a, .int (nI i)] u Q := by
  refine gR_of mi_254 hrf rfl (Nat.le_of_ble_eq_true rfl) ?_
  show pB Rp Fr pr (d + 3) cd_254 (Option.some Jvm.ClassFile.FieldType.char) Q 0 [some (.ref a), some (.int (nI i))] [] u
  obtain ⟨ha, hN, hc1, f, hc2, hf⟩ := hs
  have hb1 : ∀ h, Rp u h → h.1 a = .inr (9, [.ref (a + 1), .int 0]) := fun h hR => ((hK h hR).1 a (by omega)).trans hc1
  have hb2 : ∀ h, Rp u h → a + 1 < h.2 ∧ h.1 (a + 1) = .inl (2, N, .inl f) := fun h hR => ⟨by have := (hK h hR).2; omega, ((hK h hR).1 (a + 1) ha).trans hc2⟩
  refine g_load rfl rfl rfl trivial ?_
  refine g_virtCI (a := a) (n := 0) [] htr rfl rfl (by decide) rfl (by omega) hb1 rfl (Nat.le_of_ble_eq_true rfl) (Nat.le_refl _) (Nat.le_refl _) (p_sLatin1 hrf htr hK a N b ⟨ha, hN, hc1, f, hc2, hf⟩ ⟨_, rfl, ?_⟩)
  refine g_if_eq rfl (fun c1 => ?_) (fun c1 => ?_)
  · exact absurd c1 (by decide)
  · refine g_load rfl rfl rfl trivial ?_
    refine g_getfC rfl (by omega) hb1 rfl ?_
    refine g_load rfl rfl rfl trivial ?_
    refine g_statI [.ref (a + 1), .int (nI i)] htr rfl rfl rfl (Nat.le_of_ble_eq_true rfl) (Nat.le_refl _) (Nat.le_refl _) (p_lCharAt hrf htr hK a N b ⟨ha, hN, hc1, f, hc2, hf⟩ i hi ⟨_, rfl, ?_⟩)
    exact g_vret rfl trivial (rt_c (hf i hi).2) (Nat.le_refl _) (Nat.le_refl _) hQ
/-- the signs of strains and seats, the word pass -/
def sgS (i : Nat) : Nat := [67, 68, 72, 83, 78].getD i 0
def sgD (i : Nat) : Nat := [78, 69, 83, 87].getD i 0
def sgP (i : Nat) : Nat := [112, 97, 115, 115].getD i 0
theorem sK_4 : sK 4 4 sgP := ⟨by decide, by decide, rfl, _, rfl, by decide⟩
theorem sK_6 : sK 6 5 sgS := ⟨by decide, by decide, rfl, _, rfl, by decide⟩
theorem sK_8 : sK 8 4 sgD := ⟨by decide, by decide, rfl, _, rfl, by decide⟩
theorem sK_10 : sK 10 5 sgS := ⟨by decide, by decide, rfl, _, rfl, by decide⟩
theorem sK_12 : sK 12 4 sgD := ⟨by decide, by decide, rfl, _, rfl, by decide⟩
set_option maxRecDepth 20000 in
theorem p_signOf {pr : aC} {d : Nat} {σ : Type} {Rp : σ → aH → Prop} {Fr : aH → aH → Prop} (hrf : ∀ h, Fr h h) (htr : ∀ a b d, Fr a b → Fr b d → Fr a d) {u : σ} (hK : ∀ h, Rp u h → cK h ∧ 16 ≤ h.2) (a N : Nat) (b : Nat → Nat) (hs : sK a N b) (i : Nat) (hi : i < N) {Q : Option Value → σ → Prop} (hQ : Q (some (.int (nI (b i)))) u) : pR Rp Fr pr (d + 4 + 1) 73 [.ref a, .int (nI i)] u Q := by
  refine gR_of mi_73 hrf rfl (Nat.le_of_ble_eq_true rfl) ?_
  show pB Rp Fr pr (d + 4) cd_73 (Option.some Jvm.ClassFile.FieldType.char) Q 0 [some (.ref a), some (.int (nI i))] [] u
  obtain ⟨ha, hN, hc1, f, hc2, hf⟩ := hs
  have hb1 : ∀ h, Rp u h → h.1 a = .inr (9, [.ref (a + 1), .int 0]) := fun h hR => ((hK h hR).1 a (by omega)).trans hc1
  have hb2 : ∀ h, Rp u h → a + 1 < h.2 ∧ h.1 (a + 1) = .inl (2, N, .inl f) := fun h hR => ⟨by have := (hK h hR).2; omega, ((hK h hR).1 (a + 1) ha).trans hc2⟩
  refine g_load rfl rfl rfl trivial ?_
  refine g_if_lt rfl (fun c1 => ?_) (fun c1 => ?_)
  · exact absurd c1 (nI_pos (by omega))
  · refine g_load rfl rfl rfl trivial ?_
    refine g_load rfl rfl rfl trivial ?_
    refine g_virtCI (a := a) (n := 0) [] htr rfl rfl (by decide) rfl (by omega) hb1 rfl (Nat.le_of_ble_eq_true rfl) (Nat.le_refl _) (Nat.le_refl _) (p_sLen hrf htr hK a N b ⟨ha, hN, hc1, f, hc2, hf⟩ ⟨_, rfl, ?_⟩)
    refine g_icmp_ge rfl (fun c2 => ?_) (fun c2 => ?_)
    · rw [nI_leI (by omega) (by omega)] at c2
      exact absurd c2 (by omega)
    · refine g_load rfl rfl rfl trivial ?_
      refine g_load rfl rfl rfl trivial ?_
      refine g_virtCI (a := a) (n := 1) [.int (nI i)] htr rfl rfl (by decide) rfl (by omega) hb1 rfl (Nat.le_of_ble_eq_true rfl) (Nat.le_refl _) (Nat.le_refl _) (p_sCharAt hrf htr hK a N b ⟨ha, hN, hc1, f, hc2, hf⟩ i hi ⟨_, rfl, ?_⟩)
      refine g_goto rfl ?_
      exact g_vret rfl trivial (rt_c (hf i hi).2) (Nat.le_refl _) (Nat.le_refl _) hQ
