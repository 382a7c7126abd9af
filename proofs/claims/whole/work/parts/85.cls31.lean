/-! ===== the JDK: the StringBuilder of the club ===== -/
/-- the text holds the characters L -/
def sbJ (u : cS) (L : List Nat) : Prop := u.kd 23 = 15 ∧ u.kd 24 = 16 ∧ u.oI 23 1 = 0 ∧ u.oI 23 3 = nI L.length ∧ L.length ≤ 16 ∧ (∀ i, i < L.length → u.rI 24 i = nI (L.getD i 0)) ∧ ∀ i, i < L.length → L.getD i 0 < 128
/-- only the text's cells differ -/
def onS (u v : cS) : Prop := v.kd = u.kd ∧ v.tp = u.tp ∧ v.rL = u.rL ∧ v.rR = u.rR ∧ (∀ b, b ≠ 23 → v.oI b = u.oI b) ∧ ∀ b, b ≠ 24 → v.rI b = u.rI b
theorem onS.rf (u : cS) : onS u u := ⟨rfl, rfl, rfl, rfl, fun _ _ => rfl, fun _ _ => rfl⟩
theorem onS.tr {u v w : cS} (h : onS u v) (k : onS v w) : onS u w := ⟨k.1.trans h.1, k.2.1.trans h.2.1, k.2.2.1.trans h.2.2.1, k.2.2.2.1.trans h.2.2.2.1, fun b hb => (k.2.2.2.2.1 b hb).trans (h.2.2.2.2.1 b hb), fun b hb => (k.2.2.2.2.2 b hb).trans (h.2.2.2.2.2 b hb)⟩
theorem gD_l {L : List Nat} {c i : Nat} (h : i < L.length) : (L ++ [c]).getD i 0 = L.getD i 0 := by simp [List.getD, List.getElem?_append_left h]
theorem gD_r (L : List Nat) (c : Nat) : (L ++ [c]).getD L.length 0 = c := by simp [List.getD]
theorem le_16 : ∀ n, n < 17 → nI n - nI 16 ≤ 0 := by decide
set_option maxRecDepth 20000 in
theorem c_ens {pr : aC} {d : Nat} {u : cS} (k23 : u.kd 23 = 15) (k24 : u.kd 24 = 16) (hcd : u.oI 23 1 = 0) (n : Nat) (hn : n < 17) {Q : Option Value → cS → Prop} (hQ : Q none u) : cR pr (d + 1) 238 [.ref 23, .int (nI n)] u Q := by
  refine gR_of mi_238 eF_rf rfl (Nat.le_of_ble_eq_true rfl) ?_
  show cB pr (d) cd_238 none Q 0 [some (.ref 23), some (.int (nI n)), none] [] u
  refine g_load rfl rfl rfl trivial ?_
  refine c_getf rfl (by assumption) (by decide) (by rfl) (by rfl) ?_
  refine c_len rfl (by assumption) (by decide) (by rfl) (by decide) ?_
  refine g_load rfl rfl rfl trivial ?_
  refine c_getf rfl (by assumption) (by decide) (by rfl) (by rfl) ?_
  rw [hcd]
  refine g_ishr rfl ?_
  rw [sh_0 16 (by decide)]
  refine g_store [some (.ref 23), some (.int (nI n)), some (.int (nI 16))] rfl rfl trivial (Nat.le_of_ble_eq_true rfl) rfl ?_
  refine g_load rfl rfl rfl trivial ?_
  refine g_load rfl rfl rfl trivial ?_
  refine g_isub rfl ?_
  refine g_if_le rfl (fun c1 => ?_) (fun c1 => ?_)
  · refine g_ret rfl rfl (Nat.le_refl _) (Nat.le_refl _) ?_
    exact hQ
  · exact absurd (le_16 n hn) c1
set_option maxRecDepth 20000 in
theorem c_lat {pr : aC} {d : Nat} {u : cS} (k23 : u.kd 23 = 15) (k24 : u.kd 24 = 16) (hcd : u.oI 23 1 = 0) {Q : Option Value → cS → Prop} (hQ : Q (some (.int 1)) u) : cR pr (d + 1) 239 [.ref 23] u Q := by
  refine gR_of mi_239 eF_rf rfl (Nat.le_of_ble_eq_true rfl) ?_
  show cB pr (d) cd_239 (Option.some Jvm.ClassFile.FieldType.boolean) Q 0 [some (.ref 23)] [] u
  refine g_gets1 1 rfl rfl ?_
  refine g_if_eq rfl (fun c1 => ?_) (fun c1 => ?_)
  · exact absurd c1 (by decide)
  · refine g_load rfl rfl rfl trivial ?_
    refine c_getf rfl (by assumption) (by decide) (by rfl) (by rfl) ?_
    rw [hcd]
    refine g_if_ne rfl (fun c2 => ?_) (fun c2 => ?_)
    · exact absurd rfl c2
    · refine g_iconst (nI 1) rfl (by decide) ?_
      refine g_goto rfl ?_
      refine g_vret rfl trivial (by first | exact ⟨by decide, by decide⟩ | trivial) (Nat.le_refl _) (Nat.le_refl _) ?_
      exact hQ
set_option maxRecDepth 20000 in
theorem p_canE {pr : aC} {d : Nat} {σ : Type} {Rp : σ → aH → Prop} {Fr : aH → aH → Prop} (hrf : ∀ h, Fr h h) (htr : ∀ a b d, Fr a b → Fr b d → Fr a d) {u : σ} (c : Nat) (hc : c < 128) {Q : Option Value → σ → Prop} (hQ : Q (some (.int 1)) u) : pR Rp Fr pr (d + 1) 242 [.int (nI c)] u Q := by
  refine gR_of mi_242 hrf rfl (Nat.le_of_ble_eq_true rfl) ?_
  show pB Rp Fr pr (d) cd_242 (Option.some Jvm.ClassFile.FieldType.boolean) Q 0 [some (.int (nI c))] [] u
  refine g_load rfl rfl rfl trivial ?_
  refine g_sipush (nI 255) rfl (by decide) ?_
  refine g_icmp_gt rfl (fun c1 => ?_) (fun c1 => ?_)
  · rw [nI_ltI (by omega) (by omega)] at c1
    exact absurd c1 (by omega)
  · refine g_iconst (nI 1) rfl (by decide) ?_
    refine g_goto rfl ?_
    refine g_vret rfl trivial (by first | exact ⟨by decide, by decide⟩ | trivial) (Nat.le_refl _) (Nat.le_refl _) ?_
    exact hQ
set_option maxRecDepth 20000 in
theorem c_len5 {pr : aC} {d : Nat} {u : cS} (k23 : u.kd 23 = 15) (k24 : u.kd 24 = 16) (hcd : u.oI 23 1 = 0) {Q : Option Value → cS → Prop} (hQ : Q (some (.int (u.oI 23 3))) u) : cR pr (d + 1) 233 [.ref 23] u Q := by
  refine gR_of mi_233 eF_rf rfl (Nat.le_of_ble_eq_true rfl) ?_
  show cB pr (d) cd_233 (Option.some Jvm.ClassFile.FieldType.int) Q 0 [some (.ref 23)] [] u
  refine g_load rfl rfl rfl trivial ?_
  refine c_getf rfl (by assumption) (by decide) (by rfl) (by rfl) ?_
  refine g_vret rfl trivial ⟨rfl, rfl⟩ (Nat.le_refl _) (Nat.le_refl _) ?_
  exact hQ
set_option maxRecDepth 20000 in
theorem c_len4 {pr : aC} {d : Nat} {u : cS} (k23 : u.kd 23 = 15) (k24 : u.kd 24 = 16) (hcd : u.oI 23 1 = 0) {Q : Option Value → cS → Prop} (hQ : Q (some (.int (u.oI 23 3))) u) : cR pr (d + 1 + 1) 232 [.ref 23] u Q := by
  refine gR_of mi_232 eF_rf rfl (Nat.le_of_ble_eq_true rfl) ?_
  show cB pr (d + 1) cd_232 (Option.some Jvm.ClassFile.FieldType.int) Q 0 [some (.ref 23)] [] u
  refine g_load rfl rfl rfl trivial ?_
  refine g_superI (a := 23) (n := 0) [] eF_tr rfl rfl (by decide) rfl (c_ob (κ := 15) k23 (by decide) (by rfl)) rfl (Nat.le_of_ble_eq_true rfl) (Nat.le_refl _) (Nat.le_refl _) (c_len5 k23 k24 hcd ⟨_, rfl, ?_⟩)
  refine g_vret rfl trivial ⟨rfl, rfl⟩ (Nat.le_refl _) (Nat.le_refl _) ?_
  exact hQ
set_option maxRecDepth 20000 in
theorem c_chr5 {pr : aC} {d : Nat} {u : cS} (k23 : u.kd 23 = 15) (k24 : u.kd 24 = 16) (hcd : u.oI 23 1 = 0) (n i c : Nat) (hn : u.oI 23 3 = nI n) (hn2 : n ≤ 16) (hi : i < n) (hc : u.rI 24 i = nI c) (hc2 : c < 128) {Q : Option Value → cS → Prop} (hQ : Q (some (.int (nI c))) u) : cR pr (d + 2 + 1) 235 [.ref 23, .int (nI i)] u Q := by
  refine gR_of mi_235 eF_rf rfl (Nat.le_of_ble_eq_true rfl) ?_
  show cB pr (d + 2) cd_235 (Option.some Jvm.ClassFile.FieldType.char) Q 0 [some (.ref 23), some (.int (nI i)), none, none, none] [] u
  refine g_load rfl rfl rfl trivial ?_
  refine c_getf rfl (by assumption) (by decide) (by rfl) (by rfl) ?_
  rw [hcd]
  refine g_store [some (.ref 23), some (.int (nI i)), some (.int 0), none, none] rfl rfl trivial (Nat.le_of_ble_eq_true rfl) rfl ?_
  refine g_load rfl rfl rfl trivial ?_
  refine c_getf rfl (by assumption) (by decide) (by rfl) (by rfl) ?_
  refine g_store [some (.ref 23), some (.int (nI i)), some (.int 0), some (.ref 24), none] rfl rfl trivial (Nat.le_of_ble_eq_true rfl) rfl ?_
  refine g_load rfl rfl rfl trivial ?_
  refine c_getf rfl (by assumption) (by decide) (by rfl) (by rfl) ?_
  rw [hn]
  refine g_load rfl rfl rfl trivial ?_
  refine c_len rfl (by assumption) (by decide) (by rfl) (by decide) ?_
  refine g_load rfl rfl rfl trivial ?_
  refine g_ishr rfl ?_
  rw [sh_0 16 (by decide)]
  refine g_statI [.int (nI n), .int (nI 16)] eF_tr rfl rfl rfl (Nat.le_of_ble_eq_true rfl) (Nat.le_refl _) (Nat.le_refl _) (p_min eF_rf eF_tr (nI n) (nI 16) ⟨_, rfl, ?_⟩)
  rw [if_pos ((nI_leI (by omega) (by omega)).mpr hn2)]
  refine g_store [some (.ref 23), some (.int (nI i)), some (.int 0), some (.ref 24), some (.int (nI n))] rfl rfl trivial (Nat.le_of_ble_eq_true rfl) rfl ?_
  refine g_load rfl rfl rfl trivial ?_
  refine g_load rfl rfl rfl trivial ?_
  refine g_statV [.int (nI i), .int (nI n)] eF_tr rfl rfl rfl (Nat.le_of_ble_eq_true rfl) (Nat.le_refl _) (Nat.le_refl _) (p_sChk eF_rf eF_tr i n hi (by omega) ⟨rfl, ?_⟩)
  refine g_load rfl rfl rfl trivial ?_
  refine g_if_ne rfl (fun c1 => ?_) (fun c1 => ?_)
  · exact absurd rfl c1
  · refine g_load rfl rfl rfl trivial ?_
    refine g_load rfl rfl rfl trivial ?_
    refine c_ba i rfl (by assumption) (by decide) (by rfl) rfl (by omega) (by decide) ?_
    rw [hc]
    refine g_sipush (nI 255) rfl (by decide) ?_
    refine g_iand rfl ?_
    refine g_i2c rfl ?_
    rw [ch_c c hc2]
    exact g_vret rfl trivial (rt_c hc2) (Nat.le_refl _) (Nat.le_refl _) hQ
set_option maxRecDepth 20000 in
theorem c_chr4 {pr : aC} {d : Nat} {u : cS} (k23 : u.kd 23 = 15) (k24 : u.kd 24 = 16) (hcd : u.oI 23 1 = 0) (n i c : Nat) (hn : u.oI 23 3 = nI n) (hn2 : n ≤ 16) (hi : i < n) (hc : u.rI 24 i = nI c) (hc2 : c < 128) {Q : Option Value → cS → Prop} (hQ : Q (some (.int (nI c))) u) : cR pr (d + 3 + 1) 234 [.ref 23, .int (nI i)] u Q := by
  refine gR_of mi_234 eF_rf rfl (Nat.le_of_ble_eq_true rfl) ?_
  show cB pr (d + 3) cd_234 (Option.some Jvm.ClassFile.FieldType.char) Q 0 [some (.ref 23), some (.int (nI i))] [] u
  refine g_load rfl rfl rfl trivial ?_
  refine g_load rfl rfl rfl trivial ?_
  refine g_superI (a := 23) (n := 1) [.int (nI i)] eF_tr rfl rfl (by decide) rfl (c_ob (κ := 15) k23 (by decide) (by rfl)) rfl (Nat.le_of_ble_eq_true rfl) (Nat.le_refl _) (Nat.le_refl _) (c_chr5 k23 k24 hcd n i c hn hn2 hi hc hc2 ⟨_, rfl, ?_⟩)
  exact g_vret rfl trivial (rt_c hc2) (Nat.le_refl _) (Nat.le_refl _) hQ
theorem sb_app {u : cS} {L : List Nat} {c : Nat} (hL : sbJ u L) (h16 : L.length < 16) (hc : c < 128) : onS u (upI (upO u 23 3 (nI (L.length + 1))) 24 L.length (nI c)) ∧ sbJ (upI (upO u 23 3 (nI (L.length + 1))) 24 L.length (nI c)) (L ++ [c]) := by
  obtain ⟨k23, k24, hcd, hn, hn2, hg, hg2⟩ := hL
  have el : (L ++ [c]).length = L.length + 1 := by simp
  refine ⟨⟨rfl, rfl, rfl, rfl, fun b hb => u2_a u.oI _ hb, fun b hb => u2_a u.rI _ hb⟩, k23, k24, ?_, ?_, by omega, fun i hi => ?_, fun i hi => ?_⟩
  · show u2 u.oI 23 3 (nI (L.length + 1)) 23 1 = 0; rw [u2_k _ _ (by decide)]; exact hcd
  · show u2 u.oI 23 3 (nI (L.length + 1)) 23 3 = _; rw [u2_s, el]
  · show u2 u.rI 24 L.length (nI c) 24 i = _
    by_cases e : i = L.length
    · rw [e, u2_s, gD_r]
    · rw [u2_k _ _ e, gD_l (by omega)]; exact hg i (by omega)
  · by_cases e : i = L.length
    · rw [e, gD_r]; exact hc
    · rw [gD_l (by omega)]; exact hg2 i (by omega)
set_option maxRecDepth 20000 in
theorem w_apc5 {pr : aC} {d : Nat} {u : cS} (L : List Nat) (hL : sbJ u L) (c : Nat) (hc : c < 128) (h16 : L.length < 16) {Q : Option Value → cS → Prop} (hQ : ∀ v, onS u v → sbJ v (L ++ [c]) → Q (some (.ref 23)) v) : wR pr (d + 1 + 1) 241 [.ref 23, .int (nI c)] u Q := by
  refine gR_of mi_241 cFr_rf rfl (Nat.le_of_ble_eq_true rfl) ?_
  show wB pr (d + 1) cd_241 (Option.some (Jvm.ClassFile.FieldType.object "java/lang/AbstractStringBuilder")) Q 0 [some (.ref 23), some (.int (nI c))] [] u
  have hL0 := hL
  obtain ⟨k23, k24, hcd, hn, hn2, hg, hg2⟩ := hL
  refine g_load rfl rfl rfl trivial ?_
  refine g_load rfl rfl rfl trivial ?_
  refine c_getf rfl (κ := 15) (by exact k23) (by decide) (by rfl) (by rfl) ?_
  rw [hn]
  refine g_iconst (nI 1) rfl (by decide) ?_
  refine g_iadd rfl ?_
  rw [nI_add]
  refine g_virtV (a := 23) (ci := 0) (n := 1) [.int (nI (L.length + 1))] cFr_tr rfl rfl (by decide) rfl (c_ob (κ := 15) k23 (by decide) (by rfl)) rfl (Nat.le_of_ble_eq_true rfl) (Nat.le_refl _) (Nat.le_refl _) (c_lift cFr_rf (fun _ h => h) (c_ens k23 k24 hcd (L.length + 1) (by omega) ⟨rfl, ?_⟩))
  refine g_load rfl rfl rfl trivial ?_
  refine g_virtI (a := 23) (ci := 0) (n := 0) [] cFr_tr rfl rfl (by decide) rfl (c_ob (κ := 15) k23 (by decide) (by rfl)) rfl (Nat.le_of_ble_eq_true rfl) (Nat.le_refl _) (Nat.le_refl _) (c_lift cFr_rf (fun _ h => h) (c_lat k23 k24 hcd ⟨_, rfl, ?_⟩))
  refine g_if_eq rfl (fun c1 => ?_) (fun c1 => ?_)
  · exact absurd c1 (by decide)
  · refine g_load rfl rfl rfl trivial ?_
    refine g_statI [.int (nI c)] cFr_tr rfl rfl rfl (Nat.le_of_ble_eq_true rfl) (Nat.le_refl _) (Nat.le_refl _) (p_canE cFr_rf cFr_tr c hc ⟨_, rfl, ?_⟩)
    refine g_if_eq rfl (fun c2 => ?_) (fun c2 => ?_)
    · exact absurd c2 (by decide)
    · refine g_load rfl rfl rfl trivial ?_
      refine c_getf rfl (κ := 15) (by exact k23) (by decide) (by rfl) (by rfl) ?_
      refine g_load rfl rfl rfl trivial ?_
      refine g_dup rfl rfl ?_
      refine c_getf rfl (κ := 15) (by exact k23) (by decide) (by rfl) (by rfl) ?_
      rw [hn]
      refine g_dup_x1 rfl rfl rfl ?_
      refine g_iconst (nI 1) rfl (by decide) ?_
      refine g_iadd rfl ?_
      rw [nI_add]
      refine c_puti rfl (κ := 15) (by exact k23) (by decide) (by rfl) (Nat.le_of_ble_eq_true rfl) ⟨_, _, rfl, rfl, rfl, rfl⟩ (by simp [cCell, upO, u2, cS.kd, cS.oI, cS.rI, cS.rL, cS.rR, cS.tp]) ?_
      refine g_load rfl rfl rfl trivial ?_
      refine g_i2b rfl ?_
      rw [by_c c hc]
      refine c_bas L.length rfl (κ := 16) (by exact k24) (by decide) (by rfl) rfl (by omega) (by decide) (by rfl) ?_
      rw [nar_c c hc]
      refine g_goto rfl ?_
      refine g_load rfl rfl rfl trivial ?_
      refine g_vret rfl trivial (by first | exact ⟨by decide, by decide⟩ | trivial) (Nat.le_refl _) (Nat.le_refl _) ?_
      exact hQ _ (sb_app hL0 h16 hc).1 (sb_app hL0 h16 hc).2
set_option maxRecDepth 20000 in
theorem w_apc {pr : aC} {d : Nat} {u : cS} (L : List Nat) (hL : sbJ u L) (c : Nat) (hc : c < 128) (h16 : L.length < 16) {Q : Option Value → cS → Prop} (hQ : ∀ v, onS u v → sbJ v (L ++ [c]) → Q (some (.ref 23)) v) : wR pr (d + 2 + 1) 240 [.ref 23, .int (nI c)] u Q := by
  refine gR_of mi_240 cFr_rf rfl (Nat.le_of_ble_eq_true rfl) ?_
  show wB pr (d + 2) cd_240 (Option.some (Jvm.ClassFile.FieldType.object "java/lang/StringBuilder")) Q 0 [some (.ref 23), some (.int (nI c))] [] u
  have k23 := hL.1
  refine g_load rfl rfl rfl trivial ?_
  refine g_load rfl rfl rfl trivial ?_
  refine g_superI (a := 23) (n := 1) [.int (nI c)] cFr_tr rfl rfl (by decide) rfl (c_ob (κ := 15) k23 (by decide) (by rfl)) rfl (Nat.le_of_ble_eq_true rfl) (Nat.le_refl _) (Nat.le_refl _) (w_apc5 L hL c hc h16 (fun v e1 e2 => ⟨_, rfl, ?_⟩))
  refine g_pop rfl rfl ?_
  refine g_load rfl rfl rfl trivial ?_
  refine g_vret rfl trivial (by first | exact ⟨by decide, by decide⟩ | trivial) (Nat.le_refl _) (Nat.le_refl _) ?_
  exact hQ v e1 e2
theorem sb_0 {u : cS} {v : cS} (h : onS u v) (k23 : u.kd 23 = 15) (k24 : u.kd 24 = 16) (h1 : v.oI 23 1 = 0) (h3 : v.oI 23 3 = nI 0) : sbJ v [] := ⟨by rw [h.1]; exact k23, by rw [h.1]; exact k24, h1, h3, by decide, fun i hi => absurd hi (by simp), fun i hi => absurd hi (by simp)⟩
theorem onS.o (u : cS) (k : Nat) (x : Int32) : onS u (upO u 23 k x) := ⟨rfl, rfl, rfl, rfl, fun _ hb => u2_a u.oI x hb, fun _ _ => rfl⟩
set_option maxRecDepth 20000 in
theorem w_setl5 {pr : aC} {d : Nat} {u : cS} (k23 : u.kd 23 = 15) (k24 : u.kd 24 = 16) (hcd : u.oI 23 1 = 0) (n : Nat) (hn : u.oI 23 3 = nI n) (hn2 : n ≤ 16) {Q : Option Value → cS → Prop} (hQ : ∀ v, onS u v → sbJ v [] → Q none v) : wR pr (d + 1 + 1) 237 [.ref 23, .int (nI 0)] u Q := by
  refine gR_of mi_237 cFr_rf rfl (Nat.le_of_ble_eq_true rfl) ?_
  show wB pr (d + 1) cd_237 none Q 0 [some (.ref 23), some (.int (nI 0))] [] u
  refine g_load rfl rfl rfl trivial ?_
  refine g_if_ge rfl (fun c1 => ?_) (fun c1 => ?_)
  · refine g_load rfl rfl rfl trivial ?_
    refine g_load rfl rfl rfl trivial ?_
    refine g_virtV (a := 23) (ci := 0) (n := 1) [.int (nI 0)] cFr_tr rfl rfl (by decide) rfl (c_ob (κ := 15) k23 (by decide) (by rfl)) rfl (Nat.le_of_ble_eq_true rfl) (Nat.le_refl _) (Nat.le_refl _) (c_lift cFr_rf (fun _ h => h) (c_ens k23 k24 hcd 0 (by decide) ⟨rfl, ?_⟩))
    refine g_load rfl rfl rfl trivial ?_
    refine c_getf rfl (κ := 15) (by exact k23) (by decide) (by rfl) (by rfl) ?_
    rw [hn]
    refine g_load rfl rfl rfl trivial ?_
    refine g_icmp_ge rfl (fun c2 => ?_) (fun c2 => ?_)
    · refine g_load rfl rfl rfl trivial ?_
      refine c_getf rfl (κ := 15) (by exact k23) (by decide) (by rfl) (by rfl) ?_
      rw [hn]
      refine g_load rfl rfl rfl trivial ?_
      refine g_icmp_le rfl (fun c3 => ?_) (fun c3 => ?_)
      · have hQ := hQ (upO u 23 3 (nI 0)) (onS.o u 3 _) (sb_0 (onS.o u 3 _) k23 k24 ((u2_k (a := 23) (k := 3) u.oI (nI 0) (by decide)).trans hcd) (u2_s u.oI 23 3 (nI 0)))
        refine g_load rfl rfl rfl trivial ?_
        refine g_load rfl rfl rfl trivial ?_
        refine c_puti rfl (κ := 15) (by exact k23) (by decide) (by rfl) (Nat.le_of_ble_eq_true rfl) ⟨_, _, rfl, rfl, rfl, rfl⟩ (by simp [cCell, upO, u2, cS.kd, cS.oI, cS.rI, cS.rL, cS.rR, cS.tp]) ?_
        refine g_ret rfl rfl (Nat.le_refl _) (Nat.le_refl _) ?_
        exact hQ
      · have hQ := hQ (upO (upO u 23 2 (nI 1)) 23 3 (nI 0)) ((onS.o u 2 _).tr (onS.o _ 3 _)) (sb_0 ((onS.o u 2 _).tr (onS.o _ 3 _)) k23 k24 (by show u2 (u2 u.oI 23 2 (nI 1)) 23 3 (nI 0) 23 1 = 0; rw [u2_k _ _ (by decide), u2_k _ _ (by decide)]; exact hcd) (by show u2 (u2 u.oI 23 2 (nI 1)) 23 3 (nI 0) 23 3 = _; rw [u2_s]))
        refine g_load rfl rfl rfl trivial ?_
        refine g_iconst (nI 1) rfl (by decide) ?_
        refine c_puti rfl (κ := 15) (by exact k23) (by decide) (by rfl) (Nat.le_of_ble_eq_true rfl) ⟨_, _, rfl, rfl, rfl, rfl⟩ (by simp [cCell, upO, u2, cS.kd, cS.oI, cS.rI, cS.rL, cS.rR, cS.tp]) ?_
        refine g_load rfl rfl rfl trivial ?_
        refine g_load rfl rfl rfl trivial ?_
        refine c_puti rfl (κ := 15) (by exact k23) (by decide) (by rfl) (Nat.le_of_ble_eq_true rfl) ⟨_, _, rfl, rfl, rfl, rfl⟩ (by simp [cCell, upO, u2, cS.kd, cS.oI, cS.rI, cS.rL, cS.rR, cS.tp]) ?_
        refine g_ret rfl rfl (Nat.le_refl _) (Nat.le_refl _) ?_
        exact hQ
    · exact absurd ((nI_leI (by omega) (by omega)).mpr (by omega)) c2
  · exact absurd (by decide) c1
set_option maxRecDepth 20000 in
theorem w_setl {pr : aC} {d : Nat} {u : cS} (k23 : u.kd 23 = 15) (k24 : u.kd 24 = 16) (hcd : u.oI 23 1 = 0) (n : Nat) (hn : u.oI 23 3 = nI n) (hn2 : n ≤ 16) {Q : Option Value → cS → Prop} (hQ : ∀ v, onS u v → sbJ v [] → Q none v) : wR pr (d + 2 + 1) 236 [.ref 23, .int (nI 0)] u Q := by
  refine gR_of mi_236 cFr_rf rfl (Nat.le_of_ble_eq_true rfl) ?_
  show wB pr (d + 2) cd_236 none Q 0 [some (.ref 23), some (.int (nI 0))] [] u
  refine g_load rfl rfl rfl trivial ?_
  refine g_load rfl rfl rfl trivial ?_
  refine g_superV (a := 23) (n := 1) [.int (nI 0)] cFr_tr rfl rfl (by decide) rfl (c_ob (κ := 15) k23 (by decide) (by rfl)) rfl (Nat.le_of_ble_eq_true rfl) (Nat.le_refl _) (Nat.le_refl _) (w_setl5 k23 k24 hcd n hn hn2 (fun v e1 e2 => ⟨rfl, ?_⟩))
  refine g_ret rfl rfl (Nat.le_refl _) (Nat.le_refl _) ?_
  exact hQ v e1 e2
