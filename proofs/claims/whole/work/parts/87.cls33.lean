/-! ===== the JDK: the word pass is appended ===== -/
theorem cf_K {u : cS} (h : aH) (hR : CF u h) : cK h ∧ 16 ≤ h.2 := ⟨hR.2.1, hR.1.1⟩
/-- the bytes of the word pass come into the text's row -/
def cpS (u : cS) : cS := (u.kd, u.oI, (fun b => if b = 24 then va_cpy (fun i => ([112, 97, 115, 115] : List Int32).getD i 0) (u.rI 24) 0 0 4 else u.rI b), u.rL, u.rR, u.tp)
theorem c_acp {cl : aC} {cd : List aE} {C S : Nat} {rt : Option FieldType} {Q : Option Value → cS → Prop} {k : Nat} {l : aL} {st : List Value} {u : cS} {c s x y : Nat} (hg : aGet cd k = some (.monitorenter, x, y)) (hk : u.kd 24 = 16) (hcat : aCat st ≤ 8) (hP : gB CF cFr cl cd C S rt Q (k + 1) l st (cpS u) c s) : gB CF cFr cl cd C S rt Q k l (.int (nI 4) :: .int (nI 0) :: .ref 24 :: .int 0 :: .ref 5 :: st) u c s := by
  intro h0' h QQ hR hF hQ P hr
  have hk0 : u.kd 24 ≠ 0 := by rw [hk]; decide
  obtain ⟨x1, x2, x3, x4⟩ := hR.2.2 24 hk0
  rw [hk] at x4
  have h5 : h.1 5 = .inl (2, 4, .inl (fun i => ([112, 97, 115, 115] : List Int32).getD i 0)) := (hR.2.1 5 (by decide))
  refine hr 53 k x y 24 5 16 4 (fun i => ([112, 97, 115, 115] : List Int32).getD i 0) (u.rI 24) 4 l st h c s hg (by decide) h5 x1 x3 x4 hcat (by decide) 0 (by decide) (by decide) (by decide) (by decide) ?_
  refine hP h0' _ QQ (hR.put hk0 rfl rfl (fun b hb κ => ?_) ?_) (hF.up x1 x2) hQ P hr
  · have e : (cpS u).rI b = u.rI b := if_neg hb
    unfold cCell
    rw [e]; rfl
  · rw [hk]
    show Sum.inl (2, 16, Sum.inl ((cpS u).rI 24)) = _
    rw [show (cpS u).rI 24 = va_cpy (fun i => ([112, 97, 115, 115] : List Int32).getD i 0) (u.rI 24) 0 0 4 from rfl]
set_option maxRecDepth 20000 in
theorem w_gby {pr : aC} {d : Nat} {u : cS} (k24 : u.kd 24 = 16) {Q : Option Value → cS → Prop} (hQ : Q none (cpS u)) : wR pr (d + 1 + 1) 251 [.ref 4, .ref 24, .int (nI 0), .int 0] u Q := by
  refine gR_of mi_251 cFr_rf rfl (Nat.le_of_ble_eq_true rfl) ?_
  show wB pr (d + 1) cd_251 none Q 0 [some (.ref 4), some (.ref 24), some (.int (nI 0)), some (.int 0)] [] u
  refine g_load rfl rfl rfl trivial ?_
  refine g_virtCI (a := 4) (n := 0) [] cFr_tr rfl rfl (by decide) rfl (by decide) (fun h hR => (cf_K h hR).1 4 (by decide)) rfl (Nat.le_of_ble_eq_true rfl) (Nat.le_refl _) (Nat.le_refl _) (p_sCoder cFr_rf cFr_tr cf_K 4 4 sgP sK_4 ⟨_, rfl, ?_⟩)
  refine g_load rfl rfl rfl trivial ?_
  refine g_icmp_ne rfl (fun c1 => ?_) (fun c1 => ?_)
  · exact absurd rfl c1
  · refine g_load rfl rfl rfl trivial ?_
    refine g_getfC rfl (by decide) (fun h hR => (cf_K h hR).1 4 (by decide)) rfl ?_
    refine g_iconst (nI 0) rfl (by decide) ?_
    refine g_load rfl rfl rfl trivial ?_
    refine g_load rfl rfl rfl trivial ?_
    refine g_load rfl rfl rfl trivial ?_
    refine g_ishl rfl ?_
    rw [sl_0 0 (by decide)]
    refine g_load rfl rfl rfl trivial ?_
    refine g_getfC rfl (by decide) (fun h hR => (cf_K h hR).1 4 (by decide)) rfl ?_
    refine q_len rfl (N := 4) (t := 2) (fun h hR => ⟨by have := (cf_K h hR).2; omega, (cf_K h hR).1 5 (by decide)⟩) (by decide) ?_
    refine c_acp rfl k24 (Nat.le_of_ble_eq_true rfl) ?_
    refine g_goto rfl ?_
    refine g_ret rfl rfl (Nat.le_refl _) (Nat.le_refl _) ?_
    exact hQ
set_option maxRecDepth 20000 in
theorem w_inf {pr : aC} {d : Nat} {u : cS} (k23 : u.kd 23 = 15) (k24 : u.kd 24 = 16) (hcd : u.oI 23 1 = 0) {Q : Option Value → cS → Prop} (hQ : Q none u) : wR pr (d + 1 + 1) 250 [.ref 23, .ref 4] u Q := by
  refine gR_of mi_250 cFr_rf rfl (Nat.le_of_ble_eq_true rfl) ?_
  show wB pr (d + 1) cd_250 none Q 0 [some (.ref 23), some (.ref 4)] [] u
  refine g_gets1 1 rfl rfl ?_
  refine g_if_eq rfl (fun c1 => ?_) (fun c1 => ?_)
  · exact absurd c1 (by decide)
  · refine g_load rfl rfl rfl trivial ?_
    refine c_getf rfl (κ := 15) (by exact k23) (by decide) (by rfl) (by rfl) ?_
    rw [hcd]
    refine g_load rfl rfl rfl trivial ?_
    refine g_virtCI (a := 4) (n := 0) [] cFr_tr rfl rfl (by decide) rfl (by decide) (fun h hR => (cf_K h hR).1 4 (by decide)) rfl (Nat.le_of_ble_eq_true rfl) (Nat.le_refl _) (Nat.le_refl _) (p_sCoder cFr_rf cFr_tr cf_K 4 4 sgP sK_4 ⟨_, rfl, ?_⟩)
    refine g_icmp_eq rfl (fun c2 => ?_) (fun c2 => ?_)
    · refine g_ret rfl rfl (Nat.le_refl _) (Nat.le_refl _) ?_
      exact hQ
    · exact absurd rfl c2
set_option maxRecDepth 20000 in
theorem w_psa {pr : aC} {d : Nat} {u : cS} (k23 : u.kd 23 = 15) (k24 : u.kd 24 = 16) (hcd : u.oI 23 1 = 0) {Q : Option Value → cS → Prop} (hQ : Q none (cpS u)) : wR pr (d + 2 + 1) 249 [.ref 23, .int (nI 0), .ref 4] u Q := by
  refine gR_of mi_249 cFr_rf rfl (Nat.le_of_ble_eq_true rfl) ?_
  show wB pr (d + 2) cd_249 none Q 0 [some (.ref 23), some (.int (nI 0)), some (.ref 4)] [] u
  refine g_load rfl rfl rfl trivial ?_
  refine g_load rfl rfl rfl trivial ?_
  refine g_virtV (a := 23) (ci := 0) (n := 1) [.ref 4] cFr_tr rfl rfl (by decide) rfl (c_ob (κ := 15) k23 (by decide) (by rfl)) rfl (Nat.le_of_ble_eq_true rfl) (Nat.le_refl _) (Nat.le_refl _) (w_inf k23 k24 hcd ⟨rfl, ?_⟩)
  refine g_load rfl rfl rfl trivial ?_
  refine g_load rfl rfl rfl trivial ?_
  refine c_getf rfl (κ := 15) (by exact k23) (by decide) (by rfl) (by rfl) ?_
  refine g_load rfl rfl rfl trivial ?_
  refine g_load rfl rfl rfl trivial ?_
  refine c_getf rfl (κ := 15) (by exact k23) (by decide) (by rfl) (by rfl) ?_
  rw [hcd]
  refine g_virtCV (a := 4) (n := 3) [.ref 24, .int (nI 0), .int 0] cFr_tr rfl rfl (by decide) rfl (by decide) (fun h hR => (cf_K h hR).1 4 (by decide)) rfl (Nat.le_of_ble_eq_true rfl) (Nat.le_refl _) (Nat.le_refl _) (w_gby k24 ⟨rfl, ?_⟩)
  refine g_ret rfl rfl (Nat.le_refl _) (Nat.le_refl _) ?_
  exact hQ
theorem sb_pass {u : cS} (hL : sbJ u []) : onS u (upO (cpS u) 23 3 (nI 4)) ∧ sbJ (upO (cpS u) 23 3 (nI 4)) [112, 97, 115, 115] := by
  obtain ⟨k23, k24, hcd, hn, hn2, hg, hg2⟩ := hL
  refine ⟨⟨rfl, rfl, rfl, rfl, fun b hb => u2_a u.oI _ hb, fun b hb => if_neg hb⟩, k23, k24, ?_, u2_s u.oI 23 3 _, by decide, fun i hi => ?_, fun i hi => ?_⟩
  · show u2 u.oI 23 3 (nI 4) 23 1 = 0; rw [u2_k _ _ (by decide)]; exact hcd
  · show (if 24 = 24 then va_cpy (fun i => ([112, 97, 115, 115] : List Int32).getD i 0) (u.rI 24) 0 0 4 else u.rI 24) i = _
    rw [if_pos rfl]
    have hi4 : i < 4 := hi
    unfold va_cpy
    rw [if_pos ⟨by omega, by omega⟩]
    rcases (show i = 0 ∨ i = 1 ∨ i = 2 ∨ i = 3 by omega) with e | e | e | e <;> subst e <;> rfl
  · have hi4 : i < 4 := hi
    rcases (show i = 0 ∨ i = 1 ∨ i = 2 ∨ i = 3 by omega) with e | e | e | e <;> subst e <;> decide
set_option maxRecDepth 20000 in
theorem w_aps5 {pr : aC} {d : Nat} {u : cS} (hL : sbJ u []) {Q : Option Value → cS → Prop} (hQ : ∀ v, onS u v → sbJ v [112, 97, 115, 115] → Q (some (.ref 23)) v) : wR pr (d + 3 + 1) 248 [.ref 23, .ref 4] u Q := by
  refine gR_of mi_248 cFr_rf rfl (Nat.le_of_ble_eq_true rfl) ?_
  show wB pr (d + 3) cd_248 (Option.some (Jvm.ClassFile.FieldType.object "java/lang/AbstractStringBuilder")) Q 0 [some (.ref 23), some (.ref 4), none] [] u
  have hL0 := hL
  obtain ⟨k23, k24, hcd, hn, hn2, hg, hg2⟩ := hL
  refine g_load rfl rfl rfl trivial ?_
  refine g_ifnonnull_r rfl ?_
  refine g_load rfl rfl rfl trivial ?_
  refine g_virtCI (a := 4) (n := 0) [] cFr_tr rfl rfl (by decide) rfl (by decide) (fun h hR => (cf_K h hR).1 4 (by decide)) rfl (Nat.le_of_ble_eq_true rfl) (Nat.le_refl _) (Nat.le_refl _) (p_sLen cFr_rf cFr_tr cf_K 4 4 sgP sK_4 ⟨_, rfl, ?_⟩)
  refine g_store [some (.ref 23), some (.ref 4), some (.int (nI 4))] rfl rfl trivial (Nat.le_of_ble_eq_true rfl) rfl ?_
  refine g_load rfl rfl rfl trivial ?_
  refine g_load rfl rfl rfl trivial ?_
  refine c_getf rfl (κ := 15) (by exact k23) (by decide) (by rfl) (by rfl) ?_
  rw [show u.oI 23 3 = nI 0 from hn]
  refine g_load rfl rfl rfl trivial ?_
  refine g_iadd rfl ?_
  rw [nI_add]
  refine g_virtV (a := 23) (ci := 0) (n := 1) [.int (nI (0 + 4))] cFr_tr rfl rfl (by decide) rfl (c_ob (κ := 15) k23 (by decide) (by rfl)) rfl (Nat.le_of_ble_eq_true rfl) (Nat.le_refl _) (Nat.le_refl _) (c_lift cFr_rf (fun _ h => h) (c_ens k23 k24 hcd (0 + 4) (by decide) ⟨rfl, ?_⟩))
  refine g_load rfl rfl rfl trivial ?_
  refine g_load rfl rfl rfl trivial ?_
  refine c_getf rfl (κ := 15) (by exact k23) (by decide) (by rfl) (by rfl) ?_
  rw [show u.oI 23 3 = nI 0 from hn]
  refine g_load rfl rfl rfl trivial ?_
  refine g_virtV (a := 23) (ci := 0) (n := 2) [.int (nI 0), .ref 4] cFr_tr rfl rfl (by decide) rfl (c_ob (κ := 15) k23 (by decide) (by rfl)) rfl (Nat.le_of_ble_eq_true rfl) (Nat.le_refl _) (Nat.le_refl _) (w_psa k23 k24 hcd ⟨rfl, ?_⟩)
  refine g_load rfl rfl rfl trivial ?_
  refine g_dup rfl rfl ?_
  refine c_getf rfl (κ := 15) (by exact k23) (by decide) (by rfl) (by rfl) ?_
  rw [show (cpS u).oI 23 3 = nI 0 from hn]
  refine g_load rfl rfl rfl trivial ?_
  refine g_iadd rfl ?_
  rw [nI_add]
  refine c_puti rfl (κ := 15) (by exact k23) (by decide) (by rfl) (Nat.le_of_ble_eq_true rfl) ⟨_, _, rfl, rfl, rfl, rfl⟩ (by simp [cCell, upO, u2, cS.kd, cS.oI, cS.rI, cS.rL, cS.rR, cS.tp]) ?_
  refine g_load rfl rfl rfl trivial ?_
  refine g_vret rfl trivial (by first | exact ⟨by decide, by decide⟩ | trivial) (Nat.le_refl _) (Nat.le_refl _) ?_
  exact hQ _ (sb_pass hL0).1 (sb_pass hL0).2
set_option maxRecDepth 20000 in
theorem w_aps {pr : aC} {d : Nat} {u : cS} (hL : sbJ u []) {Q : Option Value → cS → Prop} (hQ : ∀ v, onS u v → sbJ v [112, 97, 115, 115] → Q (some (.ref 23)) v) : wR pr (d + 4 + 1) 247 [.ref 23, .ref 4] u Q := by
  refine gR_of mi_247 cFr_rf rfl (Nat.le_of_ble_eq_true rfl) ?_
  show wB pr (d + 4) cd_247 (Option.some (Jvm.ClassFile.FieldType.object "java/lang/StringBuilder")) Q 0 [some (.ref 23), some (.ref 4)] [] u
  have k23 := hL.1
  refine g_load rfl rfl rfl trivial ?_
  refine g_load rfl rfl rfl trivial ?_
  refine g_superI (a := 23) (n := 1) [.ref 4] cFr_tr rfl rfl (by decide) rfl (c_ob (κ := 15) k23 (by decide) (by rfl)) rfl (Nat.le_of_ble_eq_true rfl) (Nat.le_refl _) (Nat.le_refl _) (w_aps5 hL (fun v e1 e2 => ⟨_, rfl, ?_⟩))
  refine g_pop rfl rfl ?_
  refine g_load rfl rfl rfl trivial ?_
  refine g_vret rfl trivial (by first | exact ⟨by decide, by decide⟩ | trivial) (Nat.le_refl _) (Nat.le_refl _) ?_
  exact hQ v e1 e2
