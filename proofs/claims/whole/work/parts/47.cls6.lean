/-! ===== the class: Table (what is read) ===== -/
/-- a table at T where the board at B is played: n calls, m cards -/
def tB (u : cS) (T B n m : Nat) : Prop := u.kd T = 3 ∧ u.kd (T + 1) = 4 ∧ u.kd (T + 1 + 1) = 5 ∧ u.kd (T + 3) = 6 ∧ u.kd (T + 3 + 1) = 7 ∧ u.kd (T + 3 + 2) = 8 ∧ u.kd B = 1 ∧ u.kd (B + 1) = 2 ∧ u.rR T 0 = some B ∧ u.oI (T + 1) 1 = nI n ∧ n ≤ 319 ∧ u.oI (T + 3) 2 = nI m ∧ m ≤ 52
set_option maxRecDepth 20000 in
theorem c_isBusy {pr : aC} {d : Nat} {u : cS} (T : Nat) (k0 : u.kd T = 3) {Q : Option Value → cS → Prop} (hQ : Q (some (.int (bI (u.rR T 0).isSome))) u) : cR pr (d + 1) 85 [.ref T] u Q := by
  refine gR_of mi_85 eF_rf rfl (Nat.le_of_ble_eq_true rfl) ?_
  show cB pr (d) cd_85 (Option.some Jvm.ClassFile.FieldType.boolean) Q 0 [some (.ref T)] [] u
  refine g_load rfl rfl rfl trivial ?_
  refine c_getf rfl (by assumption) (by decide) (by rfl) (by rfl) ?_
  cases hon : u.rR T 0 with
  | none =>
    rw [hon] at hQ
    refine g_ifnull_n rfl ?_
    refine g_iconst (nI 0) rfl (by decide) ?_
    exact g_vret rfl trivial ⟨by decide, by decide⟩ (Nat.le_refl _) (Nat.le_refl _) hQ
  | some B =>
    rw [hon] at hQ
    refine g_ifnull_r rfl ?_
    refine g_iconst (nI 1) rfl (by decide) ?_
    refine g_goto rfl ?_
    refine g_vret rfl trivial (by first | exact ⟨by decide, by decide⟩ | trivial) (Nat.le_refl _) (Nat.le_refl _) ?_
    exact hQ
set_option maxRecDepth 20000 in
theorem c_tboard {pr : aC} {d : Nat} {u : cS} (T B n m : Nat) (hT : tB u T B n m) {Q : Option Value → cS → Prop} (hQ : Q (some (.int (u.oI B 0))) u) : cR pr (d + 1 + 1) 86 [.ref T] u Q := by
  refine gR_of mi_86 eF_rf rfl (Nat.le_of_ble_eq_true rfl) ?_
  show cB pr (d + 1) cd_86 (Option.some Jvm.ClassFile.FieldType.int) Q 0 [some (.ref T)] [] u
  obtain ⟨k0, k1, k2, k3, k4, k5, kb, kb1, hon, hn, hn2, hm, hm2⟩ := hT
  refine g_load rfl rfl rfl trivial ?_
  refine c_getf rfl (by assumption) (by decide) (by rfl) (by rfl) ?_
  rw [hon]
  refine g_ifnonnull_r rfl ?_
  refine g_load rfl rfl rfl trivial ?_
  refine c_getf rfl (by assumption) (by decide) (by rfl) (by rfl) ?_
  rw [hon]
  refine g_virtI (a := B) (ci := 2) (n := 0) [] eF_tr rfl rfl (by decide) rfl (c_ob (by assumption) (by decide) (by rfl)) rfl (Nat.le_of_ble_eq_true rfl) (Nat.le_refl _) (Nat.le_refl _) (c_number B kb ⟨_, rfl, ?_⟩)
  refine g_vret rfl trivial ⟨rfl, rfl⟩ (Nat.le_refl _) (Nat.le_refl _) ?_
  exact hQ
set_option maxRecDepth 20000 in
theorem c_aover {pr : aC} {d : Nat} {u : cS} (T B n m : Nat) (hT : tB u T B n m) {Q : Option Value → cS → Prop} (hQ : Q (some (.int (bI (ovF (u.rI (T + 1 + 1)) n)))) u) : cR pr (d + 2 + 1) 88 [.ref T] u Q := by
  refine gR_of mi_88 eF_rf rfl (Nat.le_of_ble_eq_true rfl) ?_
  show cB pr (d + 2) cd_88 (Option.some Jvm.ClassFile.FieldType.boolean) Q 0 [some (.ref T)] [] u
  obtain ⟨k0, k1, k2, k3, k4, k5, kb, kb1, hon, hn, hn2, hm, hm2⟩ := hT
  refine g_load rfl rfl rfl trivial ?_
  refine c_getf rfl (by assumption) (by decide) (by rfl) (by rfl) ?_
  refine g_virtI (a := T + 1) (ci := 1) (n := 0) [] eF_tr rfl rfl (by decide) rfl (c_ob (by assumption) (by decide) (by rfl)) rfl (Nat.le_of_ble_eq_true rfl) (Nat.le_refl _) (Nat.le_refl _) (c_isOver (T + 1) n k1 k2 hn hn2 ⟨_, rfl, ?_⟩)
  exact g_vret rfl trivial (bI_rt _) (Nat.le_refl _) (Nat.le_refl _) hQ
set_option maxRecDepth 20000 in
theorem c_hasContract {pr : aC} {d : Nat} {u : cS} (T B n m : Nat) (hT : tB u T B n m) {Q : Option Value → cS → Prop} (hQ : Q (some (.int (bI (last ge3 (u.rI (T + 1 + 1)) n).isSome))) u) : cR pr (d + 2 + 1) 89 [.ref T] u Q := by
  refine gR_of mi_89 eF_rf rfl (Nat.le_of_ble_eq_true rfl) ?_
  show cB pr (d + 2) cd_89 (Option.some Jvm.ClassFile.FieldType.boolean) Q 0 [some (.ref T)] [] u
  obtain ⟨k0, k1, k2, k3, k4, k5, kb, kb1, hon, hn, hn2, hm, hm2⟩ := hT
  refine g_load rfl rfl rfl trivial ?_
  refine c_getf rfl (by assumption) (by decide) (by rfl) (by rfl) ?_
  refine g_virtI (a := T + 1) (ci := 1) (n := 0) [] eF_tr rfl rfl (by decide) rfl (c_ob (by assumption) (by decide) (by rfl)) rfl (Nat.le_of_ble_eq_true rfl) (Nat.le_refl _) (Nat.le_refl _) (c_latestBid (T + 1) n k1 k2 hn hn2 ⟨_, rfl, ?_⟩)
  refine g_iconst (-1) rfl (by decide) ?_
  refine g_icmp_eq rfl (fun c1 => ?_) (fun c1 => ?_)
  · rw [lbF_m1 c1] at hQ
    refine g_iconst (nI 0) rfl (by decide) ?_
    refine g_vret rfl trivial (by first | exact ⟨by decide, by decide⟩ | trivial) (Nat.le_refl _) (Nat.le_refl _) ?_
    exact hQ
  · obtain ⟨b, hb⟩ := lbF_ne c1
    rw [hb] at hQ
    refine g_iconst (nI 1) rfl (by decide) ?_
    refine g_goto rfl ?_
    refine g_vret rfl trivial (by first | exact ⟨by decide, by decide⟩ | trivial) (Nat.le_refl _) (Nat.le_refl _) ?_
    exact hQ
set_option maxRecDepth 20000 in
theorem c_isInPlay {pr : aC} {d : Nat} {u : cS} (T B n m : Nat) (hT : tB u T B n m) {Q : Option Value → cS → Prop} (hQ : Q (some (.int (bI (ovF (u.rI (T + 1 + 1)) n)))) u) : cR pr (d + 2 + 1) 90 [.ref T] u Q := by
  refine gR_of mi_90 eF_rf rfl (Nat.le_of_ble_eq_true rfl) ?_
  show cB pr (d + 2) cd_90 (Option.some Jvm.ClassFile.FieldType.boolean) Q 0 [some (.ref T)] [] u
  obtain ⟨k0, k1, k2, k3, k4, k5, kb, kb1, hon, hn, hn2, hm, hm2⟩ := hT
  refine g_load rfl rfl rfl trivial ?_
  refine c_getf rfl (by assumption) (by decide) (by rfl) (by rfl) ?_
  rw [hon]
  refine g_ifnull_r rfl ?_
  refine g_load rfl rfl rfl trivial ?_
  refine c_getf rfl (by assumption) (by decide) (by rfl) (by rfl) ?_
  refine g_virtI (a := T + 1) (ci := 1) (n := 0) [] eF_tr rfl rfl (by decide) rfl (c_ob (by assumption) (by decide) (by rfl)) rfl (Nat.le_of_ble_eq_true rfl) (Nat.le_refl _) (Nat.le_refl _) (c_isOver (T + 1) n k1 k2 hn hn2 ⟨_, rfl, ?_⟩)
  refine g_if_eq rfl (fun c1 => ?_) (fun c1 => ?_)
  · rw [bI_eq] at c1
    rw [c1] at hQ
    refine g_iconst (nI 0) rfl (by decide) ?_
    refine g_vret rfl trivial (by first | exact ⟨by decide, by decide⟩ | trivial) (Nat.le_refl _) (Nat.le_refl _) ?_
    exact hQ
  · rw [bI_ne] at c1
    rw [c1] at hQ
    refine g_iconst (nI 1) rfl (by decide) ?_
    refine g_goto rfl ?_
    refine g_vret rfl trivial (by first | exact ⟨by decide, by decide⟩ | trivial) (Nat.le_refl _) (Nat.le_refl _) ?_
    exact hQ
set_option maxRecDepth 20000 in
theorem c_admitsCall {pr : aC} {d : Nat} {u : cS} (T B n m : Nat) (hT : tB u T B n m) (c : Int32) {Q : Option Value → cS → Prop} (hQ : Q (some (.int (bI (!(ovF (u.rI (T + 1 + 1)) n) && amF (u.rI (T + 1 + 1)) n c)))) u) : cR pr (d + 3 + 1) 91 [.ref T, .int c] u Q := by
  refine gR_of mi_91 eF_rf rfl (Nat.le_of_ble_eq_true rfl) ?_
  show cB pr (d + 3) cd_91 (Option.some Jvm.ClassFile.FieldType.boolean) Q 0 [some (.ref T), some (.int c)] [] u
  obtain ⟨k0, k1, k2, k3, k4, k5, kb, kb1, hon, hn, hn2, hm, hm2⟩ := hT
  refine g_load rfl rfl rfl trivial ?_
  refine c_getf rfl (by assumption) (by decide) (by rfl) (by rfl) ?_
  rw [hon]
  refine g_ifnull_r rfl ?_
  refine g_load rfl rfl rfl trivial ?_
  refine c_getf rfl (by assumption) (by decide) (by rfl) (by rfl) ?_
  refine g_virtI (a := T + 1) (ci := 1) (n := 0) [] eF_tr rfl rfl (by decide) rfl (c_ob (by assumption) (by decide) (by rfl)) rfl (Nat.le_of_ble_eq_true rfl) (Nat.le_refl _) (Nat.le_refl _) (c_isOver (T + 1) n k1 k2 hn hn2 ⟨_, rfl, ?_⟩)
  refine g_if_ne rfl (fun c1 => ?_) (fun c1 => ?_)
  · rw [bI_ne] at c1
    rw [c1] at hQ
    refine g_iconst (nI 0) rfl (by decide) ?_
    refine g_vret rfl trivial (by first | exact ⟨by decide, by decide⟩ | trivial) (Nat.le_refl _) (Nat.le_refl _) ?_
    exact hQ
  · rw [bI_eq] at c1
    rw [c1] at hQ
    refine g_load rfl rfl rfl trivial ?_
    refine c_getf rfl (by assumption) (by decide) (by rfl) (by rfl) ?_
    refine g_load rfl rfl rfl trivial ?_
    refine g_virtI (a := T + 1) (ci := 1) (n := 1) [.int c] eF_tr rfl rfl (by decide) rfl (c_ob (by assumption) (by decide) (by rfl)) rfl (Nat.le_of_ble_eq_true rfl) (Nat.le_refl _) (Nat.le_refl _) (c_admits (T + 1) n k1 k2 hn hn2 c ⟨_, rfl, ?_⟩)
    refine g_if_eq rfl (fun c2 => ?_) (fun c2 => ?_)
    · rw [bI_eq] at c2
      rw [c2] at hQ
      refine g_iconst (nI 0) rfl (by decide) ?_
      refine g_vret rfl trivial (by first | exact ⟨by decide, by decide⟩ | trivial) (Nat.le_refl _) (Nat.le_refl _) ?_
      exact hQ
    · rw [bI_ne] at c2
      rw [c2] at hQ
      refine g_iconst (nI 1) rfl (by decide) ?_
      refine g_goto rfl ?_
      refine g_vret rfl trivial (by first | exact ⟨by decide, by decide⟩ | trivial) (Nat.le_refl _) (Nat.le_refl _) ?_
      exact hQ
set_option maxRecDepth 20000 in
theorem c_heldBy {pr : aC} {d : Nat} {u : cS} (T B n m : Nat) (hT : tB u T B n m) (s : Nat) (hs : s < 4) {Q : Option Value → cS → Prop} (hQ : Q (some (.long (u.rL (B + 1) s &&& (u.rL (T + 3) 0 ^^^ (-1))))) u) : cR pr (d + 1 + 1) 101 [.ref T, .int (nI s)] u Q := by
  refine gR_of mi_101 eF_rf rfl (Nat.le_of_ble_eq_true rfl) ?_
  show cB pr (d + 1) cd_101 (Option.some Jvm.ClassFile.FieldType.long) Q 0 [some (.ref T), some (.int (nI s))] [] u
  obtain ⟨k0, k1, k2, k3, k4, k5, kb, kb1, hon, hn, hn2, hm, hm2⟩ := hT
  refine g_load rfl rfl rfl trivial ?_
  refine c_getf rfl (by assumption) (by decide) (by rfl) (by rfl) ?_
  rw [hon]
  refine g_ifnonnull_r rfl ?_
  refine g_load rfl rfl rfl trivial ?_
  refine c_getf rfl (by assumption) (by decide) (by rfl) (by rfl) ?_
  rw [hon]
  refine g_load rfl rfl rfl trivial ?_
  refine g_virtI (a := B) (ci := 2) (n := 1) [.int (nI s)] eF_tr rfl rfl (by decide) rfl (c_ob (by assumption) (by decide) (by rfl)) rfl (Nat.le_of_ble_eq_true rfl) (Nat.le_refl _) (Nat.le_refl _) (c_cardsOf B kb kb1 s hs ⟨_, rfl, ?_⟩)
  refine g_load rfl rfl rfl trivial ?_
  refine c_getf rfl (by assumption) (by decide) (by rfl) (by rfl) ?_
  refine g_virtI (a := T + 3) (ci := 4) (n := 0) [] eF_tr rfl rfl (by decide) rfl (c_ob (by assumption) (by decide) (by rfl)) rfl (Nat.le_of_ble_eq_true rfl) (Nat.le_refl _) (Nat.le_refl _) (c_gone (T + 3) k3 ⟨_, rfl, ?_⟩)
  refine g_ldc2 (-1) rfl (by decide) ?_
  refine g_lxor rfl ?_
  refine g_land rfl ?_
  refine g_vret rfl trivial (by first | exact ⟨by decide, by decide⟩ | trivial) (Nat.le_refl _) (Nat.le_refl _) ?_
  exact hQ
/-- the suit led, as a number or none -/
def ledN (g : Nat → Int32) (m : Nat) : Option Nat := if m % 4 = 0 then none else some (cN g (m - m % 4) / 13)
theorem ledC_n {g : Nat → Int32} {m : Nat} (h : m % 4 = 0) : ledC g m = -1 := if_pos h
theorem ledC_s {g : Nat → Int32} {m : Nat} (h : ¬ m % 4 = 0) (hck : cdOk g m) : ledC g m = nI (cN g (m - m % 4) / 13) ∧ cN g (m - m % 4) / 13 < 4 := by
  have h1 := hck (m - m % 4) (by omega)
  unfold ledC
  rw [if_neg h, h1.2, pk_div (by omega) (by omega) (by omega)]
  rw [show cN g (m - m % 4) = (nI (cN g (m - m % 4))).toNatClampNeg from (nI_clamp (by omega)).symm, ← h1.2]
  exact ⟨rfl, by show cN g (m - m % 4) / 13 < 4; omega⟩
/-- what the seat in turn may play -/
def chT (L : Nat → Int64) (gn : Int64) (g : Nat → Int32) (m s : Nat) : Int64 := chS (L s &&& (gn ^^^ (-1))) (ledC g m)
set_option maxRecDepth 20000 in
theorem c_choices {pr : aC} {d : Nat} {u : cS} (T B n m : Nat) (hT : tB u T B n m) (ld : Nat) (hl : u.rI (T + 3 + 2) (m / 4) = nI ld) (hl4 : ld < 4) (hck : cdOk (u.rI (T + 3 + 1)) m) {Q : Option Value → cS → Prop} (hQ : Q (some (.long (chT (u.rL (B + 1)) (u.rL (T + 3) 0) (u.rI (T + 3 + 1)) m ((ld + m % 4) % 4)))) u) : cR pr (d + 2 + 1) 93 [.ref T] u Q := by
  refine gR_of mi_93 eF_rf rfl (Nat.le_of_ble_eq_true rfl) ?_
  show cB pr (d + 2) cd_93 (Option.some Jvm.ClassFile.FieldType.long) Q 0 [some (.ref T)] [] u
  obtain ⟨k0, k1, k2, k3, k4, k5, kb, kb1, hon, hn, hn2, hm, hm2⟩ := hT
  refine g_load rfl rfl rfl trivial ?_
  refine g_load rfl rfl rfl trivial ?_
  refine c_getf rfl (by assumption) (by decide) (by rfl) (by rfl) ?_
  refine g_virtI (a := T + 3) (ci := 4) (n := 0) [] eF_tr rfl rfl (by decide) rfl (c_ob (by assumption) (by decide) (by rfl)) rfl (Nat.le_of_ble_eq_true rfl) (Nat.le_refl _) (Nat.le_refl _) (c_pturn (T + 3) m k3 k4 k5 hm hm2 ld hl hl4 ⟨_, rfl, ?_⟩)
  refine g_virtI (a := T) (ci := 6) (n := 1) [.int (nI ((ld + m % 4) % 4))] eF_tr rfl rfl (by decide) rfl (c_ob (by assumption) (by decide) (by rfl)) rfl (Nat.le_of_ble_eq_true rfl) (Nat.le_refl _) (Nat.le_refl _) (c_heldBy T B n m ⟨k0, k1, k2, k3, k4, k5, kb, kb1, hon, hn, hn2, hm, hm2⟩ ((ld + m % 4) % 4) (by omega) ⟨_, rfl, ?_⟩)
  refine g_load rfl rfl rfl trivial ?_
  refine c_getf rfl (by assumption) (by decide) (by rfl) (by rfl) ?_
  refine g_virtI (a := T + 3) (ci := 4) (n := 0) [] eF_tr rfl rfl (by decide) rfl (c_ob (by assumption) (by decide) (by rfl)) rfl (Nat.le_of_ble_eq_true rfl) (Nat.le_refl _) (Nat.le_refl _) (c_led (T + 3) m k3 k4 k5 hm hm2 ⟨_, rfl, ?_⟩)
  unfold chT at hQ
  by_cases h4 : m % 4 = 0
  · rw [ledC_n h4]
    rw [ledC_n h4] at hQ
    refine g_statI [.long (u.rL (B + 1) ((ld + m % 4) % 4) &&& (u.rL (T + 3) 0 ^^^ (-1))), .int (-1)] eF_tr rfl rfl rfl (Nat.le_of_ble_eq_true rfl) (Nat.le_refl _) (Nat.le_refl _) (p_choices_n eF_rf eF_tr _ ⟨_, rfl, ?_⟩)
    refine g_vret rfl trivial trivial (Nat.le_refl _) (Nat.le_refl _) ?_
    rw [show chS (u.rL (B + 1) ((ld + m % 4) % 4) &&& (u.rL (T + 3) 0 ^^^ (-1))) (-1) = _ from if_pos rfl] at hQ
    exact hQ
  obtain ⟨e1, e2⟩ := ledC_s h4 hck
  rw [e1]
  rw [e1] at hQ
  refine g_statI [.long (u.rL (B + 1) ((ld + m % 4) % 4) &&& (u.rL (T + 3) 0 ^^^ (-1))), .int (nI (cN (u.rI (T + 3 + 1)) (m - m % 4) / 13))] eF_tr rfl rfl rfl (Nat.le_of_ble_eq_true rfl) (Nat.le_refl _) (Nat.le_refl _) (p_choices eF_rf eF_tr _ _ e2 ⟨_, rfl, ?_⟩)
  refine g_vret rfl trivial (by first | exact ⟨by decide, by decide⟩ | trivial) (Nat.le_refl _) (Nat.le_refl _) ?_
  exact hQ
set_option maxRecDepth 20000 in
theorem c_admitsCard {pr : aC} {d : Nat} {u : cS} (T B n m : Nat) (hT : tB u T B n m) (c : Int32) (ld : Nat) (hl : u.rI (T + 3 + 2) (m / 4) = nI ld) (hl4 : ld < 4) (hck : cdOk (u.rI (T + 3 + 1)) m) {Q : Option Value → cS → Prop} (hQ : Q (some (.int (bI (ovF (u.rI (T + 1 + 1)) n && (isCd c && hb (chT (u.rL (B + 1)) (u.rL (T + 3) 0) (u.rI (T + 3 + 1)) m ((ld + m % 4) % 4)) c.toNatClampNeg))))) u) : cR pr (d + 3 + 1) 94 [.ref T, .int c] u Q := by
  refine gR_of mi_94 eF_rf rfl (Nat.le_of_ble_eq_true rfl) ?_
  show cB pr (d + 3) cd_94 (Option.some Jvm.ClassFile.FieldType.boolean) Q 0 [some (.ref T), some (.int c)] [] u
  obtain ⟨k0, k1, k2, k3, k4, k5, kb, kb1, hon, hn, hn2, hm, hm2⟩ := hT
  refine g_load rfl rfl rfl trivial ?_
  refine g_virtI (a := T) (ci := 6) (n := 0) [] eF_tr rfl rfl (by decide) rfl (c_ob (by assumption) (by decide) (by rfl)) rfl (Nat.le_of_ble_eq_true rfl) (Nat.le_refl _) (Nat.le_refl _) (c_isInPlay T B n m ⟨k0, k1, k2, k3, k4, k5, kb, kb1, hon, hn, hn2, hm, hm2⟩ ⟨_, rfl, ?_⟩)
  refine g_if_eq rfl (fun c1 => ?_) (fun c1 => ?_)
  · rw [bI_eq] at c1
    rw [c1] at hQ
    refine g_iconst (nI 0) rfl (by decide) ?_
    refine g_vret rfl trivial (by first | exact ⟨by decide, by decide⟩ | trivial) (Nat.le_refl _) (Nat.le_refl _) ?_
    exact hQ
  · rw [bI_ne] at c1
    rw [c1] at hQ
    refine g_load rfl rfl rfl trivial ?_
    refine g_statI [.int c] eF_tr rfl rfl rfl (Nat.le_of_ble_eq_true rfl) (Nat.le_refl _) (Nat.le_refl _) (p_exists eF_rf eF_tr c ⟨_, rfl, ?_⟩)
    refine g_if_eq rfl (fun c2 => ?_) (fun c2 => ?_)
    · rw [bI_eq] at c2
      rw [c2] at hQ
      refine g_iconst (nI 0) rfl (by decide) ?_
      refine g_vret rfl trivial (by first | exact ⟨by decide, by decide⟩ | trivial) (Nat.le_refl _) (Nat.le_refl _) ?_
      exact hQ
    · rw [bI_ne] at c2
      obtain ⟨c0, hc0, rfl⟩ := cd_of c2
      rw [c2, nI_clamp (by omega)] at hQ
      refine g_load rfl rfl rfl trivial ?_
      refine g_virtI (a := T) (ci := 6) (n := 0) [] eF_tr rfl rfl (by decide) rfl (c_ob (by assumption) (by decide) (by rfl)) rfl (Nat.le_of_ble_eq_true rfl) (Nat.le_refl _) (Nat.le_refl _) (c_choices T B n m ⟨k0, k1, k2, k3, k4, k5, kb, kb1, hon, hn, hn2, hm, hm2⟩ ld hl hl4 hck ⟨_, rfl, ?_⟩)
      refine g_load rfl rfl rfl trivial ?_
      refine g_statI [.long (chT (u.rL (B + 1)) (u.rL (T + 3) 0) (u.rI (T + 3 + 1)) m ((ld + m % 4) % 4)), .int (nI c0)] eF_tr rfl rfl rfl (Nat.le_of_ble_eq_true rfl) (Nat.le_refl _) (Nat.le_refl _) (p_has eF_rf eF_tr _ c0 (by omega) ⟨_, rfl, ?_⟩)
      refine g_if_eq rfl (fun c3 => ?_) (fun c3 => ?_)
      · rw [bI_eq] at c3
        rw [c3] at hQ
        refine g_iconst (nI 0) rfl (by decide) ?_
        refine g_vret rfl trivial (by first | exact ⟨by decide, by decide⟩ | trivial) (Nat.le_refl _) (Nat.le_refl _) ?_
        exact hQ
      · rw [bI_ne] at c3
        rw [c3] at hQ
        refine g_iconst (nI 1) rfl (by decide) ?_
        refine g_goto rfl ?_
        refine g_vret rfl trivial (by first | exact ⟨by decide, by decide⟩ | trivial) (Nat.le_refl _) (Nat.le_refl _) ?_
        exact hQ
set_option maxRecDepth 20000 in
theorem c_tcall {pr : aC} {d : Nat} {u : cS} (T B n m : Nat) (hT : tB u T B n m) (i : Int32) {Q : Option Value → cS → Prop} (hQ : Q (some (.int (caF (u.rI (T + 1 + 1)) n i))) u) : cR pr (d + 1 + 1) 97 [.ref T, .int i] u Q := by
  refine gR_of mi_97 eF_rf rfl (Nat.le_of_ble_eq_true rfl) ?_
  show cB pr (d + 1) cd_97 (Option.some Jvm.ClassFile.FieldType.int) Q 0 [some (.ref T), some (.int i)] [] u
  obtain ⟨k0, k1, k2, k3, k4, k5, kb, kb1, hon, hn, hn2, hm, hm2⟩ := hT
  refine g_load rfl rfl rfl trivial ?_
  refine c_getf rfl (by assumption) (by decide) (by rfl) (by rfl) ?_
  refine g_load rfl rfl rfl trivial ?_
  refine g_virtI (a := T + 1) (ci := 1) (n := 1) [.int i] eF_tr rfl rfl (by decide) rfl (c_ob (by assumption) (by decide) (by rfl)) rfl (Nat.le_of_ble_eq_true rfl) (Nat.le_refl _) (Nat.le_refl _) (c_callAt (T + 1) n k1 k2 hn hn2 i ⟨_, rfl, ?_⟩)
  refine g_vret rfl trivial ⟨rfl, rfl⟩ (Nat.le_refl _) (Nat.le_refl _) ?_
  exact hQ
set_option maxRecDepth 20000 in
theorem c_tcard {pr : aC} {d : Nat} {u : cS} (T B n m : Nat) (hT : tB u T B n m) (i : Int32) {Q : Option Value → cS → Prop} (hQ : Q (some (.int (caF (u.rI (T + 3 + 1)) m i))) u) : cR pr (d + 1 + 1) 98 [.ref T, .int i] u Q := by
  refine gR_of mi_98 eF_rf rfl (Nat.le_of_ble_eq_true rfl) ?_
  show cB pr (d + 1) cd_98 (Option.some Jvm.ClassFile.FieldType.int) Q 0 [some (.ref T), some (.int i)] [] u
  obtain ⟨k0, k1, k2, k3, k4, k5, kb, kb1, hon, hn, hn2, hm, hm2⟩ := hT
  refine g_load rfl rfl rfl trivial ?_
  refine c_getf rfl (by assumption) (by decide) (by rfl) (by rfl) ?_
  refine g_load rfl rfl rfl trivial ?_
  refine g_virtI (a := T + 3) (ci := 4) (n := 1) [.int i] eF_tr rfl rfl (by decide) rfl (c_ob (by assumption) (by decide) (by rfl)) rfl (Nat.le_of_ble_eq_true rfl) (Nat.le_refl _) (Nat.le_refl _) (c_cardAt (T + 3) m k3 k4 k5 hm hm2 i ⟨_, rfl, ?_⟩)
  refine g_vret rfl trivial ⟨rfl, rfl⟩ (Nat.le_refl _) (Nat.le_refl _) ?_
  exact hQ
set_option maxRecDepth 20000 in
theorem c_cardsInTrick {pr : aC} {d : Nat} {u : cS} (T B n m : Nat) (hT : tB u T B n m) {Q : Option Value → cS → Prop} (hQ : Q (some (.int (nI (m % 4)))) u) : cR pr (d + 1 + 1) 99 [.ref T] u Q := by
  refine gR_of mi_99 eF_rf rfl (Nat.le_of_ble_eq_true rfl) ?_
  show cB pr (d + 1) cd_99 (Option.some Jvm.ClassFile.FieldType.int) Q 0 [some (.ref T)] [] u
  obtain ⟨k0, k1, k2, k3, k4, k5, kb, kb1, hon, hn, hn2, hm, hm2⟩ := hT
  refine g_load rfl rfl rfl trivial ?_
  refine c_getf rfl (by assumption) (by decide) (by rfl) (by rfl) ?_
  refine g_virtI (a := T + 3) (ci := 4) (n := 0) [] eF_tr rfl rfl (by decide) rfl (c_ob (by assumption) (by decide) (by rfl)) rfl (Nat.le_of_ble_eq_true rfl) (Nat.le_refl _) (Nat.le_refl _) (c_inTrick (T + 3) m k3 k4 k5 hm hm2 ⟨_, rfl, ?_⟩)
  refine g_vret rfl trivial ⟨rfl, rfl⟩ (Nat.le_refl _) (Nat.le_refl _) ?_
  exact hQ
set_option maxRecDepth 20000 in
theorem c_tricksLeft {pr : aC} {d : Nat} {u : cS} (T B n m : Nat) (hT : tB u T B n m) {Q : Option Value → cS → Prop} (hQ : Q (some (.int (nI (13 - m / 4)))) u) : cR pr (d + 1 + 1) 100 [.ref T] u Q := by
  refine gR_of mi_100 eF_rf rfl (Nat.le_of_ble_eq_true rfl) ?_
  show cB pr (d + 1) cd_100 (Option.some Jvm.ClassFile.FieldType.int) Q 0 [some (.ref T)] [] u
  obtain ⟨k0, k1, k2, k3, k4, k5, kb, kb1, hon, hn, hn2, hm, hm2⟩ := hT
  refine g_bipush (nI 13) rfl (by decide) ?_
  refine g_load rfl rfl rfl trivial ?_
  refine c_getf rfl (by assumption) (by decide) (by rfl) (by rfl) ?_
  refine g_virtI (a := T + 3) (ci := 4) (n := 0) [] eF_tr rfl rfl (by decide) rfl (c_ob (by assumption) (by decide) (by rfl)) rfl (Nat.le_of_ble_eq_true rfl) (Nat.le_refl _) (Nat.le_refl _) (c_tricksDone (T + 3) m k3 k4 k5 hm hm2 ⟨_, rfl, ?_⟩)
  refine g_isub rfl ?_
  rw [pk_sub (by omega)]
  refine g_vret rfl trivial ⟨rfl, rfl⟩ (Nat.le_refl _) (Nat.le_refl _) ?_
  exact hQ
set_option maxRecDepth 20000 in
theorem c_tricks {pr : aC} {d : Nat} {u : cS} (T B n m : Nat) (hT : tB u T B n m) {Q : Option Value → cS → Prop} (hQ : Q (some (.ref (T + 3))) u) : cR pr (d + 1) 102 [.ref T] u Q := by
  refine gR_of mi_102 eF_rf rfl (Nat.le_of_ble_eq_true rfl) ?_
  show cB pr (d) cd_102 (Option.some (Jvm.ClassFile.FieldType.object "BridgeClub$Play")) Q 0 [some (.ref T)] [] u
  obtain ⟨k0, k1, k2, k3, k4, k5, kb, kb1, hon, hn, hn2, hm, hm2⟩ := hT
  refine g_load rfl rfl rfl trivial ?_
  refine c_getf rfl (by assumption) (by decide) (by rfl) (by rfl) ?_
  refine g_vret rfl trivial (by first | exact ⟨by decide, by decide⟩ | trivial) (Nat.le_refl _) (Nat.le_refl _) ?_
  exact hQ
set_option maxRecDepth 20000 in
theorem c_tshown {pr : aC} {d : Nat} {u : cS} (T B n m : Nat) (hT : tB u T B n m) (L : Nat → Nat) (hL : ∀ j, j ≤ m / 4 → u.rI (T + 3 + 2) j = nI (L j) ∧ L j < 4) (s : Nat) (hs : s < 4) (q : Int32) {Q : Option Value → cS → Prop} (hQ : Q (some (.int (bI (anyN (soQ (u.rI (T + 3 + 1)) L m s q) ((m + 3) / 4))))) u) : cR pr (d + 2 + 1) 104 [.ref T, .int (nI s), .int q] u Q := by
  refine gR_of mi_104 eF_rf rfl (Nat.le_of_ble_eq_true rfl) ?_
  show cB pr (d + 2) cd_104 (Option.some Jvm.ClassFile.FieldType.boolean) Q 0 [some (.ref T), some (.int (nI s)), some (.int q)] [] u
  obtain ⟨k0, k1, k2, k3, k4, k5, kb, kb1, hon, hn, hn2, hm, hm2⟩ := hT
  refine g_load rfl rfl rfl trivial ?_
  refine c_getf rfl (by assumption) (by decide) (by rfl) (by rfl) ?_
  refine g_load rfl rfl rfl trivial ?_
  refine g_load rfl rfl rfl trivial ?_
  refine g_virtI (a := T + 3) (ci := 4) (n := 2) [.int (nI s), .int q] eF_tr rfl rfl (by decide) rfl (c_ob (by assumption) (by decide) (by rfl)) rfl (Nat.le_of_ble_eq_true rfl) (Nat.le_refl _) (Nat.le_refl _) (c_hasShownOut (T + 3) m k3 k4 k5 hm hm2 L hL s hs q ⟨_, rfl, ?_⟩)
  exact g_vret rfl trivial (bI_rt _) (Nat.le_refl _) (Nat.le_refl _) hQ
/-- whether a seat sees a card: h who holds it, gn what is gone -/
def snF (h : Int32) (gn : Int64) (m dc s c : Nat) : Bool := decide (h = nI s) || (hb gn c || (decide (0 < m) && decide (h = nI ((dc + 2) % 4))))
set_option maxRecDepth 20000 in
theorem c_isSeenBy {pr : aC} {d : Nat} {u : cS} (T B n m : Nat) (hT : tB u T B n m) (s c dc : Nat) (hc : c < 64) (hd : u.oI (T + 3) 4 = nI dc) (hdc : dc < 4) {Q : Option Value → cS → Prop} (hQ : Q (some (.int (bI (snF (oI (hoF (u.rL (B + 1)) c)) (u.rL (T + 3) 0) m dc s c)))) u) : cR pr (d + 3 + 1) 103 [.ref T, .int (nI s), .int (nI c)] u Q := by
  refine gR_of mi_103 eF_rf rfl (Nat.le_of_ble_eq_true rfl) ?_
  show cB pr (d + 3) cd_103 (Option.some Jvm.ClassFile.FieldType.boolean) Q 0 [some (.ref T), some (.int (nI s)), some (.int (nI c)), none] [] u
  obtain ⟨k0, k1, k2, k3, k4, k5, kb, kb1, hon, hn, hn2, hm, hm2⟩ := hT
  refine g_load rfl rfl rfl trivial ?_
  refine c_getf rfl (by assumption) (by decide) (by rfl) (by rfl) ?_
  rw [hon]
  refine g_ifnonnull_r rfl ?_
  refine g_load rfl rfl rfl trivial ?_
  refine c_getf rfl (by assumption) (by decide) (by rfl) (by rfl) ?_
  rw [hon]
  refine g_load rfl rfl rfl trivial ?_
  refine g_virtI (a := B) (ci := 2) (n := 1) [.int (nI c)] eF_tr rfl rfl (by decide) rfl (c_ob (by assumption) (by decide) (by rfl)) rfl (Nat.le_of_ble_eq_true rfl) (Nat.le_refl _) (Nat.le_refl _) (c_holder B kb kb1 c hc ⟨_, rfl, ?_⟩)
  refine g_store [some (.ref T), some (.int (nI s)), some (.int (nI c)), some (.int (oI (hoF (u.rL (B + 1)) c)))] rfl rfl trivial (Nat.le_of_ble_eq_true rfl) rfl ?_
  refine g_load rfl rfl rfl trivial ?_
  refine g_load rfl rfl rfl trivial ?_
  refine g_icmp_eq rfl (fun c1 => ?_) (fun c1 => ?_)
  · rw [show snF (oI (hoF (u.rL (B + 1)) c)) (u.rL (T + 3) 0) m dc s c = true by unfold snF; simp [c1]] at hQ
    refine g_iconst (nI 1) rfl (by decide) ?_
    refine g_vret rfl trivial (by first | exact ⟨by decide, by decide⟩ | trivial) (Nat.le_refl _) (Nat.le_refl _) ?_
    exact hQ
  · unfold snF at hQ
    rw [decide_eq_false c1, Bool.false_or] at hQ
    refine g_load rfl rfl rfl trivial ?_
    refine c_getf rfl (by assumption) (by decide) (by rfl) (by rfl) ?_
    refine g_virtI (a := T + 3) (ci := 4) (n := 0) [] eF_tr rfl rfl (by decide) rfl (c_ob (by assumption) (by decide) (by rfl)) rfl (Nat.le_of_ble_eq_true rfl) (Nat.le_refl _) (Nat.le_refl _) (c_gone (T + 3) k3 ⟨_, rfl, ?_⟩)
    refine g_load rfl rfl rfl trivial ?_
    refine g_statI [.long (u.rL (T + 3) 0), .int (nI c)] eF_tr rfl rfl rfl (Nat.le_of_ble_eq_true rfl) (Nat.le_refl _) (Nat.le_refl _) (p_has eF_rf eF_tr (u.rL (T + 3) 0) c hc ⟨_, rfl, ?_⟩)
    refine g_if_eq rfl (fun c2 => ?_) (fun c2 => ?_)
    · rw [bI_eq] at c2
      rw [c2, Bool.false_or] at hQ
      refine g_load rfl rfl rfl trivial ?_
      refine c_getf rfl (by assumption) (by decide) (by rfl) (by rfl) ?_
      refine g_virtI (a := T + 3) (ci := 4) (n := 0) [] eF_tr rfl rfl (by decide) rfl (c_ob (by assumption) (by decide) (by rfl)) rfl (Nat.le_of_ble_eq_true rfl) (Nat.le_refl _) (Nat.le_refl _) (c_plength (T + 3) k3 ⟨_, rfl, ?_⟩)
      rw [hm]
      refine g_if_le rfl (fun c3 => ?_) (fun c3 => ?_)
      · have hm0 : ¬ 0 < m := fun z => nI_nle z (by omega) c3
        rw [decide_eq_false hm0, Bool.false_and] at hQ
        refine g_iconst (nI 0) rfl (by decide) ?_
        refine g_vret rfl trivial (by first | exact ⟨by decide, by decide⟩ | trivial) (Nat.le_refl _) (Nat.le_refl _) ?_
        exact hQ
      · have hm0 : 0 < m := by
          apply Nat.pos_of_ne_zero
          intro e
          subst e
          exact c3 (by decide)
        rw [decide_eq_true hm0, Bool.true_and] at hQ
        refine g_load rfl rfl rfl trivial ?_
        refine g_load rfl rfl rfl trivial ?_
        refine c_getf rfl (by assumption) (by decide) (by rfl) (by rfl) ?_
        refine g_virtI (a := T + 3) (ci := 4) (n := 0) [] eF_tr rfl rfl (by decide) rfl (c_ob (by assumption) (by decide) (by rfl)) rfl (Nat.le_of_ble_eq_true rfl) (Nat.le_refl _) (Nat.le_refl _) (c_dummy (T + 3) dc k3 hd hdc ⟨_, rfl, ?_⟩)
        refine g_icmp_ne rfl (fun c4 => ?_) (fun c4 => ?_)
        · rw [decide_eq_false c4] at hQ
          refine g_iconst (nI 0) rfl (by decide) ?_
          refine g_vret rfl trivial (by first | exact ⟨by decide, by decide⟩ | trivial) (Nat.le_refl _) (Nat.le_refl _) ?_
          exact hQ
        · rw [decide_eq_true c4] at hQ
          refine g_iconst (nI 1) rfl (by decide) ?_
          refine g_goto rfl ?_
          refine g_vret rfl trivial (by first | exact ⟨by decide, by decide⟩ | trivial) (Nat.le_refl _) (Nat.le_refl _) ?_
          exact hQ
    · rw [bI_ne] at c2
      rw [c2, Bool.true_or] at hQ
      refine g_iconst (nI 1) rfl (by decide) ?_
      refine g_vret rfl trivial (by first | exact ⟨by decide, by decide⟩ | trivial) (Nat.le_refl _) (Nat.le_refl _) ?_
      exact hQ
def tlF (u : cS) (T B n m dl ld l0 : Nat) (w : Nat) : Int32 := match w with
  | 0 => u.oI B 0
  | 1 => u.oI T 1
  | 2 => u.oI T 2
  | 3 => if ovF (u.rI (T + 1 + 1)) n then nI 2 else nI 1
  | 4 => if ovF (u.rI (T + 1 + 1)) n then nI ((ld + m % 4) % 4) else nI ((dl + n) % 4)
  | 5 => lvG (u.rI (T + 1 + 1)) n
  | 6 => stG (u.rI (T + 1 + 1)) n
  | 7 => if ovF (u.rI (T + 1 + 1)) n then u.oI (T + 3) 4 else -1
  | 8 => dbG (u.rI (T + 1 + 1)) n
  | 9 => nI (wnF (u.rI (T + 3 + 1)) (u.oI (T + 3) 5) l0 0 (m / 4))
  | 10 => nI (wnF (u.rI (T + 3 + 1)) (u.oI (T + 3) 5) l0 1 (m / 4))
  | 11 => nI (m % 4)
  | 12 => nI n
  | 13 => if ovF (u.rI (T + 1 + 1)) n then nI ld else -1
  | _ => -1
set_option maxRecDepth 20000 in
theorem c_ttell {pr : aC} {d : Nat} {u : cS} (T B n m : Nat) (hT : tB u T B n m) (w : Int32) (dl ld l0 : Nat) (hd : u.oI (T + 1) 2 = nI dl) (hdl : dl < 4) (hl0 : l0 < 4) (hL : ∀ j, j ≤ m / 4 → u.rI (T + 3 + 2) j = nI (ldF (u.rI (T + 3 + 1)) (u.oI (T + 3) 5) l0 j)) (hl : u.rI (T + 3 + 2) (m / 4) = nI ld) (hl4 : ld < 4) {Q : Option Value → cS → Prop} (hQ : Q (some (.int (tlF u T B n m dl ld l0 (swN w)))) u) : cR pr (d + 3 + 1) 105 [.ref T, .int w] u Q := by
  refine gR_of mi_105 eF_rf rfl (Nat.le_of_ble_eq_true rfl) ?_
  show cB pr (d + 3) cd_105 (Option.some Jvm.ClassFile.FieldType.int) Q 0 [some (.ref T), some (.int w), none] [] u
  obtain ⟨k0, k1, k2, k3, k4, k5, kb, kb1, hon, hn, hn2, hm, hm2⟩ := hT
  refine g_load rfl rfl rfl trivial ?_
  refine g_virtI (a := T) (ci := 6) (n := 0) [] eF_tr rfl rfl (by decide) rfl (c_ob (by assumption) (by decide) (by rfl)) rfl (Nat.le_of_ble_eq_true rfl) (Nat.le_refl _) (Nat.le_refl _) (c_isInPlay T B n m ⟨k0, k1, k2, k3, k4, k5, kb, kb1, hon, hn, hn2, hm, hm2⟩ ⟨_, rfl, ?_⟩)
  refine g_store [some (.ref T), some (.int w), some (.int (bI (ovF (u.rI (T + 1 + 1)) n)))] rfl rfl trivial (Nat.le_of_ble_eq_true rfl) rfl ?_
  refine g_load rfl rfl rfl trivial ?_
  by_cases hsw : w.toInt < 0 ∨ 13 < w.toInt
  · refine g_tabOut 79 rfl hsw rfl ?_
    rw [swN_out hsw] at hQ
    simp only [tlF] at hQ
    refine g_iconst (-1) rfl (by decide) ?_
    refine g_vret rfl trivial ⟨rfl, rfl⟩ (Nat.le_refl _) (Nat.le_refl _) ?_
    exact hQ
  obtain ⟨ksw, hk, rfl⟩ := sw_of (x := w) (n := 13) hsw
  rcases (show ksw = 0 ∨ ksw = 1 ∨ ksw = 2 ∨ ksw = 3 ∨ ksw = 4 ∨ ksw = 5 ∨ ksw = 6 ∨ ksw = 7 ∨ ksw = 8 ∨ ksw = 9 ∨ ksw = 10 ∨ ksw = 11 ∨ ksw = 12 ∨ ksw = 13 by omega) with rfl | rfl | rfl | rfl | rfl | rfl | rfl | rfl | rfl | rfl | rfl | rfl | rfl | rfl
  · refine g_tabIn (70) 5 rfl (by decide) (by decide) rfl rfl ?_
    rw [swN_in 0 (by decide)] at hQ
    simp only [tlF] at hQ
    refine g_load rfl rfl rfl trivial ?_
    refine g_virtI (a := T) (ci := 6) (n := 0) [] eF_tr rfl rfl (by decide) rfl (c_ob (by assumption) (by decide) (by rfl)) rfl (Nat.le_of_ble_eq_true rfl) (Nat.le_refl _) (Nat.le_refl _) (c_tboard T B n m ⟨k0, k1, k2, k3, k4, k5, kb, kb1, hon, hn, hn2, hm, hm2⟩ ⟨_, rfl, ?_⟩)
    refine g_vret rfl trivial ⟨rfl, rfl⟩ (Nat.le_refl _) (Nat.le_refl _) ?_
    exact hQ
  · refine g_tabIn (75) 8 rfl (by decide) (by decide) rfl rfl ?_
    rw [swN_in 1 (by decide)] at hQ
    simp only [tlF] at hQ
    refine g_load rfl rfl rfl trivial ?_
    refine c_getf rfl (by assumption) (by decide) (by rfl) (by rfl) ?_
    refine g_vret rfl trivial ⟨rfl, rfl⟩ (Nat.le_refl _) (Nat.le_refl _) ?_
    exact hQ
  · refine g_tabIn (80) 11 rfl (by decide) (by decide) rfl rfl ?_
    rw [swN_in 2 (by decide)] at hQ
    simp only [tlF] at hQ
    refine g_load rfl rfl rfl trivial ?_
    refine c_getf rfl (by assumption) (by decide) (by rfl) (by rfl) ?_
    refine g_vret rfl trivial ⟨rfl, rfl⟩ (Nat.le_refl _) (Nat.le_refl _) ?_
    exact hQ
  · refine g_tabIn (85) 14 rfl (by decide) (by decide) rfl rfl ?_
    rw [swN_in 3 (by decide)] at hQ
    simp only [tlF] at hQ
    refine g_load rfl rfl rfl trivial ?_
    refine g_if_eq rfl (fun c1 => ?_) (fun c1 => ?_)
    · rw [bI_eq] at c1
      rw [if_neg (by rw [c1]; decide)] at hQ
      refine g_iconst (nI 1) rfl (by decide) ?_
      refine g_vret rfl trivial ⟨rfl, rfl⟩ (Nat.le_refl _) (Nat.le_refl _) ?_
      exact hQ
    · rw [bI_ne] at c1
      rw [if_pos c1] at hQ
      refine g_iconst (nI 2) rfl (by decide) ?_
      refine g_goto rfl ?_
      refine g_vret rfl trivial ⟨rfl, rfl⟩ (Nat.le_refl _) (Nat.le_refl _) ?_
      exact hQ
  · refine g_tabIn (95) 20 rfl (by decide) (by decide) rfl rfl ?_
    rw [swN_in 4 (by decide)] at hQ
    simp only [tlF] at hQ
    refine g_load rfl rfl rfl trivial ?_
    refine g_if_eq rfl (fun c2 => ?_) (fun c2 => ?_)
    · rw [bI_eq] at c2
      rw [if_neg (by rw [c2]; decide)] at hQ
      refine g_load rfl rfl rfl trivial ?_
      refine c_getf rfl (by assumption) (by decide) (by rfl) (by rfl) ?_
      refine g_virtI (a := T + 1) (ci := 1) (n := 0) [] eF_tr rfl rfl (by decide) rfl (c_ob (by assumption) (by decide) (by rfl)) rfl (Nat.le_of_ble_eq_true rfl) (Nat.le_refl _) (Nat.le_refl _) (c_aturn (T + 1) n k1 k2 hn hn2 dl hd hdl ⟨_, rfl, ?_⟩)
      refine g_vret rfl trivial ⟨rfl, rfl⟩ (Nat.le_refl _) (Nat.le_refl _) ?_
      exact hQ
    · rw [bI_ne] at c2
      rw [if_pos c2] at hQ
      refine g_load rfl rfl rfl trivial ?_
      refine c_getf rfl (by assumption) (by decide) (by rfl) (by rfl) ?_
      refine g_virtI (a := T + 3) (ci := 4) (n := 0) [] eF_tr rfl rfl (by decide) rfl (c_ob (by assumption) (by decide) (by rfl)) rfl (Nat.le_of_ble_eq_true rfl) (Nat.le_refl _) (Nat.le_refl _) (c_pturn (T + 3) m k3 k4 k5 hm hm2 ld hl hl4 ⟨_, rfl, ?_⟩)
      refine g_goto rfl ?_
      refine g_vret rfl trivial ⟨rfl, rfl⟩ (Nat.le_refl _) (Nat.le_refl _) ?_
      exact hQ
  · refine g_tabIn (117) 30 rfl (by decide) (by decide) rfl rfl ?_
    rw [swN_in 5 (by decide)] at hQ
    simp only [tlF] at hQ
    refine g_load rfl rfl rfl trivial ?_
    refine c_getf rfl (by assumption) (by decide) (by rfl) (by rfl) ?_
    refine g_virtI (a := T + 1) (ci := 1) (n := 0) [] eF_tr rfl rfl (by decide) rfl (c_ob (by assumption) (by decide) (by rfl)) rfl (Nat.le_of_ble_eq_true rfl) (Nat.le_refl _) (Nat.le_refl _) (c_alevel (T + 1) n k1 k2 hn hn2 ⟨_, rfl, ?_⟩)
    refine g_vret rfl trivial ⟨rfl, rfl⟩ (Nat.le_refl _) (Nat.le_refl _) ?_
    exact hQ
  · refine g_tabIn (125) 34 rfl (by decide) (by decide) rfl rfl ?_
    rw [swN_in 6 (by decide)] at hQ
    simp only [tlF] at hQ
    refine g_load rfl rfl rfl trivial ?_
    refine c_getf rfl (by assumption) (by decide) (by rfl) (by rfl) ?_
    refine g_virtI (a := T + 1) (ci := 1) (n := 0) [] eF_tr rfl rfl (by decide) rfl (c_ob (by assumption) (by decide) (by rfl)) rfl (Nat.le_of_ble_eq_true rfl) (Nat.le_refl _) (Nat.le_refl _) (c_astrain (T + 1) n k1 k2 hn hn2 ⟨_, rfl, ?_⟩)
    refine g_vret rfl trivial ⟨rfl, rfl⟩ (Nat.le_refl _) (Nat.le_refl _) ?_
    exact hQ
  · refine g_tabIn (133) 38 rfl (by decide) (by decide) rfl rfl ?_
    rw [swN_in 7 (by decide)] at hQ
    simp only [tlF] at hQ
    refine g_load rfl rfl rfl trivial ?_
    refine g_if_eq rfl (fun c3 => ?_) (fun c3 => ?_)
    · rw [bI_eq] at c3
      rw [if_neg (by rw [c3]; decide)] at hQ
      refine g_iconst (-1) rfl (by decide) ?_
      refine g_vret rfl trivial ⟨rfl, rfl⟩ (Nat.le_refl _) (Nat.le_refl _) ?_
      exact hQ
    · rw [bI_ne] at c3
      rw [if_pos c3] at hQ
      refine g_load rfl rfl rfl trivial ?_
      refine c_getf rfl (by assumption) (by decide) (by rfl) (by rfl) ?_
      refine g_virtI (a := T + 3) (ci := 4) (n := 0) [] eF_tr rfl rfl (by decide) rfl (c_ob (by assumption) (by decide) (by rfl)) rfl (Nat.le_of_ble_eq_true rfl) (Nat.le_refl _) (Nat.le_refl _) (c_pdeclarer (T + 3) k3 ⟨_, rfl, ?_⟩)
      refine g_goto rfl ?_
      refine g_vret rfl trivial ⟨rfl, rfl⟩ (Nat.le_refl _) (Nat.le_refl _) ?_
      exact hQ
  · refine g_tabIn (149) 46 rfl (by decide) (by decide) rfl rfl ?_
    rw [swN_in 8 (by decide)] at hQ
    simp only [tlF] at hQ
    refine g_load rfl rfl rfl trivial ?_
    refine c_getf rfl (by assumption) (by decide) (by rfl) (by rfl) ?_
    refine g_virtI (a := T + 1) (ci := 1) (n := 0) [] eF_tr rfl rfl (by decide) rfl (c_ob (by assumption) (by decide) (by rfl)) rfl (Nat.le_of_ble_eq_true rfl) (Nat.le_refl _) (Nat.le_refl _) (c_doubling (T + 1) n k1 k2 hn hn2 ⟨_, rfl, ?_⟩)
    refine g_vret rfl trivial ⟨rfl, rfl⟩ (Nat.le_refl _) (Nat.le_refl _) ?_
    exact hQ
  · refine g_tabIn (157) 50 rfl (by decide) (by decide) rfl rfl ?_
    rw [swN_in 9 (by decide)] at hQ
    simp only [tlF] at hQ
    refine g_load rfl rfl rfl trivial ?_
    refine c_getf rfl (by assumption) (by decide) (by rfl) (by rfl) ?_
    refine g_iconst (nI 0) rfl (by decide) ?_
    refine g_virtI (a := T + 3) (ci := 4) (n := 1) [.int (nI 0)] eF_tr rfl rfl (by decide) rfl (c_ob (by assumption) (by decide) (by rfl)) rfl (Nat.le_of_ble_eq_true rfl) (Nat.le_refl _) (Nat.le_refl _) (c_tricksOf (T + 3) m k3 k4 k5 hm hm2 l0 hl0 hL 0 (by decide) ⟨_, rfl, ?_⟩)
    refine g_vret rfl trivial ⟨rfl, rfl⟩ (Nat.le_refl _) (Nat.le_refl _) ?_
    exact hQ
  · refine g_tabIn (166) 55 rfl (by decide) (by decide) rfl rfl ?_
    rw [swN_in 10 (by decide)] at hQ
    simp only [tlF] at hQ
    refine g_load rfl rfl rfl trivial ?_
    refine c_getf rfl (by assumption) (by decide) (by rfl) (by rfl) ?_
    refine g_iconst (nI 1) rfl (by decide) ?_
    refine g_virtI (a := T + 3) (ci := 4) (n := 1) [.int (nI 1)] eF_tr rfl rfl (by decide) rfl (c_ob (by assumption) (by decide) (by rfl)) rfl (Nat.le_of_ble_eq_true rfl) (Nat.le_refl _) (Nat.le_refl _) (c_tricksOf (T + 3) m k3 k4 k5 hm hm2 l0 hl0 hL 1 (by decide) ⟨_, rfl, ?_⟩)
    refine g_vret rfl trivial ⟨rfl, rfl⟩ (Nat.le_refl _) (Nat.le_refl _) ?_
    exact hQ
  · refine g_tabIn (175) 60 rfl (by decide) (by decide) rfl rfl ?_
    rw [swN_in 11 (by decide)] at hQ
    simp only [tlF] at hQ
    refine g_load rfl rfl rfl trivial ?_
    refine c_getf rfl (by assumption) (by decide) (by rfl) (by rfl) ?_
    refine g_virtI (a := T + 3) (ci := 4) (n := 0) [] eF_tr rfl rfl (by decide) rfl (c_ob (by assumption) (by decide) (by rfl)) rfl (Nat.le_of_ble_eq_true rfl) (Nat.le_refl _) (Nat.le_refl _) (c_inTrick (T + 3) m k3 k4 k5 hm hm2 ⟨_, rfl, ?_⟩)
    refine g_vret rfl trivial ⟨rfl, rfl⟩ (Nat.le_refl _) (Nat.le_refl _) ?_
    exact hQ
  · refine g_tabIn (183) 64 rfl (by decide) (by decide) rfl rfl ?_
    rw [swN_in 12 (by decide)] at hQ
    simp only [tlF] at hQ
    refine g_load rfl rfl rfl trivial ?_
    refine c_getf rfl (by assumption) (by decide) (by rfl) (by rfl) ?_
    refine g_virtI (a := T + 1) (ci := 1) (n := 0) [] eF_tr rfl rfl (by decide) rfl (c_ob (by assumption) (by decide) (by rfl)) rfl (Nat.le_of_ble_eq_true rfl) (Nat.le_refl _) (Nat.le_refl _) (c_alength (T + 1) k1 ⟨_, rfl, ?_⟩)
    rw [hn]
    refine g_vret rfl trivial ⟨rfl, rfl⟩ (Nat.le_refl _) (Nat.le_refl _) ?_
    exact hQ
  · refine g_tabIn (191) 68 rfl (by decide) (by decide) rfl rfl ?_
    rw [swN_in 13 (by decide)] at hQ
    simp only [tlF] at hQ
    refine g_load rfl rfl rfl trivial ?_
    refine g_if_eq rfl (fun c4 => ?_) (fun c4 => ?_)
    · rw [bI_eq] at c4
      rw [if_neg (by rw [c4]; decide)] at hQ
      refine g_iconst (-1) rfl (by decide) ?_
      refine g_vret rfl trivial ⟨rfl, rfl⟩ (Nat.le_refl _) (Nat.le_refl _) ?_
      exact hQ
    · rw [bI_ne] at c4
      rw [if_pos c4] at hQ
      refine g_load rfl rfl rfl trivial ?_
      refine c_getf rfl (by assumption) (by decide) (by rfl) (by rfl) ?_
      refine g_load rfl rfl rfl trivial ?_
      refine c_getf rfl (by assumption) (by decide) (by rfl) (by rfl) ?_
      refine g_virtI (a := T + 3) (ci := 4) (n := 0) [] eF_tr rfl rfl (by decide) rfl (c_ob (by assumption) (by decide) (by rfl)) rfl (Nat.le_of_ble_eq_true rfl) (Nat.le_refl _) (Nat.le_refl _) (c_tricksDone (T + 3) m k3 k4 k5 hm hm2 ⟨_, rfl, ?_⟩)
      refine g_virtI (a := T + 3) (ci := 4) (n := 1) [.int (nI (m / 4))] eF_tr rfl rfl (by decide) rfl (c_ob (by assumption) (by decide) (by rfl)) rfl (Nat.le_of_ble_eq_true rfl) (Nat.le_refl _) (Nat.le_refl _) (c_leaderOf (T + 3) (m / 4) k3 k5 (by omega) ⟨_, rfl, ?_⟩)
      rw [hl]
      refine g_goto rfl ?_
      refine g_vret rfl trivial ⟨rfl, rfl⟩ (Nat.le_refl _) (Nat.le_refl _) ?_
      exact hQ
