/-! ===== the class: Play ===== -/
set_option maxRecDepth 20000 in
theorem c_cardAt {pr : aC} {d : Nat} {u : cS} (a m : Nat) (hk : u.kd a = 6) (hk1 : u.kd (a + 1) = 7) (hk2 : u.kd (a + 2) = 8) (hm : u.oI a 2 = nI m) (hm2 : m ≤ 52) (i : Int32) {Q : Option Value → cS → Prop} (hQ : Q (some (.int (caF (u.rI (a + 1)) m i))) u) : cR pr (d + 1) 46 [.ref a, .int i] u Q := by
  refine gR_of mi_46 eF_rf rfl (Nat.le_of_ble_eq_true rfl) ?_
  show cB pr (d) cd_46 (Option.some Jvm.ClassFile.FieldType.int) Q 0 [some (.ref a), some (.int i)] [] u
  refine g_load rfl rfl rfl trivial ?_
  refine g_if_lt rfl (fun c1 => ?_) (fun c1 => ?_)
  · rw [show caF (u.rI (a + 1)) m i = -1 from if_pos c1] at hQ
    refine g_iconst (-1) rfl (by decide) ?_
    refine g_vret rfl trivial ⟨rfl, rfl⟩ (Nat.le_refl _) (Nat.le_refl _) ?_
    exact hQ
  · unfold caF at hQ
    rw [if_neg c1] at hQ
    refine g_load rfl rfl rfl trivial ?_
    refine g_load rfl rfl rfl trivial ?_
    refine c_getf rfl (by assumption) (by decide) (by rfl) (by rfl) ?_
    rw [hm]
    refine g_icmp_ge rfl (fun c2 => ?_) (fun c2 => ?_)
    · rw [if_pos c2] at hQ
      refine g_iconst (-1) rfl (by decide) ?_
      refine g_vret rfl trivial ⟨rfl, rfl⟩ (Nat.le_refl _) (Nat.le_refl _) ?_
      exact hQ
    · rw [if_neg c2] at hQ
      obtain ⟨j, hj, rfl⟩ := nI_of c1
      rw [nI_leI (by omega) (by omega)] at c2
      rw [nI_clamp (by omega)] at hQ
      refine g_load rfl rfl rfl trivial ?_
      refine g_load rfl rfl rfl trivial ?_
      refine c_getf rfl (by assumption) (by decide) (by rfl) (by rfl) ?_
      refine c_len rfl (by assumption) (by decide) (by rfl) (by decide) ?_
      refine g_icmp_ge rfl (fun c3 => ?_) (fun c3 => ?_)
      · rw [nI_leI (by omega) (by omega)] at c3
        exact absurd c3 (by omega)
      · refine g_load rfl rfl rfl trivial ?_
        refine c_getf rfl (by assumption) (by decide) (by rfl) (by rfl) ?_
        refine g_load rfl rfl rfl trivial ?_
        refine c_ia (j) rfl (by assumption) (by decide) (by rfl) rfl (by omega) (by decide) ?_
        refine g_goto rfl ?_
        refine g_vret rfl trivial ⟨rfl, rfl⟩ (Nat.le_refl _) (Nat.le_refl _) ?_
        exact hQ
set_option maxRecDepth 20000 in
theorem c_plength {pr : aC} {d : Nat} {u : cS} (a : Nat) (hk : u.kd a = 6) {Q : Option Value → cS → Prop} (hQ : Q (some (.int (u.oI a 2))) u) : cR pr (d + 1) 45 [.ref a] u Q := by
  refine gR_of mi_45 eF_rf rfl (Nat.le_of_ble_eq_true rfl) ?_
  show cB pr (d) cd_45 (Option.some Jvm.ClassFile.FieldType.int) Q 0 [some (.ref a)] [] u
  refine g_load rfl rfl rfl trivial ?_
  refine c_getf rfl (by assumption) (by decide) (by rfl) (by rfl) ?_
  refine g_vret rfl trivial ⟨rfl, rfl⟩ (Nat.le_refl _) (Nat.le_refl _) ?_
  exact hQ
set_option maxRecDepth 20000 in
theorem c_pdeclarer {pr : aC} {d : Nat} {u : cS} (a : Nat) (hk : u.kd a = 6) {Q : Option Value → cS → Prop} (hQ : Q (some (.int (u.oI a 4))) u) : cR pr (d + 1) 47 [.ref a] u Q := by
  refine gR_of mi_47 eF_rf rfl (Nat.le_of_ble_eq_true rfl) ?_
  show cB pr (d) cd_47 (Option.some Jvm.ClassFile.FieldType.int) Q 0 [some (.ref a)] [] u
  refine g_load rfl rfl rfl trivial ?_
  refine c_getf rfl (by assumption) (by decide) (by rfl) (by rfl) ?_
  refine g_vret rfl trivial ⟨rfl, rfl⟩ (Nat.le_refl _) (Nat.le_refl _) ?_
  exact hQ
set_option maxRecDepth 20000 in
theorem c_trump {pr : aC} {d : Nat} {u : cS} (a : Nat) (hk : u.kd a = 6) {Q : Option Value → cS → Prop} (hQ : Q (some (.int (u.oI a 5))) u) : cR pr (d + 1) 49 [.ref a] u Q := by
  refine gR_of mi_49 eF_rf rfl (Nat.le_of_ble_eq_true rfl) ?_
  show cB pr (d) cd_49 (Option.some Jvm.ClassFile.FieldType.int) Q 0 [some (.ref a)] [] u
  refine g_load rfl rfl rfl trivial ?_
  refine c_getf rfl (by assumption) (by decide) (by rfl) (by rfl) ?_
  refine g_vret rfl trivial ⟨rfl, rfl⟩ (Nat.le_refl _) (Nat.le_refl _) ?_
  exact hQ
set_option maxRecDepth 20000 in
theorem c_gone {pr : aC} {d : Nat} {u : cS} (a : Nat) (hk : u.kd a = 6) {Q : Option Value → cS → Prop} (hQ : Q (some (.long (u.rL a 0))) u) : cR pr (d + 1) 50 [.ref a] u Q := by
  refine gR_of mi_50 eF_rf rfl (Nat.le_of_ble_eq_true rfl) ?_
  show cB pr (d) cd_50 (Option.some Jvm.ClassFile.FieldType.long) Q 0 [some (.ref a)] [] u
  refine g_load rfl rfl rfl trivial ?_
  refine c_getf rfl (by assumption) (by decide) (by rfl) (by rfl) ?_
  refine g_vret rfl trivial (by first | exact ⟨by decide, by decide⟩ | trivial) (Nat.le_refl _) (Nat.le_refl _) ?_
  exact hQ
set_option maxRecDepth 20000 in
theorem c_dummy {pr : aC} {d : Nat} {u : cS} (a dc : Nat) (hk : u.kd a = 6) (hd : u.oI a 4 = nI dc) (hdc : dc < 4) {Q : Option Value → cS → Prop} (hQ : Q (some (.int (nI ((dc + 2) % 4)))) u) : cR pr (d + 1) 48 [.ref a] u Q := by
  refine gR_of mi_48 eF_rf rfl (Nat.le_of_ble_eq_true rfl) ?_
  show cB pr (d) cd_48 (Option.some Jvm.ClassFile.FieldType.int) Q 0 [some (.ref a)] [] u
  refine g_load rfl rfl rfl trivial ?_
  refine c_getf rfl (by assumption) (by decide) (by rfl) (by rfl) ?_
  refine g_iconst (nI 2) rfl (by decide) ?_
  rw [hd]
  refine g_iadd rfl ?_
  rw [nI_add]
  refine g_iconst (nI 4) rfl (by decide) ?_
  refine g_irem rfl (by decide) ?_
  rw [pk_rem (by omega) (by omega) (by omega)]
  refine g_vret rfl trivial ⟨rfl, rfl⟩ (Nat.le_refl _) (Nat.le_refl _) ?_
  exact hQ
set_option maxRecDepth 20000 in
theorem c_inTrick {pr : aC} {d : Nat} {u : cS} (a m : Nat) (hk : u.kd a = 6) (hk1 : u.kd (a + 1) = 7) (hk2 : u.kd (a + 2) = 8) (hm : u.oI a 2 = nI m) (hm2 : m ≤ 52) {Q : Option Value → cS → Prop} (hQ : Q (some (.int (nI (m % 4)))) u) : cR pr (d + 1) 51 [.ref a] u Q := by
  refine gR_of mi_51 eF_rf rfl (Nat.le_of_ble_eq_true rfl) ?_
  show cB pr (d) cd_51 (Option.some Jvm.ClassFile.FieldType.int) Q 0 [some (.ref a)] [] u
  refine g_load rfl rfl rfl trivial ?_
  refine c_getf rfl (by assumption) (by decide) (by rfl) (by rfl) ?_
  refine g_iconst (nI 4) rfl (by decide) ?_
  rw [hm]
  refine g_irem rfl (by decide) ?_
  rw [pk_rem (by omega) (by omega) (by omega)]
  refine g_vret rfl trivial ⟨rfl, rfl⟩ (Nat.le_refl _) (Nat.le_refl _) ?_
  exact hQ
set_option maxRecDepth 20000 in
theorem c_tricksDone {pr : aC} {d : Nat} {u : cS} (a m : Nat) (hk : u.kd a = 6) (hk1 : u.kd (a + 1) = 7) (hk2 : u.kd (a + 2) = 8) (hm : u.oI a 2 = nI m) (hm2 : m ≤ 52) {Q : Option Value → cS → Prop} (hQ : Q (some (.int (nI (m / 4)))) u) : cR pr (d + 1) 52 [.ref a] u Q := by
  refine gR_of mi_52 eF_rf rfl (Nat.le_of_ble_eq_true rfl) ?_
  show cB pr (d) cd_52 (Option.some Jvm.ClassFile.FieldType.int) Q 0 [some (.ref a)] [] u
  refine g_load rfl rfl rfl trivial ?_
  refine c_getf rfl (by assumption) (by decide) (by rfl) (by rfl) ?_
  refine g_iconst (nI 4) rfl (by decide) ?_
  rw [hm]
  refine g_idiv rfl (by decide) ?_
  rw [pk_div (by omega) (by omega) (by omega)]
  refine g_vret rfl trivial ⟨rfl, rfl⟩ (Nat.le_refl _) (Nat.le_refl _) ?_
  exact hQ
set_option maxRecDepth 20000 in
theorem c_leaderOf {pr : aC} {d : Nat} {u : cS} (a j : Nat) (hk : u.kd a = 6) (hk2 : u.kd (a + 2) = 8) (hj : j < 14) {Q : Option Value → cS → Prop} (hQ : Q (some (.int (u.rI (a + 2) j))) u) : cR pr (d + 1) 53 [.ref a, .int (nI j)] u Q := by
  refine gR_of mi_53 eF_rf rfl (Nat.le_of_ble_eq_true rfl) ?_
  show cB pr (d) cd_53 (Option.some Jvm.ClassFile.FieldType.int) Q 0 [some (.ref a), some (.int (nI j))] [] u
  refine g_load rfl rfl rfl trivial ?_
  refine g_if_lt rfl (fun c1 => ?_) (fun c1 => ?_)
  · exact absurd c1 (nI_pos (by omega))
  · refine g_load rfl rfl rfl trivial ?_
    refine g_load rfl rfl rfl trivial ?_
    refine c_getf rfl (by assumption) (by decide) (by rfl) (by rfl) ?_
    refine c_len rfl (by assumption) (by decide) (by rfl) (by decide) ?_
    refine g_icmp_ge rfl (fun c2 => ?_) (fun c2 => ?_)
    · rw [nI_leI (by omega) (by omega)] at c2
      exact absurd c2 (by omega)
    · refine g_load rfl rfl rfl trivial ?_
      refine c_getf rfl (by assumption) (by decide) (by rfl) (by rfl) ?_
      refine g_load rfl rfl rfl trivial ?_
      refine c_ia (j) rfl (by assumption) (by decide) (by rfl) rfl (by omega) (by decide) ?_
      refine g_goto rfl ?_
      refine g_vret rfl trivial ⟨rfl, rfl⟩ (Nat.le_refl _) (Nat.le_refl _) ?_
      exact hQ
set_option maxRecDepth 20000 in
theorem c_pturn {pr : aC} {d : Nat} {u : cS} (a m : Nat) (hk : u.kd a = 6) (hk1 : u.kd (a + 1) = 7) (hk2 : u.kd (a + 2) = 8) (hm : u.oI a 2 = nI m) (hm2 : m ≤ 52) (ld : Nat) (hl : u.rI (a + 2) (m / 4) = nI ld) (hl4 : ld < 4) {Q : Option Value → cS → Prop} (hQ : Q (some (.int (nI ((ld + m % 4) % 4)))) u) : cR pr (d + 1 + 1) 54 [.ref a] u Q := by
  refine gR_of mi_54 eF_rf rfl (Nat.le_of_ble_eq_true rfl) ?_
  show cB pr (d + 1) cd_54 (Option.some Jvm.ClassFile.FieldType.int) Q 0 [some (.ref a)] [] u
  refine g_load rfl rfl rfl trivial ?_
  refine g_load rfl rfl rfl trivial ?_
  refine g_virtI (a := a) (ci := 4) (n := 0) [] eF_tr rfl rfl (by decide) rfl (c_ob (by assumption) (by decide) (by rfl)) rfl (Nat.le_of_ble_eq_true rfl) (Nat.le_refl _) (Nat.le_refl _) (c_tricksDone a m hk hk1 hk2 hm hm2 ⟨_, rfl, ?_⟩)
  refine g_virtI (a := a) (ci := 4) (n := 1) [.int (nI (m / 4))] eF_tr rfl rfl (by decide) rfl (c_ob (by assumption) (by decide) (by rfl)) rfl (Nat.le_of_ble_eq_true rfl) (Nat.le_refl _) (Nat.le_refl _) (c_leaderOf a (m / 4) hk hk2 (by omega) ⟨_, rfl, ?_⟩)
  rw [hl]
  refine g_load rfl rfl rfl trivial ?_
  refine g_virtI (a := a) (ci := 4) (n := 0) [] eF_tr rfl rfl (by decide) rfl (c_ob (by assumption) (by decide) (by rfl)) rfl (Nat.le_of_ble_eq_true rfl) (Nat.le_refl _) (Nat.le_refl _) (c_inTrick a m hk hk1 hk2 hm hm2 ⟨_, rfl, ?_⟩)
  refine g_iadd rfl ?_
  rw [nI_add]
  refine g_iconst (nI 4) rfl (by decide) ?_
  refine g_irem rfl (by decide) ?_
  rw [pk_rem (by omega) (by omega) (by omega)]
  refine g_vret rfl trivial ⟨rfl, rfl⟩ (Nat.le_refl _) (Nat.le_refl _) ?_
  exact hQ
/-- the suit led to the trick under way, -1 before that -/
def ledC (g : Nat → Int32) (m : Nat) : Int32 := if m % 4 = 0 then -1 else g (m - m % 4) / nI 13
set_option maxRecDepth 20000 in
theorem c_led {pr : aC} {d : Nat} {u : cS} (a m : Nat) (hk : u.kd a = 6) (hk1 : u.kd (a + 1) = 7) (hk2 : u.kd (a + 2) = 8) (hm : u.oI a 2 = nI m) (hm2 : m ≤ 52) {Q : Option Value → cS → Prop} (hQ : Q (some (.int (ledC (u.rI (a + 1)) m))) u) : cR pr (d + 1 + 1) 55 [.ref a] u Q := by
  refine gR_of mi_55 eF_rf rfl (Nat.le_of_ble_eq_true rfl) ?_
  show cB pr (d + 1) cd_55 (Option.some Jvm.ClassFile.FieldType.int) Q 0 [some (.ref a)] [] u
  refine g_load rfl rfl rfl trivial ?_
  refine g_virtI (a := a) (ci := 4) (n := 0) [] eF_tr rfl rfl (by decide) rfl (c_ob (by assumption) (by decide) (by rfl)) rfl (Nat.le_of_ble_eq_true rfl) (Nat.le_refl _) (Nat.le_refl _) (c_inTrick a m hk hk1 hk2 hm hm2 ⟨_, rfl, ?_⟩)
  refine g_if_ne rfl (fun c1 => ?_) (fun c1 => ?_)
  · have h4 : ¬ m % 4 = 0 := by
      intro e
      rw [e] at c1
      exact c1 rfl
    unfold ledC at hQ
    rw [if_neg h4] at hQ
    refine g_load rfl rfl rfl trivial ?_
    refine g_load rfl rfl rfl trivial ?_
    refine c_getf rfl (by assumption) (by decide) (by rfl) (by rfl) ?_
    refine g_load rfl rfl rfl trivial ?_
    refine g_virtI (a := a) (ci := 4) (n := 0) [] eF_tr rfl rfl (by decide) rfl (c_ob (by assumption) (by decide) (by rfl)) rfl (Nat.le_of_ble_eq_true rfl) (Nat.le_refl _) (Nat.le_refl _) (c_inTrick a m hk hk1 hk2 hm hm2 ⟨_, rfl, ?_⟩)
    rw [hm]
    refine g_isub rfl ?_
    rw [pk_sub (by omega)]
    refine g_virtI (a := a) (ci := 4) (n := 1) [.int (nI (m - m % 4))] eF_tr rfl rfl (by decide) rfl (c_ob (by assumption) (by decide) (by rfl)) rfl (Nat.le_of_ble_eq_true rfl) (Nat.le_refl _) (Nat.le_refl _) (c_cardAt a m hk hk1 hk2 hm hm2 (nI (m - m % 4)) ⟨_, rfl, ?_⟩)
    rw [caF_at (by omega) (by omega)]
    refine g_statI [.int (u.rI (a + 1) (m - m % 4))] eF_tr rfl rfl rfl (Nat.le_of_ble_eq_true rfl) (Nat.le_refl _) (Nat.le_refl _) (p_suitOf eF_rf eF_tr (u.rI (a + 1) (m - m % 4)) ⟨_, rfl, ?_⟩)
    refine g_vret rfl trivial ⟨rfl, rfl⟩ (Nat.le_refl _) (Nat.le_refl _) ?_
    exact hQ
  · have h4 : m % 4 = 0 := by
      apply Nat.eq_zero_of_not_pos
      intro e
      exact nI_ne0 e (by omega) c1
    unfold ledC at hQ
    rw [if_pos h4] at hQ
    refine g_iconst (-1) rfl (by decide) ?_
    refine g_goto rfl ?_
    refine g_vret rfl trivial ⟨rfl, rfl⟩ (Nat.le_refl _) (Nat.le_refl _) ?_
    exact hQ
set_option maxRecDepth 20000 in
theorem c_winningCard_l {pr : aC} {d : Nat} {u : cS} (a m : Nat) (hk : u.kd a = 6) (hk1 : u.kd (a + 1) = 7) (hk2 : u.kd (a + 2) = 8) (hm : u.oI a 2 = nI m) (hm2 : m ≤ 52) (fr n : Nat) (hn0 : 1 ≤ n) (hfn : fr + n ≤ m) {Q : Option Value → cS → Prop} (hQ : Q (some (.int ((u.rI (a + 1)) (fr + bst (u.rI (a + 1)) (u.oI a 5) fr (n - 1))))) u) : ∀ (zz : Nat) (i : Nat) (l5 : Option Value) (hm' : n - i < zz) (hi1 : 1 ≤ i) (hle : i ≤ n), cB pr (d + 1) cd_58 (Option.some Jvm.ClassFile.FieldType.int) Q 6 [some (.ref a), some (.int (nI fr)), some (.int (nI n)), some (.int ((u.rI (a + 1)) (fr + bst (u.rI (a + 1)) (u.oI a 5) fr (i - 1)))), some (.int (nI i)), l5] [] u := by
  intro zz
  induction zz with
  | zero => intro i l5 hm' hi1 hle; exact absurd hm (by omega)
  | succ zz ih =>
    intro i l5 hm' hi1 hle
    refine g_load rfl rfl rfl trivial ?_
    refine g_load rfl rfl rfl trivial ?_
    refine g_icmp_ge rfl (fun c1 => ?_) (fun c1 => ?_)
    · rw [nI_leI (by omega) (by omega)] at c1
      have e : i = n := by omega
      subst e
      refine g_load rfl rfl rfl trivial ?_
      refine g_if_le rfl (fun c2 => ?_) (fun c2 => ?_)
      · exact absurd c2 (nI_nle (by omega) (by omega))
      · refine g_load rfl rfl rfl trivial ?_
        refine g_goto rfl ?_
        refine g_vret rfl trivial ⟨rfl, rfl⟩ (Nat.le_refl _) (Nat.le_refl _) ?_
        exact hQ
    · rw [nI_leI (by omega) (by omega)] at c1
      refine g_load rfl rfl rfl trivial ?_
      refine g_load rfl rfl rfl trivial ?_
      refine g_load rfl rfl rfl trivial ?_
      refine g_iadd rfl ?_
      rw [nI_add]
      refine g_virtI (a := a) (ci := 4) (n := 1) [.int (nI (fr + i))] eF_tr rfl rfl (by decide) rfl (c_ob (by assumption) (by decide) (by rfl)) rfl (Nat.le_of_ble_eq_true rfl) (Nat.le_refl _) (Nat.le_refl _) (c_cardAt a m hk hk1 hk2 hm hm2 (nI (fr + i)) ⟨_, rfl, ?_⟩)
      rw [caF_at (by omega) (by omega)]
      refine g_store [some (.ref a), some (.int (nI fr)), some (.int (nI n)), some (.int ((u.rI (a + 1)) (fr + bst (u.rI (a + 1)) (u.oI a 5) fr (i - 1)))), some (.int (nI i)), some (.int (u.rI (a + 1) (fr + i)))] rfl rfl trivial (Nat.le_of_ble_eq_true rfl) rfl ?_
      refine g_load rfl rfl rfl trivial ?_
      refine g_load rfl rfl rfl trivial ?_
      refine g_load rfl rfl rfl trivial ?_
      refine c_getf rfl (by assumption) (by decide) (by rfl) (by rfl) ?_
      refine g_statI [.int (u.rI (a + 1) (fr + i)), .int (u.rI (a + 1) (fr + bst (u.rI (a + 1)) (u.oI a 5) fr (i - 1))), .int (u.oI a 5)] eF_tr rfl rfl rfl (Nat.le_of_ble_eq_true rfl) (Nat.le_refl _) (Nat.le_refl _) (p_beats eF_rf eF_tr (u.rI (a + 1) (fr + i)) (u.rI (a + 1) (fr + bst (u.rI (a + 1)) (u.oI a 5) fr (i - 1))) (u.oI a 5) ⟨_, rfl, ?_⟩)
      refine g_if_eq rfl (fun c3 => ?_) (fun c3 => ?_)
      · rw [bI_eq] at c3
        have hb : bst (u.rI (a + 1)) (u.oI a 5) fr (i + 1 - 1) = bst (u.rI (a + 1)) (u.oI a 5) fr (i - 1) := by
          rw [show i + 1 - 1 = (i - 1) + 1 by omega]
          show (if btF _ _ _ then _ else _) = _
          rw [show i - 1 + 1 = i by omega, c3]; rfl
        refine g_iinc (nI (i + 1)) [some (.ref a), some (.int (nI fr)), some (.int (nI n)), some (.int ((u.rI (a + 1)) (fr + bst (u.rI (a + 1)) (u.oI a 5) fr (i - 1)))), some (.int (nI (i + 1))), some (.int (u.rI (a + 1) (fr + i)))] rfl rfl (nI_1 i) rfl ?_
        refine g_goto rfl ?_
        have ih' := ih (i + 1) (some (.int (u.rI (a + 1) (fr + i)))) (by omega) (by omega) (by omega)
        rw [hb] at ih'
        exact ih'
      · rw [bI_ne] at c3
        have hb : bst (u.rI (a + 1)) (u.oI a 5) fr (i + 1 - 1) = i := by
          rw [show i + 1 - 1 = (i - 1) + 1 by omega]
          show (if btF _ _ _ then _ else _) = _
          rw [show i - 1 + 1 = i by omega, c3]; rfl
        refine g_load rfl rfl rfl trivial ?_
        refine g_store [some (.ref a), some (.int (nI fr)), some (.int (nI n)), some (.int (u.rI (a + 1) (fr + i))), some (.int (nI i)), some (.int (u.rI (a + 1) (fr + i)))] rfl rfl trivial (Nat.le_of_ble_eq_true rfl) rfl ?_
        refine g_iinc (nI (i + 1)) [some (.ref a), some (.int (nI fr)), some (.int (nI n)), some (.int (u.rI (a + 1) (fr + i))), some (.int (nI (i + 1))), some (.int (u.rI (a + 1) (fr + i)))] rfl rfl (nI_1 i) rfl ?_
        refine g_goto rfl ?_
        have ih' := ih (i + 1) (some (.int (u.rI (a + 1) (fr + i)))) (by omega) (by omega) (by omega)
        rw [hb] at ih'
        exact ih'
set_option maxRecDepth 20000 in
theorem c_winningCard {pr : aC} {d : Nat} {u : cS} (a m : Nat) (hk : u.kd a = 6) (hk1 : u.kd (a + 1) = 7) (hk2 : u.kd (a + 2) = 8) (hm : u.oI a 2 = nI m) (hm2 : m ≤ 52) (fr n : Nat) (hn0 : 1 ≤ n) (hfn : fr + n ≤ m) {Q : Option Value → cS → Prop} (hQ : Q (some (.int ((u.rI (a + 1)) (fr + bst (u.rI (a + 1)) (u.oI a 5) fr (n - 1))))) u) : cR pr (d + 1 + 1) 58 [.ref a, .int (nI fr), .int (nI n)] u Q := by
  refine gR_of mi_58 eF_rf rfl (Nat.le_of_ble_eq_true rfl) ?_
  show cB pr (d + 1) cd_58 (Option.some Jvm.ClassFile.FieldType.int) Q 0 [some (.ref a), some (.int (nI fr)), some (.int (nI n)), none, none, none] [] u
  refine g_load rfl rfl rfl trivial ?_
  refine g_load rfl rfl rfl trivial ?_
  refine g_virtI (a := a) (ci := 4) (n := 1) [.int (nI fr)] eF_tr rfl rfl (by decide) rfl (c_ob (by assumption) (by decide) (by rfl)) rfl (Nat.le_of_ble_eq_true rfl) (Nat.le_refl _) (Nat.le_refl _) (c_cardAt a m hk hk1 hk2 hm hm2 (nI fr) ⟨_, rfl, ?_⟩)
  rw [caF_at (by omega) (by omega)]
  refine g_store [some (.ref a), some (.int (nI fr)), some (.int (nI n)), some (.int (u.rI (a + 1) fr)), none, none] rfl rfl trivial (Nat.le_of_ble_eq_true rfl) rfl ?_
  refine g_iconst (nI 1) rfl (by decide) ?_
  refine g_store [some (.ref a), some (.int (nI fr)), some (.int (nI n)), some (.int (u.rI (a + 1) fr)), some (.int (nI 1)), none] rfl rfl trivial (Nat.le_of_ble_eq_true rfl) rfl ?_
  exact c_winningCard_l a m hk hk1 hk2 hm hm2 fr n hn0 hfn hQ (n + 1) 1 none (by omega) (by omega) hn0
set_option maxRecDepth 20000 in
theorem c_winningCard_0 {pr : aC} {d : Nat} {u : cS} (a m : Nat) (hk : u.kd a = 6) (hk1 : u.kd (a + 1) = 7) (hk2 : u.kd (a + 2) = 8) (hm : u.oI a 2 = nI m) (hm2 : m ≤ 52) (fr : Int32) {Q : Option Value → cS → Prop} (hQ : Q (some (.int (-1))) u) : cR pr (d + 1 + 1) 58 [.ref a, .int fr, .int (nI 0)] u Q := by
  refine gR_of mi_58 eF_rf rfl (Nat.le_of_ble_eq_true rfl) ?_
  show cB pr (d + 1) cd_58 (Option.some Jvm.ClassFile.FieldType.int) Q 0 [some (.ref a), some (.int fr), some (.int (nI 0)), none, none, none] [] u
  refine g_load rfl rfl rfl trivial ?_
  refine g_load rfl rfl rfl trivial ?_
  refine g_virtI (a := a) (ci := 4) (n := 1) [.int fr] eF_tr rfl rfl (by decide) rfl (c_ob (by assumption) (by decide) (by rfl)) rfl (Nat.le_of_ble_eq_true rfl) (Nat.le_refl _) (Nat.le_refl _) (c_cardAt a m hk hk1 hk2 hm hm2 fr ⟨_, rfl, ?_⟩)
  refine g_store [some (.ref a), some (.int fr), some (.int (nI 0)), some (.int (caF (u.rI (a + 1)) m fr)), none, none] rfl rfl trivial (Nat.le_of_ble_eq_true rfl) rfl ?_
  refine g_iconst (nI 1) rfl (by decide) ?_
  refine g_store [some (.ref a), some (.int fr), some (.int (nI 0)), some (.int (caF (u.rI (a + 1)) m fr)), some (.int (nI 1)), none] rfl rfl trivial (Nat.le_of_ble_eq_true rfl) rfl ?_
  refine g_load rfl rfl rfl trivial ?_
  refine g_load rfl rfl rfl trivial ?_
  refine g_icmp_ge rfl (fun c1 => ?_) (fun c1 => ?_)
  · refine g_load rfl rfl rfl trivial ?_
    refine g_if_le rfl (fun c2 => ?_) (fun c2 => ?_)
    · refine g_iconst (-1) rfl (by decide) ?_
      refine g_vret rfl trivial ⟨rfl, rfl⟩ (Nat.le_refl _) (Nat.le_refl _) ?_
      exact hQ
    · exact absurd (by decide) c2
  · exact absurd (by decide) c1
set_option maxRecDepth 20000 in
theorem c_winnerFrom_l {pr : aC} {d : Nat} {u : cS} (a m : Nat) (hk : u.kd a = 6) (hk1 : u.kd (a + 1) = 7) (hk2 : u.kd (a + 2) = 8) (hm : u.oI a 2 = nI m) (hm2 : m ≤ 52) (fr n ld : Nat) (hn0 : 1 ≤ n) (hfn : fr + n ≤ m) (hld : ld < 4) (hds : ∀ x y, x < n → y < n → u.rI (a + 1) (fr + x) = u.rI (a + 1) (fr + y) → x = y) {Q : Option Value → cS → Prop} (hQ : Q (some (.int (nI ((ld + bst (u.rI (a + 1)) (u.oI a 5) fr (n - 1)) % 4)))) u) : ∀ (zz : Nat) (i : Nat) (hm' : n - i < zz) (hle : i ≤ bst (u.rI (a + 1)) (u.oI a 5) fr (n - 1)), cB pr (d + 1) cd_59 (Option.some Jvm.ClassFile.FieldType.int) Q 7 [some (.ref a), some (.int (nI fr)), some (.int (nI n)), some (.int (nI ld)), some (.int ((u.rI (a + 1)) (fr + bst (u.rI (a + 1)) (u.oI a 5) fr (n - 1)))), some (.int (nI i))] [] u := by
  intro zz
  induction zz with
  | zero => intro i hm' hle; exact absurd hm (by omega)
  | succ zz ih =>
    intro i hm' hle
    have hbl := bst_le (u.rI (a + 1)) (u.oI a 5) fr (n - 1)
    refine g_load rfl rfl rfl trivial ?_
    refine g_load rfl rfl rfl trivial ?_
    refine g_icmp_ge rfl (fun c1 => ?_) (fun c1 => ?_)
    · rw [nI_leI (by omega) (by omega)] at c1
      exact absurd c1 (by omega)
    · refine g_load rfl rfl rfl trivial ?_
      refine g_load rfl rfl rfl trivial ?_
      refine g_load rfl rfl rfl trivial ?_
      refine g_iadd rfl ?_
      rw [nI_add]
      refine g_virtI (a := a) (ci := 4) (n := 1) [.int (nI (fr + i))] eF_tr rfl rfl (by decide) rfl (c_ob (by assumption) (by decide) (by rfl)) rfl (Nat.le_of_ble_eq_true rfl) (Nat.le_refl _) (Nat.le_refl _) (c_cardAt a m hk hk1 hk2 hm hm2 (nI (fr + i)) ⟨_, rfl, ?_⟩)
      rw [caF_at (by omega) (by omega)]
      refine g_load rfl rfl rfl trivial ?_
      refine g_icmp_ne rfl (fun c2 => ?_) (fun c2 => ?_)
      · have hne : ¬ i = bst (u.rI (a + 1)) (u.oI a 5) fr (n - 1) := fun e => c2 (by rw [← e])
        refine g_iinc (nI (i + 1)) [some (.ref a), some (.int (nI fr)), some (.int (nI n)), some (.int (nI ld)), some (.int ((u.rI (a + 1)) (fr + bst (u.rI (a + 1)) (u.oI a 5) fr (n - 1)))), some (.int (nI (i + 1)))] rfl rfl (nI_1 i) rfl ?_
        refine g_goto rfl ?_
        exact ih (i + 1) (by omega) (by omega)
      · have he := hds i _ (by omega) (by omega) c2
        rw [← he] at hQ
        refine g_load rfl rfl rfl trivial ?_
        refine g_load rfl rfl rfl trivial ?_
        refine g_iadd rfl ?_
        rw [nI_add]
        refine g_iconst (nI 4) rfl (by decide) ?_
        refine g_irem rfl (by decide) ?_
        rw [pk_rem (by omega) (by omega) (by omega)]
        refine g_vret rfl trivial ⟨rfl, rfl⟩ (Nat.le_refl _) (Nat.le_refl _) ?_
        exact hQ
set_option maxRecDepth 20000 in
theorem c_winnerFrom {pr : aC} {d : Nat} {u : cS} (a m : Nat) (hk : u.kd a = 6) (hk1 : u.kd (a + 1) = 7) (hk2 : u.kd (a + 2) = 8) (hm : u.oI a 2 = nI m) (hm2 : m ≤ 52) (fr n ld : Nat) (hn0 : 1 ≤ n) (hfn : fr + n ≤ m) (hld : ld < 4) (hds : ∀ x y, x < n → y < n → u.rI (a + 1) (fr + x) = u.rI (a + 1) (fr + y) → x = y) {Q : Option Value → cS → Prop} (hQ : Q (some (.int (nI ((ld + bst (u.rI (a + 1)) (u.oI a 5) fr (n - 1)) % 4)))) u) : cR pr (d + 2 + 1) 59 [.ref a, .int (nI fr), .int (nI n), .int (nI ld)] u Q := by
  refine gR_of mi_59 eF_rf rfl (Nat.le_of_ble_eq_true rfl) ?_
  show cB pr (d + 2) cd_59 (Option.some Jvm.ClassFile.FieldType.int) Q 0 [some (.ref a), some (.int (nI fr)), some (.int (nI n)), some (.int (nI ld)), none, none] [] u
  refine g_load rfl rfl rfl trivial ?_
  refine g_load rfl rfl rfl trivial ?_
  refine g_load rfl rfl rfl trivial ?_
  refine g_virtI (a := a) (ci := 4) (n := 2) [.int (nI fr), .int (nI n)] eF_tr rfl rfl (by decide) rfl (c_ob (by assumption) (by decide) (by rfl)) rfl (Nat.le_of_ble_eq_true rfl) (Nat.le_refl _) (Nat.le_refl _) (c_winningCard a m hk hk1 hk2 hm hm2 fr n hn0 hfn ⟨_, rfl, ?_⟩)
  refine g_store [some (.ref a), some (.int (nI fr)), some (.int (nI n)), some (.int (nI ld)), some (.int ((u.rI (a + 1)) (fr + bst (u.rI (a + 1)) (u.oI a 5) fr (n - 1)))), none] rfl rfl trivial (Nat.le_of_ble_eq_true rfl) rfl ?_
  refine g_iconst (nI 0) rfl (by decide) ?_
  refine g_store [some (.ref a), some (.int (nI fr)), some (.int (nI n)), some (.int (nI ld)), some (.int ((u.rI (a + 1)) (fr + bst (u.rI (a + 1)) (u.oI a 5) fr (n - 1)))), some (.int (nI 0))] rfl rfl trivial (Nat.le_of_ble_eq_true rfl) rfl ?_
  exact c_winnerFrom_l a m hk hk1 hk2 hm hm2 fr n ld hn0 hfn hld hds hQ (n + 1) 0 (by omega) (by omega)
set_option maxRecDepth 20000 in
theorem c_winnerFrom_0 {pr : aC} {d : Nat} {u : cS} (a m : Nat) (hk : u.kd a = 6) (hk1 : u.kd (a + 1) = 7) (hk2 : u.kd (a + 2) = 8) (hm : u.oI a 2 = nI m) (hm2 : m ≤ 52) (fr ld : Int32) {Q : Option Value → cS → Prop} (hQ : Q (some (.int ld)) u) : cR pr (d + 2 + 1) 59 [.ref a, .int fr, .int (nI 0), .int ld] u Q := by
  refine gR_of mi_59 eF_rf rfl (Nat.le_of_ble_eq_true rfl) ?_
  show cB pr (d + 2) cd_59 (Option.some Jvm.ClassFile.FieldType.int) Q 0 [some (.ref a), some (.int fr), some (.int (nI 0)), some (.int ld), none, none] [] u
  refine g_load rfl rfl rfl trivial ?_
  refine g_load rfl rfl rfl trivial ?_
  refine g_load rfl rfl rfl trivial ?_
  refine g_virtI (a := a) (ci := 4) (n := 2) [.int fr, .int (nI 0)] eF_tr rfl rfl (by decide) rfl (c_ob (by assumption) (by decide) (by rfl)) rfl (Nat.le_of_ble_eq_true rfl) (Nat.le_refl _) (Nat.le_refl _) (c_winningCard_0 a m hk hk1 hk2 hm hm2 fr ⟨_, rfl, ?_⟩)
  refine g_store [some (.ref a), some (.int fr), some (.int (nI 0)), some (.int ld), some (.int (-1)), none] rfl rfl trivial (Nat.le_of_ble_eq_true rfl) rfl ?_
  refine g_iconst (nI 0) rfl (by decide) ?_
  refine g_store [some (.ref a), some (.int fr), some (.int (nI 0)), some (.int ld), some (.int (-1)), some (.int (nI 0))] rfl rfl trivial (Nat.le_of_ble_eq_true rfl) rfl ?_
  refine g_load rfl rfl rfl trivial ?_
  refine g_load rfl rfl rfl trivial ?_
  refine g_icmp_ge rfl (fun c1 => ?_) (fun c1 => ?_)
  · refine g_load rfl rfl rfl trivial ?_
    refine g_vret rfl trivial ⟨rfl, rfl⟩ (Nat.le_refl _) (Nat.le_refl _) ?_
    exact hQ
  · exact absurd (by decide) c1
set_option maxRecDepth 20000 in
theorem c_tricksOf_l {pr : aC} {d : Nat} {u : cS} (a m : Nat) (hk : u.kd a = 6) (hk1 : u.kd (a + 1) = 7) (hk2 : u.kd (a + 2) = 8) (hm : u.oI a 2 = nI m) (hm2 : m ≤ 52) (l0 : Nat) (hl0 : l0 < 4) (hL : ∀ j, j ≤ m / 4 → u.rI (a + 2) j = nI (ldF (u.rI (a + 1)) (u.oI a 5) l0 j)) (s : Nat) (hs : s < 2) {Q : Option Value → cS → Prop} (hQ : Q (some (.int (nI (wnF (u.rI (a + 1)) (u.oI a 5) l0 s (m / 4))))) u) : ∀ (zz : Nat) (j : Nat) (hm' : m / 4 - j < zz) (hle : j ≤ m / 4), cB pr (d + 1) cd_60 (Option.some Jvm.ClassFile.FieldType.int) Q 4 [some (.ref a), some (.int (nI s)), some (.int (nI (wnF (u.rI (a + 1)) (u.oI a 5) l0 s j))), some (.int (nI (j + 1)))] [] u := by
  intro zz
  induction zz with
  | zero => intro j hm' hle; exact absurd hm (by omega)
  | succ zz ih =>
    intro j hm' hle
    refine g_load rfl rfl rfl trivial ?_
    refine g_load rfl rfl rfl trivial ?_
    refine g_virtI (a := a) (ci := 4) (n := 0) [] eF_tr rfl rfl (by decide) rfl (c_ob (by assumption) (by decide) (by rfl)) rfl (Nat.le_of_ble_eq_true rfl) (Nat.le_refl _) (Nat.le_refl _) (c_tricksDone a m hk hk1 hk2 hm hm2 ⟨_, rfl, ?_⟩)
    refine g_icmp_gt rfl (fun c1 => ?_) (fun c1 => ?_)
    · rw [nI_ltI (by omega) (by omega)] at c1
      have e : j = m / 4 := by omega
      rw [← e] at hQ
      refine g_load rfl rfl rfl trivial ?_
      refine g_vret rfl trivial ⟨rfl, rfl⟩ (Nat.le_refl _) (Nat.le_refl _) ?_
      exact hQ
    · rw [nI_ltI (by omega) (by omega)] at c1
      have hlt := ldF_lt (g := u.rI (a + 1)) (tr := u.oI a 5) hl0 (j + 1)
      have hwl := wnF_le (u.rI (a + 1)) (u.oI a 5) l0 s j
      refine g_load rfl rfl rfl trivial ?_
      refine g_load rfl rfl rfl trivial ?_
      refine g_virtI (a := a) (ci := 4) (n := 1) [.int (nI (j + 1))] eF_tr rfl rfl (by decide) rfl (c_ob (by assumption) (by decide) (by rfl)) rfl (Nat.le_of_ble_eq_true rfl) (Nat.le_refl _) (Nat.le_refl _) (c_leaderOf a (j + 1) hk hk2 (by omega) ⟨_, rfl, ?_⟩)
      rw [hL (j + 1) (by omega)]
      refine g_iconst (nI 2) rfl (by decide) ?_
      refine g_irem rfl (by decide) ?_
      rw [pk_rem (by omega) (by omega) (by omega)]
      refine g_load rfl rfl rfl trivial ?_
      refine g_icmp_ne rfl (fun c2 => ?_) (fun c2 => ?_)
      · rw [nI_eq (by omega) (by omega)] at c2
        have hw : wnF (u.rI (a + 1)) (u.oI a 5) l0 s (j + 1) = wnF (u.rI (a + 1)) (u.oI a 5) l0 s j := by
          show _ + (if _ then 1 else 0) = _
          rw [if_neg c2]; rfl
        refine g_iinc (nI (j + 1 + 1)) [some (.ref a), some (.int (nI s)), some (.int (nI (wnF (u.rI (a + 1)) (u.oI a 5) l0 s j))), some (.int (nI (j + 1 + 1)))] rfl rfl (nI_1 _) rfl ?_
        refine g_goto rfl ?_
        have ih' := ih (j + 1) (by omega) (by omega)
        rw [hw] at ih'
        exact ih'
      · rw [nI_eq (by omega) (by omega)] at c2
        have hw : wnF (u.rI (a + 1)) (u.oI a 5) l0 s (j + 1) = wnF (u.rI (a + 1)) (u.oI a 5) l0 s j + 1 := by
          show _ + (if _ then 1 else 0) = _
          rw [if_pos c2]
        refine g_iinc (nI (wnF (u.rI (a + 1)) (u.oI a 5) l0 s j + 1)) [some (.ref a), some (.int (nI s)), some (.int (nI (wnF (u.rI (a + 1)) (u.oI a 5) l0 s j + 1))), some (.int (nI (j + 1)))] rfl rfl (nI_1 _) rfl ?_
        refine g_iinc (nI (j + 1 + 1)) [some (.ref a), some (.int (nI s)), some (.int (nI (wnF (u.rI (a + 1)) (u.oI a 5) l0 s j + 1))), some (.int (nI (j + 1 + 1)))] rfl rfl (nI_1 _) rfl ?_
        refine g_goto rfl ?_
        have ih' := ih (j + 1) (by omega) (by omega)
        rw [hw] at ih'
        exact ih'
set_option maxRecDepth 20000 in
theorem c_tricksOf {pr : aC} {d : Nat} {u : cS} (a m : Nat) (hk : u.kd a = 6) (hk1 : u.kd (a + 1) = 7) (hk2 : u.kd (a + 2) = 8) (hm : u.oI a 2 = nI m) (hm2 : m ≤ 52) (l0 : Nat) (hl0 : l0 < 4) (hL : ∀ j, j ≤ m / 4 → u.rI (a + 2) j = nI (ldF (u.rI (a + 1)) (u.oI a 5) l0 j)) (s : Nat) (hs : s < 2) {Q : Option Value → cS → Prop} (hQ : Q (some (.int (nI (wnF (u.rI (a + 1)) (u.oI a 5) l0 s (m / 4))))) u) : cR pr (d + 1 + 1) 60 [.ref a, .int (nI s)] u Q := by
  refine gR_of mi_60 eF_rf rfl (Nat.le_of_ble_eq_true rfl) ?_
  show cB pr (d + 1) cd_60 (Option.some Jvm.ClassFile.FieldType.int) Q 0 [some (.ref a), some (.int (nI s)), none, none] [] u
  refine g_iconst (nI 0) rfl (by decide) ?_
  refine g_store [some (.ref a), some (.int (nI s)), some (.int (nI 0)), none] rfl rfl trivial (Nat.le_of_ble_eq_true rfl) rfl ?_
  refine g_iconst (nI 1) rfl (by decide) ?_
  refine g_store [some (.ref a), some (.int (nI s)), some (.int (nI 0)), some (.int (nI 1))] rfl rfl trivial (Nat.le_of_ble_eq_true rfl) rfl ?_
  exact c_tricksOf_l a m hk hk1 hk2 hm hm2 l0 hl0 hL s hs hQ (m / 4 + 1) 0 (by omega) (by omega)
/-- a seat didn't follow in trick j -/
def soQ (g : Nat → Int32) (L : Nat → Nat) (m s : Nat) (q : Int32) (j : Nat) : Bool := !(decide (caF g m (nI (4 * j + (s + 4 - L j) % 4)) = -1)) && (decide (g (4 * j) / nI 13 = q) && !(decide (caF g m (nI (4 * j + (s + 4 - L j) % 4)) / nI 13 = q)))
theorem se_rem {s l : Nat} (hs : s < 4) (hl : l < 4) : (nI s - nI l + nI 4) - (nI s - nI l + nI 4) / nI 4 * nI 4 = nI ((s + 4 - l) % 4) := by
  have h : ∀ s, s < 4 → ∀ l, l < 4 → (nI s - nI l + nI 4) - (nI s - nI l + nI 4) / nI 4 * nI 4 = nI ((s + 4 - l) % 4) := by decide
  exact h s hs l hl
set_option maxRecDepth 20000 in
theorem c_hasShownOut_l {pr : aC} {d : Nat} {u : cS} (a m : Nat) (hk : u.kd a = 6) (hk1 : u.kd (a + 1) = 7) (hk2 : u.kd (a + 2) = 8) (hm : u.oI a 2 = nI m) (hm2 : m ≤ 52) (L : Nat → Nat) (hL : ∀ j, j ≤ m / 4 → u.rI (a + 2) j = nI (L j) ∧ L j < 4) (s : Nat) (hs : s < 4) (q : Int32) {Q : Option Value → cS → Prop} (hQ : Q (some (.int (bI (anyN (soQ (u.rI (a + 1)) L m s q) ((m + 3) / 4))))) u) : ∀ (zz : Nat) (j : Nat) (l4 l5 : Option Value) (hinv : ∀ x, x < j → soQ (u.rI (a + 1)) L m s q x = false) (hm' : 20 - j < zz) (hle : 4 * j ≤ m + 3), cB pr (d + 1) cd_61 (Option.some Jvm.ClassFile.FieldType.boolean) Q 2 [some (.ref a), some (.int (nI s)), some (.int q), some (.int (nI (4 * j))), l4, l5] [] u := by
  intro zz
  induction zz with
  | zero => intro j l4 l5 hinv hm' hle; exact absurd hm (by omega)
  | succ zz ih =>
    intro j l4 l5 hinv hm' hle
    refine g_load rfl rfl rfl trivial ?_
    refine g_load rfl rfl rfl trivial ?_
    refine c_getf rfl (by assumption) (by decide) (by rfl) (by rfl) ?_
    rw [hm]
    refine g_icmp_ge rfl (fun c1 => ?_) (fun c1 => ?_)
    · rw [nI_leI (by omega) (by omega)] at c1
      rw [show anyN (soQ (u.rI (a + 1)) L m s q) ((m + 3) / 4) = false from anyN_f (fun x hx => hinv x (by omega))] at hQ
      refine g_iconst (nI 0) rfl (by decide) ?_
      refine g_vret rfl trivial (by first | exact ⟨by decide, by decide⟩ | trivial) (Nat.le_refl _) (Nat.le_refl _) ?_
      exact hQ
    · rw [nI_leI (by omega) (by omega)] at c1
      obtain ⟨hl1, hl4'⟩ := hL j (by omega)
      refine g_load rfl rfl rfl trivial ?_
      refine g_load rfl rfl rfl trivial ?_
      refine g_load rfl rfl rfl trivial ?_
      refine g_iconst (nI 4) rfl (by decide) ?_
      refine g_idiv rfl (by decide) ?_
      rw [pk_div (by omega) (by omega) (by omega), show 4 * j / 4 = j by omega]
      refine g_virtI (a := a) (ci := 4) (n := 1) [.int (nI j)] eF_tr rfl rfl (by decide) rfl (c_ob (by assumption) (by decide) (by rfl)) rfl (Nat.le_of_ble_eq_true rfl) (Nat.le_refl _) (Nat.le_refl _) (c_leaderOf a j hk hk2 (by omega) ⟨_, rfl, ?_⟩)
      rw [hl1]
      refine g_isub rfl ?_
      refine g_iconst (nI 4) rfl (by decide) ?_
      refine g_iadd rfl ?_
      refine g_iconst (nI 4) rfl (by decide) ?_
      refine g_irem rfl (by decide) ?_
      rw [se_rem hs hl4']
      refine g_store [some (.ref a), some (.int (nI s)), some (.int q), some (.int (nI (4 * j))), some (.int (nI ((s + 4 - L j) % 4))), l5] rfl rfl trivial (Nat.le_of_ble_eq_true rfl) rfl ?_
      refine g_load rfl rfl rfl trivial ?_
      refine g_load rfl rfl rfl trivial ?_
      refine g_load rfl rfl rfl trivial ?_
      refine g_iadd rfl ?_
      rw [nI_add]
      refine g_virtI (a := a) (ci := 4) (n := 1) [.int (nI (4 * j + (s + 4 - L j) % 4))] eF_tr rfl rfl (by decide) rfl (c_ob (by assumption) (by decide) (by rfl)) rfl (Nat.le_of_ble_eq_true rfl) (Nat.le_refl _) (Nat.le_refl _) (c_cardAt a m hk hk1 hk2 hm hm2 (nI (4 * j + (s + 4 - L j) % 4)) ⟨_, rfl, ?_⟩)
      refine g_store [some (.ref a), some (.int (nI s)), some (.int q), some (.int (nI (4 * j))), some (.int (nI ((s + 4 - L j) % 4))), some (.int (caF (u.rI (a + 1)) m (nI (4 * j + (s + 4 - L j) % 4))))] rfl rfl trivial (Nat.le_of_ble_eq_true rfl) rfl ?_
      refine g_load rfl rfl rfl trivial ?_
      refine g_iconst (-1) rfl (by decide) ?_
      refine g_icmp_eq rfl (fun c2 => ?_) (fun c2 => ?_)
      · have hno : soQ (u.rI (a + 1)) L m s q j = false := by unfold soQ; simp [c2]
        refine g_iinc (nI (4 * (j + 1))) [some (.ref a), some (.int (nI s)), some (.int q), some (.int (nI (4 * (j + 1)))), some (.int (nI ((s + 4 - L j) % 4))), some (.int (caF (u.rI (a + 1)) m (nI (4 * j + (s + 4 - L j) % 4))))] rfl rfl (by show nI (4 * j) + nI 4 = _; rw [nI_add]; congr 1) rfl ?_
        refine g_goto rfl ?_
        refine ih (j + 1) _ _ (fun x hx => ?_) (by omega) (by omega)
        by_cases e : x = j
        · subst e; exact hno
        · exact hinv x (by omega)
      · refine g_load rfl rfl rfl trivial ?_
        refine g_load rfl rfl rfl trivial ?_
        refine g_virtI (a := a) (ci := 4) (n := 1) [.int (nI (4 * j))] eF_tr rfl rfl (by decide) rfl (c_ob (by assumption) (by decide) (by rfl)) rfl (Nat.le_of_ble_eq_true rfl) (Nat.le_refl _) (Nat.le_refl _) (c_cardAt a m hk hk1 hk2 hm hm2 (nI (4 * j)) ⟨_, rfl, ?_⟩)
        rw [caF_at (i := 4 * j) (by omega) (by omega)]
        refine g_statI [.int (u.rI (a + 1) (4 * j))] eF_tr rfl rfl rfl (Nat.le_of_ble_eq_true rfl) (Nat.le_refl _) (Nat.le_refl _) (p_suitOf eF_rf eF_tr (u.rI (a + 1) (4 * j)) ⟨_, rfl, ?_⟩)
        refine g_load rfl rfl rfl trivial ?_
        refine g_icmp_ne rfl (fun c3 => ?_) (fun c3 => ?_)
        · have hno : soQ (u.rI (a + 1)) L m s q j = false := by unfold soQ; simp [c3]
          refine g_iinc (nI (4 * (j + 1))) [some (.ref a), some (.int (nI s)), some (.int q), some (.int (nI (4 * (j + 1)))), some (.int (nI ((s + 4 - L j) % 4))), some (.int (caF (u.rI (a + 1)) m (nI (4 * j + (s + 4 - L j) % 4))))] rfl rfl (by show nI (4 * j) + nI 4 = _; rw [nI_add]; congr 1) rfl ?_
          refine g_goto rfl ?_
          refine ih (j + 1) _ _ (fun x hx => ?_) (by omega) (by omega)
          by_cases e : x = j
          · subst e; exact hno
          · exact hinv x (by omega)
        · refine g_load rfl rfl rfl trivial ?_
          refine g_statI [.int (caF (u.rI (a + 1)) m (nI (4 * j + (s + 4 - L j) % 4)))] eF_tr rfl rfl rfl (Nat.le_of_ble_eq_true rfl) (Nat.le_refl _) (Nat.le_refl _) (p_suitOf eF_rf eF_tr (caF (u.rI (a + 1)) m (nI (4 * j + (s + 4 - L j) % 4))) ⟨_, rfl, ?_⟩)
          refine g_load rfl rfl rfl trivial ?_
          refine g_icmp_eq rfl (fun c4 => ?_) (fun c4 => ?_)
          · have hno : soQ (u.rI (a + 1)) L m s q j = false := by unfold soQ; simp [c4]
            refine g_iinc (nI (4 * (j + 1))) [some (.ref a), some (.int (nI s)), some (.int q), some (.int (nI (4 * (j + 1)))), some (.int (nI ((s + 4 - L j) % 4))), some (.int (caF (u.rI (a + 1)) m (nI (4 * j + (s + 4 - L j) % 4))))] rfl rfl (by show nI (4 * j) + nI 4 = _; rw [nI_add]; congr 1) rfl ?_
            refine g_goto rfl ?_
            refine ih (j + 1) _ _ (fun x hx => ?_) (by omega) (by omega)
            by_cases e : x = j
            · subst e; exact hno
            · exact hinv x (by omega)
          · have hyes : soQ (u.rI (a + 1)) L m s q j = true := by unfold soQ; simp [*]
            rw [show anyN (soQ (u.rI (a + 1)) L m s q) ((m + 3) / 4) = true from anyN_t (i := j) (by omega) hyes] at hQ
            refine g_iconst (nI 1) rfl (by decide) ?_
            refine g_vret rfl trivial (by first | exact ⟨by decide, by decide⟩ | trivial) (Nat.le_refl _) (Nat.le_refl _) ?_
            exact hQ
set_option maxRecDepth 20000 in
theorem c_hasShownOut {pr : aC} {d : Nat} {u : cS} (a m : Nat) (hk : u.kd a = 6) (hk1 : u.kd (a + 1) = 7) (hk2 : u.kd (a + 2) = 8) (hm : u.oI a 2 = nI m) (hm2 : m ≤ 52) (L : Nat → Nat) (hL : ∀ j, j ≤ m / 4 → u.rI (a + 2) j = nI (L j) ∧ L j < 4) (s : Nat) (hs : s < 4) (q : Int32) {Q : Option Value → cS → Prop} (hQ : Q (some (.int (bI (anyN (soQ (u.rI (a + 1)) L m s q) ((m + 3) / 4))))) u) : cR pr (d + 1 + 1) 61 [.ref a, .int (nI s), .int q] u Q := by
  refine gR_of mi_61 eF_rf rfl (Nat.le_of_ble_eq_true rfl) ?_
  show cB pr (d + 1) cd_61 (Option.some Jvm.ClassFile.FieldType.boolean) Q 0 [some (.ref a), some (.int (nI s)), some (.int q), none, none, none] [] u
  refine g_iconst (nI 0) rfl (by decide) ?_
  refine g_store [some (.ref a), some (.int (nI s)), some (.int q), some (.int (nI 0)), none, none] rfl rfl trivial (Nat.le_of_ble_eq_true rfl) rfl ?_
  exact c_hasShownOut_l a m hk hk1 hk2 hm hm2 L hL s hs q hQ 21 0 none none (fun x hx => absurd hx (by omega)) (by omega) (by omega)
set_option maxRecDepth 20000 in
theorem w_popen {pr : aC} {d : Nat} {u : cS} (a : Nat) (hk : u.kd a = 6) (hk2 : u.kd (a + 2) = 8) (s : Nat) (tr : Int32) (hs : s < 4) {Q : Option Value → cS → Prop} (hQ : Q none (upI (upO (upO (upL (upO u a 2 (nI 0)) a 0 (lN 0)) a 4 (nI s)) a 5 tr) (a + 2) 0 (nI ((s + 1) % 4)))) : wR pr (d + 1) 44 [.ref a, .int (nI s), .int tr] u Q := by
  refine gR_of mi_44 cFr_rf rfl (Nat.le_of_ble_eq_true rfl) ?_
  show wB pr (d) cd_44 none Q 0 [some (.ref a), some (.int (nI s)), some (.int tr)] [] u
  refine g_load rfl rfl rfl trivial ?_
  refine g_iconst (nI 0) rfl (by decide) ?_
  refine c_puti rfl (κ := 6) (by exact hk) (by decide) (by rfl) (Nat.le_of_ble_eq_true rfl) ⟨_, _, rfl, rfl, rfl, rfl⟩ (by simp [cCell, upO, u2, cS.kd, cS.oI, cS.rI, cS.rL, cS.rR, cS.tp]) ?_
  refine g_load rfl rfl rfl trivial ?_
  refine g_lconst (lN 0) rfl rfl ?_
  refine c_putl rfl (κ := 6) (by exact hk) (by decide) (by rfl) (Nat.le_of_ble_eq_true rfl) ⟨_, _, rfl, rfl, rfl, rfl⟩ (by simp [cCell, upL, u2, cS.kd, cS.oI, cS.rI, cS.rL, cS.rR]) ?_
  refine g_load rfl rfl rfl trivial ?_
  refine g_load rfl rfl rfl trivial ?_
  refine c_puti rfl (κ := 6) (by exact hk) (by decide) (by rfl) (Nat.le_of_ble_eq_true rfl) ⟨_, _, rfl, rfl, rfl, rfl⟩ (by simp [cCell, upO, u2, cS.kd, cS.oI, cS.rI, cS.rL, cS.rR, cS.tp]) ?_
  refine g_load rfl rfl rfl trivial ?_
  refine g_load rfl rfl rfl trivial ?_
  refine c_puti rfl (κ := 6) (by exact hk) (by decide) (by rfl) (Nat.le_of_ble_eq_true rfl) ⟨_, _, rfl, rfl, rfl, rfl⟩ (by simp [cCell, upO, u2, cS.kd, cS.oI, cS.rI, cS.rL, cS.rR, cS.tp]) ?_
  refine g_load rfl rfl rfl trivial ?_
  refine c_getf rfl (κ := 6) (by exact hk) (by decide) (by rfl) (by rfl) ?_
  refine g_iconst (nI 0) rfl (by decide) ?_
  refine g_load rfl rfl rfl trivial ?_
  refine g_iconst (nI 1) rfl (by decide) ?_
  refine g_iadd rfl ?_
  rw [nI_add]
  refine g_iconst (nI 4) rfl (by decide) ?_
  refine g_irem rfl (by decide) ?_
  rw [pk_rem (by omega) (by omega) (by omega)]
  refine c_ias 0 rfl (κ := 8) (by exact hk2) (by decide) (by rfl) rfl (by decide) (by decide) (by rfl) ?_
  refine g_ret rfl rfl (Nat.le_refl _) (Nat.le_refl _) ?_
  exact hQ
/-- the latest card is taken back -/
def dropP (u : cS) (a m c : Nat) : cS := upO (upL u a 0 (u.rL a 0 &&& (bt1 c ^^^ (-1)))) a 2 (nI (m - 1))
set_option maxRecDepth 20000 in
theorem w_pdrop {pr : aC} {d : Nat} {u : cS} (a m : Nat) (hk : u.kd a = 6) (hk1 : u.kd (a + 1) = 7) (hk2 : u.kd (a + 2) = 8) (hm : u.oI a 2 = nI m) (hm2 : m ≤ 52) (hck : cdOk (u.rI (a + 1)) m) {Q : Option Value → cS → Prop} (h0 : m = 0 → Q (some (.int 0)) u) (hQ : 0 < m → Q (some (.int 1)) (dropP u a m (cN (u.rI (a + 1)) (m - 1)))) : wR pr (d + 1 + 1) 57 [.ref a] u Q := by
  refine gR_of mi_57 cFr_rf rfl (Nat.le_of_ble_eq_true rfl) ?_
  show wB pr (d + 1) cd_57 (Option.some Jvm.ClassFile.FieldType.boolean) Q 0 [some (.ref a)] [] u
  refine g_load rfl rfl rfl trivial ?_
  refine c_getf rfl (by assumption) (by decide) (by rfl) (by rfl) ?_
  rw [hm]
  refine g_if_ne rfl (fun c1 => ?_) (fun c1 => ?_)
  · have hn0 : 0 < m := by
      apply Nat.pos_of_ne_zero
      intro e
      subst e
      exact c1 rfl
    have hQ := hQ hn0
    have hc := hck (m - 1) (by omega)
    refine g_load rfl rfl rfl trivial ?_
    refine g_dup rfl rfl ?_
    refine c_getf rfl (by assumption) (by decide) (by rfl) (by rfl) ?_
    refine g_load rfl rfl rfl trivial ?_
    refine g_load rfl rfl rfl trivial ?_
    refine c_getf rfl (by assumption) (by decide) (by rfl) (by rfl) ?_
    refine g_iconst (nI 1) rfl (by decide) ?_
    rw [hm]
    refine g_isub rfl ?_
    rw [pk_sub (by omega)]
    refine g_virtI (a := a) (ci := 4) (n := 1) [.int (nI (m - 1))] cFr_tr rfl rfl (by decide) rfl (c_ob (by assumption) (by decide) (by rfl)) rfl (Nat.le_of_ble_eq_true rfl) (Nat.le_refl _) (Nat.le_refl _) (c_lift cFr_rf (fun _ h => h) (c_cardAt a m hk hk1 hk2 hm hm2 (nI (m - 1)) ⟨_, rfl, ?_⟩))
    rw [caF_at (by omega) (by omega), hc.2]
    refine g_statI [.int (nI (cN (u.rI (a + 1)) (m - 1)))] cFr_tr rfl rfl rfl (Nat.le_of_ble_eq_true rfl) (Nat.le_refl _) (Nat.le_refl _) (p_bitOf cFr_rf cFr_tr (cN (u.rI (a + 1)) (m - 1)) ⟨_, rfl, ?_⟩)
    refine g_ldc2 (-1) rfl (by decide) ?_
    refine g_lxor rfl ?_
    refine g_land rfl ?_
    refine c_putl rfl (κ := 6) (by exact hk) (by decide) (by rfl) (Nat.le_of_ble_eq_true rfl) ⟨_, _, rfl, rfl, rfl, rfl⟩ (by simp [cCell, upL, u2, cS.kd, cS.oI, cS.rI, cS.rL, cS.rR]) ?_
    refine g_load rfl rfl rfl trivial ?_
    refine g_dup rfl rfl ?_
    refine c_getf rfl (κ := 6) (by exact hk) (by decide) (by rfl) (by rfl) ?_
    refine g_iconst (nI 1) rfl (by decide) ?_
    rw [show cS.oI (upL u a 0 _) a 2 = nI m from hm]
    refine g_isub rfl ?_
    rw [pk_sub (by omega)]
    refine c_puti rfl (κ := 6) (by exact hk) (by decide) (by rfl) (Nat.le_of_ble_eq_true rfl) ⟨_, _, rfl, rfl, rfl, rfl⟩ (by simp [cCell, upO, u2, cS.kd, cS.oI, cS.rI, cS.rL, cS.rR, cS.tp]) ?_
    refine g_iconst (nI 1) rfl (by decide) ?_
    refine g_vret rfl trivial (by first | exact ⟨by decide, by decide⟩ | trivial) (Nat.le_refl _) (Nat.le_refl _) ?_
    exact hQ
  · have hQ := h0 (by
      apply Nat.eq_zero_of_not_pos
      intro e
      exact nI_ne0 e (by omega) c1)
    refine g_iconst (nI 0) rfl (by decide) ?_
    refine g_vret rfl trivial (by first | exact ⟨by decide, by decide⟩ | trivial) (Nat.le_refl _) (Nat.le_refl _) ?_
    exact hQ
/-- a card is added; the fourth of a trick also tells who leads to the next -/
def addP (u : cS) (a m c : Nat) : cS := upL (upO (upI u (a + 1) m (nI c)) a 2 (nI (m + 1))) a 0 (u.rL a 0 ||| bt1 c)
set_option maxRecDepth 20000 in
theorem w_padd {pr : aC} {d : Nat} {u : cS} (a m : Nat) (hk : u.kd a = 6) (hk1 : u.kd (a + 1) = 7) (hk2 : u.kd (a + 2) = 8) (hm : u.oI a 2 = nI m) (hm2 : m ≤ 52) (hm52 : m < 52) (c : Nat) (ld : Nat) (hl : u.rI (a + 2) (m / 4) = nI ld) (hl4 : ld < 4) (hds : (m + 1) % 4 = 0 → ∀ x y, x < 4 → y < 4 → upd (u.rI (a + 1)) m (nI c) (m + 1 - 4 + x) = upd (u.rI (a + 1)) m (nI c) (m + 1 - 4 + y) → x = y) {Q : Option Value → cS → Prop} (hQ : ¬ (m + 1) % 4 = 0 → Q none (addP u a m c)) (hQ4 : (m + 1) % 4 = 0 → Q none (upI (addP u a m c) (a + 2) ((m + 1) / 4) (nI ((ld + bst (upd (u.rI (a + 1)) m (nI c)) (u.oI a 5) (m + 1 - 4) 3) % 4)))) : wR pr (d + 3 + 1) 56 [.ref a, .int (nI c)] u Q := by
  refine gR_of mi_56 cFr_rf rfl (Nat.le_of_ble_eq_true rfl) ?_
  show wB pr (d + 3) cd_56 none Q 0 [some (.ref a), some (.int (nI c)), none] [] u
  refine g_load rfl rfl rfl trivial ?_
  refine c_getf rfl (by assumption) (by decide) (by rfl) (by rfl) ?_
  refine g_load rfl rfl rfl trivial ?_
  refine c_getf rfl (by assumption) (by decide) (by rfl) (by rfl) ?_
  refine c_len rfl (by assumption) (by decide) (by rfl) (by decide) ?_
  rw [hm]
  refine g_icmp_lt rfl (fun c1 => ?_) (fun c1 => ?_)
  · refine g_load rfl rfl rfl trivial ?_
    refine c_getf rfl (by assumption) (by decide) (by rfl) (by rfl) ?_
    refine g_load rfl rfl rfl trivial ?_
    refine c_getf rfl (by assumption) (by decide) (by rfl) (by rfl) ?_
    refine g_load rfl rfl rfl trivial ?_
    refine c_ias m rfl (by assumption) (by decide) (by rfl) hm (by omega) (by decide) (by rfl) ?_
    refine g_load rfl rfl rfl trivial ?_
    refine g_dup rfl rfl ?_
    refine c_getf rfl (κ := 6) (by exact hk) (by decide) (by rfl) (by rfl) ?_
    rw [show (upI u (a + 1) m (nI c)).oI a 2 = nI m from hm]
    refine g_iconst (nI 1) rfl (by decide) ?_
    refine g_iadd rfl ?_
    rw [nI_add]
    refine c_puti rfl (κ := 6) (by exact hk) (by decide) (by rfl) (Nat.le_of_ble_eq_true rfl) ⟨_, _, rfl, rfl, rfl, rfl⟩ (by simp [cCell, upO, u2, cS.kd, cS.oI, cS.rI, cS.rL, cS.rR, cS.tp]) ?_
    refine g_load rfl rfl rfl trivial ?_
    refine g_dup rfl rfl ?_
    refine c_getf rfl (κ := 6) (by exact hk) (by decide) (by rfl) (by rfl) ?_
    refine g_load rfl rfl rfl trivial ?_
    refine g_statI [.int (nI c)] cFr_tr rfl rfl rfl (Nat.le_of_ble_eq_true rfl) (Nat.le_refl _) (Nat.le_refl _) (p_bitOf cFr_rf cFr_tr c ⟨_, rfl, ?_⟩)
    refine g_lor rfl ?_
    refine c_putl rfl (κ := 6) (by exact hk) (by decide) (by rfl) (Nat.le_of_ble_eq_true rfl) ⟨_, _, rfl, rfl, rfl, rfl⟩ (by simp [cCell, upL, u2, cS.kd, cS.oI, cS.rI, cS.rL, cS.rR]) ?_
    have ev : upL (upO (upI u (a + 1) m (nI c)) a 2 (nI (m + 1))) a 0 ((upO (upI u (a + 1) m (nI c)) a 2 (nI (m + 1))).rL a 0 ||| bt1 c) = addP u a m c := rfl
    rw [ev]
    have e1 : (addP u a m c).oI a 2 = nI (m + 1) := u2_s u.oI a 2 (nI (m + 1))
    have e2 : (addP u a m c).rI (a + 1) = upd (u.rI (a + 1)) m (nI c) := u2_row u.rI (a + 1) m (nI c)
    have e3 : (addP u a m c).rI (a + 2) = u.rI (a + 2) := u2_a u.rI (nI c) (by omega)
    have e4 : (addP u a m c).oI a 5 = u.oI a 5 := u2_k u.oI (nI (m + 1)) (by decide)
    have f0 : (addP u a m c).kd a = 6 := hk
    have f1 : (addP u a m c).kd (a + 1) = 7 := hk1
    have f2 : (addP u a m c).kd (a + 2) = 8 := hk2
    have PP := @c_tricksDone pr (d + 2) (addP u a m c) a (m + 1) f0 f1 f2 e1 (by omega)
    refine g_load rfl rfl rfl trivial ?_
    refine g_virtI (a := a) (ci := 4) (n := 0) [] cFr_tr rfl rfl (by decide) rfl (c_ob f0 (by decide) (by rfl)) rfl (Nat.le_of_ble_eq_true rfl) (Nat.le_refl _) (Nat.le_refl _) (c_lift cFr_rf (fun _ h => h) (c_tricksDone a (m + 1) f0 f1 f2 e1 (by omega) ⟨_, rfl, ?_⟩))
    refine g_store [some (.ref a), some (.int (nI c)), some (.int (nI ((m + 1) / 4)))] rfl rfl trivial (Nat.le_of_ble_eq_true rfl) rfl ?_
    refine g_load rfl rfl rfl trivial ?_
    refine g_virtI (a := a) (ci := 4) (n := 0) [] cFr_tr rfl rfl (by decide) rfl (c_ob f0 (by decide) (by rfl)) rfl (Nat.le_of_ble_eq_true rfl) (Nat.le_refl _) (Nat.le_refl _) (c_lift cFr_rf (fun _ h => h) (c_inTrick a (m + 1) f0 f1 f2 e1 (by omega) ⟨_, rfl, ?_⟩))
    refine g_if_ne rfl (fun c2 => ?_) (fun c2 => ?_)
    · have h4 : ¬ (m + 1) % 4 = 0 := by
        intro e
        rw [e] at c2
        exact c2 rfl
      have hQ := hQ h4
      refine g_ret rfl rfl (Nat.le_refl _) (Nat.le_refl _) ?_
      exact hQ
    · have h4 : (m + 1) % 4 = 0 := by
        apply Nat.eq_zero_of_not_pos
        intro e
        exact nI_ne0 e (by omega) c2
      have hQ := hQ4 h4
      have hds := hds h4
      refine g_load rfl rfl rfl trivial ?_
      refine g_iconst (nI 1) rfl (by decide) ?_
      refine g_icmp_lt rfl (fun c3 => ?_) (fun c3 => ?_)
      · rw [nI_ltI (by omega) (by omega)] at c3
        exact absurd c3 (by omega)
      · refine g_load rfl rfl rfl trivial ?_
        refine g_load rfl rfl rfl trivial ?_
        refine c_getf rfl (κ := 6) (by exact f0) (by decide) (by rfl) (by rfl) ?_
        refine c_len rfl (κ := 8) (by exact f2) (by decide) (by rfl) (by decide) ?_
        refine g_icmp_ge rfl (fun c4 => ?_) (fun c4 => ?_)
        · rw [nI_leI (by omega) (by omega)] at c4
          exact absurd c4 (by omega)
        · refine g_load rfl rfl rfl trivial ?_
          refine c_getf rfl (κ := 6) (by exact f0) (by decide) (by rfl) (by rfl) ?_
          refine g_load rfl rfl rfl trivial ?_
          refine g_load rfl rfl rfl trivial ?_
          refine g_load rfl rfl rfl trivial ?_
          refine c_getf rfl (κ := 6) (by exact f0) (by decide) (by rfl) (by rfl) ?_
          rw [e1]
          refine g_iconst (nI 4) rfl (by decide) ?_
          refine g_isub rfl ?_
          rw [pk_sub (by omega)]
          refine g_iconst (nI 4) rfl (by decide) ?_
          refine g_load rfl rfl rfl trivial ?_
          refine g_load rfl rfl rfl trivial ?_
          refine g_iconst (nI 1) rfl (by decide) ?_
          refine g_isub rfl ?_
          rw [pk_sub (by omega)]
          refine g_virtI (a := a) (ci := 4) (n := 1) [.int (nI ((m + 1) / 4 - 1))] cFr_tr rfl rfl (by decide) rfl (c_ob f0 (by decide) (by rfl)) rfl (Nat.le_of_ble_eq_true rfl) (Nat.le_refl _) (Nat.le_refl _) (c_lift cFr_rf (fun _ h => h) (c_leaderOf a ((m + 1) / 4 - 1) f0 f2 (by omega) ⟨_, rfl, ?_⟩))
          rw [e3, show (m + 1) / 4 - 1 = m / 4 by omega, hl]
          refine g_virtI (a := a) (ci := 4) (n := 3) [.int (nI (m + 1 - 4)), .int (nI 4), .int (nI ld)] cFr_tr rfl rfl (by decide) rfl (c_ob f0 (by decide) (by rfl)) rfl (Nat.le_of_ble_eq_true rfl) (Nat.le_refl _) (Nat.le_refl _) (c_lift cFr_rf (fun _ h => h) (c_winnerFrom (d := d) a (m + 1) f0 f1 f2 e1 (by omega) (m + 1 - 4) 4 ld (by omega) (by omega) hl4 (by rw [e2]; exact hds) ⟨_, rfl, ?_⟩))
          rw [e2, e4]
          refine c_ias ((m + 1) / 4) rfl (κ := 8) (by exact f2) (by decide) (by rfl) rfl (by omega) (by decide) (by rfl) ?_
          refine g_ret rfl rfl (Nat.le_refl _) (Nat.le_refl _) ?_
          exact hQ
  · rw [nI_ltI (by omega) (by omega)] at c1
    exact absurd hm52 c1
