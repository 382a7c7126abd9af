/-! ===== the class: Auction.declarer, Result, Table (what is read) ===== -/
theorem dcP_par {f : Nat → Int32} {b i : Nat} (h : dcP f b i = true) : i % 2 = b % 2 := by
  unfold dcP at h; rw [decide_eq_true_eq] at h; exact h.2.2
theorem ge_sub3 {v : Int32} (h : nI 2 < v) : ¬ v - nI 3 < 0 := by
  intro h2
  rw [Int32.lt_iff_toInt_lt] at h h2
  rw [nI_toInt (by decide)] at h
  rw [Int32.toInt_zero, Int32.toInt_sub, nI_toInt (by decide)] at h2
  have h3 := v.toInt_lt
  rw [Int.bmod_eq_of_le (by omega) (by omega)] at h2
  omega
theorem sub3_ge {v : Int32} (h : ¬ v - nI 3 < 0) (hv : inF v 0 37 = true) : nI 2 < v := by
  obtain ⟨y, h1, h2, rfl⟩ := in_of hv (n := 0) (m := 37) rfl rfl (by decide) (by decide)
  rw [nI_ltI (by omega) (by omega)]
  apply Nat.lt_of_not_le
  intro z
  exact h (pk_sneg (by omega) (by omega))
set_option maxRecDepth 20000 in
theorem c_adeclarer_l {pr : aC} {d : Nat} {u : cS} (a n : Nat) (hk : u.kd a = 4) (hk1 : u.kd (a + 1) = 5) (hn : u.oI a 1 = nI n) (hn2 : n ≤ 319) (dl b : Nat) (hd : u.oI a 2 = nI dl) (hdl : dl < 4) (hb : last ge3 (u.rI (a + 1)) n = some b) (hc37 : ∀ i, i < n → inF (u.rI (a + 1) i) 0 37 = true) {Q : Option Value → cS → Prop} (hQ : Q (some (.int (dcF (u.rI (a + 1)) dl b))) u) : ∀ (zz : Nat) (j : Nat) (l4 : Option Value) (hinv : ∀ x, x < b % 2 + 2 * j → dcP (u.rI (a + 1)) b x = false) (hm : b + 2 - (b % 2 + 2 * j) < zz) (hle : b % 2 + 2 * j ≤ b + 2), cB pr (d + 1) cd_14 (Option.some Jvm.ClassFile.FieldType.int) Q 16 [some (.ref a), some (.int (nI b)), some (.int (stF (u.rI (a + 1)) b)), some (.int (nI (b % 2 + 2 * j))), l4] [] u := by
  intro zz
  induction zz with
  | zero => intro j l4 hinv hm hle; exact absurd hm (by omega)
  | succ zz ih =>
    intro j l4 hinv hm hle
    have hbn := (last_lt hb).1
    refine g_load rfl rfl rfl trivial ?_
    refine g_load rfl rfl rfl trivial ?_
    refine g_icmp_gt rfl (fun c1 => ?_) (fun c1 => ?_)
    · rw [nI_ltI (by omega) (by omega)] at c1
      rw [show dcF (u.rI (a + 1)) dl b = -1 by unfold dcF; rw [first_miss (fun x _ hx => hinv x (by omega))]] at hQ
      refine g_iconst (-1) rfl (by decide) ?_
      refine g_vret rfl trivial ⟨rfl, rfl⟩ (Nat.le_refl _) (Nat.le_refl _) ?_
      exact hQ
    · rw [nI_ltI (by omega) (by omega)] at c1
      refine g_load rfl rfl rfl trivial ?_
      refine g_load rfl rfl rfl trivial ?_
      refine g_virtI (a := a) (ci := 1) (n := 1) [.int (nI (b % 2 + 2 * j))] eF_tr rfl rfl (by decide) rfl (c_ob (by assumption) (by decide) (by rfl)) rfl (Nat.le_of_ble_eq_true rfl) (Nat.le_refl _) (Nat.le_refl _) (c_callAt a n hk hk1 hn hn2 (nI (b % 2 + 2 * j)) ⟨_, rfl, ?_⟩)
      rw [caF_at (by omega) (by omega)]
      refine g_iconst (nI 3) rfl (by decide) ?_
      refine g_isub rfl ?_
      refine g_store [some (.ref a), some (.int (nI b)), some (.int (stF (u.rI (a + 1)) b)), some (.int (nI (b % 2 + 2 * j))), some (.int (u.rI (a + 1) (b % 2 + 2 * j) - nI 3))] rfl rfl trivial (Nat.le_of_ble_eq_true rfl) rfl ?_
      refine g_load rfl rfl rfl trivial ?_
      refine g_if_lt rfl (fun c2 => ?_) (fun c2 => ?_)
      · have hno : dcP (u.rI (a + 1)) b (b % 2 + 2 * j) = false := by
          unfold dcP
          refine decide_eq_false (fun z => ?_)
          exact absurd c2 (ge_sub3 z.1)
        refine g_iinc (nI (b % 2 + 2 * (j + 1))) [some (.ref a), some (.int (nI b)), some (.int (stF (u.rI (a + 1)) b)), some (.int (nI (b % 2 + 2 * (j + 1)))), some (.int (u.rI (a + 1) (b % 2 + 2 * j) - nI 3))] rfl rfl (by show nI (b % 2 + 2 * j) + nI 2 = _; rw [nI_add]; congr 1) rfl ?_
        refine g_goto rfl ?_
        refine ih (j + 1) _ (fun x hx => ?_) (by omega) (by omega)
        by_cases e : x < b % 2 + 2 * j
        · exact hinv x e
        · by_cases e2 : x = b % 2 + 2 * j
          · rw [e2]; exact hno
          · cases e3 : dcP (u.rI (a + 1)) b x
            · rfl
            · have := dcP_par e3; omega
      · have h2 := sub3_ge c2 (hc37 _ (by omega))
        refine g_load rfl rfl rfl trivial ?_
        refine g_iconst (nI 5) rfl (by decide) ?_
        refine g_irem rfl (by decide) ?_
        refine g_load rfl rfl rfl trivial ?_
        refine g_icmp_ne rfl (fun c3 => ?_) (fun c3 => ?_)
        · have hno : dcP (u.rI (a + 1)) b (b % 2 + 2 * j) = false := by
            unfold dcP
            refine decide_eq_false (fun z => c3 z.2.1)
          refine g_iinc (nI (b % 2 + 2 * (j + 1))) [some (.ref a), some (.int (nI b)), some (.int (stF (u.rI (a + 1)) b)), some (.int (nI (b % 2 + 2 * (j + 1)))), some (.int (u.rI (a + 1) (b % 2 + 2 * j) - nI 3))] rfl rfl (by show nI (b % 2 + 2 * j) + nI 2 = _; rw [nI_add]; congr 1) rfl ?_
          refine g_goto rfl ?_
          refine ih (j + 1) _ (fun x hx => ?_) (by omega) (by omega)
          by_cases e : x < b % 2 + 2 * j
          · exact hinv x e
          · by_cases e2 : x = b % 2 + 2 * j
            · rw [e2]; exact hno
            · cases e3 : dcP (u.rI (a + 1)) b x
              · rfl
              · have := dcP_par e3; omega
        · have hyes : dcP (u.rI (a + 1)) b (b % 2 + 2 * j) = true := by
            unfold dcP
            exact decide_eq_true ⟨h2, c3, by omega⟩
          rw [show dcF (u.rI (a + 1)) dl b = nI ((dl + (b % 2 + 2 * j)) % 4) by unfold dcF; rw [first_hit (t := b % 2 + 2 * j) (by omega) (by omega) hyes (fun x _ hx => hinv x hx)]] at hQ
          refine g_load rfl rfl rfl trivial ?_
          refine c_getf rfl (by assumption) (by decide) (by rfl) (by rfl) ?_
          refine g_load rfl rfl rfl trivial ?_
          rw [hd]
          refine g_iadd rfl ?_
          rw [nI_add]
          refine g_iconst (nI 4) rfl (by decide) ?_
          refine g_irem rfl (by decide) ?_
          rw [pk_rem (by omega) (by omega) (by omega)]
          refine g_vret rfl trivial ⟨rfl, rfl⟩ (Nat.le_refl _) (Nat.le_refl _) ?_
          exact hQ
set_option maxRecDepth 20000 in
theorem c_adeclarer {pr : aC} {d : Nat} {u : cS} (a n : Nat) (hk : u.kd a = 4) (hk1 : u.kd (a + 1) = 5) (hn : u.oI a 1 = nI n) (hn2 : n ≤ 319) (dl b : Nat) (hd : u.oI a 2 = nI dl) (hdl : dl < 4) (hb : last ge3 (u.rI (a + 1)) n = some b) (hc37 : ∀ i, i < n → inF (u.rI (a + 1) i) 0 37 = true) {Q : Option Value → cS → Prop} (hQ : Q (some (.int (dcF (u.rI (a + 1)) dl b))) u) : cR pr (d + 3 + 1) 14 [.ref a] u Q := by
  refine gR_of mi_14 eF_rf rfl (Nat.le_of_ble_eq_true rfl) ?_
  show cB pr (d + 3) cd_14 (Option.some Jvm.ClassFile.FieldType.int) Q 0 [some (.ref a), none, none, none, none] [] u
  have hbn := (last_lt hb).1
  refine g_load rfl rfl rfl trivial ?_
  refine g_iconst (nI 3) rfl (by decide) ?_
  refine g_virtI (a := a) (ci := 1) (n := 1) [.int (nI 3)] eF_tr rfl rfl (by decide) rfl (c_ob (by assumption) (by decide) (by rfl)) rfl (Nat.le_of_ble_eq_true rfl) (Nat.le_refl _) (Nat.le_refl _) (c_latestFrom a n hk hk1 hn hn2 (nI 3) ⟨_, rfl, ?_⟩)
  rw [show last (fr1 (nI 3)) (u.rI (a + 1)) n = some b from hb]
  refine g_store [some (.ref a), some (.int (nI b)), none, none, none] rfl rfl trivial (Nat.le_of_ble_eq_true rfl) rfl ?_
  refine g_load rfl rfl rfl trivial ?_
  refine g_iconst (-1) rfl (by decide) ?_
  refine g_icmp_ne rfl (fun c1 => ?_) (fun c1 => ?_)
  · refine g_load rfl rfl rfl trivial ?_
    refine g_virtI (a := a) (ci := 1) (n := 0) [] eF_tr rfl rfl (by decide) rfl (c_ob (by assumption) (by decide) (by rfl)) rfl (Nat.le_of_ble_eq_true rfl) (Nat.le_refl _) (Nat.le_refl _) (c_astrain a n hk hk1 hn hn2 ⟨_, rfl, ?_⟩)
    rw [show stG (u.rI (a + 1)) n = stF (u.rI (a + 1)) b by unfold stG; rw [hb]]
    refine g_store [some (.ref a), some (.int (nI b)), some (.int (stF (u.rI (a + 1)) b)), none, none] rfl rfl trivial (Nat.le_of_ble_eq_true rfl) rfl ?_
    refine g_load rfl rfl rfl trivial ?_
    refine g_iconst (nI 2) rfl (by decide) ?_
    refine g_irem rfl (by decide) ?_
    rw [pk_rem (by omega) (by omega) (by omega)]
    refine g_store [some (.ref a), some (.int (nI b)), some (.int (stF (u.rI (a + 1)) b)), some (.int (nI (b % 2))), none] rfl rfl trivial (Nat.le_of_ble_eq_true rfl) rfl ?_
    exact c_adeclarer_l (d := d + 2) a n hk hk1 hn hn2 dl b hd hdl hb hc37 hQ (b + 3) 0 none (fun x hx => by
      cases e3 : dcP (u.rI (a + 1)) b x
      · rfl
      · have := dcP_par e3; omega) (by omega) (by omega)
  · exact absurd c1 (nI_m1 (by omega))
set_option maxRecDepth 20000 in
theorem c_adeclarer_n {pr : aC} {d : Nat} {u : cS} (a n : Nat) (hk : u.kd a = 4) (hk1 : u.kd (a + 1) = 5) (hn : u.oI a 1 = nI n) (hn2 : n ≤ 319) (hb : last ge3 (u.rI (a + 1)) n = none) {Q : Option Value → cS → Prop} (hQ : Q (some (.int (-1))) u) : cR pr (d + 3 + 1) 14 [.ref a] u Q := by
  refine gR_of mi_14 eF_rf rfl (Nat.le_of_ble_eq_true rfl) ?_
  show cB pr (d + 3) cd_14 (Option.some Jvm.ClassFile.FieldType.int) Q 0 [some (.ref a), none, none, none, none] [] u
  refine g_load rfl rfl rfl trivial ?_
  refine g_iconst (nI 3) rfl (by decide) ?_
  refine g_virtI (a := a) (ci := 1) (n := 1) [.int (nI 3)] eF_tr rfl rfl (by decide) rfl (c_ob (by assumption) (by decide) (by rfl)) rfl (Nat.le_of_ble_eq_true rfl) (Nat.le_refl _) (Nat.le_refl _) (c_latestFrom a n hk hk1 hn hn2 (nI 3) ⟨_, rfl, ?_⟩)
  rw [show last (fr1 (nI 3)) (u.rI (a + 1)) n = none from hb]
  refine g_store [some (.ref a), some (.int (-1)), none, none, none] rfl rfl trivial (Nat.le_of_ble_eq_true rfl) rfl ?_
  refine g_load rfl rfl rfl trivial ?_
  refine g_iconst (-1) rfl (by decide) ?_
  refine g_icmp_ne rfl (fun c1 => ?_) (fun c1 => ?_)
  · exact absurd rfl c1
  · refine g_iconst (-1) rfl (by decide) ?_
    refine g_vret rfl trivial ⟨rfl, rfl⟩ (Nat.le_refl _) (Nat.le_refl _) ?_
    exact hQ
set_option maxRecDepth 20000 in
theorem c_alength {pr : aC} {d : Nat} {u : cS} (a : Nat) (hk : u.kd a = 4) {Q : Option Value → cS → Prop} (hQ : Q (some (.int (u.oI a 1))) u) : cR pr (d + 1) 2 [.ref a] u Q := by
  refine gR_of mi_2 eF_rf rfl (Nat.le_of_ble_eq_true rfl) ?_
  show cB pr (d) cd_2 (Option.some Jvm.ClassFile.FieldType.int) Q 0 [some (.ref a)] [] u
  refine g_load rfl rfl rfl trivial ?_
  refine c_getf rfl (by assumption) (by decide) (by rfl) (by rfl) ?_
  refine g_vret rfl trivial ⟨rfl, rfl⟩ (Nat.le_refl _) (Nat.le_refl _) ?_
  exact hQ
set_option maxRecDepth 20000 in
theorem c_rboard {pr : aC} {d : Nat} {u : cS} (a : Nat) (hk : u.kd a = 9) {Q : Option Value → cS → Prop} (hQ : Q (some (.int (u.oI a 0))) u) : cR pr (d + 1) 66 [.ref a] u Q := by
  refine gR_of mi_66 eF_rf rfl (Nat.le_of_ble_eq_true rfl) ?_
  show cB pr (d) cd_66 (Option.some Jvm.ClassFile.FieldType.int) Q 0 [some (.ref a)] [] u
  refine g_load rfl rfl rfl trivial ?_
  refine c_getf rfl (by assumption) (by decide) (by rfl) (by rfl) ?_
  refine g_vret rfl trivial ⟨rfl, rfl⟩ (Nat.le_refl _) (Nat.le_refl _) ?_
  exact hQ
set_option maxRecDepth 20000 in
theorem c_rscore {pr : aC} {d : Nat} {u : cS} (a : Nat) (hk : u.kd a = 9) {Q : Option Value → cS → Prop} (hQ : Q (some (.int (u.oI a 8))) u) : cR pr (d + 1) 68 [.ref a] u Q := by
  refine gR_of mi_68 eF_rf rfl (Nat.le_of_ble_eq_true rfl) ?_
  show cB pr (d) cd_68 (Option.some Jvm.ClassFile.FieldType.int) Q 0 [some (.ref a)] [] u
  refine g_load rfl rfl rfl trivial ?_
  refine c_getf rfl (by assumption) (by decide) (by rfl) (by rfl) ?_
  refine g_vret rfl trivial ⟨rfl, rfl⟩ (Nat.le_refl _) (Nat.le_refl _) ?_
  exact hQ
set_option maxRecDepth 20000 in
theorem c_radj {pr : aC} {d : Nat} {u : cS} (a : Nat) (hk : u.kd a = 9) (x : Bool) (hx : u.oI a 9 = bI x) {Q : Option Value → cS → Prop} (hQ : Q (some (.int (bI x))) u) : cR pr (d + 1) 69 [.ref a] u Q := by
  refine gR_of mi_69 eF_rf rfl (Nat.le_of_ble_eq_true rfl) ?_
  show cB pr (d) cd_69 (Option.some Jvm.ClassFile.FieldType.boolean) Q 0 [some (.ref a)] [] u
  refine g_load rfl rfl rfl trivial ?_
  refine c_getf rfl (by assumption) (by decide) (by rfl) (by rfl) ?_
  rw [hx]
  refine g_vret rfl trivial (bI_rt x) (Nat.le_refl _) (Nat.le_refl _) hQ
def sdF (p n e : Int32) : Int32 := if p = n then 0 else if p = e then 1 else -1
set_option maxRecDepth 20000 in
theorem c_rside {pr : aC} {d : Nat} {u : cS} (a : Nat) (hk : u.kd a = 9) (p : Int32) {Q : Option Value → cS → Prop} (hQ : Q (some (.int (sdF p (u.oI a 1) (u.oI a 2)))) u) : cR pr (d + 1) 67 [.ref a, .int p] u Q := by
  refine gR_of mi_67 eF_rf rfl (Nat.le_of_ble_eq_true rfl) ?_
  show cB pr (d) cd_67 (Option.some Jvm.ClassFile.FieldType.int) Q 0 [some (.ref a), some (.int p)] [] u
  refine g_load rfl rfl rfl trivial ?_
  refine g_load rfl rfl rfl trivial ?_
  refine c_getf rfl (by assumption) (by decide) (by rfl) (by rfl) ?_
  refine g_icmp_ne rfl (fun c1 => ?_) (fun c1 => ?_)
  · unfold sdF at hQ
    rw [if_neg c1] at hQ
    refine g_load rfl rfl rfl trivial ?_
    refine g_load rfl rfl rfl trivial ?_
    refine c_getf rfl (by assumption) (by decide) (by rfl) (by rfl) ?_
    refine g_icmp_ne rfl (fun c2 => ?_) (fun c2 => ?_)
    · rw [if_neg c2] at hQ
      refine g_iconst (-1) rfl (by decide) ?_
      refine g_vret rfl trivial ⟨rfl, rfl⟩ (Nat.le_refl _) (Nat.le_refl _) ?_
      exact hQ
    · rw [if_pos c2] at hQ
      refine g_iconst (nI 1) rfl (by decide) ?_
      refine g_goto rfl ?_
      refine g_vret rfl trivial ⟨rfl, rfl⟩ (Nat.le_refl _) (Nat.le_refl _) ?_
      exact hQ
  · unfold sdF at hQ
    rw [if_pos c1] at hQ
    refine g_iconst (nI 0) rfl (by decide) ?_
    refine g_goto rfl ?_
    refine g_vret rfl trivial ⟨rfl, rfl⟩ (Nat.le_refl _) (Nat.le_refl _) ?_
    exact hQ
set_option maxRecDepth 20000 in
theorem c_tside {pr : aC} {d : Nat} {u : cS} (a : Nat) (hk : u.kd a = 3) (p : Int32) {Q : Option Value → cS → Prop} (hQ : Q (some (.int (sdF p (u.oI a 1) (u.oI a 2)))) u) : cR pr (d + 1) 87 [.ref a, .int p] u Q := by
  refine gR_of mi_87 eF_rf rfl (Nat.le_of_ble_eq_true rfl) ?_
  show cB pr (d) cd_87 (Option.some Jvm.ClassFile.FieldType.int) Q 0 [some (.ref a), some (.int p)] [] u
  refine g_load rfl rfl rfl trivial ?_
  refine g_load rfl rfl rfl trivial ?_
  refine c_getf rfl (by assumption) (by decide) (by rfl) (by rfl) ?_
  refine g_icmp_ne rfl (fun c1 => ?_) (fun c1 => ?_)
  · unfold sdF at hQ
    rw [if_neg c1] at hQ
    refine g_load rfl rfl rfl trivial ?_
    refine g_load rfl rfl rfl trivial ?_
    refine c_getf rfl (by assumption) (by decide) (by rfl) (by rfl) ?_
    refine g_icmp_ne rfl (fun c2 => ?_) (fun c2 => ?_)
    · rw [if_neg c2] at hQ
      refine g_iconst (-1) rfl (by decide) ?_
      refine g_vret rfl trivial ⟨rfl, rfl⟩ (Nat.le_refl _) (Nat.le_refl _) ?_
      exact hQ
    · rw [if_pos c2] at hQ
      refine g_iconst (nI 1) rfl (by decide) ?_
      refine g_goto rfl ?_
      refine g_vret rfl trivial ⟨rfl, rfl⟩ (Nat.le_refl _) (Nat.le_refl _) ?_
      exact hQ
  · unfold sdF at hQ
    rw [if_pos c1] at hQ
    refine g_iconst (nI 0) rfl (by decide) ?_
    refine g_goto rfl ?_
    refine g_vret rfl trivial ⟨rfl, rfl⟩ (Nat.le_refl _) (Nat.le_refl _) ?_
    exact hQ
set_option maxRecDepth 20000 in
theorem c_partOf {pr : aC} {d : Nat} {u : cS} (a : Nat) (hk : u.kd a = 9) (s : Int32) {Q : Option Value → cS → Prop} (hQ : Q (some (.int (if s = 0 then u.oI a 10 else u.oI a 11))) u) : cR pr (d + 1) 70 [.ref a, .int s] u Q := by
  refine gR_of mi_70 eF_rf rfl (Nat.le_of_ble_eq_true rfl) ?_
  show cB pr (d) cd_70 (Option.some Jvm.ClassFile.FieldType.int) Q 0 [some (.ref a), some (.int s)] [] u
  refine g_load rfl rfl rfl trivial ?_
  refine g_if_ne rfl (fun c1 => ?_) (fun c1 => ?_)
  · rw [if_neg c1] at hQ
    refine g_load rfl rfl rfl trivial ?_
    refine c_getf rfl (by assumption) (by decide) (by rfl) (by rfl) ?_
    refine g_vret rfl trivial ⟨rfl, rfl⟩ (Nat.le_refl _) (Nat.le_refl _) ?_
    exact hQ
  · rw [if_pos c1] at hQ
    refine g_load rfl rfl rfl trivial ?_
    refine c_getf rfl (by assumption) (by decide) (by rfl) (by rfl) ?_
    refine g_goto rfl ?_
    refine g_vret rfl trivial ⟨rfl, rfl⟩ (Nat.le_refl _) (Nat.le_refl _) ?_
    exact hQ
def rtF (r : Nat → Int32) (w : Int32) : Int32 := if w.toInt < 0 ∨ 9 < w.toInt then -1 else r w.toNatClampNeg
theorem rt_out {r : Nat → Int32} {w : Int32} (h : w.toInt < 0 ∨ ((9 : Nat) : Int) < w.toInt) : rtF r w = -1 := if_pos h
theorem rt_in (r : Nat → Int32) : ∀ k, k ≤ 9 → rtF r (nI k) = r k := by
  intro k hk
  unfold rtF
  rw [nI_toInt (by omega), if_neg (by omega), nI_clamp (by omega)]
set_option maxRecDepth 20000 in
theorem c_rtell {pr : aC} {d : Nat} {u : cS} (a : Nat) (hk : u.kd a = 9) (w : Int32) (x : Bool) (hx : u.oI a 9 = bI x) {Q : Option Value → cS → Prop} (hQ : Q (some (.int (rtF (u.oI a) w))) u) : cR pr (d + 1) 71 [.ref a, .int w] u Q := by
  refine gR_of mi_71 eF_rf rfl (Nat.le_of_ble_eq_true rfl) ?_
  show cB pr (d) cd_71 (Option.some Jvm.ClassFile.FieldType.int) Q 0 [some (.ref a), some (.int w)] [] u
  refine g_load rfl rfl rfl trivial ?_
  by_cases hsw : w.toInt < 0 ∨ 9 < w.toInt
  · refine g_tabOut 36 rfl hsw rfl ?_
    rw [rt_out hsw] at hQ
    refine g_iconst (-1) rfl (by decide) ?_
    refine g_vret rfl trivial ⟨rfl, rfl⟩ (Nat.le_refl _) (Nat.le_refl _) ?_
    exact hQ
  obtain ⟨ksw, hk, rfl⟩ := sw_of (x := w) (n := 9) hsw
  rcases (show ksw = 0 ∨ ksw = 1 ∨ ksw = 2 ∨ ksw = 3 ∨ ksw = 4 ∨ ksw = 5 ∨ ksw = 6 ∨ ksw = 7 ∨ ksw = 8 ∨ ksw = 9 by omega) with rfl | rfl | rfl | rfl | rfl | rfl | rfl | rfl | rfl | rfl
  · refine g_tabIn (55) 2 rfl (by decide) (by decide) rfl rfl ?_
    rw [rt_in _ 0 (by decide)] at hQ
    refine g_load rfl rfl rfl trivial ?_
    refine c_getf rfl (by assumption) (by decide) (by rfl) (by rfl) ?_
    refine g_vret rfl trivial ⟨rfl, rfl⟩ (Nat.le_refl _) (Nat.le_refl _) ?_
    exact hQ
  · refine g_tabIn (60) 5 rfl (by decide) (by decide) rfl rfl ?_
    rw [rt_in _ 1 (by decide)] at hQ
    refine g_load rfl rfl rfl trivial ?_
    refine c_getf rfl (by assumption) (by decide) (by rfl) (by rfl) ?_
    refine g_vret rfl trivial ⟨rfl, rfl⟩ (Nat.le_refl _) (Nat.le_refl _) ?_
    exact hQ
  · refine g_tabIn (65) 8 rfl (by decide) (by decide) rfl rfl ?_
    rw [rt_in _ 2 (by decide)] at hQ
    refine g_load rfl rfl rfl trivial ?_
    refine c_getf rfl (by assumption) (by decide) (by rfl) (by rfl) ?_
    refine g_vret rfl trivial ⟨rfl, rfl⟩ (Nat.le_refl _) (Nat.le_refl _) ?_
    exact hQ
  · refine g_tabIn (70) 11 rfl (by decide) (by decide) rfl rfl ?_
    rw [rt_in _ 3 (by decide)] at hQ
    refine g_load rfl rfl rfl trivial ?_
    refine c_getf rfl (by assumption) (by decide) (by rfl) (by rfl) ?_
    refine g_vret rfl trivial ⟨rfl, rfl⟩ (Nat.le_refl _) (Nat.le_refl _) ?_
    exact hQ
  · refine g_tabIn (75) 14 rfl (by decide) (by decide) rfl rfl ?_
    rw [rt_in _ 4 (by decide)] at hQ
    refine g_load rfl rfl rfl trivial ?_
    refine c_getf rfl (by assumption) (by decide) (by rfl) (by rfl) ?_
    refine g_vret rfl trivial ⟨rfl, rfl⟩ (Nat.le_refl _) (Nat.le_refl _) ?_
    exact hQ
  · refine g_tabIn (80) 17 rfl (by decide) (by decide) rfl rfl ?_
    rw [rt_in _ 5 (by decide)] at hQ
    refine g_load rfl rfl rfl trivial ?_
    refine c_getf rfl (by assumption) (by decide) (by rfl) (by rfl) ?_
    refine g_vret rfl trivial ⟨rfl, rfl⟩ (Nat.le_refl _) (Nat.le_refl _) ?_
    exact hQ
  · refine g_tabIn (85) 20 rfl (by decide) (by decide) rfl rfl ?_
    rw [rt_in _ 6 (by decide)] at hQ
    refine g_load rfl rfl rfl trivial ?_
    refine c_getf rfl (by assumption) (by decide) (by rfl) (by rfl) ?_
    refine g_vret rfl trivial ⟨rfl, rfl⟩ (Nat.le_refl _) (Nat.le_refl _) ?_
    exact hQ
  · refine g_tabIn (90) 23 rfl (by decide) (by decide) rfl rfl ?_
    rw [rt_in _ 7 (by decide)] at hQ
    refine g_load rfl rfl rfl trivial ?_
    refine c_getf rfl (by assumption) (by decide) (by rfl) (by rfl) ?_
    refine g_vret rfl trivial ⟨rfl, rfl⟩ (Nat.le_refl _) (Nat.le_refl _) ?_
    exact hQ
  · refine g_tabIn (95) 26 rfl (by decide) (by decide) rfl rfl ?_
    rw [rt_in _ 8 (by decide)] at hQ
    refine g_load rfl rfl rfl trivial ?_
    refine c_getf rfl (by assumption) (by decide) (by rfl) (by rfl) ?_
    refine g_vret rfl trivial ⟨rfl, rfl⟩ (Nat.le_refl _) (Nat.le_refl _) ?_
    exact hQ
  · refine g_tabIn (100) 29 rfl (by decide) (by decide) rfl rfl ?_
    rw [rt_in _ 9 (by decide), hx] at hQ
    refine g_load rfl rfl rfl trivial ?_
    refine c_getf rfl (by assumption) (by decide) (by rfl) (by rfl) ?_
    rw [hx]
    refine g_if_eq rfl (fun c1 => ?_) (fun c1 => ?_)
    · rw [bI_eq] at c1
      rw [c1] at hQ
      refine g_iconst (nI 0) rfl (by decide) ?_
      refine g_vret rfl trivial ⟨rfl, rfl⟩ (Nat.le_refl _) (Nat.le_refl _) ?_
      exact hQ
    · rw [bI_ne] at c1
      rw [c1] at hQ
      refine g_iconst (nI 1) rfl (by decide) ?_
      refine g_goto rfl ?_
      refine g_vret rfl trivial ⟨rfl, rfl⟩ (Nat.le_refl _) (Nat.le_refl _) ?_
      exact hQ
