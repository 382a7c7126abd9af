/-! ===== the class: Auction ===== -/
def caF (f : Nat → Int32) (n : Nat) (i : Int32) : Int32 := if i < 0 then -1 else if nI n ≤ i then -1 else f i.toNatClampNeg
def fr1 (L v : Int32) : Bool := decide (L ≤ v)
theorem last_congr {p q : Int32 → Bool} {f g : Nat → Int32} : ∀ {n : Nat}, (∀ i, i < n → p (f i) = q (g i)) → last p f n = last q g n
  | 0, _ => rfl
  | n + 1, h => by
    unfold last
    rw [h n (by omega), last_congr (fun i hi => h i (by omega))]
theorem caF_at {f : Nat → Int32} {n i : Nat} (h : i < n) (hn : n < 2 ^ 31) : caF f n (nI i) = f i := by
  unfold caF
  rw [if_neg (nI_pos (by omega)), if_neg (by rw [nI_leI (by omega) (by omega)]; omega), nI_clamp (by omega)]
theorem caF_m1 (f : Nat → Int32) (n : Nat) : caF f n (-1) = -1 := if_pos (by decide)
set_option maxRecDepth 20000 in
theorem c_callAt {pr : aC} {d : Nat} {u : cS} (a n : Nat) (hk : u.kd a = 4) (hk1 : u.kd (a + 1) = 5) (hn : u.oI a 1 = nI n) (hn2 : n ≤ 319) (i : Int32) {Q : Option Value → cS → Prop} (hQ : Q (some (.int (caF (u.rI (a + 1)) n i))) u) : cR pr (d + 1) 3 [.ref a, .int i] u Q := by
  refine gR_of mi_3 eF_rf rfl (Nat.le_of_ble_eq_true rfl) ?_
  show cB pr (d) cd_3 (Option.some Jvm.ClassFile.FieldType.int) Q 0 [some (.ref a), some (.int i)] [] u
  refine g_load rfl rfl rfl trivial ?_
  refine g_if_lt rfl (fun c1 => ?_) (fun c1 => ?_)
  · rw [show caF (u.rI (a + 1)) n i = -1 from if_pos c1] at hQ
    refine g_iconst (-1) rfl (by decide) ?_
    refine g_vret rfl trivial ⟨rfl, rfl⟩ (Nat.le_refl _) (Nat.le_refl _) ?_
    exact hQ
  · unfold caF at hQ
    rw [if_neg c1] at hQ
    refine g_load rfl rfl rfl trivial ?_
    refine g_load rfl rfl rfl trivial ?_
    refine c_getf rfl (by assumption) (by decide) (by rfl) (by rfl) ?_
    rw [hn]
    refine g_icmp_ge rfl (fun c2 => ?_) (fun c2 => ?_)
    · rw [if_pos c2] at hQ
      refine g_iconst (-1) rfl (by decide) ?_
      refine g_vret rfl trivial ⟨rfl, rfl⟩ (Nat.le_refl _) (Nat.le_refl _) ?_
      exact hQ
    · rw [if_neg c2] at hQ
      obtain ⟨j, hj, rfl⟩ := nI_of c1
      rw [nI_leI (by omega) (by omega)] at c2
      rw [nI_clamp (by omega)] at hQ
      refine g_load rfl rfl rfl trivial ?_
      refine g_load rfl rfl rfl trivial ?_
      refine c_getf rfl (by assumption) (by decide) (by rfl) (by rfl) ?_
      refine c_len rfl (by assumption) (by decide) (by rfl) (by decide) ?_
      refine g_icmp_ge rfl (fun c3 => ?_) (fun c3 => ?_)
      · rw [nI_leI (by omega) (by omega)] at c3
        exact absurd c3 (by omega)
      · refine g_load rfl rfl rfl trivial ?_
        refine c_getf rfl (by assumption) (by decide) (by rfl) (by rfl) ?_
        refine g_load rfl rfl rfl trivial ?_
        refine c_ia (j) rfl (by assumption) (by decide) (by rfl) rfl (by omega) (by decide) ?_
        refine g_goto rfl ?_
        refine g_vret rfl trivial ⟨rfl, rfl⟩ (Nat.le_refl _) (Nat.le_refl _) ?_
        exact hQ
set_option maxRecDepth 20000 in
theorem c_aturn {pr : aC} {d : Nat} {u : cS} (a n : Nat) (hk : u.kd a = 4) (hk1 : u.kd (a + 1) = 5) (hn : u.oI a 1 = nI n) (hn2 : n ≤ 319) (dl : Nat) (hd : u.oI a 2 = nI dl) (hdl : dl < 4) {Q : Option Value → cS → Prop} (hQ : Q (some (.int (nI ((dl + n) % 4)))) u) : cR pr (d + 1) 4 [.ref a] u Q := by
  refine gR_of mi_4 eF_rf rfl (Nat.le_of_ble_eq_true rfl) ?_
  show cB pr (d) cd_4 (Option.some Jvm.ClassFile.FieldType.int) Q 0 [some (.ref a)] [] u
  refine g_load rfl rfl rfl trivial ?_
  refine c_getf rfl (by assumption) (by decide) (by rfl) (by rfl) ?_
  refine g_load rfl rfl rfl trivial ?_
  refine c_getf rfl (by assumption) (by decide) (by rfl) (by rfl) ?_
  rw [hn, hd]
  refine g_iadd rfl ?_
  rw [nI_add]
  refine g_iconst (nI 4) rfl (by decide) ?_
  refine g_irem rfl (by decide) ?_
  rw [pk_rem (by omega) (by omega) (by omega)]
  refine g_vret rfl trivial ⟨rfl, rfl⟩ (Nat.le_refl _) (Nat.le_refl _) ?_
  exact hQ
set_option maxRecDepth 20000 in
theorem c_latestFrom_l {pr : aC} {d : Nat} {u : cS} (a n : Nat) (hk : u.kd a = 4) (hk1 : u.kd (a + 1) = 5) (hn : u.oI a 1 = nI n) (hn2 : n ≤ 319) (L : Int32) (l2 : Option Value) {Q : Option Value → cS → Prop} : ∀ (i : Nat) (hi : i ≤ n) (hQ : Q (some (.int (oI (last (fr1 L) (u.rI (a + 1)) i)))) u), cB pr d cd_9 (some .int) Q 15 [some (.ref a), some (.int L), l2, some (.int (pI i))] [] u := by
  intro i
  induction i with
  | zero =>
    intro hi hQ
    refine g_load rfl rfl rfl trivial ?_
    refine g_if_lt rfl (fun c1 => ?_) (fun c1 => absurd (by decide) c1)
    refine g_iconst (-1) rfl (by decide) ?_
    exact g_vret rfl trivial ⟨rfl, rfl⟩ (Nat.le_refl _) (Nat.le_refl _) hQ
  | succ i ih =>
    intro hi hQ
    refine g_load rfl rfl rfl trivial ?_
    refine g_if_lt rfl (fun c1 => absurd c1 (nI_pos (by omega))) (fun c1 => ?_)
    refine g_load rfl rfl rfl trivial ?_
    refine c_getf rfl (by assumption) (by decide) (by rfl) (by rfl) ?_
    refine g_load rfl rfl rfl trivial ?_
    refine c_ia i rfl (by assumption) (by decide) (by rfl) rfl (by omega) (by decide) ?_
    refine g_load rfl rfl rfl trivial ?_
    refine g_icmp_lt rfl (fun c2 => ?_) (fun c2 => ?_)
    · refine g_iinc (pI i) [some (.ref a), some (.int L), l2, some (.int (pI i))] rfl rfl (by cases i with
        | zero => decide
        | succ i => exact pk_m1 i) rfl ?_
      refine g_goto rfl ?_
      refine ih (by omega) ?_
      unfold last at hQ
      rw [if_neg (by unfold fr1; rw [decide_eq_true_eq]; exact Int32.not_le.mpr c2)] at hQ
      exact hQ
    · refine g_load rfl rfl rfl trivial ?_
      refine g_vret rfl trivial ⟨rfl, rfl⟩ (Nat.le_refl _) (Nat.le_refl _) ?_
      unfold last at hQ
      rw [if_pos (by unfold fr1; rw [decide_eq_true_eq]; exact Int32.not_lt.mp c2)] at hQ
      exact hQ
set_option maxRecDepth 20000 in
theorem c_latestFrom {pr : aC} {d : Nat} {u : cS} (a n : Nat) (hk : u.kd a = 4) (hk1 : u.kd (a + 1) = 5) (hn : u.oI a 1 = nI n) (hn2 : n ≤ 319) (L : Int32) {Q : Option Value → cS → Prop} (hQ : Q (some (.int (oI (last (fr1 L) (u.rI (a + 1)) n)))) u) : cR pr (d + 1) 9 [.ref a, .int L] u Q := by
  refine gR_of mi_9 eF_rf rfl (Nat.le_of_ble_eq_true rfl) ?_
  show cB pr (d) cd_9 (Option.some Jvm.ClassFile.FieldType.int) Q 0 [some (.ref a), some (.int L), none, none] [] u
  refine g_load rfl rfl rfl trivial ?_
  refine c_getf rfl (by assumption) (by decide) (by rfl) (by rfl) ?_
  refine g_load rfl rfl rfl trivial ?_
  refine c_getf rfl (by assumption) (by decide) (by rfl) (by rfl) ?_
  refine c_len rfl (by assumption) (by decide) (by rfl) (by decide) ?_
  rw [hn]
  refine g_icmp_gt rfl (fun c1 => ?_) (fun c1 => ?_)
  · rw [nI_ltI (by omega) (by omega)] at c1
    exact absurd c1 (by omega)
  · refine g_load rfl rfl rfl trivial ?_
    refine c_getf rfl (by assumption) (by decide) (by rfl) (by rfl) ?_
    refine g_iconst (nI 1) rfl (by decide) ?_
    rw [hn]
    refine g_isub rfl ?_
    rw [pI_eq]
    refine g_goto rfl ?_
    refine g_store [some (.ref a), some (.int L), some (.int (pI n)), none] rfl rfl trivial (Nat.le_of_ble_eq_true rfl) rfl ?_
    refine g_load rfl rfl rfl trivial ?_
    refine g_store [some (.ref a), some (.int L), some (.int (pI n)), some (.int (pI n))] rfl rfl trivial (Nat.le_of_ble_eq_true rfl) rfl ?_
    exact c_latestFrom_l a n hk hk1 hn hn2 L _ n (Nat.le_refl _) hQ
def lbF (f : Nat → Int32) (n : Nat) : Int32 := match last ge3 f n with
  | some b => f b
  | none => -1
theorem caF_last {p : Int32 → Bool} {f : Nat → Int32} {n : Nat} (hn : n < 2 ^ 31) : caF f n (oI (last p f n)) = match last p f n with
  | some b => f b
  | none => -1 := by
  cases h : last p f n with
  | none => exact caF_m1 f n
  | some b => exact caF_at (last_lt h).1 hn
set_option maxRecDepth 20000 in
theorem c_latestBid {pr : aC} {d : Nat} {u : cS} (a n : Nat) (hk : u.kd a = 4) (hk1 : u.kd (a + 1) = 5) (hn : u.oI a 1 = nI n) (hn2 : n ≤ 319) {Q : Option Value → cS → Prop} (hQ : Q (some (.int (lbF (u.rI (a + 1)) n))) u) : cR pr (d + 1 + 1) 10 [.ref a] u Q := by
  refine gR_of mi_10 eF_rf rfl (Nat.le_of_ble_eq_true rfl) ?_
  show cB pr (d + 1) cd_10 (Option.some Jvm.ClassFile.FieldType.int) Q 0 [some (.ref a)] [] u
  refine g_load rfl rfl rfl trivial ?_
  refine g_load rfl rfl rfl trivial ?_
  refine g_iconst (nI 3) rfl (by decide) ?_
  refine g_virtI (a := a) (ci := 1) (n := 1) [.int (nI 3)] eF_tr rfl rfl (by decide) rfl (c_ob (by assumption) (by decide) (by rfl)) rfl (Nat.le_of_ble_eq_true rfl) (Nat.le_refl _) (Nat.le_refl _) (c_latestFrom a n hk hk1 hn hn2 (nI 3) ⟨_, rfl, ?_⟩)
  refine g_virtI (a := a) (ci := 1) (n := 1) [.int (oI (last (fr1 (nI 3)) (u.rI (a + 1)) n))] eF_tr rfl rfl (by decide) rfl (c_ob (by assumption) (by decide) (by rfl)) rfl (Nat.le_of_ble_eq_true rfl) (Nat.le_refl _) (Nat.le_refl _) (c_callAt a n hk hk1 hn hn2 (oI (last (fr1 (nI 3)) (u.rI (a + 1)) n)) ⟨_, rfl, ?_⟩)
  rw [caF_last (by omega)]
  refine g_vret rfl trivial ⟨rfl, rfl⟩ (Nat.le_refl _) (Nat.le_refl _) ?_
  exact hQ
def lvG (f : Nat → Int32) (n : Nat) : Int32 := match last ge3 f n with
  | some b => lvF f b
  | none => -1
def stG (f : Nat → Int32) (n : Nat) : Int32 := match last ge3 f n with
  | some b => stF f b
  | none => -1
theorem lbF_none {f : Nat → Int32} {n : Nat} (h : last ge3 f n = none) : lbF f n = -1 := by unfold lbF; rw [h]
theorem lbF_some {f : Nat → Int32} {n b : Nat} (h : last ge3 f n = some b) : lbF f n = f b := by unfold lbF; rw [h]
theorem ge3_ne {v : Int32} (h : ge3 v = true) : ¬ v = -1 := by
  intro e; subst e; revert h; decide
theorem lbF_m1 {f : Nat → Int32} {n : Nat} (h : lbF f n = -1) : last ge3 f n = none := by
  cases hb : last ge3 f n with
  | none => rfl
  | some b => exact absurd ((lbF_some hb).symm.trans h) (ge3_ne (last_lt hb).2)
theorem lbF_ne {f : Nat → Int32} {n : Nat} (h : ¬ lbF f n = -1) : ∃ b, last ge3 f n = some b := by
  cases hb : last ge3 f n with
  | none => exact absurd (lbF_none hb) h
  | some b => exact ⟨b, rfl⟩
set_option maxRecDepth 20000 in
theorem c_alevel {pr : aC} {d : Nat} {u : cS} (a n : Nat) (hk : u.kd a = 4) (hk1 : u.kd (a + 1) = 5) (hn : u.oI a 1 = nI n) (hn2 : n ≤ 319) {Q : Option Value → cS → Prop} (hQ : Q (some (.int (lvG (u.rI (a + 1)) n))) u) : cR pr (d + 2 + 1) 11 [.ref a] u Q := by
  refine gR_of mi_11 eF_rf rfl (Nat.le_of_ble_eq_true rfl) ?_
  show cB pr (d + 2) cd_11 (Option.some Jvm.ClassFile.FieldType.int) Q 0 [some (.ref a), none] [] u
  refine g_load rfl rfl rfl trivial ?_
  refine g_virtI (a := a) (ci := 1) (n := 0) [] eF_tr rfl rfl (by decide) rfl (c_ob (by assumption) (by decide) (by rfl)) rfl (Nat.le_of_ble_eq_true rfl) (Nat.le_refl _) (Nat.le_refl _) (c_latestBid a n hk hk1 hn hn2 ⟨_, rfl, ?_⟩)
  refine g_store [some (.ref a), some (.int (lbF (u.rI (a + 1)) n))] rfl rfl trivial (Nat.le_of_ble_eq_true rfl) rfl ?_
  refine g_load rfl rfl rfl trivial ?_
  refine g_iconst (-1) rfl (by decide) ?_
  refine g_icmp_ne rfl (fun c1 => ?_) (fun c1 => ?_)
  · obtain ⟨b, hb⟩ := lbF_ne c1
    unfold lvG at hQ
    rw [hb] at hQ
    rw [lbF_some hb]
    refine g_load rfl rfl rfl trivial ?_
    refine g_iconst (nI 3) rfl (by decide) ?_
    refine g_isub rfl ?_
    refine g_iconst (nI 5) rfl (by decide) ?_
    refine g_idiv rfl (by decide) ?_
    refine g_iconst (nI 1) rfl (by decide) ?_
    refine g_iadd rfl ?_
    refine g_vret rfl trivial ⟨rfl, rfl⟩ (Nat.le_refl _) (Nat.le_refl _) ?_
    exact hQ
  · unfold lvG at hQ
    rw [lbF_m1 c1] at hQ
    refine g_iconst (-1) rfl (by decide) ?_
    refine g_goto rfl ?_
    refine g_vret rfl trivial ⟨rfl, rfl⟩ (Nat.le_refl _) (Nat.le_refl _) ?_
    exact hQ
set_option maxRecDepth 20000 in
theorem c_astrain {pr : aC} {d : Nat} {u : cS} (a n : Nat) (hk : u.kd a = 4) (hk1 : u.kd (a + 1) = 5) (hn : u.oI a 1 = nI n) (hn2 : n ≤ 319) {Q : Option Value → cS → Prop} (hQ : Q (some (.int (stG (u.rI (a + 1)) n))) u) : cR pr (d + 2 + 1) 12 [.ref a] u Q := by
  refine gR_of mi_12 eF_rf rfl (Nat.le_of_ble_eq_true rfl) ?_
  show cB pr (d + 2) cd_12 (Option.some Jvm.ClassFile.FieldType.int) Q 0 [some (.ref a), none] [] u
  refine g_load rfl rfl rfl trivial ?_
  refine g_virtI (a := a) (ci := 1) (n := 0) [] eF_tr rfl rfl (by decide) rfl (c_ob (by assumption) (by decide) (by rfl)) rfl (Nat.le_of_ble_eq_true rfl) (Nat.le_refl _) (Nat.le_refl _) (c_latestBid a n hk hk1 hn hn2 ⟨_, rfl, ?_⟩)
  refine g_store [some (.ref a), some (.int (lbF (u.rI (a + 1)) n))] rfl rfl trivial (Nat.le_of_ble_eq_true rfl) rfl ?_
  refine g_load rfl rfl rfl trivial ?_
  refine g_iconst (-1) rfl (by decide) ?_
  refine g_icmp_ne rfl (fun c1 => ?_) (fun c1 => ?_)
  · obtain ⟨b, hb⟩ := lbF_ne c1
    unfold stG at hQ
    rw [hb] at hQ
    rw [lbF_some hb]
    refine g_load rfl rfl rfl trivial ?_
    refine g_iconst (nI 3) rfl (by decide) ?_
    refine g_isub rfl ?_
    refine g_iconst (nI 5) rfl (by decide) ?_
    refine g_irem rfl (by decide) ?_
    refine g_vret rfl trivial ⟨rfl, rfl⟩ (Nat.le_refl _) (Nat.le_refl _) ?_
    exact hQ
  · unfold stG at hQ
    rw [lbF_m1 c1] at hQ
    refine g_iconst (-1) rfl (by decide) ?_
    refine g_goto rfl ?_
    refine g_vret rfl trivial ⟨rfl, rfl⟩ (Nat.le_refl _) (Nat.le_refl _) ?_
    exact hQ
/-- as the class tells it: -1 without a call that isn't a pass -/
def dbG (f : Nat → Int32) (n : Nat) : Int32 := match last (fr1 (nI 1)) f n with
  | some i => if nI 3 ≤ f i then 0 else f i
  | none => -1
set_option maxRecDepth 20000 in
theorem c_doubling {pr : aC} {d : Nat} {u : cS} (a n : Nat) (hk : u.kd a = 4) (hk1 : u.kd (a + 1) = 5) (hn : u.oI a 1 = nI n) (hn2 : n ≤ 319) {Q : Option Value → cS → Prop} (hQ : Q (some (.int (dbG (u.rI (a + 1)) n))) u) : cR pr (d + 1 + 1) 13 [.ref a] u Q := by
  refine gR_of mi_13 eF_rf rfl (Nat.le_of_ble_eq_true rfl) ?_
  show cB pr (d + 1) cd_13 (Option.some Jvm.ClassFile.FieldType.int) Q 0 [some (.ref a), none] [] u
  refine g_load rfl rfl rfl trivial ?_
  refine g_load rfl rfl rfl trivial ?_
  refine g_iconst (nI 1) rfl (by decide) ?_
  refine g_virtI (a := a) (ci := 1) (n := 1) [.int (nI 1)] eF_tr rfl rfl (by decide) rfl (c_ob (by assumption) (by decide) (by rfl)) rfl (Nat.le_of_ble_eq_true rfl) (Nat.le_refl _) (Nat.le_refl _) (c_latestFrom a n hk hk1 hn hn2 (nI 1) ⟨_, rfl, ?_⟩)
  refine g_virtI (a := a) (ci := 1) (n := 1) [.int (oI (last (fr1 (nI 1)) (u.rI (a + 1)) n))] eF_tr rfl rfl (by decide) rfl (c_ob (by assumption) (by decide) (by rfl)) rfl (Nat.le_of_ble_eq_true rfl) (Nat.le_refl _) (Nat.le_refl _) (c_callAt a n hk hk1 hn hn2 (oI (last (fr1 (nI 1)) (u.rI (a + 1)) n)) ⟨_, rfl, ?_⟩)
  refine g_store [some (.ref a), some (.int (caF (u.rI (a + 1)) n (oI (last (fr1 (nI 1)) (u.rI (a + 1)) n))))] rfl rfl trivial (Nat.le_of_ble_eq_true rfl) rfl ?_
  refine g_load rfl rfl rfl trivial ?_
  refine g_iconst (nI 3) rfl (by decide) ?_
  refine g_icmp_lt rfl (fun c1 => ?_) (fun c1 => ?_)
  · have hE : caF (u.rI (a + 1)) n (oI (last (fr1 (nI 1)) (u.rI (a + 1)) n)) = dbG (u.rI (a + 1)) n := by
      rw [caF_last (by omega)] at c1 ⊢
      unfold dbG
      cases hL : last (fr1 (nI 1)) (u.rI (a + 1)) n with
      | none => rfl
      | some i =>
        rw [hL] at c1
        exact (if_neg (Int32.not_le.mpr c1)).symm
    rw [← hE] at hQ
    refine g_load rfl rfl rfl trivial ?_
    refine g_vret rfl trivial ⟨rfl, rfl⟩ (Nat.le_refl _) (Nat.le_refl _) ?_
    exact hQ
  · have hE : dbG (u.rI (a + 1)) n = 0 := by
      rw [caF_last (by omega)] at c1
      unfold dbG
      cases hL : last (fr1 (nI 1)) (u.rI (a + 1)) n with
      | none => rw [hL] at c1; exact absurd (show (-1 : Int32) < nI 3 by decide) c1
      | some i =>
        rw [hL] at c1
        exact if_pos (Int32.not_lt.mp c1)
    rw [hE] at hQ
    refine g_iconst (nI 0) rfl (by decide) ?_
    refine g_goto rfl ?_
    refine g_vret rfl trivial ⟨rfl, rfl⟩ (Nat.le_refl _) (Nat.le_refl _) ?_
    exact hQ
/-- over: three passes behind any fourth call -/
def ovF (f : Nat → Int32) (n : Nat) : Bool := decide (4 ≤ n) && (match last (fr1 (nI 1)) f n with
  | some i => decide (i + 3 < n)
  | none => true)
set_option maxRecDepth 20000 in
theorem c_isOver {pr : aC} {d : Nat} {u : cS} (a n : Nat) (hk : u.kd a = 4) (hk1 : u.kd (a + 1) = 5) (hn : u.oI a 1 = nI n) (hn2 : n ≤ 319) {Q : Option Value → cS → Prop} (hQ : Q (some (.int (bI (ovF (u.rI (a + 1)) n)))) u) : cR pr (d + 1 + 1) 8 [.ref a] u Q := by
  refine gR_of mi_8 eF_rf rfl (Nat.le_of_ble_eq_true rfl) ?_
  show cB pr (d + 1) cd_8 (Option.some Jvm.ClassFile.FieldType.boolean) Q 0 [some (.ref a)] [] u
  refine g_load rfl rfl rfl trivial ?_
  refine c_getf rfl (by assumption) (by decide) (by rfl) (by rfl) ?_
  refine g_iconst (nI 4) rfl (by decide) ?_
  rw [hn]
  refine g_icmp_lt rfl (fun c1 => ?_) (fun c1 => ?_)
  · rw [nI_ltI (by omega) (by omega)] at c1
    rw [show ovF (u.rI (a + 1)) n = false by unfold ovF; simp [show ¬ 4 ≤ n by omega]] at hQ
    refine g_iconst (nI 0) rfl (by decide) ?_
    refine g_vret rfl trivial (by first | exact ⟨by decide, by decide⟩ | trivial) (Nat.le_refl _) (Nat.le_refl _) ?_
    exact hQ
  · rw [nI_ltI (by omega) (by omega)] at c1
    refine g_load rfl rfl rfl trivial ?_
    refine g_iconst (nI 1) rfl (by decide) ?_
    refine g_virtI (a := a) (ci := 1) (n := 1) [.int (nI 1)] eF_tr rfl rfl (by decide) rfl (c_ob (by assumption) (by decide) (by rfl)) rfl (Nat.le_of_ble_eq_true rfl) (Nat.le_refl _) (Nat.le_refl _) (c_latestFrom a n hk hk1 hn hn2 (nI 1) ⟨_, rfl, ?_⟩)
    refine g_load rfl rfl rfl trivial ?_
    refine c_getf rfl (by assumption) (by decide) (by rfl) (by rfl) ?_
    refine g_iconst (nI 3) rfl (by decide) ?_
    rw [hn]
    refine g_isub rfl ?_
    rw [pk_sub (by omega)]
    refine g_icmp_ge rfl (fun c2 => ?_) (fun c2 => ?_)
    · have hE : ovF (u.rI (a + 1)) n = false := by
        unfold ovF
        cases hL : last (fr1 (nI 1)) (u.rI (a + 1)) n with
        | none => rw [hL] at c2; exact absurd c2 (by show ¬ nI (n - 3) ≤ -1; intro z; exact absurd (Int32.le_trans (nI_pos' (by omega)) z) (by decide))
        | some i =>
          rw [hL] at c2
          have := (last_lt hL).1
          have := (nI_leI (by omega) (by omega)).mp (show nI (n - 3) ≤ nI i from c2)
          simp [show ¬ i + 3 < n by omega]
      rw [hE] at hQ
      refine g_iconst (nI 0) rfl (by decide) ?_
      refine g_vret rfl trivial (by first | exact ⟨by decide, by decide⟩ | trivial) (Nat.le_refl _) (Nat.le_refl _) ?_
      exact hQ
    · have hE : ovF (u.rI (a + 1)) n = true := by
        unfold ovF
        cases hL : last (fr1 (nI 1)) (u.rI (a + 1)) n with
        | none => simp [show 4 ≤ n by omega]
        | some i =>
          rw [hL] at c2
          have := (last_lt hL).1
          have := mt (nI_leI (a := n - 3) (b := i) (by omega) (by omega)).mpr c2
          simp [show 4 ≤ n by omega, show i + 3 < n by omega]
      rw [hE] at hQ
      refine g_iconst (nI 1) rfl (by decide) ?_
      refine g_goto rfl ?_
      refine g_vret rfl trivial (by first | exact ⟨by decide, by decide⟩ | trivial) (Nat.le_refl _) (Nat.le_refl _) ?_
      exact hQ
def amF (f : Nat → Int32) (n : Nat) (c : Int32) : Bool := inF c 0 37 && (decide (n < 319) && (decide (c = 0) || (if nI 3 ≤ c then decide (lbF f n < c) else match last (fr1 (nI 1)) f n with
  | some i => decide ((n - i) % 2 = 1) && (if c = nI 1 then decide (nI 3 ≤ f i) else decide (f i = nI 1))
  | none => false)))
set_option maxRecDepth 20000 in
theorem c_admits_s {pr : aC} {d : Nat} {u : cS} (a n : Nat) (hk : u.kd a = 4) (hk1 : u.kd (a + 1) = 5) (hn : u.oI a 1 = nI n) (hn2 : n ≤ 319) (c : Int32) (i : Nat) (hL : last (fr1 (nI 1)) (u.rI (a + 1)) n = some i) (hc : ¬ c = 0) {Q : Option Value → cS → Prop} (hQ : Q (some (.int (bI (decide ((n - i) % 2 = 1) && (if c = nI 1 then decide (nI 3 ≤ (u.rI (a + 1)) i) else decide ((u.rI (a + 1)) i = nI 1)))))) u) : cB pr (d + 1) cd_5 (Option.some Jvm.ClassFile.FieldType.boolean) Q 31 [some (.ref a), some (.int c), none, none, none] [.int (nI i)] u := by
  have hi := (last_lt hL).1
  refine g_store [some (.ref a), some (.int c), some (.int (nI i)), none, none] rfl rfl trivial (Nat.le_of_ble_eq_true rfl) rfl ?_
  refine g_load rfl rfl rfl trivial ?_
  refine c_getf rfl (by assumption) (by decide) (by rfl) (by rfl) ?_
  refine g_load rfl rfl rfl trivial ?_
  rw [hn]
  refine g_isub rfl ?_
  rw [pk_sub (by omega)]
  refine g_iconst (nI 2) rfl (by decide) ?_
  refine g_irem rfl (by decide) ?_
  rw [pk_rem (by omega) (by omega) (by omega)]
  refine g_iconst (nI 1) rfl (by decide) ?_
  have K1 : ∀ e1 : Int32, e1 = bI (decide ((n - i) % 2 = 1)) → cB pr (d + 1) cd_5 (Option.some Jvm.ClassFile.FieldType.boolean) Q 43 [some (.ref a), some (.int c), some (.int (nI i)), none, none] [.int e1] u := by
    intro e1 he1
    subst he1
    refine g_store [some (.ref a), some (.int c), some (.int (nI i)), some (.int (bI (decide ((n - i) % 2 = 1)))), none] rfl rfl trivial (Nat.le_of_ble_eq_true rfl) rfl ?_
    refine g_load rfl rfl rfl trivial ?_
    refine g_load rfl rfl rfl trivial ?_
    refine g_virtI (a := a) (ci := 1) (n := 1) [.int (nI i)] eF_tr rfl rfl (by decide) rfl (c_ob (by assumption) (by decide) (by rfl)) rfl (Nat.le_of_ble_eq_true rfl) (Nat.le_refl _) (Nat.le_refl _) (c_callAt a n hk hk1 hn hn2 (nI i) ⟨_, rfl, ?_⟩)
    rw [caF_at hi (by omega)]
    refine g_store [some (.ref a), some (.int c), some (.int (nI i)), some (.int (bI (decide ((n - i) % 2 = 1)))), some (.int (u.rI (a + 1) i))] rfl rfl trivial (Nat.le_of_ble_eq_true rfl) rfl ?_
    refine g_load rfl rfl rfl trivial ?_
    refine g_if_eq rfl (fun c2 => ?_) (fun c2 => ?_)
    · rw [bI_eq] at c2
      rw [c2] at hQ
      refine g_iconst (nI 0) rfl (by decide) ?_
      refine g_vret rfl trivial (by first | exact ⟨by decide, by decide⟩ | trivial) (Nat.le_refl _) (Nat.le_refl _) ?_
      exact hQ
    · rw [bI_ne] at c2
      rw [c2] at hQ
      refine g_load rfl rfl rfl trivial ?_
      refine g_iconst (nI 1) rfl (by decide) ?_
      refine g_icmp_ne rfl (fun c3 => ?_) (fun c3 => ?_)
      · rw [if_neg c3] at hQ
        refine g_load rfl rfl rfl trivial ?_
        refine g_iconst (nI 1) rfl (by decide) ?_
        refine g_icmp_ne rfl (fun c4 => ?_) (fun c4 => ?_)
        · rw [show decide (u.rI (a + 1) i = nI 1) = false from decide_eq_false c4] at hQ
          refine g_iconst (nI 0) rfl (by decide) ?_
          refine g_vret rfl trivial (by first | exact ⟨by decide, by decide⟩ | trivial) (Nat.le_refl _) (Nat.le_refl _) ?_
          exact hQ
        · rw [show decide (u.rI (a + 1) i = nI 1) = true from decide_eq_true c4] at hQ
          refine g_iconst (nI 1) rfl (by decide) ?_
          refine g_goto rfl ?_
          refine g_vret rfl trivial (by first | exact ⟨by decide, by decide⟩ | trivial) (Nat.le_refl _) (Nat.le_refl _) ?_
          exact hQ
      · rw [if_pos c3] at hQ
        refine g_load rfl rfl rfl trivial ?_
        refine g_iconst (nI 3) rfl (by decide) ?_
        refine g_icmp_lt rfl (fun c5 => ?_) (fun c5 => ?_)
        · rw [show decide (nI 3 ≤ u.rI (a + 1) i) = false from decide_eq_false (Int32.not_le.mpr c5)] at hQ
          refine g_iconst (nI 0) rfl (by decide) ?_
          refine g_vret rfl trivial (by first | exact ⟨by decide, by decide⟩ | trivial) (Nat.le_refl _) (Nat.le_refl _) ?_
          exact hQ
        · rw [show decide (nI 3 ≤ u.rI (a + 1) i) = true from decide_eq_true (Int32.not_lt.mp c5)] at hQ
          refine g_goto rfl ?_
          refine g_iconst (nI 1) rfl (by decide) ?_
          refine g_goto rfl ?_
          refine g_vret rfl trivial (by first | exact ⟨by decide, by decide⟩ | trivial) (Nat.le_refl _) (Nat.le_refl _) ?_
          exact hQ
  refine g_icmp_ne rfl (fun c1 => ?_) (fun c1 => ?_)
  · rw [nI_eq (by omega) (by omega)] at c1
    refine g_iconst (nI 0) rfl (by decide) ?_
    exact K1 _ (by simp [*]; try decide)
  · rw [nI_eq (by omega) (by omega)] at c1
    refine g_iconst (nI 1) rfl (by decide) ?_
    refine g_goto rfl ?_
    exact K1 _ (by simp [*]; try decide)
set_option maxRecDepth 20000 in
theorem c_admits_n {pr : aC} {d : Nat} {u : cS} (a n : Nat) (hk : u.kd a = 4) (hk1 : u.kd (a + 1) = 5) (hn : u.oI a 1 = nI n) (hn2 : n ≤ 319) (c : Int32) (hL : last (fr1 (nI 1)) (u.rI (a + 1)) n = none) {Q : Option Value → cS → Prop} (hQ : Q (some (.int 0)) u) : cB pr (d + 1) cd_5 (Option.some Jvm.ClassFile.FieldType.boolean) Q 31 [some (.ref a), some (.int c), none, none, none] [.int (-1)] u := by
  refine g_store [some (.ref a), some (.int c), some (.int (-1)), none, none] rfl rfl trivial (Nat.le_of_ble_eq_true rfl) rfl ?_
  refine g_load rfl rfl rfl trivial ?_
  refine c_getf rfl (by assumption) (by decide) (by rfl) (by rfl) ?_
  refine g_load rfl rfl rfl trivial ?_
  rw [hn]
  refine g_isub rfl ?_
  rw [show nI n - -1 = nI (n + 1) from by rw [Int32.sub_neg]; exact nI_1 n]
  refine g_iconst (nI 2) rfl (by decide) ?_
  refine g_irem rfl (by decide) ?_
  rw [pk_rem (by omega) (by omega) (by omega)]
  refine g_iconst (nI 1) rfl (by decide) ?_
  have K1 : ∀ e1 : Int32, e1 = bI (decide ((n + 1) % 2 = 1)) → cB pr (d + 1) cd_5 (Option.some Jvm.ClassFile.FieldType.boolean) Q 43 [some (.ref a), some (.int c), some (.int (-1)), none, none] [.int e1] u := by
    intro e1 he1
    subst he1
    refine g_store [some (.ref a), some (.int c), some (.int (-1)), some (.int (bI (decide ((n + 1) % 2 = 1)))), none] rfl rfl trivial (Nat.le_of_ble_eq_true rfl) rfl ?_
    refine g_load rfl rfl rfl trivial ?_
    refine g_load rfl rfl rfl trivial ?_
    refine g_virtI (a := a) (ci := 1) (n := 1) [.int (-1)] eF_tr rfl rfl (by decide) rfl (c_ob (by assumption) (by decide) (by rfl)) rfl (Nat.le_of_ble_eq_true rfl) (Nat.le_refl _) (Nat.le_refl _) (c_callAt a n hk hk1 hn hn2 (-1) ⟨_, rfl, ?_⟩)
    rw [caF_m1]
    refine g_store [some (.ref a), some (.int c), some (.int (-1)), some (.int (bI (decide ((n + 1) % 2 = 1)))), some (.int (-1))] rfl rfl trivial (Nat.le_of_ble_eq_true rfl) rfl ?_
    refine g_load rfl rfl rfl trivial ?_
    refine g_if_eq rfl (fun c2 => ?_) (fun c2 => ?_)
    · refine g_iconst (nI 0) rfl (by decide) ?_
      refine g_vret rfl trivial (by first | exact ⟨by decide, by decide⟩ | trivial) (Nat.le_refl _) (Nat.le_refl _) ?_
      exact hQ
    · refine g_load rfl rfl rfl trivial ?_
      refine g_iconst (nI 1) rfl (by decide) ?_
      refine g_icmp_ne rfl (fun c3 => ?_) (fun c3 => ?_)
      · refine g_load rfl rfl rfl trivial ?_
        refine g_iconst (nI 1) rfl (by decide) ?_
        refine g_icmp_ne rfl (fun c4 => ?_) (fun c4 => ?_)
        · refine g_iconst (nI 0) rfl (by decide) ?_
          refine g_vret rfl trivial (by first | exact ⟨by decide, by decide⟩ | trivial) (Nat.le_refl _) (Nat.le_refl _) ?_
          exact hQ
        · exact absurd c4 (by decide)
      · refine g_load rfl rfl rfl trivial ?_
        refine g_iconst (nI 3) rfl (by decide) ?_
        refine g_icmp_lt rfl (fun c5 => ?_) (fun c5 => ?_)
        · refine g_iconst (nI 0) rfl (by decide) ?_
          refine g_vret rfl trivial (by first | exact ⟨by decide, by decide⟩ | trivial) (Nat.le_refl _) (Nat.le_refl _) ?_
          exact hQ
        · exact absurd (by decide) c5
  refine g_icmp_ne rfl (fun c1 => ?_) (fun c1 => ?_)
  · rw [nI_eq (by omega) (by omega)] at c1
    refine g_iconst (nI 0) rfl (by decide) ?_
    exact K1 _ (by simp [*]; try decide)
  · rw [nI_eq (by omega) (by omega)] at c1
    refine g_iconst (nI 1) rfl (by decide) ?_
    refine g_goto rfl ?_
    exact K1 _ (by simp [*]; try decide)
set_option maxRecDepth 20000 in
theorem c_admits {pr : aC} {d : Nat} {u : cS} (a n : Nat) (hk : u.kd a = 4) (hk1 : u.kd (a + 1) = 5) (hn : u.oI a 1 = nI n) (hn2 : n ≤ 319) (c : Int32) {Q : Option Value → cS → Prop} (hQ : Q (some (.int (bI (amF (u.rI (a + 1)) n c)))) u) : cR pr (d + 2 + 1) 5 [.ref a, .int c] u Q := by
  refine gR_of mi_5 eF_rf rfl (Nat.le_of_ble_eq_true rfl) ?_
  show cB pr (d + 2) cd_5 (Option.some Jvm.ClassFile.FieldType.boolean) Q 0 [some (.ref a), some (.int c), none, none, none] [] u
  refine g_load rfl rfl rfl trivial ?_
  refine g_if_lt rfl (fun c1 => ?_) (fun c1 => ?_)
  · rw [show amF (u.rI (a + 1)) n c = false by unfold amF inF; simp [show ¬ (0 : Int32) ≤ c from Int32.not_le.mpr c1]] at hQ
    refine g_iconst (nI 0) rfl (by decide) ?_
    refine g_vret rfl trivial (by first | exact ⟨by decide, by decide⟩ | trivial) (Nat.le_refl _) (Nat.le_refl _) ?_
    exact hQ
  · refine g_load rfl rfl rfl trivial ?_
    refine g_bipush (nI 37) rfl (by decide) ?_
    refine g_icmp_gt rfl (fun c2 => ?_) (fun c2 => ?_)
    · rw [show amF (u.rI (a + 1)) n c = false by unfold amF inF; simp [show ¬ c ≤ (37 : Int32) from Int32.not_le.mpr (show (37 : Int32) < c from c2)]] at hQ
      refine g_iconst (nI 0) rfl (by decide) ?_
      refine g_vret rfl trivial (by first | exact ⟨by decide, by decide⟩ | trivial) (Nat.le_refl _) (Nat.le_refl _) ?_
      exact hQ
    · have hin : inF c 0 37 = true := by unfold inF; simp [Int32.not_lt.mp c1, Int32.not_lt.mp (show ¬ (37 : Int32) < c from c2)]
      unfold amF at hQ
      rw [hin] at hQ
      refine g_load rfl rfl rfl trivial ?_
      refine c_getf rfl (by assumption) (by decide) (by rfl) (by rfl) ?_
      refine g_load rfl rfl rfl trivial ?_
      refine c_getf rfl (by assumption) (by decide) (by rfl) (by rfl) ?_
      refine c_len rfl (by assumption) (by decide) (by rfl) (by decide) ?_
      rw [hn]
      refine g_icmp_lt rfl (fun c3 => ?_) (fun c3 => ?_)
      · rw [nI_ltI (by omega) (by omega)] at c3
        rw [decide_eq_true c3, Bool.true_and, Bool.true_and] at hQ
        refine g_load rfl rfl rfl trivial ?_
        refine g_if_ne rfl (fun c4 => ?_) (fun c4 => ?_)
        · rw [decide_eq_false c4, Bool.false_or] at hQ
          refine g_load rfl rfl rfl trivial ?_
          refine g_iconst (nI 3) rfl (by decide) ?_
          refine g_icmp_lt rfl (fun c5 => ?_) (fun c5 => ?_)
          · rw [if_neg (Int32.not_le.mpr c5)] at hQ
            refine g_load rfl rfl rfl trivial ?_
            refine g_iconst (nI 1) rfl (by decide) ?_
            refine g_virtI (a := a) (ci := 1) (n := 1) [.int (nI 1)] eF_tr rfl rfl (by decide) rfl (c_ob (by assumption) (by decide) (by rfl)) rfl (Nat.le_of_ble_eq_true rfl) (Nat.le_refl _) (Nat.le_refl _) (c_latestFrom a n hk hk1 hn hn2 (nI 1) ⟨_, rfl, ?_⟩)
            cases hL : last (fr1 (nI 1)) (u.rI (a + 1)) n with
            | none =>
              rw [hL] at hQ
              exact c_admits_n a n hk hk1 hn hn2 c hL hQ
            | some i =>
              rw [hL] at hQ
              exact c_admits_s a n hk hk1 hn hn2 c i hL (by assumption) hQ
          · rw [if_pos (Int32.not_lt.mp c5)] at hQ
            refine g_load rfl rfl rfl trivial ?_
            refine g_load rfl rfl rfl trivial ?_
            refine g_virtI (a := a) (ci := 1) (n := 0) [] eF_tr rfl rfl (by decide) rfl (c_ob (by assumption) (by decide) (by rfl)) rfl (Nat.le_of_ble_eq_true rfl) (Nat.le_refl _) (Nat.le_refl _) (c_latestBid a n hk hk1 hn hn2 ⟨_, rfl, ?_⟩)
            refine g_icmp_le rfl (fun c6 => ?_) (fun c6 => ?_)
            · rw [decide_eq_false (Int32.not_lt.mpr c6)] at hQ
              refine g_iconst (nI 0) rfl (by decide) ?_
              refine g_vret rfl trivial (by first | exact ⟨by decide, by decide⟩ | trivial) (Nat.le_refl _) (Nat.le_refl _) ?_
              exact hQ
            · rw [decide_eq_true (Int32.not_le.mp c6)] at hQ
              refine g_iconst (nI 1) rfl (by decide) ?_
              refine g_goto rfl ?_
              refine g_vret rfl trivial (by first | exact ⟨by decide, by decide⟩ | trivial) (Nat.le_refl _) (Nat.le_refl _) ?_
              exact hQ
        · rw [decide_eq_true c4, Bool.true_or] at hQ
          refine g_iconst (nI 1) rfl (by decide) ?_
          refine g_vret rfl trivial (by first | exact ⟨by decide, by decide⟩ | trivial) (Nat.le_refl _) (Nat.le_refl _) ?_
          exact hQ
      · rw [nI_ltI (by omega) (by omega)] at c3
        rw [decide_eq_false c3, Bool.false_and, Bool.and_false] at hQ
        refine g_iconst (nI 0) rfl (by decide) ?_
        refine g_vret rfl trivial (by first | exact ⟨by decide, by decide⟩ | trivial) (Nat.le_refl _) (Nat.le_refl _) ?_
        exact hQ
set_option maxRecDepth 20000 in
theorem w_add {pr : aC} {d : Nat} {u : cS} (a n : Nat) (hk : u.kd a = 4) (hk1 : u.kd (a + 1) = 5) (hn : u.oI a 1 = nI n) (hn2 : n < 319) (c : Int32) {Q : Option Value → cS → Prop} (hQ : Q none (upO (upI u (a + 1) n c) a 1 (nI (n + 1)))) : wR pr (d + 1) 6 [.ref a, .int c] u Q := by
  refine gR_of mi_6 cFr_rf rfl (Nat.le_of_ble_eq_true rfl) ?_
  show wB pr (d) cd_6 none Q 0 [some (.ref a), some (.int c)] [] u
  refine g_load rfl rfl rfl trivial ?_
  refine c_getf rfl (by assumption) (by decide) (by rfl) (by rfl) ?_
  refine g_load rfl rfl rfl trivial ?_
  refine c_getf rfl (by assumption) (by decide) (by rfl) (by rfl) ?_
  refine c_len rfl (by assumption) (by decide) (by rfl) (by decide) ?_
  rw [hn]
  refine g_icmp_ge rfl (fun c1 => ?_) (fun c1 => ?_)
  · rw [nI_leI (by omega) (by omega)] at c1
    exact absurd c1 (by omega)
  · refine g_load rfl rfl rfl trivial ?_
    refine c_getf rfl (by assumption) (by decide) (by rfl) (by rfl) ?_
    refine g_load rfl rfl rfl trivial ?_
    refine c_getf rfl (by assumption) (by decide) (by rfl) (by rfl) ?_
    refine g_load rfl rfl rfl trivial ?_
    refine c_ias n rfl (by assumption) (by decide) (by rfl) hn (by omega) (by decide) (by rfl) ?_
    refine g_load rfl rfl rfl trivial ?_
    refine g_dup rfl rfl ?_
    refine c_getf rfl (κ := 4) (by exact hk) (by decide) (by rfl) (by rfl) ?_
    rw [show (upI u (a + 1) n c).oI a 1 = nI n from hn]
    refine g_iconst (nI 1) rfl (by decide) ?_
    refine g_iadd rfl ?_
    rw [nI_add]
    refine c_puti rfl (κ := 4) (by exact hk) (by decide) (by rfl) (Nat.le_of_ble_eq_true rfl) ⟨_, _, rfl, rfl, rfl, rfl⟩ (by simp [cCell, upO, u2, cS.kd, cS.oI, cS.rI, cS.rL, cS.rR, cS.tp]) ?_
    refine g_ret rfl rfl (Nat.le_refl _) (Nat.le_refl _) ?_
    exact hQ
set_option maxRecDepth 20000 in
theorem w_adrop {pr : aC} {d : Nat} {u : cS} (a n : Nat) (hk : u.kd a = 4) (hk1 : u.kd (a + 1) = 5) (hn : u.oI a 1 = nI n) (hn2 : n ≤ 319) {Q : Option Value → cS → Prop} (h0 : n = 0 → Q (some (.int 0)) u) (hQ : 0 < n → Q (some (.int 1)) (upO u a 1 (nI (n - 1)))) : wR pr (d + 1) 7 [.ref a] u Q := by
  refine gR_of mi_7 cFr_rf rfl (Nat.le_of_ble_eq_true rfl) ?_
  show wB pr (d) cd_7 (Option.some Jvm.ClassFile.FieldType.boolean) Q 0 [some (.ref a)] [] u
  refine g_load rfl rfl rfl trivial ?_
  refine c_getf rfl (by assumption) (by decide) (by rfl) (by rfl) ?_
  rw [hn]
  refine g_if_ne rfl (fun c1 => ?_) (fun c1 => ?_)
  · have hn0 : 0 < n := by
      apply Nat.pos_of_ne_zero
      intro e
      subst e
      exact c1 rfl
    have hQ := hQ hn0
    refine g_load rfl rfl rfl trivial ?_
    refine g_dup rfl rfl ?_
    refine c_getf rfl (by assumption) (by decide) (by rfl) (by rfl) ?_
    refine g_iconst (nI 1) rfl (by decide) ?_
    rw [hn]
    refine g_isub rfl ?_
    rw [pk_sub (by omega)]
    refine c_puti rfl (by assumption) (by decide) (by rfl) (Nat.le_of_ble_eq_true rfl) ⟨_, _, rfl, rfl, rfl, rfl⟩ (by simp [cCell, upO, u2, cS.kd, cS.oI, cS.rI, cS.rL, cS.rR, cS.tp]) ?_
    refine g_iconst (nI 1) rfl (by decide) ?_
    refine g_vret rfl trivial (by first | exact ⟨by decide, by decide⟩ | trivial) (Nat.le_refl _) (Nat.le_refl _) ?_
    exact hQ
  · have hQ := h0 (by
      apply Nat.eq_zero_of_not_pos
      intro e
      exact nI_ne0 e (by omega) c1)
    refine g_iconst (nI 0) rfl (by decide) ?_
    refine g_vret rfl trivial (by first | exact ⟨by decide, by decide⟩ | trivial) (Nat.le_refl _) (Nat.le_refl _) ?_
    exact hQ
set_option maxRecDepth 20000 in
theorem w_aopen {pr : aC} {d : Nat} {u : cS} (a : Nat) (s : Int32) (hk : u.kd a = 4) {Q : Option Value → cS → Prop} (hQ : Q none (upO (upO u a 2 s) a 1 0)) : wR pr (d + 1) 1 [.ref a, .int s] u Q := by
  refine gR_of mi_1 cFr_rf rfl (Nat.le_of_ble_eq_true rfl) ?_
  show wB pr (d) cd_1 none Q 0 [some (.ref a), some (.int s)] [] u
  refine g_load rfl rfl rfl trivial ?_
  refine g_load rfl rfl rfl trivial ?_
  refine c_puti rfl (by assumption) (by decide) (by rfl) (Nat.le_of_ble_eq_true rfl) ⟨_, _, rfl, rfl, rfl, rfl⟩ (by simp [cCell, upO, u2, cS.kd, cS.oI, cS.rI, cS.rL, cS.rR, cS.tp]) ?_
  refine g_load rfl rfl rfl trivial ?_
  refine g_iconst (nI 0) rfl (by decide) ?_
  refine c_puti rfl (κ := 4) (by exact hk) (by decide) (by rfl) (Nat.le_of_ble_eq_true rfl) ⟨_, _, rfl, rfl, rfl, rfl⟩ (by simp [cCell, upO, u2, cS.kd, cS.oI, cS.rI, cS.rL, cS.rR, cS.tp]) ?_
  refine g_ret rfl rfl (Nat.le_refl _) (Nat.le_refl _) ?_
  exact hQ
