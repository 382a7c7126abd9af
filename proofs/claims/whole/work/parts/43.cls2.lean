/-! ===== the class: Cards, Board ===== -/
abbrev pR {σ : Type} (Rp : σ → aH → Prop) (Fr : aH → aH → Prop) (pr : aC) (d j : Nat) (as : List Value) (u : σ) (Q : Option Value → σ → Prop) : Prop := gR Rp Fr (aRun pg pr d) j as u 0 0 Q
abbrev pB {σ : Type} (Rp : σ → aH → Prop) (Fr : aH → aH → Prop) (pr : aC) (d : Nat) (cd : List aE) (rt : Option FieldType) (Q : Option Value → σ → Prop) (k : Nat) (l : aL) (st : List Value) (u : σ) : Prop := gB Rp Fr (aRun pg pr d) cd 0 0 rt Q k l st u 0 0
set_option maxRecDepth 20000 in
theorem p_exists {pr : aC} {d : Nat} {σ : Type} {Rp : σ → aH → Prop} {Fr : aH → aH → Prop} (hrf : ∀ h, Fr h h) (htr : ∀ a b d, Fr a b → Fr b d → Fr a d) {u : σ} (c : Int32) {Q : Option Value → σ → Prop} (hQ : Q (some (.int (bI (isCd c)))) u) : pR Rp Fr pr (d + 1) 27 [.int c] u Q := by
  refine gR_of mi_27 hrf rfl (Nat.le_of_ble_eq_true rfl) ?_
  show pB Rp Fr pr (d) cd_27 (Option.some Jvm.ClassFile.FieldType.boolean) Q 0 [some (.int c)] [] u
  refine g_load rfl rfl rfl trivial ?_
  refine g_if_lt rfl (fun c1 => ?_) (fun c1 => ?_)
  · rw [show isCd c = false by unfold isCd inF; simp [show ¬ (0 : Int32) ≤ c from Int32.not_le.mpr c1]] at hQ
    refine g_iconst (nI 0) rfl (by decide) ?_
    refine g_vret rfl trivial (by first | exact ⟨by decide, by decide⟩ | trivial) (Nat.le_refl _) (Nat.le_refl _) ?_
    exact hQ
  · refine g_load rfl rfl rfl trivial ?_
    refine g_bipush (nI 52) rfl (by decide) ?_
    refine g_icmp_ge rfl (fun c2 => ?_) (fun c2 => ?_)
    · rw [show isCd c = false by unfold isCd inF; simp [show ¬ c ≤ (51 : Int32) from fun z => absurd (Int32.lt_of_le_of_lt z (show (51 : Int32) < nI 52 by decide)) (Int32.not_lt.mpr c2)]] at hQ
      refine g_iconst (nI 0) rfl (by decide) ?_
      refine g_vret rfl trivial (by first | exact ⟨by decide, by decide⟩ | trivial) (Nat.le_refl _) (Nat.le_refl _) ?_
      exact hQ
    · rw [show isCd c = true by
        obtain ⟨j, hj, rfl⟩ := nI_of c1
        exact cd_t (by rw [nI_leI (by omega) (by omega)] at c2; omega)] at hQ
      refine g_iconst (nI 1) rfl (by decide) ?_
      refine g_goto rfl ?_
      refine g_vret rfl trivial (by first | exact ⟨by decide, by decide⟩ | trivial) (Nat.le_refl _) (Nat.le_refl _) ?_
      exact hQ
set_option maxRecDepth 20000 in
theorem p_suitOf {pr : aC} {d : Nat} {σ : Type} {Rp : σ → aH → Prop} {Fr : aH → aH → Prop} (hrf : ∀ h, Fr h h) (htr : ∀ a b d, Fr a b → Fr b d → Fr a d) {u : σ} (c : Int32) {Q : Option Value → σ → Prop} (hQ : Q (some (.int (c / nI 13))) u) : pR Rp Fr pr (d + 1) 28 [.int c] u Q := by
  refine gR_of mi_28 hrf rfl (Nat.le_of_ble_eq_true rfl) ?_
  show pB Rp Fr pr (d) cd_28 (Option.some Jvm.ClassFile.FieldType.int) Q 0 [some (.int c)] [] u
  refine g_load rfl rfl rfl trivial ?_
  refine g_bipush (nI 13) rfl (by decide) ?_
  refine g_idiv rfl (by decide) ?_
  refine g_vret rfl trivial ⟨rfl, rfl⟩ (Nat.le_refl _) (Nat.le_refl _) ?_
  exact hQ
set_option maxRecDepth 20000 in
theorem p_bitOf {pr : aC} {d : Nat} {σ : Type} {Rp : σ → aH → Prop} {Fr : aH → aH → Prop} (hrf : ∀ h, Fr h h) (htr : ∀ a b d, Fr a b → Fr b d → Fr a d) {u : σ} (c : Nat) {Q : Option Value → σ → Prop} (hQ : Q (some (.long (bt1 c))) u) : pR Rp Fr pr (d + 1) 29 [.int (nI c)] u Q := by
  refine gR_of mi_29 hrf rfl (Nat.le_of_ble_eq_true rfl) ?_
  show pB Rp Fr pr (d) cd_29 (Option.some Jvm.ClassFile.FieldType.long) Q 0 [some (.int (nI c))] [] u
  refine g_lconst (lN 1) rfl rfl ?_
  refine g_load rfl rfl rfl trivial ?_
  refine g_lshl rfl ?_
  refine g_vret rfl trivial (by first | exact ⟨by decide, by decide⟩ | trivial) (Nat.le_refl _) (Nat.le_refl _) ?_
  exact hQ
set_option maxRecDepth 20000 in
theorem p_has {pr : aC} {d : Nat} {σ : Type} {Rp : σ → aH → Prop} {Fr : aH → aH → Prop} (hrf : ∀ h, Fr h h) (htr : ∀ a b d, Fr a b → Fr b d → Fr a d) {u : σ} (w : Int64) (c : Nat) (hc : c < 64) {Q : Option Value → σ → Prop} (hQ : Q (some (.int (bI (hb w c)))) u) : pR Rp Fr pr (d + 1 + 1) 30 [.long w, .int (nI c)] u Q := by
  refine gR_of mi_30 hrf rfl (Nat.le_of_ble_eq_true rfl) ?_
  show pB Rp Fr pr (d + 1) cd_30 (Option.some Jvm.ClassFile.FieldType.boolean) Q 0 [some (.long w), none, some (.int (nI c))] [] u
  refine g_load rfl rfl rfl trivial ?_
  refine g_load rfl rfl rfl trivial ?_
  refine g_statI [.int (nI c)] htr rfl rfl rfl (Nat.le_of_ble_eq_true rfl) (Nat.le_refl _) (Nat.le_refl _) (p_bitOf hrf htr c ⟨_, rfl, ?_⟩)
  refine g_land rfl ?_
  refine g_lconst (lN 0) rfl rfl ?_
  refine g_lcmp rfl ?_
  refine g_if_eq rfl (fun c1 => ?_) (fun c1 => ?_)
  · rw [lg_0, hb_has hc] at c1
    rw [c1] at hQ
    refine g_iconst (nI 0) rfl (by decide) ?_
    refine g_vret rfl trivial (by first | exact ⟨by decide, by decide⟩ | trivial) (Nat.le_refl _) (Nat.le_refl _) ?_
    exact hQ
  · rw [lg_0, hb_has hc, Bool.not_eq_false] at c1
    rw [c1] at hQ
    refine g_iconst (nI 1) rfl (by decide) ?_
    refine g_goto rfl ?_
    refine g_vret rfl trivial (by first | exact ⟨by decide, by decide⟩ | trivial) (Nat.le_refl _) (Nat.le_refl _) ?_
    exact hQ
set_option maxRecDepth 20000 in
theorem p_onlySuit {pr : aC} {d : Nat} {σ : Type} {Rp : σ → aH → Prop} {Fr : aH → aH → Prop} (hrf : ∀ h, Fr h h) (htr : ∀ a b d, Fr a b → Fr b d → Fr a d) {u : σ} (w : Int64) (s : Nat) {Q : Option Value → σ → Prop} (hQ : Q (some (.long (suS w s))) u) : pR Rp Fr pr (d + 1) 31 [.long w, .int (nI s)] u Q := by
  refine gR_of mi_31 hrf rfl (Nat.le_of_ble_eq_true rfl) ?_
  show pB Rp Fr pr (d) cd_31 (Option.some Jvm.ClassFile.FieldType.long) Q 0 [some (.long w), none, some (.int (nI s))] [] u
  refine g_load rfl rfl rfl trivial ?_
  refine g_ldc2 (8191) rfl (by decide) ?_
  refine g_bipush (nI 13) rfl (by decide) ?_
  refine g_load rfl rfl rfl trivial ?_
  refine g_imul rfl ?_
  refine g_lshl rfl ?_
  refine g_land rfl ?_
  refine g_vret rfl trivial (by first | exact ⟨by decide, by decide⟩ | trivial) (Nat.le_refl _) (Nat.le_refl _) ?_
  exact hQ
theorem chS_z {w : Int64} {s : Nat} (hs : s < 2 ^ 31) (h : suS w s = 0) : chS w (nI s) = w := by
  unfold chS; rw [if_neg (nI_m1 hs), nI_clamp hs, if_pos h]
theorem chS_nz {w : Int64} {s : Nat} (hs : s < 2 ^ 31) (h : ¬ suS w s = 0) : chS w (nI s) = suS w s := by
  unfold chS; rw [if_neg (nI_m1 hs), nI_clamp hs, if_neg h]
set_option maxRecDepth 20000 in
theorem p_choices {pr : aC} {d : Nat} {σ : Type} {Rp : σ → aH → Prop} {Fr : aH → aH → Prop} (hrf : ∀ h, Fr h h) (htr : ∀ a b d, Fr a b → Fr b d → Fr a d) {u : σ} (w : Int64) (s : Nat) (hs : s < 4) {Q : Option Value → σ → Prop} (hQ : Q (some (.long (chS w (nI s)))) u) : pR Rp Fr pr (d + 1 + 1) 32 [.long w, .int (nI s)] u Q := by
  refine gR_of mi_32 hrf rfl (Nat.le_of_ble_eq_true rfl) ?_
  show pB Rp Fr pr (d + 1) cd_32 (Option.some Jvm.ClassFile.FieldType.long) Q 0 [some (.long w), none, some (.int (nI s)), none, none] [] u
  refine g_load rfl rfl rfl trivial ?_
  refine g_iconst (-1) rfl (by decide) ?_
  refine g_icmp_ne rfl (fun c1 => ?_) (fun c1 => ?_)
  · refine g_load rfl rfl rfl trivial ?_
    refine g_load rfl rfl rfl trivial ?_
    refine g_statI [.long w, .int (nI s)] htr rfl rfl rfl (Nat.le_of_ble_eq_true rfl) (Nat.le_refl _) (Nat.le_refl _) (p_onlySuit hrf htr w s ⟨_, rfl, ?_⟩)
    refine g_store [some (.long w), none, some (.int (nI s)), some (.long (suS w s)), none] rfl rfl trivial (Nat.le_of_ble_eq_true rfl) rfl ?_
    refine g_load rfl rfl rfl trivial ?_
    refine g_lconst (lN 0) rfl rfl ?_
    refine g_lcmp rfl ?_
    refine g_if_eq rfl (fun c2 => ?_) (fun c2 => ?_)
    · rw [lg_0] at c2
      rw [chS_z (by omega) c2] at hQ
      refine g_load rfl rfl rfl trivial ?_
      refine g_vret rfl trivial (by first | exact ⟨by decide, by decide⟩ | trivial) (Nat.le_refl _) (Nat.le_refl _) ?_
      exact hQ
    · rw [lg_0] at c2
      rw [chS_nz (by omega) c2] at hQ
      refine g_load rfl rfl rfl trivial ?_
      refine g_goto rfl ?_
      refine g_vret rfl trivial (by first | exact ⟨by decide, by decide⟩ | trivial) (Nat.le_refl _) (Nat.le_refl _) ?_
      exact hQ
  · exact absurd c1 (nI_m1 (by omega))
set_option maxRecDepth 20000 in
theorem p_choices_n {pr : aC} {d : Nat} {σ : Type} {Rp : σ → aH → Prop} {Fr : aH → aH → Prop} (hrf : ∀ h, Fr h h) (htr : ∀ a b d, Fr a b → Fr b d → Fr a d) {u : σ} (w : Int64) {Q : Option Value → σ → Prop} (hQ : Q (some (.long w)) u) : pR Rp Fr pr (d + 1 + 1) 32 [.long w, .int (-1)] u Q := by
  refine gR_of mi_32 hrf rfl (Nat.le_of_ble_eq_true rfl) ?_
  show pB Rp Fr pr (d + 1) cd_32 (Option.some Jvm.ClassFile.FieldType.long) Q 0 [some (.long w), none, some (.int (-1)), none, none] [] u
  refine g_load rfl rfl rfl trivial ?_
  refine g_iconst (-1) rfl (by decide) ?_
  refine g_icmp_ne rfl (fun c1 => ?_) (fun c1 => ?_)
  · exact absurd rfl c1
  · refine g_lconst (lN 0) rfl rfl ?_
    refine g_goto rfl ?_
    refine g_store [some (.long w), none, some (.int (-1)), some (.long (lN 0)), none] rfl rfl trivial (Nat.le_of_ble_eq_true rfl) rfl ?_
    refine g_load rfl rfl rfl trivial ?_
    refine g_lconst (lN 0) rfl rfl ?_
    refine g_lcmp rfl ?_
    refine g_if_eq rfl (fun c2 => ?_) (fun c2 => ?_)
    · refine g_load rfl rfl rfl trivial ?_
      refine g_vret rfl trivial (by first | exact ⟨by decide, by decide⟩ | trivial) (Nat.le_refl _) (Nat.le_refl _) ?_
      exact hQ
    · exact absurd (show lg_cmp (lN 0) (lN 0) = 0 by decide) c2
set_option maxRecDepth 20000 in
theorem p_beats {pr : aC} {d : Nat} {σ : Type} {Rp : σ → aH → Prop} {Fr : aH → aH → Prop} (hrf : ∀ h, Fr h h) (htr : ∀ a b d, Fr a b → Fr b d → Fr a d) {u : σ} (x y t : Int32) {Q : Option Value → σ → Prop} (hQ : Q (some (.int (bI (btF x y t)))) u) : pR Rp Fr pr (d + 1) 33 [.int x, .int y, .int t] u Q := by
  refine gR_of mi_33 hrf rfl (Nat.le_of_ble_eq_true rfl) ?_
  show pB Rp Fr pr (d) cd_33 (Option.some Jvm.ClassFile.FieldType.boolean) Q 0 [some (.int x), some (.int y), some (.int t), none] [] u
  refine g_load rfl rfl rfl trivial ?_
  refine g_bipush (nI 13) rfl (by decide) ?_
  refine g_idiv rfl (by decide) ?_
  refine g_store [some (.int x), some (.int y), some (.int t), some (.int (x / nI 13))] rfl rfl trivial (Nat.le_of_ble_eq_true rfl) rfl ?_
  refine g_load rfl rfl rfl trivial ?_
  refine g_load rfl rfl rfl trivial ?_
  refine g_bipush (nI 13) rfl (by decide) ?_
  refine g_idiv rfl (by decide) ?_
  refine g_icmp_ne rfl (fun c1 => ?_) (fun c1 => ?_)
  · unfold btF at hQ
    rw [if_neg c1] at hQ
    refine g_load rfl rfl rfl trivial ?_
    refine g_load rfl rfl rfl trivial ?_
    refine g_icmp_ne rfl (fun c2 => ?_) (fun c2 => ?_)
    · rw [decide_eq_false c2] at hQ
      refine g_iconst (nI 0) rfl (by decide) ?_
      refine g_vret rfl trivial (by first | exact ⟨by decide, by decide⟩ | trivial) (Nat.le_refl _) (Nat.le_refl _) ?_
      exact hQ
    · rw [decide_eq_true c2] at hQ
      refine g_iconst (nI 1) rfl (by decide) ?_
      refine g_goto rfl ?_
      refine g_vret rfl trivial (by first | exact ⟨by decide, by decide⟩ | trivial) (Nat.le_refl _) (Nat.le_refl _) ?_
      exact hQ
  · unfold btF at hQ
    rw [if_pos c1] at hQ
    refine g_load rfl rfl rfl trivial ?_
    refine g_load rfl rfl rfl trivial ?_
    refine g_icmp_le rfl (fun c3 => ?_) (fun c3 => ?_)
    · rw [decide_eq_false (Int32.not_lt.mpr c3)] at hQ
      refine g_iconst (nI 0) rfl (by decide) ?_
      refine g_goto rfl ?_
      refine g_vret rfl trivial (by first | exact ⟨by decide, by decide⟩ | trivial) (Nat.le_refl _) (Nat.le_refl _) ?_
      exact hQ
    · rw [decide_eq_true (Int32.not_le.mp c3)] at hQ
      refine g_iconst (nI 1) rfl (by decide) ?_
      refine g_goto rfl ?_
      refine g_vret rfl trivial (by first | exact ⟨by decide, by decide⟩ | trivial) (Nat.le_refl _) (Nat.le_refl _) ?_
      exact hQ
set_option maxRecDepth 20000 in
theorem c_cardsOf {pr : aC} {d : Nat} {u : cS} (a : Nat) (hk : u.kd a = 1) (hk1 : u.kd (a + 1) = 2) (s : Nat) (hs : s < 4) {Q : Option Value → cS → Prop} (hQ : Q (some (.long (u.rL (a + 1) s))) u) : cR pr (d + 1) 17 [.ref a, .int (nI s)] u Q := by
  refine gR_of mi_17 eF_rf rfl (Nat.le_of_ble_eq_true rfl) ?_
  show cB pr (d) cd_17 (Option.some Jvm.ClassFile.FieldType.long) Q 0 [some (.ref a), some (.int (nI s))] [] u
  refine g_load rfl rfl rfl trivial ?_
  refine g_if_lt rfl (fun c1 => ?_) (fun c1 => ?_)
  · exact absurd c1 (nI_pos (by omega))
  · refine g_load rfl rfl rfl trivial ?_
    refine g_load rfl rfl rfl trivial ?_
    refine c_getf rfl (by assumption) (by decide) (by rfl) (by rfl) ?_
    refine c_len rfl (by assumption) (by decide) (by rfl) (by decide) ?_
    refine g_icmp_ge rfl (fun c2 => ?_) (fun c2 => ?_)
    · rw [nI_leI (by omega) (by omega)] at c2
      exact absurd c2 (by omega)
    · refine g_load rfl rfl rfl trivial ?_
      refine c_getf rfl (by assumption) (by decide) (by rfl) (by rfl) ?_
      refine g_load rfl rfl rfl trivial ?_
      refine c_la (s) rfl (by assumption) (by decide) (by rfl) rfl (by omega) (by decide) ?_
      refine g_goto rfl ?_
      refine g_vret rfl trivial (by first | exact ⟨by decide, by decide⟩ | trivial) (Nat.le_refl _) (Nat.le_refl _) ?_
      exact hQ
/-- who holds a card, of a board's four sets -/
def hoF (L : Nat → Int64) (c : Nat) : Option Nat := first (fun s => hb (L s) c) 0 4
set_option maxRecDepth 20000 in
theorem c_holder_l {pr : aC} {d : Nat} {u : cS} (a : Nat) (hk : u.kd a = 1) (hk1 : u.kd (a + 1) = 2) (c : Nat) (hc : c < 64) {Q : Option Value → cS → Prop} (hQ : Q (some (.int (oI (hoF (u.rL (a + 1)) c)))) u) : ∀ (zz : Nat) (i : Nat) (hinv : ∀ x, x < i → hb (u.rL (a + 1) x) c = false) (hm : 4 - i < zz) (hle : i ≤ 4), cB pr (d + 2) cd_18 (Option.some Jvm.ClassFile.FieldType.int) Q 2 [some (.ref a), some (.int (nI c)), some (.int (nI i))] [] u := by
  intro zz
  induction zz with
  | zero => intro i hinv hm hle; exact absurd hm (by omega)
  | succ zz ih =>
    intro i hinv hm hle
    refine g_load rfl rfl rfl trivial ?_
    refine g_load rfl rfl rfl trivial ?_
    refine c_getf rfl (by assumption) (by decide) (by rfl) (by rfl) ?_
    refine c_len rfl (by assumption) (by decide) (by rfl) (by decide) ?_
    refine g_icmp_ge rfl (fun c1 => ?_) (fun c1 => ?_)
    · rw [nI_leI (by omega) (by omega)] at c1
      rw [show hoF (u.rL (a + 1)) c = none from first_miss (fun x _ hx => hinv x (by omega))] at hQ
      refine g_iconst (-1) rfl (by decide) ?_
      refine g_vret rfl trivial ⟨rfl, rfl⟩ (Nat.le_refl _) (Nat.le_refl _) ?_
      exact hQ
    · rw [nI_leI (by omega) (by omega)] at c1
      refine g_load rfl rfl rfl trivial ?_
      refine c_getf rfl (by assumption) (by decide) (by rfl) (by rfl) ?_
      refine g_load rfl rfl rfl trivial ?_
      refine c_la (i) rfl (by assumption) (by decide) (by rfl) rfl (by omega) (by decide) ?_
      refine g_load rfl rfl rfl trivial ?_
      refine g_statI [.long (u.rL (a + 1) i), .int (nI c)] eF_tr rfl rfl rfl (Nat.le_of_ble_eq_true rfl) (Nat.le_refl _) (Nat.le_refl _) (p_has eF_rf eF_tr (u.rL (a + 1) i) c hc ⟨_, rfl, ?_⟩)
      refine g_if_eq rfl (fun c2 => ?_) (fun c2 => ?_)
      · rw [bI_eq] at c2
        refine g_iinc (nI (i + 1)) [some (.ref a), some (.int (nI c)), some (.int (nI (i + 1)))] rfl rfl (nI_1 i) rfl ?_
        refine g_goto rfl ?_
        refine ih (i + 1) (fun x hx => ?_) (by omega) (by omega)
        by_cases e : x = i
        · subst e; assumption
        · exact hinv x (by omega)
      · rw [bI_ne] at c2
        rw [show hoF (u.rL (a + 1)) c = some i from first_hit (by omega) (by omega) c2 (fun x _ hx => hinv x hx)] at hQ
        refine g_load rfl rfl rfl trivial ?_
        refine g_vret rfl trivial ⟨rfl, rfl⟩ (Nat.le_refl _) (Nat.le_refl _) ?_
        exact hQ
set_option maxRecDepth 20000 in
theorem c_holder {pr : aC} {d : Nat} {u : cS} (a : Nat) (hk : u.kd a = 1) (hk1 : u.kd (a + 1) = 2) (c : Nat) (hc : c < 64) {Q : Option Value → cS → Prop} (hQ : Q (some (.int (oI (hoF (u.rL (a + 1)) c)))) u) : cR pr (d + 2 + 1) 18 [.ref a, .int (nI c)] u Q := by
  refine gR_of mi_18 eF_rf rfl (Nat.le_of_ble_eq_true rfl) ?_
  show cB pr (d + 2) cd_18 (Option.some Jvm.ClassFile.FieldType.int) Q 0 [some (.ref a), some (.int (nI c)), none] [] u
  refine g_iconst (nI 0) rfl (by decide) ?_
  refine g_store [some (.ref a), some (.int (nI c)), some (.int (nI 0))] rfl rfl trivial (Nat.le_of_ble_eq_true rfl) rfl ?_
  exact c_holder_l a hk hk1 c hc hQ 5 0 (fun x h => absurd h (by omega)) (by omega) (by omega)
set_option maxRecDepth 20000 in
theorem c_number {pr : aC} {d : Nat} {u : cS} (a : Nat) (hk : u.kd a = 1) {Q : Option Value → cS → Prop} (hQ : Q (some (.int (u.oI a 0))) u) : cR pr (d + 1) 19 [.ref a] u Q := by
  refine gR_of mi_19 eF_rf rfl (Nat.le_of_ble_eq_true rfl) ?_
  show cB pr (d) cd_19 (Option.some Jvm.ClassFile.FieldType.int) Q 0 [some (.ref a)] [] u
  refine g_load rfl rfl rfl trivial ?_
  refine c_getf rfl (by assumption) (by decide) (by rfl) (by rfl) ?_
  refine g_vret rfl trivial ⟨rfl, rfl⟩ (Nat.le_refl _) (Nat.le_refl _) ?_
  exact hQ
set_option maxRecDepth 20000 in
theorem c_bdealer {pr : aC} {d : Nat} {u : cS} (a b : Nat) (hk : u.kd a = 1) (hb : u.oI a 0 = nI (b + 1)) (hb2 : b < 36) {Q : Option Value → cS → Prop} (hQ : Q (some (.int (nI (b % 4)))) u) : cR pr (d + 1) 20 [.ref a] u Q := by
  refine gR_of mi_20 eF_rf rfl (Nat.le_of_ble_eq_true rfl) ?_
  show cB pr (d) cd_20 (Option.some Jvm.ClassFile.FieldType.int) Q 0 [some (.ref a)] [] u
  refine g_load rfl rfl rfl trivial ?_
  refine c_getf rfl (by assumption) (by decide) (by rfl) (by rfl) ?_
  refine g_iconst (nI 1) rfl (by decide) ?_
  rw [hb]
  refine g_isub rfl ?_
  rw [pk_sub (by omega), show b + 1 - 1 = b by omega]
  refine g_iconst (nI 4) rfl (by decide) ?_
  refine g_irem rfl (by decide) ?_
  rw [pk_rem (by omega) (by omega) (by omega)]
  refine g_vret rfl trivial ⟨rfl, rfl⟩ (Nat.le_refl _) (Nat.le_refl _) ?_
  exact hQ
set_option maxRecDepth 20000 in
theorem c_vulnerability {pr : aC} {d : Nat} {u : cS} (a b : Nat) (hk : u.kd a = 1) (hb : u.oI a 0 = nI (b + 1)) (hb2 : b < 36) {Q : Option Value → cS → Prop} (hQ : Q (some (.int (nI ((b % 16 + b % 16 / 4) % 4)))) u) : cR pr (d + 1) 21 [.ref a] u Q := by
  refine gR_of mi_21 eF_rf rfl (Nat.le_of_ble_eq_true rfl) ?_
  show cB pr (d) cd_21 (Option.some Jvm.ClassFile.FieldType.int) Q 0 [some (.ref a), none] [] u
  refine g_load rfl rfl rfl trivial ?_
  refine c_getf rfl (by assumption) (by decide) (by rfl) (by rfl) ?_
  refine g_iconst (nI 1) rfl (by decide) ?_
  rw [hb]
  refine g_isub rfl ?_
  rw [pk_sub (by omega), show b + 1 - 1 = b by omega]
  refine g_bipush (nI 16) rfl (by decide) ?_
  refine g_irem rfl (by decide) ?_
  rw [pk_rem (by omega) (by omega) (by omega)]
  refine g_store [some (.ref a), some (.int (nI (b % 16)))] rfl rfl trivial (Nat.le_of_ble_eq_true rfl) rfl ?_
  refine g_load rfl rfl rfl trivial ?_
  refine g_load rfl rfl rfl trivial ?_
  refine g_iconst (nI 4) rfl (by decide) ?_
  refine g_idiv rfl (by decide) ?_
  rw [pk_div (by omega) (by omega) (by omega)]
  refine g_iadd rfl ?_
  rw [nI_add]
  refine g_iconst (nI 4) rfl (by decide) ?_
  refine g_irem rfl (by decide) ?_
  rw [pk_rem (by omega) (by omega) (by omega)]
  refine g_vret rfl trivial ⟨rfl, rfl⟩ (Nat.le_refl _) (Nat.le_refl _) ?_
  exact hQ
theorem vul_and : ∀ v, v < 4 → ∀ s, s < 2 → ((nI v &&& (if s = 0 then nI 1 else nI 2)) = 0 ↔ ¬ (v = 3 ∨ v = s + 1)) := by decide
set_option maxRecDepth 20000 in
theorem c_isVulnerable {pr : aC} {d : Nat} {u : cS} (a b : Nat) (hk : u.kd a = 1) (hb : u.oI a 0 = nI (b + 1)) (hb2 : b < 36) (s : Nat) (hs : s < 2) {Q : Option Value → cS → Prop} (hQ : Q (some (.int (bI (vulF b s)))) u) : cR pr (d + 1 + 1) 22 [.ref a, .int (nI s)] u Q := by
  refine gR_of mi_22 eF_rf rfl (Nat.le_of_ble_eq_true rfl) ?_
  show cB pr (d + 1) cd_22 (Option.some Jvm.ClassFile.FieldType.boolean) Q 0 [some (.ref a), some (.int (nI s))] [] u
  refine g_load rfl rfl rfl trivial ?_
  refine g_virtI (a := a) (ci := 2) (n := 0) [] eF_tr rfl rfl (by decide) rfl (c_ob (by assumption) (by decide) (by rfl)) rfl (Nat.le_of_ble_eq_true rfl) (Nat.le_refl _) (Nat.le_refl _) (c_vulnerability a b hk hb hb2 ⟨_, rfl, ?_⟩)
  refine g_load rfl rfl rfl trivial ?_
  have K1 : ∀ e1 : Int32, e1 = (if s = 0 then nI 1 else nI 2) → cB pr (d + 1) cd_22 (Option.some Jvm.ClassFile.FieldType.boolean) Q 7 [some (.ref a), some (.int (nI s))] [.int e1, .int (nI ((b % 16 + b % 16 / 4) % 4))] u := by
    intro e1 he1
    subst he1
    refine g_iand rfl ?_
    refine g_if_eq rfl (fun c2 => ?_) (fun c2 => ?_)
    · rw [vul_and _ (by omega) s hs] at c2
      rw [show vulF b s = false from decide_eq_false c2] at hQ
      refine g_iconst (nI 0) rfl (by decide) ?_
      refine g_vret rfl trivial (by first | exact ⟨by decide, by decide⟩ | trivial) (Nat.le_refl _) (Nat.le_refl _) ?_
      exact hQ
    · rw [vul_and _ (by omega) s hs, Decidable.not_not] at c2
      rw [show vulF b s = true from decide_eq_true c2] at hQ
      refine g_iconst (nI 1) rfl (by decide) ?_
      refine g_goto rfl ?_
      refine g_vret rfl trivial (by first | exact ⟨by decide, by decide⟩ | trivial) (Nat.le_refl _) (Nat.le_refl _) ?_
      exact hQ
  refine g_if_ne rfl (fun c1 => ?_) (fun c1 => ?_)
  · have hs0 : ¬ s = 0 := by
      intro e
      subst e
      exact c1 rfl
    refine g_iconst (nI 2) rfl (by decide) ?_
    exact K1 _ (by simp [*])
  · have hs0 : s = 0 := by
      apply Nat.eq_zero_of_not_pos
      intro e
      exact nI_ne0 e (by omega) c1
    refine g_iconst (nI 1) rfl (by decide) ?_
    refine g_goto rfl ?_
    exact K1 _ (by simp [*])
set_option maxRecDepth 20000 in
theorem c_wasBegun {pr : aC} {d : Nat} {u : cS} (a : Nat) (x : Bool) (hk : u.kd a = 1) (hx : u.oI a 2 = bI x) {Q : Option Value → cS → Prop} (hQ : Q (some (.int (bI x))) u) : cR pr (d + 1) 24 [.ref a] u Q := by
  refine gR_of mi_24 eF_rf rfl (Nat.le_of_ble_eq_true rfl) ?_
  show cB pr (d) cd_24 (Option.some Jvm.ClassFile.FieldType.boolean) Q 0 [some (.ref a)] [] u
  refine g_load rfl rfl rfl trivial ?_
  refine c_getf rfl (by assumption) (by decide) (by rfl) (by rfl) ?_
  rw [hx]
  refine g_vret rfl trivial (bI_rt x) (Nat.le_refl _) (Nat.le_refl _) hQ
set_option maxRecDepth 20000 in
theorem c_resultsSoFar {pr : aC} {d : Nat} {u : cS} (a : Nat) (hk : u.kd a = 1) {Q : Option Value → cS → Prop} (hQ : Q (some (.int (u.oI a 3))) u) : cR pr (d + 1) 26 [.ref a] u Q := by
  refine gR_of mi_26 eF_rf rfl (Nat.le_of_ble_eq_true rfl) ?_
  show cB pr (d) cd_26 (Option.some Jvm.ClassFile.FieldType.int) Q 0 [some (.ref a)] [] u
  refine g_load rfl rfl rfl trivial ?_
  refine c_getf rfl (by assumption) (by decide) (by rfl) (by rfl) ?_
  refine g_vret rfl trivial ⟨rfl, rfl⟩ (Nat.le_refl _) (Nat.le_refl _) ?_
  exact hQ
set_option maxRecDepth 20000 in
theorem w_markBegun {pr : aC} {d : Nat} {u : cS} (a : Nat) (hk : u.kd a = 1) {Q : Option Value → cS → Prop} (hQ : Q none (upO u a 2 1)) : wR pr (d + 1) 23 [.ref a] u Q := by
  refine gR_of mi_23 cFr_rf rfl (Nat.le_of_ble_eq_true rfl) ?_
  show wB pr (d) cd_23 none Q 0 [some (.ref a)] [] u
  refine g_load rfl rfl rfl trivial ?_
  refine g_iconst (nI 1) rfl (by decide) ?_
  refine c_puti rfl (by assumption) (by decide) (by rfl) (Nat.le_of_ble_eq_true rfl) ⟨_, _, rfl, rfl, rfl, rfl⟩ (by simp [cCell, upO, u2, cS.kd, cS.oI, cS.rI, cS.rL, cS.rR, cS.tp]) ?_
  refine g_ret rfl rfl (Nat.le_refl _) (Nat.le_refl _) ?_
  exact hQ
set_option maxRecDepth 20000 in
theorem w_addResult {pr : aC} {d : Nat} {u : cS} (a : Nat) (hk : u.kd a = 1) {Q : Option Value → cS → Prop} (hQ : Q none (upO u a 3 (u.oI a 3 + nI 1))) : wR pr (d + 1) 25 [.ref a] u Q := by
  refine gR_of mi_25 cFr_rf rfl (Nat.le_of_ble_eq_true rfl) ?_
  show wB pr (d) cd_25 none Q 0 [some (.ref a)] [] u
  refine g_load rfl rfl rfl trivial ?_
  refine g_dup rfl rfl ?_
  refine c_getf rfl (by assumption) (by decide) (by rfl) (by rfl) ?_
  refine g_iconst (nI 1) rfl (by decide) ?_
  refine g_iadd rfl ?_
  refine c_puti rfl (by assumption) (by decide) (by rfl) (Nat.le_of_ble_eq_true rfl) ⟨_, _, rfl, rfl, rfl, rfl⟩ (by simp [cCell, upO, u2, cS.kd, cS.oI, cS.rI, cS.rL, cS.rR, cS.tp]) ?_
  refine g_ret rfl rfl (Nat.le_refl _) (Nat.le_refl _) ?_
  exact hQ
/-- a card is taken out of the seats below i -/
def gvL (L : Nat → Int64) (c i : Nat) : Nat → Int64 := fun s => if s < i then L s &&& (bt1 c ^^^ (-1)) else L s
set_option maxRecDepth 20000 in
theorem w_give_l {pr : aC} {d : Nat} {u0 : cS} (a : Nat) (hk : u0.kd a = 1) (hk1 : u0.kd (a + 1) = 2) (s c : Nat) {Q : Option Value → cS → Prop} (hQ : ∀ u, u.kd = u0.kd → u.oI = u0.oI → u.rI = u0.rI → (u.rR = u0.rR ∧ u.tp = u0.tp) → (∀ b, b ≠ a + 1 → u.rL b = u0.rL b) → u.rL (a + 1) = gvL (u0.rL (a + 1)) c 4 → wB pr (d + 1) cd_16 none Q 28 [some (.ref a), some (.int (nI s)), some (.int (nI c)), some (.int (nI 4))] [] u) : ∀ (zz : Nat) (i : Nat) (u : cS) (q1 : u.kd = u0.kd) (q2 : u.oI = u0.oI) (q3 : u.rI = u0.rI) (q4 : u.rR = u0.rR ∧ u.tp = u0.tp) (q5 : ∀ b, b ≠ a + 1 → u.rL b = u0.rL b) (q6 : u.rL (a + 1) = gvL (u0.rL (a + 1)) c i) (hm : 4 - i < zz) (hle : i ≤ 4), wB pr (d + 1) cd_16 none Q 10 [some (.ref a), some (.int (nI s)), some (.int (nI c)), some (.int (nI i))] [] u := by
  intro zz
  induction zz with
  | zero => intro i u q1 q2 q3 q4 q5 q6 hm hle; exact absurd hm (by omega)
  | succ zz ih =>
    intro i u q1 q2 q3 q4 q5 q6 hm hle
    have hkk : u.kd a = 1 := by rw [q1]; exact hk
    have hkk1 : u.kd (a + 1) = 2 := by rw [q1]; exact hk1
    refine g_load rfl rfl rfl trivial ?_
    refine g_load rfl rfl rfl trivial ?_
    refine c_getf rfl (by assumption) (by decide) (by rfl) (by rfl) ?_
    refine c_len rfl (by assumption) (by decide) (by rfl) (by decide) ?_
    refine g_icmp_ge rfl (fun c1 => ?_) (fun c1 => ?_)
    · rw [nI_leI (by omega) (by omega)] at c1
      have hi4 : i = 4 := by omega
      subst hi4
      exact hQ u q1 q2 q3 q4 q5 q6
    · rw [nI_leI (by omega) (by omega)] at c1
      refine g_load rfl rfl rfl trivial ?_
      refine c_getf rfl (by assumption) (by decide) (by rfl) (by rfl) ?_
      refine g_load rfl rfl rfl trivial ?_
      refine g_dup2 rfl rfl rfl ?_
      refine c_la (i) rfl (by assumption) (by decide) (by rfl) rfl (by omega) (by decide) ?_
      refine g_load rfl rfl rfl trivial ?_
      refine g_statI [.int (nI c)] cFr_tr rfl rfl rfl (Nat.le_of_ble_eq_true rfl) (Nat.le_refl _) (Nat.le_refl _) (p_bitOf cFr_rf cFr_tr c ⟨_, rfl, ?_⟩)
      refine g_ldc2 (-1) rfl (by decide) ?_
      refine g_lxor rfl ?_
      refine g_land rfl ?_
      refine c_las i rfl (by assumption) (by decide) (by rfl) rfl (by omega) (by decide) (by rfl) ?_
      refine g_iinc (nI (i + 1)) [some (.ref a), some (.int (nI s)), some (.int (nI c)), some (.int (nI (i + 1)))] rfl rfl (nI_1 i) rfl ?_
      refine g_goto rfl ?_
      refine ih (i + 1) _ q1 q2 q3 q4 (fun b hb => ?_) ?_ (by omega) (by omega)
      · exact (u2_a u.rL _ hb).trans (q5 b hb)
      · show u2 u.rL (a + 1) i _ (a + 1) = _
        funext x
        by_cases e : x = i
        · subst e
          rw [u2_s, q6]
          unfold gvL
          rw [if_neg (by omega), if_pos (by omega)]
        · rw [u2_k u.rL _ e, q6]
          unfold gvL
          by_cases e2 : x < i
          · rw [if_pos e2, if_pos (by omega)]
          · rw [if_neg e2, if_neg (by omega)]
/-- a card is given to a seat -/
def gvS (L : Nat → Int64) (s c : Nat) : Nat → Int64 := fun x => if x = s then (gvL L c 4) s ||| bt1 c else gvL L c 4 x
/-- only the row a + 1 of longs has changed, to L -/
def onL (u v : cS) (a : Nat) (L : Nat → Int64) : Prop := v.kd = u.kd ∧ v.oI = u.oI ∧ v.rI = u.rI ∧ (v.rR = u.rR ∧ v.tp = u.tp) ∧ (∀ b, b ≠ a → v.rL b = u.rL b) ∧ v.rL a = L
set_option maxRecDepth 20000 in
theorem w_give {pr : aC} {d : Nat} {u : cS} (a : Nat) (hk : u.kd a = 1) (hk1 : u.kd (a + 1) = 2) (s c : Nat) (hs : s < 4) {Q : Option Value → cS → Prop} (hQ : ∀ v, onL u v (a + 1) (gvS (u.rL (a + 1)) s c) → Q none v) : wR pr (d + 1 + 1) 16 [.ref a, .int (nI s), .int (nI c)] u Q := by
  refine gR_of mi_16 cFr_rf rfl (Nat.le_of_ble_eq_true rfl) ?_
  show wB pr (d + 1) cd_16 none Q 0 [some (.ref a), some (.int (nI s)), some (.int (nI c)), none] [] u
  refine g_load rfl rfl rfl trivial ?_
  refine g_if_lt rfl (fun c1 => ?_) (fun c1 => ?_)
  · exact absurd c1 (nI_pos (by omega))
  · refine g_load rfl rfl rfl trivial ?_
    refine g_load rfl rfl rfl trivial ?_
    refine c_getf rfl (by assumption) (by decide) (by rfl) (by rfl) ?_
    refine c_len rfl (by assumption) (by decide) (by rfl) (by decide) ?_
    refine g_icmp_lt rfl (fun c2 => ?_) (fun c2 => ?_)
    · refine g_iconst (nI 0) rfl (by decide) ?_
      refine g_store [some (.ref a), some (.int (nI s)), some (.int (nI c)), some (.int (nI 0))] rfl rfl trivial (Nat.le_of_ble_eq_true rfl) rfl ?_
      refine w_give_l (u0 := u) a hk hk1 s c (fun v q1 q2 q3 q4 q5 q6 => ?_) 5 0 u rfl rfl rfl ⟨rfl, rfl⟩ (fun _ _ => rfl) (by funext x; unfold gvL; rw [if_neg (by omega)]) (by omega) (by omega)
      have hkk : v.kd a = 1 := by rw [q1]; exact hk
      have hkk1 : v.kd (a + 1) = 2 := by rw [q1]; exact hk1
      refine g_load rfl rfl rfl trivial ?_
      refine c_getf rfl (by assumption) (by decide) (by rfl) (by rfl) ?_
      refine g_load rfl rfl rfl trivial ?_
      refine g_dup2 rfl rfl rfl ?_
      refine c_la s rfl (by assumption) (by decide) (by rfl) rfl (by omega) (by decide) ?_
      refine g_load rfl rfl rfl trivial ?_
      refine g_statI [.int (nI c)] cFr_tr rfl rfl rfl (Nat.le_of_ble_eq_true rfl) (Nat.le_refl _) (Nat.le_refl _) (p_bitOf cFr_rf cFr_tr c ⟨_, rfl, ?_⟩)
      refine g_lor rfl ?_
      refine c_las s rfl (by assumption) (by decide) (by rfl) rfl (by omega) (by decide) (by rfl) ?_
      refine g_ret rfl rfl (Nat.le_refl _) (Nat.le_refl _) ?_
      refine hQ _ ⟨q1, q2, q3, q4, fun b hb => (u2_a v.rL _ hb).trans (q5 b hb), ?_⟩
      show u2 v.rL (a + 1) s _ (a + 1) = _
      funext x
      unfold gvS
      by_cases e : x = s
      · subst e; rw [u2_s, q6, if_pos rfl]
      · rw [u2_k v.rL _ e, q6, if_neg e]
    · rw [nI_ltI (by omega) (by omega)] at c2
      exact absurd hs c2
