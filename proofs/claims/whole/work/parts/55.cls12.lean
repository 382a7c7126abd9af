/-! ===== the class: Ending.most, leastBestCard ===== -/
/-- the ending of a table: H0 the hands, led, top, w the trick under way -/
def edP (u : cS) (T B m ld tr : Nat) (led : Option Nat) (top w : Nat) (H0 : Nat → Nat → Bool) : Prop := u.oI (T + 3) 5 = nI tr ∧ tr < 5 ∧ m < 52 ∧ 13 - m / 4 ≤ 4 ∧ w < 4 ∧ (∀ x, x < 4 → cdS (u.rL (B + 1) x)) ∧ (∀ x c, x < 4 → c < 52 → hb (hlL u T B x) c = H0 x c) ∧ gOk H0 ((ld + m % 4) % 4) (m % 4) (13 - m / 4) ∧ gDj H0 (m % 4) top ∧ ((m % 4 = 0 ∧ led = none) ∨ (0 < m % 4 ∧ (∃ q, q < 4 ∧ led = some q ∧ ledC (u.rI (T + 3 + 1)) m = nI q) ∧ hgF (u.rI (T + 3 + 1)) (u.oI (T + 3) 5) m = nI top ∧ top < 52 ∧ wiF (u.rI (T + 3 + 1)) (u.oI (T + 3) 5) m ld = nI w))
theorem gOk_congr {H H' : Nat → Nat → Bool} {s k t : Nat} (h : gOk H s k t) (he : ∀ x c, x < 4 → c < 52 → H x c = H' x c) : gOk H' s k t := by
  obtain ⟨h1, h2, h3, h4⟩ := h
  refine ⟨h1, h2, h3, fun j hj => ?_⟩
  rw [← h4 j hj]
  exact cnt_congr (fun i hi => (he _ i (by omega) hi).symm)
theorem lded.pre {u v : cS} {T B m dc ld tr : Nat} {led : Option Nat} {top w : Nat} {H0 : Nat → Nat → Bool} (h : lded u v T B m dc ld) (k1 : u.kd 21 = 14) (k2 : u.kd 22 = 2) (he : edP u T B m ld tr led top w H0) : wPre v tr (dc % 2) (52 - m) ((ld + m % 4) % 4) (m % 4) led top w (v.oI 21 5) (v.oI 21 6) (v.oI 21 7) ∧ ∀ x c, x < 4 → c < 52 → eH (v.rL 22) x c = H0 x c := by
  obtain ⟨a1, a2, a3, a4, a5, a6, a7, a8, a9⟩ := h
  obtain ⟨b1, b2, b3, b4, b5, b6, b7, b8, b9, b10⟩ := he
  have hH : ∀ x c, x < 4 → c < 52 → eH (v.rL 22) x c = H0 x c := fun x c hx hc => by
    unfold eH; rw [a2 x hx]; exact b7 x c hx hc
  have hcd : ∀ x, x < 4 → cdS (v.rL 22 x) := fun x hx k hk => by
    rw [a2 x hx]; unfold hlL; rw [hb_and, b6 x hx k hk]; rfl
  have hlt : ∀ x c, x < 4 → eH (v.rL 22) x c = true → c < 52 := fun x c hx hc => by
    apply Nat.lt_of_not_le
    intro z
    have := hcd x hx c z
    unfold eH at hc
    rw [this] at hc; cases hc
  have t1 : 1 ≤ 13 - m / 4 ∧ 52 - m + m % 4 = 4 * (13 - m / 4) := by clear b10 b9 b8 b7; omega
  refine ⟨⟨a1.kk k1, a1.kk k2, a3.trans b1, b2, a4, Nat.mod_lt _ (by omega), Nat.mod_lt _ (by omega), Nat.mod_lt _ (by omega), b5, hcd, ⟨fun x y c hx hy z1 z2 => ?_, fun hk x hx => ?_⟩, ?_, ?_⟩, hH⟩
  · have hc := hlt x c hx z1
    rw [hH x c hx hc] at z1
    rw [hH y c hy hc] at z2
    exact b9.1 x y c hx hy z1 z2
  · cases q : eH (v.rL 22) x top
    · rfl
    · have hc := hlt x top hx q
      rw [hH x top hx hc, b9.2 hk x hx] at q; cases q
  · rw [a7, a8, a9]
    rcases b10 with ⟨c1, c2⟩ | ⟨c1, c2, c3, c4, c5⟩
    · exact Or.inl ⟨c1, c2, ledC_n c1, if_pos c1⟩
    · exact Or.inr ⟨c1, c2, c3, c4, c5⟩
  · exact Or.inr ⟨13 - m / 4, t1.1, b4, t1.2, gOk_congr b8 (fun x c hx hc => (hH x c hx hc).symm)⟩
theorem gw_iff {tr sd n need : Nat} {H H' : Nat → Nat → Bool} {s k : Nat} {led : Option Nat} {top w : Nat} (hs : s < 4) (hw : w < 4) (he : ∀ x c, x < 4 → c < 52 → H x c = H' x c) : gw tr sd n need H s k led top w ↔ gw tr sd n need H' s k led top w :=
  ⟨gw_congr tr sd n need H H' s k led top w hs hw he, gw_congr tr sd n need H' H s k led top w hs hw (fun x c hx hc => (he x c hx hc).symm)⟩
theorem gVal_ex {tr sd n t : Nat} {H : Nat → Nat → Bool} {s k : Nat} {led : Option Nat} {top w : Nat} (hn : n + k = 4 * t) (hok : gOk H s k t) (hw : w < 4) : ∃ r, r ≤ t ∧ gVal tr sd n H s k led top w r := by
  have key : ∀ m, (∀ need, gw tr sd n need H s k led top w → need ≤ m) → ∃ r, r ≤ m ∧ gVal tr sd n H s k led top w r := by
    intro m
    induction m with
    | zero => exact fun h => ⟨0, Nat.le_refl 0, fun need => ⟨h need, fun z => by rw [Nat.le_zero.mp z]; exact gw_0 tr sd n t H s k led top w hn hok hw⟩⟩
    | succ m ih =>
      intro h
      by_cases e : gw tr sd n (m + 1) H s k led top w
      · exact ⟨m + 1, Nat.le_refl _, fun need => ⟨h need, fun z => gw_mono tr sd n _ _ _ _ _ _ _ _ z e⟩⟩
      · obtain ⟨r, hr, hv⟩ := ih (fun need hg => by
          have := h need hg
          apply Nat.le_of_not_lt
          intro z
          have e2 : need = m + 1 := by omega
          rw [e2] at hg
          exact e hg)
        exact ⟨r, by omega, hv⟩
  exact key t (fun need hg => gw_le tr sd n need t H s k led top w hn hok hw hg)
set_option maxRecDepth 20000 in
theorem w_most_l {pr : aC} {d : Nat} {u : cS} (T B n m dc ld : Nat) (hT : tB u T B n m) (k21 : u.kd 21 = 14) (k22 : u.kd 22 = 2) (hdc : u.oI (T + 3) 4 = nI dc) (hdc4 : dc < 4) (hl : u.rI (T + 3 + 2) (m / 4) = nI ld) (hl4 : ld < 4) (hds : ∀ x y, x < m % 4 → y < m % 4 → u.rI (T + 3 + 1) (m - m % 4 + x) = u.rI (T + 3 + 1) (m - m % 4 + y) → x = y) (tr : Nat) (led : Option Nat) (top w : Nat) (H0 : Nat → Nat → Bool) (hE : edP u T B m ld tr led top w H0) (r0 : Nat) (hr0 : r0 ≤ 13 - m / 4) (hv : gVal tr (dc % 2) (52 - m) H0 ((ld + m % 4) % 4) (m % 4) led top w r0) {v : cS} (hL : lded u v T B m dc ld) {Q : Option Value → cS → Prop} (hQ : Q (some (.int (nI r0))) v) : ∀ (zz : Nat) (x : Nat) (hx0 : r0 ≤ x) (hx : x ≤ 13 - m / 4) (hm : x < zz), wB pr (d + 33) cd_36 (Option.some Jvm.ClassFile.FieldType.int) Q 6 [some (.ref 21), some (.ref T), some (.int (nI x))] [] v := by
  intro zz
  induction zz with
  | zero => intro x hx0 hx hm; exact absurd hm (by omega)
  | succ zz ih =>
    intro x hx0 hx hm
    have hE0 := hE
    obtain ⟨b1, b2, b3, b4, b5, b6, b7, b8, b9, b10⟩ := hE
    obtain ⟨hW, hH⟩ := hL.pre k21 k22 hE0
    have hI : wIH pr (d + 33) (52 - m) := by
      have h := w_wins (pr := pr) (d + 32 - 2 * (52 - m)) (52 - m)
      rw [show d + 32 - 2 * (52 - m) + 2 * (52 - m) + 1 = d + 33 by omega] at h
      exact h
    refine g_load rfl rfl rfl trivial ?_
    refine g_if_le rfl (fun c1 => ?_) (fun c1 => ?_)
    · have e : x = 0 := by
        apply Nat.eq_zero_of_not_pos
        intro z
        exact nI_nle z (by omega) c1
      have e2 : r0 = 0 := by omega
      subst e; subst e2
      refine g_load rfl rfl rfl trivial ?_
      refine g_vret rfl trivial ⟨rfl, rfl⟩ (Nat.le_refl _) (Nat.le_refl _) ?_
      exact hQ
    · refine g_load rfl rfl rfl trivial ?_
      refine g_load rfl rfl rfl trivial ?_
      refine c_getf rfl (κ := 14) (by exact (hL.1.kk k21)) (by decide) (by rfl) (by rfl) ?_
      rw [hL.2.2.2.2.2.1]
      refine g_load rfl rfl rfl trivial ?_
      refine c_getf rfl (κ := 14) (by exact (hL.1.kk k21)) (by decide) (by rfl) (by rfl) ?_
      refine g_load rfl rfl rfl trivial ?_
      refine c_getf rfl (κ := 14) (by exact (hL.1.kk k21)) (by decide) (by rfl) (by rfl) ?_
      refine g_load rfl rfl rfl trivial ?_
      refine c_getf rfl (κ := 14) (by exact (hL.1.kk k21)) (by decide) (by rfl) (by rfl) ?_
      refine g_load rfl rfl rfl trivial ?_
      refine g_load rfl rfl rfl trivial ?_
      refine c_getf rfl (κ := 14) (by exact (hL.1.kk k21)) (by decide) (by rfl) (by rfl) ?_
      rw [hL.2.2.2.2.1]
      refine g_virtI (a := 21) (ci := 3) (n := 6) [.int (nI ((ld + m % 4) % 4)), .int (v.oI 21 5), .int (v.oI 21 6), .int (v.oI 21 7), .int (nI x), .int (nI (52 - m))] cFr_tr rfl rfl (by decide) rfl (c_ob (κ := 14) (hL.1.kk k21) (by decide) (by rfl)) rfl (Nat.le_of_ble_eq_true rfl) (Nat.le_refl _) (Nat.le_refl _) (hI v tr (dc % 2) _ (m % 4) led top w x _ _ _ _ hW (by omega) (Or.inl rfl) _ (fun b hb => ⟨_, rfl, ?_⟩))
      have hb := (hb.trans (gw_iff (Nat.mod_lt _ (by omega)) b5 hH)).trans (hv x)
      refine g_if_eq rfl (fun c2 => ?_) (fun c2 => ?_)
      · rw [bI_eq] at c2
        have hxr : ¬ x ≤ r0 := fun z => by rw [hb.mpr z] at c2; cases c2
        refine g_iinc (nI (x - 1)) [some (.ref 21), some (.ref T), some (.int (nI (x - 1)))] rfl rfl (by show nI x + (-1) = _; cases x with
    | zero => omega
    | succ y => exact pk_m1 y) rfl ?_
        refine g_goto rfl ?_
        exact ih (x - 1) (by omega) (by omega) (by omega)
      · rw [bI_ne] at c2
        have hxr := hb.mp c2
        have e : x = r0 := by omega
        subst e
        refine g_goto rfl ?_
        refine g_load rfl rfl rfl trivial ?_
        refine g_vret rfl trivial ⟨rfl, rfl⟩ (Nat.le_refl _) (Nat.le_refl _) ?_
        exact hQ
set_option maxRecDepth 20000 in
theorem w_most {pr : aC} {d : Nat} {u : cS} (T B n m dc ld : Nat) (hT : tB u T B n m) (k21 : u.kd 21 = 14) (k22 : u.kd 22 = 2) (hdc : u.oI (T + 3) 4 = nI dc) (hdc4 : dc < 4) (hl : u.rI (T + 3 + 2) (m / 4) = nI ld) (hl4 : ld < 4) (hds : ∀ x y, x < m % 4 → y < m % 4 → u.rI (T + 3 + 1) (m - m % 4 + x) = u.rI (T + 3 + 1) (m - m % 4 + y) → x = y) (tr : Nat) (led : Option Nat) (top w : Nat) (H0 : Nat → Nat → Bool) (hE : edP u T B m ld tr led top w H0) (r0 : Nat) (hr0 : r0 ≤ 13 - m / 4) (hv : gVal tr (dc % 2) (52 - m) H0 ((ld + m % 4) % 4) (m % 4) led top w r0) {Q : Option Value → cS → Prop} (hQ : ∀ v, lded u v T B m dc ld → Q (some (.int (nI r0))) v) : wR pr (d + 33 + 1) 36 [.ref 21, .ref T] u Q := by
  refine gR_of mi_36 cFr_rf rfl (Nat.le_of_ble_eq_true rfl) ?_
  show wB pr (d + 33) cd_36 (Option.some Jvm.ClassFile.FieldType.int) Q 0 [some (.ref 21), some (.ref T), none] [] u
  have k0 := hT.1
  refine g_load rfl rfl rfl trivial ?_
  refine g_load rfl rfl rfl trivial ?_
  refine g_virtV (a := 21) (ci := 3) (n := 1) [.ref T] cFr_tr rfl rfl (by decide) rfl (c_ob (κ := 14) k21 (by decide) (by rfl)) rfl (Nat.le_of_ble_eq_true rfl) (Nat.le_refl _) (Nat.le_refl _) (w_load (d := d + 29) T B n m dc ld hT k21 k22 hdc hdc4 hl hl4 hds (fun v hL => ⟨rfl, ?_⟩))
  have hTv := hL.1.tB k21 hT
  refine g_load rfl rfl rfl trivial ?_
  refine g_virtI (a := T) (ci := 6) (n := 0) [] cFr_tr rfl rfl (by decide) rfl (c_ob (κ := 3) (hL.1.kk k0) (by decide) (by rfl)) rfl (Nat.le_of_ble_eq_true rfl) (Nat.le_refl _) (Nat.le_refl _) (c_lift cFr_rf (fun _ h => h) (c_tricksLeft T B n m hTv ⟨_, rfl, ?_⟩))
  refine g_store [some (.ref 21), some (.ref T), some (.int (nI (13 - m / 4)))] rfl rfl trivial (Nat.le_of_ble_eq_true rfl) rfl ?_
  exact w_most_l T B n m dc ld hT k21 k22 hdc hdc4 hl hl4 hds tr led top w H0 hE r0 hr0 hv hL (hQ v hL) 14 (13 - m / 4) hr0 (Nat.le_refl _) (by omega)
/-- the least card that is worth what the place is worth -/
def lbP (tr sd n r0 : Nat) (H0 : Nat → Nat → Bool) (s k : Nat) (led : Option Nat) (top w c : Nat) : Prop := gLg H0 s led c ∧ (if s % 2 = sd then gCh tr sd n r0 H0 s k led top w c else ¬ gCh tr sd n (r0 + 1) H0 s k led top w c)
theorem gCh_iff {tr sd n need : Nat} {H H' : Nat → Nat → Bool} {s k : Nat} {led : Option Nat} {top w c : Nat} (hs : s < 4) (hw : w < 4) (he : ∀ x c, x < 4 → c < 52 → H x c = H' x c) : gCh tr sd n need H s k led top w c ↔ gCh tr sd n need H' s k led top w c := by
  have hr : ∀ x c', x < 4 → c' < 52 → gRm H s c x c' = gRm H' s c x c' := fun x c' h1 h2 => by unfold gRm; rw [he x c' h1 h2]
  have hlt : (if gTk k c top tr then s else w) < 4 := by split <;> omega
  unfold gCh
  by_cases q : k = 3
  · rw [if_pos q, if_pos q]
    exact gw_iff hlt (by omega) hr
  · rw [if_neg q, if_neg q]
    exact gw_iff (Nat.mod_lt _ (by omega)) hlt hr
theorem gLg_iff {H H' : Nat → Nat → Bool} {s : Nat} {led : Option Nat} {c : Nat} (hs : s < 4) (he : ∀ x c, x < 4 → c < 52 → H x c = H' x c) : gLg H s led c ↔ gLg H' s led c := by
  unfold gLg
  constructor
  · rintro ⟨a, b, d⟩
    refine ⟨a, by rw [← he s c hs a]; exact b, fun q hq => (d q hq).imp id (fun z c' h1 h2 => z c' h1 (by rw [he s c' hs h1]; exact h2))⟩
  · rintro ⟨a, b, d⟩
    refine ⟨a, by rw [he s c hs a]; exact b, fun q hq => (d q hq).imp id (fun z c' h1 h2 => z c' h1 (by rw [← he s c' hs h1]; exact h2))⟩
set_option maxRecDepth 20000 in
theorem w_lbc_l {pr : aC} {d : Nat} {u : cS} (T B n m dc ld : Nat) (hT : tB u T B n m) (k21 : u.kd 21 = 14) (k22 : u.kd 22 = 2) (hdc : u.oI (T + 3) 4 = nI dc) (hdc4 : dc < 4) (hl : u.rI (T + 3 + 2) (m / 4) = nI ld) (hl4 : ld < 4) (hds : ∀ x y, x < m % 4 → y < m % 4 → u.rI (T + 3 + 1) (m - m % 4 + x) = u.rI (T + 3 + 1) (m - m % 4 + y) → x = y) (tr : Nat) (led : Option Nat) (top w : Nat) (H0 : Nat → Nat → Bool) (hE : edP u T B m ld tr led top w H0) (r0 : Nat) (hr0 : r0 ≤ 13 - m / 4) (hv : gVal tr (dc % 2) (52 - m) H0 ((ld + m % 4) % 4) (m % 4) led top w r0) {v : cS} (hL : lded u v T B m dc ld) {Q : Option Value → cS → Prop} (hQ : ∀ o, bcO (lbP tr (dc % 2) (52 - m - 1) r0 H0 ((ld + m % 4) % 4) (m % 4) led top w) o → Q (some (.int o)) v) : ∀ (zz : Nat) (x : Nat) (l7 : Option Value) (hno : ∀ c, c < x → ¬ lbP tr (dc % 2) (52 - m - 1) r0 H0 ((ld + m % 4) % 4) (m % 4) led top w c) (hx : x ≤ 52) (hm : 52 - x < zz), wB pr (d + 34) cd_37 (Option.some Jvm.ClassFile.FieldType.int) Q 20 [some (.ref 21), some (.ref T), some (.int (nI r0)), some (.int (bI (decide ((ld + m % 4) % 4 % 2 = dc % 2)))), some (.long (chT (u.rL (B + 1)) (u.rL (T + 3) 0) (u.rI (T + 3 + 1)) m ((ld + m % 4) % 4))), none, some (.int (nI x)), l7] [] v := by
  intro zz
  induction zz with
  | zero => intro x l7 hno hx hm; exact absurd hm (by omega)
  | succ zz ih =>
    intro x l7 hno hx hm
    have hE0 := hE
    obtain ⟨b1, b2, b3, b4, b5, b6, b7, b8, b9, b10⟩ := hE
    obtain ⟨hW, hH⟩ := hL.pre k21 k22 hE0
    have hW0 := hW
    obtain ⟨p1, p2, p3, p4, p5, p6, p7, p8, p9, p10, p11, p12, p13⟩ := hW0
    have hn1 : 52 - m = (52 - m - 1) + 1 := by omega
    have hI : wIH pr (d + 33) (52 - m - 1) := by
      have h := w_wins (pr := pr) (d + 32 - 2 * (52 - m - 1)) (52 - m - 1)
      rw [show d + 32 - 2 * (52 - m - 1) + 2 * (52 - m - 1) + 1 = d + 33 by omega] at h
      exact h
    have hl' : (led = none ∧ v.oI 21 5 = -1) ∨ ∃ q, q < 4 ∧ led = some q ∧ v.oI 21 5 = nI q := by
      rcases p12 with ⟨_, q1, q2, _⟩ | ⟨_, q, _⟩
      · exact Or.inl ⟨q1, q2⟩
      · exact Or.inr q
    have hch : ∀ c, hb (chT (u.rL (B + 1)) (u.rL (T + 3) 0) (u.rI (T + 3 + 1)) m ((ld + m % 4) % 4)) c = true ↔ gLg H0 ((ld + m % 4) % 4) led c := by
      intro c
      rw [← gLg_iff p7 hH, ← lg_W (H := eH (v.rL 22)) (p10 _ p7) (fun _ => rfl) hl', hL.2.1 _ p7, hL.2.2.2.2.2.2.1]
      exact Iff.rfl
    refine g_load rfl rfl rfl trivial ?_
    refine g_bipush (nI 52) rfl (by decide) ?_
    refine g_icmp_ge rfl (fun c1 => ?_) (fun c1 => ?_)
    · rw [nI_leI (by omega) (by omega)] at c1
      have e : x = 52 := by omega
      subst e
      have hQ := hQ (-1) (Or.inr ⟨hno, rfl⟩)
      refine g_iconst (-1) rfl (by decide) ?_
      refine g_vret rfl trivial ⟨rfl, rfl⟩ (Nat.le_refl _) (Nat.le_refl _) ?_
      exact hQ
    · rw [nI_leI (by omega) (by omega)] at c1
      refine g_load rfl rfl rfl trivial ?_
      refine g_load rfl rfl rfl trivial ?_
      refine g_statI [.long (chT (u.rL (B + 1)) (u.rL (T + 3) 0) (u.rI (T + 3 + 1)) m ((ld + m % 4) % 4)), .int (nI x)] cFr_tr rfl rfl rfl (Nat.le_of_ble_eq_true rfl) (Nat.le_refl _) (Nat.le_refl _) (p_has cFr_rf cFr_tr (chT (u.rL (B + 1)) (u.rL (T + 3) 0) (u.rI (T + 3 + 1)) m ((ld + m % 4) % 4)) x (by omega) ⟨_, rfl, ?_⟩)
      refine g_if_ne rfl (fun c2 => ?_) (fun c2 => ?_)
      · rw [bI_ne, hch] at c2
        have hlg := c2
        have hlg' := (gLg_iff p7 hH).mpr hlg
        refine g_load rfl rfl rfl trivial ?_
        have K3 : ∀ e3 : Int32, e3 = nI (if (decide ((ld + m % 4) % 4 % 2 = dc % 2)) then r0 else r0 + 1) → wB pr (d + 34) cd_37 (Option.some Jvm.ClassFile.FieldType.int) Q 35 [some (.ref 21), some (.ref T), some (.int (nI r0)), some (.int (bI (decide ((ld + m % 4) % 4 % 2 = dc % 2)))), some (.long (chT (u.rL (B + 1)) (u.rL (T + 3) 0) (u.rI (T + 3 + 1)) m ((ld + m % 4) % 4))), none, some (.int (nI x)), l7] [.int e3] v := by
          intro e3 he3
          subst he3
          refine g_store [some (.ref 21), some (.ref T), some (.int (nI r0)), some (.int (bI (decide ((ld + m % 4) % 4 % 2 = dc % 2)))), some (.long (chT (u.rL (B + 1)) (u.rL (T + 3) 0) (u.rI (T + 3 + 1)) m ((ld + m % 4) % 4))), none, some (.int (nI x)), some (.int (nI (if (decide ((ld + m % 4) % 4 % 2 = dc % 2)) then r0 else r0 + 1)))] rfl rfl trivial (Nat.le_of_ble_eq_true rfl) rfl ?_
          refine g_load rfl rfl rfl trivial ?_
          refine g_load rfl rfl rfl trivial ?_
          refine g_load rfl rfl rfl trivial ?_
          refine c_getf rfl (κ := 14) (by exact (hL.1.kk k21)) (by decide) (by rfl) (by rfl) ?_
          rw [hL.2.2.2.2.2.1]
          refine g_load rfl rfl rfl trivial ?_
          refine c_getf rfl (κ := 14) (by exact (hL.1.kk k21)) (by decide) (by rfl) (by rfl) ?_
          refine g_load rfl rfl rfl trivial ?_
          refine c_getf rfl (κ := 14) (by exact (hL.1.kk k21)) (by decide) (by rfl) (by rfl) ?_
          refine g_load rfl rfl rfl trivial ?_
          refine c_getf rfl (κ := 14) (by exact (hL.1.kk k21)) (by decide) (by rfl) (by rfl) ?_
          refine g_load rfl rfl rfl trivial ?_
          refine g_load rfl rfl rfl trivial ?_
          refine c_getf rfl (κ := 14) (by exact (hL.1.kk k21)) (by decide) (by rfl) (by rfl) ?_
          rw [hL.2.2.2.2.1, hn1]
          refine g_virtI (a := 21) (ci := 3) (n := 7) [.int (nI x), .int (nI ((ld + m % 4) % 4)), .int (v.oI 21 5), .int (v.oI 21 6), .int (v.oI 21 7), .int (nI (if (decide ((ld + m % 4) % 4 % 2 = dc % 2)) then r0 else r0 + 1)), .int (nI (52 - m - 1 + 1))] cFr_tr rfl rfl (by decide) rfl (c_ob (κ := 14) (hL.1.kk k21) (by decide) (by rfl)) rfl (Nat.le_of_ble_eq_true rfl) (Nat.le_refl _) (Nat.le_refl _) (w_winsWith tr (dc % 2) (52 - m - 1) _ (m % 4) led top w _ x _ _ _ (by rw [← hn1]; exact hW) (by split <;> omega) hlg' hI (fun b hb => ⟨_, rfl, ?_⟩))
          have hb := hb.trans (gCh_iff p7 p9 hH)
          refine g_load rfl rfl rfl trivial ?_
          refine g_icmp_ne rfl (fun c4 => ?_) (fun c4 => ?_)
          · have hnl : ¬ lbP tr (dc % 2) (52 - m - 1) r0 H0 ((ld + m % 4) % 4) (m % 4) led top w x := by
              rintro ⟨_, z⟩
              by_cases q : (ld + m % 4) % 4 % 2 = dc % 2
              · rw [if_pos q] at z
                rw [if_pos (decide_eq_true q)] at hb
                rw [hb.mpr z, decide_eq_true q] at c4
                exact c4 rfl
              · rw [if_neg q] at z
                rw [if_neg (by rw [decide_eq_true_eq]; exact q)] at hb
                have hbf : b = false := by
                  cases e : b
                  · rfl
                  · exact absurd (hb.mp e) z
                rw [hbf, decide_eq_false q] at c4
                exact c4 rfl
            refine g_iinc (nI (x + 1)) [some (.ref 21), some (.ref T), some (.int (nI r0)), some (.int (bI (decide ((ld + m % 4) % 4 % 2 = dc % 2)))), some (.long (chT (u.rL (B + 1)) (u.rL (T + 3) 0) (u.rI (T + 3 + 1)) m ((ld + m % 4) % 4))), none, some (.int (nI (x + 1))), some (.int (nI (if (decide ((ld + m % 4) % 4 % 2 = dc % 2)) then r0 else r0 + 1)))] rfl rfl (nI_1 x) rfl ?_
            refine g_goto rfl ?_
            refine ih (x + 1) _ (fun c hc => ?_) (by omega) (by omega)
            by_cases e : c = x
            · subst e; exact hnl
            · exact hno c (by omega)
          · have hyes : lbP tr (dc % 2) (52 - m - 1) r0 H0 ((ld + m % 4) % 4) (m % 4) led top w x := by
              refine ⟨hlg, ?_⟩
              by_cases q : (ld + m % 4) % 4 % 2 = dc % 2
              · rw [if_pos q]
                rw [if_pos (decide_eq_true q)] at hb
                rw [decide_eq_true q] at c4
                exact hb.mp (by cases e : b; (rw [e] at c4; exact absurd c4 (by decide)); rfl)
              · rw [if_neg q]
                rw [if_neg (by rw [decide_eq_true_eq]; exact q)] at hb
                rw [decide_eq_false q] at c4
                intro z
                rw [hb.mpr z] at c4
                exact absurd c4 (by decide)
            have hQ := hQ (nI x) (Or.inl ⟨x, by omega, hyes, hno, rfl⟩)
            refine g_load rfl rfl rfl trivial ?_
            refine g_vret rfl trivial ⟨rfl, rfl⟩ (Nat.le_refl _) (Nat.le_refl _) ?_
            exact hQ
        refine g_if_eq rfl (fun c3 => ?_) (fun c3 => ?_)
        · rw [bI_eq] at c3
          have hce := c3
          refine g_load rfl rfl rfl trivial ?_
          refine g_iconst (nI 1) rfl (by decide) ?_
          refine g_iadd rfl ?_
          exact K3 _ (by rw [hce]; first | rfl | exact nI_add r0 1)
        · rw [bI_ne] at c3
          have hce := c3
          refine g_load rfl rfl rfl trivial ?_
          refine g_goto rfl ?_
          exact K3 _ (by rw [hce]; first | rfl | exact nI_add r0 1)
      · rw [bI_eq] at c2
        have hnl : ¬ lbP tr (dc % 2) (52 - m - 1) r0 H0 ((ld + m % 4) % 4) (m % 4) led top w x := fun z => by
          have := (hch x).mpr z.1
          rw [c2] at this; cases this
        refine g_goto rfl ?_
        refine g_iinc (nI (x + 1)) [some (.ref 21), some (.ref T), some (.int (nI r0)), some (.int (bI (decide ((ld + m % 4) % 4 % 2 = dc % 2)))), some (.long (chT (u.rL (B + 1)) (u.rL (T + 3) 0) (u.rI (T + 3 + 1)) m ((ld + m % 4) % 4))), none, some (.int (nI (x + 1))), l7] rfl rfl (nI_1 x) rfl ?_
        refine g_goto rfl ?_
        refine ih (x + 1) _ (fun c hc => ?_) (by omega) (by omega)
        by_cases e : c = x
        · subst e; exact hnl
        · exact hno c (by omega)
set_option maxRecDepth 20000 in
theorem w_lbc {pr : aC} {d : Nat} {u : cS} (T B n m dc ld : Nat) (hT : tB u T B n m) (k21 : u.kd 21 = 14) (k22 : u.kd 22 = 2) (hdc : u.oI (T + 3) 4 = nI dc) (hdc4 : dc < 4) (hl : u.rI (T + 3 + 2) (m / 4) = nI ld) (hl4 : ld < 4) (hds : ∀ x y, x < m % 4 → y < m % 4 → u.rI (T + 3 + 1) (m - m % 4 + x) = u.rI (T + 3 + 1) (m - m % 4 + y) → x = y) (tr : Nat) (led : Option Nat) (top w : Nat) (H0 : Nat → Nat → Bool) (hE : edP u T B m ld tr led top w H0) (r0 : Nat) (hr0 : r0 ≤ 13 - m / 4) (hv : gVal tr (dc % 2) (52 - m) H0 ((ld + m % 4) % 4) (m % 4) led top w r0) (hck : cdOk (u.rI (T + 3 + 1)) m) {Q : Option Value → cS → Prop} (hQ : ∀ v o, lded u v T B m dc ld → bcO (lbP tr (dc % 2) (52 - m - 1) r0 H0 ((ld + m % 4) % 4) (m % 4) led top w) o → Q (some (.int o)) v) : wR pr (d + 34 + 1) 37 [.ref 21, .ref T] u Q := by
  refine gR_of mi_37 cFr_rf rfl (Nat.le_of_ble_eq_true rfl) ?_
  show wB pr (d + 34) cd_37 (Option.some Jvm.ClassFile.FieldType.int) Q 0 [some (.ref 21), some (.ref T), none, none, none, none, none, none] [] u
  have k0 := hT.1
  have kb1 := hT.2.2.2.2.2.2.2.1
  have k3 := hT.2.2.2.1
  refine g_load rfl rfl rfl trivial ?_
  refine g_load rfl rfl rfl trivial ?_
  refine g_virtI (a := 21) (ci := 3) (n := 1) [.ref T] cFr_tr rfl rfl (by decide) rfl (c_ob (κ := 14) k21 (by decide) (by rfl)) rfl (Nat.le_of_ble_eq_true rfl) (Nat.le_refl _) (Nat.le_refl _) (w_most T B n m dc ld hT k21 k22 hdc hdc4 hl hl4 hds tr led top w H0 hE r0 hr0 hv (fun v hL => ⟨_, rfl, ?_⟩))
  have hTv := hL.1.tB k21 hT
  have hB22 : v.rL (B + 1) = u.rL (B + 1) := hL.1.2.2.2.2.2 _ (fun e => by
    have e2 : B = 21 := by omega
    have := hT.2.2.2.2.2.2.1
    rw [e2, k21] at this; exact absurd this (by decide))
  have hT22 : v.rL (T + 3) = u.rL (T + 3) := hL.1.2.2.2.2.2 _ (fun e => by rw [e, k22] at k3; exact absurd k3 (by decide))
  refine g_store [some (.ref 21), some (.ref T), some (.int (nI r0)), none, none, none, none, none] rfl rfl trivial (Nat.le_of_ble_eq_true rfl) rfl ?_
  refine g_load rfl rfl rfl trivial ?_
  refine c_getf rfl (κ := 14) (by exact (hL.1.kk k21)) (by decide) (by rfl) (by rfl) ?_
  rw [hL.2.2.2.2.2.1]
  refine g_iconst (nI 2) rfl (by decide) ?_
  refine g_irem rfl (by decide) ?_
  rw [pk_rem (by omega) (by omega) (by omega)]
  refine g_load rfl rfl rfl trivial ?_
  refine c_getf rfl (κ := 14) (by exact (hL.1.kk k21)) (by decide) (by rfl) (by rfl) ?_
  rw [hL.2.2.2.1]
  have K1 : ∀ e1 : Int32, e1 = bI (decide ((ld + m % 4) % 4 % 2 = dc % 2)) → wB pr (d + 34) cd_37 (Option.some Jvm.ClassFile.FieldType.int) Q 14 [some (.ref 21), some (.ref T), some (.int (nI r0)), none, none, none, none, none] [.int e1] v := by
    intro e1 he1
    subst he1
    refine g_store [some (.ref 21), some (.ref T), some (.int (nI r0)), some (.int (bI (decide ((ld + m % 4) % 4 % 2 = dc % 2)))), none, none, none, none] rfl rfl trivial (Nat.le_of_ble_eq_true rfl) rfl ?_
    refine g_load rfl rfl rfl trivial ?_
    refine g_virtI (a := T) (ci := 6) (n := 0) [] cFr_tr rfl rfl (by decide) rfl (c_ob (κ := 3) (hL.1.kk k0) (by decide) (by rfl)) rfl (Nat.le_of_ble_eq_true rfl) (Nat.le_refl _) (Nat.le_refl _) (c_lift cFr_rf (fun _ h => h) (c_choices T B n m hTv ld (by rw [hL.1.2.2.1]; exact hl) hl4 (by rw [hL.1.2.2.1]; exact hck) ⟨_, rfl, ?_⟩))
    rw [hB22, hT22, hL.1.2.2.1]
    refine g_store [some (.ref 21), some (.ref T), some (.int (nI r0)), some (.int (bI (decide ((ld + m % 4) % 4 % 2 = dc % 2)))), some (.long (chT (u.rL (B + 1)) (u.rL (T + 3) 0) (u.rI (T + 3 + 1)) m ((ld + m % 4) % 4))), none, none, none] rfl rfl trivial (Nat.le_of_ble_eq_true rfl) rfl ?_
    refine g_iconst (nI 0) rfl (by decide) ?_
    refine g_store [some (.ref 21), some (.ref T), some (.int (nI r0)), some (.int (bI (decide ((ld + m % 4) % 4 % 2 = dc % 2)))), some (.long (chT (u.rL (B + 1)) (u.rL (T + 3) 0) (u.rI (T + 3 + 1)) m ((ld + m % 4) % 4))), none, some (.int (nI 0)), none] rfl rfl trivial (Nat.le_of_ble_eq_true rfl) rfl ?_
    exact w_lbc_l T B n m dc ld hT k21 k22 hdc hdc4 hl hl4 hds tr led top w H0 hE r0 hr0 hv hL (fun o ho => hQ v o hL ho) 53 0 none (fun c hc => absurd hc (by omega)) (by omega) (by omega)
  refine g_icmp_ne rfl (fun c1 => ?_) (fun c1 => ?_)
  · rw [nI_eq (by omega) (by omega)] at c1
    have hce := decide_eq_false c1
    refine g_iconst (nI 0) rfl (by decide) ?_
    exact K1 _ (by rw [hce]; rfl)
  · rw [nI_eq (by omega) (by omega)] at c1
    have hce := decide_eq_true c1
    refine g_iconst (nI 1) rfl (by decide) ?_
    refine g_goto rfl ?_
    exact K1 _ (by rw [hce]; rfl)
