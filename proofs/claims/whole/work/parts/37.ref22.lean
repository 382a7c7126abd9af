/-! ===== the reference: bestCard, claim ===== -/
/-- a card out of the places -/
def outF (f : Nat → Int32) (c x : Nat) : Nat → Int32 := fun j => if j < x ∧ f j = nI c then -1 else f j
theorem sRep_out {f : Nat → Int32} {H : Nat → Nat → Bool} {s c : Nat} (h : sRep f H) (hs : s < 4) (hc : c < 52) (hh : H s c = true) (ho : ∀ s', s' < 4 → H s' c = true → s' = s) : sRep (outF f c 16) (gRm H s c) := by
  obtain ⟨k, hk, ek⟩ := h.2.1 s c hs hc hh
  refine sRep_congr (h.rm hs hk hc ek) (fun j hj => ?_)
  unfold outF upd
  by_cases q : f j = nI c
  · have hje : j = 4 * (j / 4) + j % 4 := by omega
    have hq : f (4 * (j / 4) + j % 4) = nI c := by rw [← hje]; exact q
    have hH : H (j / 4) c = true := by
      rcases h.1 (j / 4) (j % 4) (by omega) (by omega) with z | ⟨c', z1, z2, z3⟩
      · rw [hq] at z; exact absurd z (nI_m1 (by omega))
      · rw [hq, nI_eq (by omega) (by omega)] at z2; subst z2; exact z3
    have e1 := ho _ (by omega) hH
    have e2 := h.2.2 s (j % 4) k c hs (by omega) hk hc (by rw [← e1]; exact hq) ek
    have e3 : j = 4 * s + k := by omega
    rw [if_pos ⟨hj, q⟩]
    simp [e3]
  · have e3 : ¬ j = 4 * s + k := fun e => q (by rw [e]; exact ek)
    rw [if_neg (fun z => q z.2)]
    simp [e3]
theorem hH_one {u : rS} {t m s s' c : Nat} (hs : s < 4) (hs' : s' < 4) (h : hH u t m s c = true) (h' : hH u t m s' c = true) : s' = s := by
  unfold hH hdF at h h'
  simp only [Bool.and_eq_true, decide_eq_true_eq] at h h'
  have := h.1.symm.trans h'.1
  rw [nI_eq (by omega) (by omega)] at this
  exact this.symm
theorem gVc_inj {tr sd n : Nat} {H : Nat → Nat → Bool} {s k : Nat} {led : Option Nat} {top w c r r' : Nat} (h : gVc tr sd n H s k led top w c r) (h' : gVc tr sd n H s k led top w c r') : r = r' :=
  Nat.le_antisymm ((h' r).1 ((h r).2 (Nat.le_refl r))) ((h r').1 ((h' r').2 (Nat.le_refl r')))
/-- the least card of a kind, or none -/
def bcO (P : Nat → Prop) (o : Int32) : Prop := (∃ c, c < 52 ∧ P c ∧ (∀ c', c' < c → ¬ P c') ∧ o = nI c) ∨ ((∀ c, c < 52 → ¬ P c) ∧ o = -1)
/-- the cards that hold what is due -/
def bcP (u : rS) (t b bd m tr r : Nat) (c : Nat) : Prop := mpF u t m (seatF u t b bd m) (nI c) = true ∧ gVc tr (dcN (cf u t) (bd % 4) b % 2) (4 * (13 - m / 4) - m % 4 - 1) (hH u t m) (seatF u t b bd m) (m % 4) (ledF (tkG u t m) (m % 4)) (topF (tkG u t m) tr (m % 4)) (winF (tkG u t m) tr (ldN u t b bd m) (m % 4)) c r
theorem mpF_h {u : rS} {t m s c : Nat} (h : mpF u t m s (nI c) = true) : hH u t m s c = true := by
  unfold mpF at h
  simp only [Bool.and_eq_true] at h
  exact h.2.1
theorem rSame_mp {u u' : rS} (h : rSame u u') (t m s : Nat) (c : Int32) : mpF u' t m s c = mpF u t m s c := by
  have e : ∀ s c, hdF u' t m s c = hdF u t m s c := rSame_hd h t m
  unfold mpF
  simp only [e, rSame_gf h]
theorem rSame.sy {u u' : rS} (h : rSame u u') : rSame u' u := ⟨h.1.symm, h.2.1.symm, h.2.2.1.symm, fun a ha => (h.2.2.2 a ha).symm⟩
theorem rSame_seat {u u' : rS} (h : rSame u u') (t b bd m : Nat) : seatF u' t b bd m = seatF u t b bd m := by
  unfold seatF; rw [rSame_cf h, rSame_gf h]
theorem rSame_hH {u u' : rS} (h : rSame u u') (t m : Nat) : hH u' t m = hH u t m := by
  funext s c; exact rSame_hd h t m _ _
theorem rSame_ldN {u u' : rS} (h : rSame u u') (t b bd m : Nat) : ldN u' t b bd m = ldN u t b bd m := by
  unfold ldN; rw [rSame_cf h, rSame_gf h]
theorem rSame_tkG {u u' : rS} (h : rSame u u') (t m : Nat) : tkG u' t m = tkG u t m := by
  unfold tkG; rw [rSame_gf h]
set_option maxRecDepth 20000 in
theorem r_bc_i {pr : aC} {d : Nat} {u0 : rS} (t r c T mn : Nat) {Q : Option Value → rS → Prop} (hQ : ∀ v, v.1 = u0.1 → (∀ a, a ≠ 48 → v.2 a = u0.2 a) → v.2 48 = outF (u0.2 48) c 16 → rB pr (d + 41) cd_208 (some .int) Q 50 [some (.ref 25), some (.int (nI t)), some (.int (nI r)), some (.int (nI c)), some (.int (nI T)), some (.int (nI mn)), some (.int (nI 16))] [] v) : ∀ (zz : Nat) (x : Nat) (u : rS) (h1 : u.1 = u0.1) (h2 : ∀ a, a ≠ 48 → u.2 a = u0.2 a) (h3 : u.2 48 = outF (u0.2 48) c x) (hm : 16 - x < zz) (hx : x ≤ 16), rB pr (d + 41) cd_208 (Option.some Jvm.ClassFile.FieldType.int) Q 34 [some (.ref 25), some (.int (nI t)), some (.int (nI r)), some (.int (nI c)), some (.int (nI T)), some (.int (nI mn)), some (.int (nI x))] [] u := by
  intro zz
  induction zz with
  | zero => intro x u h1 h2 h3 hm hx; exact absurd hm (by omega)
  | succ zz ih =>
    intro x u h1 h2 h3 hm hx
    refine g_load rfl rfl rfl trivial ?_
    refine g_bipush (nI 16) rfl (by decide) ?_
    refine g_icmp_ge rfl (fun c1 => ?_) (fun c1 => ?_)
    · rw [nI_leI (by omega) (by omega)] at c1
      have hx16 : x = 16 := by omega
      subst hx16
      exact hQ u h1 h2 h3
    · rw [nI_leI (by omega) (by omega)] at c1
      refine g_load rfl rfl rfl trivial ?_
      refine r_getf rfl rfl ?_
      refine g_load rfl rfl rfl trivial ?_
      refine r_ia (x) rfl ⟨by decide, by decide, rfl⟩ rfl (by show _ < 16; omega) ?_
      refine g_load rfl rfl rfl trivial ?_
      refine g_icmp_ne rfl (fun c2 => ?_) (fun c2 => ?_)
      · have hv1 := h1
        have hv2 := h2
        have hv3 : u.2 48 = outF (u0.2 48) c (x + 1) := by
          rw [h3] at c2 ⊢
          funext j
          unfold outF at c2 ⊢
          by_cases q : j = x
          · subst q
            rw [if_neg (by omega)] at c2
            rw [if_neg (by omega), if_neg (fun z => c2 z.2)]
          · by_cases q2 : j < x
            · simp [q2, show j < x + 1 by omega]
            · simp [q2, show ¬ j < x + 1 by omega]
        refine g_iinc (nI (x + 1)) [some (.ref 25), some (.int (nI t)), some (.int (nI r)), some (.int (nI c)), some (.int (nI T)), some (.int (nI mn)), some (.int (nI (x + 1)))] rfl rfl (nI_1 x) rfl ?_
        refine g_goto rfl ?_
        exact ih (x + 1) _ hv1 hv2 hv3 (by omega) (by omega)
      · refine g_load rfl rfl rfl trivial ?_
        refine r_getf rfl rfl ?_
        refine g_load rfl rfl rfl trivial ?_
        refine g_iconst (-1) rfl (by decide) ?_
        refine r_iasv (x) rfl ⟨by decide, by decide, rfl⟩ rfl (by show _ < 16; omega) (fun v a1 b1 c1' d1 => ?_)
        have hv1 : v.1 = u0.1 := a1.trans h1
        have hv2 : ∀ a, a ≠ 48 → v.2 a = u0.2 a := fun a ha => (b1 a ha).trans (h2 a ha)
        have hv3 : v.2 48 = outF (u0.2 48) c (x + 1) := by
          have c2' := c2
          rw [h3] at c2'
          funext j
          by_cases q : j = x
          · subst q
            rw [c1']
            unfold outF at c2' ⊢
            rw [if_neg (by omega)] at c2'
            rw [if_pos ⟨by omega, c2'⟩]
          · rw [d1 j q, h3]
            unfold outF
            by_cases q2 : j < x
            · simp [q2, show j < x + 1 by omega]
            · simp [q2, show ¬ j < x + 1 by omega]
        refine g_iinc (nI (x + 1)) [some (.ref 25), some (.int (nI t)), some (.int (nI r)), some (.int (nI c)), some (.int (nI T)), some (.int (nI mn)), some (.int (nI (x + 1)))] rfl rfl (nI_1 x) rfl ?_
        refine g_goto rfl ?_
        exact ih (x + 1) _ hv1 hv2 hv3 (by omega) (by omega)
set_option maxRecDepth 20000 in
theorem r_bc_c {pr : aC} {d : Nat} {u0 : rS} (t n b bd m : Nat) (ht : t < 10) (hc : u0.2 31 t = nI n) (hn : n ≤ 340) (hb : last ge3 (cf u0 t) n = some b) (hbd : u0.2 29 t = nI (bd + 1)) (hbd2 : bd < 36) (hm0 : u0.2 32 t = nI m) (hm52 : m ≤ 52) (nb tr : Nat) (h0 : u0.1 0 = nI nb) (hnb : nb ≤ 36) (hck : cdOk (gf u0 t) m) (hm1 : m < 52) (htr : stF (cf u0 t) b = nI tr) (htr5 : tr < 5) (hok : 13 - m / 4 ≤ 4 → sOk (hH u0 t m) (ldN u0 t b bd m) (m % 4) (13 - m / 4)) (hph : u0.2 28 t = nI 2) (h4 : 13 - m / 4 ≤ 4) (r : Nat) {Q : Option Value → rS → Prop} (hQ : ∀ v o, rSame u0 v → bcO (bcP u0 t b bd m tr r) o → Q (some (.int o)) v) : ∀ (zz : Nat) (x : Nat) (u : rS) (l4 l5 l6 : Option Value) (hS : rSame u0 u) (hno : ∀ c, c < x → ¬ bcP u0 t b bd m tr r c) (hm : 52 - x < zz) (hx : x ≤ 52) (hr4 : r ≤ 4), rB pr (d + 41) cd_208 (Option.some Jvm.ClassFile.FieldType.int) Q 11 [some (.ref 25), some (.int (nI t)), some (.int (nI r)), some (.int (nI x)), l4, l5, l6] [] u := by
  intro zz
  induction zz with
  | zero => intro x u l4 l5 l6 hS hno hm hx hr4; exact absurd hm (by omega)
  | succ zz ih =>
    intro x u l4 l5 l6 hS hno hm hx hr4
    refine g_load rfl rfl rfl trivial ?_
    refine g_bipush (nI 52) rfl (by decide) ?_
    refine g_icmp_ge rfl (fun c1 => ?_) (fun c1 => ?_)
    · rw [nI_leI (by omega) (by omega)] at c1
      have hQ := hQ u (-1) hS (Or.inr ⟨fun c hc => hno c (by omega), rfl⟩)
      refine g_iconst (-1) rfl (by decide) ?_
      refine g_vret rfl trivial ⟨rfl, rfl⟩ (Nat.le_refl _) (Nat.le_refl _) ?_
      exact hQ
    · rw [nI_leI (by omega) (by omega)] at c1
      have hc1 : u.2 31 t = nI n := by rw [hS.2.2.2 31 (by decide)]; exact hc
      have hb1 : last ge3 (cf u t) n = some b := by rw [rSame_cf hS]; exact hb
      have hbd1 : u.2 29 t = nI (bd + 1) := by rw [hS.2.2.2 29 (by decide)]; exact hbd
      have hm1' : u.2 32 t = nI m := by rw [hS.2.2.2 32 (by decide)]; exact hm0
      have hph1 : u.2 28 t = nI 2 := by rw [hS.2.2.2 28 (by decide)]; exact hph
      have hck1 : cdOk (gf u t) m := by rw [rSame_gf hS]; exact hck
      have hok1 : 13 - m / 4 ≤ 4 → sOk (hH u t m) (ldN u t b bd m) (m % 4) (13 - m / 4) := by rw [rSame_hH hS, rSame_ldN hS]; exact hok
      refine g_load rfl rfl rfl trivial ?_
      refine g_load rfl rfl rfl trivial ?_
      refine g_load rfl rfl rfl trivial ?_
      refine g_virtI (a := 25) (ci := 8) (n := 2) [.int (nI t), .int (nI x)] rFr_tr rfl rfl (by decide) rfl r_this rfl (Nat.le_of_ble_eq_true rfl) (Nat.le_refl _) (Nat.le_refl _) (r_mayPlay (d := d + 34) t n b bd m ht hc1 hn hb1 hbd1 hbd2 hm1' hm52 nb (nI x) (hS.1.trans h0) hnb (by rw [hph1]; decide) hck1 (fun u2 hS2 => ⟨_, rfl, ?_⟩))
      have hS3 := hS.tr hS2
      rw [rSame_mp hS, rSame_seat hS]
      refine g_if_ne rfl (fun c2 => ?_) (fun c2 => ?_)
      · rw [bI_ne] at c2
        have hH1 := mpF_h c2
        have hse : seatF u0 t b bd m = (ldN u0 t b bd m + m % 4) % 4 := rfl
        refine g_load rfl rfl rfl trivial ?_
        refine g_load rfl rfl rfl trivial ?_
        refine g_virtI (a := 25) (ci := 8) (n := 1) [.int (nI t)] rFr_tr rfl rfl (by decide) rfl r_this rfl (Nat.le_of_ble_eq_true rfl) (Nat.le_refl _) (Nat.le_refl _) (r_layOut (d := d + 35) t n b bd m ht (by rw [hS3.2.2.2 31 (by decide)]; exact hc) hn (by rw [rSame_cf hS3]; exact hb) (by rw [hS3.2.2.2 29 (by decide)]; exact hbd) hbd2 (by rw [hS3.2.2.2 32 (by decide)]; exact hm0) hm52 nb tr (hS3.1.trans h0) hnb (by rw [rSame_gf hS3]; exact hck) hm1 (by rw [rSame_cf hS3]; exact htr) htr5 (by rw [rSame_hH hS3, rSame_ldN hS3]; exact hok) (by rw [hS3.2.2.2 28 (by decide)]; exact hph) (fun h4' => absurd h4 (by omega)) (fun _ v hL => ⟨_, rfl, ?_⟩))
        obtain ⟨hSv, hP, h25, h26, hT⟩ := hL
        have hS4 := hS3.tr hSv
        rw [rSame_hH hS3, rSame_cf hS3, rSame_ldN hS3] at hP
        rw [rSame_ldN hS3] at h25
        rw [rSame_tkG hS3] at hT
        refine g_store [some (.ref 25), some (.int (nI t)), some (.int (nI r)), some (.int (nI x)), some (.int (nI (13 - m / 4))), l5, l6] rfl rfl trivial (Nat.le_of_ble_eq_true rfl) rfl ?_
        refine g_load rfl rfl rfl trivial ?_
        refine r_getf rfl rfl ?_
        refine g_load rfl rfl rfl trivial ?_
        refine r_ia (t) rfl ⟨by decide, by decide, rfl⟩ rfl (by show _ < 10; omega) ?_
        rw [hS4.2.2.2 32 (by decide), hm0]
        refine g_load rfl rfl rfl trivial ?_
        refine r_getf rfl rfl ?_
        rw [h26]
        refine g_isub rfl ?_
        rw [pk_sub (by omega), show m - 4 * (m / 4) = m % 4 by omega]
        refine g_store [some (.ref 25), some (.int (nI t)), some (.int (nI r)), some (.int (nI x)), some (.int (nI (13 - m / 4))), some (.int (nI (m % 4))), l6] rfl rfl trivial (Nat.le_of_ble_eq_true rfl) rfl ?_
        refine g_iconst (nI 0) rfl (by decide) ?_
        refine g_store [some (.ref 25), some (.int (nI t)), some (.int (nI r)), some (.int (nI x)), some (.int (nI (13 - m / 4))), some (.int (nI (m % 4))), some (.int (nI 0))] rfl rfl trivial (Nat.le_of_ble_eq_true rfl) rfl ?_
        refine r_bc_i (u0 := v) t r x (13 - m / 4) (m % 4) (fun y y1 y2 y3 => ?_) 17 0 v rfl (fun _ _ => rfl) (by funext j; unfold outF; simp) (by omega) (by omega)
        refine g_load rfl rfl rfl trivial ?_
        refine r_getf rfl rfl ?_
        refine g_load rfl rfl rfl trivial ?_
        refine g_load rfl rfl rfl trivial ?_
        refine r_iasv (m % 4) rfl ⟨by decide, by decide, rfl⟩ rfl (by show _ < 4; omega) (fun w a1 b1 c1' d1 => ?_)
        have hw25 : w.1 25 = nI (ldN u0 t b bd m) := by rw [a1, y1]; exact h25
        have hPw : sPre w (gRm (hH u0 t m) (seatF u0 t b bd m) x) tr (dcN (cf u0 t) (bd % 4) b % 2) (ldN u0 t b bd m) (m % 4 + 1) (13 - m / 4) := by
          obtain ⟨p1, p2, p3, p4, p5, p6, p7⟩ := hP
          refine ⟨by rw [a1, y1]; exact p1, by rw [a1, y1]; exact p2, p3, p4, ?_, sOk_n p6 (by omega) (by omega) hH1, fun j hj => ?_⟩
          · rw [b1 48 (by decide), y3]
            exact sRep_out p5 (by rw [hse]; omega) (by omega) hH1 (fun s' hs' h' => hH_one (by rw [hse]; omega) hs' hH1 h')
          · by_cases q : j = m % 4
            · subst q; exact ⟨x, by omega, c1'⟩
            · obtain ⟨c', z1, z2⟩ := p7 j (by omega)
              exact ⟨c', z1, by rw [d1 j q, y2 49 (by decide)]; exact z2⟩
        refine g_load rfl rfl rfl trivial ?_
        refine g_load rfl rfl rfl trivial ?_
        refine r_getf rfl rfl ?_
        refine g_load rfl rfl rfl trivial ?_
        refine g_iconst (nI 1) rfl (by decide) ?_
        rw [hw25]
        refine g_iadd rfl ?_
        rw [nI_add]
        refine g_load rfl rfl rfl trivial ?_
        obtain ⟨dd, hdd⟩ : ∃ dd, d + 41 = dd + (5 * (13 - m / 4) - (m % 4 + 1)) + 4 := ⟨d + 37 - (5 * (13 - m / 4) - (m % 4 + 1)), by omega⟩
        have IHs := r_search (pr := pr) dd (5 * (13 - m / 4) - (m % 4 + 1))
        rw [← hdd] at IHs
        refine g_virtI (a := 25) (ci := 8) (n := 3) [.int (nI (ldN u0 t b bd m)), .int (nI (m % 4 + 1)), .int (nI (13 - m / 4))] rFr_tr rfl rfl (by decide) rfl r_this rfl (Nat.le_of_ble_eq_true rfl) (Nat.le_refl _) (Nat.le_refl _) (IHs w _ _ _ _ _ _ rfl hPw _ (fun w2 r2 hW hrt hV => ⟨_, rfl, ?_⟩))
        have hS5 : rSame u0 w2 := hS4.tr ⟨by rw [hW.1, a1, y1], by rw [hW.1, a1, y1], by rw [hW.1, a1, y1], fun a ha => by rw [hW.2.1 a (by omega) (by omega), b1 a (by omega), y2 a (by omega)]⟩
        have hVc := sVal_ch (g := tkG u0 t m) (ldF_lt (by omega) _) (by omega) htr5 (fun j hj => ⟨_, (hck (4 * (m / 4) + j) (by omega)).1, (hck (4 * (m / 4) + j) (by omega)).2⟩) (by omega) (fun j hj => by rw [d1 j (by omega), y2 49 (by decide)]; exact hT j hj) c1' hV
        refine g_load rfl rfl rfl trivial ?_
        refine g_icmp_ne rfl (fun c3 => ?_) (fun c3 => ?_)
        · have hno2 : ∀ c, c < x + 1 → ¬ bcP u0 t b bd m tr r c := by
            intro c' hc'
            by_cases q : c' = x
            · subst q; intro z; exact c3 (by rw [gVc_inj hVc z.2])
            · exact hno c' (by omega)
          have hS3 := hS5
          refine g_iinc (nI (x + 1)) [some (.ref 25), some (.int (nI t)), some (.int (nI r)), some (.int (nI (x + 1))), some (.int (nI (13 - m / 4))), some (.int (nI (m % 4))), some (.int (nI 16))] rfl rfl (nI_1 x) rfl ?_
          refine g_goto rfl ?_
          exact ih (x + 1) _ _ _ _ hS3 hno2 (by omega) (by omega) hr4
        · rw [nI_eq (by omega) (by omega)] at c3
          subst c3
          have hQ := hQ w2 (nI x) hS5 (Or.inl ⟨x, by omega, ⟨‹_›, hVc⟩, hno, rfl⟩)
          refine g_load rfl rfl rfl trivial ?_
          refine g_vret rfl trivial ⟨rfl, rfl⟩ (Nat.le_refl _) (Nat.le_refl _) ?_
          exact hQ
      · rw [bI_eq] at c2
        have hno2 : ∀ c, c < x + 1 → ¬ bcP u0 t b bd m tr r c := by
          intro c' hc'
          by_cases q : c' = x
          · subst q; intro z; exact absurd (c2.symm.trans z.1) (by decide)
          · exact hno c' (by omega)
        refine g_goto rfl ?_
        refine g_iinc (nI (x + 1)) [some (.ref 25), some (.int (nI t)), some (.int (nI r)), some (.int (nI (x + 1))), l4, l5, l6] rfl rfl (nI_1 x) rfl ?_
        refine g_goto rfl ?_
        exact ih (x + 1) _ _ _ _ hS3 hno2 (by omega) (by omega) hr4
set_option maxRecDepth 20000 in
theorem r_bestCard {pr : aC} {d : Nat} {u : rS} (t n b bd m : Nat) (ht : t < 10) (hc : u.2 31 t = nI n) (hn : n ≤ 340) (hb : last ge3 (cf u t) n = some b) (hbd : u.2 29 t = nI (bd + 1)) (hbd2 : bd < 36) (hm0 : u.2 32 t = nI m) (hm52 : m ≤ 52) (nb tr : Nat) (h0 : u.1 0 = nI nb) (hnb : nb ≤ 36) (hck : cdOk (gf u t) m) (hm1 : m < 52) (htr : stF (cf u t) b = nI tr) (htr5 : tr < 5) (hok : 13 - m / 4 ≤ 4 → sOk (hH u t m) (ldN u t b bd m) (m % 4) (13 - m / 4)) (hph : u.2 28 t = nI 2) {Q : Option Value → rS → Prop} (hN4 : 4 < 13 - m / 4 → ∀ v, rSame u v → Q (some (.int (-1))) v) (hQ : 13 - m / 4 ≤ 4 → ∀ v r o, rSame u v → r ≤ 4 → sVal tr (dcN (cf u t) (bd % 4) b % 2) (hH u t m) (tkG u t m) (ldN u t b bd m) (m % 4) (13 - m / 4) r → bcO (bcP u t b bd m tr r) o → Q (some (.int o)) v) : rR pr (d + 41 + 1) 208 [.ref 25, .int (nI t)] u Q := by
  refine gR_of mi_208 rFr_rf rfl (Nat.le_of_ble_eq_true rfl) ?_
  show rB pr (d + 41) cd_208 (Option.some Jvm.ClassFile.FieldType.int) Q 0 [some (.ref 25), some (.int (nI t)), none, none, none, none, none] [] u
  refine g_load rfl rfl rfl trivial ?_
  refine g_load rfl rfl rfl trivial ?_
  refine g_virtI (a := 25) (ci := 8) (n := 1) [.int (nI t)] rFr_tr rfl rfl (by decide) rfl r_this rfl (Nat.le_of_ble_eq_true rfl) (Nat.le_refl _) (Nat.le_refl _) (r_best (d := d) t n b bd m ht hc hn hb hbd hbd2 hm0 hm52 nb tr h0 hnb hck hm1 htr htr5 hok hph (fun h4 v hS => ⟨_, rfl, ?_⟩) (fun h4 v r hS hr4 hV => ⟨_, rfl, ?_⟩))
  · refine g_store [some (.ref 25), some (.int (nI t)), some (.int (-1)), none, none, none, none] rfl rfl trivial (Nat.le_of_ble_eq_true rfl) rfl ?_
    refine g_load rfl rfl rfl trivial ?_
    refine g_iconst (-1) rfl (by decide) ?_
    refine g_icmp_ne rfl (fun c1 => absurd rfl c1) (fun c1 => ?_)
    refine g_iconst (-1) rfl (by decide) ?_
    exact g_vret rfl trivial ⟨rfl, rfl⟩ (Nat.le_refl _) (Nat.le_refl _) (hN4 h4 v hS)
  refine g_store [some (.ref 25), some (.int (nI t)), some (.int (nI r)), none, none, none, none] rfl rfl trivial (Nat.le_of_ble_eq_true rfl) rfl ?_
  refine g_load rfl rfl rfl trivial ?_
  refine g_iconst (-1) rfl (by decide) ?_
  refine g_icmp_ne rfl (fun c1 => ?_) (fun c1 => ?_)
  · refine g_iconst (nI 0) rfl (by decide) ?_
    refine g_store [some (.ref 25), some (.int (nI t)), some (.int (nI r)), some (.int (nI 0)), none, none, none] rfl rfl trivial (Nat.le_of_ble_eq_true rfl) rfl ?_
    exact r_bc_c t n b bd m ht hc hn hb hbd hbd2 hm0 hm52 nb tr h0 hnb hck hm1 htr htr5 hok hph h4 r (fun w o hw ho => hQ h4 w r o hw hr4 hV ho) 53 0 v none none none hS (fun c hc => absurd hc (by omega)) (by omega) (by omega) hr4
  · exact absurd c1 (nI_m1 (by omega))
set_option maxRecDepth 20000 in
theorem r_bestCard_n {pr : aC} {d : Nat} {u : rS} (t : Int32) (hph : ¬ phF u t = nI 2) {Q : Option Value → rS → Prop} (hQ : Q (some (.int (-1))) u) : rR pr (d + 7 + 1) 208 [.ref 25, .int t] u Q := by
  refine gR_of mi_208 rFr_rf rfl (Nat.le_of_ble_eq_true rfl) ?_
  show rB pr (d + 7) cd_208 (Option.some Jvm.ClassFile.FieldType.int) Q 0 [some (.ref 25), some (.int t), none, none, none, none, none] [] u
  refine g_load rfl rfl rfl trivial ?_
  refine g_load rfl rfl rfl trivial ?_
  refine g_virtI (a := 25) (ci := 8) (n := 1) [.int t] rFr_tr rfl rfl (by decide) rfl r_this rfl (Nat.le_of_ble_eq_true rfl) (Nat.le_refl _) (Nat.le_refl _) (r_best_n t hph ⟨_, rfl, ?_⟩)
  refine g_store [some (.ref 25), some (.int t), some (.int (-1)), none, none, none, none] rfl rfl trivial (Nat.le_of_ble_eq_true rfl) rfl ?_
  refine g_load rfl rfl rfl trivial ?_
  refine g_iconst (-1) rfl (by decide) ?_
  refine g_icmp_ne rfl (fun c1 => ?_) (fun c1 => ?_)
  · exact absurd rfl c1
  · refine g_iconst (-1) rfl (by decide) ?_
    refine g_vret rfl trivial ⟨rfl, rfl⟩ (Nat.le_refl _) (Nat.le_refl _) ?_
    exact hQ
