/-! ===== the reference: search, the whole ===== -/
set_option maxRecDepth 20000 in
theorem r_search {pr : aC} (d : Nat) : ∀ μ, sIH pr (d + μ + 4) μ := by
  intro μ
  induction μ with
  | zero =>
    intro u H tr sd ld mn t hμ hp
    exfalso
    have h1 := hp.2.2.2.2.2.1.2.1
    have h2 := hp.2.2.2.2.2.1.2.2.1
    omega
  | succ μ ih =>
    intro u H tr sd ld mn t hμ hp Q hQ
    obtain ⟨p1, p2, p3, p4, p5, p6, p7⟩ := id hp
    have hld := p6.1
    have hmn := p6.2.1
    have ht1 := p6.2.2.1
    have ht4 := p6.2.2.2.1
    refine gR_of (d := d + μ + 4) mi_205 rFr_rf rfl (Nat.le_of_ble_eq_true rfl) ?_
    show rB pr (d + μ + 4) cd_205 (some .int) Q 0 [some (.ref 25), some (.int (nI ld)), some (.int (nI mn)), some (.int (nI t)), none, none, none, none, none, none, none] [] u
    refine g_load rfl rfl rfl trivial ?_
    refine g_iconst (nI 4) rfl (by decide) ?_
    refine g_icmp_ne rfl (fun c1 => ?_) (fun c1 => ?_)
    · rw [nI_eq (by omega) (by omega)] at c1
      have hm : mn < 4 := by omega
      refine g_load rfl rfl rfl trivial ?_
      refine g_load rfl rfl rfl trivial ?_
      refine g_iadd rfl ?_
      rw [nI_add]
      refine g_iconst (nI 4) rfl (by decide) ?_
      refine g_irem rfl (by decide) ?_
      rw [pk_rem (by omega) (by omega) (by omega)]
      obtain ⟨s, hs⟩ : ∃ s, s = (ld + mn) % 4 := ⟨_, rfl⟩
      rw [← hs]
      have hs4 : s < 4 := by omega
      refine g_store [some (.ref 25), some (.int (nI ld)), some (.int (nI mn)), some (.int (nI t)), some (.int (nI s)), none, none, none, none, none, none] rfl rfl trivial (Nat.le_of_ble_eq_true rfl) rfl ?_
      have K90 : ∀ e : Int32, e = bI (decide (s % 2 = sd)) → rB pr (d + μ + 4) cd_205 (some .int) Q 90 [some (.ref 25), some (.int (nI ld)), some (.int (nI mn)), some (.int (nI t)), some (.int (nI s)), none, none, none, none, none, none] [.int e] u := by
        intro e he
        subst he
        refine g_store [some (.ref 25), some (.int (nI ld)), some (.int (nI mn)), some (.int (nI t)), some (.int (nI s)), some (.int (bI (decide (s % 2 = sd)))), none, none, none, none, none] rfl rfl trivial (Nat.le_of_ble_eq_true rfl) rfl ?_
        refine g_iconst (-1) rfl (by decide) ?_
        refine g_store [some (.ref 25), some (.int (nI ld)), some (.int (nI mn)), some (.int (nI t)), some (.int (nI s)), some (.int (bI (decide (s % 2 = sd)))), some (.int (-1)), none, none, none, none] rfl rfl trivial (Nat.le_of_ble_eq_true rfl) rfl ?_
        refine g_iconst (nI 0) rfl (by decide) ?_
        refine g_store [some (.ref 25), some (.int (nI ld)), some (.int (nI mn)), some (.int (nI t)), some (.int (nI s)), some (.int (bI (decide (s % 2 = sd)))), some (.int (-1)), some (.int (nI 0)), none, none, none] rfl rfl trivial (Nat.le_of_ble_eq_true rfl) rfl ?_
        refine g_iconst (nI 4) rfl (by decide) ?_
        refine g_load rfl rfl rfl trivial ?_
        refine g_imul rfl ?_
        rw [pk_mul]
        refine g_store [some (.ref 25), some (.int (nI ld)), some (.int (nI mn)), some (.int (nI t)), some (.int (nI s)), some (.int (bI (decide (s % 2 = sd)))), some (.int (-1)), some (.int (nI 0)), some (.int (nI (4 * s))), none, none] rfl rfl trivial (Nat.le_of_ble_eq_true rfl) rfl ?_
        have KF := r_search_f (pr := pr) (d := d + μ + 2) (u := u) ld mn t s (bI (decide (s % 2 = sd))) (-1) hs4 hm (Q := Q) (fun k8 => ?_) 5 0 (by omega) (by omega)
        · have e0 : (decide (0 < mn) && anyN (flQ (u.2 48) (u.2 49) s) 0) = false := by simp [anyN]
          rw [e0] at KF
          exact KF
        · refine g_iconst (nI 4) rfl (by decide) ?_
          refine g_load rfl rfl rfl trivial ?_
          refine g_imul rfl ?_
          rw [pk_mul]
          refine g_store [some (.ref 25), some (.int (nI ld)), some (.int (nI mn)), some (.int (nI t)), some (.int (nI s)), some (.int (bI (decide (s % 2 = sd)))), some (.int (-1)), some (.int (bI (flF (u.2 48) (u.2 49) s mn))), some (.int (nI (4 * s))), none, none] rfl rfl trivial (Nat.le_of_ble_eq_true rfl) rfl ?_
          exact r_search_m (d := d + μ) H tr sd ld mn t s μ (decide (s % 2 = sd)) (flF (u.2 48) (u.2 49) s mn) hs hm hp rfl rfl hμ ih hQ 5 0 u none none none (sPost.rf u mn) (fun k c hk => absurd hk (by omega)) (fun v hv => by cases hv) (by omega) (by omega)
      refine g_load rfl rfl rfl trivial ?_
      refine g_iconst (nI 2) rfl (by decide) ?_
      refine g_irem rfl (by decide) ?_
      rw [pk_rem (by omega) (by omega) (by omega)]
      refine g_load rfl rfl rfl trivial ?_
      refine r_getf rfl rfl ?_
      rw [p2]
      refine g_icmp_ne rfl (fun c2 => ?_) (fun c2 => ?_)
      · rw [nI_eq (by omega) (by omega)] at c2
        refine g_iconst (nI 0) rfl (by decide) ?_
        exact K90 _ (by rw [decide_eq_false c2]; rfl)
      · rw [nI_eq (by omega) (by omega)] at c2
        refine g_iconst (nI 1) rfl (by decide) ?_
        refine g_goto rfl ?_
        exact K90 _ (by rw [decide_eq_true c2]; rfl)
    · rw [nI_eq (by omega) (by omega)] at c1
      subst c1
      refine g_load rfl rfl rfl trivial ?_
      refine g_load rfl rfl rfl trivial ?_
      refine g_iconst (nI 4) rfl (by decide) ?_
      refine g_virtI (a := 25) (ci := 8) (n := 2) [.int (nI ld), .int (nI 4)] rFr_tr rfl rfl (by decide) rfl r_this rfl (Nat.le_of_ble_eq_true rfl) (Nat.le_refl _) (Nat.le_refl _) (r_taken ld hld ⟨_, rfl, ?_⟩)
      rw [p1]
      obtain ⟨w, hw⟩ : ∃ w, w = (ld + bst (u.2 49) (nI tr) 0 3) % 4 := ⟨_, rfl⟩
      rw [← hw]
      have hw4 : w < 4 := by omega
      have hwin : winF (u.2 49) tr ld 4 = w := by rw [hw]; rfl
      refine g_store [some (.ref 25), some (.int (nI ld)), some (.int (nI 4)), some (.int (nI t)), some (.int (nI w)), none, none, none, none, none, none] rfl rfl trivial (Nat.le_of_ble_eq_true rfl) rfl ?_
      have K17 : ∀ e : Int32, e = nI (if w % 2 = sd then 1 else 0) → rB pr (d + μ + 4) cd_205 (some .int) Q 17 [some (.ref 25), some (.int (nI ld)), some (.int (nI 4)), some (.int (nI t)), some (.int (nI w)), none, none, none, none, none, none] [.int e] u := by
        intro e he
        subst he
        have h01 := ite01 (w % 2) sd
        obtain ⟨one, h1e⟩ : ∃ o, o = (if w % 2 = sd then 1 else 0 : Nat) := ⟨_, rfl⟩
        rw [← h1e] at h01 ⊢
        refine g_store [some (.ref 25), some (.int (nI ld)), some (.int (nI 4)), some (.int (nI t)), some (.int (nI w)), some (.int (nI one)), none, none, none, none, none] rfl rfl trivial (Nat.le_of_ble_eq_true rfl) rfl ?_
        refine g_load rfl rfl rfl trivial ?_
        refine g_iconst (nI 1) rfl (by decide) ?_
        refine g_icmp_ne rfl (fun c2 => ?_) (fun c2 => ?_)
        · rw [nI_eq (by omega) (by omega)] at c2
          refine g_load rfl rfl rfl trivial ?_
          refine r_getf rfl rfl ?_
          refine g_iconst (nI 0) rfl (by decide) ?_
          refine r_ia (0) rfl ⟨by decide, by decide, rfl⟩ rfl (by decide) ?_
          refine g_store [some (.ref 25), some (.int (nI ld)), some (.int (nI 4)), some (.int (nI t)), some (.int (nI w)), some (.int (nI one)), some (.int (u.2 49 0)), none, none, none, none] rfl rfl trivial (Nat.le_of_ble_eq_true rfl) rfl ?_
          refine g_load rfl rfl rfl trivial ?_
          refine r_getf rfl rfl ?_
          refine g_iconst (nI 1) rfl (by decide) ?_
          refine r_ia (1) rfl ⟨by decide, by decide, rfl⟩ rfl (by decide) ?_
          refine g_store [some (.ref 25), some (.int (nI ld)), some (.int (nI 4)), some (.int (nI t)), some (.int (nI w)), some (.int (nI one)), some (.int (u.2 49 0)), some (.int (u.2 49 1)), none, none, none] rfl rfl trivial (Nat.le_of_ble_eq_true rfl) rfl ?_
          refine g_load rfl rfl rfl trivial ?_
          refine r_getf rfl rfl ?_
          refine g_iconst (nI 2) rfl (by decide) ?_
          refine r_ia (2) rfl ⟨by decide, by decide, rfl⟩ rfl (by decide) ?_
          refine g_store [some (.ref 25), some (.int (nI ld)), some (.int (nI 4)), some (.int (nI t)), some (.int (nI w)), some (.int (nI one)), some (.int (u.2 49 0)), some (.int (u.2 49 1)), some (.int (u.2 49 2)), none, none] rfl rfl trivial (Nat.le_of_ble_eq_true rfl) rfl ?_
          refine g_load rfl rfl rfl trivial ?_
          refine r_getf rfl rfl ?_
          refine g_iconst (nI 3) rfl (by decide) ?_
          refine r_ia (3) rfl ⟨by decide, by decide, rfl⟩ rfl (by decide) ?_
          refine g_store [some (.ref 25), some (.int (nI ld)), some (.int (nI 4)), some (.int (nI t)), some (.int (nI w)), some (.int (nI one)), some (.int (u.2 49 0)), some (.int (u.2 49 1)), some (.int (u.2 49 2)), some (.int (u.2 49 3)), none] rfl rfl trivial (Nat.le_of_ble_eq_true rfl) rfl ?_
          refine g_load rfl rfl rfl trivial ?_
          refine g_load rfl rfl rfl trivial ?_
          refine g_iconst (nI 0) rfl (by decide) ?_
          refine g_load rfl rfl rfl trivial ?_
          refine g_iconst (nI 1) rfl (by decide) ?_
          refine g_isub rfl ?_
          rw [pk_sub (by omega)]
          refine g_virtI (a := 25) (ci := 8) (n := 3) [.int (nI w), .int (nI 0), .int (nI (t - 1))] rFr_tr rfl rfl (by decide) rfl r_this rfl (Nat.le_of_ble_eq_true rfl) (Nat.le_refl _) (Nat.le_refl _) (ih u H tr sd w 0 (t - 1) (by omega) ⟨p1, p2, p3, p4, p5, sOk_0 p6 (by omega) hw4, fun j hj => absurd hj (by omega)⟩ _ (fun v r hP hrt hV => ⟨_, rfl, ?_⟩))
          refine g_store [some (.ref 25), some (.int (nI ld)), some (.int (nI 4)), some (.int (nI t)), some (.int (nI w)), some (.int (nI one)), some (.int (u.2 49 0)), some (.int (u.2 49 1)), some (.int (u.2 49 2)), some (.int (u.2 49 3)), some (.int (nI r))] rfl rfl trivial (Nat.le_of_ble_eq_true rfl) rfl ?_
          refine g_load rfl rfl rfl trivial ?_
          refine r_getf rfl rfl ?_
          refine g_iconst (nI 0) rfl (by decide) ?_
          refine g_load rfl rfl rfl trivial ?_
          refine r_iasv (0) rfl ⟨by decide, by decide, rfl⟩ rfl (by decide) (fun v1 a1 b1 d1 e1 => ?_)
          refine g_load rfl rfl rfl trivial ?_
          refine r_getf rfl rfl ?_
          refine g_iconst (nI 1) rfl (by decide) ?_
          refine g_load rfl rfl rfl trivial ?_
          refine r_iasv (1) rfl ⟨by decide, by decide, rfl⟩ rfl (by decide) (fun v2 a2 b2 d2 e2 => ?_)
          refine g_load rfl rfl rfl trivial ?_
          refine r_getf rfl rfl ?_
          refine g_iconst (nI 2) rfl (by decide) ?_
          refine g_load rfl rfl rfl trivial ?_
          refine r_iasv (2) rfl ⟨by decide, by decide, rfl⟩ rfl (by decide) (fun v3 a3 b3 d3 e3 => ?_)
          refine g_load rfl rfl rfl trivial ?_
          refine r_getf rfl rfl ?_
          refine g_iconst (nI 3) rfl (by decide) ?_
          refine g_load rfl rfl rfl trivial ?_
          refine r_iasv (3) rfl ⟨by decide, by decide, rfl⟩ rfl (by decide) (fun v4 a4 b4 d4 e4 => ?_)
          refine g_load rfl rfl rfl trivial ?_
          refine g_load rfl rfl rfl trivial ?_
          refine g_iadd rfl ?_
          rw [nI_add]
          refine g_vret rfl trivial ⟨rfl, rfl⟩ (Nat.le_refl _) (Nat.le_refl _) ?_
          refine hQ v4 (one + r) ⟨by rw [a4, a3, a2, a1]; exact hP.1, fun a h1 h2 => by rw [b4 a h2, b3 a h2, b2 a h2, b1 a h2]; exact hP.2.1 a h1 h2, fun j hj => by rw [b4 48 (by decide), b3 48 (by decide), b2 48 (by decide), b1 48 (by decide)]; exact hP.2.2.1 j hj, fun j hj => ?_⟩ (by omega) ?_
          · rcases (show j = 0 ∨ j = 1 ∨ j = 2 ∨ j = 3 by omega) with rfl | rfl | rfl | rfl
            · rw [e4 0 (by decide), e3 0 (by decide), e2 0 (by decide), d1]
            · rw [e4 1 (by decide), e3 1 (by decide), d2]
            · rw [e4 2 (by decide), d3]
            · rw [d4]
          · unfold sVal
            rw [if_pos rfl, hwin, ← h1e]
            intro need
            unfold sVal at hV
            rw [if_neg (by decide)] at hV
            have hV2 := hV (need - one)
            rw [show (w + 0) % 4 = w by omega, Nat.sub_zero] at hV2
            have hl : ledF (u.2 49) 0 = none := rfl
            have htp : topF (u.2 49) tr 0 = 0 := rfl
            have hwn : winF (u.2 49) tr w 0 = 0 := rfl
            rw [hl, htp, hwn] at hV2
            rw [hV2]
            omega
        · rw [nI_eq (by omega) (by omega)] at c2
          refine g_load rfl rfl rfl trivial ?_
          refine g_vret rfl trivial ⟨rfl, rfl⟩ (Nat.le_refl _) (Nat.le_refl _) ?_
          refine hQ u one (sPost.rf u 4) (by omega) ?_
          unfold sVal
          rw [if_pos rfl, hwin, ← h1e, c2]
          intro need
          show need - one = 0 ↔ need ≤ one
          omega
      refine g_load rfl rfl rfl trivial ?_
      refine g_iconst (nI 2) rfl (by decide) ?_
      refine g_irem rfl (by decide) ?_
      rw [pk_rem (by omega) (by omega) (by omega)]
      refine g_load rfl rfl rfl trivial ?_
      refine r_getf rfl rfl ?_
      rw [p2]
      refine g_icmp_ne rfl (fun c2 => ?_) (fun c2 => ?_)
      · rw [nI_eq (by omega) (by omega)] at c2
        refine g_iconst (nI 0) rfl (by decide) ?_
        exact K17 _ (by rw [if_neg c2])
      · rw [nI_eq (by omega) (by omega)] at c2
        refine g_iconst (nI 1) rfl (by decide) ?_
        refine g_goto rfl ?_
        exact K17 _ (by rw [if_pos c2])

