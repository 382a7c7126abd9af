/-! ===== the club beside the reference: leave, back, adjust ===== -/
theorem J.adjust {u v : cS} {r : rS} {nb nr i R : Nat} {a b : Int32} (hJ : J u r nb nr) (hi : i < nr) (hR : rJ u r nb i R) (hv : onO u v R (fun k => if k = 11 then b else if k = 10 then a else if k = 9 then 1 else u.oI R k)) : J v (uAdj r i a b) nb nr := by
  obtain ⟨v1, v2, v3, v4, v5, v6, v7⟩ := hv
  have ag : ∀ x, x ≠ R → agr u v x := fun x hx => ⟨by rw [v1], v6 x hx, by rw [v2], by rw [v3], by rw [v4]⟩
  have agk : ∀ x κ, u.kd x = κ → κ ≠ 9 → agr u v x := fun x κ h1 h2 => ag x (fun e => by rw [e, hR.2.1] at h1; exact h2 h1.symm)
  obtain ⟨k16, k17, k18, k19, k20, k21, k22, k23, k24⟩ := hJ.k
  have eo : ∀ x, x ≠ 44 → x ≠ 43 → (uAdj r i a b).2 x = r.2 x := fun x h1 h2 => by
    show (rU (rU (rU r.2 44 i 1) 43 (2 * i) a) 43 (2 * i + 1) b) x = _
    rw [rU_a h2, rU_a h2, rU_a h1]
  have e44 : ∀ z, (uAdj r i a b).2 44 z = if z = i then 1 else r.2 44 z := fun z => by
    show (rU (rU (rU r.2 44 i 1) 43 (2 * i) a) 43 (2 * i + 1) b) 44 z = _
    rw [rU_a (by decide), rU_a (by decide)]
    by_cases e : z = i
    · subst e; rw [if_pos rfl, rU_s]
    · rw [if_neg e, rU_k e]
  have e43 : ∀ z, (uAdj r i a b).2 43 z = if z = 2 * i + 1 then b else if z = 2 * i then a else r.2 43 z := fun z => by
    show (rU (rU (rU r.2 44 i 1) 43 (2 * i) a) 43 (2 * i + 1) b) 43 z = _
    by_cases e : z = 2 * i + 1
    · rw [if_pos e, e, rU_s]
    · rw [if_neg e, rU_k e]
      by_cases e2 : z = 2 * i
      · rw [if_pos e2, e2, rU_s]
      · rw [if_neg e2, rU_k e2, rU_a (by decide)]
  have a16 := agk 16 10 k16 (by decide)
  have a23 := agk 23 15 k23 (by decide)
  refine ⟨?_, ?_, ?_, ?_, fun bb hb => ?_, fun t' ht' => ?_, fun j hj => ?_, ?_⟩
  · unfold kJ; rw [v1]; exact hJ.k
  · unfold aJ; rw [v1, v5, v4]; exact hJ.a
  · rw [a16.2.1]; exact hJ.hb
  · rw [a16.2.1, eo 28 (by decide) (by decide)]; exact hJ.hr
  · obtain ⟨B, hB⟩ := hJ.bd hb
    exact ⟨B, bJ_fr hB (by rw [v4]) (agk B 1 hB.2.1 (by decide)) (agk _ 2 hB.2.2.1 (by decide)) (by rw [eo 27 (by decide) (by decide)]) (by rw [eo 35 (by decide) (by decide)]) (fun c _ => by rw [eo 26 (by decide) (by decide)])⟩
  · rcases hJ.tb ht' with ⟨h1, h2⟩ | ⟨T, B, bd, n, m, hT⟩
    · exact Or.inl ⟨by rw [eo 28 (by decide) (by decide)]; exact h1, tI0_fr h2 (by rw [v4]) (fun T _ => ⟨fun a _ _ => by rw [v1], by rw [v4]⟩)⟩
    · exact Or.inr ⟨T, B, bd, n, m, tJ_fr hT (Nat.le_refl _) (by rw [v4]) (by rw [v4]) (fun x h1 h2 => agk x _ (hT.2.1.tk.at h1 h2) (by omega)) (by rw [v1]) (by rw [v1]) ⟨by rw [eo 28 (by decide) (by decide)], by rw [eo 29 (by decide) (by decide)], by rw [eo 30 (by decide) (by decide)], by rw [eo 30 (by decide) (by decide)], by rw [eo 31 (by decide) (by decide)], by rw [eo 32 (by decide) (by decide)], fun i _ => by unfold cf; rw [eo 33 (by decide) (by decide)], fun i _ => by unfold gf; rw [eo 34 (by decide) (by decide)], by rw [eo 27 (by decide) (by decide)], fun c _ => by rw [eo 26 (by decide) (by decide)]⟩⟩
  · by_cases e : j = i
    · subst e
      refine ⟨R, ?_⟩
      obtain ⟨h1, h2, r0, r1, r2, r3, r4, r5, r6, r7, r8, r9, r10, r11, r12, r13⟩ := hR
      unfold rJ rvJ
      rw [v1, v4, v7, e44, e43, e43, eo 35 (by decide) (by decide), eo 36 (by decide) (by decide), eo 37 (by decide) (by decide), eo 38 (by decide) (by decide), eo 39 (by decide) (by decide), eo 40 (by decide) (by decide), eo 41 (by decide) (by decide), eo 42 (by decide) (by decide), if_pos rfl, if_neg (show ¬ 2 * j = 2 * j + 1 by omega), if_pos rfl, if_pos rfl]
      exact ⟨h1, h2, r0, r1, r2, r3, r4, r5, r6, r7, r8, rfl, Or.inr ⟨rfl, rfl, rfl⟩, r11, r12, r13⟩
    · obtain ⟨P, hP⟩ := hJ.rs hj
      have hPR : P ≠ R := fun z => e (hJ.a.2.2 j i R hj hi (by rw [← z]; exact hP.1) hR.1)
      refine ⟨P, rJ_fr hP (Nat.le_refl _) (by rw [v4]) (ag P hPR) (fun x hx => ?_) ⟨by rw [eo 36 (by decide) (by decide)], by rw [eo 36 (by decide) (by decide)]⟩ ⟨?_, ?_⟩⟩
      · by_cases e2 : x = 44
        · rw [e2, e44, if_neg e]
        · rw [eo x e2 (by omega)]
      · rw [e43, if_neg (by omega), if_neg (by omega)]
      · rw [e43, if_neg (by omega), if_neg (by omega)]
  · obtain ⟨len, t1, t2, t3, t4, t5⟩ := hJ.tx
    refine ⟨len, t1, by rw [a23.2.1]; exact t2, t3, by rw [a23.2.1]; exact t4, fun x hx => ?_⟩
    rw [v2, eo 45 (by decide) (by decide)]; exact t5 x hx
set_option maxRecDepth 20000 in
theorem j_leave {pr : aC} {d : Nat} {u : cS} {r : rS} {nb nr : Nat} (hJ : J u r nb nr) (t : Int32) {Q : Option Value → cS → Prop} (hF : phF r t = 0 → Q (some (.int 0)) u) (hQ : ∀ t0 v, t0 < 10 → t = nI t0 → ¬ r.2 28 t0 = 0 → J v (uLeave r t0) nb nr → Q (some (.int 1)) v) : wR pr (d + 2 + 1) 117 [.ref 16, .int t] u Q := by
  refine gR_of mi_117 cFr_rf rfl (Nat.le_of_ble_eq_true rfl) ?_
  show wB pr (d + 2) cd_117 (Option.some Jvm.ClassFile.FieldType.boolean) Q 0 [some (.ref 16), some (.int t), none] [] u
  have hnr2 := hJ.nr
  obtain ⟨hnr, hr1, _⟩ := hJ.hr
  obtain ⟨hnb, hnb2, hr0⟩ := hJ.hb
  have hk0 := hJ.k
  obtain ⟨k16, k17, k18, k19, k20, k21, k22, k23, k24⟩ := hJ.k
  refine g_load rfl rfl rfl trivial ?_
  refine g_load rfl rfl rfl trivial ?_
  rcases hJ.bz t with ⟨hph, hid⟩ | ⟨t0, T, B, bd, n, m, ht0, rfl, hT⟩
  · refine g_virtI (a := 16) (ci := 7) (n := 1) [.int t] cFr_tr rfl rfl (by decide) rfl (c_ob k16 (by decide) (by rfl)) rfl (Nat.le_of_ble_eq_true rfl) (Nat.le_refl _) (Nat.le_refl _) (c_lift cFr_rf (fun _ h => h) (c_busy_x hk0 t hid ⟨_, rfl, ?_⟩))
    refine g_store [some (.ref 16), some (.int t), some (.null)] rfl rfl trivial (Nat.le_of_ble_eq_true rfl) rfl ?_
    have hQ := hF hph
    refine g_load rfl rfl rfl trivial ?_
    refine g_ifnonnull_n rfl ?_
    refine g_iconst (nI 0) rfl (by decide) ?_
    refine g_vret rfl trivial (by first | exact ⟨by decide, by decide⟩ | trivial) (Nat.le_refl _) (Nat.le_refl _) ?_
    exact hQ
  have hTB := hT.2.1
  have kT := hTB.1
  refine g_virtI (a := 16) (ci := 7) (n := 1) [.int (nI t0)] cFr_tr rfl rfl (by decide) rfl (c_ob k16 (by decide) (by rfl)) rfl (Nat.le_of_ble_eq_true rfl) (Nat.le_refl _) (Nat.le_refl _) (c_lift cFr_rf (fun _ h => h) (c_busy hk0 t0 T B n m ht0 hT.1 hTB ⟨_, rfl, ?_⟩))
  refine g_store [some (.ref 16), some (.int (nI t0)), some (.ref T)] rfl rfl trivial (Nat.le_of_ble_eq_true rfl) rfl ?_
  refine g_load rfl rfl rfl trivial ?_
  refine g_ifnonnull_r rfl ?_
  refine g_load rfl rfl rfl trivial ?_
  refine g_virtV (a := T) (ci := 6) (n := 0) [] cFr_tr rfl rfl (by decide) rfl (c_ob (κ := 3) kT (by decide) (by rfl)) rfl (Nat.le_of_ble_eq_true rfl) (Nat.le_refl _) (Nat.le_refl _) (w_tstop T kT ⟨rfl, ?_⟩)
  have hQ := hQ t0 _ ht0 rfl hT.ph (J.leave hJ ht0 hT)
  refine g_iconst (nI 1) rfl (by decide) ?_
  refine g_vret rfl trivial (by first | exact ⟨by decide, by decide⟩ | trivial) (Nat.le_refl _) (Nat.le_refl _) ?_
  exact hQ
set_option maxRecDepth 20000 in
theorem j_back {pr : aC} {d : Nat} {u : cS} {r : rS} {nb nr : Nat} (hJ : J u r nb nr) (t : Int32) {Q : Option Value → cS → Prop} (hF : (phF r t = 0 ∨ nC r t.toNatClampNeg = 0) → Q (some (.int 0)) u) (hQ : ∀ t0 v, t0 < 10 → t = nI t0 → ¬ r.2 28 t0 = 0 → 0 < nC r t0 → J v (uBack r t0 (nC r t0) (mC r t0)) nb nr → Q (some (.int 1)) v) : wR pr (d + 3 + 1) 116 [.ref 16, .int t] u Q := by
  refine gR_of mi_116 cFr_rf rfl (Nat.le_of_ble_eq_true rfl) ?_
  show wB pr (d + 3) cd_116 (Option.some Jvm.ClassFile.FieldType.boolean) Q 0 [some (.ref 16), some (.int t), none] [] u
  have hnr2 := hJ.nr
  obtain ⟨hnr, hr1, _⟩ := hJ.hr
  obtain ⟨hnb, hnb2, hr0⟩ := hJ.hb
  have hk0 := hJ.k
  obtain ⟨k16, k17, k18, k19, k20, k21, k22, k23, k24⟩ := hJ.k
  refine g_load rfl rfl rfl trivial ?_
  refine g_load rfl rfl rfl trivial ?_
  rcases hJ.bz t with ⟨hph, hid⟩ | ⟨t0, T, B, bd, n, m, ht0, rfl, hT⟩
  · refine g_virtI (a := 16) (ci := 7) (n := 1) [.int t] cFr_tr rfl rfl (by decide) rfl (c_ob k16 (by decide) (by rfl)) rfl (Nat.le_of_ble_eq_true rfl) (Nat.le_refl _) (Nat.le_refl _) (c_lift cFr_rf (fun _ h => h) (c_busy_x hk0 t hid ⟨_, rfl, ?_⟩))
    refine g_store [some (.ref 16), some (.int t), some (.null)] rfl rfl trivial (Nat.le_of_ble_eq_true rfl) rfl ?_
    have hQ := hF (Or.inl hph)
    refine g_load rfl rfl rfl trivial ?_
    refine g_ifnull_n rfl ?_
    refine g_iconst (nI 0) rfl (by decide) ?_
    refine g_vret rfl trivial (by first | exact ⟨by decide, by decide⟩ | trivial) (Nat.le_refl _) (Nat.le_refl _) ?_
    exact hQ
  have hTB := hT.2.1
  have kT := hTB.1
  refine g_virtI (a := 16) (ci := 7) (n := 1) [.int (nI t0)] cFr_tr rfl rfl (by decide) rfl (c_ob k16 (by decide) (by rfl)) rfl (Nat.le_of_ble_eq_true rfl) (Nat.le_refl _) (Nat.le_refl _) (c_lift cFr_rf (fun _ h => h) (c_busy hk0 t0 T B n m ht0 hT.1 hTB ⟨_, rfl, ?_⟩))
  refine g_store [some (.ref 16), some (.int (nI t0)), some (.ref T)] rfl rfl trivial (Nat.le_of_ble_eq_true rfl) rfl ?_
  refine g_load rfl rfl rfl trivial ?_
  refine g_ifnull_r rfl ?_
  refine g_load rfl rfl rfl trivial ?_
  refine g_virtI (a := T) (ci := 6) (n := 0) [] cFr_tr rfl rfl (by decide) rfl (c_ob (κ := 3) kT (by decide) (by rfl)) rfl (Nat.le_of_ble_eq_true rfl) (Nat.le_refl _) (Nat.le_refl _) (w_tdrop T B n m hTB hT.ckU (fun e1 e2 => ⟨_, rfl, ?_⟩) (fun e1 e2 => ⟨_, rfl, ?_⟩) (fun e1 => ⟨_, rfl, ?_⟩))
  · refine g_if_eq rfl (fun _ => ?_) (fun c9 => absurd rfl c9)
    refine g_iconst (nI 0) rfl (by decide) ?_
    exact g_vret rfl trivial ⟨by decide, by decide⟩ (Nat.le_refl _) (Nat.le_refl _) (hF (Or.inr (by rw [nI_clamp (by omega), hT.eN]; exact e2)))
  · refine g_if_eq rfl (fun c9 => absurd c9 (by decide)) (fun _ => ?_)
    refine g_iconst (nI 1) rfl (by decide) ?_
    refine g_goto rfl ?_
    subst e1
    exact g_vret rfl trivial ⟨by decide, by decide⟩ (Nat.le_refl _) (Nat.le_refl _) (hQ t0 _ ht0 rfl hT.ph (by rw [hT.eN]; exact e2) (by rw [hT.eN, hT.eM]; exact J.back_n hJ ht0 hT e2))
  · refine g_if_eq rfl (fun c9 => absurd c9 (by decide)) (fun _ => ?_)
    refine g_iconst (nI 1) rfl (by decide) ?_
    refine g_goto rfl ?_
    have hn0 : 0 < n := by
      rcases hT.2.2.2.2.2.2.2.2.2.2.2.2.2.2 with ⟨_, e, _⟩ | ⟨_, e, _⟩
      · omega
      · apply Nat.pos_of_ne_zero
        intro z
        subst z
        unfold ovF at e
        simp at e
    exact g_vret rfl trivial ⟨by decide, by decide⟩ (Nat.le_refl _) (Nat.le_refl _) (hQ t0 _ ht0 rfl hT.ph (by rw [hT.eN]; exact hn0) (by rw [hT.eN, hT.eM]; exact J.back_m hJ ht0 hT e1))
set_option maxRecDepth 20000 in
theorem j_adjust {pr : aC} {d : Nat} {u : cS} {r : rS} {nb nr : Nat} (hJ : J u r nb nr) (i a b : Int32) {Q : Option Value → cS → Prop} (hF : adF nr i a b = false → Q (some (.int 0)) u) (hQ : adF nr i a b = true → ∀ ii v, ii < nr → i = nI ii → J v (uAdj r ii a b) nb nr → Q (some (.int 1)) v) : wR pr (d + 1 + 1) 127 [.ref 16, .int i, .int a, .int b] u Q := by
  refine gR_of mi_127 cFr_rf rfl (Nat.le_of_ble_eq_true rfl) ?_
  show wB pr (d + 1) cd_127 (Option.some Jvm.ClassFile.FieldType.boolean) Q 0 [some (.ref 16), some (.int i), some (.int a), some (.int b), none] [] u
  have hnr2 := hJ.nr
  obtain ⟨hnr, hr1, _⟩ := hJ.hr
  obtain ⟨hnb, hnb2, hr0⟩ := hJ.hb
  have hk0 := hJ.k
  obtain ⟨k16, k17, k18, k19, k20, k21, k22, k23, k24⟩ := hJ.k
  refine g_load rfl rfl rfl trivial ?_
  refine g_load rfl rfl rfl trivial ?_
  cases hii : irF nr i with
  | false =>
    refine g_virtI (a := 16) (ci := 7) (n := 1) [.int i] cFr_tr rfl rfl (by decide) rfl (c_ob k16 (by decide) (by rfl)) rfl (Nat.le_of_ble_eq_true rfl) (Nat.le_refl _) (Nat.le_refl _) (c_lift cFr_rf (fun _ h => h) (c_ratt_n nr hk0 hnr hnr2 i hii ⟨_, rfl, ?_⟩))
    refine g_store [some (.ref 16), some (.int i), some (.int a), some (.int b), some (.null)] rfl rfl trivial (Nat.le_of_ble_eq_true rfl) rfl ?_
    have hQ := hF (by unfold adF; rw [hii]; rfl)
    refine g_load rfl rfl rfl trivial ?_
    refine g_ifnull_n rfl ?_
    refine g_iconst (nI 0) rfl (by decide) ?_
    refine g_vret rfl trivial (by first | exact ⟨by decide, by decide⟩ | trivial) (Nat.le_refl _) (Nat.le_refl _) ?_
    exact hQ
  | true =>
    obtain ⟨ii, hii2, rfl⟩ := irF_of (by omega) hii
    obtain ⟨R, hR⟩ := hJ.rs hii2
    have kR := hR.2.1
    refine g_virtI (a := 16) (ci := 7) (n := 1) [.int (nI ii)] cFr_tr rfl rfl (by decide) rfl (c_ob k16 (by decide) (by rfl)) rfl (Nat.le_of_ble_eq_true rfl) (Nat.le_refl _) (Nat.le_refl _) (c_lift cFr_rf (fun _ h => h) (c_ratt nr hk0 hnr hnr2 ii R hii2 hR.1 ⟨_, rfl, ?_⟩))
    refine g_store [some (.ref 16), some (.int (nI ii)), some (.int a), some (.int b), some (.ref R)] rfl rfl trivial (Nat.le_of_ble_eq_true rfl) rfl ?_
    refine g_load rfl rfl rfl trivial ?_
    refine g_ifnull_r rfl ?_
    refine g_load rfl rfl rfl trivial ?_
    refine g_statI [.int a] cFr_tr rfl rfl rfl (Nat.le_of_ble_eq_true rfl) (Nat.le_refl _) (Nat.le_refl _) (p_isPart cFr_rf cFr_tr a ⟨_, rfl, ?_⟩)
    refine g_if_eq rfl (fun c1 => ?_) (fun c1 => ?_)
    · rw [bI_eq] at c1
      have hQ := hF (by unfold adF; rw [c1]; simp)
      refine g_iconst (nI 0) rfl (by decide) ?_
      refine g_vret rfl trivial (by first | exact ⟨by decide, by decide⟩ | trivial) (Nat.le_refl _) (Nat.le_refl _) ?_
      exact hQ
    · rw [bI_ne] at c1
      have ha := c1
      refine g_load rfl rfl rfl trivial ?_
      refine g_statI [.int b] cFr_tr rfl rfl rfl (Nat.le_of_ble_eq_true rfl) (Nat.le_refl _) (Nat.le_refl _) (p_isPart cFr_rf cFr_tr b ⟨_, rfl, ?_⟩)
      refine g_if_ne rfl (fun c2 => ?_) (fun c2 => ?_)
      · rw [bI_ne] at c2
        have hok : adF nr (nI ii) a b = true := by unfold adF; rw [hii, ha, c2]; rfl
        refine g_load rfl rfl rfl trivial ?_
        refine g_load rfl rfl rfl trivial ?_
        refine g_load rfl rfl rfl trivial ?_
        refine g_virtV (a := R) (ci := 5) (n := 2) [.int a, .int b] cFr_tr rfl rfl (by decide) rfl (c_ob (κ := 9) kR (by decide) (by rfl)) rfl (Nat.le_of_ble_eq_true rfl) (Nat.le_refl _) (Nat.le_refl _) (w_setParts R a b kR (fun v hv => ⟨rfl, ?_⟩))
        have hQ := hQ hok ii v hii2 rfl (J.adjust hJ hii2 hR hv)
        refine g_iconst (nI 1) rfl (by decide) ?_
        refine g_vret rfl trivial (by first | exact ⟨by decide, by decide⟩ | trivial) (Nat.le_refl _) (Nat.le_refl _) ?_
        exact hQ
      · rw [bI_eq] at c2
        have hQ := hF (by unfold adF; rw [c2]; simp)
        refine g_iconst (nI 0) rfl (by decide) ?_
        refine g_vret rfl trivial (by first | exact ⟨by decide, by decide⟩ | trivial) (Nat.le_refl _) (Nat.le_refl _) ?_
        exact hQ
