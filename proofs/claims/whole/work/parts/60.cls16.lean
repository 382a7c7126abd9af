/-! ===== the club beside the reference: what is read of boards and results ===== -/
theorem bH.ho {L : Nat → Int64} {f : Nat → Int32} (h : bH L f) {c : Nat} (hc : c < 52) : oI (hoF L c) = f c := by
  obtain ⟨s, hs, h1, h2⟩ := h.2.1 c hc
  unfold hoF
  rw [first_hit (t := s) (by omega) (by omega) (by rw [h2 s hs]; simp) (fun x _ hx => by rw [h2 x (by omega)]; exact decide_eq_false (by omega)), h1]; rfl
theorem isBd_f {r : rS} {b : Int32} {nb : Nat} (h0 : r.1 0 = nI nb) (h : isBd r b = false) : inF b 1 (nI nb) = false := by unfold isBd at h; rw [h0] at h; exact h
set_option maxRecDepth 20000 in
theorem j_hand {pr : aC} {d : Nat} {u : cS} {r : rS} {nb nr : Nat} (hJ : J u r nb nr) (b c : Int32) {Q : Option Value → cS → Prop} (hQ : Q (some (.int (handF r b c))) u) : cR pr (d + 3 + 1) 110 [.ref 16, .int b, .int c] u Q := by
  refine gR_of mi_110 eF_rf rfl (Nat.le_of_ble_eq_true rfl) ?_
  show cB pr (d + 3) cd_110 (Option.some Jvm.ClassFile.FieldType.int) Q 0 [some (.ref 16), some (.int b), some (.int c), none] [] u
  have hnr2 := hJ.nr
  obtain ⟨hnr, hr1, _⟩ := hJ.hr
  obtain ⟨hnb, hnb2, hr0⟩ := hJ.hb
  have hk0 := hJ.k
  obtain ⟨k16, k17, k18, k19, k20, k21, k22, k23, k24⟩ := hJ.k
  refine g_load rfl rfl rfl trivial ?_
  refine g_load rfl rfl rfl trivial ?_
  cases hbb : isBd r b with
  | false =>
    refine g_virtI (a := 16) (ci := 7) (n := 1) [.int b] eF_tr rfl rfl (by decide) rfl (c_ob k16 (by decide) (by rfl)) rfl (Nat.le_of_ble_eq_true rfl) (Nat.le_refl _) (Nat.le_refl _) (c_bnum_n nb hk0 hnb hnb2 b (isBd_f hr0 hbb) ⟨_, rfl, ?_⟩)
    refine g_store [some (.ref 16), some (.int b), some (.int c), some (.null)] rfl rfl trivial (Nat.le_of_ble_eq_true rfl) rfl ?_
    unfold handF at hQ
    rw [hbb] at hQ
    refine g_load rfl rfl rfl trivial ?_
    refine g_ifnull_n rfl ?_
    refine g_iconst (-1) rfl (by decide) ?_
    refine g_goto rfl ?_
    refine g_vret rfl trivial ⟨rfl, rfl⟩ (Nat.le_refl _) (Nat.le_refl _) ?_
    exact hQ
  | true =>
    obtain ⟨bd, hbd, rfl⟩ := bd_of hbb hr0 (by omega)
    obtain ⟨B, hB⟩ := hJ.bd hbd
    have kB := hB.2.1
    have kB1 := hB.2.2.1
    refine g_virtI (a := 16) (ci := 7) (n := 1) [.int (nI (bd + 1))] eF_tr rfl rfl (by decide) rfl (c_ob k16 (by decide) (by rfl)) rfl (Nat.le_of_ble_eq_true rfl) (Nat.le_refl _) (Nat.le_refl _) (c_bnum nb hk0 hnb hnb2 bd B hbd hB.1 ⟨_, rfl, ?_⟩)
    refine g_store [some (.ref 16), some (.int (nI (bd + 1))), some (.int c), some (.ref B)] rfl rfl trivial (Nat.le_of_ble_eq_true rfl) rfl ?_
    refine g_load rfl rfl rfl trivial ?_
    refine g_ifnull_r rfl ?_
    refine g_load rfl rfl rfl trivial ?_
    refine g_statI [.int c] eF_tr rfl rfl rfl (Nat.le_of_ble_eq_true rfl) (Nat.le_refl _) (Nat.le_refl _) (p_exists eF_rf eF_tr c ⟨_, rfl, ?_⟩)
    refine g_if_ne rfl (fun c1 => ?_) (fun c1 => ?_)
    · rw [bI_ne] at c1
      obtain ⟨c0, hc0, rfl⟩ := cd_of c1
      unfold handF at hQ
      rw [hbb, c1, nI_clamp (by omega), nI_clamp (by omega)] at hQ
      simp only [Bool.and_self, if_true, Nat.add_sub_cancel] at hQ
      refine g_load rfl rfl rfl trivial ?_
      refine g_load rfl rfl rfl trivial ?_
      refine g_virtI (a := B) (ci := 2) (n := 1) [.int (nI c0)] eF_tr rfl rfl (by decide) rfl (c_ob (by assumption) (by decide) (by rfl)) rfl (Nat.le_of_ble_eq_true rfl) (Nat.le_refl _) (Nat.le_refl _) (c_holder B kB kB1 c0 (by omega) ⟨_, rfl, ?_⟩)
      rw [hB.2.2.2.2.2.2.2.ho hc0]
      refine g_vret rfl trivial ⟨rfl, rfl⟩ (Nat.le_refl _) (Nat.le_refl _) ?_
      exact hQ
    · rw [bI_eq] at c1
      unfold handF at hQ
      rw [hbb, c1] at hQ
      refine g_iconst (-1) rfl (by decide) ?_
      refine g_goto rfl ?_
      refine g_vret rfl trivial ⟨rfl, rfl⟩ (Nat.le_refl _) (Nat.le_refl _) ?_
      exact hQ
theorem J.tw {u : cS} {r : rS} {nb nr : Nat} (hJ : J u r nb nr) (x : Int32) : ∀ t, t < 10 → tWk u (fun _ B => decide (u.oI B 0 = x)) (tabF r x) t := by
  intro t ht
  rcases hJ.tb ht with ⟨h1, h2⟩ | ⟨T, B, bd, n, m, h⟩
  · exact Or.inl ⟨h2, by unfold tabF; simp [h1]⟩
  · refine Or.inr ⟨T, B, n, m, h.1, h.2.1, ?_⟩
    obtain ⟨B', hB⟩ := hJ.bd h.2.2.1
    have e : B' = B := by have := hB.1; rw [h.2.2.2.1] at this; exact (Option.some.inj this).symm
    subst e
    unfold tabF
    show _ = decide (u.oI B' 0 = x)
    rw [hB.2.2.2.1, h.2.2.2.2.1]
    simp [h.ph]
theorem J.tz {u : cS} {r : rS} {nb nr : Nat} (hJ : J u r nb nr) : ∀ t, t < 10 → tWk u (fun _ _ => true) (fun t => decide (¬ r.2 28 t = 0)) t := by
  intro t ht
  rcases hJ.tb ht with ⟨h1, h2⟩ | ⟨T, B, bd, n, m, h⟩
  · exact Or.inl ⟨h2, by simp [h1]⟩
  · exact Or.inr ⟨T, B, n, m, h.1, h.2.1, by simp [h.ph]⟩
theorem J.tp {u : cS} {r : rS} {nb nr : Nat} (hJ : J u r nb nr) (p : Int32) : ∀ t, t < 10 → tWk u (fun T _ => sdB u p T) (playF r p) t := by
  intro t ht
  rcases hJ.tb ht with ⟨h1, h2⟩ | ⟨T, B, bd, n, m, h⟩
  · exact Or.inl ⟨h2, by unfold playF; simp [h1]⟩
  · refine Or.inr ⟨T, B, n, m, h.1, h.2.1, ?_⟩
    obtain ⟨q1, q2, q3⟩ := h.2.2.2.2.2.1
    show playF r p t = sdB u p T
    unfold playF sdB sdF
    rw [q1, q2]
    by_cases e1 : p = r.2 30 (2 * t)
    · rw [if_pos e1]; simp [e1.symm, h.ph]
    · rw [if_neg e1]
      by_cases e2 : p = r.2 30 (2 * t + 1)
      · rw [if_pos e2]; simp [e2.symm, h.ph]
      · rw [if_neg e2]; simp [Ne.symm e1, Ne.symm e2]
theorem sw4 {w : Int32} {n : Nat} (h : w.toInt < 0 ∨ ((n : Nat) : Int) < w.toInt) (k : Nat) (hk : k ≤ n) (hn : n < 2 ^ 31) : ¬ w = nI k := by
  intro e
  rw [e, nI_toInt (by omega)] at h
  omega
set_option maxRecDepth 20000 in
theorem j_board {pr : aC} {d : Nat} {u : cS} {r : rS} {nb nr : Nat} (hJ : J u r nb nr) (b w : Int32) {Q : Option Value → cS → Prop} (hQ : Q (some (.int (bdF r nr b w))) u) : cR pr (d + 3 + 1) 111 [.ref 16, .int b, .int w] u Q := by
  refine gR_of mi_111 eF_rf rfl (Nat.le_of_ble_eq_true rfl) ?_
  show cB pr (d + 3) cd_111 (Option.some Jvm.ClassFile.FieldType.int) Q 0 [some (.ref 16), some (.int b), some (.int w), none] [] u
  have hnr2 := hJ.nr
  obtain ⟨hnr, hr1, _⟩ := hJ.hr
  obtain ⟨hnb, hnb2, hr0⟩ := hJ.hb
  have hk0 := hJ.k
  obtain ⟨k16, k17, k18, k19, k20, k21, k22, k23, k24⟩ := hJ.k
  refine g_load rfl rfl rfl trivial ?_
  refine g_load rfl rfl rfl trivial ?_
  cases hbb : isBd r b with
  | false =>
    refine g_virtI (a := 16) (ci := 7) (n := 1) [.int b] eF_tr rfl rfl (by decide) rfl (c_ob k16 (by decide) (by rfl)) rfl (Nat.le_of_ble_eq_true rfl) (Nat.le_refl _) (Nat.le_refl _) (c_bnum_n nb hk0 hnb hnb2 b (isBd_f hr0 hbb) ⟨_, rfl, ?_⟩)
    refine g_store [some (.ref 16), some (.int b), some (.int w), some (.null)] rfl rfl trivial (Nat.le_of_ble_eq_true rfl) rfl ?_
    unfold bdF at hQ
    rw [hbb] at hQ
    refine g_load rfl rfl rfl trivial ?_
    refine g_ifnonnull_n rfl ?_
    refine g_iconst (-1) rfl (by decide) ?_
    refine g_vret rfl trivial ⟨rfl, rfl⟩ (Nat.le_refl _) (Nat.le_refl _) ?_
    exact hQ
  | true =>
    obtain ⟨bd, hbd, rfl⟩ := bd_of hbb hr0 (by omega)
    obtain ⟨B, hB⟩ := hJ.bd hbd
    have kB := hB.2.1
    have kB1 := hB.2.2.1
    refine g_virtI (a := 16) (ci := 7) (n := 1) [.int (nI (bd + 1))] eF_tr rfl rfl (by decide) rfl (c_ob k16 (by decide) (by rfl)) rfl (Nat.le_of_ble_eq_true rfl) (Nat.le_refl _) (Nat.le_refl _) (c_bnum nb hk0 hnb hnb2 bd B hbd hB.1 ⟨_, rfl, ?_⟩)
    refine g_store [some (.ref 16), some (.int (nI (bd + 1))), some (.int w), some (.ref B)] rfl rfl trivial (Nat.le_of_ble_eq_true rfl) rfl ?_
    unfold bdF at hQ
    rw [hbb] at hQ
    simp only [if_true, nI_clamp (show bd + 1 < 2 ^ 31 by omega), Nat.add_sub_cancel] at hQ
    refine g_load rfl rfl rfl trivial ?_
    refine g_ifnonnull_r rfl ?_
    refine g_load rfl rfl rfl trivial ?_
    by_cases hsw : w.toInt < 0 ∨ 3 < w.toInt
    · refine g_tabOut 23 rfl hsw rfl ?_
      rw [if_neg (sw4 (n := 3) hsw 0 (by decide) (by decide)), if_neg (sw4 (n := 3) hsw 1 (by decide) (by decide)), if_neg (sw4 (n := 3) hsw 2 (by decide) (by decide)), if_neg (sw4 (n := 3) hsw 3 (by decide) (by decide))] at hQ
      refine g_iconst (-1) rfl (by decide) ?_
      refine g_vret rfl trivial ⟨rfl, rfl⟩ (Nat.le_refl _) (Nat.le_refl _) ?_
      exact hQ
    obtain ⟨ksw, hk, rfl⟩ := sw_of (x := w) (n := 3) hsw
    rcases (show ksw = 0 ∨ ksw = 1 ∨ ksw = 2 ∨ ksw = 3 by omega) with rfl | rfl | rfl | rfl
    · refine g_tabIn (31) 10 rfl (by decide) (by decide) rfl rfl ?_
      rw [if_pos rfl] at hQ
      refine g_load rfl rfl rfl trivial ?_
      refine g_virtI (a := B) (ci := 2) (n := 0) [] eF_tr rfl rfl (by decide) rfl (c_ob (by assumption) (by decide) (by rfl)) rfl (Nat.le_of_ble_eq_true rfl) (Nat.le_refl _) (Nat.le_refl _) (c_bdealer B bd kB hB.2.2.2.1 (by omega) ⟨_, rfl, ?_⟩)
      refine g_vret rfl trivial ⟨rfl, rfl⟩ (Nat.le_refl _) (Nat.le_refl _) ?_
      exact hQ
    · refine g_tabIn (36) 13 rfl (by decide) (by decide) rfl rfl ?_
      rw [if_neg (by decide), if_pos rfl] at hQ
      refine g_load rfl rfl rfl trivial ?_
      refine g_virtI (a := B) (ci := 2) (n := 0) [] eF_tr rfl rfl (by decide) rfl (c_ob (by assumption) (by decide) (by rfl)) rfl (Nat.le_of_ble_eq_true rfl) (Nat.le_refl _) (Nat.le_refl _) (c_vulnerability B bd kB hB.2.2.2.1 (by omega) ⟨_, rfl, ?_⟩)
      refine g_vret rfl trivial ⟨rfl, rfl⟩ (Nat.le_refl _) (Nat.le_refl _) ?_
      exact hQ
    · refine g_tabIn (41) 16 rfl (by decide) (by decide) rfl rfl ?_
      rw [if_neg (by decide), if_neg (by decide), if_pos rfl] at hQ
      refine g_load rfl rfl rfl trivial ?_
      refine g_virtI (a := B) (ci := 2) (n := 0) [] eF_tr rfl rfl (by decide) rfl (c_ob (by assumption) (by decide) (by rfl)) rfl (Nat.le_of_ble_eq_true rfl) (Nat.le_refl _) (Nat.le_refl _) (c_resultsSoFar B kB ⟨_, rfl, ?_⟩)
      rw [hB.2.2.2.2.2.2.1]
      refine g_vret rfl trivial ⟨rfl, rfl⟩ (Nat.le_refl _) (Nat.le_refl _) ?_
      exact hQ
    · refine g_tabIn (46) 19 rfl (by decide) (by decide) rfl rfl ?_
      rw [if_neg (by decide), if_neg (by decide), if_neg (by decide), if_pos rfl] at hQ
      refine g_load rfl rfl rfl trivial ?_
      refine g_load rfl rfl rfl trivial ?_
      refine g_virtI (a := 16) (ci := 7) (n := 1) [.int (nI (bd + 1))] eF_tr rfl rfl (by decide) rfl (c_ob k16 (by decide) (by rfl)) rfl (Nat.le_of_ble_eq_true rfl) (Nat.le_refl _) (Nat.le_refl _) (c_twb hk0 (nI (bd + 1)) (tabF r (nI (bd + 1))) (hJ.tw (nI (bd + 1))) ⟨_, rfl, ?_⟩)
      refine g_vret rfl trivial ⟨rfl, rfl⟩ (Nat.le_refl _) (Nat.le_refl _) ?_
      exact hQ
theorem rt_rs {u : cS} {r : rS} {nb nr i R : Nat} (hR : rJ u r nb i R) (hi : i < nr) (hn : nr ≤ 209) (w : Int32) : rtF (u.oI R) w = rsF r nr (nI i) w := by
  unfold rsF
  rw [irF_t (by omega) hi, if_pos rfl, nI_clamp (by omega)]
  by_cases hsw : w.toInt < 0 ∨ ((9 : Nat) : Int) < w.toInt
  · rw [rt_out hsw, if_neg (sw4 (n := 9) hsw 0 (by decide) (by decide)), if_neg (sw4 (n := 9) hsw 1 (by decide) (by decide)), if_neg (sw4 (n := 9) hsw 2 (by decide) (by decide)), if_neg (sw4 (n := 9) hsw 3 (by decide) (by decide)), if_neg (sw4 (n := 9) hsw 4 (by decide) (by decide)), if_neg (sw4 (n := 9) hsw 5 (by decide) (by decide)), if_neg (sw4 (n := 9) hsw 6 (by decide) (by decide)), if_neg (sw4 (n := 9) hsw 7 (by decide) (by decide)), if_neg (sw4 (n := 9) hsw 8 (by decide) (by decide)), if_neg (sw4 (n := 9) hsw 9 (by decide) (by decide))]
  · obtain ⟨ksw, hk, rfl⟩ := sw_of (x := w) (n := 9) hsw
    obtain ⟨h1, h2, r0, r1, r2, r3, r4, r5, r6, r7, r8, r9, _⟩ := hR
    rw [rt_in _ ksw hk]
    rcases (show ksw = 0 ∨ ksw = 1 ∨ ksw = 2 ∨ ksw = 3 ∨ ksw = 4 ∨ ksw = 5 ∨ ksw = 6 ∨ ksw = 7 ∨ ksw = 8 ∨ ksw = 9 by omega) with rfl | rfl | rfl | rfl | rfl | rfl | rfl | rfl | rfl | rfl
    · rw [if_pos rfl]; exact r0
    · rw [if_neg (by decide), if_pos rfl]; exact r1
    · rw [if_neg (by decide), if_neg (by decide), if_pos rfl]; exact r2
    · rw [if_neg (by decide), if_neg (by decide), if_neg (by decide), if_pos rfl]; exact r3
    · rw [if_neg (by decide), if_neg (by decide), if_neg (by decide), if_neg (by decide), if_pos rfl]; exact r4
    · rw [if_neg (by decide), if_neg (by decide), if_neg (by decide), if_neg (by decide), if_neg (by decide), if_pos rfl]; exact r5
    · rw [if_neg (by decide), if_neg (by decide), if_neg (by decide), if_neg (by decide), if_neg (by decide), if_neg (by decide), if_pos rfl]; exact r6
    · rw [if_neg (by decide), if_neg (by decide), if_neg (by decide), if_neg (by decide), if_neg (by decide), if_neg (by decide), if_neg (by decide), if_pos rfl]; exact r7
    · rw [if_neg (by decide), if_neg (by decide), if_neg (by decide), if_neg (by decide), if_neg (by decide), if_neg (by decide), if_neg (by decide), if_neg (by decide), if_pos rfl]; exact r8
    · rw [if_neg (by decide), if_neg (by decide), if_neg (by decide), if_neg (by decide), if_neg (by decide), if_neg (by decide), if_neg (by decide), if_neg (by decide), if_neg (by decide), if_pos rfl]
      have := rJ.x ⟨h1, h2, r0, r1, r2, r3, r4, r5, r6, r7, r8, r9, by assumption⟩
      rw [this]
      by_cases e : r.2 44 i = 0
      · rw [if_pos e]; simp [e, bI]
      · rw [if_neg e]; simp [e, bI]
set_option maxRecDepth 20000 in
theorem j_result {pr : aC} {d : Nat} {u : cS} {r : rS} {nb nr : Nat} (hJ : J u r nb nr) (i w : Int32) {Q : Option Value → cS → Prop} (hQ : Q (some (.int (rsF r nr i w))) u) : cR pr (d + 1 + 1) 126 [.ref 16, .int i, .int w] u Q := by
  refine gR_of mi_126 eF_rf rfl (Nat.le_of_ble_eq_true rfl) ?_
  show cB pr (d + 1) cd_126 (Option.some Jvm.ClassFile.FieldType.int) Q 0 [some (.ref 16), some (.int i), some (.int w), none] [] u
  have hnr2 := hJ.nr
  obtain ⟨hnr, hr1, _⟩ := hJ.hr
  obtain ⟨hnb, hnb2, hr0⟩ := hJ.hb
  have hk0 := hJ.k
  obtain ⟨k16, k17, k18, k19, k20, k21, k22, k23, k24⟩ := hJ.k
  refine g_load rfl rfl rfl trivial ?_
  refine g_load rfl rfl rfl trivial ?_
  cases hii : irF nr i with
  | false =>
    refine g_virtI (a := 16) (ci := 7) (n := 1) [.int i] eF_tr rfl rfl (by decide) rfl (c_ob k16 (by decide) (by rfl)) rfl (Nat.le_of_ble_eq_true rfl) (Nat.le_refl _) (Nat.le_refl _) (c_ratt_n nr hk0 hnr hnr2 i hii ⟨_, rfl, ?_⟩)
    refine g_store [some (.ref 16), some (.int i), some (.int w), some (.null)] rfl rfl trivial (Nat.le_of_ble_eq_true rfl) rfl ?_
    unfold rsF at hQ
    rw [hii, if_neg (by decide)] at hQ
    refine g_load rfl rfl rfl trivial ?_
    refine g_ifnonnull_n rfl ?_
    refine g_load rfl rfl rfl trivial ?_
    refine g_bipush (nI 8) rfl (by decide) ?_
    refine g_icmp_ne rfl (fun c1 => ?_) (fun c1 => ?_)
    · rw [if_neg (show ¬ w = nI 8 from c1)] at hQ
      refine g_iconst (-1) rfl (by decide) ?_
      refine g_vret rfl trivial ⟨rfl, rfl⟩ (Nat.le_refl _) (Nat.le_refl _) ?_
      exact hQ
    · rw [if_pos (show w = nI 8 from c1)] at hQ
      refine g_ldc (-2147483648) rfl ⟨_, Or.inl rfl⟩ (by decide) ?_
      refine g_goto rfl ?_
      refine g_vret rfl trivial ⟨rfl, rfl⟩ (Nat.le_refl _) (Nat.le_refl _) ?_
      exact hQ
  | true =>
    obtain ⟨ii, hii2, rfl⟩ := irF_of (by omega) hii
    obtain ⟨R, hR⟩ := hJ.rs hii2
    have kR := hR.2.1
    refine g_virtI (a := 16) (ci := 7) (n := 1) [.int (nI ii)] eF_tr rfl rfl (by decide) rfl (c_ob k16 (by decide) (by rfl)) rfl (Nat.le_of_ble_eq_true rfl) (Nat.le_refl _) (Nat.le_refl _) (c_ratt nr hk0 hnr hnr2 ii R hii2 hR.1 ⟨_, rfl, ?_⟩)
    refine g_store [some (.ref 16), some (.int (nI ii)), some (.int w), some (.ref R)] rfl rfl trivial (Nat.le_of_ble_eq_true rfl) rfl ?_
    rw [← rt_rs hR hii2 hnr2] at hQ
    refine g_load rfl rfl rfl trivial ?_
    refine g_ifnonnull_r rfl ?_
    refine g_load rfl rfl rfl trivial ?_
    refine g_load rfl rfl rfl trivial ?_
    refine g_virtI (a := R) (ci := 5) (n := 1) [.int w] eF_tr rfl rfl (by decide) rfl (c_ob (by assumption) (by decide) (by rfl)) rfl (Nat.le_of_ble_eq_true rfl) (Nat.le_refl _) (Nat.le_refl _) (c_rtell R kR w _ hR.x ⟨_, rfl, ?_⟩)
    refine g_vret rfl trivial ⟨rfl, rfl⟩ (Nat.le_refl _) (Nat.le_refl _) ?_
    exact hQ
def pnt (r : rS) (nr : Nat) (i s : Int32) : Int32 := if irF nr i && inF s 0 1 then ptF r nr i.toNatClampNeg s.toNatClampNeg else -1
set_option maxRecDepth 20000 in
theorem j_points {pr : aC} {d : Nat} {u : cS} {r : rS} {nb nr : Nat} (hJ : J u r nb nr) (i s : Int32) {Q : Option Value → cS → Prop} (hQ : Q (some (.int (pnt r nr i s))) u) : cR pr (d + 3 + 1) 130 [.ref 16, .int i, .int s] u Q := by
  refine gR_of mi_130 eF_rf rfl (Nat.le_of_ble_eq_true rfl) ?_
  show cB pr (d + 3) cd_130 (Option.some Jvm.ClassFile.FieldType.int) Q 0 [some (.ref 16), some (.int i), some (.int s), none] [] u
  have hnr2 := hJ.nr
  obtain ⟨hnr, hr1, _⟩ := hJ.hr
  obtain ⟨hnb, hnb2, hr0⟩ := hJ.hb
  have hk0 := hJ.k
  obtain ⟨k16, k17, k18, k19, k20, k21, k22, k23, k24⟩ := hJ.k
  refine g_load rfl rfl rfl trivial ?_
  refine g_load rfl rfl rfl trivial ?_
  cases hii : irF nr i with
  | false =>
    refine g_virtI (a := 16) (ci := 7) (n := 1) [.int i] eF_tr rfl rfl (by decide) rfl (c_ob k16 (by decide) (by rfl)) rfl (Nat.le_of_ble_eq_true rfl) (Nat.le_refl _) (Nat.le_refl _) (c_ratt_n nr hk0 hnr hnr2 i hii ⟨_, rfl, ?_⟩)
    refine g_store [some (.ref 16), some (.int i), some (.int s), some (.null)] rfl rfl trivial (Nat.le_of_ble_eq_true rfl) rfl ?_
    unfold pnt at hQ
    rw [hii, Bool.false_and, if_neg (by decide)] at hQ
    refine g_load rfl rfl rfl trivial ?_
    refine g_ifnull_n rfl ?_
    refine g_iconst (-1) rfl (by decide) ?_
    refine g_goto rfl ?_
    refine g_vret rfl trivial ⟨rfl, rfl⟩ (Nat.le_refl _) (Nat.le_refl _) ?_
    exact hQ
  | true =>
    obtain ⟨ii, hii2, rfl⟩ := irF_of (by omega) hii
    obtain ⟨R, hR⟩ := hJ.rs hii2
    have kR := hR.2.1
    refine g_virtI (a := 16) (ci := 7) (n := 1) [.int (nI ii)] eF_tr rfl rfl (by decide) rfl (c_ob k16 (by decide) (by rfl)) rfl (Nat.le_of_ble_eq_true rfl) (Nat.le_refl _) (Nat.le_refl _) (c_ratt nr hk0 hnr hnr2 ii R hii2 hR.1 ⟨_, rfl, ?_⟩)
    refine g_store [some (.ref 16), some (.int (nI ii)), some (.int s), some (.ref R)] rfl rfl trivial (Nat.le_of_ble_eq_true rfl) rfl ?_
    unfold pnt at hQ
    rw [hii, Bool.true_and] at hQ
    refine g_load rfl rfl rfl trivial ?_
    refine g_ifnull_r rfl ?_
    refine g_load rfl rfl rfl trivial ?_
    refine g_if_lt rfl (fun c1 => ?_) (fun c1 => ?_)
    · rw [show inF s 0 1 = false by unfold inF; simp [show ¬ (0 : Int32) ≤ s from Int32.not_le.mpr c1], if_neg (by decide)] at hQ
      refine g_iconst (-1) rfl (by decide) ?_
      refine g_goto rfl ?_
      refine g_vret rfl trivial ⟨rfl, rfl⟩ (Nat.le_refl _) (Nat.le_refl _) ?_
      exact hQ
    · have hs0 := c1
      refine g_load rfl rfl rfl trivial ?_
      refine g_iconst (nI 1) rfl (by decide) ?_
      refine g_icmp_le rfl (fun c2 => ?_) (fun c2 => ?_)
      · obtain ⟨s0, hs1, rfl⟩ := nI_of hs0
        rw [nI_leI (by omega) (by omega)] at c2
        rw [show inF (nI s0) 0 1 = true by show (decide (nI 0 ≤ nI s0) && decide (nI s0 ≤ nI 1)) = true; rw [decide_eq_true ((nI_leI (by omega) (by omega)).mpr (by omega)), decide_eq_true ((nI_leI (by omega) (by omega)).mpr (by omega))]; rfl, if_pos rfl, nI_clamp (by omega), nI_clamp (by omega)] at hQ
        refine g_load rfl rfl rfl trivial ?_
        refine g_load rfl rfl rfl trivial ?_
        refine g_load rfl rfl rfl trivial ?_
        refine g_load rfl rfl rfl trivial ?_
        refine g_virtI (a := 16) (ci := 7) (n := 3) [.ref R, .int (nI ii), .int (nI s0)] eF_tr rfl rfl (by decide) rfl (c_ob k16 (by decide) (by rfl)) rfl (Nat.le_of_ble_eq_true rfl) (Nat.le_refl _) (Nat.le_refl _) (c_pts hJ ii R s0 hii2 hR (by omega) ⟨_, rfl, ?_⟩)
        refine g_vret rfl trivial ⟨rfl, rfl⟩ (Nat.le_refl _) (Nat.le_refl _) ?_
        exact hQ
      · rw [show inF s 0 1 = false by unfold inF; simp [show ¬ s ≤ (1 : Int32) from c2], if_neg (by decide)] at hQ
        refine g_iconst (-1) rfl (by decide) ?_
        refine g_goto rfl ?_
        refine g_vret rfl trivial ⟨rfl, rfl⟩ (Nat.le_refl _) (Nat.le_refl _) ?_
        exact hQ
set_option maxRecDepth 20000 in
theorem j_total {pr : aC} {d : Nat} {u : cS} {r : rS} {nb nr : Nat} (hJ : J u r nb nr) (p : Int32) {Q : Option Value → cS → Prop} (hQ : Q (some (.int (ttF r nr p))) u) : cR pr (d + 4 + 1) 131 [.ref 16, .int p] u Q := by
  refine gR_of mi_131 eF_rf rfl (Nat.le_of_ble_eq_true rfl) ?_
  show cB pr (d + 4) cd_131 (Option.some Jvm.ClassFile.FieldType.int) Q 0 [some (.ref 16), some (.int p)] [] u
  have hnr2 := hJ.nr
  obtain ⟨hnr, hr1, _⟩ := hJ.hr
  obtain ⟨hnb, hnb2, hr0⟩ := hJ.hb
  have hk0 := hJ.k
  obtain ⟨k16, k17, k18, k19, k20, k21, k22, k23, k24⟩ := hJ.k
  refine g_load rfl rfl rfl trivial ?_
  refine g_load rfl rfl rfl trivial ?_
  refine g_virtI (a := 16) (ci := 7) (n := 1) [.int p] eF_tr rfl rfl (by decide) rfl (c_ob k16 (by decide) (by rfl)) rfl (Nat.le_of_ble_eq_true rfl) (Nat.le_refl _) (Nat.le_refl _) (c_hres nr hk0 hnr hnr2 p (hrF r p) (hJ.hq p) ⟨_, rfl, ?_⟩)
  refine g_if_eq rfl (fun c1 => ?_) (fun c1 => ?_)
  · rw [bI_eq] at c1
    unfold ttF at hQ
    rw [c1, if_neg (by decide)] at hQ
    refine g_iconst (-1) rfl (by decide) ?_
    refine g_vret rfl trivial ⟨rfl, rfl⟩ (Nat.le_refl _) (Nat.le_refl _) ?_
    exact hQ
  · rw [bI_ne] at c1
    unfold ttF at hQ
    rw [if_pos c1] at hQ
    refine g_load rfl rfl rfl trivial ?_
    refine g_load rfl rfl rfl trivial ?_
    refine g_virtI (a := 16) (ci := 7) (n := 1) [.int p] eF_tr rfl rfl (by decide) rfl (c_ob k16 (by decide) (by rfl)) rfl (Nat.le_of_ble_eq_true rfl) (Nat.le_refl _) (Nat.le_refl _) (c_pop hJ p ⟨_, rfl, ?_⟩)
    refine g_goto rfl ?_
    refine g_vret rfl trivial ⟨rfl, rfl⟩ (Nat.le_refl _) (Nat.le_refl _) ?_
    exact hQ
set_option maxRecDepth 20000 in
theorem j_top {pr : aC} {d : Nat} {u : cS} {r : rS} {nb nr : Nat} (hJ : J u r nb nr) (p : Int32) {Q : Option Value → cS → Prop} (hQ : Q (some (.int (tpF r nr p))) u) : cR pr (d + 3 + 1) 132 [.ref 16, .int p] u Q := by
  refine gR_of mi_132 eF_rf rfl (Nat.le_of_ble_eq_true rfl) ?_
  show cB pr (d + 3) cd_132 (Option.some Jvm.ClassFile.FieldType.int) Q 0 [some (.ref 16), some (.int p)] [] u
  have hnr2 := hJ.nr
  obtain ⟨hnr, hr1, _⟩ := hJ.hr
  obtain ⟨hnb, hnb2, hr0⟩ := hJ.hb
  have hk0 := hJ.k
  obtain ⟨k16, k17, k18, k19, k20, k21, k22, k23, k24⟩ := hJ.k
  refine g_load rfl rfl rfl trivial ?_
  refine g_load rfl rfl rfl trivial ?_
  refine g_virtI (a := 16) (ci := 7) (n := 1) [.int p] eF_tr rfl rfl (by decide) rfl (c_ob k16 (by decide) (by rfl)) rfl (Nat.le_of_ble_eq_true rfl) (Nat.le_refl _) (Nat.le_refl _) (c_hres nr hk0 hnr hnr2 p (hrF r p) (hJ.hq p) ⟨_, rfl, ?_⟩)
  refine g_if_eq rfl (fun c1 => ?_) (fun c1 => ?_)
  · rw [bI_eq] at c1
    unfold tpF at hQ
    rw [c1, if_neg (by decide)] at hQ
    refine g_iconst (-1) rfl (by decide) ?_
    refine g_vret rfl trivial ⟨rfl, rfl⟩ (Nat.le_refl _) (Nat.le_refl _) ?_
    exact hQ
  · rw [bI_ne] at c1
    unfold tpF at hQ
    rw [if_pos c1] at hQ
    refine g_load rfl rfl rfl trivial ?_
    refine g_load rfl rfl rfl trivial ?_
    refine g_virtI (a := 16) (ci := 7) (n := 1) [.int p] eF_tr rfl rfl (by decide) rfl (c_ob k16 (by decide) (by rfl)) rfl (Nat.le_of_ble_eq_true rfl) (Nat.le_refl _) (Nat.le_refl _) (c_mop hJ p ⟨_, rfl, ?_⟩)
    refine g_goto rfl ?_
    refine g_vret rfl trivial ⟨rfl, rfl⟩ (Nat.le_refl _) (Nat.le_refl _) ?_
    exact hQ
set_option maxRecDepth 20000 in
theorem j_count {pr : aC} {d : Nat} {u : cS} {r : rS} {nb nr : Nat} (hJ : J u r nb nr) (w : Int32) {Q : Option Value → cS → Prop} (hQ : Q (some (.int (ctF r nr w))) u) : cR pr (d + 3 + 1) 137 [.ref 16, .int w] u Q := by
  refine gR_of mi_137 eF_rf rfl (Nat.le_of_ble_eq_true rfl) ?_
  show cB pr (d + 3) cd_137 (Option.some Jvm.ClassFile.FieldType.int) Q 0 [some (.ref 16), some (.int w)] [] u
  have hnr2 := hJ.nr
  obtain ⟨hnr, hr1, _⟩ := hJ.hr
  obtain ⟨hnb, hnb2, hr0⟩ := hJ.hb
  have hk0 := hJ.k
  obtain ⟨k16, k17, k18, k19, k20, k21, k22, k23, k24⟩ := hJ.k
  unfold ctF at hQ
  refine g_load rfl rfl rfl trivial ?_
  by_cases hsw : w.toInt < 0 ∨ 3 < w.toInt
  · refine g_tabOut 14 rfl hsw rfl ?_
    rw [if_neg (sw4 (n := 3) hsw 0 (by decide) (by decide)), if_neg (sw4 (n := 3) hsw 1 (by decide) (by decide)), if_neg (sw4 (n := 3) hsw 2 (by decide) (by decide)), if_neg (sw4 (n := 3) hsw 3 (by decide) (by decide))] at hQ
    refine g_iconst (-1) rfl (by decide) ?_
    refine g_vret rfl trivial ⟨rfl, rfl⟩ (Nat.le_refl _) (Nat.le_refl _) ?_
    exact hQ
  obtain ⟨ksw, hk, rfl⟩ := sw_of (x := w) (n := 3) hsw
  rcases (show ksw = 0 ∨ ksw = 1 ∨ ksw = 2 ∨ ksw = 3 by omega) with rfl | rfl | rfl | rfl
  · refine g_tabIn (31) 2 rfl (by decide) (by decide) rfl rfl ?_
    rw [if_pos rfl, hr0, ← hnb] at hQ
    refine g_load rfl rfl rfl trivial ?_
    refine c_getf rfl (by assumption) (by decide) (by rfl) (by rfl) ?_
    refine g_vret rfl trivial ⟨rfl, rfl⟩ (Nat.le_refl _) (Nat.le_refl _) ?_
    exact hQ
  · refine g_tabIn (36) 5 rfl (by decide) (by decide) rfl rfl ?_
    rw [if_neg (by decide), if_pos rfl, hr1, ← hnr] at hQ
    refine g_load rfl rfl rfl trivial ?_
    refine c_getf rfl (by assumption) (by decide) (by rfl) (by rfl) ?_
    refine g_vret rfl trivial ⟨rfl, rfl⟩ (Nat.le_refl _) (Nat.le_refl _) ?_
    exact hQ
  · refine g_tabIn (41) 8 rfl (by decide) (by decide) rfl rfl ?_
    rw [if_neg (by decide), if_neg (by decide), if_pos rfl] at hQ
    refine g_load rfl rfl rfl trivial ?_
    refine g_virtI (a := 16) (ci := 7) (n := 0) [] eF_tr rfl rfl (by decide) rfl (c_ob k16 (by decide) (by rfl)) rfl (Nat.le_of_ble_eq_true rfl) (Nat.le_refl _) (Nat.le_refl _) (c_bts hk0 (fun t => decide (¬ r.2 28 t = 0)) hJ.tz ⟨_, rfl, ?_⟩)
    refine g_vret rfl trivial ⟨rfl, rfl⟩ (Nat.le_refl _) (Nat.le_refl _) ?_
    exact hQ
  · refine g_tabIn (46) 11 rfl (by decide) (by decide) rfl rfl ?_
    rw [if_neg (by decide), if_neg (by decide), if_neg (by decide), if_pos rfl] at hQ
    refine g_load rfl rfl rfl trivial ?_
    refine g_virtI (a := 16) (ci := 7) (n := 0) [] eF_tr rfl rfl (by decide) rfl (c_ob k16 (by decide) (by rfl)) rfl (Nat.le_of_ble_eq_true rfl) (Nat.le_refl _) (Nat.le_refl _) (c_pwr nr hk0 hnr hnr2 (fun k => hrF r (nI k)) (fun k _ => hJ.hq (nI k)) ⟨_, rfl, ?_⟩)
    refine g_vret rfl trivial ⟨rfl, rfl⟩ (Nat.le_refl _) (Nat.le_refl _) ?_
    exact hQ
