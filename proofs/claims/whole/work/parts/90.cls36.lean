/-! ===== the club beside the reference: write, out ===== -/
/-- the text of result i -/
def txO (r : rS) (i : Nat) (L : List Nat) : Prop := (r.2 37 i = 0 ∧ L = [112, 97, 115, 115]) ∨ ∃ lv sr dc db tk, 1 ≤ lv ∧ lv ≤ 7 ∧ sr ≤ 4 ∧ dc < 4 ∧ db ≤ 2 ∧ tk ≤ 13 ∧ r.2 37 i = nI lv ∧ r.2 38 i = nI sr ∧ r.2 39 i = nI dc ∧ r.2 40 i = nI db ∧ r.2 41 i = nI tk ∧ L = txL lv sr dc db tk
theorem J.write {u v : cS} {r w : rS} {nb nr : Nat} {L : List Nat} (hJ : J u r nb nr) (hE : onS u v) (hS : sbJ v L) (hX : rtx r w L) : J v w nb nr := by
  obtain ⟨x1, x2, x3, x4⟩ := hX
  obtain ⟨k16, k17, k18, k19, k20, k21, k22, k23, k24⟩ := hJ.k
  have ag : ∀ a, a ≠ 23 → a ≠ 24 → agr u v a := fun a n1 n2 => ⟨by rw [hE.1], hE.2.2.2.2.1 a n1, hE.2.2.2.2.2 a n2, by rw [hE.2.2.1], by rw [hE.2.2.2.1]⟩
  have agk : ∀ a κ, u.kd a = κ → κ ≠ 15 → κ ≠ 16 → agr u v a := fun a κ h0 n1 n2 => ag a (fun e => by rw [e, k23] at h0; exact n1 h0.symm) (fun e => by rw [e, k24] at h0; exact n2 h0.symm)
  have a16 := agk 16 10 k16 (by decide) (by decide)
  refine ⟨?_, ?_, ?_, ?_, fun b hb => ?_, fun t ht => ?_, fun i hi => ?_, ?_⟩
  · unfold kJ; rw [hE.1]; exact hJ.k
  · unfold aJ; rw [hE.1, hE.2.1, hE.2.2.2.1]; exact hJ.a
  · rw [a16.2.1, x1 0 (by decide)]; exact hJ.hb
  · rw [a16.2.1, x1 1 (by decide), x2 28 (by decide)]; exact hJ.hr
  · obtain ⟨B, hB⟩ := hJ.bd hb
    exact ⟨B, bJ_fr hB (by rw [hE.2.2.2.1]) (agk B 1 hB.2.1 (by decide) (by decide)) (agk _ 2 hB.2.2.1 (by decide) (by decide)) (by rw [x2 27 (by decide)]) (by rw [x2 35 (by decide)]) (fun c _ => by rw [x2 26 (by decide)])⟩
  · rcases hJ.tb ht with ⟨h1, h2⟩ | ⟨T, B, bd, n, m, hT⟩
    · exact Or.inl ⟨by rw [x2 28 (by decide)]; exact h1, tI0_fr h2 (by rw [hE.2.2.2.1]) (fun T _ => ⟨fun a _ _ => by rw [hE.1], by rw [hE.2.2.2.1]⟩)⟩
    · exact Or.inr ⟨T, B, bd, n, m, tJ_fr hT (Nat.le_refl _) (by rw [hE.2.2.2.1]) (by rw [hE.2.2.2.1]) (fun a h1 h2 => agk a _ (hT.2.1.tk.at h1 h2) (by omega) (by omega)) (by rw [hE.1]) (by rw [hE.1]) ⟨by rw [x2 28 (by decide)], by rw [x2 29 (by decide)], by rw [x2 30 (by decide)], by rw [x2 30 (by decide)], by rw [x2 31 (by decide)], by rw [x2 32 (by decide)], fun i _ => by unfold cf; rw [x2 33 (by decide)], fun i _ => by unfold gf; rw [x2 34 (by decide)], by rw [x2 27 (by decide)], fun c _ => by rw [x2 26 (by decide)]⟩⟩
  · obtain ⟨R, hR⟩ := hJ.rs hi
    exact ⟨R, rJ_fr hR (Nat.le_refl _) (by rw [hE.2.2.2.1]) (agk R 9 hR.2.1 (by decide) (by decide)) (fun a ha => by rw [x2 a (by omega)]) ⟨by rw [x2 36 (by decide)], by rw [x2 36 (by decide)]⟩ ⟨by rw [x2 43 (by decide)], by rw [x2 43 (by decide)]⟩⟩
  · exact ⟨L.length, hS.2.2.2.2.1, hS.2.2.2.1, x3, hS.2.2.1, fun i hi => ⟨L.getD i 0, hS.2.2.2.2.2.2 i hi, hS.2.2.2.2.2.1 i hi, x4 i hi⟩⟩
set_option maxRecDepth 20000 in
theorem j_out {pr : aC} {d : Nat} {u : cS} {r : rS} {nb nr : Nat} (hJ : J u r nb nr) (i : Int32) {Q : Option Value → cS → Prop} (hQ : Q (some (.int (otG r i))) u) : cR pr (d + 4 + 1) 136 [.ref 16, .int i] u Q := by
  refine gR_of mi_136 eF_rf rfl (Nat.le_of_ble_eq_true rfl) ?_
  show cB pr (d + 4) cd_136 (Option.some Jvm.ClassFile.FieldType.int) Q 0 [some (.ref 16), some (.int i)] [] u
  have hnr2 := hJ.nr
  obtain ⟨hnr, hr1, _⟩ := hJ.hr
  obtain ⟨hnb, hnb2, hr0⟩ := hJ.hb
  have hk0 := hJ.k
  obtain ⟨k16, k17, k18, k19, k20, k21, k22, k23, k24⟩ := hJ.k
  obtain ⟨len, t1, t2, t3, t4, t5⟩ := hJ.tx
  unfold otG at hQ
  rw [t3, pI_eq] at hQ
  have hQ : Q (some (.int (if irF len i then r.2 45 i.toNatClampNeg else -1))) u := hQ
  refine g_load rfl rfl rfl trivial ?_
  refine g_if_lt rfl (fun c1 => ?_) (fun c1 => ?_)
  · rw [show irF len i = false by unfold irF inF; simp [show ¬ (0 : Int32) ≤ i from Int32.not_le.mpr c1], if_neg (by decide)] at hQ
    refine g_iconst (-1) rfl (by decide) ?_
    refine g_vret rfl trivial ⟨rfl, rfl⟩ (Nat.le_refl _) (Nat.le_refl _) ?_
    exact hQ
  · obtain ⟨j, hj, rfl⟩ := nI_of c1
    refine g_load rfl rfl rfl trivial ?_
    refine g_load rfl rfl rfl trivial ?_
    refine c_getf rfl (by assumption) (by decide) (by rfl) (by rfl) ?_
    refine g_virtI (a := 23) (ci := 0) (n := 0) [] eF_tr rfl rfl (by decide) rfl (c_ob (κ := 15) k23 (by decide) (by rfl)) rfl (Nat.le_of_ble_eq_true rfl) (Nat.le_refl _) (Nat.le_refl _) (c_len4 k23 k24 t4 ⟨_, rfl, ?_⟩)
    rw [t2]
    refine g_icmp_ge rfl (fun c2 => ?_) (fun c2 => ?_)
    · rw [nI_leI (by omega) (by omega)] at c2
      rw [show irF len (nI j) = false by
        cases q : irF len (nI j) with
        | false => rfl
        | true =>
          obtain ⟨x, hx, e⟩ := irF_of (by omega) q
          have := (nI_eq (by omega) (by omega)).mp e
          omega, if_neg (by decide)] at hQ
      refine g_iconst (-1) rfl (by decide) ?_
      refine g_vret rfl trivial ⟨rfl, rfl⟩ (Nat.le_refl _) (Nat.le_refl _) ?_
      exact hQ
    · rw [nI_leI (by omega) (by omega)] at c2
      rw [irF_t (by omega) (show j < len by omega), if_pos rfl, nI_clamp (by omega)] at hQ
      obtain ⟨c, hc, hc1, hc2⟩ := t5 j (by omega)
      rw [hc2] at hQ
      refine g_load rfl rfl rfl trivial ?_
      refine c_getf rfl (by assumption) (by decide) (by rfl) (by rfl) ?_
      refine g_load rfl rfl rfl trivial ?_
      refine g_virtI (a := 23) (ci := 0) (n := 1) [.int (nI j)] eF_tr rfl rfl (by decide) rfl (c_ob (κ := 15) k23 (by decide) (by rfl)) rfl (Nat.le_of_ble_eq_true rfl) (Nat.le_refl _) (Nat.le_refl _) (c_chr4 k23 k24 t4 len j c t2 t1 (by omega) hc1 hc ⟨_, rfl, ?_⟩)
      refine g_goto rfl ?_
      refine g_vret rfl trivial ⟨rfl, rfl⟩ (Nat.le_refl _) (Nat.le_refl _) ?_
      exact hQ
set_option maxRecDepth 20000 in
theorem j_write {pr : aC} {d : Nat} {u : cS} {r : rS} {nb nr : Nat} (hJ : J u r nb nr) (i : Int32) {Q : Option Value → cS → Prop} (hF : irF nr i = false → Q (some (.int (-1))) u) (hQ : ∀ ii v L, ii < nr → i = nI ii → txO r ii L → onS u v → sbJ v L → Q (some (.int (nI L.length))) v) : wR pr (d + 6 + 1) 135 [.ref 16, .int i] u Q := by
  refine gR_of mi_135 cFr_rf rfl (Nat.le_of_ble_eq_true rfl) ?_
  show wB pr (d + 6) cd_135 (Option.some Jvm.ClassFile.FieldType.int) Q 0 [some (.ref 16), some (.int i), none] [] u
  have hnr2 := hJ.nr
  obtain ⟨hnr, hr1, _⟩ := hJ.hr
  obtain ⟨hnb, hnb2, hr0⟩ := hJ.hb
  have hk0 := hJ.k
  obtain ⟨k16, k17, k18, k19, k20, k21, k22, k23, k24⟩ := hJ.k
  obtain ⟨len, t1, t2, t3, t4, t5⟩ := hJ.tx
  refine g_load rfl rfl rfl trivial ?_
  refine g_load rfl rfl rfl trivial ?_
  cases hii : irF nr i with
  | false =>
    refine g_virtI (a := 16) (ci := 7) (n := 1) [.int i] cFr_tr rfl rfl (by decide) rfl (c_ob k16 (by decide) (by rfl)) rfl (Nat.le_of_ble_eq_true rfl) (Nat.le_refl _) (Nat.le_refl _) (c_lift cFr_rf (fun _ h => h) (c_ratt_n nr hk0 hnr hnr2 i hii ⟨_, rfl, ?_⟩))
    refine g_store [some (.ref 16), some (.int i), some (.null)] rfl rfl trivial (Nat.le_of_ble_eq_true rfl) rfl ?_
    have hQ := hF hii
    refine g_load rfl rfl rfl trivial ?_
    refine g_ifnonnull_n rfl ?_
    refine g_iconst (-1) rfl (by decide) ?_
    refine g_vret rfl trivial ⟨rfl, rfl⟩ (Nat.le_refl _) (Nat.le_refl _) ?_
    exact hQ
  | true =>
    obtain ⟨ii, hii2, rfl⟩ := irF_of (by omega) hii
    obtain ⟨R, hR⟩ := hJ.rs hii2
    have kR := hR.2.1
    refine g_virtI (a := 16) (ci := 7) (n := 1) [.int (nI ii)] cFr_tr rfl rfl (by decide) rfl (c_ob k16 (by decide) (by rfl)) rfl (Nat.le_of_ble_eq_true rfl) (Nat.le_refl _) (Nat.le_refl _) (c_lift cFr_rf (fun _ h => h) (c_ratt nr hk0 hnr hnr2 ii R hii2 hR.1 ⟨_, rfl, ?_⟩))
    refine g_store [some (.ref 16), some (.int (nI ii)), some (.ref R)] rfl rfl trivial (Nat.le_of_ble_eq_true rfl) rfl ?_
    refine g_load rfl rfl rfl trivial ?_
    refine g_ifnonnull_r rfl ?_
    refine g_load rfl rfl rfl trivial ?_
    refine c_getf rfl (κ := 10) k16 (by decide) (by rfl) (by rfl) ?_
    refine g_iconst (nI 0) rfl (by decide) ?_
    refine g_virtV (a := 23) (ci := 0) (n := 1) [.int (nI 0)] cFr_tr rfl rfl (by decide) rfl (c_ob (κ := 15) k23 (by decide) (by rfl)) rfl (Nat.le_of_ble_eq_true rfl) (Nat.le_refl _) (Nat.le_refl _) (w_setl k23 k24 t4 len t2 t1 (fun v0 E0 S0 => ⟨rfl, ?_⟩))
    have nR : R ≠ 23 := fun e => by rw [e, k23] at kR; exact absurd kR (by decide)
    have kR0 : v0.kd R = 9 := by rw [E0.1]; exact kR
    have oR : v0.oI R = u.oI R := E0.2.2.2.2.1 R nR
    refine g_load rfl rfl rfl trivial ?_
    refine g_load rfl rfl rfl trivial ?_
    refine c_getf rfl (κ := 10) (by rw [E0.1]; exact k16) (by decide) (by rfl) (by rfl) ?_
    have K : ∀ v1 L, onS v0 v1 → sbJ v1 L → txO r ii L → wB pr (d + 6) cd_135 (some .int) Q 16 [some (.ref 16), some (.int (nI ii)), some (.ref R)] [] v1 := by
      intro v1 L E1 S1 hO
      refine g_load rfl rfl rfl trivial ?_
      refine c_getf rfl (κ := 10) (by rw [E1.1, E0.1]; exact k16) (by decide) (by rfl) (by rfl) ?_
      refine g_virtI (a := 23) (ci := 0) (n := 0) [] cFr_tr rfl rfl (by decide) rfl (c_ob (κ := 15) S1.1 (by decide) (by rfl)) rfl (Nat.le_of_ble_eq_true rfl) (Nat.le_refl _) (Nat.le_refl _) (c_lift cFr_rf (fun _ h => h) (c_len4 S1.1 S1.2.1 S1.2.2.1 ⟨_, rfl, ?_⟩))
      rw [S1.2.2.2.1]
      exact g_vret rfl trivial ⟨rfl, rfl⟩ (Nat.le_refl _) (Nat.le_refl _) (hQ ii v1 L hii2 rfl hO (E0.tr E1) S1)
    obtain ⟨_, _, q0, q1, q2, q3, q4, q5, q6, q7, q8, q9, q10, q11, q12, q13⟩ := hR
    rcases q13 with e | ⟨lv, sr, dc, db, tk, l1, l2, s1, d1, b1, tt, e3, e4, e5, e6, e7⟩
    · refine g_virtV (a := R) (ci := 5) (n := 1) [.ref 23] cFr_tr rfl rfl (by decide) rfl (c_ob (κ := 9) kR0 (by decide) (by rfl)) rfl (Nat.le_of_ble_eq_true rfl) (Nat.le_refl _) (Nat.le_refl _) (w_apt_p R kR0 (by rw [oR]; exact q3.trans e) S0 (fun v1 E1 S1 => ⟨rfl, K v1 _ E1 S1 (Or.inl ⟨e, rfl⟩)⟩))
    · refine g_virtV (a := R) (ci := 5) (n := 1) [.ref 23] cFr_tr rfl rfl (by decide) rfl (c_ob (κ := 9) kR0 (by decide) (by rfl)) rfl (Nat.le_of_ble_eq_true rfl) (Nat.le_refl _) (Nat.le_refl _) (w_apt R lv sr dc db tk kR0 (by rw [oR]; exact q3.trans e3) (by rw [oR]; exact q4.trans e4) (by rw [oR]; exact q5.trans e5) (by rw [oR]; exact q6.trans e6) (by rw [oR]; exact q7.trans e7) l1 l2 s1 d1 b1 tt nR S0 (fun v1 E1 S1 => ⟨rfl, K v1 _ E1 S1 (Or.inr ⟨lv, sr, dc, db, tk, l1, l2, s1, d1, b1, tt, e3, e4, e5, e6, e7, rfl⟩)⟩))
theorem r_write {pr : aC} {d : Nat} {r : rS} {nr i : Nat} {L : List Nat} (h1 : r.1 1 = nI nr) (hnr : nr ≤ 220) (hin : i < nr) (hO : txO r i L) {Q : Option Value → rS → Prop} (hQ : ∀ v, rtx r v L → Q (some (.int (nI L.length))) v) : rR pr (d + 4 + 1) 222 [.ref 25, .int (nI i)] r Q := by
  rcases hO with ⟨e, rfl⟩ | ⟨lv, sr, dc, db, tk, l1, l2, s1, d1, b1, tt, e3, e4, e5, e6, e7, rfl⟩
  · exact r_write_p i (by omega) e nr h1 hnr hin hQ
  · exact r_write_c i lv sr dc db tk (by omega) e3 e4 e5 e6 e7 l1 l2 s1 d1 b1 tt nr h1 hnr hin hQ
