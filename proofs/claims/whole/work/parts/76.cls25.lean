/-! ===== the club beside the reference: begin ===== -/
theorem J.hq2 {u : cS} {r : rS} {nb nr : Nat} (hJ : J u r nb nr) (p x : Int32) : ∀ i, i < nr → rWk u (fun R => decide (u.oI R 0 = x) && sdB u p R) (hasF r p x) i := by
  intro i hi
  obtain ⟨R, h⟩ := hJ.rs hi
  refine ⟨R, h.1, h.2.1, ?_⟩
  show hasF r p x i = (decide (u.oI R 0 = x) && sdB u p R)
  rw [sdB_r h, h.2.2.1]
  unfold hasF hrF
  by_cases e : r.2 35 i = x
  · simp [e]
  · simp [e]
theorem bg_t {r : rS} {nr : Nat} {t b n e : Int32} (h : inF t 0 9 = false) : bgOk r nr t b n e = false := by unfold bgOk; rw [h]; rfl
theorem bg_b {r : rS} {nr : Nat} {t b n e : Int32} (h : isBd r b = false) : bgOk r nr t b n e = false := by unfold bgOk; rw [h]; simp
theorem bg_n {r : rS} {nr : Nat} {t b n e : Int32} (h : inF n 0 39 = false) : bgOk r nr t b n e = false := by unfold bgOk; rw [h]; simp
theorem bg_e {r : rS} {nr : Nat} {t b n e : Int32} (h : inF e 0 39 = false) : bgOk r nr t b n e = false := by unfold bgOk; rw [h]; simp
theorem bg_ne {r : rS} {nr : Nat} {t b n e : Int32} (h : n = e) : bgOk r nr t b n e = false := by unfold bgOk; rw [decide_eq_false (p := ¬ n = e) (fun z => z h)]; simp
theorem bg_200 {r : rS} {nr : Nat} {t b n e : Int32} (h : ¬ nr < 200) : bgOk r nr t b n e = false := by unfold bgOk; rw [decide_eq_false h]; simp
theorem bg_28 {r : rS} {nr : Nat} {t : Nat} {b n e : Int32} (ht : t < 10) (h : ¬ r.2 28 t = 0) : bgOk r nr (nI t) b n e = false := by unfold bgOk; rw [nI_clamp (by omega), decide_eq_false h]; simp
theorem bg_tw {r : rS} {nr : Nat} {t b n e : Int32} (h : ¬ first (tabF r b) 0 10 = none) : bgOk r nr t b n e = false := by unfold bgOk; rw [decide_eq_false h]; simp
theorem bg_fn {r : rS} {nr : Nat} {t b n e : Int32} (h : (!(anyN (playF r n) 10) && !(anyN (hasF r n b) nr)) = false) : bgOk r nr t b n e = false := by
  unfold bgOk
  cases h1 : anyN (playF r n) 10
  · rw [h1] at h
    cases h2 : anyN (hasF r n b) nr
    · rw [h2] at h; cases h
    · simp
  · simp
theorem bg_fe {r : rS} {nr : Nat} {t b n e : Int32} (h : (!(anyN (playF r e) 10) && !(anyN (hasF r e b) nr)) = false) : bgOk r nr t b n e = false := by
  unfold bgOk
  cases h1 : anyN (playF r e) 10
  · rw [h1] at h
    cases h2 : anyN (hasF r e b) nr
    · rw [h2] at h; cases h
    · simp
  · simp
theorem oI_first {p : Nat → Bool} (h : oI (first p 0 10) = -1) : first p 0 10 = none := by
  cases e : first p 0 10 with
  | none => rfl
  | some x => rw [e] at h; exact absurd h (nI_m1 (by have := (first_lt e).1; omega))
theorem bg_ok {r : rS} {nr t b : Nat} {n e : Int32} (ht : t < 10) (hb : isBd r (nI (b + 1)) = true) (h1 : inF n 0 39 = true) (h2 : inF e 0 39 = true) (h3 : r.2 28 t = 0) (h4 : first (tabF r (nI (b + 1))) 0 10 = none) (h5 : (!(anyN (playF r n) 10) && !(anyN (hasF r n (nI (b + 1))) nr)) = true) (h6 : (!(anyN (playF r e) 10) && !(anyN (hasF r e (nI (b + 1))) nr)) = true) (h7 : ¬ n = e) (h8 : nr < 200) : bgOk r nr (nI t) (nI (b + 1)) n e = true := by
  unfold bgOk
  rw [nI_clamp (by omega), show inF (nI t) 0 9 = true by show (decide (nI 0 ≤ nI t) && decide (nI t ≤ nI 9)) = true; rw [decide_eq_true ((nI_leI (by omega) (by omega)).mpr (by omega)), decide_eq_true ((nI_leI (by omega) (by omega)).mpr (by omega))]; rfl, hb, h1, h2, decide_eq_true h3, decide_eq_true h4, decide_eq_true h7, decide_eq_true h8]
  simp only [Bool.and_eq_true, Bool.not_eq_true'] at h5 h6
  rw [h5.1, h5.2, h6.1, h6.2]; rfl
theorem J.iT {u : cS} {r : rS} {nb nr t : Nat} (hJ : J u r nb nr) (ht : t < 10) (h : r.2 28 t = 0) : tI0 u t := by
  rcases hJ.tb ht with ⟨_, h2⟩ | ⟨T, B, bd, n, m, hT⟩
  · exact h2
  · exact absurd h hT.ph
set_option maxRecDepth 20000 in
theorem j_begin {pr : aC} {d : Nat} {u : cS} {r : rS} {nb nr : Nat} (hJ : J u r nb nr) (t b n e : Int32) {Q : Option Value → cS → Prop} (hF : bgOk r nr t b n e = false → Q (some (.int 0)) u) (hQ : ∀ t0 b0 v, t0 < 10 → b0 < nb → t = nI t0 → b = nI (b0 + 1) → bgOk r nr t b n e = true → J v (uBegin r t0 b0 n e) nb nr → Q (some (.int 1)) v) : gR CF cFr (aRun pg pr (d + 3 + 1)) 112 [.ref 16, .int t, .int b, .int n, .int e] u 6 399 Q := by
  refine gR_of mi_112 cFr_rf rfl (Nat.le_of_ble_eq_true rfl) ?_
  show gB CF cFr (aRun pg pr (d + 3)) cd_112 6 399 (Option.some Jvm.ClassFile.FieldType.boolean) Q 0 [some (.ref 16), some (.int t), some (.int b), some (.int n), some (.int e), none, none] [] u 0 0
  have hnr2 := hJ.nr
  obtain ⟨hnr, hr1, _⟩ := hJ.hr
  obtain ⟨hnb, hnb2, hr0⟩ := hJ.hb
  have hk0 := hJ.k
  obtain ⟨k16, k17, k18, k19, k20, k21, k22, k23, k24⟩ := hJ.k
  have h50 := hJ.a.1.1
  refine g_load rfl rfl rfl trivial ?_
  refine g_load rfl rfl rfl trivial ?_
  cases hbb : isBd r b with
  | false =>
    refine g_virtI (a := 16) (ci := 7) (n := 1) [.int b] cFr_tr rfl rfl (by decide) rfl (c_ob (κ := 10) k16 (by decide) (by rfl)) rfl (Nat.le_of_ble_eq_true rfl) (Nat.le_of_ble_eq_true rfl) (Nat.le_of_ble_eq_true rfl) (c_lift cFr_rf (fun _ h => h) (c_bnum_n nb hk0 hnb hnb2 b (isBd_f hr0 hbb) ⟨_, rfl, ?_⟩))
    refine g_store [some (.ref 16), some (.int t), some (.int b), some (.int n), some (.int e), some (.null), none] rfl rfl trivial (Nat.le_of_ble_eq_true rfl) rfl ?_
    have hQ := hF (bg_b hbb)
    refine g_load rfl rfl rfl trivial ?_
    refine g_ifnull_n rfl ?_
    refine g_iconst (nI 0) rfl (by decide) ?_
    refine g_vret rfl trivial (by first | exact ⟨by decide, by decide⟩ | trivial) (Nat.le_of_ble_eq_true rfl) (Nat.le_of_ble_eq_true rfl) ?_
    exact hQ
  | true =>
    obtain ⟨bd, hbd, rfl⟩ := bd_of hbb hr0 (by omega)
    obtain ⟨B, hB⟩ := hJ.bd hbd
    have kB := hB.2.1
    have kB1 := hB.2.2.1
    refine g_virtI (a := 16) (ci := 7) (n := 1) [.int (nI (bd + 1))] cFr_tr rfl rfl (by decide) rfl (c_ob (κ := 10) k16 (by decide) (by rfl)) rfl (Nat.le_of_ble_eq_true rfl) (Nat.le_of_ble_eq_true rfl) (Nat.le_of_ble_eq_true rfl) (c_lift cFr_rf (fun _ h => h) (c_bnum nb hk0 hnb hnb2 bd B hbd hB.1 ⟨_, rfl, ?_⟩))
    refine g_store [some (.ref 16), some (.int t), some (.int (nI (bd + 1))), some (.int n), some (.int e), some (.ref B), none] rfl rfl trivial (Nat.le_of_ble_eq_true rfl) rfl ?_
    refine g_load rfl rfl rfl trivial ?_
    refine g_ifnull_r rfl ?_
    refine g_load rfl rfl rfl trivial ?_
    refine g_if_lt rfl (fun c1 => ?_) (fun c1 => ?_)
    · have hQ := hF (bg_t (by unfold inF; simp [show ¬ (0 : Int32) ≤ t from Int32.not_le.mpr c1]))
      refine g_iconst (nI 0) rfl (by decide) ?_
      refine g_vret rfl trivial (by first | exact ⟨by decide, by decide⟩ | trivial) (Nat.le_of_ble_eq_true rfl) (Nat.le_of_ble_eq_true rfl) ?_
      exact hQ
    · obtain ⟨t0, ht0', rfl⟩ := nI_of c1
      refine g_load rfl rfl rfl trivial ?_
      refine g_load rfl rfl rfl trivial ?_
      refine c_getf rfl (κ := 10) k16 (by decide) (by rfl) (by rfl) ?_
      refine c_len rfl (κ := 12) k18 (by decide) (by rfl) (by decide) ?_
      refine g_icmp_ge rfl (fun c2 => ?_) (fun c2 => ?_)
      · rw [nI_leI (by omega) (by omega)] at c2
        have hQ := hF (bg_t (by unfold inF; simp [show ¬ nI t0 ≤ (9 : Int32) from fun z => by have := (nI_leI (b := 9) (by omega) (by omega)).mp z; omega]))
        refine g_iconst (nI 0) rfl (by decide) ?_
        refine g_vret rfl trivial (by first | exact ⟨by decide, by decide⟩ | trivial) (Nat.le_of_ble_eq_true rfl) (Nat.le_of_ble_eq_true rfl) ?_
        exact hQ
      · rw [nI_leI (by omega) (by omega)] at c2
        have ht0 : t0 < 10 := by omega
        refine g_load rfl rfl rfl trivial ?_
        refine g_statI [.int n] cFr_tr rfl rfl rfl (Nat.le_of_ble_eq_true rfl) (Nat.le_of_ble_eq_true rfl) (Nat.le_of_ble_eq_true rfl) (p_isPair cFr_rf cFr_tr n ⟨_, rfl, ?_⟩)
        refine g_if_eq rfl (fun c3 => ?_) (fun c3 => ?_)
        · rw [bI_eq] at c3
          have hQ := hF (bg_n c3)
          refine g_iconst (nI 0) rfl (by decide) ?_
          refine g_vret rfl trivial (by first | exact ⟨by decide, by decide⟩ | trivial) (Nat.le_of_ble_eq_true rfl) (Nat.le_of_ble_eq_true rfl) ?_
          exact hQ
        · rw [bI_ne] at c3
          have hpn := c3
          refine g_load rfl rfl rfl trivial ?_
          refine g_statI [.int e] cFr_tr rfl rfl rfl (Nat.le_of_ble_eq_true rfl) (Nat.le_of_ble_eq_true rfl) (Nat.le_of_ble_eq_true rfl) (p_isPair cFr_rf cFr_tr e ⟨_, rfl, ?_⟩)
          refine g_if_ne rfl (fun c4 => ?_) (fun c4 => ?_)
          · rw [bI_ne] at c4
            have hpe := c4
            refine g_load rfl rfl rfl trivial ?_
            refine g_load rfl rfl rfl trivial ?_
            refine g_icmp_eq rfl (fun c5 => ?_) (fun c5 => ?_)
            · have hQ := hF (bg_ne c5)
              refine g_iconst (nI 0) rfl (by decide) ?_
              refine g_vret rfl trivial (by first | exact ⟨by decide, by decide⟩ | trivial) (Nat.le_of_ble_eq_true rfl) (Nat.le_of_ble_eq_true rfl) ?_
              exact hQ
            · have hne := c5
              refine g_load rfl rfl rfl trivial ?_
              refine c_getf rfl (κ := 10) k16 (by decide) (by rfl) (by rfl) ?_
              rw [hnr]
              refine g_sipush (nI 200) rfl (by decide) ?_
              refine g_icmp_lt rfl (fun c6 => ?_) (fun c6 => ?_)
              · rw [nI_ltI (by omega) (by omega)] at c6
                have h200 := c6
                refine g_load rfl rfl rfl trivial ?_
                refine g_load rfl rfl rfl trivial ?_
                rcases hJ.tb ht0 with ⟨h28, hid⟩ | ⟨T, B2, bd2, n2, m2, hT2⟩
                rotate_left
                · refine g_virtI (a := 16) (ci := 7) (n := 1) [.int (nI t0)] cFr_tr rfl rfl (by decide) rfl (c_ob (κ := 10) k16 (by decide) (by rfl)) rfl (Nat.le_of_ble_eq_true rfl) (Nat.le_of_ble_eq_true rfl) (Nat.le_of_ble_eq_true rfl) (c_lift cFr_rf (fun _ h => h) (c_busy hk0 t0 T B2 n2 m2 ht0 hT2.1 hT2.2.1 ⟨_, rfl, ?_⟩))
                  refine g_ifnonnull_r rfl ?_
                  have hQ := hF (bg_28 ht0 hT2.ph)
                  refine g_iconst (nI 0) rfl (by decide) ?_
                  refine g_vret rfl trivial (by first | exact ⟨by decide, by decide⟩ | trivial) (Nat.le_of_ble_eq_true rfl) (Nat.le_of_ble_eq_true rfl) ?_
                  exact hQ
                refine g_virtI (a := 16) (ci := 7) (n := 1) [.int (nI t0)] cFr_tr rfl rfl (by decide) rfl (c_ob (κ := 10) k16 (by decide) (by rfl)) rfl (Nat.le_of_ble_eq_true rfl) (Nat.le_of_ble_eq_true rfl) (Nat.le_of_ble_eq_true rfl) (c_lift cFr_rf (fun _ h => h) (c_busy_i hk0 t0 ht0 hid ⟨_, rfl, ?_⟩))
                refine g_ifnonnull_n rfl ?_
                refine g_load rfl rfl rfl trivial ?_
                refine g_load rfl rfl rfl trivial ?_
                refine g_virtI (a := 16) (ci := 7) (n := 1) [.int (nI (bd + 1))] cFr_tr rfl rfl (by decide) rfl (c_ob (κ := 10) k16 (by decide) (by rfl)) rfl (Nat.le_of_ble_eq_true rfl) (Nat.le_of_ble_eq_true rfl) (Nat.le_of_ble_eq_true rfl) (c_lift cFr_rf (fun _ h => h) (c_twb hk0 (nI (bd + 1)) (tabF r (nI (bd + 1))) (hJ.tw (nI (bd + 1))) ⟨_, rfl, ?_⟩))
                refine g_iconst (-1) rfl (by decide) ?_
                refine g_icmp_eq rfl (fun c7 => ?_) (fun c7 => ?_)
                · have htw := oI_first c7
                  refine g_load rfl rfl rfl trivial ?_
                  refine g_load rfl rfl rfl trivial ?_
                  refine g_load rfl rfl rfl trivial ?_
                  refine g_virtI (a := 16) (ci := 7) (n := 2) [.int (nI (bd + 1)), .int n] cFr_tr rfl rfl (by decide) rfl (c_ob (κ := 10) k16 (by decide) (by rfl)) rfl (Nat.le_of_ble_eq_true rfl) (Nat.le_of_ble_eq_true rfl) (Nat.le_of_ble_eq_true rfl) (c_lift cFr_rf (fun _ h => h) (c_free nr hk0 hnr hnr2 (nI (bd + 1)) n (hasF r n (nI (bd + 1))) (hJ.hq2 n _) (playF r n) (hJ.tp n) ⟨_, rfl, ?_⟩))
                  refine g_if_eq rfl (fun c8 => ?_) (fun c8 => ?_)
                  · rw [bI_eq] at c8
                    have hQ := hF (bg_fn c8)
                    refine g_iconst (nI 0) rfl (by decide) ?_
                    refine g_vret rfl trivial (by first | exact ⟨by decide, by decide⟩ | trivial) (Nat.le_of_ble_eq_true rfl) (Nat.le_of_ble_eq_true rfl) ?_
                    exact hQ
                  · rw [bI_ne] at c8
                    have hfn := c8
                    refine g_load rfl rfl rfl trivial ?_
                    refine g_load rfl rfl rfl trivial ?_
                    refine g_load rfl rfl rfl trivial ?_
                    refine g_virtI (a := 16) (ci := 7) (n := 2) [.int (nI (bd + 1)), .int e] cFr_tr rfl rfl (by decide) rfl (c_ob (κ := 10) k16 (by decide) (by rfl)) rfl (Nat.le_of_ble_eq_true rfl) (Nat.le_of_ble_eq_true rfl) (Nat.le_of_ble_eq_true rfl) (c_lift cFr_rf (fun _ h => h) (c_free nr hk0 hnr hnr2 (nI (bd + 1)) e (hasF r e (nI (bd + 1))) (hJ.hq2 e _) (playF r e) (hJ.tp e) ⟨_, rfl, ?_⟩))
                    refine g_if_ne rfl (fun c9 => ?_) (fun c9 => ?_)
                    · rw [bI_ne] at c9
                      have hfe := c9
                      have hok := bg_ok (nr := nr) ht0 hbb hpn hpe h28 htw hfn hfe hne h200
                      refine g_load rfl rfl rfl trivial ?_
                      refine c_getf rfl (κ := 10) k16 (by decide) (by rfl) (by rfl) ?_
                      refine g_load rfl rfl rfl trivial ?_
                      refine c_aa t0 rfl (κ := 12) k18 (by decide) (by rfl) ⟨by decide, by decide⟩ rfl (by omega) (by decide) ?_
                      rcases hJ.iT ht0 h28 with hT0 | ⟨T, hT0, hTk, hon⟩
                      · rw [hT0]
                        refine g_store [some (.ref 16), some (.int (nI t0)), some (.int (nI (bd + 1))), some (.int n), some (.int e), some (.ref B), some (.null)] rfl rfl trivial (Nat.le_of_ble_eq_true rfl) rfl ?_
                        refine g_load rfl rfl rfl trivial ?_
                        refine g_ifnonnull_n rfl ?_
                        refine c_new 23 rfl (Or.inr h50) (Nat.le_of_ble_eq_true rfl) (Nat.le_of_ble_eq_true rfl) (by simp [cCell, mkO, aDef, aCls, vwCl, cS.oI, cS.rR, cS.tp]; rfl) ?_
                        refine g_dup rfl rfl ?_
                        refine g_special (n := 0) [] 5 394 cFr_tr rfl (by decide) (by decide) rfl rfl (Nat.le_of_ble_eq_true rfl) (Nat.le_of_ble_eq_true rfl) (Nat.le_of_ble_eq_true rfl) (w_tableInit (u := mkO u 23) u.tp (mk_s u 23) rfl h50 ?_)
                        refine c_view (fun h => tN_view) ?_
                        have z16 : (tN u u.tp).kd 16 = 10 := by
                          show (if 16 = u.tp then 3 else if 16 = u.tp + 1 then 4 else if 16 = u.tp + 2 then 5 else if 16 = u.tp + 3 then 6 else if 16 = u.tp + 4 then 7 else if 16 = u.tp + 5 then 8 else u.kd 16) = _
                          rw [if_neg (by omega), if_neg (by omega), if_neg (by omega), if_neg (by omega), if_neg (by omega), if_neg (by omega)]; exact k16
                        have z18 : (tN u u.tp).kd 18 = 12 := by
                          show (if 18 = u.tp then 3 else if 18 = u.tp + 1 then 4 else if 18 = u.tp + 2 then 5 else if 18 = u.tp + 3 then 6 else if 18 = u.tp + 4 then 7 else if 18 = u.tp + 5 then 8 else u.kd 18) = _
                          rw [if_neg (by omega), if_neg (by omega), if_neg (by omega), if_neg (by omega), if_neg (by omega), if_neg (by omega)]; exact k18
                        have zT : (tN u u.tp).kd u.tp = 3 := if_pos rfl
                        refine g_store [some (.ref 16), some (.int (nI t0)), some (.int (nI (bd + 1))), some (.int n), some (.int e), some (.ref B), some (.ref u.tp)] rfl rfl trivial (Nat.le_of_ble_eq_true rfl) rfl ?_
                        refine g_load rfl rfl rfl trivial ?_
                        refine c_getf rfl (κ := 10) z16 (by decide) (by rfl) (by rfl) ?_
                        refine g_load rfl rfl rfl trivial ?_
                        refine g_load rfl rfl rfl trivial ?_
                        refine c_aas t0 rfl (κ := 12) z18 (by decide) (by rfl) ⟨by decide, by decide⟩ rfl (by omega) (by decide) (κ' := 3) zT (by decide) (by rfl) rfl rfl (by rfl) ?_
                        refine g_load rfl rfl rfl trivial ?_
                        refine g_load rfl rfl rfl trivial ?_
                        refine g_load rfl rfl rfl trivial ?_
                        refine g_load rfl rfl rfl trivial ?_
                        obtain ⟨hJ1, hTk⟩ := J.newT hJ ht0 h28
                        obtain ⟨B', hB'⟩ := hJ1.bd hbd
                        have e17 : (upR (tN u u.tp) 18 t0 (some u.tp)).rR 17 bd = u.rR 17 bd := by
                          show u2 (tN u u.tp).rR 18 t0 (some u.tp) 17 bd = _
                          rw [u2_a _ _ (by decide)]
                          show (if u.tp ≤ 17 ∧ 17 ≤ u.tp + 5 then _ else u.rR 17) bd = _
                          rw [if_neg (by omega)]
                        have eB : B' = B := by have h9 := hB'.1; rw [e17, hB.1] at h9; exact (Option.some.inj h9).symm
                        subst eB
                        have r18 : (upR (tN u u.tp) 18 t0 (some u.tp)).rR 18 t0 = some u.tp := by
                          show u2 (tN u u.tp).rR 18 t0 (some u.tp) 18 t0 = _
                          rw [u2_s]
                        have hQ := hQ t0 bd _ ht0 hbd rfl rfl hok (J.begin hJ1 ht0 r18 hTk hbd hB' hne h200)
                        refine g_virtV (a := u.tp) (ci := 6) (n := 3) [.ref B', .int n, .int e] cFr_tr rfl rfl (by decide) rfl (c_ob (κ := 3) hTk.1 (by decide) (by rfl)) rfl (Nat.le_of_ble_eq_true rfl) (Nat.le_of_ble_eq_true rfl) (Nat.le_of_ble_eq_true rfl) (w_tstart u.tp B' bd n e hTk.1 hTk.2.1 hTk.2.2.2.1 hTk.2.2.2.2.2 hB'.2.1 hB'.2.2.2.1 (by omega) ⟨rfl, ?_⟩)
                        refine g_iconst (nI 1) rfl (by decide) ?_
                        refine g_vret rfl trivial (by first | exact ⟨by decide, by decide⟩ | trivial) (Nat.le_of_ble_eq_true rfl) (Nat.le_of_ble_eq_true rfl) ?_
                        exact hQ
                      · rw [hT0]
                        refine g_store [some (.ref 16), some (.int (nI t0)), some (.int (nI (bd + 1))), some (.int n), some (.int e), some (.ref B), some (.ref T)] rfl rfl trivial (Nat.le_of_ble_eq_true rfl) rfl ?_
                        have hQ := hQ t0 bd _ ht0 hbd rfl rfl hok (J.begin hJ ht0 hT0 hTk hbd hB hne h200)
                        refine g_load rfl rfl rfl trivial ?_
                        refine g_ifnonnull_r rfl ?_
                        refine g_load rfl rfl rfl trivial ?_
                        refine g_load rfl rfl rfl trivial ?_
                        refine g_load rfl rfl rfl trivial ?_
                        refine g_load rfl rfl rfl trivial ?_
                        refine g_virtV (a := T) (ci := 6) (n := 3) [.ref B, .int n, .int e] cFr_tr rfl rfl (by decide) rfl (c_ob (κ := 3) hTk.1 (by decide) (by rfl)) rfl (Nat.le_of_ble_eq_true rfl) (Nat.le_of_ble_eq_true rfl) (Nat.le_of_ble_eq_true rfl) (w_tstart T B bd n e hTk.1 hTk.2.1 hTk.2.2.2.1 hTk.2.2.2.2.2 kB hB.2.2.2.1 (by omega) ⟨rfl, ?_⟩)
                        refine g_iconst (nI 1) rfl (by decide) ?_
                        refine g_vret rfl trivial (by first | exact ⟨by decide, by decide⟩ | trivial) (Nat.le_of_ble_eq_true rfl) (Nat.le_of_ble_eq_true rfl) ?_
                        exact hQ
                    · rw [bI_eq] at c9
                      have hQ := hF (bg_fe c9)
                      refine g_iconst (nI 0) rfl (by decide) ?_
                      refine g_vret rfl trivial (by first | exact ⟨by decide, by decide⟩ | trivial) (Nat.le_of_ble_eq_true rfl) (Nat.le_of_ble_eq_true rfl) ?_
                      exact hQ
                · have hQ := hF (bg_tw (fun z => c7 (by rw [z]; rfl)))
                  refine g_iconst (nI 0) rfl (by decide) ?_
                  refine g_vret rfl trivial (by first | exact ⟨by decide, by decide⟩ | trivial) (Nat.le_of_ble_eq_true rfl) (Nat.le_of_ble_eq_true rfl) ?_
                  exact hQ
              · rw [nI_ltI (by omega) (by omega)] at c6
                have hQ := hF (bg_200 c6)
                refine g_iconst (nI 0) rfl (by decide) ?_
                refine g_vret rfl trivial (by first | exact ⟨by decide, by decide⟩ | trivial) (Nat.le_of_ble_eq_true rfl) (Nat.le_of_ble_eq_true rfl) ?_
                exact hQ
          · rw [bI_eq] at c4
            have hQ := hF (bg_e c4)
            refine g_iconst (nI 0) rfl (by decide) ?_
            refine g_vret rfl trivial (by first | exact ⟨by decide, by decide⟩ | trivial) (Nat.le_of_ble_eq_true rfl) (Nat.le_of_ble_eq_true rfl) ?_
            exact hQ
