/-! ===== the club beside the reference: points ===== -/
theorem rJ.x {u : cS} {r : rS} {nb i R : Nat} (h : rJ u r nb i R) : u.oI R 9 = bI (decide (¬ r.2 44 i = 0)) := by
  rw [h.2.2.2.2.2.2.2.2.2.2.2.1]
  rcases h.2.2.2.2.2.2.2.2.2.2.2.2.1 with e | ⟨e, _⟩
  · rw [e]; rfl
  · rw [e]; rfl
theorem rJ.p {u : cS} {r : rS} {nb i R : Nat} (h : rJ u r nb i R) {s : Nat} (hs : s < 2) (hx : ¬ r.2 44 i = 0) : (if nI s = 0 then u.oI R 10 else u.oI R 11) = r.2 43 (2 * i + s) := by
  rcases h.2.2.2.2.2.2.2.2.2.2.2.2.1 with e | ⟨_, e1, e2⟩
  · exact absurd e hx
  · rcases (show s = 0 ∨ s = 1 by omega) with rfl | rfl
    · rw [if_pos (show nI 0 = 0 from rfl)]; exact e1
    · rw [if_neg (by decide)]; exact e2
theorem J.al {u : cS} {r : rS} {nr i bd B : Nat} (hB : bJ u r nr bd B) (hR : r.2 35 i = nI (bd + 1)) : nI 20 * (u.oI B 3 - nI 1) = alN r nr i := by
  unfold alN rcF
  rw [hB.2.2.2.2.2.2.1, hR]
theorem sdB_r {u : cS} {r : rS} {nb i R : Nat} (h : rJ u r nb i R) (p : Int32) : sdB u p R = hrF r p i := by
  unfold sdB hrF sdF
  rw [h.2.2.2.1, h.2.2.2.2.1]
  by_cases e1 : p = r.2 36 (2 * i)
  · rw [if_pos e1]
    simp [e1.symm]
  · rw [if_neg e1]
    by_cases e2 : p = r.2 36 (2 * i + 1)
    · rw [if_pos e2]; simp [e2.symm]
    · rw [if_neg e2]
      simp [Ne.symm e1, Ne.symm e2]
theorem J.hq {u : cS} {r : rS} {nb nr : Nat} (hJ : J u r nb nr) (p : Int32) : ∀ i, i < nr → rWk u (sdB u p) (hrF r p) i := by
  intro i hi
  obtain ⟨R, h⟩ := hJ.rs hi
  exact ⟨R, h.1, h.2.1, (sdB_r h p).symm⟩
set_option maxRecDepth 20000 in
theorem c_pts_l {pr : aC} {d : Nat} {u : cS} {r : rS} {nb nr : Nat} (hJ : J u r nb nr) (i R s : Nat) (hi : i < nr) (hR : rJ u r nb i R) (hs : s < 2) (hx : r.2 44 i = 0) {Q : Option Value → cS → Prop} (hQ : Q (some (.int (ptF r nr i s))) u) : ∀ (zz : Nat) (j : Nat) (l7 : Option Value) (hm : nr - j < zz) (hle : j ≤ nr), cB pr (d + 2) cd_150 (Option.some Jvm.ClassFile.FieldType.int) Q 19 [some (.ref 16), some (.ref R), some (.int (nI i)), some (.int (nI s)), some (.int (alN r nr i)), some (.int (nI (nsum (pqF r i) j))), some (.int (nI j)), l7] [] u := by
  intro zz
  induction zz with
  | zero => intro j l7 hm hle; exact absurd hm (by omega)
  | succ zz ih =>
    intro j l7 hm hle
    have hnr2 := hJ.nr
    obtain ⟨hnr, hr1, _⟩ := hJ.hr
    obtain ⟨hnb, hnb2, hr0⟩ := hJ.hb
    have hk0 := hJ.k
    obtain ⟨k16, k17, k18, k19, k20, k21, k22, k23, k24⟩ := hJ.k
    have kR := hR.2.1
    refine g_load rfl rfl rfl trivial ?_
    refine g_load rfl rfl rfl trivial ?_
    refine c_getf rfl (by assumption) (by decide) (by rfl) (by rfl) ?_
    rw [hnr]
    refine g_icmp_ge rfl (fun c1 => ?_) (fun c1 => ?_)
    · rw [nI_leI (by omega) (by omega)] at c1
      have e : j = nr := by omega
      subst e
      unfold ptF at hQ
      rw [if_pos hx] at hQ
      refine g_load rfl rfl rfl trivial ?_
      refine g_if_ne rfl (fun c2 => ?_) (fun c2 => ?_)
      · rw [if_neg (show ¬ s = 0 from fun e => c2 (by rw [e]; rfl))] at hQ
        refine g_load rfl rfl rfl trivial ?_
        refine g_load rfl rfl rfl trivial ?_
        refine g_isub rfl ?_
        refine g_vret rfl trivial ⟨rfl, rfl⟩ (Nat.le_refl _) (Nat.le_refl _) ?_
        exact hQ
      · rw [if_pos (show s = 0 from by rcases (show s = 0 ∨ s = 1 by omega) with e | e; (exact e); (rw [e] at c2; exact absurd c2 (by decide)))] at hQ
        refine g_load rfl rfl rfl trivial ?_
        refine g_goto rfl ?_
        refine g_vret rfl trivial ⟨rfl, rfl⟩ (Nat.le_refl _) (Nat.le_refl _) ?_
        exact hQ
    · rw [nI_leI (by omega) (by omega)] at c1
      obtain ⟨P, hP⟩ := hJ.rs (show j < nr by omega)
      have kP := hP.2.1
      refine g_load rfl rfl rfl trivial ?_
      refine g_load rfl rfl rfl trivial ?_
      refine g_virtI (a := 16) (ci := 7) (n := 1) [.int (nI j)] eF_tr rfl rfl (by decide) rfl (c_ob k16 (by decide) (by rfl)) rfl (Nat.le_of_ble_eq_true rfl) (Nat.le_refl _) (Nat.le_refl _) (c_ratt nr hk0 hnr hnr2 j P (by omega) hP.1 ⟨_, rfl, ?_⟩)
      refine g_store [some (.ref 16), some (.ref R), some (.int (nI i)), some (.int (nI s)), some (.int (alN r nr i)), some (.int (nI (nsum (pqF r i) j))), some (.int (nI j)), some (.ref P)] rfl rfl trivial (Nat.le_of_ble_eq_true rfl) rfl ?_
      refine g_load rfl rfl rfl trivial ?_
      refine g_load rfl rfl rfl trivial ?_
      refine g_icmp_eq rfl (fun c3 => ?_) (fun c3 => ?_)
      · rw [nI_eq (by omega) (by omega)] at c3
        have hc : nsum (pqF r i) (j + 1) = nsum (pqF r i) j := by show nsum (pqF r i) j + pqF r i j = _; rw [show pqF r i j = 0 from if_pos (Or.inl c3)]; rfl
        refine g_iinc (nI (j + 1)) [some (.ref 16), some (.ref R), some (.int (nI i)), some (.int (nI s)), some (.int (alN r nr i)), some (.int (nI (nsum (pqF r i) j))), some (.int (nI (j + 1))), some (.ref P)] rfl rfl (nI_1 j) rfl ?_
        refine g_goto rfl ?_
        first | exact ih (j + 1) _ (by omega) (by omega) | (rw [← hc]; exact ih (j + 1) _ (by omega) (by omega))
      · rw [nI_eq (by omega) (by omega)] at c3
        have hji := c3
        refine g_load rfl rfl rfl trivial ?_
        refine g_ifnull_r rfl ?_
        refine g_load rfl rfl rfl trivial ?_
        refine g_virtI (a := P) (ci := 5) (n := 0) [] eF_tr rfl rfl (by decide) rfl (c_ob (by assumption) (by decide) (by rfl)) rfl (Nat.le_of_ble_eq_true rfl) (Nat.le_refl _) (Nat.le_refl _) (c_rboard P kP ⟨_, rfl, ?_⟩)
        rw [hP.2.2.1]
        refine g_load rfl rfl rfl trivial ?_
        refine g_virtI (a := R) (ci := 5) (n := 0) [] eF_tr rfl rfl (by decide) rfl (c_ob (by assumption) (by decide) (by rfl)) rfl (Nat.le_of_ble_eq_true rfl) (Nat.le_refl _) (Nat.le_refl _) (c_rboard R kR ⟨_, rfl, ?_⟩)
        rw [hR.2.2.1]
        refine g_icmp_ne rfl (fun c4 => ?_) (fun c4 => ?_)
        · have hc : nsum (pqF r i) (j + 1) = nsum (pqF r i) j := by show nsum (pqF r i) j + pqF r i j = _; rw [show pqF r i j = 0 from if_pos (Or.inr c4)]; rfl
          refine g_iinc (nI (j + 1)) [some (.ref 16), some (.ref R), some (.int (nI i)), some (.int (nI s)), some (.int (alN r nr i)), some (.int (nI (nsum (pqF r i) j))), some (.int (nI (j + 1))), some (.ref P)] rfl rfl (nI_1 j) rfl ?_
          refine g_goto rfl ?_
          first | exact ih (j + 1) _ (by omega) (by omega) | (rw [← hc]; exact ih (j + 1) _ (by omega) (by omega))
        · have hc : nsum (pqF r i) (j + 1) = nsum (pqF r i) j + pgF (decide (¬ r.2 44 j = 0)) (u.oI P 8) (u.oI R 8) := by
            show nsum (pqF r i) j + pqF r i j = _
            unfold pqF pgF
            rw [hP.2.2.2.2.2.2.2.2.2.2.1, hR.2.2.2.2.2.2.2.2.2.2.1, if_neg (fun z => by rcases z with z | z; (exact hji z); exact z c4)]
            simp
          refine g_load rfl rfl rfl trivial ?_
          refine g_load rfl rfl rfl trivial ?_
          refine g_load rfl rfl rfl trivial ?_
          refine g_statI [.ref R, .ref P] eF_tr rfl rfl rfl (Nat.le_of_ble_eq_true rfl) (Nat.le_refl _) (Nat.le_refl _) (c_pag R P kR kP _ hP.x ⟨_, rfl, ?_⟩)
          refine g_iadd rfl ?_
          rw [nI_add, ← hc]
          refine g_store [some (.ref 16), some (.ref R), some (.int (nI i)), some (.int (nI s)), some (.int (alN r nr i)), some (.int (nI (nsum (pqF r i) (j + 1)))), some (.int (nI j)), some (.ref P)] rfl rfl trivial (Nat.le_of_ble_eq_true rfl) rfl ?_
          refine g_iinc (nI (j + 1)) [some (.ref 16), some (.ref R), some (.int (nI i)), some (.int (nI s)), some (.int (alN r nr i)), some (.int (nI (nsum (pqF r i) (j + 1)))), some (.int (nI (j + 1))), some (.ref P)] rfl rfl (nI_1 j) rfl ?_
          refine g_goto rfl ?_
          first | exact ih (j + 1) _ (by omega) (by omega) | (rw [← hc]; exact ih (j + 1) _ (by omega) (by omega))
set_option maxRecDepth 20000 in
theorem c_pts {pr : aC} {d : Nat} {u : cS} {r : rS} {nb nr : Nat} (hJ : J u r nb nr) (i R s : Nat) (hi : i < nr) (hR : rJ u r nb i R) (hs : s < 2) {Q : Option Value → cS → Prop} (hQ : Q (some (.int (ptF r nr i s))) u) : cR pr (d + 2 + 1) 150 [.ref 16, .ref R, .int (nI i), .int (nI s)] u Q := by
  refine gR_of mi_150 eF_rf rfl (Nat.le_of_ble_eq_true rfl) ?_
  show cB pr (d + 2) cd_150 (Option.some Jvm.ClassFile.FieldType.int) Q 0 [some (.ref 16), some (.ref R), some (.int (nI i)), some (.int (nI s)), none, none, none, none] [] u
  have hnr2 := hJ.nr
  obtain ⟨hnr, hr1, _⟩ := hJ.hr
  obtain ⟨hnb, hnb2, hr0⟩ := hJ.hb
  have hk0 := hJ.k
  obtain ⟨k16, k17, k18, k19, k20, k21, k22, k23, k24⟩ := hJ.k
  have kR := hR.2.1
  obtain ⟨bd, hbd, hbd2⟩ := hR.2.2.2.2.2.2.2.2.2.2.2.2.2.1
  obtain ⟨B, hB⟩ := hJ.bd hbd
  refine g_load rfl rfl rfl trivial ?_
  refine g_load rfl rfl rfl trivial ?_
  refine g_virtI (a := 16) (ci := 7) (n := 1) [.ref R] eF_tr rfl rfl (by decide) rfl (c_ob k16 (by decide) (by rfl)) rfl (Nat.le_of_ble_eq_true rfl) (Nat.le_refl _) (Nat.le_refl _) (c_mostOf nb hk0 hnb hnb2 R bd B kR (hR.2.2.1.trans hbd2) hbd hB.1 hB.2.1 ⟨_, rfl, ?_⟩)
  rw [J.al hB hbd2]
  refine g_store [some (.ref 16), some (.ref R), some (.int (nI i)), some (.int (nI s)), some (.int (alN r nr i)), none, none, none] rfl rfl trivial (Nat.le_of_ble_eq_true rfl) rfl ?_
  refine g_load rfl rfl rfl trivial ?_
  refine g_virtI (a := R) (ci := 5) (n := 0) [] eF_tr rfl rfl (by decide) rfl (c_ob (by assumption) (by decide) (by rfl)) rfl (Nat.le_of_ble_eq_true rfl) (Nat.le_refl _) (Nat.le_refl _) (c_radj R kR _ hR.x ⟨_, rfl, ?_⟩)
  refine g_if_eq rfl (fun c1 => ?_) (fun c1 => ?_)
  · rw [bI_eq, decide_eq_false_iff_not, Classical.not_not] at c1
    refine g_iconst (nI 0) rfl (by decide) ?_
    refine g_store [some (.ref 16), some (.ref R), some (.int (nI i)), some (.int (nI s)), some (.int (alN r nr i)), some (.int (nI (nsum (pqF r i) 0))), none, none] rfl rfl trivial (Nat.le_of_ble_eq_true rfl) rfl ?_
    refine g_iconst (nI 0) rfl (by decide) ?_
    refine g_store [some (.ref 16), some (.ref R), some (.int (nI i)), some (.int (nI s)), some (.int (alN r nr i)), some (.int (nI (nsum (pqF r i) 0))), some (.int (nI 0)), none] rfl rfl trivial (Nat.le_of_ble_eq_true rfl) rfl ?_
    exact c_pts_l hJ i R s hi hR hs c1 hQ (nr + 1) 0 none (by omega) (by omega)
  · rw [bI_ne, decide_eq_true_eq] at c1
    unfold ptF at hQ
    rw [if_neg c1, Int32.mul_comm] at hQ
    refine g_load rfl rfl rfl trivial ?_
    refine g_load rfl rfl rfl trivial ?_
    refine g_virtI (a := R) (ci := 5) (n := 1) [.int (nI s)] eF_tr rfl rfl (by decide) rfl (c_ob (by assumption) (by decide) (by rfl)) rfl (Nat.le_of_ble_eq_true rfl) (Nat.le_refl _) (Nat.le_refl _) (c_partOf R kR (nI s) ⟨_, rfl, ?_⟩)
    rw [hR.p hs c1]
    refine g_load rfl rfl rfl trivial ?_
    refine g_imul rfl ?_
    refine g_bipush (nI 100) rfl (by decide) ?_
    refine g_idiv rfl (by decide) ?_
    refine g_vret rfl trivial ⟨rfl, rfl⟩ (Nat.le_refl _) (Nat.le_refl _) ?_
    exact hQ
set_option maxRecDepth 20000 in
theorem c_pop_l {pr : aC} {d : Nat} {u : cS} {r : rS} {nb nr : Nat} (hJ : J u r nb nr) (p : Int32) {Q : Option Value → cS → Prop} (hQ : Q (some (.int (isum (ttQ r nr p) nr))) u) : ∀ (zz : Nat) (i : Nat) (l4 l5 : Option Value) (hm : nr - i < zz) (hle : i ≤ nr), cB pr (d + 3) cd_154 (Option.some Jvm.ClassFile.FieldType.int) Q 4 [some (.ref 16), some (.int p), some (.int (isum (ttQ r nr p) i)), some (.int (nI i)), l4, l5] [] u := by
  intro zz
  induction zz with
  | zero => intro i l4 l5 hm hle; exact absurd hm (by omega)
  | succ zz ih =>
    intro i l4 l5 hm hle
    have hnr2 := hJ.nr
    obtain ⟨hnr, hr1, _⟩ := hJ.hr
    obtain ⟨hnb, hnb2, hr0⟩ := hJ.hb
    have hk0 := hJ.k
    obtain ⟨k16, k17, k18, k19, k20, k21, k22, k23, k24⟩ := hJ.k
    refine g_load rfl rfl rfl trivial ?_
    refine g_load rfl rfl rfl trivial ?_
    refine c_getf rfl (by assumption) (by decide) (by rfl) (by rfl) ?_
    rw [hnr]
    refine g_icmp_ge rfl (fun c1 => ?_) (fun c1 => ?_)
    · rw [nI_leI (by omega) (by omega)] at c1
      have e : i = nr := by omega
      subst e
      refine g_load rfl rfl rfl trivial ?_
      refine g_vret rfl trivial ⟨rfl, rfl⟩ (Nat.le_refl _) (Nat.le_refl _) ?_
      exact hQ
    · rw [nI_leI (by omega) (by omega)] at c1
      obtain ⟨R, hR⟩ := hJ.rs (show i < nr by omega)
      have kR := hR.2.1
      have hne := hR.2.2.2.2.2.2.2.2.2.2.2.2.2.2.1
      refine g_load rfl rfl rfl trivial ?_
      refine g_load rfl rfl rfl trivial ?_
      refine g_virtI (a := 16) (ci := 7) (n := 1) [.int (nI i)] eF_tr rfl rfl (by decide) rfl (c_ob k16 (by decide) (by rfl)) rfl (Nat.le_of_ble_eq_true rfl) (Nat.le_refl _) (Nat.le_refl _) (c_ratt nr hk0 hnr hnr2 i R (by omega) hR.1 ⟨_, rfl, ?_⟩)
      refine g_store [some (.ref 16), some (.int p), some (.int (isum (ttQ r nr p) i)), some (.int (nI i)), some (.ref R), l5] rfl rfl trivial (Nat.le_of_ble_eq_true rfl) rfl ?_
      refine g_load rfl rfl rfl trivial ?_
      refine g_ifnonnull_r rfl ?_
      refine g_load rfl rfl rfl trivial ?_
      refine g_load rfl rfl rfl trivial ?_
      refine g_virtI (a := R) (ci := 5) (n := 1) [.int p] eF_tr rfl rfl (by decide) rfl (c_ob (by assumption) (by decide) (by rfl)) rfl (Nat.le_of_ble_eq_true rfl) (Nat.le_refl _) (Nat.le_refl _) (c_rside R kR p ⟨_, rfl, ?_⟩)
      rw [hR.2.2.2.1, hR.2.2.2.2.1]
      refine g_store [some (.ref 16), some (.int p), some (.int (isum (ttQ r nr p) i)), some (.int (nI i)), some (.ref R), some (.int (sdF p (r.2 36 (2 * i)) (r.2 36 (2 * i + 1))))] rfl rfl trivial (Nat.le_of_ble_eq_true rfl) rfl ?_
      refine g_load rfl rfl rfl trivial ?_
      refine g_ifnull_r rfl ?_
      refine g_load rfl rfl rfl trivial ?_
      refine g_iconst (-1) rfl (by decide) ?_
      refine g_icmp_eq rfl (fun c2 => ?_) (fun c2 => ?_)
      · have hc : isum (ttQ r nr p) (i + 1) = isum (ttQ r nr p) i := by
          show isum (ttQ r nr p) i + ttQ r nr p i = _
          have n1 : ¬ r.2 36 (2 * i) = p := fun e => by rw [e] at c2; exact absurd (show (0 : Int32) = -1 from (if_pos rfl).symm.trans c2) (by decide)
          have n2 : ¬ r.2 36 (2 * i + 1) = p := fun e => by
            unfold sdF at c2
            rw [if_neg (fun z => n1 z.symm), if_pos e.symm] at c2
            exact absurd c2 (by decide)
          unfold ttQ
          rw [if_neg n1, if_neg n2]; simp
        refine g_iinc (nI (i + 1)) [some (.ref 16), some (.int p), some (.int (isum (ttQ r nr p) i)), some (.int (nI (i + 1))), some (.ref R), some (.int (sdF p (r.2 36 (2 * i)) (r.2 36 (2 * i + 1))))] rfl rfl (nI_1 i) rfl ?_
        refine g_goto rfl ?_
        first | exact ih (i + 1) _ _ (by omega) (by omega) | (rw [← hc]; exact ih (i + 1) _ _ (by omega) (by omega))
      · obtain ⟨s, hs, hsd, hc⟩ : ∃ s, s < 2 ∧ sdF p (r.2 36 (2 * i)) (r.2 36 (2 * i + 1)) = nI s ∧ isum (ttQ r nr p) (i + 1) = isum (ttQ r nr p) i + ptF r nr i s := by
          by_cases e1 : p = r.2 36 (2 * i)
          · refine ⟨0, by decide, if_pos e1, ?_⟩
            show isum (ttQ r nr p) i + ttQ r nr p i = _
            unfold ttQ
            rw [if_pos e1.symm, if_neg (fun z => hne (e1.symm.trans z.symm))]; simp
          · by_cases e2 : p = r.2 36 (2 * i + 1)
            · refine ⟨1, by decide, (if_neg e1).trans (if_pos e2), ?_⟩
              show isum (ttQ r nr p) i + ttQ r nr p i = _
              unfold ttQ
              rw [if_neg (fun z => e1 z.symm), if_pos e2.symm]; simp
            · exact absurd ((if_neg e1).trans (if_neg e2)) c2
        rw [hsd]
        refine g_load rfl rfl rfl trivial ?_
        refine g_load rfl rfl rfl trivial ?_
        refine g_load rfl rfl rfl trivial ?_
        refine g_load rfl rfl rfl trivial ?_
        refine g_load rfl rfl rfl trivial ?_
        refine g_virtI (a := 16) (ci := 7) (n := 3) [.ref R, .int (nI i), .int (nI s)] eF_tr rfl rfl (by decide) rfl (c_ob k16 (by decide) (by rfl)) rfl (Nat.le_of_ble_eq_true rfl) (Nat.le_refl _) (Nat.le_refl _) (c_pts hJ i R s (by omega) hR hs ⟨_, rfl, ?_⟩)
        refine g_iadd rfl ?_
        rw [← hc]
        refine g_store [some (.ref 16), some (.int p), some (.int (isum (ttQ r nr p) (i + 1))), some (.int (nI i)), some (.ref R), some (.int (nI s))] rfl rfl trivial (Nat.le_of_ble_eq_true rfl) rfl ?_
        refine g_iinc (nI (i + 1)) [some (.ref 16), some (.int p), some (.int (isum (ttQ r nr p) (i + 1))), some (.int (nI (i + 1))), some (.ref R), some (.int (nI s))] rfl rfl (nI_1 i) rfl ?_
        refine g_goto rfl ?_
        first | exact ih (i + 1) _ _ (by omega) (by omega) | (rw [← hc]; exact ih (i + 1) _ _ (by omega) (by omega))
set_option maxRecDepth 20000 in
theorem c_pop {pr : aC} {d : Nat} {u : cS} {r : rS} {nb nr : Nat} (hJ : J u r nb nr) (p : Int32) {Q : Option Value → cS → Prop} (hQ : Q (some (.int (isum (ttQ r nr p) nr))) u) : cR pr (d + 3 + 1) 154 [.ref 16, .int p] u Q := by
  refine gR_of mi_154 eF_rf rfl (Nat.le_of_ble_eq_true rfl) ?_
  show cB pr (d + 3) cd_154 (Option.some Jvm.ClassFile.FieldType.int) Q 0 [some (.ref 16), some (.int p), none, none, none, none] [] u
  refine g_iconst (nI 0) rfl (by decide) ?_
  refine g_store [some (.ref 16), some (.int p), some (.int (isum (ttQ r nr p) 0)), none, none, none] rfl rfl trivial (Nat.le_of_ble_eq_true rfl) rfl ?_
  refine g_iconst (nI 0) rfl (by decide) ?_
  refine g_store [some (.ref 16), some (.int p), some (.int (isum (ttQ r nr p) 0)), some (.int (nI 0)), none, none] rfl rfl trivial (Nat.le_of_ble_eq_true rfl) rfl ?_
  exact c_pop_l hJ p hQ (nr + 1) 0 none none (by omega) (by omega)
set_option maxRecDepth 20000 in
theorem c_mop_l {pr : aC} {d : Nat} {u : cS} {r : rS} {nb nr : Nat} (hJ : J u r nb nr) (p : Int32) {Q : Option Value → cS → Prop} (hQ : Q (some (.int (isum (tpQ r nr p) nr))) u) : ∀ (zz : Nat) (i : Nat) (l4 : Option Value) (hm : nr - i < zz) (hle : i ≤ nr), cB pr (d + 2) cd_155 (Option.some Jvm.ClassFile.FieldType.int) Q 4 [some (.ref 16), some (.int p), some (.int (isum (tpQ r nr p) i)), some (.int (nI i)), l4] [] u := by
  intro zz
  induction zz with
  | zero => intro i l4 hm hle; exact absurd hm (by omega)
  | succ zz ih =>
    intro i l4 hm hle
    have hnr2 := hJ.nr
    obtain ⟨hnr, hr1, _⟩ := hJ.hr
    obtain ⟨hnb, hnb2, hr0⟩ := hJ.hb
    have hk0 := hJ.k
    obtain ⟨k16, k17, k18, k19, k20, k21, k22, k23, k24⟩ := hJ.k
    refine g_load rfl rfl rfl trivial ?_
    refine g_load rfl rfl rfl trivial ?_
    refine c_getf rfl (by assumption) (by decide) (by rfl) (by rfl) ?_
    rw [hnr]
    refine g_icmp_ge rfl (fun c1 => ?_) (fun c1 => ?_)
    · rw [nI_leI (by omega) (by omega)] at c1
      have e : i = nr := by omega
      subst e
      refine g_load rfl rfl rfl trivial ?_
      refine g_vret rfl trivial ⟨rfl, rfl⟩ (Nat.le_refl _) (Nat.le_refl _) ?_
      exact hQ
    · rw [nI_leI (by omega) (by omega)] at c1
      obtain ⟨R, hR⟩ := hJ.rs (show i < nr by omega)
      have kR := hR.2.1
      have hsb := sdB_r hR p
      unfold sdB at hsb
      obtain ⟨bd, hbd, hbd2⟩ := hR.2.2.2.2.2.2.2.2.2.2.2.2.2.1
      obtain ⟨B, hB⟩ := hJ.bd hbd
      refine g_load rfl rfl rfl trivial ?_
      refine g_load rfl rfl rfl trivial ?_
      refine g_virtI (a := 16) (ci := 7) (n := 1) [.int (nI i)] eF_tr rfl rfl (by decide) rfl (c_ob k16 (by decide) (by rfl)) rfl (Nat.le_of_ble_eq_true rfl) (Nat.le_refl _) (Nat.le_refl _) (c_ratt nr hk0 hnr hnr2 i R (by omega) hR.1 ⟨_, rfl, ?_⟩)
      refine g_store [some (.ref 16), some (.int p), some (.int (isum (tpQ r nr p) i)), some (.int (nI i)), some (.ref R)] rfl rfl trivial (Nat.le_of_ble_eq_true rfl) rfl ?_
      refine g_load rfl rfl rfl trivial ?_
      refine g_ifnull_r rfl ?_
      refine g_load rfl rfl rfl trivial ?_
      refine g_load rfl rfl rfl trivial ?_
      refine g_virtI (a := R) (ci := 5) (n := 1) [.int p] eF_tr rfl rfl (by decide) rfl (c_ob (by assumption) (by decide) (by rfl)) rfl (Nat.le_of_ble_eq_true rfl) (Nat.le_refl _) (Nat.le_refl _) (c_rside R kR p ⟨_, rfl, ?_⟩)
      refine g_iconst (-1) rfl (by decide) ?_
      refine g_icmp_eq rfl (fun c2 => ?_) (fun c2 => ?_)
      · have hc : isum (tpQ r nr p) (i + 1) = isum (tpQ r nr p) i := by
          show isum (tpQ r nr p) i + tpQ r nr p i = _
          unfold tpQ
          rw [← hsb, decide_eq_false (fun z => z c2), if_neg (by simp)]; simp
        refine g_iinc (nI (i + 1)) [some (.ref 16), some (.int p), some (.int (isum (tpQ r nr p) i)), some (.int (nI (i + 1))), some (.ref R)] rfl rfl (nI_1 i) rfl ?_
        refine g_goto rfl ?_
        first | exact ih (i + 1) _ (by omega) (by omega) | (rw [← hc]; exact ih (i + 1) _ (by omega) (by omega))
      · have hc : isum (tpQ r nr p) (i + 1) = isum (tpQ r nr p) i + alN r nr i := by
          show isum (tpQ r nr p) i + tpQ r nr p i = _
          unfold tpQ
          rw [← hsb, decide_eq_true c2, if_pos rfl]
        refine g_load rfl rfl rfl trivial ?_
        refine g_load rfl rfl rfl trivial ?_
        refine g_load rfl rfl rfl trivial ?_
        refine g_virtI (a := 16) (ci := 7) (n := 1) [.ref R] eF_tr rfl rfl (by decide) rfl (c_ob k16 (by decide) (by rfl)) rfl (Nat.le_of_ble_eq_true rfl) (Nat.le_refl _) (Nat.le_refl _) (c_mostOf nb hk0 hnb hnb2 R bd B kR (hR.2.2.1.trans hbd2) hbd hB.1 hB.2.1 ⟨_, rfl, ?_⟩)
        rw [J.al hB hbd2]
        refine g_iadd rfl ?_
        rw [← hc]
        refine g_store [some (.ref 16), some (.int p), some (.int (isum (tpQ r nr p) (i + 1))), some (.int (nI i)), some (.ref R)] rfl rfl trivial (Nat.le_of_ble_eq_true rfl) rfl ?_
        refine g_iinc (nI (i + 1)) [some (.ref 16), some (.int p), some (.int (isum (tpQ r nr p) (i + 1))), some (.int (nI (i + 1))), some (.ref R)] rfl rfl (nI_1 i) rfl ?_
        refine g_goto rfl ?_
        first | exact ih (i + 1) _ (by omega) (by omega) | (rw [← hc]; exact ih (i + 1) _ (by omega) (by omega))
set_option maxRecDepth 20000 in
theorem c_mop {pr : aC} {d : Nat} {u : cS} {r : rS} {nb nr : Nat} (hJ : J u r nb nr) (p : Int32) {Q : Option Value → cS → Prop} (hQ : Q (some (.int (isum (tpQ r nr p) nr))) u) : cR pr (d + 2 + 1) 155 [.ref 16, .int p] u Q := by
  refine gR_of mi_155 eF_rf rfl (Nat.le_of_ble_eq_true rfl) ?_
  show cB pr (d + 2) cd_155 (Option.some Jvm.ClassFile.FieldType.int) Q 0 [some (.ref 16), some (.int p), none, none, none] [] u
  refine g_iconst (nI 0) rfl (by decide) ?_
  refine g_store [some (.ref 16), some (.int p), some (.int (isum (tpQ r nr p) 0)), none, none] rfl rfl trivial (Nat.le_of_ble_eq_true rfl) rfl ?_
  refine g_iconst (nI 0) rfl (by decide) ?_
  refine g_store [some (.ref 16), some (.int p), some (.int (isum (tpQ r nr p) 0)), some (.int (nI 0)), none] rfl rfl trivial (Nat.le_of_ble_eq_true rfl) rfl ?_
  exact c_mop_l hJ p hQ (nr + 1) 0 none (by omega) (by omega)
theorem i64_0 {x : Int32} : x.toInt64 = 0 ↔ x = 0 := by
  constructor
  · intro h
    have h1 := congrArg Int64.toInt h
    rw [Int32.toInt_toInt64] at h1
    exact Int32.toInt_inj.mp (h1.trans (by decide))
  · rintro rfl; decide
set_option maxRecDepth 20000 in
theorem c_pov {pr : aC} {d : Nat} {u : cS} {r : rS} {nb nr : Nat} (hJ : J u r nb nr) (p : Int32) (hr : anyN (hrF r p) nr = true) {Q : Option Value → cS → Prop} (hQ : Q (some (.long (ovL r nr p))) u) : cR pr (d + 4 + 1) 156 [.ref 16, .int p] u Q := by
  refine gR_of mi_156 eF_rf rfl (Nat.le_of_ble_eq_true rfl) ?_
  show cB pr (d + 4) cd_156 (Option.some Jvm.ClassFile.FieldType.long) Q 0 [some (.ref 16), some (.int p)] [] u
  have hnr2 := hJ.nr
  obtain ⟨hnr, hr1, _⟩ := hJ.hr
  obtain ⟨hnb, hnb2, hr0⟩ := hJ.hb
  have hk0 := hJ.k
  obtain ⟨k16, k17, k18, k19, k20, k21, k22, k23, k24⟩ := hJ.k
  have e1 : tpF r nr p = isum (tpQ r nr p) nr := if_pos hr
  have e2 : ttF r nr p = isum (ttQ r nr p) nr := if_pos hr
  unfold ovL at hQ
  rw [e1, e2] at hQ
  refine g_load rfl rfl rfl trivial ?_
  refine g_load rfl rfl rfl trivial ?_
  refine g_virtI (a := 16) (ci := 7) (n := 1) [.int p] eF_tr rfl rfl (by decide) rfl (c_ob k16 (by decide) (by rfl)) rfl (Nat.le_of_ble_eq_true rfl) (Nat.le_refl _) (Nat.le_refl _) (c_mop hJ p ⟨_, rfl, ?_⟩)
  refine g_if_ne rfl (fun c1 => ?_) (fun c1 => ?_)
  · rw [if_neg (fun z => c1 (i64_0.mp z))] at hQ
    refine g_load rfl rfl rfl trivial ?_
    refine g_load rfl rfl rfl trivial ?_
    refine g_virtI (a := 16) (ci := 7) (n := 1) [.int p] eF_tr rfl rfl (by decide) rfl (c_ob k16 (by decide) (by rfl)) rfl (Nat.le_of_ble_eq_true rfl) (Nat.le_refl _) (Nat.le_refl _) (c_pop hJ p ⟨_, rfl, ?_⟩)
    refine g_i2l rfl ?_
    refine g_vret rfl trivial (by first | exact ⟨by decide, by decide⟩ | trivial) (Nat.le_refl _) (Nat.le_refl _) ?_
    exact hQ
  · rw [if_pos (i64_0.mpr c1)] at hQ
    refine g_lconst (lN 1) rfl rfl ?_
    refine g_goto rfl ?_
    refine g_vret rfl trivial (by first | exact ⟨by decide, by decide⟩ | trivial) (Nat.le_refl _) (Nat.le_refl _) ?_
    exact hQ
set_option maxRecDepth 20000 in
theorem c_pun {pr : aC} {d : Nat} {u : cS} {r : rS} {nb nr : Nat} (hJ : J u r nb nr) (p : Int32) (hr : anyN (hrF r p) nr = true) {Q : Option Value → cS → Prop} (hQ : Q (some (.long (unL r nr p))) u) : cR pr (d + 3 + 1) 157 [.ref 16, .int p] u Q := by
  refine gR_of mi_157 eF_rf rfl (Nat.le_of_ble_eq_true rfl) ?_
  show cB pr (d + 3) cd_157 (Option.some Jvm.ClassFile.FieldType.long) Q 0 [some (.ref 16), some (.int p), none] [] u
  have hnr2 := hJ.nr
  obtain ⟨hnr, hr1, _⟩ := hJ.hr
  obtain ⟨hnb, hnb2, hr0⟩ := hJ.hb
  have hk0 := hJ.k
  obtain ⟨k16, k17, k18, k19, k20, k21, k22, k23, k24⟩ := hJ.k
  have e1 : tpF r nr p = isum (tpQ r nr p) nr := if_pos hr
  unfold unL at hQ
  rw [e1] at hQ
  refine g_load rfl rfl rfl trivial ?_
  refine g_load rfl rfl rfl trivial ?_
  refine g_virtI (a := 16) (ci := 7) (n := 1) [.int p] eF_tr rfl rfl (by decide) rfl (c_ob k16 (by decide) (by rfl)) rfl (Nat.le_of_ble_eq_true rfl) (Nat.le_refl _) (Nat.le_refl _) (c_mop hJ p ⟨_, rfl, ?_⟩)
  refine g_store [some (.ref 16), some (.int p), some (.int (isum (tpQ r nr p) nr))] rfl rfl trivial (Nat.le_of_ble_eq_true rfl) rfl ?_
  refine g_load rfl rfl rfl trivial ?_
  refine g_if_ne rfl (fun c1 => ?_) (fun c1 => ?_)
  · rw [if_neg (fun z => c1 (i64_0.mp z))] at hQ
    refine g_load rfl rfl rfl trivial ?_
    refine g_i2l rfl ?_
    refine g_vret rfl trivial (by first | exact ⟨by decide, by decide⟩ | trivial) (Nat.le_refl _) (Nat.le_refl _) ?_
    exact hQ
  · rw [if_pos (i64_0.mpr c1)] at hQ
    refine g_ldc2 (2) rfl (by decide) ?_
    refine g_goto rfl ?_
    refine g_vret rfl trivial (by first | exact ⟨by decide, by decide⟩ | trivial) (Nat.le_refl _) (Nat.le_refl _) ?_
    exact hQ
