/-! ===== the club beside the reference: scores, steps, places, plans; the reference: steps, points out of range ===== -/
theorem bp_self {r : rS} {nr : Nat} {p : Int32} {q : Nat} : bpF r nr p q = (anyN (hrF r (nI q)) nr && decide (ovL r nr p * unL r nr (nI q) < ovL r nr (nI q) * unL r nr p)) := by
  unfold bpF
  by_cases e : nI q = p
  · subst e
    rw [decide_eq_false (p := ovL r nr (nI q) * unL r nr (nI q) < _) (Int64.lt_irrefl)]; simp
  · rw [decide_eq_true e, Bool.true_and]
set_option maxRecDepth 20000 in
theorem j_place_l {pr : aC} {d : Nat} {u : cS} {r : rS} {nb nr : Nat} (hJ : J u r nb nr) (p : Int32) (hr : anyN (hrF r p) nr = true) {Q : Option Value → cS → Prop} (hQ : Q (some (.int (pcF r nr p))) u) : ∀ (zz : Nat) (i : Nat) (hm : 40 - i < zz) (hle : i ≤ 40), cB pr (d + 5) cd_133 (Option.some Jvm.ClassFile.FieldType.int) Q 18 [some (.ref 16), some (.int p), some (.long (ovL r nr p)), none, some (.long (unL r nr p)), none, some (.int (nI (cnt (bpF r nr p) i))), some (.int (nI i))] [] u := by
  intro zz
  induction zz with
  | zero => intro i hm hle; exact absurd hm (by omega)
  | succ zz ih =>
    intro i hm hle
    have hnr2 := hJ.nr
    obtain ⟨hnr, hr1, _⟩ := hJ.hr
    obtain ⟨hnb, hnb2, hr0⟩ := hJ.hb
    have hk0 := hJ.k
    obtain ⟨k16, k17, k18, k19, k20, k21, k22, k23, k24⟩ := hJ.k
    refine g_load rfl rfl rfl trivial ?_
    refine g_bipush (nI 40) rfl (by decide) ?_
    refine g_icmp_ge rfl (fun c1 => ?_) (fun c1 => ?_)
    · rw [nI_leI (by omega) (by omega)] at c1
      have e : i = 40 := by omega
      subst e
      unfold pcF at hQ
      rw [if_pos hr, Nat.add_comm] at hQ
      refine g_load rfl rfl rfl trivial ?_
      refine g_iconst (nI 1) rfl (by decide) ?_
      refine g_iadd rfl ?_
      rw [nI_add]
      refine g_vret rfl trivial ⟨rfl, rfl⟩ (Nat.le_refl _) (Nat.le_refl _) ?_
      exact hQ
    · rw [nI_leI (by omega) (by omega)] at c1
      refine g_load rfl rfl rfl trivial ?_
      refine g_load rfl rfl rfl trivial ?_
      refine g_virtI (a := 16) (ci := 7) (n := 1) [.int (nI i)] eF_tr rfl rfl (by decide) rfl (c_ob k16 (by decide) (by rfl)) rfl (Nat.le_of_ble_eq_true rfl) (Nat.le_refl _) (Nat.le_refl _) (c_hres nr hk0 hnr hnr2 (nI i) (hrF r (nI i)) (hJ.hq (nI i)) ⟨_, rfl, ?_⟩)
      refine g_if_eq rfl (fun c2 => ?_) (fun c2 => ?_)
      · rw [bI_eq] at c2
        have hc : cnt (bpF r nr p) (i + 1) = cnt (bpF r nr p) i := by show cnt (bpF r nr p) i + (if bpF r nr p i = true then 1 else 0) = _; rw [bp_self, c2]; rfl
        refine g_iinc (nI (i + 1)) [some (.ref 16), some (.int p), some (.long (ovL r nr p)), none, some (.long (unL r nr p)), none, some (.int (nI (cnt (bpF r nr p) i))), some (.int (nI (i + 1)))] rfl rfl (nI_1 i) rfl ?_
        refine g_goto rfl ?_
        rw [← hc]
        exact ih (i + 1) (by omega) (by omega)
      · rw [bI_ne] at c2
        have hri := c2
        refine g_load rfl rfl rfl trivial ?_
        refine g_load rfl rfl rfl trivial ?_
        refine g_virtI (a := 16) (ci := 7) (n := 1) [.int (nI i)] eF_tr rfl rfl (by decide) rfl (c_ob k16 (by decide) (by rfl)) rfl (Nat.le_of_ble_eq_true rfl) (Nat.le_refl _) (Nat.le_refl _) (c_pov hJ (nI i) hri ⟨_, rfl, ?_⟩)
        refine g_load rfl rfl rfl trivial ?_
        refine g_lmul rfl ?_
        refine g_load rfl rfl rfl trivial ?_
        refine g_load rfl rfl rfl trivial ?_
        refine g_load rfl rfl rfl trivial ?_
        refine g_virtI (a := 16) (ci := 7) (n := 1) [.int (nI i)] eF_tr rfl rfl (by decide) rfl (c_ob k16 (by decide) (by rfl)) rfl (Nat.le_of_ble_eq_true rfl) (Nat.le_refl _) (Nat.le_refl _) (c_pun hJ (nI i) hri ⟨_, rfl, ?_⟩)
        refine g_lmul rfl ?_
        refine g_lcmp rfl ?_
        refine g_if_le rfl (fun c3 => ?_) (fun c3 => ?_)
        · have hc : cnt (bpF r nr p) (i + 1) = cnt (bpF r nr p) i := by
            show cnt (bpF r nr p) i + (if bpF r nr p i = true then 1 else 0) = _
            rw [bp_self, hri, decide_eq_false (fun q => absurd ((lg_cmp_le _ _).mp c3) (Int64.not_le.mpr q))]; rfl
          refine g_iinc (nI (i + 1)) [some (.ref 16), some (.int p), some (.long (ovL r nr p)), none, some (.long (unL r nr p)), none, some (.int (nI (cnt (bpF r nr p) i))), some (.int (nI (i + 1)))] rfl rfl (nI_1 i) rfl ?_
          refine g_goto rfl ?_
          rw [← hc]
          exact ih (i + 1) (by omega) (by omega)
        · have hc : cnt (bpF r nr p) (i + 1) = cnt (bpF r nr p) i + 1 := by
            show cnt (bpF r nr p) i + (if bpF r nr p i = true then 1 else 0) = _
            rw [bp_self, hri, decide_eq_true (Int64.not_le.mp (fun q => c3 ((lg_cmp_le _ _).mpr q)))]; rfl
          refine g_iinc (nI (cnt (bpF r nr p) i + 1)) [some (.ref 16), some (.int p), some (.long (ovL r nr p)), none, some (.long (unL r nr p)), none, some (.int (nI (cnt (bpF r nr p) i + 1))), some (.int (nI i))] rfl rfl (nI_1 _) rfl ?_
          refine g_iinc (nI (i + 1)) [some (.ref 16), some (.int p), some (.long (ovL r nr p)), none, some (.long (unL r nr p)), none, some (.int (nI (cnt (bpF r nr p) i + 1))), some (.int (nI (i + 1)))] rfl rfl (nI_1 i) rfl ?_
          refine g_goto rfl ?_
          rw [← hc]
          exact ih (i + 1) (by omega) (by omega)
set_option maxRecDepth 20000 in
theorem j_place {pr : aC} {d : Nat} {u : cS} {r : rS} {nb nr : Nat} (hJ : J u r nb nr) (p : Int32) {Q : Option Value → cS → Prop} (hQ : Q (some (.int (pcF r nr p))) u) : cR pr (d + 5 + 1) 133 [.ref 16, .int p] u Q := by
  refine gR_of mi_133 eF_rf rfl (Nat.le_of_ble_eq_true rfl) ?_
  show cB pr (d + 5) cd_133 (Option.some Jvm.ClassFile.FieldType.int) Q 0 [some (.ref 16), some (.int p), none, none, none, none, none, none] [] u
  have hnr2 := hJ.nr
  obtain ⟨hnr, hr1, _⟩ := hJ.hr
  obtain ⟨hnb, hnb2, hr0⟩ := hJ.hb
  have hk0 := hJ.k
  obtain ⟨k16, k17, k18, k19, k20, k21, k22, k23, k24⟩ := hJ.k
  refine g_load rfl rfl rfl trivial ?_
  refine g_load rfl rfl rfl trivial ?_
  refine g_virtI (a := 16) (ci := 7) (n := 1) [.int p] eF_tr rfl rfl (by decide) rfl (c_ob k16 (by decide) (by rfl)) rfl (Nat.le_of_ble_eq_true rfl) (Nat.le_refl _) (Nat.le_refl _) (c_hres nr hk0 hnr hnr2 p (hrF r p) (hJ.hq p) ⟨_, rfl, ?_⟩)
  refine g_if_ne rfl (fun c1 => ?_) (fun c1 => ?_)
  · rw [bI_ne] at c1
    have hr := c1
    refine g_load rfl rfl rfl trivial ?_
    refine g_load rfl rfl rfl trivial ?_
    refine g_virtI (a := 16) (ci := 7) (n := 1) [.int p] eF_tr rfl rfl (by decide) rfl (c_ob k16 (by decide) (by rfl)) rfl (Nat.le_of_ble_eq_true rfl) (Nat.le_refl _) (Nat.le_refl _) (c_pov hJ p hr ⟨_, rfl, ?_⟩)
    refine g_store [some (.ref 16), some (.int p), some (.long (ovL r nr p)), none, none, none, none, none] rfl rfl trivial (Nat.le_of_ble_eq_true rfl) rfl ?_
    refine g_load rfl rfl rfl trivial ?_
    refine g_load rfl rfl rfl trivial ?_
    refine g_virtI (a := 16) (ci := 7) (n := 1) [.int p] eF_tr rfl rfl (by decide) rfl (c_ob k16 (by decide) (by rfl)) rfl (Nat.le_of_ble_eq_true rfl) (Nat.le_refl _) (Nat.le_refl _) (c_pun hJ p hr ⟨_, rfl, ?_⟩)
    refine g_store [some (.ref 16), some (.int p), some (.long (ovL r nr p)), none, some (.long (unL r nr p)), none, none, none] rfl rfl trivial (Nat.le_of_ble_eq_true rfl) rfl ?_
    refine g_iconst (nI 0) rfl (by decide) ?_
    refine g_store [some (.ref 16), some (.int p), some (.long (ovL r nr p)), none, some (.long (unL r nr p)), none, some (.int (nI (cnt (bpF r nr p) 0))), none] rfl rfl trivial (Nat.le_of_ble_eq_true rfl) rfl ?_
    refine g_iconst (nI 0) rfl (by decide) ?_
    refine g_store [some (.ref 16), some (.int p), some (.long (ovL r nr p)), none, some (.long (unL r nr p)), none, some (.int (nI (cnt (bpF r nr p) 0))), some (.int (nI 0))] rfl rfl trivial (Nat.le_of_ble_eq_true rfl) rfl ?_
    exact j_place_l hJ p hr hQ 41 0 (by omega) (by omega)
  · rw [bI_eq] at c1
    unfold pcF at hQ
    rw [c1, if_neg (by decide)] at hQ
    refine g_iconst (-1) rfl (by decide) ?_
    refine g_vret rfl trivial ⟨rfl, rfl⟩ (Nat.le_refl _) (Nat.le_refl _) ?_
    exact hQ
set_option maxRecDepth 20000 in
theorem j_score {pr : aC} {d : Nat} {u : cS} {r : rS} {nb nr : Nat} (hJ : J u r nb nr) (lv sr db tk : Int32) (v : Bool) {Q : Option Value → cS → Prop} (hQ : Q (some (.int (scG lv sr db v tk))) u) : cR pr (d + 3 + 1) 128 [.ref 16, .int lv, .int sr, .int db, .int (bI v), .int tk] u Q := by
  refine gR_of mi_128 eF_rf rfl (Nat.le_of_ble_eq_true rfl) ?_
  show cB pr (d + 3) cd_128 (Option.some Jvm.ClassFile.FieldType.int) Q 0 [some (.ref 16), some (.int lv), some (.int sr), some (.int db), some (.int (bI v)), some (.int tk), none] [] u
  refine g_load rfl rfl rfl trivial ?_
  refine g_iconst (nI 1) rfl (by decide) ?_
  refine g_icmp_lt rfl (fun c1 => ?_) (fun c1 => ?_)
  · have hx : scOk lv sr db tk = false := by unfold scOk inF; simp [show ¬ (1 : Int32) ≤ lv from Int32.not_le.mpr c1]
    unfold scG at hQ
    rw [hx, if_neg (by decide)] at hQ
    refine g_iconst (nI 0) rfl (by decide) ?_
    refine g_store [some (.ref 16), some (.int lv), some (.int sr), some (.int db), some (.int (bI v)), some (.int tk), some (.int (nI 0))] rfl rfl trivial (Nat.le_of_ble_eq_true rfl) rfl ?_
    refine g_load rfl rfl rfl trivial ?_
    refine g_if_eq rfl (fun _ => ?_) (fun c9 => absurd rfl c9)
    refine g_ldc (-2147483648) rfl ⟨_, Or.inl rfl⟩ (by decide) ?_
    refine g_vret rfl trivial ⟨rfl, rfl⟩ (Nat.le_refl _) (Nat.le_refl _) ?_
    exact hQ
  · have h1 := Int32.not_lt.mp c1
    refine g_load rfl rfl rfl trivial ?_
    refine g_bipush (nI 7) rfl (by decide) ?_
    refine g_icmp_gt rfl (fun c2 => ?_) (fun c2 => ?_)
    · have hx : scOk lv sr db tk = false := by unfold scOk inF; simp [show ¬ lv ≤ (7 : Int32) from Int32.not_le.mpr c2]
      unfold scG at hQ
      rw [hx, if_neg (by decide)] at hQ
      refine g_iconst (nI 0) rfl (by decide) ?_
      refine g_store [some (.ref 16), some (.int lv), some (.int sr), some (.int db), some (.int (bI v)), some (.int tk), some (.int (nI 0))] rfl rfl trivial (Nat.le_of_ble_eq_true rfl) rfl ?_
      refine g_load rfl rfl rfl trivial ?_
      refine g_if_eq rfl (fun _ => ?_) (fun c9 => absurd rfl c9)
      refine g_ldc (-2147483648) rfl ⟨_, Or.inl rfl⟩ (by decide) ?_
      refine g_vret rfl trivial ⟨rfl, rfl⟩ (Nat.le_refl _) (Nat.le_refl _) ?_
      exact hQ
    · have h2 := Int32.not_lt.mp c2
      refine g_load rfl rfl rfl trivial ?_
      refine g_if_lt rfl (fun c3 => ?_) (fun c3 => ?_)
      · have hx : scOk lv sr db tk = false := by unfold scOk inF; simp [show ¬ (0 : Int32) ≤ sr from Int32.not_le.mpr c3]
        unfold scG at hQ
        rw [hx, if_neg (by decide)] at hQ
        refine g_iconst (nI 0) rfl (by decide) ?_
        refine g_store [some (.ref 16), some (.int lv), some (.int sr), some (.int db), some (.int (bI v)), some (.int tk), some (.int (nI 0))] rfl rfl trivial (Nat.le_of_ble_eq_true rfl) rfl ?_
        refine g_load rfl rfl rfl trivial ?_
        refine g_if_eq rfl (fun _ => ?_) (fun c9 => absurd rfl c9)
        refine g_ldc (-2147483648) rfl ⟨_, Or.inl rfl⟩ (by decide) ?_
        refine g_vret rfl trivial ⟨rfl, rfl⟩ (Nat.le_refl _) (Nat.le_refl _) ?_
        exact hQ
      · have h3 := Int32.not_lt.mp c3
        refine g_load rfl rfl rfl trivial ?_
        refine g_iconst (nI 4) rfl (by decide) ?_
        refine g_icmp_gt rfl (fun c4 => ?_) (fun c4 => ?_)
        · have hx : scOk lv sr db tk = false := by unfold scOk inF; simp [show ¬ sr ≤ (4 : Int32) from Int32.not_le.mpr c4]
          unfold scG at hQ
          rw [hx, if_neg (by decide)] at hQ
          refine g_iconst (nI 0) rfl (by decide) ?_
          refine g_store [some (.ref 16), some (.int lv), some (.int sr), some (.int db), some (.int (bI v)), some (.int tk), some (.int (nI 0))] rfl rfl trivial (Nat.le_of_ble_eq_true rfl) rfl ?_
          refine g_load rfl rfl rfl trivial ?_
          refine g_if_eq rfl (fun _ => ?_) (fun c9 => absurd rfl c9)
          refine g_ldc (-2147483648) rfl ⟨_, Or.inl rfl⟩ (by decide) ?_
          refine g_vret rfl trivial ⟨rfl, rfl⟩ (Nat.le_refl _) (Nat.le_refl _) ?_
          exact hQ
        · have h4 := Int32.not_lt.mp c4
          refine g_iconst (nI 1) rfl (by decide) ?_
          refine g_goto rfl ?_
          refine g_store [some (.ref 16), some (.int lv), some (.int sr), some (.int db), some (.int (bI v)), some (.int tk), some (.int (nI 1))] rfl rfl trivial (Nat.le_of_ble_eq_true rfl) rfl ?_
          refine g_load rfl rfl rfl trivial ?_
          refine g_if_eq rfl (fun c9 => absurd c9 (by decide)) (fun _ => ?_)
          refine g_load rfl rfl rfl trivial ?_
          refine g_if_lt rfl (fun c5 => ?_) (fun c5 => ?_)
          · have hx : scOk lv sr db tk = false := by unfold scOk inF; simp [show ¬ (0 : Int32) ≤ db from Int32.not_le.mpr c5]
            unfold scG at hQ
            rw [hx, if_neg (by decide)] at hQ
            refine g_ldc (-2147483648) rfl ⟨_, Or.inl rfl⟩ (by decide) ?_
            refine g_vret rfl trivial ⟨rfl, rfl⟩ (Nat.le_refl _) (Nat.le_refl _) ?_
            exact hQ
          · have h5 := Int32.not_lt.mp c5
            refine g_load rfl rfl rfl trivial ?_
            refine g_iconst (nI 2) rfl (by decide) ?_
            refine g_icmp_gt rfl (fun c6 => ?_) (fun c6 => ?_)
            · have hx : scOk lv sr db tk = false := by unfold scOk inF; simp [show ¬ db ≤ (2 : Int32) from Int32.not_le.mpr c6]
              unfold scG at hQ
              rw [hx, if_neg (by decide)] at hQ
              refine g_ldc (-2147483648) rfl ⟨_, Or.inl rfl⟩ (by decide) ?_
              refine g_vret rfl trivial ⟨rfl, rfl⟩ (Nat.le_refl _) (Nat.le_refl _) ?_
              exact hQ
            · have h6 := Int32.not_lt.mp c6
              refine g_load rfl rfl rfl trivial ?_
              refine g_if_lt rfl (fun c7 => ?_) (fun c7 => ?_)
              · have hx : scOk lv sr db tk = false := by unfold scOk inF; simp [show ¬ (0 : Int32) ≤ tk from Int32.not_le.mpr c7]
                unfold scG at hQ
                rw [hx, if_neg (by decide)] at hQ
                refine g_ldc (-2147483648) rfl ⟨_, Or.inl rfl⟩ (by decide) ?_
                refine g_vret rfl trivial ⟨rfl, rfl⟩ (Nat.le_refl _) (Nat.le_refl _) ?_
                exact hQ
              · have h7 := Int32.not_lt.mp c7
                refine g_load rfl rfl rfl trivial ?_
                refine g_bipush (nI 13) rfl (by decide) ?_
                refine g_icmp_le rfl (fun c8 => ?_) (fun c8 => ?_)
                · have h8 := c8
                  obtain ⟨lv, a1, a2, rfl⟩ := in_of (x := lv) (a := 1) (b := 7) (n := 1) (m := 7) (by unfold inF; simp [show (1 : Int32) ≤ lv from h1, show lv ≤ (7 : Int32) from h2]) rfl rfl (by decide) (by decide)
                  obtain ⟨sr, b1, b2, rfl⟩ := in_of (x := sr) (a := 0) (b := 4) (n := 0) (m := 4) (by unfold inF; simp [h3, show sr ≤ (4 : Int32) from h4]) rfl rfl (by decide) (by decide)
                  obtain ⟨db, d1, d2, rfl⟩ := in_of (x := db) (a := 0) (b := 2) (n := 0) (m := 2) (by unfold inF; simp [h5, show db ≤ (2 : Int32) from h6]) rfl rfl (by decide) (by decide)
                  obtain ⟨tk, e1, e2, rfl⟩ := in_of (x := tk) (a := 0) (b := 13) (n := 0) (m := 13) (by unfold inF; simp [h7, show tk ≤ (13 : Int32) from h8]) rfl rfl (by decide) (by decide)
                  rw [← of_sc lv (by omega) a1 sr (by omega) db (by omega) tk (by omega) v] at hQ
                  refine g_load rfl rfl rfl trivial ?_
                  refine g_load rfl rfl rfl trivial ?_
                  refine g_load rfl rfl rfl trivial ?_
                  refine g_load rfl rfl rfl trivial ?_
                  refine g_load rfl rfl rfl trivial ?_
                  refine g_statI [.int (nI lv), .int (nI sr), .int (nI db), .int (bI v), .int (nI tk)] eF_tr rfl rfl rfl (Nat.le_of_ble_eq_true rfl) (Nat.le_refl _) (Nat.le_refl _) (p_ofContract eF_rf eF_tr (nI lv) (nI sr) (nI db) (nI tk) v ⟨_, rfl, ?_⟩)
                  refine g_vret rfl trivial ⟨rfl, rfl⟩ (Nat.le_refl _) (Nat.le_refl _) ?_
                  exact hQ
                · have hx : scOk lv sr db tk = false := by unfold scOk inF; simp [show ¬ tk ≤ (13 : Int32) from c8]
                  unfold scG at hQ
                  rw [hx, if_neg (by decide)] at hQ
                  refine g_ldc (-2147483648) rfl ⟨_, Or.inl rfl⟩ (by decide) ?_
                  refine g_vret rfl trivial ⟨rfl, rfl⟩ (Nat.le_refl _) (Nat.le_refl _) ?_
                  exact hQ
theorem pln0 : ∀ t, t < 11 → 3 ≤ t → ∀ r, r < 10 → ∀ k, k < 10 → (pnOk (nI t) (nI r) (nI k) = (decide (k < t) && decide (r < if t % 2 = 0 then t - 1 else t))) := by decide +kernel
theorem pln1 : ∀ t, t < 11 → 3 ≤ t → ∀ r, r < 10 → ∀ k, k < 10 → ∀ s, s < 2 → (if (nI k - nI r - nI s) ^^^ nI t < 0 then (if (nI k - nI r - nI s) - (nI k - nI r - nI s) / nI t * nI t = 0 then 0 else (nI k - nI r - nI s) - (nI k - nI r - nI s) / nI t * nI t + nI t) else (nI k - nI r - nI s) - (nI k - nI r - nI s) / nI t * nI t) = moF (nI k - nI r - nI s) (nI t) := by decide +kernel
theorem pln2 : ∀ t, t < 11 → 3 ≤ t → ∀ r, r < 10 → ∀ k, k < 10 → (nI k + nI r) - (nI k + nI r) / nI t * nI t = moF (nI k + nI r) (nI t) := by decide +kernel
theorem pln3 : ∀ t, t < 11 → 3 ≤ t → ∀ r, r < 10 → pnS (nI t) (nI r) = nI (if t % 2 = 0 ∧ t / 2 ≤ r then 1 else 0) := by decide +kernel
theorem pn_no {t r k w : Int32} (h : pnOk t r k = false) : pnF t r k w = -1 := by unfold pnF; rw [h, if_neg (by decide)]
theorem pn_r {t : Nat} {r k : Int32} (ht : t < 11) (h3 : 3 ≤ t) (h : r < 0 ∨ nI (if t % 2 = 0 then t - 1 else t) ≤ r) : pnOk (nI t) r k = false := by
  have e : (if evN (nI t) then nI t - nI 2 else nI t - nI 1) = nI ((if t % 2 = 0 then t - 1 else t) - 1) := by
    have : ∀ t, t < 11 → 3 ≤ t → (if evN (nI t) then nI t - nI 2 else nI t - nI 1) = nI ((if t % 2 = 0 then t - 1 else t) - 1) := by decide
    exact this t ht h3
  unfold pnOk
  rw [e]
  have : inF r 0 (nI ((if t % 2 = 0 then t - 1 else t) - 1)) = false := by
    cases q : inF r 0 (nI ((if t % 2 = 0 then t - 1 else t) - 1)) with
    | false => rfl
    | true =>
      exfalso
      have hm : (if t % 2 = 0 then t - 1 else t) < 11 ∧ 2 ≤ (if t % 2 = 0 then t - 1 else t) := by split <;> omega
      obtain ⟨y, _, y2, rfl⟩ := in_of q (n := 0) rfl rfl (by omega) (by decide)
      rcases h with h | h
      · exact nI_pos (by omega) h
      · rw [nI_leI (by omega) (by omega)] at h; omega
  rw [this]; simp
theorem pn_k {t : Nat} {r k : Int32} (ht : t < 11) (h3 : 3 ≤ t) (h : k < 0 ∨ nI t ≤ k) : pnOk (nI t) r k = false := by
  unfold pnOk
  have : inF k 0 (nI t - nI 1) = false := by
    cases q : inF k 0 (nI t - nI 1) with
    | false => rfl
    | true =>
      exfalso
      obtain ⟨y, _, y2, rfl⟩ := in_of q (n := 0) (m := t - 1) rfl (by rw [pk_sub (by omega)]) (by omega) (by decide)
      rcases h with h | h
      · exact nI_pos (by omega) h
      · rw [nI_leI (by omega) (by omega)] at h; omega
  rw [this]; simp
theorem pn_t {t r k : Int32} (h : t < 3 ∨ 10 < t) : pnOk t r k = false := by
  unfold pnOk inF
  rcases h with h | h
  · simp [Int32.not_le.mpr h]
  · simp [Int32.not_le.mpr h]
set_option maxRecDepth 20000 in
theorem j_plan_2 {pr : aC} {d : Nat} {u : cS} (t r0 k : Nat) (w : Int32) (ht : t < 11) (h3 : 3 ≤ t) (hr : r0 < if t % 2 = 0 then t - 1 else t) (hk : k < t) {Q : Option Value → cS → Prop} (hQ : Q (some (.int (pnF (nI t) (nI r0) (nI k) w))) u) : cB pr (d + 1) cd_134 (Option.some Jvm.ClassFile.FieldType.int) Q 47 [some (.ref 16), some (.int (nI t)), some (.int (nI r0)), some (.int (nI k)), some (.int w), some (.int (bI (decide (t % 2 = 0)))), some (.int (nI (if t % 2 = 0 then t - 1 else t))), some (.int (nI (if t % 2 = 0 ∧ t / 2 ≤ r0 then 1 else 0)))] [] u := by
  have hr10 : r0 < 10 := by revert hr; split <;> omega
  have hs2 : (if t % 2 = 0 ∧ t / 2 ≤ r0 then 1 else 0) < 2 := by split <;> omega
  have hok : pnOk (nI t) (nI r0) (nI k) = true := by rw [pln0 t ht h3 r0 hr10 k (by omega), decide_eq_true hk, decide_eq_true hr]; rfl
  unfold pnF at hQ
  rw [hok, if_pos rfl] at hQ
  refine g_load rfl rfl rfl trivial ?_
  by_cases hsw : w.toInt < 0 ∨ 2 < w.toInt
  · refine g_tabOut 67 rfl hsw rfl ?_
    rw [if_neg (show ¬ w = 0 from sw4 (n := 2) hsw 0 (by decide) (by decide)), if_neg (sw4 (n := 2) hsw 1 (by decide) (by decide)), if_neg (sw4 (n := 2) hsw 2 (by decide) (by decide))] at hQ
    refine g_iconst (-1) rfl (by decide) ?_
    refine g_vret rfl trivial ⟨rfl, rfl⟩ (Nat.le_refl _) (Nat.le_refl _) ?_
    exact hQ
  obtain ⟨ksw, hk, rfl⟩ := sw_of (x := w) (n := 2) hsw
  rcases (show ksw = 0 ∨ ksw = 1 ∨ ksw = 2 by omega) with rfl | rfl | rfl
  · refine g_tabIn (26) 49 rfl (by decide) (by decide) rfl rfl ?_
    rw [if_pos (show nI 0 = 0 from rfl)] at hQ
    refine g_load rfl rfl rfl trivial ?_
    refine g_vret rfl trivial ⟨rfl, rfl⟩ (Nat.le_refl _) (Nat.le_refl _) ?_
    exact hQ
  · refine g_tabIn (28) 51 rfl (by decide) (by decide) rfl rfl ?_
    rw [if_neg (by decide), if_pos rfl, pln3 t ht h3 r0 hr10, ← pln1 t ht h3 r0 hr10 k (by omega) _ hs2] at hQ
    refine g_load rfl rfl rfl trivial ?_
    refine g_load rfl rfl rfl trivial ?_
    refine g_load rfl rfl rfl trivial ?_
    refine g_isub rfl ?_
    refine g_load rfl rfl rfl trivial ?_
    refine g_isub rfl ?_
    refine g_load rfl rfl rfl trivial ?_
    refine g_statI [.int (nI k - nI r0 - (nI (if t % 2 = 0 ∧ t / 2 ≤ r0 then 1 else 0))), .int (nI t)] eF_tr rfl rfl rfl (Nat.le_of_ble_eq_true rfl) (Nat.le_refl _) (Nat.le_refl _) (p_floorMod eF_rf eF_tr (nI k - nI r0 - (nI (if t % 2 = 0 ∧ t / 2 ≤ r0 then 1 else 0))) t (by omega) (by omega) ⟨_, rfl, ?_⟩)
    refine g_iadd rfl ?_
    refine g_vret rfl trivial ⟨rfl, rfl⟩ (Nat.le_refl _) (Nat.le_refl _) ?_
    exact hQ
  · refine g_tabIn (41) 61 rfl (by decide) (by decide) rfl rfl ?_
    rw [if_neg (by decide), if_neg (by decide), if_pos rfl, ← pln2 t ht h3 r0 hr10 k (by omega)] at hQ
    refine g_load rfl rfl rfl trivial ?_
    refine g_load rfl rfl rfl trivial ?_
    refine g_iadd rfl ?_
    refine g_load rfl rfl rfl trivial ?_
    refine g_irem rfl (by rw [show (0 : Int32) = nI 0 from rfl, nI_eq (by omega) (by omega)]; omega) ?_
    refine g_vret rfl trivial ⟨rfl, rfl⟩ (Nat.le_refl _) (Nat.le_refl _) ?_
    exact hQ
set_option maxRecDepth 20000 in
theorem j_plan {pr : aC} {d : Nat} {u : cS} (t r k w : Int32) {Q : Option Value → cS → Prop} (hQ : Q (some (.int (pnF t r k w))) u) : cR pr (d + 1 + 1) 134 [.ref 16, .int t, .int r, .int k, .int w] u Q := by
  refine gR_of mi_134 eF_rf rfl (Nat.le_of_ble_eq_true rfl) ?_
  show cB pr (d + 1) cd_134 (Option.some Jvm.ClassFile.FieldType.int) Q 0 [some (.ref 16), some (.int t), some (.int r), some (.int k), some (.int w), none, none, none] [] u
  refine g_load rfl rfl rfl trivial ?_
  refine g_iconst (nI 3) rfl (by decide) ?_
  refine g_icmp_lt rfl (fun c1 => ?_) (fun c1 => ?_)
  · rw [pn_no (pn_t (Or.inl c1))] at hQ
    refine g_iconst (-1) rfl (by decide) ?_
    refine g_vret rfl trivial ⟨rfl, rfl⟩ (Nat.le_refl _) (Nat.le_refl _) ?_
    exact hQ
  · have h1 := c1
    refine g_load rfl rfl rfl trivial ?_
    refine g_bipush (nI 10) rfl (by decide) ?_
    refine g_icmp_gt rfl (fun c2 => ?_) (fun c2 => ?_)
    · rw [pn_no (pn_t (Or.inr c2))] at hQ
      refine g_iconst (-1) rfl (by decide) ?_
      refine g_vret rfl trivial ⟨rfl, rfl⟩ (Nat.le_refl _) (Nat.le_refl _) ?_
      exact hQ
    · obtain ⟨t, a1, a2, rfl⟩ := in_of (x := t) (a := 3) (b := 10) (n := 3) (m := 10) (by unfold inF; simp [show (3 : Int32) ≤ t from Int32.not_lt.mp h1, show t ≤ (10 : Int32) from Int32.not_lt.mp c2]) rfl rfl (by decide) (by decide)
      refine g_load rfl rfl rfl trivial ?_
      refine g_if_lt rfl (fun c3 => ?_) (fun c3 => ?_)
      · rw [pn_no (pn_k (by omega) a1 (Or.inl c3))] at hQ
        refine g_iconst (-1) rfl (by decide) ?_
        refine g_vret rfl trivial ⟨rfl, rfl⟩ (Nat.le_refl _) (Nat.le_refl _) ?_
        exact hQ
      · obtain ⟨k, hk0, rfl⟩ := nI_of c3
        refine g_load rfl rfl rfl trivial ?_
        refine g_load rfl rfl rfl trivial ?_
        refine g_icmp_lt rfl (fun c4 => ?_) (fun c4 => ?_)
        · rw [nI_ltI (by omega) (by omega)] at c4
          refine g_load rfl rfl rfl trivial ?_
          refine g_iconst (nI 2) rfl (by decide) ?_
          refine g_irem rfl (by decide) ?_
          rw [pk_rem (by omega) (by omega) (by omega)]
          have K5 : ∀ e5 : Int32, e5 = bI (decide (t % 2 = 0)) → cB pr (d + 1) cd_134 (Option.some Jvm.ClassFile.FieldType.int) Q 20 [some (.ref 16), some (.int (nI t)), some (.int r), some (.int (nI k)), some (.int w), none, none, none] [.int e5] u := by
            intro e5 he5
            subst he5
            refine g_store [some (.ref 16), some (.int (nI t)), some (.int r), some (.int (nI k)), some (.int w), some (.int (bI (decide (t % 2 = 0)))), none, none] rfl rfl trivial (Nat.le_of_ble_eq_true rfl) rfl ?_
            refine g_load rfl rfl rfl trivial ?_
            have K6 : ∀ e6 : Int32, e6 = (nI (if t % 2 = 0 then t - 1 else t)) → cB pr (d + 1) cd_134 (Option.some Jvm.ClassFile.FieldType.int) Q 28 [some (.ref 16), some (.int (nI t)), some (.int r), some (.int (nI k)), some (.int w), some (.int (bI (decide (t % 2 = 0)))), none, none] [.int e6] u := by
              intro e6 he6
              subst he6
              refine g_store [some (.ref 16), some (.int (nI t)), some (.int r), some (.int (nI k)), some (.int w), some (.int (bI (decide (t % 2 = 0)))), some (.int (nI (if t % 2 = 0 then t - 1 else t))), none] rfl rfl trivial (Nat.le_of_ble_eq_true rfl) rfl ?_
              have hm : (if t % 2 = 0 then t - 1 else t) < 11 := by split <;> omega
              refine g_load rfl rfl rfl trivial ?_
              refine g_if_lt rfl (fun c7 => ?_) (fun c7 => ?_)
              · rw [pn_no (pn_r (by omega) a1 (Or.inl c7))] at hQ
                refine g_iconst (-1) rfl (by decide) ?_
                refine g_vret rfl trivial ⟨rfl, rfl⟩ (Nat.le_refl _) (Nat.le_refl _) ?_
                exact hQ
              · obtain ⟨r0, hr0, rfl⟩ := nI_of c7
                refine g_load rfl rfl rfl trivial ?_
                refine g_load rfl rfl rfl trivial ?_
                refine g_icmp_lt rfl (fun c8 => ?_) (fun c8 => ?_)
                · rw [nI_ltI (by omega) (by omega)] at c8
                  have hrr := c8
                  refine g_load rfl rfl rfl trivial ?_
                  refine g_if_eq rfl (fun c9 => ?_) (fun c9 => ?_)
                  · rw [bI_eq] at c9
                    have hce : (if t % 2 = 0 ∧ t / 2 ≤ r0 then 1 else 0) = 0 := if_neg (fun z => of_decide_eq_false c9 z.1)
                    refine g_iconst (nI 0) rfl (by decide) ?_
                    refine g_store [some (.ref 16), some (.int (nI t)), some (.int (nI r0)), some (.int (nI k)), some (.int w), some (.int (bI (decide (t % 2 = 0)))), some (.int (nI (if t % 2 = 0 then t - 1 else t))), some (.int (nI (if t % 2 = 0 ∧ t / 2 ≤ r0 then 1 else 0)))] rfl rfl trivial (Nat.le_of_ble_eq_true rfl) (by rw [hce]; rfl) ?_
                    exact j_plan_2 t r0 k w (by omega) a1 hrr (by omega) hQ
                  · rw [bI_ne] at c9
                    have hev := of_decide_eq_true c9
                    refine g_load rfl rfl rfl trivial ?_
                    refine g_load rfl rfl rfl trivial ?_
                    refine g_iconst (nI 2) rfl (by decide) ?_
                    refine g_idiv rfl (by decide) ?_
                    rw [pk_div (by omega) (by omega) (by omega)]
                    refine g_icmp_lt rfl (fun c10 => ?_) (fun c10 => ?_)
                    · rw [nI_ltI (by omega) (by omega)] at c10
                      have hce : (if t % 2 = 0 ∧ t / 2 ≤ r0 then 1 else 0) = 0 := if_neg (fun z => by omega)
                      refine g_iconst (nI 0) rfl (by decide) ?_
                      refine g_store [some (.ref 16), some (.int (nI t)), some (.int (nI r0)), some (.int (nI k)), some (.int w), some (.int (bI (decide (t % 2 = 0)))), some (.int (nI (if t % 2 = 0 then t - 1 else t))), some (.int (nI (if t % 2 = 0 ∧ t / 2 ≤ r0 then 1 else 0)))] rfl rfl trivial (Nat.le_of_ble_eq_true rfl) (by rw [hce]; rfl) ?_
                      exact j_plan_2 t r0 k w (by omega) a1 hrr (by omega) hQ
                    · rw [nI_ltI (by omega) (by omega)] at c10
                      have hce : (if t % 2 = 0 ∧ t / 2 ≤ r0 then 1 else 0) = 1 := if_pos ⟨hev, by omega⟩
                      refine g_iconst (nI 1) rfl (by decide) ?_
                      refine g_goto rfl ?_
                      refine g_store [some (.ref 16), some (.int (nI t)), some (.int (nI r0)), some (.int (nI k)), some (.int w), some (.int (bI (decide (t % 2 = 0)))), some (.int (nI (if t % 2 = 0 then t - 1 else t))), some (.int (nI (if t % 2 = 0 ∧ t / 2 ≤ r0 then 1 else 0)))] rfl rfl trivial (Nat.le_of_ble_eq_true rfl) (by rw [hce]; rfl) ?_
                      exact j_plan_2 t r0 k w (by omega) a1 hrr (by omega) hQ
                · rw [pn_no (pn_r (by omega) a1 (Or.inr (Int32.not_lt.mp c8)))] at hQ
                  refine g_iconst (-1) rfl (by decide) ?_
                  refine g_vret rfl trivial ⟨rfl, rfl⟩ (Nat.le_refl _) (Nat.le_refl _) ?_
                  exact hQ
            refine g_if_eq rfl (fun c6 => ?_) (fun c6 => ?_)
            · rw [bI_eq] at c6
              have hce : (if t % 2 = 0 then t - 1 else t) = t := if_neg (of_decide_eq_false c6)
              refine g_load rfl rfl rfl trivial ?_
              exact K6 _ (by rw [hce])
            · rw [bI_ne] at c6
              have hce : (if t % 2 = 0 then t - 1 else t) = t - 1 := if_pos (of_decide_eq_true c6)
              refine g_load rfl rfl rfl trivial ?_
              refine g_iconst (nI 1) rfl (by decide) ?_
              refine g_isub rfl ?_
              rw [pk_sub (by omega)]
              refine g_goto rfl ?_
              exact K6 _ (by rw [hce])
          refine g_if_ne rfl (fun c5 => ?_) (fun c5 => ?_)
          · rw [show (0 : Int32) = nI 0 from rfl, nI_eq (by omega) (by omega)] at c5
            have hce := decide_eq_false c5
            refine g_iconst (nI 0) rfl (by decide) ?_
            exact K5 _ (by rw [hce]; rfl)
          · rw [show (0 : Int32) = nI 0 from rfl, nI_eq (by omega) (by omega)] at c5
            have hce := decide_eq_true c5
            refine g_iconst (nI 1) rfl (by decide) ?_
            refine g_goto rfl ?_
            exact K5 _ (by rw [hce]; rfl)
        · rw [pn_no (pn_k (by omega) a1 (Or.inr (Int32.not_lt.mp c4)))] at hQ
          refine g_iconst (-1) rfl (by decide) ?_
          refine g_vret rfl trivial ⟨rfl, rfl⟩ (Nat.le_refl _) (Nat.le_refl _) ?_
          exact hQ
/-- how many bounds a difference reaches -/
def spC (x : Int64) (n : Nat) : Nat := cnt (fun i => decide ((stpF i).toInt64 ≤ x)) n
def spF (d : Int64) : Int32 := if d < 0 then -(nI (spC (-d) 24)) else nI (spC d 24)
theorem spC_le (x : Int64) (n : Nat) : spC x n ≤ n := cnt_le _ n
theorem lg_lt0 (d : Int64) : 0 ≤ lg_cmp d (lN 0) ↔ ¬ d < 0 := by
  show 0 ≤ lg_cmp d 0 ↔ ¬ d < 0
  unfold lg_cmp
  by_cases h : d > 0
  · rw [if_pos h]; exact ⟨fun _ z => absurd (Int64.lt_trans z h) (Int64.lt_irrefl), fun _ => by decide⟩
  · rw [if_neg h]
    by_cases e : d = 0
    · rw [if_pos e, e]; exact ⟨fun _ => by decide, fun _ => by decide⟩
    · rw [if_neg e]; exact ⟨fun z => absurd z (by decide), fun z => absurd (Int64.lt_of_le_of_ne (Int64.not_lt.mp h) e) z⟩
theorem lg_ltx (a b : Int64) : lg_cmp a b < 0 ↔ ¬ b ≤ a := by
  unfold lg_cmp
  by_cases h : a > b
  · rw [if_pos h]; exact ⟨fun z => absurd z (by decide), fun z => absurd (Int64.le_of_lt h) z⟩
  · rw [if_neg h]
    by_cases e : a = b
    · rw [if_pos e, e]; exact ⟨fun z => absurd z (by decide), fun z => absurd (Int64.le_refl b) z⟩
    · rw [if_neg e]; exact ⟨fun _ z => h (Int64.lt_of_le_of_ne z (Ne.symm e)), fun _ => by decide⟩
set_option maxRecDepth 20000 in
theorem c_steps_l {pr : aC} {d : Nat} {u : cS} (d0 x : Int64) (hx : x = if d0 < 0 then -d0 else d0) {Q : Option Value → cS → Prop} (hQ : Q (some (.int (spF d0))) u) : ∀ (zz : Nat) (i : Nat) (hm : 24 - i < zz) (hle : i ≤ 24), cB pr (d) cd_81 (Option.some Jvm.ClassFile.FieldType.int) Q 13 [some (.long d0), none, some (.long x), none, some (.int (nI (spC x i))), some (.int (nI i))] [] u := by
  intro zz
  induction zz with
  | zero => intro i hm hle; exact absurd hm (by omega)
  | succ zz ih =>
    intro i hm hle
    refine g_load rfl rfl rfl trivial ?_
    refine g_gets0 rfl ?_
    refine c_lenC rfl (by decide) (by rfl) (by decide) ?_
    refine g_icmp_ge rfl (fun c1 => ?_) (fun c1 => ?_)
    · rw [nI_leI (by omega) (by omega)] at c1
      have e : i = 24 := by omega
      subst e
      unfold spF at hQ
      refine g_load rfl rfl rfl trivial ?_
      refine g_lconst (lN 0) rfl rfl ?_
      refine g_lcmp rfl ?_
      refine g_if_ge rfl (fun c2 => ?_) (fun c2 => ?_)
      · rw [lg_lt0] at c2
        rw [if_neg c2] at hQ hx
        subst hx
        refine g_load rfl rfl rfl trivial ?_
        refine g_vret rfl trivial ⟨rfl, rfl⟩ (Nat.le_refl _) (Nat.le_refl _) ?_
        exact hQ
      · rw [lg_lt0, Classical.not_not] at c2
        rw [if_pos c2] at hQ hx
        subst hx
        refine g_load rfl rfl rfl trivial ?_
        refine g_ineg rfl ?_
        refine g_goto rfl ?_
        refine g_vret rfl trivial ⟨rfl, rfl⟩ (Nat.le_refl _) (Nat.le_refl _) ?_
        exact hQ
    · rw [nI_leI (by omega) (by omega)] at c1
      refine g_load rfl rfl rfl trivial ?_
      refine g_gets0 rfl ?_
      refine g_load rfl rfl rfl trivial ?_
      refine c_iaC i rfl (by decide) (by rfl) rfl (by omega) (by decide) ?_
      refine g_i2l rfl ?_
      refine g_lcmp rfl ?_
      refine g_if_lt rfl (fun c3 => ?_) (fun c3 => ?_)
      · rw [lg_ltx] at c3
        have hc : spC x (i + 1) = spC x i := by show cnt _ i + (if decide ((stpF i).toInt64 ≤ x) = true then 1 else 0) = _; rw [decide_eq_false c3]; rfl
        refine g_iinc (nI (i + 1)) [some (.long d0), none, some (.long x), none, some (.int (nI (spC x i))), some (.int (nI (i + 1)))] rfl rfl (nI_1 i) rfl ?_
        refine g_goto rfl ?_
        rw [← hc]
        exact ih (i + 1) (by omega) (by omega)
      · rw [lg_ltx, Classical.not_not] at c3
        have hc : spC x (i + 1) = spC x i + 1 := by show cnt _ i + (if decide ((stpF i).toInt64 ≤ x) = true then 1 else 0) = _; rw [decide_eq_true c3]; rfl
        refine g_iinc (nI (spC x i + 1)) [some (.long d0), none, some (.long x), none, some (.int (nI (spC x i + 1))), some (.int (nI i))] rfl rfl (nI_1 _) rfl ?_
        refine g_iinc (nI (i + 1)) [some (.long d0), none, some (.long x), none, some (.int (nI (spC x i + 1))), some (.int (nI (i + 1)))] rfl rfl (nI_1 i) rfl ?_
        refine g_goto rfl ?_
        rw [← hc]
        exact ih (i + 1) (by omega) (by omega)
set_option maxRecDepth 20000 in
theorem c_steps {pr : aC} {d : Nat} {u : cS} (d0 : Int64) {Q : Option Value → cS → Prop} (hQ : Q (some (.int (spF d0))) u) : cR pr (d + 1) 81 [.long d0] u Q := by
  refine gR_of mi_81 eF_rf rfl (Nat.le_of_ble_eq_true rfl) ?_
  show cB pr (d) cd_81 (Option.some Jvm.ClassFile.FieldType.int) Q 0 [some (.long d0), none, none, none, none, none] [] u
  refine g_load rfl rfl rfl trivial ?_
  refine g_lconst (lN 0) rfl rfl ?_
  refine g_lcmp rfl ?_
  refine g_if_ge rfl (fun c1 => ?_) (fun c1 => ?_)
  · rw [lg_lt0] at c1
    have hx : d0 = if d0 < 0 then -d0 else d0 := (if_neg c1).symm
    refine g_load rfl rfl rfl trivial ?_
    refine g_store [some (.long d0), none, some (.long d0), none, none, none] rfl rfl trivial (Nat.le_of_ble_eq_true rfl) rfl ?_
    refine g_iconst (nI 0) rfl (by decide) ?_
    refine g_store [some (.long d0), none, some (.long d0), none, some (.int (nI (spC (d0) 0))), none] rfl rfl trivial (Nat.le_of_ble_eq_true rfl) rfl ?_
    refine g_iconst (nI 0) rfl (by decide) ?_
    refine g_store [some (.long d0), none, some (.long d0), none, some (.int (nI (spC (d0) 0))), some (.int (nI 0))] rfl rfl trivial (Nat.le_of_ble_eq_true rfl) rfl ?_
    exact c_steps_l d0 _ hx hQ 25 0 (by omega) (by omega)
  · rw [lg_lt0, Classical.not_not] at c1
    have hx : -d0 = if d0 < 0 then -d0 else d0 := (if_pos c1).symm
    refine g_load rfl rfl rfl trivial ?_
    refine g_lneg rfl ?_
    refine g_goto rfl ?_
    refine g_store [some (.long d0), none, some (.long (-d0)), none, none, none] rfl rfl trivial (Nat.le_of_ble_eq_true rfl) rfl ?_
    refine g_iconst (nI 0) rfl (by decide) ?_
    refine g_store [some (.long d0), none, some (.long (-d0)), none, some (.int (nI (spC ((-d0)) 0))), none] rfl rfl trivial (Nat.le_of_ble_eq_true rfl) rfl ?_
    refine g_iconst (nI 0) rfl (by decide) ?_
    refine g_store [some (.long d0), none, some (.long (-d0)), none, some (.int (nI (spC ((-d0)) 0))), some (.int (nI 0))] rfl rfl trivial (Nat.le_of_ble_eq_true rfl) rfl ?_
    exact c_steps_l d0 _ hx hQ 25 0 (by omega) (by omega)
set_option maxRecDepth 20000 in
theorem j_steps {pr : aC} {d : Nat} {u : cS} (a b : Int32) {Q : Option Value → cS → Prop} (hQ : Q (some (.int (spF (a.toInt64 - b.toInt64)))) u) : cR pr (d + 1 + 1) 129 [.ref 16, .int a, .int b] u Q := by
  refine gR_of mi_129 eF_rf rfl (Nat.le_of_ble_eq_true rfl) ?_
  show cB pr (d + 1) cd_129 (Option.some Jvm.ClassFile.FieldType.int) Q 0 [some (.ref 16), some (.int a), some (.int b)] [] u
  refine g_load rfl rfl rfl trivial ?_
  refine g_i2l rfl ?_
  refine g_load rfl rfl rfl trivial ?_
  refine g_i2l rfl ?_
  refine g_lsub rfl ?_
  refine g_statI [.long (a.toInt64 - b.toInt64)] eF_tr rfl rfl rfl (Nat.le_of_ble_eq_true rfl) (Nat.le_refl _) (Nat.le_refl _) (c_steps (a.toInt64 - b.toInt64) ⟨_, rfl, ?_⟩)
  refine g_vret rfl trivial ⟨rfl, rfl⟩ (Nat.le_refl _) (Nat.le_refl _) ?_
  exact hQ
theorem r_iaC {cl : aC} {cd : List aE} {C S : Nat} {rt : Option FieldType} {Q : Option Value → rS → Prop} {k : Nat} {l : aL} {st : List Value} {u : rS} {c s : Nat} {x y a N : Nat} {f : Nat → Int32} {i : Int32} (n : Nat) (hg : aGet cd k = some (.iaload, x, y)) (ha : a < 14) (hc : cT a = .inl (0, N, .inl f)) (hi : i = nI n) (hn : n < N) (hN : N < 1000) (hP : gB RF rFr cl cd C S rt Q (k + 1) l (.int (f n) :: st) u c s) : gB RF rFr cl cd C S rt Q k l (.int i :: .ref a :: st) u c s := by
  intro h0' h QQ hR hF hQ P hr
  refine hr 29 k x y a N f i l st h c s hg (by have := hR.1; omega) ((hR.2.2.2 a ha).trans hc) (hi ▸ vp_in_nI hn (by omega)) ?_
  rw [hi, nI_clamp (by omega)]
  exact hP h0' h QQ hR hF hQ P hr
theorem r_lenC {cl : aC} {cd : List aE} {C S : Nat} {rt : Option FieldType} {Q : Option Value → rS → Prop} {k : Nat} {l : aL} {st : List Value} {u : rS} {c s : Nat} {x y a t N : Nat} {w : (Nat → Int32) ⊕ (Nat → Int64) ⊕ _} (hg : aGet cd k = some (.arraylength, x, y)) (ha : a < 14) (hc : cT a = .inl (t, N, w)) (ht : t < 7) (hP : gB RF rFr cl cd C S rt Q (k + 1) l (.int (nI N) :: st) u c s) : gB RF rFr cl cd C S rt Q k l (.ref a :: st) u c s := by
  intro h0' h QQ hR hF hQ P hr
  exact hr 28 k x y a t (N, w) l st h c s hg (by have := hR.1; omega) ((hR.2.2.2 a ha).trans hc) ht (hP h0' h QQ hR hF hQ P hr)
set_option maxRecDepth 20000 in
theorem r_steps_l {pr : aC} {d : Nat} {u : rS} (a b : Int32) (x : Int64) (hx : x = if (a.toInt64 - b.toInt64) < 0 then -(a.toInt64 - b.toInt64) else (a.toInt64 - b.toInt64)) {Q : Option Value → rS → Prop} (hQ : Q (some (.int (spF (a.toInt64 - b.toInt64)))) u) : ∀ (zz : Nat) (i : Nat) (hm : 24 - i < zz) (hle : i ≤ 24), rB pr (d) cd_211 (Option.some Jvm.ClassFile.FieldType.int) Q 19 [some (.ref 25), some (.int a), some (.int b), some (.long (a.toInt64 - b.toInt64)), none, some (.long x), none, some (.int (nI (spC x i))), some (.int (nI i))] [] u := by
  intro zz
  induction zz with
  | zero => intro i hm hle; exact absurd hm (by omega)
  | succ zz ih =>
    intro i hm hle
    refine g_load rfl rfl rfl trivial ?_
    refine g_gets0 rfl ?_
    refine r_lenC rfl (by decide) (by rfl) (by decide) ?_
    refine g_icmp_ge rfl (fun c1 => ?_) (fun c1 => ?_)
    · rw [nI_leI (by omega) (by omega)] at c1
      have e : i = 24 := by omega
      subst e
      unfold spF at hQ
      refine g_load rfl rfl rfl trivial ?_
      refine g_lconst (lN 0) rfl rfl ?_
      refine g_lcmp rfl ?_
      refine g_if_ge rfl (fun c2 => ?_) (fun c2 => ?_)
      · rw [lg_lt0] at c2
        rw [if_neg c2] at hQ hx
        subst hx
        refine g_load rfl rfl rfl trivial ?_
        refine g_vret rfl trivial ⟨rfl, rfl⟩ (Nat.le_refl _) (Nat.le_refl _) ?_
        exact hQ
      · rw [lg_lt0, Classical.not_not] at c2
        rw [if_pos c2] at hQ hx
        subst hx
        refine g_load rfl rfl rfl trivial ?_
        refine g_ineg rfl ?_
        refine g_goto rfl ?_
        refine g_vret rfl trivial ⟨rfl, rfl⟩ (Nat.le_refl _) (Nat.le_refl _) ?_
        exact hQ
    · rw [nI_leI (by omega) (by omega)] at c1
      refine g_load rfl rfl rfl trivial ?_
      refine g_load rfl rfl rfl trivial ?_
      refine g_gets0 rfl ?_
      refine g_load rfl rfl rfl trivial ?_
      refine r_iaC i rfl (by decide) (by rfl) rfl (by omega) (by decide) ?_
      refine g_i2l rfl ?_
      refine g_lcmp rfl ?_
      refine g_if_lt rfl (fun c3 => ?_) (fun c3 => ?_)
      · rw [lg_ltx] at c3
        have hc : spC x (i + 1) = spC x i := by show cnt _ i + (if decide ((stpF i).toInt64 ≤ x) = true then 1 else 0) = _; rw [decide_eq_false c3]; rfl
        refine g_iconst (nI 0) rfl (by decide) ?_
        refine g_iadd rfl ?_
        rw [nI_add]
        first | rw [← hc] | rw [Nat.add_zero, ← hc]
        refine g_store [some (.ref 25), some (.int a), some (.int b), some (.long (a.toInt64 - b.toInt64)), none, some (.long x), none, some (.int (nI (spC x (i + 1)))), some (.int (nI i))] rfl rfl trivial (Nat.le_of_ble_eq_true rfl) rfl ?_
        refine g_iinc (nI (i + 1)) [some (.ref 25), some (.int a), some (.int b), some (.long (a.toInt64 - b.toInt64)), none, some (.long x), none, some (.int (nI (spC x (i + 1)))), some (.int (nI (i + 1)))] rfl rfl (nI_1 i) rfl ?_
        refine g_goto rfl ?_
        exact ih (i + 1) (by omega) (by omega)
      · rw [lg_ltx, Classical.not_not] at c3
        have hc : spC x (i + 1) = spC x i + 1 := by show cnt _ i + (if decide ((stpF i).toInt64 ≤ x) = true then 1 else 0) = _; rw [decide_eq_true c3]; rfl
        refine g_iconst (nI 1) rfl (by decide) ?_
        refine g_goto rfl ?_
        refine g_iadd rfl ?_
        rw [nI_add]
        first | rw [← hc] | rw [Nat.add_zero, ← hc]
        refine g_store [some (.ref 25), some (.int a), some (.int b), some (.long (a.toInt64 - b.toInt64)), none, some (.long x), none, some (.int (nI (spC x (i + 1)))), some (.int (nI i))] rfl rfl trivial (Nat.le_of_ble_eq_true rfl) rfl ?_
        refine g_iinc (nI (i + 1)) [some (.ref 25), some (.int a), some (.int b), some (.long (a.toInt64 - b.toInt64)), none, some (.long x), none, some (.int (nI (spC x (i + 1)))), some (.int (nI (i + 1)))] rfl rfl (nI_1 i) rfl ?_
        refine g_goto rfl ?_
        exact ih (i + 1) (by omega) (by omega)
set_option maxRecDepth 20000 in
theorem r_steps {pr : aC} {d : Nat} {u : rS} (a b : Int32) {Q : Option Value → rS → Prop} (hQ : Q (some (.int (spF (a.toInt64 - b.toInt64)))) u) : rR pr (d + 1) 211 [.ref 25, .int a, .int b] u Q := by
  refine gR_of mi_211 rFr_rf rfl (Nat.le_of_ble_eq_true rfl) ?_
  show rB pr (d) cd_211 (Option.some Jvm.ClassFile.FieldType.int) Q 0 [some (.ref 25), some (.int a), some (.int b), none, none, none, none, none, none] [] u
  refine g_load rfl rfl rfl trivial ?_
  refine g_i2l rfl ?_
  refine g_load rfl rfl rfl trivial ?_
  refine g_i2l rfl ?_
  refine g_lsub rfl ?_
  refine g_store [some (.ref 25), some (.int a), some (.int b), some (.long (a.toInt64 - b.toInt64)), none, none, none, none, none] rfl rfl trivial (Nat.le_of_ble_eq_true rfl) rfl ?_
  refine g_load rfl rfl rfl trivial ?_
  refine g_lconst (lN 0) rfl rfl ?_
  refine g_lcmp rfl ?_
  refine g_if_ge rfl (fun c1 => ?_) (fun c1 => ?_)
  · rw [lg_lt0] at c1
    have hx : (a.toInt64 - b.toInt64) = if (a.toInt64 - b.toInt64) < 0 then -(a.toInt64 - b.toInt64) else (a.toInt64 - b.toInt64) := (if_neg c1).symm
    refine g_load rfl rfl rfl trivial ?_
    refine g_store [some (.ref 25), some (.int a), some (.int b), some (.long (a.toInt64 - b.toInt64)), none, some (.long (a.toInt64 - b.toInt64)), none, none, none] rfl rfl trivial (Nat.le_of_ble_eq_true rfl) rfl ?_
    refine g_iconst (nI 0) rfl (by decide) ?_
    refine g_store [some (.ref 25), some (.int a), some (.int b), some (.long (a.toInt64 - b.toInt64)), none, some (.long (a.toInt64 - b.toInt64)), none, some (.int (nI (spC ((a.toInt64 - b.toInt64)) 0))), none] rfl rfl trivial (Nat.le_of_ble_eq_true rfl) rfl ?_
    refine g_iconst (nI 0) rfl (by decide) ?_
    refine g_store [some (.ref 25), some (.int a), some (.int b), some (.long (a.toInt64 - b.toInt64)), none, some (.long (a.toInt64 - b.toInt64)), none, some (.int (nI (spC ((a.toInt64 - b.toInt64)) 0))), some (.int (nI 0))] rfl rfl trivial (Nat.le_of_ble_eq_true rfl) rfl ?_
    exact r_steps_l a b _ hx hQ 25 0 (by omega) (by omega)
  · rw [lg_lt0, Classical.not_not] at c1
    have hx : -(a.toInt64 - b.toInt64) = if (a.toInt64 - b.toInt64) < 0 then -(a.toInt64 - b.toInt64) else (a.toInt64 - b.toInt64) := (if_pos c1).symm
    refine g_load rfl rfl rfl trivial ?_
    refine g_lneg rfl ?_
    refine g_goto rfl ?_
    refine g_store [some (.ref 25), some (.int a), some (.int b), some (.long (a.toInt64 - b.toInt64)), none, some (.long (-(a.toInt64 - b.toInt64))), none, none, none] rfl rfl trivial (Nat.le_of_ble_eq_true rfl) rfl ?_
    refine g_iconst (nI 0) rfl (by decide) ?_
    refine g_store [some (.ref 25), some (.int a), some (.int b), some (.long (a.toInt64 - b.toInt64)), none, some (.long (-(a.toInt64 - b.toInt64))), none, some (.int (nI (spC ((-(a.toInt64 - b.toInt64))) 0))), none] rfl rfl trivial (Nat.le_of_ble_eq_true rfl) rfl ?_
    refine g_iconst (nI 0) rfl (by decide) ?_
    refine g_store [some (.ref 25), some (.int a), some (.int b), some (.long (a.toInt64 - b.toInt64)), none, some (.long (-(a.toInt64 - b.toInt64))), none, some (.int (nI (spC ((-(a.toInt64 - b.toInt64))) 0))), some (.int (nI 0))] rfl rfl trivial (Nat.le_of_ble_eq_true rfl) rfl ?_
    exact r_steps_l a b _ hx hQ 25 0 (by omega) (by omega)
set_option maxRecDepth 20000 in
theorem r_points_n {pr : aC} {d : Nat} {u : rS} (i s : Int32) (nr : Nat) (h1 : u.1 1 = nI nr) (hn : nr ≤ 220) (hno : (irF nr i && inF s 0 1) = false) {Q : Option Value → rS → Prop} (hQ : Q (some (.int (-1))) u) : rR pr (d + 2 + 1) 215 [.ref 25, .int i, .int s] u Q := by
  refine gR_of mi_215 rFr_rf rfl (Nat.le_of_ble_eq_true rfl) ?_
  show rB pr (d + 2) cd_215 (Option.some Jvm.ClassFile.FieldType.int) Q 0 [some (.ref 25), some (.int i), some (.int s), none, none, none] [] u
  refine g_load rfl rfl rfl trivial ?_
  refine g_load rfl rfl rfl trivial ?_
  refine g_virtI (a := 25) (ci := 8) (n := 1) [.int i] rFr_tr rfl rfl (by decide) rfl r_this rfl (Nat.le_of_ble_eq_true rfl) (Nat.le_refl _) (Nat.le_refl _) (r_isResult i nr h1 hn ⟨_, rfl, ?_⟩)
  refine g_if_eq rfl (fun c1 => ?_) (fun c1 => ?_)
  · refine g_iconst (-1) rfl (by decide) ?_
    refine g_vret rfl trivial ⟨rfl, rfl⟩ (Nat.le_refl _) (Nat.le_refl _) ?_
    exact hQ
  · rw [bI_ne] at c1
    rw [c1, Bool.true_and] at hno
    refine g_load rfl rfl rfl trivial ?_
    refine g_iconst (nI 0) rfl (by decide) ?_
    refine g_iconst (nI 1) rfl (by decide) ?_
    refine g_statI [.int s, .int (nI 0), .int (nI 1)] rFr_tr rfl rfl rfl (Nat.le_of_ble_eq_true rfl) (Nat.le_refl _) (Nat.le_refl _) (r_in s (nI 0) (nI 1) ⟨_, rfl, ?_⟩)
    refine g_if_ne rfl (fun c2 => ?_) (fun c2 => ?_)
    · rw [bI_ne] at c2
      exfalso
      have h9 : inF s 0 1 = true := c2
      rw [hno] at h9
      cases h9
    · refine g_iconst (-1) rfl (by decide) ?_
      refine g_vret rfl trivial ⟨rfl, rfl⟩ (Nat.le_refl _) (Nat.le_refl _) ?_
      exact hQ
