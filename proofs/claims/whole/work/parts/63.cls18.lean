/-! ===== the club beside the reference: what is read of tables ===== -/
theorem c_busy_x {pr : aC} {d : Nat} {u : cS} (hk : kJ u) (t : Int32) (h : inF t 0 9 = false ∨ ∃ t', t' < 10 ∧ t = nI t' ∧ tI0 u t') {Q : Option Value → cS → Prop} (hQ : Q (some .null) u) : cR pr (d + 1 + 1) 141 [.ref 16, .int t] u Q := by
  rcases h with h | ⟨t', h1, rfl, h2⟩
  · exact c_busy_o hk t h hQ
  · exact c_busy_i hk t' h1 h2 hQ
set_option maxRecDepth 20000 in
theorem j_called {pr : aC} {d : Nat} {u : cS} {r : rS} {nb nr : Nat} (hJ : J u r nb nr) (t i : Int32) {Q : Option Value → cS → Prop} (hQ : Q (some (.int (clF r t i))) u) : cR pr (d + 2 + 1) 119 [.ref 16, .int t, .int i] u Q := by
  refine gR_of mi_119 eF_rf rfl (Nat.le_of_ble_eq_true rfl) ?_
  show cB pr (d + 2) cd_119 (Option.some Jvm.ClassFile.FieldType.int) Q 0 [some (.ref 16), some (.int t), some (.int i), none] [] u
  have hnr2 := hJ.nr
  obtain ⟨hnr, hr1, _⟩ := hJ.hr
  obtain ⟨hnb, hnb2, hr0⟩ := hJ.hb
  have hk0 := hJ.k
  obtain ⟨k16, k17, k18, k19, k20, k21, k22, k23, k24⟩ := hJ.k
  refine g_load rfl rfl rfl trivial ?_
  refine g_load rfl rfl rfl trivial ?_
  rcases hJ.bz t with ⟨hph, hid⟩ | ⟨t0, T, B, bd, n, m, ht0, rfl, hT⟩
  · refine g_virtI (a := 16) (ci := 7) (n := 1) [.int t] eF_tr rfl rfl (by decide) rfl (c_ob k16 (by decide) (by rfl)) rfl (Nat.le_of_ble_eq_true rfl) (Nat.le_refl _) (Nat.le_refl _) (c_busy_x hk0 t hid ⟨_, rfl, ?_⟩)
    refine g_store [some (.ref 16), some (.int t), some (.int i), some (.null)] rfl rfl trivial (Nat.le_of_ble_eq_true rfl) rfl ?_
    unfold clF at hQ
    rw [if_neg (fun z => z.1 hph)] at hQ
    refine g_load rfl rfl rfl trivial ?_
    refine g_ifnonnull_n rfl ?_
    refine g_iconst (-1) rfl (by decide) ?_
    refine g_goto rfl ?_
    refine g_vret rfl trivial ⟨rfl, rfl⟩ (Nat.le_refl _) (Nat.le_refl _) ?_
    exact hQ
  have hTB := hT.2.1
  have kT := hTB.1
  refine g_virtI (a := 16) (ci := 7) (n := 1) [.int (nI t0)] eF_tr rfl rfl (by decide) rfl (c_ob k16 (by decide) (by rfl)) rfl (Nat.le_of_ble_eq_true rfl) (Nat.le_refl _) (Nat.le_refl _) (c_busy hk0 t0 T B n m ht0 hT.1 hTB ⟨_, rfl, ?_⟩)
  refine g_store [some (.ref 16), some (.int (nI t0)), some (.int i), some (.ref T)] rfl rfl trivial (Nat.le_of_ble_eq_true rfl) rfl ?_
  rw [← ca_cl ht0 hTB.2.2.2.2.2.2.2.2.2.2.1 hT.2.2.2.2.2.2.1 hT.ph] at hQ
  refine g_load rfl rfl rfl trivial ?_
  refine g_ifnonnull_r rfl ?_
  refine g_load rfl rfl rfl trivial ?_
  refine g_load rfl rfl rfl trivial ?_
  refine g_virtI (a := T) (ci := 6) (n := 1) [.int i] eF_tr rfl rfl (by decide) rfl (c_ob (by assumption) (by decide) (by rfl)) rfl (Nat.le_of_ble_eq_true rfl) (Nat.le_refl _) (Nat.le_refl _) (c_tcall T B n m hTB i ⟨_, rfl, ?_⟩)
  rw [caF_cg (by have := hTB.2.2.2.2.2.2.2.2.2.2.1; omega) hT.2.2.2.2.2.2.2.2.1]
  refine g_vret rfl trivial ⟨rfl, rfl⟩ (Nat.le_refl _) (Nat.le_refl _) ?_
  exact hQ
set_option maxRecDepth 20000 in
theorem j_played {pr : aC} {d : Nat} {u : cS} {r : rS} {nb nr : Nat} (hJ : J u r nb nr) (t i : Int32) {Q : Option Value → cS → Prop} (hQ : Q (some (.int (plF r t i))) u) : cR pr (d + 2 + 1) 120 [.ref 16, .int t, .int i] u Q := by
  refine gR_of mi_120 eF_rf rfl (Nat.le_of_ble_eq_true rfl) ?_
  show cB pr (d + 2) cd_120 (Option.some Jvm.ClassFile.FieldType.int) Q 0 [some (.ref 16), some (.int t), some (.int i), none] [] u
  have hnr2 := hJ.nr
  obtain ⟨hnr, hr1, _⟩ := hJ.hr
  obtain ⟨hnb, hnb2, hr0⟩ := hJ.hb
  have hk0 := hJ.k
  obtain ⟨k16, k17, k18, k19, k20, k21, k22, k23, k24⟩ := hJ.k
  refine g_load rfl rfl rfl trivial ?_
  refine g_load rfl rfl rfl trivial ?_
  rcases hJ.bz t with ⟨hph, hid⟩ | ⟨t0, T, B, bd, n, m, ht0, rfl, hT⟩
  · refine g_virtI (a := 16) (ci := 7) (n := 1) [.int t] eF_tr rfl rfl (by decide) rfl (c_ob k16 (by decide) (by rfl)) rfl (Nat.le_of_ble_eq_true rfl) (Nat.le_refl _) (Nat.le_refl _) (c_busy_x hk0 t hid ⟨_, rfl, ?_⟩)
    refine g_store [some (.ref 16), some (.int t), some (.int i), some (.null)] rfl rfl trivial (Nat.le_of_ble_eq_true rfl) rfl ?_
    unfold plF at hQ
    rw [if_neg (fun z => z.1 hph)] at hQ
    refine g_load rfl rfl rfl trivial ?_
    refine g_ifnonnull_n rfl ?_
    refine g_iconst (-1) rfl (by decide) ?_
    refine g_goto rfl ?_
    refine g_vret rfl trivial ⟨rfl, rfl⟩ (Nat.le_refl _) (Nat.le_refl _) ?_
    exact hQ
  have hTB := hT.2.1
  have kT := hTB.1
  refine g_virtI (a := 16) (ci := 7) (n := 1) [.int (nI t0)] eF_tr rfl rfl (by decide) rfl (c_ob k16 (by decide) (by rfl)) rfl (Nat.le_of_ble_eq_true rfl) (Nat.le_refl _) (Nat.le_refl _) (c_busy hk0 t0 T B n m ht0 hT.1 hTB ⟨_, rfl, ?_⟩)
  refine g_store [some (.ref 16), some (.int (nI t0)), some (.int i), some (.ref T)] rfl rfl trivial (Nat.le_of_ble_eq_true rfl) rfl ?_
  rw [← ca_pl ht0 hTB.2.2.2.2.2.2.2.2.2.2.2.2 hT.2.2.2.2.2.2.2.1 hT.ph] at hQ
  refine g_load rfl rfl rfl trivial ?_
  refine g_ifnonnull_r rfl ?_
  refine g_load rfl rfl rfl trivial ?_
  refine g_load rfl rfl rfl trivial ?_
  refine g_virtI (a := T) (ci := 6) (n := 1) [.int i] eF_tr rfl rfl (by decide) rfl (c_ob (by assumption) (by decide) (by rfl)) rfl (Nat.le_of_ble_eq_true rfl) (Nat.le_refl _) (Nat.le_refl _) (c_tcard T B n m hTB i ⟨_, rfl, ?_⟩)
  rw [caF_cg (by have := hTB.2.2.2.2.2.2.2.2.2.2.2.2; omega) hT.2.2.2.2.2.2.2.2.2.1]
  refine g_vret rfl trivial ⟨rfl, rfl⟩ (Nat.le_refl _) (Nat.le_refl _) ?_
  exact hQ
/-- the leader of the trick under way -/
theorem tJ.ld {u : cS} {r : rS} {nb t T B bd n m : Nat} (h : tJ u r nb t T B bd n m) : ∃ l0, l0 < 4 ∧ (∀ j, j ≤ m / 4 → u.rI (T + 3 + 2) j = nI (ldF (gf r t) (u.oI (T + 3) 5) l0 j)) ∧ (r.2 28 t = nI 2 → ∀ b, last ge3 (cf r t) n = some b → l0 = (dcN (cf r t) (bd % 4) b + 1) % 4) := by
  rcases h.2.2.2.2.2.2.2.2.2.2.2.2.2.2 with ⟨h1, h2, _, _, l0, h3, h4⟩ | ⟨_, _, b, h1, h2⟩
  · refine ⟨l0, h3, fun j hj => ?_, fun z => absurd (h1.symm.trans z) (by decide)⟩
    have : j = 0 := by rw [h2] at hj; omega
    subst this; exact h4
  · refine ⟨(dcN (cf r t) (bd % 4) b + 1) % 4, Nat.mod_lt _ (by decide), fun j hj => ?_, fun _ b' hb' => ?_⟩
    · rw [h2.2.1]; exact h2.2.2.2.1 j hj
    · rw [h1] at hb'; cases hb'; rfl
theorem tJ.ck {u : cS} {r : rS} {nb t T B bd n m : Nat} (h : tJ u r nb t T B bd n m) : cdOk (gf r t) m := by
  rcases h.2.2.2.2.2.2.2.2.2.2.2.2.2.2 with ⟨_, h2, _⟩ | ⟨_, _, b, _, h2⟩
  · intro i hi; omega
  · exact h2.2.2.2.2.1
theorem tJ.ckU {u : cS} {r : rS} {nb t T B bd n m : Nat} (h : tJ u r nb t T B bd n m) : cdOk (u.rI (T + 3 + 1)) m := fun i hi => by
  unfold cN; rw [h.2.2.2.2.2.2.2.2.2.1 i hi]; exact h.ck i hi
theorem tJ.ov {u : cS} {r : rS} {nb t T B bd n m : Nat} (h : tJ u r nb t T B bd n m) : ovF (u.rI (T + 1 + 1)) n = ovF (cf r t) n := ovF_congr h.2.2.2.2.2.2.2.2.1
theorem alF_eq {u : cS} {r : rS} {nb nr t T B bd n m l0 : Nat} (hJ : J u r nb nr) (h : tJ u r nb t T B bd n m) (ht : t < 10) (hl0 : l0 < 4) (hL : r.2 28 t = nI 2 → ∀ b, last ge3 (cf r t) n = some b → l0 = (dcN (cf r t) (bd % 4) b + 1) % 4) (x : Int32) : ((!(ovF (u.rI (T + 1 + 1)) n) && amF (u.rI (T + 1 + 1)) n x) || (ovF (u.rI (T + 1 + 1)) n && (isCd x && hb (chT (u.rL (B + 1)) (u.rL (T + 3) 0) (u.rI (T + 3 + 1)) m ((ldF (gf r t) (u.oI (T + 3) 5) l0 (m / 4) + m % 4) % 4)) x.toNatClampNeg))) = alF r (nI t) x := by
  have hau := h.2.2.2.2.2.2.2.2.2.2.2.1
  unfold alF
  rw [ph_in ht, nI_clamp (by omega), h.eN, h.eM, h.eD hJ.hb.2.1, h.ov, amF_cg h.2.2.2.2.2.2.2.2.1]
  rcases h.2.2.2.2.2.2.2.2.2.2.2.2.2.2 with ⟨h1, h2, h3, _⟩ | ⟨h1, h3, b, hb1, h2⟩
  · rw [h3, h1, if_pos rfl, hau.am h3]; simp
  · rw [h3, h1, if_neg (by decide), if_pos rfl, h.eB hb1]
    simp only [Bool.not_true, Bool.false_and, Bool.false_or, Bool.true_and]
    cases hx : isCd x with
    | false => unfold mpF; rw [hx]; rfl
    | true =>
      obtain ⟨c, hc, rfl⟩ := cd_of hx
      rw [Bool.true_and, nI_clamp (by omega), mp_ch hJ h h.ck (Nat.mod_lt _ (by decide)) hc, hL h1 b hb1, h2.2.1]
      rfl
set_option maxRecDepth 20000 in
theorem j_allowed {pr : aC} {d : Nat} {u : cS} {r : rS} {nb nr : Nat} (hJ : J u r nb nr) (t x : Int32) {Q : Option Value → cS → Prop} (hQ : Q (some (.int (bI (alF r t x)))) u) : cR pr (d + 4 + 1) 121 [.ref 16, .int t, .int x] u Q := by
  refine gR_of mi_121 eF_rf rfl (Nat.le_of_ble_eq_true rfl) ?_
  show cB pr (d + 4) cd_121 (Option.some Jvm.ClassFile.FieldType.boolean) Q 0 [some (.ref 16), some (.int t), some (.int x), none] [] u
  have hnr2 := hJ.nr
  obtain ⟨hnr, hr1, _⟩ := hJ.hr
  obtain ⟨hnb, hnb2, hr0⟩ := hJ.hb
  have hk0 := hJ.k
  obtain ⟨k16, k17, k18, k19, k20, k21, k22, k23, k24⟩ := hJ.k
  refine g_load rfl rfl rfl trivial ?_
  refine g_load rfl rfl rfl trivial ?_
  rcases hJ.bz t with ⟨hph, hid⟩ | ⟨t0, T, B, bd, n, m, ht0, rfl, hT⟩
  · refine g_virtI (a := 16) (ci := 7) (n := 1) [.int t] eF_tr rfl rfl (by decide) rfl (c_ob k16 (by decide) (by rfl)) rfl (Nat.le_of_ble_eq_true rfl) (Nat.le_refl _) (Nat.le_refl _) (c_busy_x hk0 t hid ⟨_, rfl, ?_⟩)
    refine g_store [some (.ref 16), some (.int t), some (.int x), some (.null)] rfl rfl trivial (Nat.le_of_ble_eq_true rfl) rfl ?_
    unfold alF at hQ
    rw [hph, if_neg (by decide), if_neg (by decide)] at hQ
    refine g_load rfl rfl rfl trivial ?_
    refine g_ifnull_n rfl ?_
    refine g_iconst (nI 0) rfl (by decide) ?_
    refine g_vret rfl trivial (by first | exact ⟨by decide, by decide⟩ | trivial) (Nat.le_refl _) (Nat.le_refl _) ?_
    exact hQ
  have hTB := hT.2.1
  have kT := hTB.1
  refine g_virtI (a := 16) (ci := 7) (n := 1) [.int (nI t0)] eF_tr rfl rfl (by decide) rfl (c_ob k16 (by decide) (by rfl)) rfl (Nat.le_of_ble_eq_true rfl) (Nat.le_refl _) (Nat.le_refl _) (c_busy hk0 t0 T B n m ht0 hT.1 hTB ⟨_, rfl, ?_⟩)
  refine g_store [some (.ref 16), some (.int (nI t0)), some (.int x), some (.ref T)] rfl rfl trivial (Nat.le_of_ble_eq_true rfl) rfl ?_
  obtain ⟨l0, hl0, hL, hL2⟩ := hT.ld
  rw [← alF_eq hJ hT ht0 hl0 hL2] at hQ
  have hld := ldF_lt (g := gf r t0) (tr := u.oI (T + 3) 5) hl0 (m / 4)
  refine g_load rfl rfl rfl trivial ?_
  refine g_ifnull_r rfl ?_
  refine g_load rfl rfl rfl trivial ?_
  refine g_load rfl rfl rfl trivial ?_
  refine g_virtI (a := T) (ci := 6) (n := 1) [.int x] eF_tr rfl rfl (by decide) rfl (c_ob (by assumption) (by decide) (by rfl)) rfl (Nat.le_of_ble_eq_true rfl) (Nat.le_refl _) (Nat.le_refl _) (c_admitsCall T B n m hTB x ⟨_, rfl, ?_⟩)
  refine g_if_ne rfl (fun c1 => ?_) (fun c1 => ?_)
  · rw [bI_ne] at c1
    rw [c1, Bool.true_or] at hQ
    refine g_iconst (nI 1) rfl (by decide) ?_
    refine g_goto rfl ?_
    refine g_vret rfl trivial (by first | exact ⟨by decide, by decide⟩ | trivial) (Nat.le_refl _) (Nat.le_refl _) ?_
    exact hQ
  · rw [bI_eq] at c1
    rw [c1, Bool.false_or] at hQ
    refine g_load rfl rfl rfl trivial ?_
    refine g_load rfl rfl rfl trivial ?_
    refine g_virtI (a := T) (ci := 6) (n := 1) [.int x] eF_tr rfl rfl (by decide) rfl (c_ob (by assumption) (by decide) (by rfl)) rfl (Nat.le_of_ble_eq_true rfl) (Nat.le_refl _) (Nat.le_refl _) (c_admitsCard T B n m hTB x _ (hL (m / 4) (Nat.le_refl _)) hld hT.ckU ⟨_, rfl, ?_⟩)
    refine g_if_eq rfl (fun c2 => ?_) (fun c2 => ?_)
    · rw [bI_eq] at c2
      rw [c2] at hQ
      refine g_iconst (nI 0) rfl (by decide) ?_
      refine g_vret rfl trivial (by first | exact ⟨by decide, by decide⟩ | trivial) (Nat.le_refl _) (Nat.le_refl _) ?_
      exact hQ
    · rw [bI_ne] at c2
      rw [c2] at hQ
      refine g_iconst (nI 1) rfl (by decide) ?_
      refine g_goto rfl ?_
      refine g_vret rfl trivial (by first | exact ⟨by decide, by decide⟩ | trivial) (Nat.le_refl _) (Nat.le_refl _) ?_
      exact hQ
theorem tJ.gg {u : cS} {r : rS} {nb t T B bd n m : Nat} (h : tJ u r nb t T B bd n m) {tr : Int32} {l0 j : Nat} (hj : j ≤ m / 4) : ldF (u.rI (T + 3 + 1)) tr l0 j = ldF (gf r t) tr l0 j := ldF_cg (fun x hx => h.2.2.2.2.2.2.2.2.2.1 x (by omega))
theorem tJ.wg {u : cS} {r : rS} {nb t T B bd n m : Nat} (h : tJ u r nb t T B bd n m) {tr : Int32} {l0 s j : Nat} (hj : j ≤ m / 4) : wnF (u.rI (T + 3 + 1)) tr l0 s j = wnF (gf r t) tr l0 s j := wnF_cg (fun x hx => h.2.2.2.2.2.2.2.2.2.1 x (by omega))
theorem tl_tb {u : cS} {r : rS} {nb nr t T B bd n m l0 : Nat} (hJ : J u r nb nr) (h : tJ u r nb t T B bd n m) (ht : t < 10) (hl0 : l0 < 4) (hL : r.2 28 t = nI 2 → ∀ b, last ge3 (cf r t) n = some b → l0 = (dcN (cf r t) (bd % 4) b + 1) % 4) (w : Int32) : tlF u T B n m (bd % 4) (ldF (gf r t) (u.oI (T + 3) 5) l0 (m / 4)) l0 (swN w) = tbF r (nI t) w := by
  have hau := h.2.2.2.2.2.2.2.2.2.2.2.1
  have hf := h.2.2.2.2.2.2.2.2.1
  obtain ⟨q1, q2, q3⟩ := h.2.2.2.2.2.1
  obtain ⟨B', hB⟩ := hJ.bd h.2.2.1
  have e : B' = B := by have := hB.1; rw [h.2.2.2.1] at this; exact (Option.some.inj this).symm
  subst e
  have hB0 : u.oI B' 0 = r.2 29 t := by rw [hB.2.2.2.1, h.2.2.2.2.1]
  unfold tbF
  rw [show inF (nI t) 0 9 = true by show (decide (nI 0 ≤ nI t) && decide (nI t ≤ nI 9)) = true; rw [decide_eq_true ((nI_leI (by omega) (by omega)).mpr (by omega)), decide_eq_true ((nI_leI (by omega) (by omega)).mpr (by omega))]; rfl, if_pos rfl, nI_clamp (by omega), h.eN, h.eM, h.eD hJ.hb.2.1, if_neg h.ph]
  by_cases hsw : w.toInt < 0 ∨ ((13 : Nat) : Int) < w.toInt
  · rw [swN_out hsw, if_neg (sw4 (n := 13) hsw 3 (by decide) (by decide))]
    split <;> rfl
  · obtain ⟨ksw, hk, rfl⟩ := sw_of (x := w) (n := 13) hsw
    rw [swN_in ksw hk]
    rcases h.2.2.2.2.2.2.2.2.2.2.2.2.2.2 with ⟨h1, h2, h3, _⟩ | ⟨h1, h3, b, hb1, h2⟩
    · rw [if_neg (show ¬ r.2 28 t = nI 2 by rw [h1]; decide)]
      have ho : ovF (u.rI (T + 1 + 1)) n = false := h.ov.trans h3
      subst h2
      have hlv : lvG (u.rI (T + 1 + 1)) n = if hbF r t n then lvF (cf r t) (bB r t) else -1 := by
        rw [lvG_cg hf]
        unfold lvG hbF
        cases e : last ge3 (cf r t) n with
        | none => rfl
        | some b => rw [h.eB e]; rfl
      have hst : stG (u.rI (T + 1 + 1)) n = if hbF r t n then stF (cf r t) (bB r t) else -1 := by
        rw [stG_cg hf]
        unfold stG hbF
        cases e : last ge3 (cf r t) n with
        | none => rfl
        | some b => rw [h.eB e]; rfl
      rcases (show ksw = 0 ∨ ksw = 1 ∨ ksw = 2 ∨ ksw = 3 ∨ ksw = 4 ∨ ksw = 5 ∨ ksw = 6 ∨ ksw = 7 ∨ ksw = 8 ∨ ksw = 9 ∨ ksw = 10 ∨ ksw = 11 ∨ ksw = 12 ∨ ksw = 13 by omega) with rfl | rfl | rfl | rfl | rfl | rfl | rfl | rfl | rfl | rfl | rfl | rfl | rfl | rfl
      · rw [if_neg (by decide)]; exact hB0
      · rw [if_neg (by decide)]; exact q1
      · rw [if_neg (by decide)]; exact q2
      · rw [if_pos rfl, h1]; show (if _ then _ else _) = _; rw [if_neg (by rw [ho]; decide)]
      · rw [if_neg (by decide)]; show (if _ then _ else _) = _; rw [if_neg (by rw [ho]; decide)]; rfl
      · rw [if_neg (by decide)]; exact hlv
      · rw [if_neg (by decide)]; exact hst
      · rw [if_neg (by decide)]; show (if _ then _ else _) = _; rw [if_neg (by rw [ho]; decide)]; rfl
      · rw [if_neg (by decide)]; show dbG (u.rI (T + 1 + 1)) n = _; rw [dbG_cg hf, hau.db]; rfl
      · rw [if_neg (by decide)]; rfl
      · rw [if_neg (by decide)]; rfl
      · rw [if_neg (by decide)]; rfl
      · rw [if_neg (by decide)]; rfl
      · rw [if_neg (by decide)]; show (if _ then _ else _) = _; rw [if_neg (by rw [ho]; decide)]; rfl
    · rw [if_pos h1]
      have ho : ovF (u.rI (T + 1 + 1)) n = true := h.ov.trans h3
      rw [h.eB hb1]
      have hl := hL h1 b hb1
      subst hl
      have hbn := (last_lt hb1).1
      rcases (show ksw = 0 ∨ ksw = 1 ∨ ksw = 2 ∨ ksw = 3 ∨ ksw = 4 ∨ ksw = 5 ∨ ksw = 6 ∨ ksw = 7 ∨ ksw = 8 ∨ ksw = 9 ∨ ksw = 10 ∨ ksw = 11 ∨ ksw = 12 ∨ ksw = 13 by omega) with rfl | rfl | rfl | rfl | rfl | rfl | rfl | rfl | rfl | rfl | rfl | rfl | rfl | rfl
      · rw [if_neg (by decide)]; exact hB0
      · rw [if_neg (by decide)]; exact q1
      · rw [if_neg (by decide)]; exact q2
      · rw [if_pos rfl, h1]; show (if _ then _ else _) = _; rw [if_pos ho]
      · rw [if_neg (by decide)]; show (if _ then _ else _) = _; rw [if_pos ho, h2.2.1]; rfl
      · rw [if_neg (by decide)]; show lvG (u.rI (T + 1 + 1)) n = _; rw [lvG_cg hf]; unfold lvG; rw [hb1]; rfl
      · rw [if_neg (by decide)]; show stG (u.rI (T + 1 + 1)) n = _; rw [stG_cg hf]; unfold stG; rw [hb1]; rfl
      · rw [if_neg (by decide)]; show (if _ then _ else _) = _; rw [if_pos ho, h2.1]; rfl
      · rw [if_neg (by decide)]; show dbG (u.rI (T + 1 + 1)) n = _; rw [dbG_cg hf, hau.db, hb1]; rfl
      · rw [if_neg (by decide)]; show nI (wnF (u.rI (T + 3 + 1)) (u.oI (T + 3) 5) _ 0 (m / 4)) = _; rw [h.wg (Nat.le_refl _), h2.2.1]; rfl
      · rw [if_neg (by decide)]; show nI (wnF (u.rI (T + 3 + 1)) (u.oI (T + 3) 5) _ 1 (m / 4)) = _; rw [h.wg (Nat.le_refl _), h2.2.1]; rfl
      · rw [if_neg (by decide)]; rfl
      · rw [if_neg (by decide)]; rfl
      · rw [if_neg (by decide)]; show (if _ then _ else _) = _; rw [if_pos ho, h2.2.1]; rfl
set_option maxRecDepth 20000 in
theorem j_table {pr : aC} {d : Nat} {u : cS} {r : rS} {nb nr : Nat} (hJ : J u r nb nr) (t w : Int32) {Q : Option Value → cS → Prop} (hQ : Q (some (.int (tbF r t w))) u) : cR pr (d + 4 + 1) 118 [.ref 16, .int t, .int w] u Q := by
  refine gR_of mi_118 eF_rf rfl (Nat.le_of_ble_eq_true rfl) ?_
  show cB pr (d + 4) cd_118 (Option.some Jvm.ClassFile.FieldType.int) Q 0 [some (.ref 16), some (.int t), some (.int w), none, none] [] u
  have hnr2 := hJ.nr
  obtain ⟨hnr, hr1, _⟩ := hJ.hr
  obtain ⟨hnb, hnb2, hr0⟩ := hJ.hb
  have hk0 := hJ.k
  obtain ⟨k16, k17, k18, k19, k20, k21, k22, k23, k24⟩ := hJ.k
  refine g_load rfl rfl rfl trivial ?_
  refine g_load rfl rfl rfl trivial ?_
  rcases hJ.bz t with ⟨hph, hid⟩ | ⟨t0, T, B, bd, n, m, ht0, rfl, hT⟩
  · refine g_virtI (a := 16) (ci := 7) (n := 1) [.int t] eF_tr rfl rfl (by decide) rfl (c_ob k16 (by decide) (by rfl)) rfl (Nat.le_of_ble_eq_true rfl) (Nat.le_refl _) (Nat.le_refl _) (c_busy_x hk0 t hid ⟨_, rfl, ?_⟩)
    refine g_store [some (.ref 16), some (.int t), some (.int w), some (.null), none] rfl rfl trivial (Nat.le_of_ble_eq_true rfl) rfl ?_
    refine g_load rfl rfl rfl trivial ?_
    refine g_ifnull_n rfl ?_
    refine g_load rfl rfl rfl trivial ?_
    refine g_if_lt rfl (fun c1 => ?_) (fun c1 => ?_)
    · have hi : inF t 0 9 = false := by unfold inF; simp [show ¬ (0 : Int32) ≤ t from Int32.not_le.mpr c1]
      unfold tbF at hQ
      rw [hi, if_neg (by decide)] at hQ
      refine g_iconst (nI 0) rfl (by decide) ?_
      refine g_store [some (.ref 16), some (.int t), some (.int w), some (.null), some (.int (nI 0))] rfl rfl trivial (Nat.le_of_ble_eq_true rfl) rfl ?_
      refine g_load rfl rfl rfl trivial ?_
      refine g_if_eq rfl (fun _ => ?_) (fun c9 => absurd rfl c9)
      refine g_iconst (-1) rfl (by decide) ?_
      refine g_vret rfl trivial ⟨rfl, rfl⟩ (Nat.le_refl _) (Nat.le_refl _) ?_
      exact hQ
    · have h0 := c1
      refine g_load rfl rfl rfl trivial ?_
      refine g_bipush (nI 10) rfl (by decide) ?_
      refine g_icmp_ge rfl (fun c2 => ?_) (fun c2 => ?_)
      · have hi : inF t 0 9 = false := by
          unfold inF
          have h9 : ¬ t ≤ (9 : Int32) := fun z => by
            rw [Int32.le_iff_toInt_le] at c2 z
            have e1 : (nI 10).toInt = 10 := by decide
            have e2 : (9 : Int32).toInt = 9 := by decide
            omega
          simp [h9]
        unfold tbF at hQ
        rw [hi, if_neg (by decide)] at hQ
        refine g_iconst (nI 0) rfl (by decide) ?_
        refine g_store [some (.ref 16), some (.int t), some (.int w), some (.null), some (.int (nI 0))] rfl rfl trivial (Nat.le_of_ble_eq_true rfl) rfl ?_
        refine g_load rfl rfl rfl trivial ?_
        refine g_if_eq rfl (fun _ => ?_) (fun c9 => absurd rfl c9)
        refine g_iconst (-1) rfl (by decide) ?_
        refine g_vret rfl trivial ⟨rfl, rfl⟩ (Nat.le_refl _) (Nat.le_refl _) ?_
        exact hQ
      · have hi : inF t 0 9 = true := by
          unfold inF
          have h9 : t ≤ (9 : Int32) := by
            rw [Int32.le_iff_toInt_le] at c2 ⊢
            have e1 : (nI 10).toInt = 10 := by decide
            have e2 : (9 : Int32).toInt = 9 := by decide
            omega
          simp [h9, Int32.not_lt.mp h0]
        unfold phF at hph
        rw [hi, if_pos rfl] at hph
        unfold tbF at hQ
        rw [hi, if_pos rfl, hph] at hQ
        refine g_iconst (nI 1) rfl (by decide) ?_
        refine g_goto rfl ?_
        refine g_store [some (.ref 16), some (.int t), some (.int w), some (.null), some (.int (nI 1))] rfl rfl trivial (Nat.le_of_ble_eq_true rfl) rfl ?_
        refine g_load rfl rfl rfl trivial ?_
        refine g_if_eq rfl (fun c9 => absurd c9 (by decide)) (fun _ => ?_)
        refine g_load rfl rfl rfl trivial ?_
        refine g_iconst (nI 3) rfl (by decide) ?_
        refine g_icmp_ne rfl (fun c3 => ?_) (fun c3 => ?_)
        · rw [if_neg (show ¬ w = nI 3 from c3), if_pos rfl] at hQ
          refine g_iconst (-1) rfl (by decide) ?_
          refine g_vret rfl trivial ⟨rfl, rfl⟩ (Nat.le_refl _) (Nat.le_refl _) ?_
          exact hQ
        · rw [if_pos (show w = nI 3 from c3)] at hQ
          refine g_iconst (nI 0) rfl (by decide) ?_
          refine g_goto rfl ?_
          refine g_vret rfl trivial ⟨rfl, rfl⟩ (Nat.le_refl _) (Nat.le_refl _) ?_
          exact hQ
  have hTB := hT.2.1
  have kT := hTB.1
  refine g_virtI (a := 16) (ci := 7) (n := 1) [.int (nI t0)] eF_tr rfl rfl (by decide) rfl (c_ob k16 (by decide) (by rfl)) rfl (Nat.le_of_ble_eq_true rfl) (Nat.le_refl _) (Nat.le_refl _) (c_busy hk0 t0 T B n m ht0 hT.1 hTB ⟨_, rfl, ?_⟩)
  refine g_store [some (.ref 16), some (.int (nI t0)), some (.int w), some (.ref T), none] rfl rfl trivial (Nat.le_of_ble_eq_true rfl) rfl ?_
  obtain ⟨l0, hl0, hL, hL2⟩ := hT.ld
  rw [← tl_tb hJ hT ht0 hl0 hL2] at hQ
  have hld := ldF_lt (g := gf r t0) (tr := u.oI (T + 3) 5) hl0 (m / 4)
  refine g_load rfl rfl rfl trivial ?_
  refine g_ifnull_r rfl ?_
  refine g_load rfl rfl rfl trivial ?_
  refine g_load rfl rfl rfl trivial ?_
  refine g_virtI (a := T) (ci := 6) (n := 1) [.int w] eF_tr rfl rfl (by decide) rfl (c_ob (by assumption) (by decide) (by rfl)) rfl (Nat.le_of_ble_eq_true rfl) (Nat.le_refl _) (Nat.le_refl _) (c_ttell T B n m hTB w (bd % 4) (ldF (gf r t0) (u.oI (T + 3) 5) l0 (m / 4)) l0 hT.2.2.2.2.2.2.2.2.2.2.1 (Nat.mod_lt _ (by decide)) hl0 (fun j hj => by rw [hT.gg hj]; exact hL j hj) (hL (m / 4) (Nat.le_refl _)) hld ⟨_, rfl, ?_⟩)
  refine g_vret rfl trivial ⟨rfl, rfl⟩ (Nat.le_refl _) (Nat.le_refl _) ?_
  exact hQ
