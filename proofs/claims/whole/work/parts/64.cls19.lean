/-! ===== the club beside the reference: sees, lacks ===== -/
theorem J.bo {u : cS} {r : rS} {nb nr t T B bd n m : Nat} (hJ : J u r nb nr) (h : tJ u r nb t T B bd n m) : bJ u r nr bd B := by
  obtain ⟨B', hB⟩ := hJ.bd h.2.2.1
  have e : B' = B := by have := hB.1; rw [h.2.2.2.1] at this; exact (Option.some.inj this).symm
  exact e ▸ hB
theorem J.hf {u : cS} {r : rS} {nb nr t T B bd n m c : Nat} (hJ : J u r nb nr) (h : tJ u r nb t T B bd n m) (hc : c < 52) : handF r (r.2 29 t) (nI c) = r.2 26 (52 * bd + c) := by
  obtain ⟨hnb, hnb2, hr0⟩ := hJ.hb
  unfold handF
  have hbd := h.2.2.1
  rw [h.2.2.2.2.1, bd_t hr0 (by omega) hbd, cd_t hc, nI_clamp (by omega), nI_clamp (by omega)]
  simp only [Bool.and_self, if_true, Nat.add_sub_cancel]
/-- whose card is the declarer's: phases -/
theorem tJ.dc {u : cS} {r : rS} {nb t T B bd n m : Nat} (h : tJ u r nb t T B bd n m) : ∃ dc, dc < 4 ∧ u.oI (T + 3) 4 = nI dc ∧ (0 < m → ∃ b, last ge3 (cf r t) n = some b ∧ dc = dcN (cf r t) (bd % 4) b) := by
  rcases h.2.2.2.2.2.2.2.2.2.2.2.2.2.2 with ⟨_, h2, _, ⟨dc, h3, h4⟩, _⟩ | ⟨_, _, b, hb1, h2⟩
  · exact ⟨dc, h3, h4, fun z => by omega⟩
  · exact ⟨_, (dcF_N (dl := bd % 4) (last_lt hb1).2).2, h2.1, fun _ => ⟨b, hb1, rfl⟩⟩
theorem sn_se {u : cS} {r : rS} {nb nr t T B bd n m dc s c : Nat} (hJ : J u r nb nr) (h : tJ u r nb t T B bd n m) (ht : t < 10) (hs : s < 4) (hc : c < 52) (hdc : 0 < m → ∃ b, last ge3 (cf r t) n = some b ∧ dc = dcN (cf r t) (bd % 4) b) : snF (oI (hoF (u.rL (B + 1)) c)) (u.rL (T + 3) 0) m dc s c = seF r (nI t) (nI s) (nI c) := by
  unfold snF seF
  rw [ph_in ht, nI_clamp (by omega), h.eM, h.eD hJ.hb.2.1, decide_eq_false h.ph, cd_t hc, J.hf hJ h hc, (hJ.bo h).2.2.2.2.2.2.2.ho hc, h.2.2.2.2.2.2.2.2.2.2.2.2.2.1.2 c hc]
  rw [show inF (nI s) 0 3 = true by show (decide (nI 0 ≤ nI s) && decide (nI s ≤ nI 3)) = true; rw [decide_eq_true ((nI_leI (by omega) (by omega)).mpr (by omega)), decide_eq_true ((nI_leI (by omega) (by omega)).mpr (by omega))]; rfl]
  simp only [Bool.not_false, Bool.true_and]
  by_cases hm : 0 < m
  · obtain ⟨b, hb1, rfl⟩ := hdc hm
    rw [h.eB hb1]
  · rw [decide_eq_false hm]; simp
set_option maxRecDepth 20000 in
theorem j_sees {pr : aC} {d : Nat} {u : cS} {r : rS} {nb nr : Nat} (hJ : J u r nb nr) (t s c : Int32) {Q : Option Value → cS → Prop} (hQ : Q (some (.int (bI (seF r t s c)))) u) : cR pr (d + 4 + 1) 122 [.ref 16, .int t, .int s, .int c] u Q := by
  refine gR_of mi_122 eF_rf rfl (Nat.le_of_ble_eq_true rfl) ?_
  show cB pr (d + 4) cd_122 (Option.some Jvm.ClassFile.FieldType.boolean) Q 0 [some (.ref 16), some (.int t), some (.int s), some (.int c), none] [] u
  have hnr2 := hJ.nr
  obtain ⟨hnr, hr1, _⟩ := hJ.hr
  obtain ⟨hnb, hnb2, hr0⟩ := hJ.hb
  have hk0 := hJ.k
  obtain ⟨k16, k17, k18, k19, k20, k21, k22, k23, k24⟩ := hJ.k
  refine g_load rfl rfl rfl trivial ?_
  refine g_load rfl rfl rfl trivial ?_
  rcases hJ.bz t with ⟨hph, hid⟩ | ⟨t0, T, B, bd, n, m, ht0, rfl, hT⟩
  · refine g_virtI (a := 16) (ci := 7) (n := 1) [.int t] eF_tr rfl rfl (by decide) rfl (c_ob k16 (by decide) (by rfl)) rfl (Nat.le_of_ble_eq_true rfl) (Nat.le_refl _) (Nat.le_refl _) (c_busy_x hk0 t hid ⟨_, rfl, ?_⟩)
    refine g_store [some (.ref 16), some (.int t), some (.int s), some (.int c), some (.null)] rfl rfl trivial (Nat.le_of_ble_eq_true rfl) rfl ?_
    unfold seF at hQ
    rw [decide_eq_true hph] at hQ
    simp only [Bool.not_true, Bool.false_and] at hQ
    refine g_load rfl rfl rfl trivial ?_
    refine g_ifnull_n rfl ?_
    refine g_iconst (nI 0) rfl (by decide) ?_
    refine g_vret rfl trivial (by first | exact ⟨by decide, by decide⟩ | trivial) (Nat.le_refl _) (Nat.le_refl _) ?_
    exact hQ
  have hTB := hT.2.1
  have kT := hTB.1
  refine g_virtI (a := 16) (ci := 7) (n := 1) [.int (nI t0)] eF_tr rfl rfl (by decide) rfl (c_ob k16 (by decide) (by rfl)) rfl (Nat.le_of_ble_eq_true rfl) (Nat.le_refl _) (Nat.le_refl _) (c_busy hk0 t0 T B n m ht0 hT.1 hTB ⟨_, rfl, ?_⟩)
  refine g_store [some (.ref 16), some (.int (nI t0)), some (.int s), some (.int c), some (.ref T)] rfl rfl trivial (Nat.le_of_ble_eq_true rfl) rfl ?_
  obtain ⟨dc, hdc, hdc2, hdc3⟩ := hT.dc
  refine g_load rfl rfl rfl trivial ?_
  refine g_ifnull_r rfl ?_
  refine g_load rfl rfl rfl trivial ?_
  refine g_if_lt rfl (fun c1 => ?_) (fun c1 => ?_)
  · rw [show seF r (nI t0) s c = false by unfold seF inF; simp [show ¬ (0 : Int32) ≤ s from Int32.not_le.mpr c1]] at hQ
    refine g_iconst (nI 0) rfl (by decide) ?_
    refine g_vret rfl trivial (by first | exact ⟨by decide, by decide⟩ | trivial) (Nat.le_refl _) (Nat.le_refl _) ?_
    exact hQ
  · obtain ⟨s0, hs0, rfl⟩ := nI_of c1
    refine g_load rfl rfl rfl trivial ?_
    refine g_iconst (nI 4) rfl (by decide) ?_
    refine g_icmp_ge rfl (fun c2 => ?_) (fun c2 => ?_)
    · rw [nI_leI (by omega) (by omega)] at c2
      rw [show seF r (nI t0) (nI s0) c = false by unfold seF inF; simp [show ¬ nI s0 ≤ (3 : Int32) from fun z => by have := (nI_leI (b := 3) (by omega) (by omega)).mp z; omega]] at hQ
      refine g_iconst (nI 0) rfl (by decide) ?_
      refine g_vret rfl trivial (by first | exact ⟨by decide, by decide⟩ | trivial) (Nat.le_refl _) (Nat.le_refl _) ?_
      exact hQ
    · rw [nI_leI (by omega) (by omega)] at c2
      refine g_load rfl rfl rfl trivial ?_
      refine g_statI [.int c] eF_tr rfl rfl rfl (Nat.le_of_ble_eq_true rfl) (Nat.le_refl _) (Nat.le_refl _) (p_exists eF_rf eF_tr c ⟨_, rfl, ?_⟩)
      refine g_if_ne rfl (fun c3 => ?_) (fun c3 => ?_)
      · rw [bI_ne] at c3
        obtain ⟨c0, hc0, rfl⟩ := cd_of c3
        rw [← sn_se hJ hT ht0 (show s0 < 4 by omega) hc0 hdc3] at hQ
        refine g_load rfl rfl rfl trivial ?_
        refine g_load rfl rfl rfl trivial ?_
        refine g_load rfl rfl rfl trivial ?_
        refine g_virtI (a := T) (ci := 6) (n := 2) [.int (nI s0), .int (nI c0)] eF_tr rfl rfl (by decide) rfl (c_ob (by assumption) (by decide) (by rfl)) rfl (Nat.le_of_ble_eq_true rfl) (Nat.le_refl _) (Nat.le_refl _) (c_isSeenBy T B n m hTB s0 c0 dc (by omega) hdc2 hdc ⟨_, rfl, ?_⟩)
        exact g_vret rfl trivial (bI_rt _) (Nat.le_refl _) (Nat.le_refl _) hQ
      · rw [bI_eq] at c3
        rw [show seF r (nI t0) (nI s0) c = false by unfold seF; rw [c3]; simp] at hQ
        refine g_iconst (nI 0) rfl (by decide) ?_
        refine g_vret rfl trivial (by first | exact ⟨by decide, by decide⟩ | trivial) (Nat.le_refl _) (Nat.le_refl _) ?_
        exact hQ
theorem cd_su {g : Nat → Int32} {m i : Nat} (h : cdOk g m) (hi : i < m) : g i / nI 13 = nI (cN g i / 13) ∧ cN g i / 13 < 4 ∧ ¬ g i = -1 := by
  have h1 := h i hi
  refine ⟨?_, by omega, by rw [h1.2]; exact nI_m1 (by omega)⟩
  have h2 := pk_div (a := cN g i) (d := 13) (by omega) (by omega) (by omega)
  rw [← h2, ← h1.2]
theorem so_la {u : cS} {r : rS} {nb nr t T B bd n m l0 s : Nat} (hJ : J u r nb nr) (h : tJ u r nb t T B bd n m) (ht : t < 10) (hl0 : l0 < 4) (hL : r.2 28 t = nI 2 → ∀ b, last ge3 (cf r t) n = some b → l0 = (dcN (cf r t) (bd % 4) b + 1) % 4) (hs : s < 4) (q : Int32) : anyN (soQ (u.rI (T + 3 + 1)) (ldF (gf r t) (u.oI (T + 3) 5) l0) m s q) ((m + 3) / 4) = laF r (nI t) (nI s) q := by
  unfold laF
  rw [ph_in ht, nI_clamp (by omega), h.eM]
  rw [show inF (nI s) 0 3 = true by show (decide (nI 0 ≤ nI s) && decide (nI s ≤ nI 3)) = true; rw [decide_eq_true ((nI_leI (by omega) (by omega)).mpr (by omega)), decide_eq_true ((nI_leI (by omega) (by omega)).mpr (by omega))]; rfl]
  have hgf := h.2.2.2.2.2.2.2.2.2.1
  have hm52 := hJ.hb.2.1
  rcases h.2.2.2.2.2.2.2.2.2.2.2.2.2.2 with ⟨h1, h2, _⟩ | ⟨h1, h3, b, hb1, h2⟩
  · subst h2
    rw [h1, decide_eq_false (by decide)]; rfl
  · have hl := hL h1 b hb1
    rw [h1, decide_eq_true rfl, Bool.true_and, Bool.true_and, h2.2.1]
    have hck := h.ck
    have hm := h2.2.2.1
    have own : ∀ k, k < m → handF r (r.2 29 t) (gf r t k) = nI ((ldF (gf r t) (stF (cf r t) b) l0 (k / 4) + k % 4) % 4) := by
      intro k hk
      have h9 := hck k hk
      rw [h9.2, J.hf hJ h h9.1, hl]
      exact h2.2.2.2.2.2.2 k hk
    have hlt := fun j => ldF_lt (g := gf r t) (tr := stF (cf r t) b) hl0 j
    have hca : ∀ k, k < 2 ^ 31 → caF (u.rI (T + 3 + 1)) m (nI k) = if k < m then gf r t k else -1 := by
      intro k hk
      by_cases e : k < m
      · rw [if_pos e, caF_at e (by omega), hgf k e]
      · rw [if_neg e]
        unfold caF
        rw [if_neg (nI_pos (by omega)), if_pos ((nI_leI (by omega) (by omega)).mpr (by omega))]
    cases hq : inF q 0 3 with
    | false =>
      rw [Bool.false_and]
      refine anyN_f (fun j hj => ?_)
      have : ¬ (u.rI (T + 3 + 1)) (4 * j) / nI 13 = q := by
        rw [hgf _ (by omega)]
        intro z
        have h9 := cd_su hck (show 4 * j < m by omega)
        rw [h9.1] at z
        rw [← z] at hq
        have : inF (nI (cN (gf r t) (4 * j) / 13)) 0 3 = true := by
          show (decide (nI 0 ≤ _) && decide (_ ≤ nI 3)) = true
          rw [decide_eq_true ((nI_leI (by omega) (by omega)).mpr (by omega)), decide_eq_true ((nI_leI (by omega) (by omega)).mpr (by omega))]; rfl
        rw [hq] at this; cases this
      unfold soQ
      simp [this]
    | true =>
      rw [Bool.true_and]
      cases e : anyN (laQ r t (nI s) q) m with
      | true =>
        obtain ⟨k, hk, hl2⟩ := anyN_iff.mp e
        unfold laQ at hl2
        rw [decide_eq_true_eq, own k hk, nI_eq (by omega) (by omega)] at hl2
        obtain ⟨a1, a2, a3⟩ := hl2
        have hlk := hlt (k / 4)
        have hp : (s + 4 - ldF (gf r t) (stF (cf r t) b) l0 (k / 4)) % 4 = k % 4 := by omega
        refine anyN_t (i := k / 4) (by omega) ?_
        unfold soQ
        rw [hp, show 4 * (k / 4) + k % 4 = k by omega, hca k (by omega), if_pos hk, hgf _ (by omega), show 4 * (k / 4) = k - k % 4 by omega, decide_eq_false (cd_su hck hk).2.2, decide_eq_true a2, decide_eq_false a3]; rfl
      | false =>
        refine anyN_f (fun j hj => ?_)
        cases e2 : soQ (u.rI (T + 3 + 1)) (ldF (gf r t) (stF (cf r t) b) l0) m s q j with
        | false => rfl
        | true =>
          exfalso
          have hlj := hlt j
          unfold soQ at e2
          rw [hca _ (by omega), hgf _ (by omega)] at e2
          simp only [Bool.and_eq_true, Bool.not_eq_true', decide_eq_true_eq, decide_eq_false_iff_not] at e2
          obtain ⟨a1, a2, a3⟩ := e2
          by_cases hk : 4 * j + (s + 4 - ldF (gf r t) (stF (cf r t) b) l0 j) % 4 < m
          · rw [if_pos hk] at a3
            have := anyN_t (p := laQ r t (nI s) q) hk (by
              unfold laQ
              rw [decide_eq_true_eq, own _ hk, nI_eq (by omega) (by omega)]
              have e4 : (4 * j + (s + 4 - ldF (gf r t) (stF (cf r t) b) l0 j) % 4) / 4 = j := by omega
              have e5 : (4 * j + (s + 4 - ldF (gf r t) (stF (cf r t) b) l0 j) % 4) % 4 = (s + 4 - ldF (gf r t) (stF (cf r t) b) l0 j) % 4 := by omega
              have e6 : 4 * j + (s + 4 - ldF (gf r t) (stF (cf r t) b) l0 j) % 4 - (s + 4 - ldF (gf r t) (stF (cf r t) b) l0 j) % 4 = 4 * j := by omega
              rw [e4, e5, e6]
              exact ⟨by omega, a2, a3⟩)
            rw [e] at this; cases this
          · rw [if_neg hk] at a1; exact a1 rfl
set_option maxRecDepth 20000 in
theorem j_lacks {pr : aC} {d : Nat} {u : cS} {r : rS} {nb nr : Nat} (hJ : J u r nb nr) (t s q : Int32) {Q : Option Value → cS → Prop} (hQ : Q (some (.int (bI (laF r t s q)))) u) : cR pr (d + 3 + 1) 123 [.ref 16, .int t, .int s, .int q] u Q := by
  refine gR_of mi_123 eF_rf rfl (Nat.le_of_ble_eq_true rfl) ?_
  show cB pr (d + 3) cd_123 (Option.some Jvm.ClassFile.FieldType.boolean) Q 0 [some (.ref 16), some (.int t), some (.int s), some (.int q), none] [] u
  have hnr2 := hJ.nr
  obtain ⟨hnr, hr1, _⟩ := hJ.hr
  obtain ⟨hnb, hnb2, hr0⟩ := hJ.hb
  have hk0 := hJ.k
  obtain ⟨k16, k17, k18, k19, k20, k21, k22, k23, k24⟩ := hJ.k
  refine g_load rfl rfl rfl trivial ?_
  refine g_load rfl rfl rfl trivial ?_
  rcases hJ.bz t with ⟨hph, hid⟩ | ⟨t0, T, B, bd, n, m, ht0, rfl, hT⟩
  · refine g_virtI (a := 16) (ci := 7) (n := 1) [.int t] eF_tr rfl rfl (by decide) rfl (c_ob k16 (by decide) (by rfl)) rfl (Nat.le_of_ble_eq_true rfl) (Nat.le_refl _) (Nat.le_refl _) (c_busy_x hk0 t hid ⟨_, rfl, ?_⟩)
    refine g_store [some (.ref 16), some (.int t), some (.int s), some (.int q), some (.null)] rfl rfl trivial (Nat.le_of_ble_eq_true rfl) rfl ?_
    unfold laF at hQ
    rw [hph, decide_eq_false (show ¬ (0 : Int32) = nI 2 by decide)] at hQ
    simp only [Bool.false_and] at hQ
    refine g_load rfl rfl rfl trivial ?_
    refine g_ifnull_n rfl ?_
    refine g_iconst (nI 0) rfl (by decide) ?_
    refine g_vret rfl trivial (by first | exact ⟨by decide, by decide⟩ | trivial) (Nat.le_refl _) (Nat.le_refl _) ?_
    exact hQ
  have hTB := hT.2.1
  have kT := hTB.1
  refine g_virtI (a := 16) (ci := 7) (n := 1) [.int (nI t0)] eF_tr rfl rfl (by decide) rfl (c_ob k16 (by decide) (by rfl)) rfl (Nat.le_of_ble_eq_true rfl) (Nat.le_refl _) (Nat.le_refl _) (c_busy hk0 t0 T B n m ht0 hT.1 hTB ⟨_, rfl, ?_⟩)
  refine g_store [some (.ref 16), some (.int (nI t0)), some (.int s), some (.int q), some (.ref T)] rfl rfl trivial (Nat.le_of_ble_eq_true rfl) rfl ?_
  obtain ⟨l0, hl0, hL, hL2⟩ := hT.ld
  refine g_load rfl rfl rfl trivial ?_
  refine g_ifnull_r rfl ?_
  refine g_load rfl rfl rfl trivial ?_
  refine g_if_lt rfl (fun c1 => ?_) (fun c1 => ?_)
  · rw [show laF r (nI t0) s q = false by unfold laF inF; simp [show ¬ (0 : Int32) ≤ s from Int32.not_le.mpr c1]] at hQ
    refine g_iconst (nI 0) rfl (by decide) ?_
    refine g_vret rfl trivial (by first | exact ⟨by decide, by decide⟩ | trivial) (Nat.le_refl _) (Nat.le_refl _) ?_
    exact hQ
  · obtain ⟨s0, hs0, rfl⟩ := nI_of c1
    refine g_load rfl rfl rfl trivial ?_
    refine g_iconst (nI 4) rfl (by decide) ?_
    refine g_icmp_ge rfl (fun c2 => ?_) (fun c2 => ?_)
    · rw [nI_leI (by omega) (by omega)] at c2
      rw [show laF r (nI t0) (nI s0) q = false by unfold laF inF; simp [show ¬ nI s0 ≤ (3 : Int32) from fun z => by have := (nI_leI (b := 3) (by omega) (by omega)).mp z; omega]] at hQ
      refine g_iconst (nI 0) rfl (by decide) ?_
      refine g_vret rfl trivial (by first | exact ⟨by decide, by decide⟩ | trivial) (Nat.le_refl _) (Nat.le_refl _) ?_
      exact hQ
    · rw [nI_leI (by omega) (by omega)] at c2
      rw [← so_la hJ hT ht0 hl0 hL2 (show s0 < 4 by omega)] at hQ
      refine g_load rfl rfl rfl trivial ?_
      refine g_load rfl rfl rfl trivial ?_
      refine g_load rfl rfl rfl trivial ?_
      refine g_virtI (a := T) (ci := 6) (n := 2) [.int (nI s0), .int q] eF_tr rfl rfl (by decide) rfl (c_ob (by assumption) (by decide) (by rfl)) rfl (Nat.le_of_ble_eq_true rfl) (Nat.le_refl _) (Nat.le_refl _) (c_tshown T B n m hTB _ (fun j hj => ⟨hL j hj, ldF_lt hl0 j⟩) s0 (by omega) q ⟨_, rfl, ?_⟩)
      refine g_if_eq rfl (fun c3 => ?_) (fun c3 => ?_)
      · rw [bI_eq] at c3
        rw [c3] at hQ
        refine g_iconst (nI 0) rfl (by decide) ?_
        refine g_vret rfl trivial (by first | exact ⟨by decide, by decide⟩ | trivial) (Nat.le_refl _) (Nat.le_refl _) ?_
        exact hQ
      · rw [bI_ne] at c3
        rw [c3] at hQ
        refine g_iconst (nI 1) rfl (by decide) ?_
        refine g_goto rfl ?_
        refine g_vret rfl trivial (by first | exact ⟨by decide, by decide⟩ | trivial) (Nat.le_refl _) (Nat.le_refl _) ?_
        exact hQ
