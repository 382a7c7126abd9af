/-! ===== the club beside the reference: best, bestCard ===== -/
theorem bst_sh {g : Nat → Int32} {tr : Int32} {s : Nat} : ∀ j, bst g tr s j = bst (fun k => g (s + k)) tr 0 j
  | 0 => rfl
  | j + 1 => by
    unfold bst
    rw [bst_sh j]
    simp only [Nat.zero_add]
theorem aucOk.bid {f : Nat → Int32} {n b : Nat} (h : aucOk f n) (hb : last ge3 f n = some b) : ∃ y, 3 ≤ y ∧ y ≤ 37 ∧ f b = nI y := by
  obtain ⟨y, h1, h2⟩ := h.nat (last_lt hb).1
  have h3 := (last_lt hb).2
  unfold ge3 at h3
  rw [decide_eq_true_eq, h2, nI_leI (by omega) (by omega)] at h3
  exact ⟨y, h3, h1, h2⟩
theorem aucOk.st {f : Nat → Int32} {n b : Nat} (h : aucOk f n) (hb : last ge3 f n = some b) : ∃ tr, tr < 5 ∧ stF f b = nI tr := by
  obtain ⟨y, h1, h2, h3⟩ := h.bid hb
  refine ⟨(y - 3) % 5, Nat.mod_lt _ (by decide), ?_⟩
  unfold stF
  rw [h3, pk_sub (by omega), pk_rem (by omega) (by omega) (by omega)]
theorem aucOk.lv {f : Nat → Int32} {n b : Nat} (h : aucOk f n) (hb : last ge3 f n = some b) : ∃ lv, 1 ≤ lv ∧ lv ≤ 7 ∧ lvF f b = nI lv := by
  obtain ⟨y, h1, h2, h3⟩ := h.bid hb
  refine ⟨(y - 3) / 5 + 1, by omega, by omega, ?_⟩
  unfold lvF
  rw [h3, pk_sub (by omega), pk_div (by omega) (by omega) (by omega), nI_add]
/-- the seats hold what they should in the play -/
theorem tJ.gok {u : cS} {r : rS} {nb nr t T B bd n m b : Nat} (hJ : J u r nb nr) (h : tJ u r nb t T B bd n m) (hb : last ge3 (cf r t) n = some b) (hp : plJ u r t T bd b m) : gOk (hH r t m) (seatF r t b bd m) (m % 4) (13 - m / 4) := by
  have hm := hp.2.2.1
  have hL := fun j => ldF_lt (g := gf r t) (tr := stF (cf r t) b) (show (dcN (cf r t) (bd % 4) b + 1) % 4 < 4 by omega) j
  have hbH := (hJ.bo h).2.2.2.2.2.2.2
  have key : ∀ x, x < 4 → hN (hH r t m) x + (m / 4 + (if (x + 4 - ldF (gf r t) (stF (cf r t) b) ((dcN (cf r t) (bd % 4) b + 1) % 4) (m / 4)) % 4 < m % 4 then 1 else 0)) = 13 := by
    intro x hx
    have h13 : cnt (fun c => decide (r.2 26 (52 * bd + c) = nI x)) 52 = 13 := by
      rw [← hbH.2.2 x hx]
      refine cnt_congr (fun c hc => ?_)
      obtain ⟨s0, hs0, h1, h2⟩ := hbH.2.1 c hc
      have h1 : r.2 26 (52 * bd + c) = nI s0 := h1
      rw [h2 x hx, h1]
      exact decide_eq_decide.mpr ⟨fun z => ((nI_eq (by omega) (by omega)).mp z).symm, fun z => by rw [z]⟩
    have hh := held_m (f := fun c => r.2 26 (52 * bd + c)) (g := gf r t) (own := plS (gf r t) (stF (cf r t) b) ((dcN (cf r t) (bd % 4) b + 1) % 4)) hx m hp.2.2.2.2.1 hp.2.2.2.2.2.1 (fun i hi => ⟨hp.2.2.2.2.2.2 i hi, Nat.mod_lt _ (by decide)⟩) h13
    have hc := own_m hx hL m
    unfold plS at hh
    rw [hc] at hh
    rw [← hh]
    congr 1
    refine cnt_congr (fun c hc => ?_)
    unfold hH hdF
    rw [J.hf hJ h hc]
  have hl := hL (m / 4)
  refine ⟨Nat.mod_lt _ (by decide), Nat.mod_lt _ (by decide), by omega, fun j hj => ?_⟩
  have hk := key ((seatF r t b bd m + j) % 4) (Nat.mod_lt _ (by decide))
  unfold seatF at hk ⊢
  generalize ldF (gf r t) (stF (cf r t) b) ((dcN (cf r t) (bd % 4) b + 1) % 4) (m / 4) = l at hl hk ⊢
  by_cases q : j < 4 - m % 4
  · rw [if_pos q]
    rw [if_neg (by omega)] at hk
    omega
  · rw [if_neg q]
    rw [if_pos (by omega)] at hk
    omega
theorem tJ.sok {u : cS} {r : rS} {nb nr t T B bd n m b : Nat} (hJ : J u r nb nr) (h : tJ u r nb t T B bd n m) (hb : last ge3 (cf r t) n = some b) (hp : plJ u r t T bd b m) (h4 : 13 - m / 4 ≤ 4) : sOk (hH r t m) (ldN r t b bd m) (m % 4) (13 - m / 4) := by
  have hm := hp.2.2.1
  have hL := ldF_lt (g := gf r t) (tr := stF (cf r t) b) (show (dcN (cf r t) (bd % 4) b + 1) % 4 < 4 by omega) (m / 4)
  exact ⟨hL, by omega, by omega, h4, fun _ => tJ.gok hJ h hb hp, fun e => by omega⟩
theorem tJ.edp {u : cS} {r : rS} {nb nr t T B bd n m b tr : Nat} (hJ : J u r nb nr) (h : tJ u r nb t T B bd n m) (hb : last ge3 (cf r t) n = some b) (hp : plJ u r t T bd b m) (h4 : 13 - m / 4 ≤ 4) (htr : stF (cf r t) b = nI tr) (htr5 : tr < 5) : edP u T B m (ldN r t b bd m) tr (ledF (tkG r t m) (m % 4)) (topF (tkG r t m) tr (m % 4)) (winF (tkG r t m) tr (ldN r t b bd m) (m % 4)) (hH r t m) := by
  have hm := hp.2.2.1
  have hgf := h.2.2.2.2.2.2.2.2.2.1
  have hck := h.ck
  have hL := ldF_lt (g := gf r t) (tr := stF (cf r t) b) (show (dcN (cf r t) (bd % 4) b + 1) % 4 < 4 by omega) (m / 4)
  have hbH := (hJ.bo h).2.2.2.2.2.2.2
  have etr : u.oI (T + 3) 5 = nI tr := hp.2.1.trans htr
  have hw : winF (tkG r t m) tr (ldN r t b bd m) (m % 4) < 4 := by unfold winF; split <;> omega
  have hbs : 0 < m % 4 → bst (u.rI (T + 3 + 1)) (nI tr) (m - m % 4) (m % 4 - 1) = bst (tkG r t m) (nI tr) 0 (m % 4 - 1) := by
    intro hk
    rw [bst_cg (g := gf r t) (fun x hx => hgf x (by omega)), bst_sh, show m - m % 4 = 4 * (m / 4) by omega]
    rfl
  have hbl := bst_le (tkG r t m) (nI tr) 0 (m % 4 - 1)
  have htop : 0 < m % 4 → topF (tkG r t m) tr (m % 4) = cN (gf r t) (4 * (m / 4) + bst (tkG r t m) (nI tr) 0 (m % 4 - 1)) ∧ 4 * (m / 4) + bst (tkG r t m) (nI tr) 0 (m % 4 - 1) < m := by
    intro hk
    refine ⟨?_, by omega⟩
    unfold topF
    rw [if_neg (by omega)]; rfl
  refine ⟨etr, htr5, hm, h4, hw, hbH.1, fun x c hx hc => hl_hd hJ h hx hc, tJ.gok hJ h hb hp, ⟨fun x y c hx hy z1 z2 => ?_, fun hk x hx => ?_⟩, ?_⟩
  · unfold hH hdF at z1 z2
    simp only [Bool.and_eq_true, decide_eq_true_eq] at z1 z2
    exact (nI_eq (by omega) (by omega)).mp (z1.1.symm.trans z2.1)
  · obtain ⟨e1, e2⟩ := htop hk
    have h9 := hck _ e2
    unfold hH hdF
    rw [e1, anyN_t e2 (decide_eq_true h9.2)]; simp
  · by_cases hk : m % 4 = 0
    · exact Or.inl ⟨hk, by unfold ledF; rw [if_pos hk]⟩
    · have hk0 : 0 < m % 4 := by omega
      obtain ⟨e1, e2⟩ := htop hk0
      obtain ⟨l1, l2⟩ := ledC_s hk h.ckU
      have e3 : cN (u.rI (T + 3 + 1)) (m - m % 4) = cN (gf r t) (4 * (m / 4)) := by
        unfold cN
        rw [hgf _ (by omega), show m - m % 4 = 4 * (m / 4) by omega]
      rw [e3] at l1 l2
      refine Or.inr ⟨hk0, ⟨_, l2, ?_, l1⟩, ?_, ?_, ?_⟩
      · unfold ledF; rw [if_neg hk]; rfl
      · unfold hgF
        rw [if_neg hk, etr, hbs hk0, hgf _ (by omega), show m - m % 4 = 4 * (m / 4) by omega, e1]
        exact (hck _ e2).2
      · rw [e1]; exact (hck _ e2).1
      · unfold wiF winF
        rw [if_neg hk, if_neg hk, etr, hbs hk0]
set_option maxRecDepth 20000 in
theorem c_endT {pr : aC} {d : Nat} {u : cS} (hk : kJ u) (t T B n m : Nat) (ht : t < 10) (hT : u.rR 18 t = some T) (hb : tB u T B n m) {Q : Option Value → cS → Prop} (hy : ovF (u.rI (T + 1 + 1)) n = true → 13 - m / 4 ≤ 4 → Q (some (.ref T)) u) (hn : ovF (u.rI (T + 1 + 1)) n = false ∨ 4 < 13 - m / 4 → Q (some .null) u) : cR pr (d + 3 + 1) 142 [.ref 16, .int (nI t)] u Q := by
  refine gR_of mi_142 eF_rf rfl (Nat.le_of_ble_eq_true rfl) ?_
  show cB pr (d + 3) cd_142 (Option.some (Jvm.ClassFile.FieldType.object "BridgeClub$Table")) Q 0 [some (.ref 16), some (.int (nI t)), none] [] u
  have hk0 := hk
  obtain ⟨k16, k17, k18, k19, k20, k21, k22, k23, k24⟩ := hk
  have kT := hb.1
  refine g_load rfl rfl rfl trivial ?_
  refine g_load rfl rfl rfl trivial ?_
  refine g_virtI (a := 16) (ci := 7) (n := 1) [.int (nI t)] eF_tr rfl rfl (by decide) rfl (c_ob k16 (by decide) (by rfl)) rfl (Nat.le_of_ble_eq_true rfl) (Nat.le_refl _) (Nat.le_refl _) (c_busy hk0 t T B n m ht hT hb ⟨_, rfl, ?_⟩)
  refine g_store [some (.ref 16), some (.int (nI t)), some (.ref T)] rfl rfl trivial (Nat.le_of_ble_eq_true rfl) rfl ?_
  refine g_load rfl rfl rfl trivial ?_
  refine g_ifnull_r rfl ?_
  refine g_load rfl rfl rfl trivial ?_
  refine g_virtI (a := T) (ci := 6) (n := 0) [] eF_tr rfl rfl (by decide) rfl (c_ob (by assumption) (by decide) (by rfl)) rfl (Nat.le_of_ble_eq_true rfl) (Nat.le_refl _) (Nat.le_refl _) (c_isInPlay T B n m hb ⟨_, rfl, ?_⟩)
  refine g_if_eq rfl (fun c1 => ?_) (fun c1 => ?_)
  · rw [bI_eq] at c1
    have hQ := hn (Or.inl c1)
    refine g_null rfl ?_
    refine g_vret rfl trivial (by first | exact ⟨by decide, by decide⟩ | trivial) (Nat.le_refl _) (Nat.le_refl _) ?_
    exact hQ
  · rw [bI_ne] at c1
    have hov := c1
    refine g_load rfl rfl rfl trivial ?_
    refine g_virtI (a := T) (ci := 6) (n := 0) [] eF_tr rfl rfl (by decide) rfl (c_ob (by assumption) (by decide) (by rfl)) rfl (Nat.le_of_ble_eq_true rfl) (Nat.le_refl _) (Nat.le_refl _) (c_tricksLeft T B n m hb ⟨_, rfl, ?_⟩)
    refine g_iconst (nI 4) rfl (by decide) ?_
    refine g_icmp_gt rfl (fun c2 => ?_) (fun c2 => ?_)
    · rw [nI_ltI (by omega) (by omega)] at c2
      have hQ := hn (Or.inr c2)
      refine g_null rfl ?_
      refine g_vret rfl trivial (by first | exact ⟨by decide, by decide⟩ | trivial) (Nat.le_refl _) (Nat.le_refl _) ?_
      exact hQ
    · rw [nI_ltI (by omega) (by omega)] at c2
      have hQ := hy hov (by omega)
      refine g_load rfl rfl rfl trivial ?_
      refine g_goto rfl ?_
      refine g_vret rfl trivial (by first | exact ⟨by decide, by decide⟩ | trivial) (Nat.le_refl _) (Nat.le_refl _) ?_
      exact hQ
set_option maxRecDepth 20000 in
theorem c_endT_n {pr : aC} {d : Nat} {u : cS} (hk : kJ u) (t : Int32) (h : inF t 0 9 = false ∨ ∃ t', t' < 10 ∧ t = nI t' ∧ tI0 u t') {Q : Option Value → cS → Prop} (hQ : Q (some .null) u) : cR pr (d + 3 + 1) 142 [.ref 16, .int t] u Q := by
  refine gR_of mi_142 eF_rf rfl (Nat.le_of_ble_eq_true rfl) ?_
  show cB pr (d + 3) cd_142 (Option.some (Jvm.ClassFile.FieldType.object "BridgeClub$Table")) Q 0 [some (.ref 16), some (.int t), none] [] u
  have hk0 := hk
  obtain ⟨k16, k17, k18, k19, k20, k21, k22, k23, k24⟩ := hk
  refine g_load rfl rfl rfl trivial ?_
  refine g_load rfl rfl rfl trivial ?_
  refine g_virtI (a := 16) (ci := 7) (n := 1) [.int t] eF_tr rfl rfl (by decide) rfl (c_ob k16 (by decide) (by rfl)) rfl (Nat.le_of_ble_eq_true rfl) (Nat.le_refl _) (Nat.le_refl _) (c_busy_x hk0 t h ⟨_, rfl, ?_⟩)
  refine g_store [some (.ref 16), some (.int t), some (.null)] rfl rfl trivial (Nat.le_of_ble_eq_true rfl) rfl ?_
  refine g_load rfl rfl rfl trivial ?_
  refine g_ifnull_n rfl ?_
  refine g_null rfl ?_
  refine g_vret rfl trivial (by first | exact ⟨by decide, by decide⟩ | trivial) (Nat.le_refl _) (Nat.le_refl _) ?_
  exact hQ
set_option maxRecDepth 20000 in
theorem j_best {pr : aC} {d : Nat} {u : cS} {r : rS} {nb nr : Nat} (hJ : J u r nb nr) (t : Int32) {Q : Option Value → cS → Prop} (hN : (¬ phF r t = nI 2 ∨ ∃ t0 T B bd n m, t0 < 10 ∧ t = nI t0 ∧ tJ u r nb t0 T B bd n m ∧ 4 < 13 - m / 4) → Q (some (.int (-1))) u) (hQ : ∀ t0 T B bd n m b tr r0 v, t0 < 10 → t = nI t0 → tJ u r nb t0 T B bd n m → r.2 28 t0 = nI 2 → last ge3 (cf r t0) n = some b → plJ u r t0 T bd b m → stF (cf r t0) b = nI tr → tr < 5 → 13 - m / 4 ≤ 4 → r0 ≤ 13 - m / 4 → gVal tr (dcN (cf r t0) (bd % 4) b % 2) (52 - m) (hH r t0 m) (seatF r t0 b bd m) (m % 4) (ledF (tkG r t0 m) (m % 4)) (topF (tkG r t0 m) tr (m % 4)) (winF (tkG r t0 m) tr (ldN r t0 b bd m) (m % 4)) r0 → onE u v → Q (some (.int (nI r0))) v) : wR pr (d + 34 + 1) 124 [.ref 16, .int t] u Q := by
  refine gR_of mi_124 cFr_rf rfl (Nat.le_of_ble_eq_true rfl) ?_
  show wB pr (d + 34) cd_124 (Option.some Jvm.ClassFile.FieldType.int) Q 0 [some (.ref 16), some (.int t), none] [] u
  have hnr2 := hJ.nr
  obtain ⟨hnr, hr1, _⟩ := hJ.hr
  obtain ⟨hnb, hnb2, hr0⟩ := hJ.hb
  have hk0 := hJ.k
  obtain ⟨k16, k17, k18, k19, k20, k21, k22, k23, k24⟩ := hJ.k
  refine g_load rfl rfl rfl trivial ?_
  refine g_load rfl rfl rfl trivial ?_
  rcases hJ.bz t with ⟨hph, hid⟩ | ⟨t0, T, B, bd, n, m, ht0, rfl, hT⟩
  · have hNo := hN (Or.inl (by rw [hph]; decide))
    refine g_virtI (a := 16) (ci := 7) (n := 1) [.int t] cFr_tr rfl rfl (by decide) rfl (c_ob k16 (by decide) (by rfl)) rfl (Nat.le_of_ble_eq_true rfl) (Nat.le_refl _) (Nat.le_refl _) (c_lift cFr_rf (fun _ h => h) (c_endT_n hk0 t hid ⟨_, rfl, ?_⟩))
    refine g_store [some (.ref 16), some (.int t), some (.null)] rfl rfl trivial (Nat.le_of_ble_eq_true rfl) rfl ?_
    refine g_load rfl rfl rfl trivial ?_
    refine g_ifnonnull_n rfl ?_
    refine g_iconst (-1) rfl (by decide) ?_
    refine g_goto rfl ?_
    exact g_vret rfl trivial ⟨rfl, rfl⟩ (Nat.le_refl _) (Nat.le_refl _) hNo
  have hTB := hT.2.1
  have kT := hTB.1
  refine g_virtI (a := 16) (ci := 7) (n := 1) [.int (nI t0)] cFr_tr rfl rfl (by decide) rfl (c_ob k16 (by decide) (by rfl)) rfl (Nat.le_of_ble_eq_true rfl) (Nat.le_refl _) (Nat.le_refl _) (c_lift cFr_rf (fun _ h => h) (c_endT hk0 t0 T B n m ht0 hT.1 hTB (fun hov h4 => ⟨_, rfl, ?_⟩) (fun hno => ⟨_, rfl, ?_⟩)))
  rotate_left
  · skip
    have hNo := hN (by
      rcases hno with e | e
      · refine Or.inl (fun z => ?_)
        rw [ph_in ht0] at z
        rcases hT.2.2.2.2.2.2.2.2.2.2.2.2.2.2 with ⟨h1, _⟩ | ⟨_, h3, _⟩
        · rw [h1] at z; exact absurd z (by decide)
        · rw [hT.ov, h3] at e; cases e
      · exact Or.inr ⟨t0, T, B, bd, n, m, ht0, rfl, hT, e⟩)
    refine g_store [some (.ref 16), some (.int (nI t0)), some (.null)] rfl rfl trivial (Nat.le_of_ble_eq_true rfl) rfl ?_
    refine g_load rfl rfl rfl trivial ?_
    refine g_ifnonnull_n rfl ?_
    refine g_iconst (-1) rfl (by decide) ?_
    refine g_goto rfl ?_
    exact g_vret rfl trivial ⟨rfl, rfl⟩ (Nat.le_refl _) (Nat.le_refl _) hNo
  obtain ⟨h28, b, hb1, hp⟩ : r.2 28 t0 = nI 2 ∧ ∃ b, last ge3 (cf r t0) n = some b ∧ plJ u r t0 T bd b m := by
    rcases hT.2.2.2.2.2.2.2.2.2.2.2.2.2.2 with ⟨_, _, h3, _⟩ | ⟨h1, _, b, h2, h3⟩
    · rw [hT.ov, h3] at hov; cases hov
    · exact ⟨h1, b, h2, h3⟩
  obtain ⟨tr, htr5, htr⟩ := hT.2.2.2.2.2.2.2.2.2.2.2.1.st hb1
  have hE := tJ.edp hJ hT hb1 hp h4 htr htr5
  have hgk := tJ.gok hJ hT hb1 hp
  have hdc := dcF_N (f := cf r t0) (dl := bd % 4) (last_lt hb1).2
  have hldl := ldF_lt (g := gf r t0) (tr := stF (cf r t0) b) (show (dcN (cf r t0) (bd % 4) b + 1) % 4 < 4 by omega) (m / 4)
  obtain ⟨r0, hr0', hv⟩ := gVal_ex (tr := tr) (sd := dcN (cf r t0) (bd % 4) b % 2) (n := 52 - m) (led := ledF (tkG r t0 m) (m % 4)) (top := topF (tkG r t0 m) tr (m % 4)) (show 52 - m + m % 4 = 4 * (13 - m / 4) by have := hp.2.2.1; omega) hgk hE.2.2.2.2.1
  have hds : ∀ x y, x < m % 4 → y < m % 4 → u.rI (T + 3 + 1) (m - m % 4 + x) = u.rI (T + 3 + 1) (m - m % 4 + y) → x = y := fun x y hx hy z => by
    rw [hT.2.2.2.2.2.2.2.2.2.1 _ (by omega), hT.2.2.2.2.2.2.2.2.2.1 _ (by omega)] at z
    have := hp.2.2.2.2.2.1 _ _ (by omega) (by omega) z
    omega
  have hlm : u.rI (T + 3 + 2) (m / 4) = nI (ldN r t0 b bd m) := hp.2.2.2.1 (m / 4) (Nat.le_refl _)
  refine g_store [some (.ref 16), some (.int (nI t0)), some (.ref T)] rfl rfl trivial (Nat.le_of_ble_eq_true rfl) rfl ?_
  refine g_load rfl rfl rfl trivial ?_
  refine g_ifnonnull_r rfl ?_
  refine g_load rfl rfl rfl trivial ?_
  refine c_getf rfl (κ := 10) k16 (by decide) (by rfl) (by rfl) ?_
  refine g_load rfl rfl rfl trivial ?_
  refine g_virtI (a := 21) (ci := 3) (n := 1) [.ref T] cFr_tr rfl rfl (by decide) rfl (c_ob (κ := 14) k21 (by decide) (by rfl)) rfl (Nat.le_of_ble_eq_true rfl) (Nat.le_refl _) (Nat.le_refl _) (w_most T B n m (dcN (cf r t0) (bd % 4) b) (ldN r t0 b bd m) hTB k21 k22 hp.1 hdc.2 hlm hldl hds tr _ _ _ _ hE r0 hr0' hv (fun v hL => ⟨_, rfl, ?_⟩))
  exact g_vret rfl trivial ⟨rfl, rfl⟩ (Nat.le_refl _) (Nat.le_refl _) (hQ t0 T B bd n m b tr r0 v ht0 rfl hT h28 hb1 hp htr htr5 h4 hr0' hv hL.1)
set_option maxRecDepth 20000 in
theorem j_bestCard {pr : aC} {d : Nat} {u : cS} {r : rS} {nb nr : Nat} (hJ : J u r nb nr) (t : Int32) {Q : Option Value → cS → Prop} (hN : (¬ phF r t = nI 2 ∨ ∃ t0 T B bd n m, t0 < 10 ∧ t = nI t0 ∧ tJ u r nb t0 T B bd n m ∧ 4 < 13 - m / 4) → Q (some (.int (-1))) u) (hQ : ∀ o t0 T B bd n m b tr r0 v, t0 < 10 → t = nI t0 → tJ u r nb t0 T B bd n m → r.2 28 t0 = nI 2 → last ge3 (cf r t0) n = some b → plJ u r t0 T bd b m → stF (cf r t0) b = nI tr → tr < 5 → 13 - m / 4 ≤ 4 → r0 ≤ 13 - m / 4 → gVal tr (dcN (cf r t0) (bd % 4) b % 2) (52 - m) (hH r t0 m) (seatF r t0 b bd m) (m % 4) (ledF (tkG r t0 m) (m % 4)) (topF (tkG r t0 m) tr (m % 4)) (winF (tkG r t0 m) tr (ldN r t0 b bd m) (m % 4)) r0 → onE u v → bcO (lbP tr (dcN (cf r t0) (bd % 4) b % 2) (52 - m - 1) r0 (hH r t0 m) (seatF r t0 b bd m) (m % 4) (ledF (tkG r t0 m) (m % 4)) (topF (tkG r t0 m) tr (m % 4)) (winF (tkG r t0 m) tr (ldN r t0 b bd m) (m % 4))) o → Q (some (.int o)) v) : wR pr (d + 35 + 1) 125 [.ref 16, .int t] u Q := by
  refine gR_of mi_125 cFr_rf rfl (Nat.le_of_ble_eq_true rfl) ?_
  show wB pr (d + 35) cd_125 (Option.some Jvm.ClassFile.FieldType.int) Q 0 [some (.ref 16), some (.int t), none] [] u
  have hnr2 := hJ.nr
  obtain ⟨hnr, hr1, _⟩ := hJ.hr
  obtain ⟨hnb, hnb2, hr0⟩ := hJ.hb
  have hk0 := hJ.k
  obtain ⟨k16, k17, k18, k19, k20, k21, k22, k23, k24⟩ := hJ.k
  refine g_load rfl rfl rfl trivial ?_
  refine g_load rfl rfl rfl trivial ?_
  rcases hJ.bz t with ⟨hph, hid⟩ | ⟨t0, T, B, bd, n, m, ht0, rfl, hT⟩
  · have hNo := hN (Or.inl (by rw [hph]; decide))
    refine g_virtI (a := 16) (ci := 7) (n := 1) [.int t] cFr_tr rfl rfl (by decide) rfl (c_ob k16 (by decide) (by rfl)) rfl (Nat.le_of_ble_eq_true rfl) (Nat.le_refl _) (Nat.le_refl _) (c_lift cFr_rf (fun _ h => h) (c_endT_n hk0 t hid ⟨_, rfl, ?_⟩))
    refine g_store [some (.ref 16), some (.int t), some (.null)] rfl rfl trivial (Nat.le_of_ble_eq_true rfl) rfl ?_
    refine g_load rfl rfl rfl trivial ?_
    refine g_ifnonnull_n rfl ?_
    refine g_iconst (-1) rfl (by decide) ?_
    refine g_goto rfl ?_
    exact g_vret rfl trivial ⟨rfl, rfl⟩ (Nat.le_refl _) (Nat.le_refl _) hNo
  have hTB := hT.2.1
  have kT := hTB.1
  refine g_virtI (a := 16) (ci := 7) (n := 1) [.int (nI t0)] cFr_tr rfl rfl (by decide) rfl (c_ob k16 (by decide) (by rfl)) rfl (Nat.le_of_ble_eq_true rfl) (Nat.le_refl _) (Nat.le_refl _) (c_lift cFr_rf (fun _ h => h) (c_endT hk0 t0 T B n m ht0 hT.1 hTB (fun hov h4 => ⟨_, rfl, ?_⟩) (fun hno => ⟨_, rfl, ?_⟩)))
  rotate_left
  · skip
    have hNo := hN (by
      rcases hno with e | e
      · refine Or.inl (fun z => ?_)
        rw [ph_in ht0] at z
        rcases hT.2.2.2.2.2.2.2.2.2.2.2.2.2.2 with ⟨h1, _⟩ | ⟨_, h3, _⟩
        · rw [h1] at z; exact absurd z (by decide)
        · rw [hT.ov, h3] at e; cases e
      · exact Or.inr ⟨t0, T, B, bd, n, m, ht0, rfl, hT, e⟩)
    refine g_store [some (.ref 16), some (.int (nI t0)), some (.null)] rfl rfl trivial (Nat.le_of_ble_eq_true rfl) rfl ?_
    refine g_load rfl rfl rfl trivial ?_
    refine g_ifnonnull_n rfl ?_
    refine g_iconst (-1) rfl (by decide) ?_
    refine g_goto rfl ?_
    exact g_vret rfl trivial ⟨rfl, rfl⟩ (Nat.le_refl _) (Nat.le_refl _) hNo
  obtain ⟨h28, b, hb1, hp⟩ : r.2 28 t0 = nI 2 ∧ ∃ b, last ge3 (cf r t0) n = some b ∧ plJ u r t0 T bd b m := by
    rcases hT.2.2.2.2.2.2.2.2.2.2.2.2.2.2 with ⟨_, _, h3, _⟩ | ⟨h1, _, b, h2, h3⟩
    · rw [hT.ov, h3] at hov; cases hov
    · exact ⟨h1, b, h2, h3⟩
  obtain ⟨tr, htr5, htr⟩ := hT.2.2.2.2.2.2.2.2.2.2.2.1.st hb1
  have hE := tJ.edp hJ hT hb1 hp h4 htr htr5
  have hgk := tJ.gok hJ hT hb1 hp
  have hdc := dcF_N (f := cf r t0) (dl := bd % 4) (last_lt hb1).2
  have hldl := ldF_lt (g := gf r t0) (tr := stF (cf r t0) b) (show (dcN (cf r t0) (bd % 4) b + 1) % 4 < 4 by omega) (m / 4)
  obtain ⟨r0, hr0', hv⟩ := gVal_ex (tr := tr) (sd := dcN (cf r t0) (bd % 4) b % 2) (n := 52 - m) (led := ledF (tkG r t0 m) (m % 4)) (top := topF (tkG r t0 m) tr (m % 4)) (show 52 - m + m % 4 = 4 * (13 - m / 4) by have := hp.2.2.1; omega) hgk hE.2.2.2.2.1
  have hds : ∀ x y, x < m % 4 → y < m % 4 → u.rI (T + 3 + 1) (m - m % 4 + x) = u.rI (T + 3 + 1) (m - m % 4 + y) → x = y := fun x y hx hy z => by
    rw [hT.2.2.2.2.2.2.2.2.2.1 _ (by omega), hT.2.2.2.2.2.2.2.2.2.1 _ (by omega)] at z
    have := hp.2.2.2.2.2.1 _ _ (by omega) (by omega) z
    omega
  have hlm : u.rI (T + 3 + 2) (m / 4) = nI (ldN r t0 b bd m) := hp.2.2.2.1 (m / 4) (Nat.le_refl _)
  refine g_store [some (.ref 16), some (.int (nI t0)), some (.ref T)] rfl rfl trivial (Nat.le_of_ble_eq_true rfl) rfl ?_
  refine g_load rfl rfl rfl trivial ?_
  refine g_ifnonnull_r rfl ?_
  refine g_load rfl rfl rfl trivial ?_
  refine c_getf rfl (κ := 10) k16 (by decide) (by rfl) (by rfl) ?_
  refine g_load rfl rfl rfl trivial ?_
  refine g_virtI (a := 21) (ci := 3) (n := 1) [.ref T] cFr_tr rfl rfl (by decide) rfl (c_ob (κ := 14) k21 (by decide) (by rfl)) rfl (Nat.le_of_ble_eq_true rfl) (Nat.le_refl _) (Nat.le_refl _) (w_lbc T B n m (dcN (cf r t0) (bd % 4) b) (ldN r t0 b bd m) hTB k21 k22 hp.1 hdc.2 hlm hldl hds tr _ _ _ _ hE r0 hr0' hv hT.ckU (fun v o hL ho => ⟨_, rfl, ?_⟩))
  exact g_vret rfl trivial ⟨rfl, rfl⟩ (Nat.le_refl _) (Nat.le_refl _) (hQ o t0 T B bd n m b tr r0 v ht0 rfl hT h28 hb1 hp htr htr5 h4 hr0' hv hL.1 ho)
