/-! ===== the reference: layOut, best, bestCard, claim ===== -/
def tkG (u : rS) (t m : Nat) : Nat → Int32 := fun k => gf u t (4 * (m / 4) + k)
def ldN (u : rS) (t b bd m : Nat) : Nat := ldF (gf u t) (stF (cf u t) b) ((dcN (cf u t) (bd % 4) b + 1) % 4) (m / 4)
theorem sVal_congr {tr sd : Nat} {H : Nat → Nat → Bool} {g g' : Nat → Int32} {ld mn t r : Nat} (hm : mn ≤ 4) (e : ∀ j, j < mn → g' j = g j) (h : sVal tr sd H g ld mn t r) : sVal tr sd H g' ld mn t r := by
  have hw : winF g' tr ld mn = winF g tr ld mn := by
    unfold winF
    by_cases q : mn = 0
    · rw [if_pos q, if_pos q]
    · rw [if_neg q, if_neg q, bst_congr (fun j hj => e j (by omega))]
  unfold sVal at h ⊢
  by_cases q4 : mn = 4
  · rw [if_pos q4] at h ⊢
    rw [q4] at hw
    rw [hw]; exact h
  · rw [if_neg q4] at h ⊢
    have hl : ledF g' mn = ledF g mn := by
      unfold ledF
      by_cases q : mn = 0
      · rw [if_pos q, if_pos q]
      · rw [if_neg q, if_neg q]; unfold cN; rw [e 0 (by omega)]
    have ht : topF g' tr mn = topF g tr mn := by
      unfold topF
      by_cases q : mn = 0
      · rw [if_pos q, if_pos q]
      · rw [if_neg q, if_neg q, bst_congr (fun j hj => e j (by omega))]
        have := bst_le g (nI tr) 0 (mn - 1)
        unfold cN; rw [e _ (by omega)]
    rw [hw, hl, ht]; exact h
/-- what layOut leaves -/
def laid (u v : rS) (t b bd m tr : Nat) : Prop := rSame u v ∧ sPre v (hH u t m) tr (dcN (cf u t) (bd % 4) b % 2) (ldN u t b bd m) (m % 4) (13 - m / 4) ∧ v.1 25 = nI (ldN u t b bd m) ∧ v.1 26 = nI (4 * (m / 4)) ∧ ∀ k, k < m % 4 → v.2 49 k = tkG u t m k
set_option maxRecDepth 20000 in
theorem r_layOut {pr : aC} {d : Nat} {u : rS} (t n b bd m : Nat) (ht : t < 10) (hc : u.2 31 t = nI n) (hn : n ≤ 340) (hb : last ge3 (cf u t) n = some b) (hbd : u.2 29 t = nI (bd + 1)) (hbd2 : bd < 36) (hm0 : u.2 32 t = nI m) (hm52 : m ≤ 52) (nb tr : Nat) (h0 : u.1 0 = nI nb) (hnb : nb ≤ 36) (hck : cdOk (gf u t) m) (hm1 : m < 52) (htr : stF (cf u t) b = nI tr) (htr5 : tr < 5) (hok : 13 - m / 4 ≤ 4 → sOk (hH u t m) (ldN u t b bd m) (m % 4) (13 - m / 4)) (hph : u.2 28 t = nI 2) {Q : Option Value → rS → Prop} (hN4 : 4 < 13 - m / 4 → ∀ v, rSame u v → Q (some (.int (-1))) v) (hQ : 13 - m / 4 ≤ 4 → ∀ v, laid u v t b bd m tr → Q (some (.int (nI (13 - m / 4)))) v) : rR pr (d + 5 + 1) 206 [.ref 25, .int (nI t)] u Q := by
  refine gR_of mi_206 rFr_rf rfl (Nat.le_of_ble_eq_true rfl) ?_
  show rB pr (d + 5) cd_206 (Option.some Jvm.ClassFile.FieldType.int) Q 0 [some (.ref 25), some (.int (nI t)), none, none, none, none] [] u
  refine g_load rfl rfl rfl trivial ?_
  refine g_load rfl rfl rfl trivial ?_
  refine g_virtI (a := 25) (ci := 8) (n := 1) [.int (nI t)] rFr_tr rfl rfl (by decide) rfl r_this rfl (Nat.le_of_ble_eq_true rfl) (Nat.le_refl _) (Nat.le_refl _) (r_phaseOf (nI t) ⟨_, rfl, ?_⟩)
  rw [phF_t ht, hph]
  refine g_iconst (nI 2) rfl (by decide) ?_
  refine g_icmp_eq rfl (fun c1 => ?_) (fun c1 => ?_)
  · refine g_load rfl rfl rfl trivial ?_
    refine g_load rfl rfl rfl trivial ?_
    refine g_virtV (a := 25) (ci := 8) (n := 1) [.int (nI t)] rFr_tr rfl rfl (by decide) rfl r_this rfl (Nat.le_of_ble_eq_true rfl) (Nat.le_refl _) (Nat.le_refl _) (r_goThrough t n b bd m ht hc hn hb hbd hbd2 hm0 hm52 (fun u1 hS hG => ⟨rfl, ?_⟩))
    refine g_bipush (nI 13) rfl (by decide) ?_
    refine g_load rfl rfl rfl trivial ?_
    refine r_getf rfl rfl ?_
    refine g_iconst (nI 4) rfl (by decide) ?_
    rw [hG.2.1]
    refine g_idiv rfl (by decide) ?_
    rw [pk_div (by omega) (by omega) (by omega), show 4 * (m / 4) / 4 = m / 4 by omega]
    refine g_isub rfl ?_
    rw [pk_sub (by omega)]
    refine g_store [some (.ref 25), some (.int (nI t)), some (.int (nI (13 - m / 4))), none, none, none] rfl rfl trivial (Nat.le_of_ble_eq_true rfl) rfl ?_
    refine g_load rfl rfl rfl trivial ?_
    refine g_iconst (nI 4) rfl (by decide) ?_
    refine g_icmp_le rfl (fun c2 => ?_) (fun c2 => ?_)
    · rw [nI_leI (by omega) (by omega)] at c2
      have hok := hok c2
      have hc1 : u1.2 31 t = nI n := by rw [hS.2.2.2 31 (by decide)]; exact hc
      have hb1 : last ge3 (cf u1 t) n = some b := by rw [rSame_cf hS]; exact hb
      have hbd1 : u1.2 29 t = nI (bd + 1) := by rw [hS.2.2.2 29 (by decide)]; exact hbd
      refine g_load rfl rfl rfl trivial ?_
      refine g_load rfl rfl rfl trivial ?_
      refine g_load rfl rfl rfl trivial ?_
      refine g_virtI (a := 25) (ci := 8) (n := 1) [.int (nI t)] rFr_tr rfl rfl (by decide) rfl r_this rfl (Nat.le_of_ble_eq_true rfl) (Nat.le_refl _) (Nat.le_refl _) (r_strain t n b ht hc1 hn hb1 ⟨_, rfl, ?_⟩)
      rw [rSame_cf hS, htr]
      refine r_putv rfl (by simp [rIs]) (fun v1 p2 pf po => ?_)
      refine g_load rfl rfl rfl trivial ?_
      refine g_load rfl rfl rfl trivial ?_
      refine g_load rfl rfl rfl trivial ?_
      have hcf1 : cf v1 t = cf u t := by rw [← rSame_cf hS]; unfold cf; rw [p2]
      refine g_virtI (a := 25) (ci := 8) (n := 1) [.int (nI t)] rFr_tr rfl rfl (by decide) rfl r_this rfl (Nat.le_of_ble_eq_true rfl) (Nat.le_refl _) (Nat.le_refl _) (r_declarer t n b bd ht (by rw [p2]; exact hc1) hn (by rw [hcf1]; exact hb) (by rw [p2]; exact hbd1) hbd2 ⟨_, rfl, ?_⟩)
      obtain ⟨hd1, hd4⟩ := dcF_N (dl := bd % 4) (last_lt hb).2
      rw [hcf1, hd1]
      refine g_iconst (nI 2) rfl (by decide) ?_
      refine g_irem rfl (by decide) ?_
      rw [pk_rem (by omega) (by omega) (by omega)]
      refine r_putv rfl (by simp [rIs]) (fun v2 q2 qf qo => ?_)
      refine g_iconst (nI 0) rfl (by decide) ?_
      refine g_store [some (.ref 25), some (.int (nI t)), some (.int (nI (13 - m / 4))), some (.int (nI 0)), none, none] rfl rfl trivial (Nat.le_of_ble_eq_true rfl) rfl ?_
      have hS2 : rSame u v2 := by
        refine hS.tr ⟨by rw [qo 0 (by decide), po 0 (by decide)], by rw [qo 1 (by decide), po 1 (by decide)], by rw [qo 22 (by decide), po 22 (by decide)], fun a _ => by rw [q2, p2]⟩
      have hHe : hH u t m = hH v2 t m := by
        funext s c
        exact (rSame_hd hS2 t m (nI s) (nI c)).symm
      have hle : ∀ s, s < 4 → hN (hH u t m) s ≤ 4 := by
        intro s hs
        have hg := hok.2.2.2.2.1 (by omega)
        obtain ⟨j, hj, ej⟩ : ∃ j, j < 4 ∧ ((ldN u t b bd m + m % 4) % 4 + j) % 4 = s := ⟨(s + 4 - (ldN u t b bd m + m % 4) % 4) % 4, by omega, by omega⟩
        have := hg.2.2.2 j hj
        rw [ej] at this
        rw [this]
        split <;> omega
      refine r_lay_s (u0 := v2) t m nb (13 - m / 4) (hH u t m) ht (hS2.1.trans h0) hnb (by rw [hS2.2.2.2 32 (by decide)]; exact hm0) hm52 hHe hle (fun w l4 l5 hL hG4 => ?_) 5 0 v2 none none ⟨rfl, fun _ _ _ => rfl⟩ ⟨fun s' k hs => absurd hs (by omega), fun s' c hs => absurd hs (by omega), fun s' k k' c hs => absurd hs (by omega)⟩ (by omega) (by omega)
      have h26 : v2.1 26 = nI (4 * (m / 4)) := by rw [qo 26 (by decide), po 26 (by decide)]; exact hG.2.1
      refine g_load rfl rfl rfl trivial ?_
      refine r_getf rfl rfl ?_
      rw [show w.1 26 = nI (4 * (m / 4)) by rw [hL.1]; exact h26]
      refine g_store [some (.ref 25), some (.int (nI t)), some (.int (nI (13 - m / 4))), some (.int (nI (4 * (m / 4) + 0))), l4, l5] rfl rfl trivial (Nat.le_of_ble_eq_true rfl) rfl ?_
      refine r_lay_t (u0 := v2) t m (13 - m / 4) (4 * (m / 4)) (hH u t m) ht (by rw [hS2.2.2.2 32 (by decide)]; exact hm0) hm52 h26 (by omega) (by omega) (fun x hLx hR hT => ?_) 5 0 w l4 l5 hL (gSt_rep hG4) (fun k hk => absurd hk (by omega)) (by omega) (by omega)
      have hmm : m - 4 * (m / 4) = m % 4 := by omega
      rw [hmm] at hT
      have hT2 : ∀ k, k < m % 4 → x.2 49 k = tkG u t m k := fun k hk => by rw [hT k hk, rSame_gf hS2]; rfl
      refine hQ (by omega) x ⟨hS2.tr hLx.rS, ⟨?_, ?_, htr5, by omega, hR, hok, fun j hj => ?_⟩, ?_, ?_, hT2⟩
      · rw [hLx.1, qo 29 (by decide), pf]
      · rw [hLx.1, qf]
      · have := hck (4 * (m / 4) + j) (by omega)
        exact ⟨_, this.1, by rw [hT2 j hj]; exact this.2⟩
      · rw [hLx.1, qo 25 (by decide), po 25 (by decide)]; exact hG.1
      · rw [hLx.1]; exact h26
    · rw [nI_leI (by omega) (by omega)] at c2
      have hQ := hN4 (by omega) u1 hS
      refine g_iconst (-1) rfl (by decide) ?_
      refine g_vret rfl trivial ⟨rfl, rfl⟩ (Nat.le_refl _) (Nat.le_refl _) ?_
      exact hQ
  · exact absurd rfl c1
set_option maxRecDepth 20000 in
theorem r_layOut_n {pr : aC} {d : Nat} {u : rS} (t : Int32) (hph : ¬ phF u t = nI 2) {Q : Option Value → rS → Prop} (hQ : Q (some (.int (-1))) u) : rR pr (d + 5 + 1) 206 [.ref 25, .int t] u Q := by
  refine gR_of mi_206 rFr_rf rfl (Nat.le_of_ble_eq_true rfl) ?_
  show rB pr (d + 5) cd_206 (Option.some Jvm.ClassFile.FieldType.int) Q 0 [some (.ref 25), some (.int t), none, none, none, none] [] u
  refine g_load rfl rfl rfl trivial ?_
  refine g_load rfl rfl rfl trivial ?_
  refine g_virtI (a := 25) (ci := 8) (n := 1) [.int t] rFr_tr rfl rfl (by decide) rfl r_this rfl (Nat.le_of_ble_eq_true rfl) (Nat.le_refl _) (Nat.le_refl _) (r_phaseOf t ⟨_, rfl, ?_⟩)
  refine g_iconst (nI 2) rfl (by decide) ?_
  refine g_icmp_eq rfl (fun c1 => ?_) (fun c1 => ?_)
  · exact absurd c1 hph
  · refine g_iconst (-1) rfl (by decide) ?_
    refine g_vret rfl trivial ⟨rfl, rfl⟩ (Nat.le_refl _) (Nat.le_refl _) ?_
    exact hQ
set_option maxRecDepth 20000 in
theorem r_best {pr : aC} {d : Nat} {u : rS} (t n b bd m : Nat) (ht : t < 10) (hc : u.2 31 t = nI n) (hn : n ≤ 340) (hb : last ge3 (cf u t) n = some b) (hbd : u.2 29 t = nI (bd + 1)) (hbd2 : bd < 36) (hm0 : u.2 32 t = nI m) (hm52 : m ≤ 52) (nb tr : Nat) (h0 : u.1 0 = nI nb) (hnb : nb ≤ 36) (hck : cdOk (gf u t) m) (hm1 : m < 52) (htr : stF (cf u t) b = nI tr) (htr5 : tr < 5) (hok : 13 - m / 4 ≤ 4 → sOk (hH u t m) (ldN u t b bd m) (m % 4) (13 - m / 4)) (hph : u.2 28 t = nI 2) {Q : Option Value → rS → Prop} (hN4 : 4 < 13 - m / 4 → ∀ v, rSame u v → Q (some (.int (-1))) v) (hQ : 13 - m / 4 ≤ 4 → ∀ v r, rSame u v → r ≤ 4 → sVal tr (dcN (cf u t) (bd % 4) b % 2) (hH u t m) (tkG u t m) (ldN u t b bd m) (m % 4) (13 - m / 4) r → Q (some (.int (nI r))) v) : rR pr (d + 40 + 1) 207 [.ref 25, .int (nI t)] u Q := by
  refine gR_of mi_207 rFr_rf rfl (Nat.le_of_ble_eq_true rfl) ?_
  show rB pr (d + 40) cd_207 (Option.some Jvm.ClassFile.FieldType.int) Q 0 [some (.ref 25), some (.int (nI t)), none] [] u
  refine g_load rfl rfl rfl trivial ?_
  refine g_load rfl rfl rfl trivial ?_
  refine g_virtI (a := 25) (ci := 8) (n := 1) [.int (nI t)] rFr_tr rfl rfl (by decide) rfl r_this rfl (Nat.le_of_ble_eq_true rfl) (Nat.le_refl _) (Nat.le_refl _) (r_layOut (d := d + 34) t n b bd m ht hc hn hb hbd hbd2 hm0 hm52 nb tr h0 hnb hck hm1 htr htr5 hok hph (fun h4 v hS => ⟨_, rfl, ?_⟩) (fun h4 v hL => ⟨_, rfl, ?_⟩))
  · refine g_store [some (.ref 25), some (.int (nI t)), some (.int (-1))] rfl rfl trivial (Nat.le_of_ble_eq_true rfl) rfl ?_
    refine g_load rfl rfl rfl trivial ?_
    refine g_iconst (-1) rfl (by decide) ?_
    refine g_icmp_ne rfl (fun c1 => absurd rfl c1) (fun c1 => ?_)
    refine g_iconst (-1) rfl (by decide) ?_
    refine g_goto rfl ?_
    exact g_vret rfl trivial ⟨rfl, rfl⟩ (Nat.le_refl _) (Nat.le_refl _) (hN4 h4 v hS)
  obtain ⟨hS, hP, h25, h26, hT⟩ := hL
  refine g_store [some (.ref 25), some (.int (nI t)), some (.int (nI (13 - m / 4)))] rfl rfl trivial (Nat.le_of_ble_eq_true rfl) rfl ?_
  refine g_load rfl rfl rfl trivial ?_
  refine g_iconst (-1) rfl (by decide) ?_
  refine g_icmp_ne rfl (fun c1 => ?_) (fun c1 => ?_)
  · refine g_load rfl rfl rfl trivial ?_
    refine g_load rfl rfl rfl trivial ?_
    refine r_getf rfl rfl ?_
    refine g_load rfl rfl rfl trivial ?_
    refine r_getf rfl rfl ?_
    refine g_load rfl rfl rfl trivial ?_
    refine r_ia (t) rfl ⟨by decide, by decide, rfl⟩ rfl (by show _ < 10; omega) ?_
    rw [h25, hS.2.2.2 32 (by decide), hm0]
    refine g_load rfl rfl rfl trivial ?_
    refine r_getf rfl rfl ?_
    rw [h26]
    refine g_isub rfl ?_
    rw [pk_sub (by omega), show m - 4 * (m / 4) = m % 4 by omega]
    refine g_load rfl rfl rfl trivial ?_
    obtain ⟨dd, hdd⟩ : ∃ dd, d + 40 = dd + (5 * (13 - m / 4) - m % 4) + 4 := ⟨d + 36 - (5 * (13 - m / 4) - m % 4), by omega⟩
    have IHs := r_search (pr := pr) dd (5 * (13 - m / 4) - m % 4)
    rw [← hdd] at IHs
    refine g_virtI (a := 25) (ci := 8) (n := 3) [.int (nI (ldN u t b bd m)), .int (nI (m % 4)), .int (nI (13 - m / 4))] rFr_tr rfl rfl (by decide) rfl r_this rfl (Nat.le_of_ble_eq_true rfl) (Nat.le_refl _) (Nat.le_refl _) (IHs v _ _ _ _ _ _ rfl hP _ (fun w r hW hrt hV => ⟨_, rfl, ?_⟩))
    refine g_vret rfl trivial ⟨rfl, rfl⟩ (Nat.le_refl _) (Nat.le_refl _) ?_
    exact hQ h4 w r (hS.tr ⟨by rw [hW.1], by rw [hW.1], by rw [hW.1], fun a ha => hW.2.1 a (by omega) (by omega)⟩) (by omega) (sVal_congr (by omega) (fun j hj => (hT j hj).symm) hV)
  · exact absurd c1 (nI_m1 (by omega))
set_option maxRecDepth 20000 in
theorem r_best_n {pr : aC} {d : Nat} {u : rS} (t : Int32) (hph : ¬ phF u t = nI 2) {Q : Option Value → rS → Prop} (hQ : Q (some (.int (-1))) u) : rR pr (d + 6 + 1) 207 [.ref 25, .int t] u Q := by
  refine gR_of mi_207 rFr_rf rfl (Nat.le_of_ble_eq_true rfl) ?_
  show rB pr (d + 6) cd_207 (Option.some Jvm.ClassFile.FieldType.int) Q 0 [some (.ref 25), some (.int t), none] [] u
  refine g_load rfl rfl rfl trivial ?_
  refine g_load rfl rfl rfl trivial ?_
  refine g_virtI (a := 25) (ci := 8) (n := 1) [.int t] rFr_tr rfl rfl (by decide) rfl r_this rfl (Nat.le_of_ble_eq_true rfl) (Nat.le_refl _) (Nat.le_refl _) (r_layOut_n t hph ⟨_, rfl, ?_⟩)
  refine g_store [some (.ref 25), some (.int t), some (.int (-1))] rfl rfl trivial (Nat.le_of_ble_eq_true rfl) rfl ?_
  refine g_load rfl rfl rfl trivial ?_
  refine g_iconst (-1) rfl (by decide) ?_
  refine g_icmp_ne rfl (fun c1 => ?_) (fun c1 => ?_)
  · exact absurd rfl c1
  · refine g_iconst (-1) rfl (by decide) ?_
    refine g_goto rfl ?_
    refine g_vret rfl trivial ⟨rfl, rfl⟩ (Nat.le_refl _) (Nat.le_refl _) ?_
    exact hQ
