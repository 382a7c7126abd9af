/-! ===== the reference: claim ===== -/
set_option maxRecDepth 20000 in
theorem r_claim_n {pr : aC} {d : Nat} {u : rS} (t n : Int32) (hph : ¬ phF u t = nI 2 ∨ n < 0) {Q : Option Value → rS → Prop} (hQ : Q (some (.int 0)) u) : rR pr (d + 7 + 1) 194 [.ref 25, .int t, .int n] u Q := by
  refine gR_of mi_194 rFr_rf rfl (Nat.le_of_ble_eq_true rfl) ?_
  show rB pr (d + 7) cd_194 (Option.some Jvm.ClassFile.FieldType.boolean) Q 0 [some (.ref 25), some (.int t), some (.int n)] [] u
  refine g_load rfl rfl rfl trivial ?_
  refine g_load rfl rfl rfl trivial ?_
  refine g_virtI (a := 25) (ci := 8) (n := 1) [.int t] rFr_tr rfl rfl (by decide) rfl r_this rfl (Nat.le_of_ble_eq_true rfl) (Nat.le_refl _) (Nat.le_refl _) (r_phaseOf t ⟨_, rfl, ?_⟩)
  refine g_iconst (nI 2) rfl (by decide) ?_
  refine g_icmp_ne rfl (fun c1 => ?_) (fun c1 => ?_)
  · refine g_iconst (nI 0) rfl (by decide) ?_
    refine g_vret rfl trivial (by first | exact ⟨by decide, by decide⟩ | trivial) (Nat.le_refl _) (Nat.le_refl _) ?_
    exact hQ
  · refine g_load rfl rfl rfl trivial ?_
    refine g_if_lt rfl (fun c2 => ?_) (fun c2 => ?_)
    · refine g_iconst (nI 0) rfl (by decide) ?_
      refine g_vret rfl trivial (by first | exact ⟨by decide, by decide⟩ | trivial) (Nat.le_refl _) (Nat.le_refl _) ?_
      exact hQ
    · exact hph.elim (fun z => absurd c1 z) (fun z => absurd z c2)
set_option maxRecDepth 20000 in
theorem r_claim {pr : aC} {d : Nat} {u : rS} (t n b bd m : Nat) (ht : t < 10) (hc : u.2 31 t = nI n) (hn : n ≤ 340) (hb : last ge3 (cf u t) n = some b) (hbd : u.2 29 t = nI (bd + 1)) (hbd2 : bd < 36) (hm0 : u.2 32 t = nI m) (hm52 : m ≤ 52) (nb tr : Nat) (h0 : u.1 0 = nI nb) (hnb : nb ≤ 36) (hck : cdOk (gf u t) m) (hm1 : m < 52) (htr : stF (cf u t) b = nI tr) (htr5 : tr < 5) (hok : 13 - m / 4 ≤ 4 → sOk (hH u t m) (ldN u t b bd m) (m % 4) (13 - m / 4)) (x : Int32) (hx0 : ¬ x < 0) (hph : u.2 28 t = nI 2) (nr : Nat) (h1 : u.1 1 = nI nr) (hnr : nr < 220) {Q : Option Value → rS → Prop} (hN4 : 4 < 13 - m / 4 → ∀ v, rSame u v → Q (some (.int 0)) v) (hQ : 13 - m / 4 ≤ 4 → ∀ r, r ≤ 4 → sVal tr (dcN (cf u t) (bd % 4) b % 2) (hH u t m) (tkG u t m) (ldN u t b bd m) (m % 4) (13 - m / 4) r → (∀ v, rSame u v → ¬ nI r = x → Q (some (.int 0)) v) ∧ (∀ v w, rSame u v → nI r = x → ended v w t nr (recC v t n b bd (wonF u t b bd (m / 4) + r)) → Q (some (.int 1)) w)) : rR pr (d + 42 + 1) 194 [.ref 25, .int (nI t), .int x] u Q := by
  refine gR_of mi_194 rFr_rf rfl (Nat.le_of_ble_eq_true rfl) ?_
  show rB pr (d + 42) cd_194 (Option.some Jvm.ClassFile.FieldType.boolean) Q 0 [some (.ref 25), some (.int (nI t)), some (.int x)] [] u
  refine g_load rfl rfl rfl trivial ?_
  refine g_load rfl rfl rfl trivial ?_
  refine g_virtI (a := 25) (ci := 8) (n := 1) [.int (nI t)] rFr_tr rfl rfl (by decide) rfl r_this rfl (Nat.le_of_ble_eq_true rfl) (Nat.le_refl _) (Nat.le_refl _) (r_phaseOf (nI t) ⟨_, rfl, ?_⟩)
  rw [phF_t ht, hph]
  refine g_iconst (nI 2) rfl (by decide) ?_
  refine g_icmp_ne rfl (fun c1 => ?_) (fun c1 => ?_)
  · exact absurd rfl c1
  · refine g_load rfl rfl rfl trivial ?_
    refine g_if_lt rfl (fun c2 => ?_) (fun c2 => ?_)
    · exact absurd c2 hx0
    · refine g_load rfl rfl rfl trivial ?_
      refine g_load rfl rfl rfl trivial ?_
      refine g_virtI (a := 25) (ci := 8) (n := 1) [.int (nI t)] rFr_tr rfl rfl (by decide) rfl r_this rfl (Nat.le_of_ble_eq_true rfl) (Nat.le_refl _) (Nat.le_refl _) (r_best (d := d + 1) t n b bd m ht hc hn hb hbd hbd2 hm0 hm52 nb tr h0 hnb hck hm1 htr htr5 hok hph (fun h4 v hS => ⟨_, rfl, ?_⟩) (fun h4 v r hS hr4 hV => ⟨_, rfl, ?_⟩))
      · refine g_load rfl rfl rfl trivial ?_
        refine g_icmp_eq rfl (fun c1 => absurd (by rw [← c1]; decide) hx0) (fun c1 => ?_)
        refine g_iconst (nI 0) rfl (by decide) ?_
        exact g_vret rfl trivial ⟨by decide, by decide⟩ (Nat.le_refl _) (Nat.le_refl _) (hN4 h4 v hS)
      obtain ⟨hQ0, hQ1⟩ := hQ h4 r hr4 hV
      refine g_load rfl rfl rfl trivial ?_
      refine g_icmp_eq rfl (fun c3 => ?_) (fun c3 => ?_)
      · refine g_load rfl rfl rfl trivial ?_
        refine g_load rfl rfl rfl trivial ?_
        refine g_virtV (a := 25) (ci := 8) (n := 1) [.int (nI t)] rFr_tr rfl rfl (by decide) rfl r_this rfl (Nat.le_of_ble_eq_true rfl) (Nat.le_refl _) (Nat.le_refl _) (r_goThrough (d := d + 37) t n b bd m ht (by rw [hS.2.2.2 31 (by decide)]; exact hc) hn (by rw [rSame_cf hS]; exact hb) (by rw [hS.2.2.2 29 (by decide)]; exact hbd) hbd2 (by rw [hS.2.2.2 32 (by decide)]; exact hm0) hm52 (fun u1 hS1 hG => ⟨rfl, ?_⟩))
        have hS2 := hS.tr hS1
        rw [rSame_cf hS, rSame_gf hS] at hG
        refine g_load rfl rfl rfl trivial ?_
        refine g_load rfl rfl rfl trivial ?_
        refine g_load rfl rfl rfl trivial ?_
        refine r_getf rfl rfl ?_
        refine g_load rfl rfl rfl trivial ?_
        refine g_load rfl rfl rfl trivial ?_
        refine g_virtI (a := 25) (ci := 8) (n := 1) [.int (nI t)] rFr_tr rfl rfl (by decide) rfl r_this rfl (Nat.le_of_ble_eq_true rfl) (Nat.le_refl _) (Nat.le_refl _) (r_declarer (d := d + 38) t n b bd ht (by rw [hS2.2.2.2 31 (by decide)]; exact hc) hn (by rw [rSame_cf hS2]; exact hb) (by rw [hS2.2.2.2 29 (by decide)]; exact hbd) hbd2 ⟨_, rfl, ?_⟩)
        obtain ⟨hd1, hd4⟩ := dcF_N (dl := bd % 4) (last_lt hb).2
        rw [rSame_cf hS2, hd1]
        refine g_iconst (nI 2) rfl (by decide) ?_
        refine g_irem rfl (by decide) ?_
        rw [pk_rem (by omega) (by omega) (by omega)]
        refine r_ia (dcN (cf u t) (bd % 4) b % 2) rfl ⟨by decide, by decide, rfl⟩ rfl (by show _ < 2; omega) ?_
        refine g_load rfl rfl rfl trivial ?_
        rw [won_at hG]
        refine g_iadd rfl ?_
        rw [← c3, nI_add]
        have hw13 := wnF_le (gf u t) (stF (cf u t) b) ((dcN (cf u t) (bd % 4) b + 1) % 4) (dcN (cf u t) (bd % 4) b % 2) (m / 4)
        refine g_virtV (a := 25) (ci := 8) (n := 2) [.int (nI t), .int (nI (wonF u t b bd (m / 4) + r))] rFr_tr rfl rfl (by decide) rfl r_this rfl (Nat.le_of_ble_eq_true rfl) (Nat.le_refl _) (Nat.le_refl _) (r_ends_c (d := d + 36) t ht nr (hS2.2.1.trans h1) hnr n b bd _ (by rw [hS2.2.2.2 31 (by decide)]; exact hc) hn (by rw [rSame_cf hS2]; exact hb) (by rw [hS2.2.2.2 29 (by decide)]; exact hbd) hbd2 (by unfold wonF; omega) (fun w hw => ⟨rfl, ?_⟩))
        have hQ := hQ1 u1 w hS2 c3 hw
        refine g_iconst (nI 1) rfl (by decide) ?_
        refine g_vret rfl trivial (by first | exact ⟨by decide, by decide⟩ | trivial) (Nat.le_refl _) (Nat.le_refl _) ?_
        exact hQ
      · have hQ := hQ0 v hS c3
        refine g_iconst (nI 0) rfl (by decide) ?_
        refine g_vret rfl trivial (by first | exact ⟨by decide, by decide⟩ | trivial) (Nat.le_refl _) (Nat.le_refl _) ?_
        exact hQ
