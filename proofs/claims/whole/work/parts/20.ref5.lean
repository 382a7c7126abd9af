/-! ===== the reference: play, second part ===== -/
theorem rSame_hand {u u' : rS} (h : rSame u u') (b c : Int32) : handF u' b c = handF u b c := by
  unfold handF isBd; rw [h.1, h.2.2.2 26 (by decide)]
theorem rSame_hd {u u' : rS} (h : rSame u u') (t m : Nat) (s c : Int32) : hdF u' t m s c = hdF u t m s c := by
  unfold hdF; rw [rSame_hand h, rSame_gf h, h.2.2.2 29 (by decide)]
def cN (g : Nat → Int32) (i : Nat) : Nat := (g i).toNatClampNeg
/-- the cards are cards -/
def cdOk (g : Nat → Int32) (m : Nat) : Prop := ∀ i, i < m → cN g i < 52 ∧ g i = nI (cN g i)
def seatF (u : rS) (t b bd m : Nat) : Nat := (ldF (gf u t) (stF (cf u t) b) ((dcN (cf u t) (bd % 4) b + 1) % 4) (m / 4) + m % 4) % 4
def mpF (u : rS) (t m s : Nat) (c : Int32) : Bool := isCd c && (hdF u t m (nI s) c && (decide (m % 4 = 0) || (decide (c / nI 13 = nI (cN (gf u t) (4 * (m / 4)) / 13)) || !(anyN (fun k => hdF u t m (nI s) (nI (13 * (cN (gf u t) (4 * (m / 4)) / 13) + k))) 13))))
set_option maxRecDepth 20000 in
theorem r_mayPlay_l {pr : aC} {d : Nat} {u u1 : rS} (t m nb s L : Nat) (c : Int32) (hS : rSame u u1) (ht : t < 10) (h0 : u.1 0 = nI nb) (hnb : nb ≤ 36) (hm0 : u.2 32 t = nI m) (hm52 : m ≤ 52) (hL : L < 4) {Q : Option Value → rS → Prop} (hQ : Q (some (.int (bI (!(anyN (fun k => hdF u t m (nI s) (nI (13 * L + k))) 13))))) u1) : ∀ (zz : Nat) (i : Nat) (hm : 13 - i < zz) (hle : i ≤ 13) (hinv : ∀ x, x < i → hdF u t m (nI s) (nI (13 * L + x)) = false), rB pr (d + 4) cd_192 (Option.some Jvm.ClassFile.FieldType.boolean) Q 47 [some (.ref 25), some (.int (nI t)), some (.int c), some (.int (nI s)), some (.int (nI L)), some (.int (nI (13 * L + i)))] [] u1 := by
  intro zz
  induction zz with
  | zero => intro i hm hle hinv; exact absurd hm (by omega)
  | succ zz ih =>
    intro i hm hle hinv
    refine g_load rfl rfl rfl trivial ?_
    refine g_bipush (nI 13) rfl (by decide) ?_
    refine g_load rfl rfl rfl trivial ?_
    refine g_imul rfl ?_
    refine g_bipush (nI 13) rfl (by decide) ?_
    refine g_iadd rfl ?_
    rw [pk_mul, nI_add]
    refine g_icmp_ge rfl (fun c1 => ?_) (fun c1 => ?_)
    · rw [nI_leI (by omega) (by omega)] at c1
      rw [anyN_f (fun x h => hinv x (by omega))] at hQ
      refine g_iconst (nI 1) rfl (by decide) ?_
      exact g_vret rfl trivial ⟨by decide, by decide⟩ (Nat.le_refl _) (Nat.le_refl _) hQ
    rw [nI_leI (by omega) (by omega)] at c1
    refine g_load rfl rfl rfl trivial ?_
    refine g_load rfl rfl rfl trivial ?_
    refine g_load rfl rfl rfl trivial ?_
    refine g_load rfl rfl rfl trivial ?_
    refine g_virtI (a := 25) (ci := 8) (n := 3) [.int (nI t), .int (nI s), .int (nI (13 * L + i))] rFr_tr rfl rfl (by decide) rfl r_this rfl (Nat.le_of_ble_eq_true rfl) (Nat.le_refl _) (Nat.le_refl _) (r_holds t m nb (nI s) (nI (13 * L + i)) ht (hS.1.trans h0) hnb (by rw [hS.2.2.2 32 (by decide)]; exact hm0) hm52 ⟨_, rfl, ?_⟩)
    refine g_if_eq rfl (fun c1 => ?_) (fun c1 => ?_)
    · rw [bI_eq, rSame_hd hS] at c1
      have hf := c1
      refine g_iinc (nI (13 * L + (i + 1))) [some (.ref 25), some (.int (nI t)), some (.int c), some (.int (nI s)), some (.int (nI L)), some (.int (nI (13 * L + (i + 1))))] rfl rfl (nI_1 (13 * L + i)) rfl ?_
      refine g_goto rfl ?_
      exact ih (i + 1) (by omega) (by omega) (fun x hx => by
        rcases Nat.lt_succ_iff_lt_or_eq.mp hx with h | h
        · exact hinv x h
        · exact h ▸ hf)
    · rw [bI_ne, rSame_hd hS] at c1
      rw [anyN_t (i := i) (by omega) c1] at hQ
      refine g_iconst (nI 0) rfl (by decide) ?_
      refine g_vret rfl trivial (by first | exact ⟨by decide, by decide⟩ | trivial) (Nat.le_refl _) (Nat.le_refl _) ?_
      exact hQ
set_option maxRecDepth 20000 in
theorem r_mayPlay_2 {pr : aC} {d : Nat} {u u1 : rS} (t m nb s : Nat) (c : Int32) (hS : rSame u u1) (h26 : u1.1 26 = nI (4 * (m / 4))) (ht : t < 10) (h0 : u.1 0 = nI nb) (hnb : nb ≤ 36) (hm0 : u.2 32 t = nI m) (hm52 : m ≤ 52) (hm4 : ¬ m % 4 = 0) (hck : cdOk (gf u t) m) {Q : Option Value → rS → Prop} (hQ : Q (some (.int (bI (decide (c / nI 13 = nI (cN (gf u t) (4 * (m / 4)) / 13)) || !(anyN (fun k => hdF u t m (nI s) (nI (13 * (cN (gf u t) (4 * (m / 4)) / 13) + k))) 13))))) u1) : rB pr (d + 4) cd_192 (Option.some Jvm.ClassFile.FieldType.boolean) Q 26 [some (.ref 25), some (.int (nI t)), some (.int c), some (.int (nI s)), none, none] [] u1 := by
  have hcd := hck (4 * (m / 4)) (by omega)
  refine g_load rfl rfl rfl trivial ?_
  refine r_getf rfl rfl ?_
  refine g_bipush (nI 52) rfl (by decide) ?_
  refine g_load rfl rfl rfl trivial ?_
  refine g_imul rfl ?_
  refine g_load rfl rfl rfl trivial ?_
  refine r_getf rfl rfl ?_
  refine g_iadd rfl ?_
  refine r_ia (52 * t + 4 * (m / 4)) rfl ⟨by decide, by decide, rfl⟩ (by rw [h26, pk_mul, nI_add]) (by show _ < 520; omega) ?_
  rw [show u1.2 34 (52 * t + 4 * (m / 4)) = nI (cN (gf u t) (4 * (m / 4))) by rw [← hcd.2, hS.2.2.2 34 (by decide)]; rfl]
  refine g_statI [.int (nI (cN (gf u t) (4 * (m / 4))))] rFr_tr rfl rfl rfl (Nat.le_of_ble_eq_true rfl) (Nat.le_refl _) (Nat.le_refl _) (r_suit (nI (cN (gf u t) (4 * (m / 4)))) ⟨_, rfl, ?_⟩)
  rw [pk_div (by omega) (by omega) (by omega)]
  refine g_store [some (.ref 25), some (.int (nI t)), some (.int c), some (.int (nI s)), some (.int (nI (cN (gf u t) (4 * (m / 4)) / 13))), none] rfl rfl trivial (Nat.le_of_ble_eq_true rfl) rfl ?_
  refine g_load rfl rfl rfl trivial ?_
  refine g_statI [.int c] rFr_tr rfl rfl rfl (Nat.le_of_ble_eq_true rfl) (Nat.le_refl _) (Nat.le_refl _) (r_suit c ⟨_, rfl, ?_⟩)
  refine g_load rfl rfl rfl trivial ?_
  refine g_icmp_ne rfl (fun c1 => ?_) (fun c1 => ?_)
  · rw [decide_eq_false c1, Bool.false_or] at hQ
    refine g_bipush (nI 13) rfl (by decide) ?_
    refine g_load rfl rfl rfl trivial ?_
    refine g_imul rfl ?_
    rw [pk_mul]
    refine g_store [some (.ref 25), some (.int (nI t)), some (.int c), some (.int (nI s)), some (.int (nI (cN (gf u t) (4 * (m / 4)) / 13))), some (.int (nI (13 * (cN (gf u t) (4 * (m / 4)) / 13) + 0)))] rfl rfl trivial (Nat.le_of_ble_eq_true rfl) rfl ?_
    exact r_mayPlay_l t m nb s (cN (gf u t) (4 * (m / 4)) / 13) c hS ht h0 hnb hm0 hm52 (by omega) hQ 14 0 (by omega) (by omega) (fun x h => absurd h (by omega))
  · rw [decide_eq_true c1, Bool.true_or] at hQ
    refine g_iconst (nI 1) rfl (by decide) ?_
    refine g_vret rfl trivial (by first | exact ⟨by decide, by decide⟩ | trivial) (Nat.le_refl _) (Nat.le_refl _) ?_
    exact hQ
set_option maxRecDepth 20000 in
theorem r_mayPlay {pr : aC} {d : Nat} {u : rS} (t n b bd m : Nat) (ht : t < 10) (hc : u.2 31 t = nI n) (hn : n ≤ 340) (hb : last ge3 (cf u t) n = some b) (hbd : u.2 29 t = nI (bd + 1)) (hbd2 : bd < 36) (hm0 : u.2 32 t = nI m) (hm52 : m ≤ 52) (nb : Nat) (c : Int32) (h0 : u.1 0 = nI nb) (hnb : nb ≤ 36) (hph : ¬ u.2 28 t = nI 1) (hck : cdOk (gf u t) m) {Q : Option Value → rS → Prop} (hQ : ∀ u1, rSame u u1 → Q (some (.int (bI (mpF u t m (seatF u t b bd m) c)))) u1) : rR pr (d + 6 + 1) 192 [.ref 25, .int (nI t), .int c] u Q := by
  refine gR_of mi_192 rFr_rf rfl (Nat.le_of_ble_eq_true rfl) ?_
  show rB pr (d + 6) cd_192 (Option.some Jvm.ClassFile.FieldType.boolean) Q 0 [some (.ref 25), some (.int (nI t)), some (.int c), none, none, none] [] u
  refine g_load rfl rfl rfl trivial ?_
  refine g_statI [.int c] rFr_tr rfl rfl rfl (Nat.le_of_ble_eq_true rfl) (Nat.le_refl _) (Nat.le_refl _) (r_isCard c ⟨_, rfl, ?_⟩)
  refine g_if_ne rfl (fun c1 => ?_) (fun c1 => ?_)
  · rw [bI_ne] at c1
    refine g_load rfl rfl rfl trivial ?_
    refine g_load rfl rfl rfl trivial ?_
    refine g_virtI (a := 25) (ci := 8) (n := 1) [.int (nI t)] rFr_tr rfl rfl (by decide) rfl r_this rfl (Nat.le_of_ble_eq_true rfl) (Nat.le_refl _) (Nat.le_refl _) (r_turn_p t n b bd m ht hc hn hb hbd hbd2 hm0 hm52 hph (fun u1 hS hG => ⟨_, rfl, ?_⟩))
    refine g_store [some (.ref 25), some (.int (nI t)), some (.int c), some (.int (nI (seatF u t b bd m))), none, none] rfl rfl trivial (Nat.le_of_ble_eq_true rfl) rfl ?_
    refine g_load rfl rfl rfl trivial ?_
    refine g_load rfl rfl rfl trivial ?_
    refine g_load rfl rfl rfl trivial ?_
    refine g_load rfl rfl rfl trivial ?_
    refine g_virtI (a := 25) (ci := 8) (n := 3) [.int (nI t), .int (nI (seatF u t b bd m)), .int c] rFr_tr rfl rfl (by decide) rfl r_this rfl (Nat.le_of_ble_eq_true rfl) (Nat.le_refl _) (Nat.le_refl _) (r_holds t m nb (nI (seatF u t b bd m)) c ht (hS.1.trans h0) hnb (by rw [hS.2.2.2 32 (by decide)]; exact hm0) hm52 ⟨_, rfl, ?_⟩)
    refine g_if_ne rfl (fun c2 => ?_) (fun c2 => ?_)
    · rw [bI_ne, rSame_hd hS] at c2
      refine g_load rfl rfl rfl trivial ?_
      refine r_getf rfl rfl ?_
      refine g_load rfl rfl rfl trivial ?_
      refine r_getf rfl rfl ?_
      refine g_load rfl rfl rfl trivial ?_
      refine r_ia (t) rfl ⟨by decide, by decide, rfl⟩ rfl (by show _ < 10; omega) ?_
      rw [hS.2.2.2 32 (by decide), hm0, hG.2.1]
      have hQ := hQ u1 hS
      unfold mpF at hQ
      rw [c1, c2, Bool.true_and, Bool.true_and] at hQ
      refine g_icmp_ne rfl (fun c3 => ?_) (fun c3 => ?_)
      · rw [nI_eq (by omega) (by omega)] at c3
        have hm4 : ¬ m % 4 = 0 := by omega
        rw [decide_eq_false hm4, Bool.false_or] at hQ
        exact r_mayPlay_2 t m nb (seatF u t b bd m) c hS hG.2.1 ht h0 hnb hm0 hm52 hm4 hck hQ
      · rw [nI_eq (by omega) (by omega)] at c3
        have hm4 : m % 4 = 0 := by omega
        rw [decide_eq_true hm4, Bool.true_or] at hQ
        refine g_iconst (nI 1) rfl (by decide) ?_
        exact g_vret rfl trivial ⟨by decide, by decide⟩ (Nat.le_refl _) (Nat.le_refl _) hQ
    · rw [bI_eq, rSame_hd hS] at c2
      have hQ := hQ u1 hS
      rw [show mpF u t m (seatF u t b bd m) c = false by unfold mpF; rw [c1, c2]; rfl] at hQ
      refine g_iconst (nI 0) rfl (by decide) ?_
      refine g_vret rfl trivial (by first | exact ⟨by decide, by decide⟩ | trivial) (Nat.le_refl _) (Nat.le_refl _) ?_
      exact hQ
  · rw [bI_eq] at c1
    have hQ := hQ u (rSame.rf u)
    rw [show mpF u t m (seatF u t b bd m) c = false by unfold mpF; rw [c1]; rfl] at hQ
    refine g_iconst (nI 0) rfl (by decide) ?_
    refine g_vret rfl trivial (by first | exact ⟨by decide, by decide⟩ | trivial) (Nat.le_refl _) (Nat.le_refl _) ?_
    exact hQ
/-- call i, card i of what is played at a table -/
def clF (u : rS) (t i : Int32) : Int32 := if ¬ phF u t = 0 ∧ inF i 0 (u.2 31 t.toNatClampNeg - nI 1) = true then u.2 33 (340 * t.toNatClampNeg + i.toNatClampNeg) else -1
def plF (u : rS) (t i : Int32) : Int32 := if ¬ phF u t = 0 ∧ inF i 0 (u.2 32 t.toNatClampNeg - nI 1) = true then u.2 34 (52 * t.toNatClampNeg + i.toNatClampNeg) else -1
theorem in_pI {i : Int32} {n : Nat} (h : inF i 0 (pI n) = true) (hn : n < 2 ^ 31) : ∃ j, j < n ∧ i = nI j := by
  simp only [inF, Bool.and_eq_true, decide_eq_true_eq, Int32.le_iff_toInt_le, show (0 : Int32).toInt = 0 by decide] at h
  obtain ⟨j, hj, rfl⟩ := nI_of (x := i) (by rw [Int32.lt_iff_toInt_lt, show (0 : Int32).toInt = 0 by decide]; omega)
  rw [nI_toInt hj] at h
  cases n with
  | zero => have : (pI 0).toInt = -1 := by decide
            omega
  | succ n =>
    rw [show pI (n + 1) = nI n from rfl, nI_toInt (by omega)] at h
    exact ⟨j, by omega, rfl⟩
set_option maxRecDepth 20000 in
theorem r_called {pr : aC} {d : Nat} {u : rS} (t i : Int32) (hN : ∀ t', t' < 10 → ¬ u.2 28 t' = 0 → ∃ n, n ≤ 340 ∧ u.2 31 t' = nI n) {Q : Option Value → rS → Prop} (hQ : Q (some (.int (clF u t i))) u) : rR pr (d + 2 + 1) 199 [.ref 25, .int t, .int i] u Q := by
  refine gR_of mi_199 rFr_rf rfl (Nat.le_of_ble_eq_true rfl) ?_
  show rB pr (d + 2) cd_199 (Option.some Jvm.ClassFile.FieldType.int) Q 0 [some (.ref 25), some (.int t), some (.int i)] [] u
  refine g_load rfl rfl rfl trivial ?_
  refine g_load rfl rfl rfl trivial ?_
  refine g_virtI (a := 25) (ci := 8) (n := 1) [.int t] rFr_tr rfl rfl (by decide) rfl r_this rfl (Nat.le_of_ble_eq_true rfl) (Nat.le_refl _) (Nat.le_refl _) (r_phaseOf t ⟨_, rfl, ?_⟩)
  refine g_if_eq rfl (fun c1 => ?_) (fun c1 => ?_)
  · rw [show clF u t i = -1 by unfold clF; rw [if_neg (fun q => q.1 c1)]] at hQ
    refine g_iconst (-1) rfl (by decide) ?_
    refine g_vret rfl trivial ⟨rfl, rfl⟩ (Nat.le_refl _) (Nat.le_refl _) ?_
    exact hQ
  · obtain ⟨t', ht, rfl⟩ := ph_of c1
    obtain ⟨n, hn, hc⟩ := hN t' ht (by rw [← phF_t ht]; exact c1)
    refine g_load rfl rfl rfl trivial ?_
    refine g_iconst (nI 0) rfl (by decide) ?_
    refine g_load rfl rfl rfl trivial ?_
    refine r_getf rfl rfl ?_
    refine g_load rfl rfl rfl trivial ?_
    refine r_ia (t') rfl ⟨by decide, by decide, rfl⟩ rfl (by show _ < 10; omega) ?_
    refine g_iconst (nI 1) rfl (by decide) ?_
    refine g_isub rfl ?_
    rw [hc, pI_eq]
    refine g_statI [.int i, .int (nI 0), .int (pI n)] rFr_tr rfl rfl rfl (Nat.le_of_ble_eq_true rfl) (Nat.le_refl _) (Nat.le_refl _) (r_in i 0 (pI n) ⟨_, rfl, ?_⟩)
    refine g_if_eq rfl (fun c2 => ?_) (fun c2 => ?_)
    · rw [bI_eq] at c2
      rw [show clF u (nI t') i = -1 by unfold clF; rw [nI_clamp (by omega), hc, pI_eq, c2]; simp] at hQ
      refine g_iconst (-1) rfl (by decide) ?_
      refine g_vret rfl trivial ⟨rfl, rfl⟩ (Nat.le_refl _) (Nat.le_refl _) ?_
      exact hQ
    · rw [bI_ne] at c2
      obtain ⟨i', hi, rfl⟩ := in_pI c2 (by omega)
      rw [show clF u (nI t') (nI i') = u.2 33 (340 * t' + i') by unfold clF; rw [nI_clamp (by omega), hc, pI_eq, if_pos ⟨c1, c2⟩, nI_clamp (by omega)]] at hQ
      refine g_load rfl rfl rfl trivial ?_
      refine g_load rfl rfl rfl trivial ?_
      refine g_load rfl rfl rfl trivial ?_
      refine g_virtI (a := 25) (ci := 8) (n := 2) [(.int (nI t')), (.int (nI i'))] rFr_tr rfl rfl (by decide) rfl r_this rfl (Nat.le_of_ble_eq_true rfl) (Nat.le_refl _) (Nat.le_refl _) (r_callAt t' i' ht (by omega) ⟨_, rfl, ?_⟩)
      refine g_goto rfl ?_
      refine g_vret rfl trivial ⟨rfl, rfl⟩ (Nat.le_refl _) (Nat.le_refl _) ?_
      exact hQ
set_option maxRecDepth 20000 in
theorem r_played {pr : aC} {d : Nat} {u : rS} (t i : Int32) (hN : ∀ t', t' < 10 → ¬ u.2 28 t' = 0 → ∃ n, n ≤ 52 ∧ u.2 32 t' = nI n) {Q : Option Value → rS → Prop} (hQ : Q (some (.int (plF u t i))) u) : rR pr (d + 2 + 1) 200 [.ref 25, .int t, .int i] u Q := by
  refine gR_of mi_200 rFr_rf rfl (Nat.le_of_ble_eq_true rfl) ?_
  show rB pr (d + 2) cd_200 (Option.some Jvm.ClassFile.FieldType.int) Q 0 [some (.ref 25), some (.int t), some (.int i)] [] u
  refine g_load rfl rfl rfl trivial ?_
  refine g_load rfl rfl rfl trivial ?_
  refine g_virtI (a := 25) (ci := 8) (n := 1) [.int t] rFr_tr rfl rfl (by decide) rfl r_this rfl (Nat.le_of_ble_eq_true rfl) (Nat.le_refl _) (Nat.le_refl _) (r_phaseOf t ⟨_, rfl, ?_⟩)
  refine g_if_eq rfl (fun c1 => ?_) (fun c1 => ?_)
  · rw [show plF u t i = -1 by unfold plF; rw [if_neg (fun q => q.1 c1)]] at hQ
    refine g_iconst (-1) rfl (by decide) ?_
    refine g_vret rfl trivial ⟨rfl, rfl⟩ (Nat.le_refl _) (Nat.le_refl _) ?_
    exact hQ
  · obtain ⟨t', ht, rfl⟩ := ph_of c1
    obtain ⟨n, hn, hc⟩ := hN t' ht (by rw [← phF_t ht]; exact c1)
    refine g_load rfl rfl rfl trivial ?_
    refine g_iconst (nI 0) rfl (by decide) ?_
    refine g_load rfl rfl rfl trivial ?_
    refine r_getf rfl rfl ?_
    refine g_load rfl rfl rfl trivial ?_
    refine r_ia (t') rfl ⟨by decide, by decide, rfl⟩ rfl (by show _ < 10; omega) ?_
    refine g_iconst (nI 1) rfl (by decide) ?_
    refine g_isub rfl ?_
    rw [hc, pI_eq]
    refine g_statI [.int i, .int (nI 0), .int (pI n)] rFr_tr rfl rfl rfl (Nat.le_of_ble_eq_true rfl) (Nat.le_refl _) (Nat.le_refl _) (r_in i 0 (pI n) ⟨_, rfl, ?_⟩)
    refine g_if_eq rfl (fun c2 => ?_) (fun c2 => ?_)
    · rw [bI_eq] at c2
      rw [show plF u (nI t') i = -1 by unfold plF; rw [nI_clamp (by omega), hc, pI_eq, c2]; simp] at hQ
      refine g_iconst (-1) rfl (by decide) ?_
      refine g_vret rfl trivial ⟨rfl, rfl⟩ (Nat.le_refl _) (Nat.le_refl _) ?_
      exact hQ
    · rw [bI_ne] at c2
      obtain ⟨i', hi, rfl⟩ := in_pI c2 (by omega)
      rw [show plF u (nI t') (nI i') = u.2 34 (52 * t' + i') by unfold plF; rw [nI_clamp (by omega), hc, pI_eq, if_pos ⟨c1, c2⟩, nI_clamp (by omega)]] at hQ
      refine g_load rfl rfl rfl trivial ?_
      refine r_getf rfl rfl ?_
      refine g_bipush (nI 52) rfl (by decide) ?_
      refine g_load rfl rfl rfl trivial ?_
      refine g_imul rfl ?_
      refine g_load rfl rfl rfl trivial ?_
      refine g_iadd rfl ?_
      refine r_ia (52 * t' + i') rfl ⟨by decide, by decide, rfl⟩ (by rw [pk_mul, nI_add]) (by show _ < 520; omega) ?_
      refine g_goto rfl ?_
      refine g_vret rfl trivial ⟨rfl, rfl⟩ (Nat.le_refl _) (Nat.le_refl _) ?_
      exact hQ
