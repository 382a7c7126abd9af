/-! ===== the reference: play, lacks, table ===== -/
def playedP (u v : rS) (t m : Nat) (c : Int32) : Prop := v.1 0 = u.1 0 ∧ v.1 1 = u.1 1 ∧ v.1 22 = u.1 22 ∧ (∀ a, a < 46 → a ≠ 34 → a ≠ 32 → v.2 a = u.2 a) ∧ v.2 34 = upd (u.2 34) (52 * t + m) c ∧ v.2 32 = upd (u.2 32) t (nI (m + 1))
def plOk (u : rS) (t c : Int32) : Prop := phF u t = nI 2 ∧ mpF u t.toNatClampNeg (mC u t.toNatClampNeg) (seatF u t.toNatClampNeg (bB u t.toNatClampNeg) (bD u t.toNatClampNeg) (mC u t.toNatClampNeg)) c = true
def wonF (u : rS) (t b bd j : Nat) : Nat := wnF (gf u t) (stF (cf u t) b) ((dcN (cf u t) (bd % 4) b + 1) % 4) (dcN (cf u t) (bd % 4) b % 2) j
theorem won_at {u1 : rS} {g : Nat → Int32} {tr : Int32} {l0 j D : Nat} (h : gtAt u1 g tr l0 j) : u1.2 47 (D % 2) = nI (wnF g tr l0 (D % 2) j) := by
  rcases (show D % 2 = 0 ∨ D % 2 = 1 by omega) with e | e <;> rw [e]
  · exact h.2.2.1
  · exact h.2.2.2
set_option maxRecDepth 20000 in
theorem r_play {pr : aC} {d : Nat} {u : rS} (t c : Int32) (nb nr : Nat) (hk : rOkT u nb) (h1 : u.1 1 = nI nr) (hnr : nr < 220) {Q : Option Value → rS → Prop} (hF : ¬ plOk u t c → ∀ u1, rSame u u1 → Q (some (.int (-1))) u1) (hT : ∀ t' v, t' < 10 → t = nI t' → plOk u t c → playedP u v t' (mC u t') c → (¬ (mC u t' + 1) % 4 = 0 → Q (some (.int 0)) v) ∧ ((mC u t' + 1) % 4 = 0 → mC u t' + 1 < 52 → Q (some (.int 1)) v) ∧ (mC u t' + 1 = 52 → ∀ v1 w, rSame v v1 → ended v1 w t' nr (recC v1 t' (nC u t') (bB u t') (bD u t') (wonF v t' (bB u t') (bD u t') 13)) → Q (some (.int 2)) w)) : rR pr (d + 7 + 1) 193 [.ref 25, .int t, .int c] u Q := by
  refine gR_of mi_193 rFr_rf rfl (Nat.le_of_ble_eq_true rfl) ?_
  show rB pr (d + 7) cd_193 (Option.some Jvm.ClassFile.FieldType.int) Q 0 [some (.ref 25), some (.int t), some (.int c)] [] u
  refine g_load rfl rfl rfl trivial ?_
  refine g_load rfl rfl rfl trivial ?_
  refine g_virtI (a := 25) (ci := 8) (n := 1) [.int t] rFr_tr rfl rfl (by decide) rfl r_this rfl (Nat.le_of_ble_eq_true rfl) (Nat.le_refl _) (Nat.le_refl _) (r_phaseOf t ⟨_, rfl, ?_⟩)
  refine g_iconst (nI 2) rfl (by decide) ?_
  refine g_icmp_ne rfl (fun c1 => ?_) (fun c1 => ?_)
  · have hQ := hF (fun q => c1 q.1) u (rSame.rf u)
    refine g_iconst (-1) rfl (by decide) ?_
    refine g_vret rfl trivial ⟨rfl, rfl⟩ (Nat.le_refl _) (Nat.le_refl _) ?_
    exact hQ
  · obtain ⟨t', ht, rfl⟩ := ph_of (by rw [c1]; decide)
    obtain ⟨a1, a2, a3, a4, a5, a6, a7, a8⟩ := (hk.2.2 t' ht).resolve_left (fun q => absurd (c1.symm.trans ((phF_t ht).trans q)) (by decide))
    have e0 : (nI t').toNatClampNeg = t' := nI_clamp (by omega)
    have hnb := hk.2.1
    have a9 := a8.resolve_left (fun q => absurd (((phF_t ht).symm.trans c1).symm.trans q.1) (by decide))
    have hp1 : ¬ u.2 28 t' = nI 1 := by rw [a9.1]; decide
    refine g_load rfl rfl rfl trivial ?_
    refine g_load rfl rfl rfl trivial ?_
    refine g_load rfl rfl rfl trivial ?_
    refine g_virtI (a := 25) (ci := 8) (n := 2) [.int (nI t'), .int c] rFr_tr rfl rfl (by decide) rfl r_this rfl (Nat.le_of_ble_eq_true rfl) (Nat.le_refl _) (Nat.le_refl _) (r_mayPlay t' (nC u t') (bB u t') (bD u t') (mC u t') ht a3 (by omega) a9.2 a1 (by omega) a5 (by omega) nb c hk.1 hk.2.1 hp1 a7 (fun u1 hS => ⟨_, rfl, ?_⟩))
    refine g_if_ne rfl (fun c2 => ?_) (fun c2 => ?_)
    · rw [bI_ne] at c2
      have hok : plOk u (nI t') c := ⟨c1, by rw [e0]; exact c2⟩
      have h32 : u1.2 32 t' = nI (mC u t') := by rw [hS.2.2.2 32 (by decide)]; exact a5
      refine g_load rfl rfl rfl trivial ?_
      refine r_getf rfl rfl ?_
      refine g_bipush (nI 52) rfl (by decide) ?_
      refine g_load rfl rfl rfl trivial ?_
      refine g_imul rfl ?_
      refine g_load rfl rfl rfl trivial ?_
      refine r_getf rfl rfl ?_
      refine g_load rfl rfl rfl trivial ?_
      refine r_ia (t') rfl ⟨by decide, by decide, rfl⟩ rfl (by show _ < 10; omega) ?_
      rw [h32]
      refine g_iadd rfl ?_
      refine g_load rfl rfl rfl trivial ?_
      refine r_iasv (52 * t' + mC u t') rfl ⟨by decide, by decide, rfl⟩ (by rw [pk_mul, nI_add]) (by show _ < 520; omega) (fun v1 xa1 xb1 xc1 xd1 => ?_)
      refine g_load rfl rfl rfl trivial ?_
      refine r_getf rfl rfl ?_
      refine g_load rfl rfl rfl trivial ?_
      refine g_dup2 rfl rfl rfl ?_
      refine r_ia (t') rfl ⟨by decide, by decide, rfl⟩ rfl (by show _ < 10; omega) ?_
      rw [xb1 32 (by decide), h32]
      refine g_iconst (nI 1) rfl (by decide) ?_
      refine g_iadd rfl ?_
      rw [nI_add]
      refine r_iasv (t') rfl ⟨by decide, by decide, rfl⟩ rfl (by show _ < 10; omega) (fun v2 xa2 xb2 xc2 xd2 => ?_)
      have hP : playedP u v2 t' (mC u t') c := ⟨by rw [xa2, xa1]; exact hS.1, by rw [xa2, xa1]; exact hS.2.1, by rw [xa2, xa1]; exact hS.2.2.1, fun a ha h34 h32 => by rw [xb2 a h32, xb1 a h34]; exact hS.2.2.2 a ha, by rw [xb2 34 (by decide), upd_of xc1 xd1, hS.2.2.2 34 (by decide)], by rw [upd_of xc2 xd2, xb1 32 (by decide), hS.2.2.2 32 (by decide)]⟩
      obtain ⟨hT0, hT1, hT2⟩ := hT t' v2 ht rfl hok hP
      refine g_load rfl rfl rfl trivial ?_
      refine r_getf rfl rfl ?_
      refine g_load rfl rfl rfl trivial ?_
      refine r_ia (t') rfl ⟨by decide, by decide, rfl⟩ rfl (by show _ < 10; omega) ?_
      rw [xc2]
      refine g_iconst (nI 4) rfl (by decide) ?_
      refine g_irem rfl (by decide) ?_
      rw [pk_rem (by omega) (by omega) (by omega)]
      refine g_if_eq rfl (fun c3 => ?_) (fun c3 => ?_)
      · rw [← nI_0, nI_eq (by omega) (by omega)] at c3
        refine g_load rfl rfl rfl trivial ?_
        refine r_getf rfl rfl ?_
        refine g_load rfl rfl rfl trivial ?_
        refine r_ia (t') rfl ⟨by decide, by decide, rfl⟩ rfl (by show _ < 10; omega) ?_
        rw [xc2]
        refine g_bipush (nI 52) rfl (by decide) ?_
        refine g_icmp_ge rfl (fun c4 => ?_) (fun c4 => ?_)
        · rw [nI_leI (by omega) (by omega)] at c4
          have hQ := hT2 (by omega)
          have k31 : v2.2 31 t' = nI (nC u t') := by rw [hP.2.2.2.1 31 (by decide) (by decide) (by decide)]; exact a3
          have k29 : v2.2 29 t' = nI (bD u t' + 1) := by rw [hP.2.2.2.1 29 (by decide) (by decide) (by decide)]; exact a1
          have kcf : cf v2 t' = cf u t' := by unfold cf; rw [hP.2.2.2.1 33 (by decide) (by decide) (by decide)]
          have kl : last ge3 (cf v2 t') (nC u t') = some (bB u t') := by rw [kcf]; exact a9.2
          refine g_load rfl rfl rfl trivial ?_
          refine g_load rfl rfl rfl trivial ?_
          refine g_virtV (a := 25) (ci := 8) (n := 1) [.int (nI t')] rFr_tr rfl rfl (by decide) rfl r_this rfl (Nat.le_of_ble_eq_true rfl) (Nat.le_refl _) (Nat.le_refl _) (r_goThrough t' (nC u t') (bB u t') (bD u t') (mC u t' + 1) ht k31 (by omega) kl k29 (by omega) xc2 (by omega) (fun w1 hW hG => ⟨rfl, ?_⟩))
          have w31 : w1.2 31 t' = nI (nC u t') := by rw [hW.2.2.2 31 (by decide)]; exact k31
          have w29 : w1.2 29 t' = nI (bD u t' + 1) := by rw [hW.2.2.2 29 (by decide)]; exact k29
          have wl : last ge3 (cf w1 t') (nC u t') = some (bB u t') := by rw [rSame_cf hW]; exact kl
          obtain ⟨hd1, hd4⟩ := dcF_N (dl := bD u t' % 4) (last_lt wl).2
          refine g_load rfl rfl rfl trivial ?_
          refine g_load rfl rfl rfl trivial ?_
          refine g_load rfl rfl rfl trivial ?_
          refine r_getf rfl rfl ?_
          refine g_load rfl rfl rfl trivial ?_
          refine g_load rfl rfl rfl trivial ?_
          refine g_virtI (a := 25) (ci := 8) (n := 1) [(.int (nI t'))] rFr_tr rfl rfl (by decide) rfl r_this rfl (Nat.le_of_ble_eq_true rfl) (Nat.le_refl _) (Nat.le_refl _) (r_declarer t' (nC u t') (bB u t') (bD u t') ht w31 (by omega) wl w29 (by omega) ⟨_, rfl, ?_⟩)
          rw [hd1]
          refine g_iconst (nI 2) rfl (by decide) ?_
          refine g_irem rfl (by decide) ?_
          rw [pk_rem (by omega) (by omega) (by omega)]
          refine r_ia (dcN (cf w1 t') (bD u t' % 4) (bB u t') % 2) rfl ⟨by decide, by decide, rfl⟩ rfl (by show _ < 2; omega) ?_
          rw [won_at hG, rSame_cf hW, show (mC u t' + 1) / 4 = 13 by omega]
          have hwl := wnF_le (gf v2 t') (stF (cf v2 t') (bB u t')) ((dcN (cf v2 t') (bD u t' % 4) (bB u t') + 1) % 4) (dcN (cf v2 t') (bD u t' % 4) (bB u t') % 2) 13
          refine g_virtV (a := 25) (ci := 8) (n := 2) [.int (nI t'), .int (nI (wonF v2 t' (bB u t') (bD u t') 13))] rFr_tr rfl rfl (by decide) rfl r_this rfl (Nat.le_of_ble_eq_true rfl) (Nat.le_refl _) (Nat.le_refl _) (r_ends_c t' ht nr (by rw [hW.2.1, hP.2.1]; exact h1) hnr (nC u t') (bB u t') (bD u t') (wonF v2 t' (bB u t') (bD u t') 13) w31 (by omega) wl w29 (by omega) (by unfold wonF; omega) (fun w hw => ⟨rfl, ?_⟩))
          have hQ := hQ w1 w hW hw
          refine g_iconst (nI 2) rfl (by decide) ?_
          refine g_vret rfl trivial ⟨rfl, rfl⟩ (Nat.le_refl _) (Nat.le_refl _) ?_
          exact hQ
        · rw [nI_leI (by omega) (by omega)] at c4
          have hQ := hT1 (by omega) (by omega)
          refine g_iconst (nI 1) rfl (by decide) ?_
          refine g_vret rfl trivial ⟨rfl, rfl⟩ (Nat.le_refl _) (Nat.le_refl _) ?_
          exact hQ
      · rw [← nI_0, nI_eq (by omega) (by omega)] at c3
        have hQ := hT0 c3
        refine g_iconst (nI 0) rfl (by decide) ?_
        refine g_vret rfl trivial ⟨rfl, rfl⟩ (Nat.le_refl _) (Nat.le_refl _) ?_
        exact hQ
    · rw [bI_eq] at c2
      have hQ := hF (fun q => absurd q.2 (by rw [e0, c2]; decide)) u1 hS
      refine g_iconst (-1) rfl (by decide) ?_
      refine g_vret rfl trivial ⟨rfl, rfl⟩ (Nat.le_refl _) (Nat.le_refl _) ?_
      exact hQ
def laQ (u : rS) (t : Nat) (s q : Int32) (k : Nat) : Bool := decide (handF u (u.2 29 t) (gf u t k) = s ∧ gf u t (k - k % 4) / nI 13 = q ∧ ¬ gf u t k / nI 13 = q)
def laF (u : rS) (t s q : Int32) : Bool := decide (phF u t = nI 2) && (inF s 0 3 && (inF q 0 3 && anyN (laQ u t.toNatClampNeg s q) (mC u t.toNatClampNeg)))
set_option maxRecDepth 20000 in
theorem r_lacks_l {pr : aC} {d : Nat} {u : rS} (t' m nb : Nat) (s q : Int32) (ht : t' < 10) (h0 : u.1 0 = nI nb) (hnb : nb ≤ 36) (hm0 : u.2 32 t' = nI m) (hm52 : m < 52) {Q : Option Value → rS → Prop} (hQ : Q (some (.int (bI (anyN (laQ u t' s q) m)))) u) : ∀ (zz : Nat) (x : Nat) (l5 : Option Value) (hinv : ∀ y, y < x → laQ u t' s q y = false) (hm : m - x < zz) (hle : x ≤ m), rB pr (d + 3) cd_203 (Option.some Jvm.ClassFile.FieldType.boolean) Q 19 [some (.ref 25), some ((.int (nI t'))), some (.int s), some (.int q), some (.int (nI x)), l5] [] u := by
  intro zz
  induction zz with
  | zero => intro x l5 hinv hm hle; exact absurd hm (by omega)
  | succ zz ih =>
    intro x l5 hinv hm hle
    refine g_load rfl rfl rfl trivial ?_
    refine g_load rfl rfl rfl trivial ?_
    refine r_getf rfl rfl ?_
    refine g_load rfl rfl rfl trivial ?_
    refine r_ia (t') rfl ⟨by decide, by decide, rfl⟩ rfl (by show _ < 10; omega) ?_
    rw [hm0]
    refine g_icmp_ge rfl (fun c1 => ?_) (fun c1 => ?_)
    · rw [nI_leI (by omega) (by omega)] at c1
      rw [anyN_f (fun y h => hinv y (by omega))] at hQ
      refine g_iconst (nI 0) rfl (by decide) ?_
      refine g_vret rfl trivial (by first | exact ⟨by decide, by decide⟩ | trivial) (Nat.le_refl _) (Nat.le_refl _) ?_
      exact hQ
    · rw [nI_leI (by omega) (by omega)] at c1
      refine g_load rfl rfl rfl trivial ?_
      refine r_getf rfl rfl ?_
      refine g_bipush (nI 52) rfl (by decide) ?_
      refine g_load rfl rfl rfl trivial ?_
      refine g_imul rfl ?_
      refine g_load rfl rfl rfl trivial ?_
      refine g_iadd rfl ?_
      refine r_ia (52 * t' + x) rfl ⟨by decide, by decide, rfl⟩ (by rw [pk_mul, nI_add]) (by show _ < 520; omega) ?_
      refine g_store [some (.ref 25), some ((.int (nI t'))), some (.int s), some (.int q), some (.int (nI x)), some ((.int (gf u t' x)))] rfl rfl trivial (Nat.le_of_ble_eq_true rfl) rfl ?_
      refine g_load rfl rfl rfl trivial ?_
      refine g_load rfl rfl rfl trivial ?_
      refine r_getf rfl rfl ?_
      refine g_load rfl rfl rfl trivial ?_
      refine r_ia (t') rfl ⟨by decide, by decide, rfl⟩ rfl (by show _ < 10; omega) ?_
      refine g_load rfl rfl rfl trivial ?_
      refine g_virtI (a := 25) (ci := 8) (n := 2) [(.int (u.2 29 t')), (.int (gf u t' x))] rFr_tr rfl rfl (by decide) rfl r_this rfl (Nat.le_of_ble_eq_true rfl) (Nat.le_refl _) (Nat.le_refl _) (r_hand (u.2 29 t') (gf u t' x) nb h0 hnb ⟨_, rfl, ?_⟩)
      refine g_load rfl rfl rfl trivial ?_
      refine g_icmp_ne rfl (fun c2 => ?_) (fun c2 => ?_)
      · have hf : laQ u t' s q x = false := decide_eq_false (fun z => c2 z.1)
        refine g_iinc (nI (x + 1)) [some (.ref 25), some ((.int (nI t'))), some (.int s), some (.int q), some (.int (nI (x + 1))), some ((.int (gf u t' x)))] rfl rfl (nI_1 x) rfl ?_
        refine g_goto rfl ?_
        exact ih (x + 1) _ (fun y hy => by
          rcases Nat.lt_succ_iff_lt_or_eq.mp hy with h | h
          · exact hinv y h
          · exact h ▸ hf) (by omega) (by omega)
      · have g1 := c2
        refine g_load rfl rfl rfl trivial ?_
        refine r_getf rfl rfl ?_
        refine g_bipush (nI 52) rfl (by decide) ?_
        refine g_load rfl rfl rfl trivial ?_
        refine g_imul rfl ?_
        refine g_load rfl rfl rfl trivial ?_
        refine g_iadd rfl ?_
        refine g_load rfl rfl rfl trivial ?_
        refine g_iconst (nI 4) rfl (by decide) ?_
        refine g_irem rfl (by decide) ?_
        rw [pk_mul, nI_add, pk_rem (by omega) (by omega) (by omega)]
        refine g_isub rfl ?_
        rw [pk_sub (by omega)]
        refine r_ia (52 * t' + (x - x % 4)) rfl ⟨by decide, by decide, rfl⟩ (by congr 1; omega) (by show _ < 520; omega) ?_
        change gB RF rFr _ _ _ _ _ _ _ _ [.int (gf u t' (x - x % 4))] _ _ _
        refine g_statI [(.int (gf u t' (x - x % 4)))] rFr_tr rfl rfl rfl (Nat.le_of_ble_eq_true rfl) (Nat.le_refl _) (Nat.le_refl _) (r_suit (gf u t' (x - x % 4)) ⟨_, rfl, ?_⟩)
        refine g_load rfl rfl rfl trivial ?_
        refine g_icmp_ne rfl (fun c3 => ?_) (fun c3 => ?_)
        · have hf : laQ u t' s q x = false := decide_eq_false (fun z => c3 z.2.1)
          refine g_iinc (nI (x + 1)) [some (.ref 25), some ((.int (nI t'))), some (.int s), some (.int q), some (.int (nI (x + 1))), some ((.int (gf u t' x)))] rfl rfl (nI_1 x) rfl ?_
          refine g_goto rfl ?_
          exact ih (x + 1) _ (fun y hy => by
            rcases Nat.lt_succ_iff_lt_or_eq.mp hy with h | h
            · exact hinv y h
            · exact h ▸ hf) (by omega) (by omega)
        · have g2 := c3
          refine g_load rfl rfl rfl trivial ?_
          refine g_statI [(.int (gf u t' x))] rFr_tr rfl rfl rfl (Nat.le_of_ble_eq_true rfl) (Nat.le_refl _) (Nat.le_refl _) (r_suit (gf u t' x) ⟨_, rfl, ?_⟩)
          refine g_load rfl rfl rfl trivial ?_
          refine g_icmp_eq rfl (fun c4 => ?_) (fun c4 => ?_)
          · have hf : laQ u t' s q x = false := decide_eq_false (fun z => z.2.2 c4)
            refine g_iinc (nI (x + 1)) [some (.ref 25), some ((.int (nI t'))), some (.int s), some (.int q), some (.int (nI (x + 1))), some ((.int (gf u t' x)))] rfl rfl (nI_1 x) rfl ?_
            refine g_goto rfl ?_
            exact ih (x + 1) _ (fun y hy => by
              rcases Nat.lt_succ_iff_lt_or_eq.mp hy with h | h
              · exact hinv y h
              · exact h ▸ hf) (by omega) (by omega)
          · rw [anyN_t (i := x) (by omega) (show laQ u t' s q x = true from decide_eq_true ⟨g1, g2, c4⟩)] at hQ
            refine g_iconst (nI 1) rfl (by decide) ?_
            refine g_vret rfl trivial (by first | exact ⟨by decide, by decide⟩ | trivial) (Nat.le_refl _) (Nat.le_refl _) ?_
            exact hQ
set_option maxRecDepth 20000 in
theorem r_lacks {pr : aC} {d : Nat} {u : rS} (t s q : Int32) (nb : Nat) (hk : rOkT u nb) {Q : Option Value → rS → Prop} (hQ : Q (some (.int (bI (laF u t s q)))) u) : rR pr (d + 3 + 1) 203 [.ref 25, .int t, .int s, .int q] u Q := by
  refine gR_of mi_203 rFr_rf rfl (Nat.le_of_ble_eq_true rfl) ?_
  show rB pr (d + 3) cd_203 (Option.some Jvm.ClassFile.FieldType.boolean) Q 0 [some (.ref 25), some (.int t), some (.int s), some (.int q), none, none] [] u
  refine g_load rfl rfl rfl trivial ?_
  refine g_load rfl rfl rfl trivial ?_
  refine g_virtI (a := 25) (ci := 8) (n := 1) [.int t] rFr_tr rfl rfl (by decide) rfl r_this rfl (Nat.le_of_ble_eq_true rfl) (Nat.le_refl _) (Nat.le_refl _) (r_phaseOf t ⟨_, rfl, ?_⟩)
  refine g_iconst (nI 2) rfl (by decide) ?_
  refine g_icmp_ne rfl (fun c1 => ?_) (fun c1 => ?_)
  · rw [show laF u t s q = false by simp [laF, c1]] at hQ
    refine g_iconst (nI 0) rfl (by decide) ?_
    refine g_vret rfl trivial (by first | exact ⟨by decide, by decide⟩ | trivial) (Nat.le_refl _) (Nat.le_refl _) ?_
    exact hQ
  · obtain ⟨t', ht, rfl⟩ := ph_of (by rw [c1]; decide)
    obtain ⟨a1, a2, a3, a4, a5, a6, a7, a8⟩ := (hk.2.2 t' ht).resolve_left (fun q => absurd (c1.symm.trans ((phF_t ht).trans q)) (by decide))
    have e0 : (nI t').toNatClampNeg = t' := nI_clamp (by omega)
    have hnb := hk.2.1
    have a9 := a8.resolve_left (fun q => absurd (((phF_t ht).symm.trans c1).symm.trans q.1) (by decide))
    rw [show laF u (nI t') s q = (inF s 0 3 && (inF q 0 3 && anyN (laQ u t' s q) (mC u t'))) by unfold laF; rw [decide_eq_true c1, e0]; rfl] at hQ
    refine g_load rfl rfl rfl trivial ?_
    refine g_iconst (nI 0) rfl (by decide) ?_
    refine g_iconst (nI 3) rfl (by decide) ?_
    refine g_statI [.int s, .int (nI 0), .int (nI 3)] rFr_tr rfl rfl rfl (Nat.le_of_ble_eq_true rfl) (Nat.le_refl _) (Nat.le_refl _) (r_in s 0 3 ⟨_, rfl, ?_⟩)
    refine g_if_eq rfl (fun c2 => ?_) (fun c2 => ?_)
    · rw [bI_eq] at c2
      rw [c2] at hQ
      refine g_iconst (nI 0) rfl (by decide) ?_
      refine g_vret rfl trivial (by first | exact ⟨by decide, by decide⟩ | trivial) (Nat.le_refl _) (Nat.le_refl _) ?_
      exact hQ
    · rw [bI_ne] at c2
      rw [c2, Bool.true_and] at hQ
      refine g_load rfl rfl rfl trivial ?_
      refine g_iconst (nI 0) rfl (by decide) ?_
      refine g_iconst (nI 3) rfl (by decide) ?_
      refine g_statI [.int q, .int (nI 0), .int (nI 3)] rFr_tr rfl rfl rfl (Nat.le_of_ble_eq_true rfl) (Nat.le_refl _) (Nat.le_refl _) (r_in q 0 3 ⟨_, rfl, ?_⟩)
      refine g_if_ne rfl (fun c3 => ?_) (fun c3 => ?_)
      · rw [bI_ne] at c3
        rw [c3, Bool.true_and] at hQ
        refine g_iconst (nI 0) rfl (by decide) ?_
        refine g_store [some (.ref 25), some ((.int (nI t'))), some (.int s), some (.int q), some (.int (nI 0)), none] rfl rfl trivial (Nat.le_of_ble_eq_true rfl) rfl ?_
        exact r_lacks_l t' (mC u t') nb s q ht hk.1 hk.2.1 a5 a6 hQ (mC u t' + 1) 0 _ (fun y hy => absurd hy (by omega)) (by omega) (by omega)
      · rw [bI_eq] at c3
        rw [c3] at hQ
        refine g_iconst (nI 0) rfl (by decide) ?_
        refine g_vret rfl trivial (by first | exact ⟨by decide, by decide⟩ | trivial) (Nat.le_refl _) (Nat.le_refl _) ?_
        exact hQ
def hbF (u : rS) (t n : Nat) : Bool := (last ge3 (cf u t) n).isSome
def tbA (u : rS) (t n bd : Nat) (w : Nat) : Int32 := match w with
  | 0 => u.2 29 t
  | 1 => u.2 30 (2 * t)
  | 2 => u.2 30 (2 * t + 1)
  | 4 => nI ((bd % 4 + n) % 4)
  | 5 => if hbF u t n then lvF (cf u t) (bB u t) else -1
  | 6 => if hbF u t n then stF (cf u t) (bB u t) else -1
  | 8 => if hbF u t n then dblF (cf u t) n else -1
  | 9 => 0
  | 10 => 0
  | 11 => 0
  | 12 => nI n
  | _ => -1
def tbP (u : rS) (t n b bd m : Nat) (w : Nat) : Int32 := match w with
  | 0 => u.2 29 t
  | 1 => u.2 30 (2 * t)
  | 2 => u.2 30 (2 * t + 1)
  | 4 => nI (seatF u t b bd m)
  | 5 => lvF (cf u t) b
  | 6 => stF (cf u t) b
  | 7 => nI (dcN (cf u t) (bd % 4) b)
  | 8 => dblF (cf u t) n
  | 9 => nI (wnF (gf u t) (stF (cf u t) b) ((dcN (cf u t) (bd % 4) b + 1) % 4) 0 (m / 4))
  | 10 => nI (wnF (gf u t) (stF (cf u t) b) ((dcN (cf u t) (bd % 4) b + 1) % 4) 1 (m / 4))
  | 11 => nI (m % 4)
  | 12 => nI n
  | 13 => nI (ldF (gf u t) (stF (cf u t) b) ((dcN (cf u t) (bd % 4) b + 1) % 4) (m / 4))
  | _ => -1
def swN (w : Int32) : Nat := if w.toInt < 0 ∨ 13 < w.toInt then 99 else w.toNatClampNeg
theorem swN_out {w : Int32} (h : w.toInt < 0 ∨ ((13 : Nat) : Int) < w.toInt) : swN w = 99 := if_pos h
theorem swN_in : ∀ k, k ≤ 13 → swN (nI k) = k := by decide

set_option maxRecDepth 40000 in
set_option maxRecDepth 20000 in
theorem r_table_a {pr : aC} {d : Nat} {u : rS} (t n bd : Nat) (w : Int32) (ht : t < 10) (hc : u.2 31 t = nI n) (hn : n < 340) (hbd : u.2 29 t = nI (bd + 1)) (hbl : hbF u t n = true → last ge3 (cf u t) n = some (bB u t)) {Q : Option Value → rS → Prop} (hQ : Q (some (.int (tbA u t n bd (swN w)))) u) : rB pr (d + 5) cd_198 (Option.some Jvm.ClassFile.FieldType.int) Q 45 [some (.ref 25), some (.int (nI t)), some (.int w), some (.int (nI 0)), some (.int (bI (hbF u t n))), some (.int (nI ((bd % 4 + n) % 4)))] [] u := by
  refine g_load rfl rfl rfl trivial ?_
  by_cases hsw : w.toInt < 0 ∨ 13 < w.toInt
  · refine g_tabOut 144 rfl hsw rfl ?_
    rw [swN_out hsw] at hQ
    refine g_iconst (-1) rfl (by decide) ?_
    refine g_vret rfl trivial ⟨rfl, rfl⟩ (Nat.le_refl _) (Nat.le_refl _) ?_
    exact hQ
  obtain ⟨ksw, hk, rfl⟩ := sw_of (x := w) (n := 13) hsw
  rcases (show ksw = 0 ∨ ksw = 1 ∨ ksw = 2 ∨ ksw = 3 ∨ ksw = 4 ∨ ksw = 5 ∨ ksw = 6 ∨ ksw = 7 ∨ ksw = 8 ∨ ksw = 9 ∨ ksw = 10 ∨ ksw = 11 ∨ ksw = 12 ∨ ksw = 13 by omega) with rfl | rfl | rfl | rfl | rfl | rfl | rfl | rfl | rfl | rfl | rfl | rfl | rfl | rfl
  · refine g_tabIn (69) 47 rfl (by decide) (by decide) rfl rfl ?_
    rw [swN_in 0 (by decide)] at hQ
    refine g_load rfl rfl rfl trivial ?_
    refine r_getf rfl rfl ?_
    refine g_load rfl rfl rfl trivial ?_
    refine r_ia (t) rfl ⟨by decide, by decide, rfl⟩ rfl (by show _ < 10; omega) ?_
    refine g_vret rfl trivial ⟨rfl, rfl⟩ (Nat.le_refl _) (Nat.le_refl _) ?_
    exact hQ
  · refine g_tabIn (76) 52 rfl (by decide) (by decide) rfl rfl ?_
    rw [swN_in 1 (by decide)] at hQ
    refine g_load rfl rfl rfl trivial ?_
    refine r_getf rfl rfl ?_
    refine g_iconst (nI 2) rfl (by decide) ?_
    refine g_load rfl rfl rfl trivial ?_
    refine g_imul rfl ?_
    refine r_ia (2 * t) rfl ⟨by decide, by decide, rfl⟩ (pk_mul 2 t) (by show _ < 20; omega) ?_
    refine g_vret rfl trivial ⟨rfl, rfl⟩ (Nat.le_refl _) (Nat.le_refl _) ?_
    exact hQ
  · refine g_tabIn (85) 59 rfl (by decide) (by decide) rfl rfl ?_
    rw [swN_in 2 (by decide)] at hQ
    refine g_load rfl rfl rfl trivial ?_
    refine r_getf rfl rfl ?_
    refine g_iconst (nI 2) rfl (by decide) ?_
    refine g_load rfl rfl rfl trivial ?_
    refine g_imul rfl ?_
    refine g_iconst (nI 1) rfl (by decide) ?_
    refine g_iadd rfl ?_
    refine r_ia (2 * t + 1) rfl ⟨by decide, by decide, rfl⟩ (by rw [pk_mul, nI_add]) (by show _ < 20; omega) ?_
    refine g_vret rfl trivial ⟨rfl, rfl⟩ (Nat.le_refl _) (Nat.le_refl _) ?_
    exact hQ
  · refine g_tabIn (228) 144 rfl (by decide) (by decide) rfl rfl ?_
    rw [swN_in 3 (by decide)] at hQ
    refine g_iconst (-1) rfl (by decide) ?_
    refine g_vret rfl trivial ⟨rfl, rfl⟩ (Nat.le_refl _) (Nat.le_refl _) ?_
    exact hQ
  · refine g_tabIn (96) 68 rfl (by decide) (by decide) rfl rfl ?_
    rw [swN_in 4 (by decide)] at hQ
    refine g_load rfl rfl rfl trivial ?_
    refine g_vret rfl trivial ⟨rfl, rfl⟩ (Nat.le_refl _) (Nat.le_refl _) ?_
    exact hQ
  · refine g_tabIn (99) 70 rfl (by decide) (by decide) rfl rfl ?_
    rw [swN_in 5 (by decide)] at hQ
    refine g_load rfl rfl rfl trivial ?_
    refine g_if_eq rfl (fun c1 => ?_) (fun c1 => ?_)
    · rw [bI_eq] at c1
      simp only [tbA, c1, Bool.false_eq_true, if_false] at hQ
      refine g_iconst (-1) rfl (by decide) ?_
      refine g_vret rfl trivial ⟨rfl, rfl⟩ (Nat.le_refl _) (Nat.le_refl _) ?_
      exact hQ
    · rw [bI_ne] at c1
      simp only [tbA, c1, if_true] at hQ
      have hlb : last ge3 (cf u t) n = some (bB u t) := hbl c1
      refine g_load rfl rfl rfl trivial ?_
      refine g_load rfl rfl rfl trivial ?_
      refine g_virtI (a := 25) (ci := 8) (n := 1) [.int (nI t)] rFr_tr rfl rfl (by decide) rfl r_this rfl (Nat.le_of_ble_eq_true rfl) (Nat.le_refl _) (Nat.le_refl _) (r_level t n (bB u t) ht hc (by omega) hlb ⟨_, rfl, ?_⟩)
      refine g_goto rfl ?_
      refine g_vret rfl trivial ⟨rfl, rfl⟩ (Nat.le_refl _) (Nat.le_refl _) ?_
      exact hQ
  · refine g_tabIn (114) 78 rfl (by decide) (by decide) rfl rfl ?_
    rw [swN_in 6 (by decide)] at hQ
    refine g_load rfl rfl rfl trivial ?_
    refine g_if_eq rfl (fun c2 => ?_) (fun c2 => ?_)
    · rw [bI_eq] at c2
      simp only [tbA, c2, Bool.false_eq_true, if_false] at hQ
      refine g_iconst (-1) rfl (by decide) ?_
      refine g_vret rfl trivial ⟨rfl, rfl⟩ (Nat.le_refl _) (Nat.le_refl _) ?_
      exact hQ
    · rw [bI_ne] at c2
      simp only [tbA, c2, if_true] at hQ
      have hlb : last ge3 (cf u t) n = some (bB u t) := hbl c2
      refine g_load rfl rfl rfl trivial ?_
      refine g_load rfl rfl rfl trivial ?_
      refine g_virtI (a := 25) (ci := 8) (n := 1) [.int (nI t)] rFr_tr rfl rfl (by decide) rfl r_this rfl (Nat.le_of_ble_eq_true rfl) (Nat.le_refl _) (Nat.le_refl _) (r_strain t n (bB u t) ht hc (by omega) hlb ⟨_, rfl, ?_⟩)
      refine g_goto rfl ?_
      refine g_vret rfl trivial ⟨rfl, rfl⟩ (Nat.le_refl _) (Nat.le_refl _) ?_
      exact hQ
  · refine g_tabIn (129) 86 rfl (by decide) (by decide) rfl rfl ?_
    rw [swN_in 7 (by decide)] at hQ
    refine g_load rfl rfl rfl trivial ?_
    refine g_if_eq rfl (fun c3 => ?_) (fun c3 => ?_)
    · refine g_iconst (-1) rfl (by decide) ?_
      refine g_vret rfl trivial ⟨rfl, rfl⟩ (Nat.le_refl _) (Nat.le_refl _) ?_
      exact hQ
    · exact absurd nI_0 c3
  · refine g_tabIn (143) 94 rfl (by decide) (by decide) rfl rfl ?_
    rw [swN_in 8 (by decide)] at hQ
    refine g_load rfl rfl rfl trivial ?_
    refine g_if_eq rfl (fun c4 => ?_) (fun c4 => ?_)
    · rw [bI_eq] at c4
      simp only [tbA, c4, Bool.false_eq_true, if_false] at hQ
      refine g_iconst (-1) rfl (by decide) ?_
      refine g_vret rfl trivial ⟨rfl, rfl⟩ (Nat.le_refl _) (Nat.le_refl _) ?_
      exact hQ
    · rw [bI_ne] at c4
      simp only [tbA, c4, if_true] at hQ
      have hlb : last ge3 (cf u t) n = some (bB u t) := hbl c4
      refine g_load rfl rfl rfl trivial ?_
      refine g_load rfl rfl rfl trivial ?_
      refine g_virtI (a := 25) (ci := 8) (n := 1) [.int (nI t)] rFr_tr rfl rfl (by decide) rfl r_this rfl (Nat.le_of_ble_eq_true rfl) (Nat.le_refl _) (Nat.le_refl _) (r_doubled t n ht hc (by omega) ⟨_, rfl, ?_⟩)
      refine g_goto rfl ?_
      refine g_vret rfl trivial ⟨rfl, rfl⟩ (Nat.le_refl _) (Nat.le_refl _) ?_
      exact hQ
  · refine g_tabIn (158) 102 rfl (by decide) (by decide) rfl rfl ?_
    rw [swN_in 9 (by decide)] at hQ
    refine g_load rfl rfl rfl trivial ?_
    refine g_if_eq rfl (fun c5 => ?_) (fun c5 => ?_)
    · refine g_iconst (nI 0) rfl (by decide) ?_
      refine g_vret rfl trivial ⟨rfl, rfl⟩ (Nat.le_refl _) (Nat.le_refl _) ?_
      exact hQ
    · exact absurd nI_0 c5
  · refine g_tabIn (173) 111 rfl (by decide) (by decide) rfl rfl ?_
    rw [swN_in 10 (by decide)] at hQ
    refine g_load rfl rfl rfl trivial ?_
    refine g_if_eq rfl (fun c6 => ?_) (fun c6 => ?_)
    · refine g_iconst (nI 0) rfl (by decide) ?_
      refine g_vret rfl trivial ⟨rfl, rfl⟩ (Nat.le_refl _) (Nat.le_refl _) ?_
      exact hQ
    · exact absurd nI_0 c6
  · refine g_tabIn (188) 120 rfl (by decide) (by decide) rfl rfl ?_
    rw [swN_in 11 (by decide)] at hQ
    refine g_load rfl rfl rfl trivial ?_
    refine g_if_eq rfl (fun c7 => ?_) (fun c7 => ?_)
    · refine g_iconst (nI 0) rfl (by decide) ?_
      refine g_vret rfl trivial ⟨rfl, rfl⟩ (Nat.le_refl _) (Nat.le_refl _) ?_
      exact hQ
    · exact absurd nI_0 c7
  · refine g_tabIn (208) 132 rfl (by decide) (by decide) rfl rfl ?_
    rw [swN_in 12 (by decide)] at hQ
    refine g_load rfl rfl rfl trivial ?_
    refine r_getf rfl rfl ?_
    refine g_load rfl rfl rfl trivial ?_
    refine r_ia (t) rfl ⟨by decide, by decide, rfl⟩ rfl (by show _ < 10; omega) ?_
    rw [hc]
    refine g_vret rfl trivial ⟨rfl, rfl⟩ (Nat.le_refl _) (Nat.le_refl _) ?_
    exact hQ
  · refine g_tabIn (215) 137 rfl (by decide) (by decide) rfl rfl ?_
    rw [swN_in 13 (by decide)] at hQ
    refine g_load rfl rfl rfl trivial ?_
    refine g_if_eq rfl (fun c8 => ?_) (fun c8 => ?_)
    · refine g_iconst (-1) rfl (by decide) ?_
      refine g_vret rfl trivial ⟨rfl, rfl⟩ (Nat.le_refl _) (Nat.le_refl _) ?_
      exact hQ
    · exact absurd nI_0 c8
set_option maxRecDepth 40000 in
set_option maxRecDepth 20000 in
theorem r_table_p {pr : aC} {d : Nat} {u u1 : rS} (t n b bd m : Nat) (w : Int32) (hS : rSame u u1) (hG : gtAt u1 (gf u t) (stF (cf u t) b) ((dcN (cf u t) (bd % 4) b + 1) % 4) (m / 4)) (ht : t < 10) (hc : u1.2 31 t = nI n) (hn : n ≤ 340) (hb : last ge3 (cf u1 t) n = some b) (hbd : u1.2 29 t = nI (bd + 1)) (hbd2 : bd < 36) (hm0 : u1.2 32 t = nI m) (hm52 : m ≤ 52) {Q : Option Value → rS → Prop} (hQ : Q (some (.int (tbP u t n b bd m (swN w)))) u1) : rB pr (d + 5) cd_198 (Option.some Jvm.ClassFile.FieldType.int) Q 45 [some (.ref 25), some (.int (nI t)), some (.int w), some (.int (nI 1)), some (.int (nI 1)), some (.int (nI (seatF u t b bd m)))] [] u1 := by
  refine g_load rfl rfl rfl trivial ?_
  by_cases hsw : w.toInt < 0 ∨ 13 < w.toInt
  · refine g_tabOut 144 rfl hsw rfl ?_
    rw [swN_out hsw] at hQ
    refine g_iconst (-1) rfl (by decide) ?_
    refine g_vret rfl trivial ⟨rfl, rfl⟩ (Nat.le_refl _) (Nat.le_refl _) ?_
    exact hQ
  obtain ⟨ksw, hk, rfl⟩ := sw_of (x := w) (n := 13) hsw
  rcases (show ksw = 0 ∨ ksw = 1 ∨ ksw = 2 ∨ ksw = 3 ∨ ksw = 4 ∨ ksw = 5 ∨ ksw = 6 ∨ ksw = 7 ∨ ksw = 8 ∨ ksw = 9 ∨ ksw = 10 ∨ ksw = 11 ∨ ksw = 12 ∨ ksw = 13 by omega) with rfl | rfl | rfl | rfl | rfl | rfl | rfl | rfl | rfl | rfl | rfl | rfl | rfl | rfl
  · refine g_tabIn (69) 47 rfl (by decide) (by decide) rfl rfl ?_
    rw [swN_in 0 (by decide)] at hQ
    refine g_load rfl rfl rfl trivial ?_
    refine r_getf rfl rfl ?_
    refine g_load rfl rfl rfl trivial ?_
    refine r_ia (t) rfl ⟨by decide, by decide, rfl⟩ rfl (by show _ < 10; omega) ?_
    rw [hS.2.2.2 29 (by decide)]
    refine g_vret rfl trivial ⟨rfl, rfl⟩ (Nat.le_refl _) (Nat.le_refl _) ?_
    exact hQ
  · refine g_tabIn (76) 52 rfl (by decide) (by decide) rfl rfl ?_
    rw [swN_in 1 (by decide)] at hQ
    refine g_load rfl rfl rfl trivial ?_
    refine r_getf rfl rfl ?_
    refine g_iconst (nI 2) rfl (by decide) ?_
    refine g_load rfl rfl rfl trivial ?_
    refine g_imul rfl ?_
    refine r_ia (2 * t) rfl ⟨by decide, by decide, rfl⟩ (pk_mul 2 t) (by show _ < 20; omega) ?_
    rw [hS.2.2.2 30 (by decide)]
    refine g_vret rfl trivial ⟨rfl, rfl⟩ (Nat.le_refl _) (Nat.le_refl _) ?_
    exact hQ
  · refine g_tabIn (85) 59 rfl (by decide) (by decide) rfl rfl ?_
    rw [swN_in 2 (by decide)] at hQ
    refine g_load rfl rfl rfl trivial ?_
    refine r_getf rfl rfl ?_
    refine g_iconst (nI 2) rfl (by decide) ?_
    refine g_load rfl rfl rfl trivial ?_
    refine g_imul rfl ?_
    refine g_iconst (nI 1) rfl (by decide) ?_
    refine g_iadd rfl ?_
    refine r_ia (2 * t + 1) rfl ⟨by decide, by decide, rfl⟩ (by rw [pk_mul, nI_add]) (by show _ < 20; omega) ?_
    rw [hS.2.2.2 30 (by decide)]
    refine g_vret rfl trivial ⟨rfl, rfl⟩ (Nat.le_refl _) (Nat.le_refl _) ?_
    exact hQ
  · refine g_tabIn (228) 144 rfl (by decide) (by decide) rfl rfl ?_
    rw [swN_in 3 (by decide)] at hQ
    refine g_iconst (-1) rfl (by decide) ?_
    refine g_vret rfl trivial ⟨rfl, rfl⟩ (Nat.le_refl _) (Nat.le_refl _) ?_
    exact hQ
  · refine g_tabIn (96) 68 rfl (by decide) (by decide) rfl rfl ?_
    rw [swN_in 4 (by decide)] at hQ
    refine g_load rfl rfl rfl trivial ?_
    refine g_vret rfl trivial ⟨rfl, rfl⟩ (Nat.le_refl _) (Nat.le_refl _) ?_
    exact hQ
  · refine g_tabIn (99) 70 rfl (by decide) (by decide) rfl rfl ?_
    rw [swN_in 5 (by decide)] at hQ
    refine g_load rfl rfl rfl trivial ?_
    refine g_if_eq rfl (fun c1 => ?_) (fun c1 => ?_)
    · exact absurd c1 (by decide)
    · refine g_load rfl rfl rfl trivial ?_
      refine g_load rfl rfl rfl trivial ?_
      refine g_virtI (a := 25) (ci := 8) (n := 1) [.int (nI t)] rFr_tr rfl rfl (by decide) rfl r_this rfl (Nat.le_of_ble_eq_true rfl) (Nat.le_refl _) (Nat.le_refl _) (r_level t n b ht hc hn hb ⟨_, rfl, ?_⟩)
      rw [rSame_cf hS]
      refine g_goto rfl ?_
      refine g_vret rfl trivial ⟨rfl, rfl⟩ (Nat.le_refl _) (Nat.le_refl _) ?_
      exact hQ
  · refine g_tabIn (114) 78 rfl (by decide) (by decide) rfl rfl ?_
    rw [swN_in 6 (by decide)] at hQ
    refine g_load rfl rfl rfl trivial ?_
    refine g_if_eq rfl (fun c2 => ?_) (fun c2 => ?_)
    · exact absurd c2 (by decide)
    · refine g_load rfl rfl rfl trivial ?_
      refine g_load rfl rfl rfl trivial ?_
      refine g_virtI (a := 25) (ci := 8) (n := 1) [.int (nI t)] rFr_tr rfl rfl (by decide) rfl r_this rfl (Nat.le_of_ble_eq_true rfl) (Nat.le_refl _) (Nat.le_refl _) (r_strain t n b ht hc hn hb ⟨_, rfl, ?_⟩)
      rw [rSame_cf hS]
      refine g_goto rfl ?_
      refine g_vret rfl trivial ⟨rfl, rfl⟩ (Nat.le_refl _) (Nat.le_refl _) ?_
      exact hQ
  · refine g_tabIn (129) 86 rfl (by decide) (by decide) rfl rfl ?_
    rw [swN_in 7 (by decide)] at hQ
    refine g_load rfl rfl rfl trivial ?_
    refine g_if_eq rfl (fun c3 => ?_) (fun c3 => ?_)
    · exact absurd c3 (by decide)
    · refine g_load rfl rfl rfl trivial ?_
      refine g_load rfl rfl rfl trivial ?_
      refine g_virtI (a := 25) (ci := 8) (n := 1) [.int (nI t)] rFr_tr rfl rfl (by decide) rfl r_this rfl (Nat.le_of_ble_eq_true rfl) (Nat.le_refl _) (Nat.le_refl _) (r_declarer t n b bd ht hc hn hb hbd hbd2 ⟨_, rfl, ?_⟩)
      rw [(dcF_N (dl := bd % 4) (last_lt hb).2).1, rSame_cf hS]
      refine g_goto rfl ?_
      refine g_vret rfl trivial ⟨rfl, rfl⟩ (Nat.le_refl _) (Nat.le_refl _) ?_
      exact hQ
  · refine g_tabIn (143) 94 rfl (by decide) (by decide) rfl rfl ?_
    rw [swN_in 8 (by decide)] at hQ
    refine g_load rfl rfl rfl trivial ?_
    refine g_if_eq rfl (fun c4 => ?_) (fun c4 => ?_)
    · exact absurd c4 (by decide)
    · refine g_load rfl rfl rfl trivial ?_
      refine g_load rfl rfl rfl trivial ?_
      refine g_virtI (a := 25) (ci := 8) (n := 1) [.int (nI t)] rFr_tr rfl rfl (by decide) rfl r_this rfl (Nat.le_of_ble_eq_true rfl) (Nat.le_refl _) (Nat.le_refl _) (r_doubled t n ht hc hn ⟨_, rfl, ?_⟩)
      rw [rSame_cf hS]
      refine g_goto rfl ?_
      refine g_vret rfl trivial ⟨rfl, rfl⟩ (Nat.le_refl _) (Nat.le_refl _) ?_
      exact hQ
  · refine g_tabIn (158) 102 rfl (by decide) (by decide) rfl rfl ?_
    rw [swN_in 9 (by decide)] at hQ
    refine g_load rfl rfl rfl trivial ?_
    refine g_if_eq rfl (fun c5 => ?_) (fun c5 => ?_)
    · exact absurd c5 (by decide)
    · refine g_load rfl rfl rfl trivial ?_
      refine r_getf rfl rfl ?_
      refine g_iconst (nI 0) rfl (by decide) ?_
      refine r_ia (0) rfl ⟨by decide, by decide, rfl⟩ rfl (by decide) ?_
      rw [hG.2.2.1]
      refine g_goto rfl ?_
      refine g_vret rfl trivial ⟨rfl, rfl⟩ (Nat.le_refl _) (Nat.le_refl _) ?_
      exact hQ
  · refine g_tabIn (173) 111 rfl (by decide) (by decide) rfl rfl ?_
    rw [swN_in 10 (by decide)] at hQ
    refine g_load rfl rfl rfl trivial ?_
    refine g_if_eq rfl (fun c6 => ?_) (fun c6 => ?_)
    · exact absurd c6 (by decide)
    · refine g_load rfl rfl rfl trivial ?_
      refine r_getf rfl rfl ?_
      refine g_iconst (nI 1) rfl (by decide) ?_
      refine r_ia (1) rfl ⟨by decide, by decide, rfl⟩ rfl (by decide) ?_
      rw [hG.2.2.2]
      refine g_goto rfl ?_
      refine g_vret rfl trivial ⟨rfl, rfl⟩ (Nat.le_refl _) (Nat.le_refl _) ?_
      exact hQ
  · refine g_tabIn (188) 120 rfl (by decide) (by decide) rfl rfl ?_
    rw [swN_in 11 (by decide)] at hQ
    refine g_load rfl rfl rfl trivial ?_
    refine g_if_eq rfl (fun c7 => ?_) (fun c7 => ?_)
    · exact absurd c7 (by decide)
    · refine g_load rfl rfl rfl trivial ?_
      refine r_getf rfl rfl ?_
      refine g_load rfl rfl rfl trivial ?_
      refine r_ia (t) rfl ⟨by decide, by decide, rfl⟩ rfl (by show _ < 10; omega) ?_
      refine g_load rfl rfl rfl trivial ?_
      refine r_getf rfl rfl ?_
      rw [hm0, hG.2.1]
      refine g_isub rfl ?_
      rw [pk_sub (by omega), show m - 4 * (m / 4) = m % 4 by omega]
      refine g_goto rfl ?_
      refine g_vret rfl trivial ⟨rfl, rfl⟩ (Nat.le_refl _) (Nat.le_refl _) ?_
      exact hQ
  · refine g_tabIn (208) 132 rfl (by decide) (by decide) rfl rfl ?_
    rw [swN_in 12 (by decide)] at hQ
    refine g_load rfl rfl rfl trivial ?_
    refine r_getf rfl rfl ?_
    refine g_load rfl rfl rfl trivial ?_
    refine r_ia (t) rfl ⟨by decide, by decide, rfl⟩ rfl (by show _ < 10; omega) ?_
    rw [hc]
    refine g_vret rfl trivial ⟨rfl, rfl⟩ (Nat.le_refl _) (Nat.le_refl _) ?_
    exact hQ
  · refine g_tabIn (215) 137 rfl (by decide) (by decide) rfl rfl ?_
    rw [swN_in 13 (by decide)] at hQ
    refine g_load rfl rfl rfl trivial ?_
    refine g_if_eq rfl (fun c8 => ?_) (fun c8 => ?_)
    · exact absurd c8 (by decide)
    · refine g_load rfl rfl rfl trivial ?_
      refine r_getf rfl rfl ?_
      rw [hG.1]
      refine g_goto rfl ?_
      refine g_vret rfl trivial ⟨rfl, rfl⟩ (Nat.le_refl _) (Nat.le_refl _) ?_
      exact hQ
def tbF (u : rS) (t w : Int32) : Int32 := if inF t 0 9 then (if w = nI 3 then u.2 28 t.toNatClampNeg else if u.2 28 t.toNatClampNeg = 0 then -1 else if u.2 28 t.toNatClampNeg = nI 2 then tbP u t.toNatClampNeg (nC u t.toNatClampNeg) (bB u t.toNatClampNeg) (bD u t.toNatClampNeg) (mC u t.toNatClampNeg) (swN w) else tbA u t.toNatClampNeg (nC u t.toNatClampNeg) (bD u t.toNatClampNeg) (swN w)) else -1
theorem hb_bB {u : rS} {t : Nat} (h : hbF u t (nC u t) = true) : last ge3 (cf u t) (nC u t) = some (bB u t) := by
  unfold hbF at h
  unfold bB
  cases hl : last ge3 (cf u t) (nC u t) with
  | none => rw [hl] at h; cases h
  | some b => rfl
set_option maxRecDepth 20000 in
theorem r_table {pr : aC} {d : Nat} {u : rS} (t w : Int32) (nb : Nat) (hk : rOkT u nb) {Q : Option Value → rS → Prop} (hQ : ∀ u1, rSame u u1 → Q (some (.int (tbF u t w))) u1) : rR pr (d + 6 + 1) 198 [.ref 25, .int t, .int w] u Q := by
  refine gR_of mi_198 rFr_rf rfl (Nat.le_of_ble_eq_true rfl) ?_
  show rB pr (d + 6) cd_198 (Option.some Jvm.ClassFile.FieldType.int) Q 0 [some (.ref 25), some (.int t), some (.int w), none, none, none] [] u
  refine g_load rfl rfl rfl trivial ?_
  refine g_iconst (nI 0) rfl (by decide) ?_
  refine g_bipush (nI 9) rfl (by decide) ?_
  refine g_statI [.int t, .int (nI 0), .int (nI 9)] rFr_tr rfl rfl rfl (Nat.le_of_ble_eq_true rfl) (Nat.le_refl _) (Nat.le_refl _) (r_in t 0 9 ⟨_, rfl, ?_⟩)
  refine g_if_ne rfl (fun c1 => ?_) (fun c1 => ?_)
  · rw [bI_ne] at c1
    obtain ⟨t', ht, rfl⟩ := tb_of c1
    have e0 : (nI t').toNatClampNeg = t' := nI_clamp (by omega)
    unfold tbF at hQ
    rw [c1, if_pos rfl, e0] at hQ
    refine g_load rfl rfl rfl trivial ?_
    refine g_iconst (nI 3) rfl (by decide) ?_
    refine g_icmp_ne rfl (fun c2 => ?_) (fun c2 => ?_)
    · rw [if_neg c2] at hQ
      refine g_load rfl rfl rfl trivial ?_
      refine r_getf rfl rfl ?_
      refine g_load rfl rfl rfl trivial ?_
      refine r_ia (t') rfl ⟨by decide, by decide, rfl⟩ rfl (by show _ < 10; omega) ?_
      refine g_if_ne rfl (fun c3 => ?_) (fun c3 => ?_)
      · rw [if_neg c3] at hQ
        obtain ⟨a1, a2, a3, a4, a5, a6, a7, a8⟩ := (hk.2.2 t' ht).resolve_left c3
        have hnb := hk.2.1
        refine g_load rfl rfl rfl trivial ?_
        refine r_getf rfl rfl ?_
        refine g_load rfl rfl rfl trivial ?_
        refine r_ia (t') rfl ⟨by decide, by decide, rfl⟩ rfl (by show _ < 10; omega) ?_
        refine g_iconst (nI 2) rfl (by decide) ?_
        refine g_icmp_ne rfl (fun c4 => ?_) (fun c4 => ?_)
        · rw [if_neg c4] at hQ
          have hp := c4
          refine g_iconst (nI 0) rfl (by decide) ?_
          refine g_store [some (.ref 25), some ((.int (nI t'))), some (.int w), some (.int (nI 0)), none, none] rfl rfl trivial (Nat.le_of_ble_eq_true rfl) rfl ?_
          refine g_load rfl rfl rfl trivial ?_
          refine g_load rfl rfl rfl trivial ?_
          refine g_virtI (a := 25) (ci := 8) (n := 1) [(.int (nI t'))] rFr_tr rfl rfl (by decide) rfl r_this rfl (Nat.le_of_ble_eq_true rfl) (Nat.le_refl _) (Nat.le_refl _) (r_latestBid t' (nC u t') ht a3 (by omega) ⟨_, rfl, ?_⟩)
          refine g_iconst (-1) rfl (by decide) ?_
          refine g_icmp_eq rfl (fun c5 => ?_) (fun c5 => ?_)
          · have e1 := oI_m1 c5 (fun i hi => by have := (last_lt hi).1; omega)
            refine g_iconst (nI 0) rfl (by decide) ?_
            have a9 := a8.resolve_right (fun q => hp q.1)
            have hv : nI 0 = bI (hbF u t' (nC u t')) := by unfold hbF; rw [e1]; rfl
            refine g_store [some (.ref 25), some (.int (nI t')), some (.int w), some (.int (nI 0)), some (.int (bI (hbF u t' (nC u t')))), none] rfl rfl trivial (Nat.le_of_ble_eq_true rfl) (by rw [← hv]; rfl) ?_
            refine g_load rfl rfl rfl trivial ?_
            refine g_load rfl rfl rfl trivial ?_
            refine g_virtI (a := 25) (ci := 8) (n := 1) [.int (nI t')] rFr_tr rfl rfl (by decide) rfl r_this rfl (Nat.le_of_ble_eq_true rfl) (Nat.le_refl _) (Nat.le_refl _) (r_turn_a t' (nC u t') (bD u t') ht a3 a4 a1 (by omega) a9.1 ⟨_, rfl, ?_⟩)
            refine g_store [some (.ref 25), some (.int (nI t')), some (.int w), some (.int (nI 0)), some (.int (bI (hbF u t' (nC u t')))), some (.int (nI ((bD u t' % 4 + nC u t') % 4)))] rfl rfl trivial (Nat.le_of_ble_eq_true rfl) rfl ?_
            exact r_table_a t' (nC u t') (bD u t') w ht a3 a4 a1 hb_bB (hQ u (rSame.rf u))
          · obtain ⟨bb, e1⟩ := oI_some c5
            refine g_iconst (nI 1) rfl (by decide) ?_
            refine g_goto rfl ?_
            have a9 := a8.resolve_right (fun q => hp q.1)
            have hv : nI 1 = bI (hbF u t' (nC u t')) := by unfold hbF; rw [e1]; rfl
            refine g_store [some (.ref 25), some (.int (nI t')), some (.int w), some (.int (nI 0)), some (.int (bI (hbF u t' (nC u t')))), none] rfl rfl trivial (Nat.le_of_ble_eq_true rfl) (by rw [← hv]; rfl) ?_
            refine g_load rfl rfl rfl trivial ?_
            refine g_load rfl rfl rfl trivial ?_
            refine g_virtI (a := 25) (ci := 8) (n := 1) [.int (nI t')] rFr_tr rfl rfl (by decide) rfl r_this rfl (Nat.le_of_ble_eq_true rfl) (Nat.le_refl _) (Nat.le_refl _) (r_turn_a t' (nC u t') (bD u t') ht a3 a4 a1 (by omega) a9.1 ⟨_, rfl, ?_⟩)
            refine g_store [some (.ref 25), some (.int (nI t')), some (.int w), some (.int (nI 0)), some (.int (bI (hbF u t' (nC u t')))), some (.int (nI ((bD u t' % 4 + nC u t') % 4)))] rfl rfl trivial (Nat.le_of_ble_eq_true rfl) rfl ?_
            exact r_table_a t' (nC u t') (bD u t') w ht a3 a4 a1 hb_bB (hQ u (rSame.rf u))
        · rw [if_pos c4] at hQ
          have hp := c4
          refine g_iconst (nI 1) rfl (by decide) ?_
          refine g_goto rfl ?_
          refine g_store [some (.ref 25), some ((.int (nI t'))), some (.int w), some (.int (nI 1)), none, none] rfl rfl trivial (Nat.le_of_ble_eq_true rfl) rfl ?_
          refine g_load rfl rfl rfl trivial ?_
          refine g_load rfl rfl rfl trivial ?_
          refine g_virtI (a := 25) (ci := 8) (n := 1) [(.int (nI t'))] rFr_tr rfl rfl (by decide) rfl r_this rfl (Nat.le_of_ble_eq_true rfl) (Nat.le_refl _) (Nat.le_refl _) (r_latestBid t' (nC u t') ht a3 (by omega) ⟨_, rfl, ?_⟩)
          refine g_iconst (-1) rfl (by decide) ?_
          refine g_icmp_eq rfl (fun c6 => ?_) (fun c6 => ?_)
          · have e1 := oI_m1 c6 (fun i hi => by have := (last_lt hi).1; omega)
            refine g_iconst (nI 0) rfl (by decide) ?_
            have a9 := a8.resolve_left (fun q => absurd (hp.symm.trans q.1) (by decide))
            exact absurd (e1.symm.trans a9.2) (by simp)
          · obtain ⟨bb, e1⟩ := oI_some c6
            refine g_iconst (nI 1) rfl (by decide) ?_
            refine g_goto rfl ?_
            have a9 := a8.resolve_left (fun q => absurd (hp.symm.trans q.1) (by decide))
            have hp1 : ¬ u.2 28 t' = nI 1 := by rw [hp]; decide
            refine g_store [some (.ref 25), some (.int (nI t')), some (.int w), some (.int (nI 1)), some (.int (nI 1)), none] rfl rfl trivial (Nat.le_of_ble_eq_true rfl) rfl ?_
            refine g_load rfl rfl rfl trivial ?_
            refine g_load rfl rfl rfl trivial ?_
            refine g_virtI (a := 25) (ci := 8) (n := 1) [.int (nI t')] rFr_tr rfl rfl (by decide) rfl r_this rfl (Nat.le_of_ble_eq_true rfl) (Nat.le_refl _) (Nat.le_refl _) (r_turn_p t' (nC u t') (bB u t') (bD u t') (mC u t') ht a3 (by omega) a9.2 a1 (by omega) a5 (by omega) hp1 (fun u1 hS hG => ⟨_, rfl, ?_⟩))
            refine g_store [some (.ref 25), some (.int (nI t')), some (.int w), some (.int (nI 1)), some (.int (nI 1)), some (.int (nI (seatF u t' (bB u t') (bD u t') (mC u t'))))] rfl rfl trivial (Nat.le_of_ble_eq_true rfl) rfl ?_
            exact r_table_p t' (nC u t') (bB u t') (bD u t') (mC u t') w hS hG ht (by rw [hS.2.2.2 31 (by decide)]; exact a3) (by omega) (by rw [rSame_cf hS]; exact a9.2) (by rw [hS.2.2.2 29 (by decide)]; exact a1) (by omega) (by rw [hS.2.2.2 32 (by decide)]; exact a5) (by omega) (hQ u1 hS)
      · rw [if_pos c3] at hQ
        have hQ := hQ u (rSame.rf u)
        refine g_iconst (-1) rfl (by decide) ?_
        refine g_vret rfl trivial ⟨rfl, rfl⟩ (Nat.le_refl _) (Nat.le_refl _) ?_
        exact hQ
    · rw [if_pos c2] at hQ
      have hQ := hQ u (rSame.rf u)
      refine g_load rfl rfl rfl trivial ?_
      refine r_getf rfl rfl ?_
      refine g_load rfl rfl rfl trivial ?_
      refine r_ia (t') rfl ⟨by decide, by decide, rfl⟩ rfl (by show _ < 10; omega) ?_
      refine g_vret rfl trivial ⟨rfl, rfl⟩ (Nat.le_refl _) (Nat.le_refl _) ?_
      exact hQ
  · rw [bI_eq] at c1
    have hQ := hQ u (rSame.rf u)
    rw [show tbF u t w = -1 by unfold tbF; rw [c1]; rfl] at hQ
    refine g_iconst (-1) rfl (by decide) ?_
    refine g_vret rfl trivial ⟨rfl, rfl⟩ (Nat.le_refl _) (Nat.le_refl _) ?_
    exact hQ
