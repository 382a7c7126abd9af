/-! ===== the reference: what is told of tables; small changes ===== -/
def nC (u : rS) (t : Nat) : Nat := (u.2 31 t).toNatClampNeg
def mC (u : rS) (t : Nat) : Nat := (u.2 32 t).toNatClampNeg
def bD (u : rS) (t : Nat) : Nat := (u.2 29 t).toNatClampNeg - 1
def bB (u : rS) (t : Nat) : Nat := (last ge3 (cf u t) (nC u t)).getD 0
/-- what holds of a table of the reference between calls -/
def tOk (u : rS) (nb t : Nat) : Prop := u.2 28 t = 0 ∨ (u.2 29 t = nI (bD u t + 1) ∧ bD u t < nb ∧ u.2 31 t = nI (nC u t) ∧ nC u t < 340 ∧ u.2 32 t = nI (mC u t) ∧ mC u t < 52 ∧ cdOk (gf u t) (mC u t) ∧ ((u.2 28 t = nI 1 ∧ mC u t = 0) ∨ (u.2 28 t = nI 2 ∧ last ge3 (cf u t) (nC u t) = some (bB u t))))
def rOkT (u : rS) (nb : Nat) : Prop := u.1 0 = nI nb ∧ nb ≤ 36 ∧ ∀ t, t < 10 → tOk u nb t
def alF (u : rS) (t x : Int32) : Bool := if phF u t = nI 1 then mcF (cf u t.toNatClampNeg) (nC u t.toNatClampNeg) x else if phF u t = nI 2 then mpF u t.toNatClampNeg (mC u t.toNatClampNeg) (seatF u t.toNatClampNeg (bB u t.toNatClampNeg) (bD u t.toNatClampNeg) (mC u t.toNatClampNeg)) x else false
theorem n1 : ¬ nI 1 = 0 := by decide
theorem n2 : ¬ nI 2 = 0 := by decide
theorem n12 : ¬ nI 1 = nI 2 := by decide
theorem n21 : ¬ nI 2 = nI 1 := by decide
theorem n01 : ¬ (0 : Int32) = nI 1 := by decide
theorem n02 : ¬ (0 : Int32) = nI 2 := by decide
set_option maxRecDepth 20000 in
theorem r_allowed {pr : aC} {d : Nat} {u : rS} (t x : Int32) (nb : Nat) (hk : rOkT u nb) {Q : Option Value → rS → Prop} (hQ : ∀ u1, rSame u u1 → Q (some (.int (bI (alF u t x)))) u1) : rR pr (d + 7 + 1) 201 [.ref 25, .int t, .int x] u Q := by
  refine gR_of mi_201 rFr_rf rfl (Nat.le_of_ble_eq_true rfl) ?_
  show rB pr (d + 7) cd_201 (Option.some Jvm.ClassFile.FieldType.boolean) Q 0 [some (.ref 25), some (.int t), some (.int x)] [] u
  refine g_load rfl rfl rfl trivial ?_
  refine g_load rfl rfl rfl trivial ?_
  refine g_virtI (a := 25) (ci := 8) (n := 1) [.int t] rFr_tr rfl rfl (by decide) rfl r_this rfl (Nat.le_of_ble_eq_true rfl) (Nat.le_refl _) (Nat.le_refl _) (r_phaseOf t ⟨_, rfl, ?_⟩)
  refine g_iconst (nI 1) rfl (by decide) ?_
  refine g_icmp_ne rfl (fun c1 => ?_) (fun c1 => ?_)
  · refine g_load rfl rfl rfl trivial ?_
    refine g_load rfl rfl rfl trivial ?_
    refine g_virtI (a := 25) (ci := 8) (n := 1) [.int t] rFr_tr rfl rfl (by decide) rfl r_this rfl (Nat.le_of_ble_eq_true rfl) (Nat.le_refl _) (Nat.le_refl _) (r_phaseOf t ⟨_, rfl, ?_⟩)
    refine g_iconst (nI 2) rfl (by decide) ?_
    refine g_icmp_ne rfl (fun c2 => ?_) (fun c2 => ?_)
    · have hQ := hQ u (rSame.rf u)
      rw [show alF u t x = false by unfold alF; rw [if_neg c1, if_neg c2]] at hQ
      refine g_iconst (nI 0) rfl (by decide) ?_
      exact g_vret rfl trivial (by first | exact bI_rt _ | exact ⟨by decide, by decide⟩) (Nat.le_refl _) (Nat.le_refl _) hQ
    · obtain ⟨t', ht, rfl⟩ := ph_of (by rw [c2]; decide)
      obtain ⟨a1, a2, a3, a4, a5, a6, a7, a8⟩ := (hk.2.2 t' ht).resolve_left (fun q => absurd (c2.symm.trans ((phF_t ht).trans q)) (by decide))
      have a9 := a8.resolve_left (fun q => absurd (((phF_t ht).symm.trans c2).symm.trans q.1) (by decide))
      have hp1 : ¬ u.2 28 t' = nI 1 := by rw [a9.1]; decide
      have e1 : alF u (nI t') x = mpF u t' (mC u t') (seatF u t' (bB u t') (bD u t') (mC u t')) x := by unfold alF; rw [if_neg c1, if_pos c2, nI_clamp (by omega)]
      rw [e1] at hQ
      refine g_load rfl rfl rfl trivial ?_
      refine g_load rfl rfl rfl trivial ?_
      refine g_load rfl rfl rfl trivial ?_
      refine g_virtI (a := 25) (ci := 8) (n := 2) [.int (nI t'), .int x] rFr_tr rfl rfl (by decide) rfl r_this rfl (Nat.le_of_ble_eq_true rfl) (Nat.le_refl _) (Nat.le_refl _) (r_mayPlay t' (nC u t') (bB u t') (bD u t') (mC u t') ht a3 (by omega) a9.2 a1 (by have := hk.2.1; omega) a5 (by omega) nb x hk.1 hk.2.1 hp1 a7 (fun u1 hS => ⟨_, rfl, ?_⟩))
      refine g_if_eq rfl (fun c3 => ?_) (fun c3 => ?_)
      · rw [bI_eq] at c3
        have hQ := hQ u1 hS
        rw [c3] at hQ
        refine g_iconst (nI 0) rfl (by decide) ?_
        exact g_vret rfl trivial (by first | exact bI_rt _ | exact ⟨by decide, by decide⟩) (Nat.le_refl _) (Nat.le_refl _) hQ
      · rw [bI_ne] at c3
        have hQ := hQ u1 hS
        rw [c3] at hQ
        refine g_iconst (nI 1) rfl (by decide) ?_
        refine g_goto rfl ?_
        exact g_vret rfl trivial (by first | exact bI_rt _ | exact ⟨by decide, by decide⟩) (Nat.le_refl _) (Nat.le_refl _) hQ
  · obtain ⟨t', ht, rfl⟩ := ph_of (by rw [c1]; decide)
    obtain ⟨a1, a2, a3, a4, a5, a6, a7, a8⟩ := (hk.2.2 t' ht).resolve_left (fun q => absurd (c1.symm.trans ((phF_t ht).trans q)) (by decide))
    have hQ := hQ u (rSame.rf u)
    rw [show alF u (nI t') x = mcF (cf u t') (nC u t') x by unfold alF; rw [if_pos c1, nI_clamp (by omega)]] at hQ
    refine g_load rfl rfl rfl trivial ?_
    refine g_load rfl rfl rfl trivial ?_
    refine g_load rfl rfl rfl trivial ?_
    refine g_virtI (a := 25) (ci := 8) (n := 2) [(.int (nI t')), (.int x)] rFr_tr rfl rfl (by decide) rfl r_this rfl (Nat.le_of_ble_eq_true rfl) (Nat.le_refl _) (Nat.le_refl _) (r_mayCall t' (nC u t') (bD u t') x ht a3 a4 a1 (by have := hk.2.1; omega) ⟨_, rfl, ?_⟩)
    refine g_goto rfl ?_
    exact g_vret rfl trivial (by first | exact bI_rt _ | exact ⟨by decide, by decide⟩) (Nat.le_refl _) (Nat.le_refl _) hQ
def seF (u : rS) (t s c : Int32) : Bool := !decide (phF u t = 0) && (inF s 0 3 && (isCd c && (decide (handF u (u.2 29 t.toNatClampNeg) c = s) || (anyN (fun k => decide (gf u t.toNatClampNeg k = c)) (mC u t.toNatClampNeg) || (decide (0 < mC u t.toNatClampNeg) && decide (handF u (u.2 29 t.toNatClampNeg) c = nI ((dcN (cf u t.toNatClampNeg) (bD u t.toNatClampNeg % 4) (bB u t.toNatClampNeg) + 2) % 4)))))))
set_option maxRecDepth 20000 in
theorem r_sees {pr : aC} {d : Nat} {u : rS} (t s c : Int32) (nb : Nat) (hk : rOkT u nb) {Q : Option Value → rS → Prop} (hQ : Q (some (.int (bI (seF u t s c)))) u) : rR pr (d + 4 + 1) 202 [.ref 25, .int t, .int s, .int c] u Q := by
  refine gR_of mi_202 rFr_rf rfl (Nat.le_of_ble_eq_true rfl) ?_
  show rB pr (d + 4) cd_202 (Option.some Jvm.ClassFile.FieldType.boolean) Q 0 [some (.ref 25), some (.int t), some (.int s), some (.int c), none] [] u
  refine g_load rfl rfl rfl trivial ?_
  refine g_load rfl rfl rfl trivial ?_
  refine g_virtI (a := 25) (ci := 8) (n := 1) [.int t] rFr_tr rfl rfl (by decide) rfl r_this rfl (Nat.le_of_ble_eq_true rfl) (Nat.le_refl _) (Nat.le_refl _) (r_phaseOf t ⟨_, rfl, ?_⟩)
  refine g_if_eq rfl (fun c1 => ?_) (fun c1 => ?_)
  · rw [show seF u t s c = false by simp [seF, *]] at hQ
    refine g_iconst (nI 0) rfl (by decide) ?_
    refine g_vret rfl trivial (by first | exact ⟨by decide, by decide⟩ | trivial) (Nat.le_refl _) (Nat.le_refl _) ?_
    exact hQ
  · refine g_load rfl rfl rfl trivial ?_
    refine g_iconst (nI 0) rfl (by decide) ?_
    refine g_iconst (nI 3) rfl (by decide) ?_
    refine g_statI [.int s, .int (nI 0), .int (nI 3)] rFr_tr rfl rfl rfl (Nat.le_of_ble_eq_true rfl) (Nat.le_refl _) (Nat.le_refl _) (r_in s 0 3 ⟨_, rfl, ?_⟩)
    refine g_if_eq rfl (fun c2 => ?_) (fun c2 => ?_)
    · rw [bI_eq] at c2
      rw [show seF u t s c = false by simp [seF, *]] at hQ
      refine g_iconst (nI 0) rfl (by decide) ?_
      refine g_vret rfl trivial (by first | exact ⟨by decide, by decide⟩ | trivial) (Nat.le_refl _) (Nat.le_refl _) ?_
      exact hQ
    · rw [bI_ne] at c2
      refine g_load rfl rfl rfl trivial ?_
      refine g_statI [.int c] rFr_tr rfl rfl rfl (Nat.le_of_ble_eq_true rfl) (Nat.le_refl _) (Nat.le_refl _) (r_isCard c ⟨_, rfl, ?_⟩)
      refine g_if_ne rfl (fun c3 => ?_) (fun c3 => ?_)
      · rw [bI_ne] at c3
        have c33 := c3
        obtain ⟨t', ht, rfl⟩ := ph_of c1
        obtain ⟨a1, a2, a3, a4, a5, a6, a7, a8⟩ := (hk.2.2 t' ht).resolve_left (fun q => c1 ((phF_t ht).trans q))
        have e0 : (nI t').toNatClampNeg = t' := nI_clamp (by omega)
        refine g_load rfl rfl rfl trivial ?_
        refine g_load rfl rfl rfl trivial ?_
        refine r_getf rfl rfl ?_
        refine g_load rfl rfl rfl trivial ?_
        refine r_ia (t') rfl ⟨by decide, by decide, rfl⟩ rfl (by show _ < 10; omega) ?_
        refine g_load rfl rfl rfl trivial ?_
        refine g_virtI (a := 25) (ci := 8) (n := 2) [(.int (u.2 29 t')), (.int c)] rFr_tr rfl rfl (by decide) rfl r_this rfl (Nat.le_of_ble_eq_true rfl) (Nat.le_refl _) (Nat.le_refl _) (r_hand (u.2 29 t') c nb hk.1 hk.2.1 ⟨_, rfl, ?_⟩)
        refine g_store [some (.ref 25), some (.int (nI t')), some (.int s), some (.int c), some ((.int (handF u (u.2 29 t') c)))] rfl rfl trivial (Nat.le_of_ble_eq_true rfl) rfl ?_
        refine g_load rfl rfl rfl trivial ?_
        refine g_load rfl rfl rfl trivial ?_
        refine g_icmp_eq rfl (fun c4 => ?_) (fun c4 => ?_)
        · rw [show seF u (nI t') s c = true by simp [seF, e0, c1, c2, c33, c4]] at hQ
          refine g_iconst (nI 1) rfl (by decide) ?_
          refine g_vret rfl trivial (by first | exact ⟨by decide, by decide⟩ | trivial) (Nat.le_refl _) (Nat.le_refl _) ?_
          exact hQ
        · refine g_load rfl rfl rfl trivial ?_
          refine g_load rfl rfl rfl trivial ?_
          refine g_load rfl rfl rfl trivial ?_
          refine g_virtI (a := 25) (ci := 8) (n := 2) [(.int (nI t')), (.int c)] rFr_tr rfl rfl (by decide) rfl r_this rfl (Nat.le_of_ble_eq_true rfl) (Nat.le_refl _) (Nat.le_refl _) (r_wasPlayed t' (mC u t') c ht a5 (by omega) ⟨_, rfl, ?_⟩)
          refine g_if_eq rfl (fun c5 => ?_) (fun c5 => ?_)
          · rw [bI_eq] at c5
            refine g_load rfl rfl rfl trivial ?_
            refine r_getf rfl rfl ?_
            refine g_load rfl rfl rfl trivial ?_
            refine r_ia (t') rfl ⟨by decide, by decide, rfl⟩ rfl (by show _ < 10; omega) ?_
            rw [a5]
            refine g_if_le rfl (fun c6 => ?_) (fun c6 => ?_)
            · rw [← nI_0, nI_leI (by omega) (by omega)] at c6
              rw [show seF u (nI t') s c = false by
                have h0 : ¬ 0 < mC u t' := by omega
                simp [seF, e0, c1, c2, c33, c4, c5, h0]] at hQ
              refine g_iconst (nI 0) rfl (by decide) ?_
              exact g_vret rfl trivial ⟨by decide, by decide⟩ (Nat.le_refl _) (Nat.le_refl _) hQ
            rw [← nI_0, nI_leI (by omega) (by omega)] at c6
            have h0 : 0 < mC u t' := by omega
            have a9 := a8.resolve_left (fun q => by omega)
            obtain ⟨hd1, hd4⟩ := dcF_N (dl := bD u t' % 4) (last_lt a9.2).2
            refine g_load rfl rfl rfl trivial ?_
            refine g_load rfl rfl rfl trivial ?_
            refine g_load rfl rfl rfl trivial ?_
            refine g_virtI (a := 25) (ci := 8) (n := 1) [(.int (nI t'))] rFr_tr rfl rfl (by decide) rfl r_this rfl (Nat.le_of_ble_eq_true rfl) (Nat.le_refl _) (Nat.le_refl _) (r_declarer t' (nC u t') (bB u t') (bD u t') ht a3 (by omega) a9.2 a1 (by have := hk.2.1; omega) ⟨_, rfl, ?_⟩)
            rw [hd1]
            refine g_iconst (nI 2) rfl (by decide) ?_
            refine g_iadd rfl ?_
            rw [nI_add]
            refine g_iconst (nI 4) rfl (by decide) ?_
            refine g_irem rfl (by decide) ?_
            rw [pk_rem (by omega) (by omega) (by omega)]
            refine g_icmp_ne rfl (fun c6 => ?_) (fun c6 => ?_)
            · rw [show seF u (nI t') s c = false by simp [seF, e0, c1, c2, c33, c4, c5, h0, c6]] at hQ
              refine g_iconst (nI 0) rfl (by decide) ?_
              refine g_vret rfl trivial (by first | exact ⟨by decide, by decide⟩ | trivial) (Nat.le_refl _) (Nat.le_refl _) ?_
              exact hQ
            · rw [show seF u (nI t') s c = true by simp [seF, e0, c1, c2, c33, h0, c6]] at hQ
              refine g_iconst (nI 1) rfl (by decide) ?_
              refine g_goto rfl ?_
              refine g_vret rfl trivial (by first | exact ⟨by decide, by decide⟩ | trivial) (Nat.le_refl _) (Nat.le_refl _) ?_
              exact hQ
          · rw [bI_ne] at c5
            rw [show seF u (nI t') s c = true by simp [seF, e0, c1, c2, c33, c5]] at hQ
            refine g_iconst (nI 1) rfl (by decide) ?_
            refine g_vret rfl trivial (by first | exact ⟨by decide, by decide⟩ | trivial) (Nat.le_refl _) (Nat.le_refl _) ?_
            exact hQ
      · rw [bI_eq] at c3
        rw [show seF u t s c = false by simp [seF, *]] at hQ
        refine g_iconst (nI 0) rfl (by decide) ?_
        refine g_vret rfl trivial (by first | exact ⟨by decide, by decide⟩ | trivial) (Nat.le_refl _) (Nat.le_refl _) ?_
        exact hQ
