/-! ===== the reference: call, play ===== -/
theorem upd_of {f g : Nat → Int32} {n : Nat} {v : Int32} (h1 : g n = v) (h2 : ∀ z, z ≠ n → g z = f z) : g = upd f n v := by
  funext z
  unfold upd
  by_cases hz : z = n
  · rw [if_pos hz, hz, h1]
  · rw [if_neg hz, h2 z hz]
theorem last_none {p : Int32 → Bool} {f : Nat → Int32} : ∀ {n : Nat}, (∀ j, j < n → p (f j) = false) → last p f n = none
  | 0, _ => rfl
  | n + 1, h => by
    unfold last
    rw [h n (by omega), if_neg (by decide)]
    exact last_none (fun j hj => h j (by omega))
theorem last_some {p : Int32 → Bool} {f : Nat → Int32} : ∀ {n i : Nat}, i < n → p (f i) = true → (∀ j, i < j → j < n → p (f j) = false) → last p f n = some i
  | 0, i, h, _, _ => by omega
  | n + 1, i, h, hp, hj => by
    unfold last
    by_cases hi : i = n
    · subst hi; rw [if_pos hp]
    · rw [hj n (by omega) (by omega), if_neg (by decide)]
      exact last_some (by omega) hp (fun j h1 h2 => hj j h1 (by omega))
/-- table t has got call c behind its n calls -/
def calledP (u v : rS) (t n : Nat) (c : Int32) : Prop := v.1 = u.1 ∧ (∀ a, a ≠ 33 → a ≠ 31 → v.2 a = u.2 a) ∧ v.2 33 = upd (u.2 33) (340 * t + n) c ∧ v.2 31 = upd (u.2 31) t (nI (n + 1))
set_option maxRecDepth 20000 in
theorem r_call_l {pr : aC} {d : Nat} {v : rS} (t' n : Nat) (c : Int32) (ht : t' < 10) (hn : n < 340) (hc : v.2 31 t' = nI (n + 1)) {Q : Option Value → rS → Prop} (hQ : ∀ p, p ≤ n + 1 → (p = n + 1 → last nz (cf v t') (n + 1) = none) → (p < n + 1 → last nz (cf v t') (n + 1) = some (n - p)) → rB pr (d + 7) cd_185 (some .int) Q 54 [some (.ref 25), some (.int (nI t')), some (.int c), some (.int (nI p))] [] v) : ∀ (zz : Nat) (x : Nat) (hinv : ∀ y, y < x → cf v t' (n - y) = 0) (hm : n + 1 - x < zz) (hle : x ≤ n + 1), rB pr (d + 7) cd_185 (Option.some Jvm.ClassFile.FieldType.int) Q 34 [some (.ref 25), some ((.int (nI t'))), some (.int c), some (.int (nI x))] [] v := by
  intro zz
  induction zz with
  | zero => intro x hinv hm hle; exact absurd hm (by omega)
  | succ zz ih =>
    intro x hinv hm hle
    refine g_load rfl rfl rfl trivial ?_
    refine g_load rfl rfl rfl trivial ?_
    refine r_getf rfl rfl ?_
    refine g_load rfl rfl rfl trivial ?_
    refine r_ia (t') rfl ⟨by decide, by decide, rfl⟩ rfl (by show _ < 10; omega) ?_
    rw [hc]
    refine g_icmp_ge rfl (fun c1 => ?_) (fun c1 => ?_)
    · rw [nI_leI (by omega) (by omega)] at c1
      have hx : x = n + 1 := by omega
      exact hQ x hle (fun _ => last_none (fun j hj => by have := hinv (n - j) (by omega); rw [show n - (n - j) = j by omega] at this; simp [nz, this])) (fun q => by omega)
    · rw [nI_leI (by omega) (by omega)] at c1
      refine g_load rfl rfl rfl trivial ?_
      refine g_load rfl rfl rfl trivial ?_
      refine g_load rfl rfl rfl trivial ?_
      refine r_getf rfl rfl ?_
      refine g_load rfl rfl rfl trivial ?_
      refine r_ia (t') rfl ⟨by decide, by decide, rfl⟩ rfl (by show _ < 10; omega) ?_
      refine g_iconst (nI 1) rfl (by decide) ?_
      rw [hc]
      refine g_isub rfl ?_
      refine g_load rfl rfl rfl trivial ?_
      rw [pk_sub (by omega), show n + 1 - 1 = n by omega]
      refine g_isub rfl ?_
      rw [pk_sub (by omega)]
      refine g_virtI (a := 25) (ci := 8) (n := 2) [(.int (nI t')), (.int (nI (n - x)))] rFr_tr rfl rfl (by decide) rfl r_this rfl (Nat.le_of_ble_eq_true rfl) (Nat.le_refl _) (Nat.le_refl _) (r_callAt t' (n - x) ht (by omega) ⟨_, rfl, ?_⟩)
      refine g_if_ne rfl (fun c2 => ?_) (fun c2 => ?_)
      · exact hQ x hle (fun q => by omega) (fun _ => last_some (by omega) (by simp [nz, c2]) (fun j h1 h2 => by have := hinv (n - j) (by omega); rw [show n - (n - j) = j by omega] at this; simp [nz, this]))
      · have h0 := c2
        refine g_iinc (nI (x + 1)) [some (.ref 25), some ((.int (nI t'))), some (.int c), some (.int (nI (x + 1)))] rfl rfl (nI_1 x) rfl ?_
        refine g_goto rfl ?_
        exact ih (x + 1) (fun y hy => by
          rcases Nat.lt_succ_iff_lt_or_eq.mp hy with h | h
          · exact hinv y h
          · exact h ▸ h0) (by omega) (by omega)
def clOk (u : rS) (t c : Int32) : Prop := phF u t = nI 1 ∧ mcF (cf u t.toNatClampNeg) (nC u t.toNatClampNeg) c = true
set_option maxRecDepth 20000 in
theorem r_call {pr : aC} {d : Nat} {u : rS} (t c : Int32) (nb nr : Nat) (hk : rOkT u nb) (h1 : u.1 1 = nI nr) (hnr : nr < 220) {Q : Option Value → rS → Prop} (hF : ¬ clOk u t c → Q (some (.int (-1))) u) (hT : ∀ t' v, t' < 10 → t = nI t' → clOk u t c → calledP u v t' (nC u t') c → (last nz (cf v t') (nC u t' + 1) = none → nC u t' = 3 → ∀ w, ended v w t' nr (rec0 v t' (-1)) → Q (some (.int 2)) w) ∧ (∀ i, last nz (cf v t') (nC u t' + 1) = some i → nC u t' - i = 3 → ∀ w, w.1 = v.1 → (∀ a, a ≠ 28 → w.2 a = v.2 a) → w.2 28 = upd (v.2 28) t' (nI 2) → Q (some (.int 1)) w) ∧ ((¬ (last nz (cf v t') (nC u t' + 1) = none ∧ nC u t' = 3)) → (∀ i, last nz (cf v t') (nC u t' + 1) = some i → ¬ nC u t' - i = 3) → Q (some (.int 0)) v)) : rR pr (d + 7 + 1) 185 [.ref 25, .int t, .int c] u Q := by
  refine gR_of mi_185 rFr_rf rfl (Nat.le_of_ble_eq_true rfl) ?_
  show rB pr (d + 7) cd_185 (Option.some Jvm.ClassFile.FieldType.int) Q 0 [some (.ref 25), some (.int t), some (.int c), none] [] u
  refine g_load rfl rfl rfl trivial ?_
  refine g_load rfl rfl rfl trivial ?_
  refine g_virtI (a := 25) (ci := 8) (n := 1) [.int t] rFr_tr rfl rfl (by decide) rfl r_this rfl (Nat.le_of_ble_eq_true rfl) (Nat.le_refl _) (Nat.le_refl _) (r_phaseOf t ⟨_, rfl, ?_⟩)
  refine g_iconst (nI 1) rfl (by decide) ?_
  refine g_icmp_ne rfl (fun c1 => ?_) (fun c1 => ?_)
  · have hQ := hF (fun q => c1 q.1)
    refine g_iconst (-1) rfl (by decide) ?_
    refine g_vret rfl trivial ⟨rfl, rfl⟩ (Nat.le_refl _) (Nat.le_refl _) ?_
    exact hQ
  · obtain ⟨t', ht, rfl⟩ := ph_of (by rw [c1]; decide)
    obtain ⟨a1, a2, a3, a4, a5, a6, a7, a8⟩ := (hk.2.2 t' ht).resolve_left (fun q => absurd (c1.symm.trans ((phF_t ht).trans q)) (by decide))
    have e0 : (nI t').toNatClampNeg = t' := nI_clamp (by omega)
    have hnb := hk.2.1
    refine g_load rfl rfl rfl trivial ?_
    refine g_load rfl rfl rfl trivial ?_
    refine g_load rfl rfl rfl trivial ?_
    refine g_virtI (a := 25) (ci := 8) (n := 2) [(.int (nI t')), (.int c)] rFr_tr rfl rfl (by decide) rfl r_this rfl (Nat.le_of_ble_eq_true rfl) (Nat.le_refl _) (Nat.le_refl _) (r_mayCall t' (nC u t') (bD u t') c ht a3 a4 a1 (by omega) ⟨_, rfl, ?_⟩)
    refine g_if_ne rfl (fun c2 => ?_) (fun c2 => ?_)
    · rw [bI_ne] at c2
      have hok : clOk u (nI t') c := ⟨c1, by rw [e0]; exact c2⟩
      refine g_load rfl rfl rfl trivial ?_
      refine r_getf rfl rfl ?_
      refine g_sipush (nI 340) rfl (by decide) ?_
      refine g_load rfl rfl rfl trivial ?_
      refine g_imul rfl ?_
      refine g_load rfl rfl rfl trivial ?_
      refine r_getf rfl rfl ?_
      refine g_load rfl rfl rfl trivial ?_
      refine r_ia (t') rfl ⟨by decide, by decide, rfl⟩ rfl (by show _ < 10; omega) ?_
      rw [a3]
      refine g_iadd rfl ?_
      refine g_load rfl rfl rfl trivial ?_
      refine r_iasv (340 * t' + nC u t') rfl ⟨by decide, by decide, rfl⟩ (by rw [pk_mul, nI_add]) (by show _ < 3400; omega) (fun v1 xa1 xb1 xc1 xd1 => ?_)
      refine g_load rfl rfl rfl trivial ?_
      refine r_getf rfl rfl ?_
      refine g_load rfl rfl rfl trivial ?_
      refine g_dup2 rfl rfl rfl ?_
      refine r_ia (t') rfl ⟨by decide, by decide, rfl⟩ rfl (by show _ < 10; omega) ?_
      rw [xb1 31 (by decide), a3]
      refine g_iconst (nI 1) rfl (by decide) ?_
      refine g_iadd rfl ?_
      rw [nI_add]
      refine r_iasv (t') rfl ⟨by decide, by decide, rfl⟩ rfl (by show _ < 10; omega) (fun v2 xa2 xb2 xc2 xd2 => ?_)
      refine g_iconst (nI 0) rfl (by decide) ?_
      refine g_store [some (.ref 25), some ((.int (nI t'))), some (.int c), some (.int (nI 0))] rfl rfl trivial (Nat.le_of_ble_eq_true rfl) rfl ?_
      have hP : calledP u v2 t' (nC u t') c := ⟨xa2.trans xa1, fun a h33 h31 => (xb2 a h31).trans (xb1 a h33), by rw [xb2 33 (by decide)]; exact upd_of xc1 xd1, by rw [upd_of xc2 xd2, xb1 31 (by decide)]⟩
      obtain ⟨hT2, hT1, hT0⟩ := hT t' v2 ht rfl hok hP
      have hv31 : v2.2 31 t' = nI (nC u t' + 1) := xc2
      have hv1 : v2.1 1 = nI nr := by rw [hP.1]; exact h1
      refine r_call_l t' (nC u t') c ht a4 hv31 (fun p hp hpn hps => ?_) (nC u t' + 2) 0 (fun y hy => absurd hy (by omega)) (by omega) (by omega)
      refine g_load rfl rfl rfl trivial ?_
      refine g_load rfl rfl rfl trivial ?_
      refine r_getf rfl rfl ?_
      refine g_load rfl rfl rfl trivial ?_
      refine r_ia (t') rfl ⟨by decide, by decide, rfl⟩ rfl (by show _ < 10; omega) ?_
      rw [hv31]
      have K : (p < nC u t' + 1 ∨ ¬ p = 4) → rB pr (d + 7) cd_185 (some .int) Q 69 [some (.ref 25), some (.int (nI t')), some (.int c), some (.int (nI p))] [] v2 := by
        intro hor
        refine g_load rfl rfl rfl trivial ?_
        refine g_load rfl rfl rfl trivial ?_
        refine r_getf rfl rfl ?_
        refine g_load rfl rfl rfl trivial ?_
        refine r_ia (t') rfl ⟨by decide, by decide, rfl⟩ rfl (by show _ < 10; omega) ?_
        rw [hv31]
        refine g_icmp_ge rfl (fun k1 => ?_) (fun k1 => ?_)
        · rw [nI_leI (by omega) (by omega)] at k1
          refine g_iconst (nI 0) rfl (by decide) ?_
          refine g_vret rfl trivial ⟨rfl, rfl⟩ (Nat.le_refl _) (Nat.le_refl _) ?_
          have hpe : p = nC u t' + 1 := by omega
          exact hT0 (fun q => by omega) (fun i hi => by rw [hpn hpe] at hi; cases hi)
        · rw [nI_leI (by omega) (by omega)] at k1
          have hs := hps (by omega)
          refine g_load rfl rfl rfl trivial ?_
          refine g_iconst (nI 3) rfl (by decide) ?_
          refine g_icmp_ne rfl (fun k2 => ?_) (fun k2 => ?_)
          · rw [nI_eq (by omega) (by omega)] at k2
            refine g_iconst (nI 0) rfl (by decide) ?_
            refine g_vret rfl trivial ⟨rfl, rfl⟩ (Nat.le_refl _) (Nat.le_refl _) ?_
            exact hT0 (fun q => by rw [hs] at q; cases q.1) (fun i hi => by rw [hs] at hi; cases hi; omega)
          · rw [nI_eq (by omega) (by omega)] at k2
            refine g_load rfl rfl rfl trivial ?_
            refine r_getf rfl rfl ?_
            refine g_load rfl rfl rfl trivial ?_
            refine g_iconst (nI 2) rfl (by decide) ?_
            refine r_iasv (t') rfl ⟨by decide, by decide, rfl⟩ rfl (by show _ < 10; omega) (fun w g1 g2 g3 g4 => ?_)
            refine g_iconst (nI 1) rfl (by decide) ?_
            refine g_vret rfl trivial ⟨rfl, rfl⟩ (Nat.le_refl _) (Nat.le_refl _) ?_
            exact hT1 (nC u t' - p) hs (by omega) w g1 g2 (upd_of g3 g4)
      refine g_icmp_ne rfl (fun k1 => ?_) (fun k1 => ?_)
      · rw [nI_eq (by omega) (by omega)] at k1
        exact K (Or.inl (by omega))
      · rw [nI_eq (by omega) (by omega)] at k1
        refine g_load rfl rfl rfl trivial ?_
        refine g_iconst (nI 4) rfl (by decide) ?_
        refine g_icmp_ne rfl (fun k2 => ?_) (fun k2 => ?_)
        · rw [nI_eq (by omega) (by omega)] at k2
          exact K (Or.inr k2)
        · rw [nI_eq (by omega) (by omega)] at k2
          refine g_load rfl rfl rfl trivial ?_
          refine g_load rfl rfl rfl trivial ?_
          refine g_iconst (-1) rfl (by decide) ?_
          refine g_virtV (a := 25) (ci := 8) (n := 2) [.int (nI t'), .int (-1)] rFr_tr rfl rfl (by decide) rfl r_this rfl (Nat.le_of_ble_eq_true rfl) (Nat.le_refl _) (Nat.le_refl _) (r_ends_p t' ht nr hv1 hnr (fun w hw => ⟨rfl, ?_⟩))
          refine g_iconst (nI 2) rfl (by decide) ?_
          refine g_vret rfl trivial ⟨rfl, rfl⟩ (Nat.le_refl _) (Nat.le_refl _) ?_
          exact hT2 (hpn k1) (by omega) w hw
    · rw [bI_eq] at c2
      have hQ := hF (fun q => absurd q.2 (by rw [e0, c2]; decide))
      refine g_iconst (-1) rfl (by decide) ?_
      refine g_vret rfl trivial ⟨rfl, rfl⟩ (Nat.le_refl _) (Nat.le_refl _) ?_
      exact hQ
