/-! ===== the reference: what changes its state ===== -/
def uLeave (u : rS) (t : Nat) : rS := (u.1, rU u.2 28 t 0)
set_option maxRecDepth 20000 in
theorem r_leave {pr : aC} {d : Nat} {u : rS} (t : Int32) {Q : Option Value → rS → Prop} (hF : phF u t = 0 → Q (some (.int 0)) u) (hT : ∀ t', t' < 10 → t = nI t' → ¬ u.2 28 t' = 0 → Q (some (.int 1)) (uLeave u t')) : rR pr (d + 2 + 1) 196 [.ref 25, .int t] u Q := by
  refine gR_of mi_196 rFr_rf rfl (Nat.le_of_ble_eq_true rfl) ?_
  show rB pr (d + 2) cd_196 (Option.some Jvm.ClassFile.FieldType.boolean) Q 0 [some (.ref 25), some (.int t)] [] u
  refine g_load rfl rfl rfl trivial ?_
  refine g_load rfl rfl rfl trivial ?_
  refine g_virtI (a := 25) (ci := 8) (n := 1) [.int t] rFr_tr rfl rfl (by decide) rfl r_this rfl (Nat.le_of_ble_eq_true rfl) (Nat.le_refl _) (Nat.le_refl _) (r_phaseOf t ⟨_, rfl, ?_⟩)
  refine g_if_ne rfl (fun c1 => ?_) (fun c1 => ?_)
  · obtain ⟨t', ht, rfl⟩ := ph_of c1
    have hQ := hT t' ht rfl (by rw [← phF_t ht]; exact c1)
    refine g_load rfl rfl rfl trivial ?_
    refine r_getf rfl rfl ?_
    refine g_load rfl rfl rfl trivial ?_
    refine g_iconst (nI 0) rfl (by decide) ?_
    refine r_ias (t') rfl ⟨by decide, by decide, rfl⟩ rfl (by show _ < 10; omega) ?_
    refine g_iconst (nI 1) rfl (by decide) ?_
    refine g_vret rfl trivial (by first | exact ⟨by decide, by decide⟩ | trivial) (Nat.le_refl _) (Nat.le_refl _) ?_
    exact hQ
  · have hQ := hF c1
    refine g_iconst (nI 0) rfl (by decide) ?_
    refine g_vret rfl trivial (by first | exact ⟨by decide, by decide⟩ | trivial) (Nat.le_refl _) (Nat.le_refl _) ?_
    exact hQ
def uBack (u : rS) (t n m : Nat) : rS := if 0 < m then (u.1, rU u.2 32 t (nI (m - 1))) else (u.1, rU (rU u.2 31 t (nI (n - 1))) 28 t (nI 1))
set_option maxRecDepth 20000 in
theorem r_back {pr : aC} {d : Nat} {u : rS} (t : Int32) (nb : Nat) (hk : rOkT u nb) {Q : Option Value → rS → Prop} (hF : (phF u t = 0 ∨ nC u t.toNatClampNeg = 0) → Q (some (.int 0)) u) (hT : ∀ t', t' < 10 → t = nI t' → ¬ u.2 28 t' = 0 → 0 < nC u t' → Q (some (.int 1)) (uBack u t' (nC u t') (mC u t'))) : rR pr (d + 2 + 1) 195 [.ref 25, .int t] u Q := by
  refine gR_of mi_195 rFr_rf rfl (Nat.le_of_ble_eq_true rfl) ?_
  show rB pr (d + 2) cd_195 (Option.some Jvm.ClassFile.FieldType.boolean) Q 0 [some (.ref 25), some (.int t)] [] u
  refine g_load rfl rfl rfl trivial ?_
  refine g_load rfl rfl rfl trivial ?_
  refine g_virtI (a := 25) (ci := 8) (n := 1) [.int t] rFr_tr rfl rfl (by decide) rfl r_this rfl (Nat.le_of_ble_eq_true rfl) (Nat.le_refl _) (Nat.le_refl _) (r_phaseOf t ⟨_, rfl, ?_⟩)
  refine g_if_eq rfl (fun c1 => ?_) (fun c1 => ?_)
  · have hQ := hF (Or.inl c1)
    refine g_iconst (nI 0) rfl (by decide) ?_
    refine g_vret rfl trivial (by first | exact ⟨by decide, by decide⟩ | trivial) (Nat.le_refl _) (Nat.le_refl _) ?_
    exact hQ
  · obtain ⟨t', ht, rfl⟩ := ph_of c1
    have hp0 : ¬ u.2 28 t' = 0 := by rw [← phF_t ht]; exact c1
    obtain ⟨a1, a2, a3, a4, a5, a6, a7, a8⟩ := (hk.2.2 t' ht).resolve_left hp0
    refine g_load rfl rfl rfl trivial ?_
    refine r_getf rfl rfl ?_
    refine g_load rfl rfl rfl trivial ?_
    refine r_ia (t') rfl ⟨by decide, by decide, rfl⟩ rfl (by show _ < 10; omega) ?_
    rw [a3]
    refine g_if_ne rfl (fun c2 => ?_) (fun c2 => ?_)
    · rw [← nI_0, nI_eq (by omega) (by omega)] at c2
      have hQ := hT t' ht rfl hp0 (by omega)
      refine g_load rfl rfl rfl trivial ?_
      refine r_getf rfl rfl ?_
      refine g_load rfl rfl rfl trivial ?_
      refine r_ia (t') rfl ⟨by decide, by decide, rfl⟩ rfl (by show _ < 10; omega) ?_
      rw [a5]
      refine g_if_le rfl (fun c3 => ?_) (fun c3 => ?_)
      · rw [← nI_0, nI_leI (by omega) (by omega)] at c3
        rw [show uBack u t' (nC u t') (mC u t') = (u.1, rU (rU u.2 31 t' (nI (nC u t' - 1))) 28 t' (nI 1)) by unfold uBack; rw [if_neg (by omega)]] at hQ
        refine g_load rfl rfl rfl trivial ?_
        refine r_getf rfl rfl ?_
        refine g_load rfl rfl rfl trivial ?_
        refine g_dup2 rfl rfl rfl ?_
        refine r_ia (t') rfl ⟨by decide, by decide, rfl⟩ rfl (by show _ < 10; omega) ?_
        refine g_iconst (nI 1) rfl (by decide) ?_
        rw [a3]
        refine g_isub rfl ?_
        rw [pk_sub (by omega)]
        refine r_ias (t') rfl ⟨by decide, by decide, rfl⟩ rfl (by show _ < 10; omega) ?_
        refine g_load rfl rfl rfl trivial ?_
        refine r_getf rfl rfl ?_
        refine g_load rfl rfl rfl trivial ?_
        refine g_iconst (nI 1) rfl (by decide) ?_
        refine r_ias (t') rfl ⟨by decide, by decide, rfl⟩ rfl (by show _ < 10; omega) ?_
        refine g_iconst (nI 1) rfl (by decide) ?_
        refine g_vret rfl trivial (by first | exact ⟨by decide, by decide⟩ | trivial) (Nat.le_refl _) (Nat.le_refl _) ?_
        exact hQ
      · rw [← nI_0, nI_leI (by omega) (by omega)] at c3
        rw [show uBack u t' (nC u t') (mC u t') = (u.1, rU u.2 32 t' (nI (mC u t' - 1))) by unfold uBack; rw [if_pos (by omega)]] at hQ
        refine g_load rfl rfl rfl trivial ?_
        refine r_getf rfl rfl ?_
        refine g_load rfl rfl rfl trivial ?_
        refine g_dup2 rfl rfl rfl ?_
        refine r_ia (t') rfl ⟨by decide, by decide, rfl⟩ rfl (by show _ < 10; omega) ?_
        refine g_iconst (nI 1) rfl (by decide) ?_
        rw [a5]
        refine g_isub rfl ?_
        rw [pk_sub (by omega)]
        refine r_ias (t') rfl ⟨by decide, by decide, rfl⟩ rfl (by show _ < 10; omega) ?_
        refine g_iconst (nI 1) rfl (by decide) ?_
        refine g_vret rfl trivial (by first | exact ⟨by decide, by decide⟩ | trivial) (Nat.le_refl _) (Nat.le_refl _) ?_
        exact hQ
    · rw [← nI_0, nI_eq (by omega) (by omega)] at c2
      have hQ := hF (Or.inr (by rw [nI_clamp (by omega)]; exact c2))
      refine g_iconst (nI 0) rfl (by decide) ?_
      refine g_vret rfl trivial (by first | exact ⟨by decide, by decide⟩ | trivial) (Nat.le_refl _) (Nat.le_refl _) ?_
      exact hQ
def swOk (u : rS) (b a c : Int32) : Bool := isBd u b && (isCd a && (isCd c && decide (u.2 27 (b.toNatClampNeg - 1) = 0)))
def uSwap (u : rS) (b a c : Nat) : rS := (u.1, rU (rU u.2 26 (52 * b + a) (u.2 26 (52 * b + c))) 26 (52 * b + c) (u.2 26 (52 * b + a)))
set_option maxRecDepth 20000 in
theorem r_swap {pr : aC} {d : Nat} {u : rS} (b a c : Int32) (nb : Nat) (h0 : u.1 0 = nI nb) (hnb : nb ≤ 36) {Q : Option Value → rS → Prop} (hF : swOk u b a c = false → Q (some (.int 0)) u) (hT : ∀ b' a' c', b' < nb → a' < 52 → c' < 52 → b = nI (b' + 1) → a = nI a' → c = nI c' → u.2 27 b' = 0 → Q (some (.int 1)) (uSwap u b' a' c')) : rR pr (d + 2 + 1) 164 [.ref 25, .int b, .int a, .int c] u Q := by
  refine gR_of mi_164 rFr_rf rfl (Nat.le_of_ble_eq_true rfl) ?_
  show rB pr (d + 2) cd_164 (Option.some Jvm.ClassFile.FieldType.boolean) Q 0 [some (.ref 25), some (.int b), some (.int a), some (.int c), none, none] [] u
  refine g_load rfl rfl rfl trivial ?_
  refine g_load rfl rfl rfl trivial ?_
  refine g_virtI (a := 25) (ci := 8) (n := 1) [.int b] rFr_tr rfl rfl (by decide) rfl r_this rfl (Nat.le_of_ble_eq_true rfl) (Nat.le_refl _) (Nat.le_refl _) (r_isBoard b ⟨_, rfl, ?_⟩)
  refine g_if_eq rfl (fun c1 => ?_) (fun c1 => ?_)
  · rw [bI_eq] at c1
    have hQ := hF (by simp [swOk, *])
    refine g_iconst (nI 0) rfl (by decide) ?_
    refine g_vret rfl trivial (by first | exact ⟨by decide, by decide⟩ | trivial) (Nat.le_refl _) (Nat.le_refl _) ?_
    exact hQ
  · rw [bI_ne] at c1
    refine g_load rfl rfl rfl trivial ?_
    refine g_statI [.int a] rFr_tr rfl rfl rfl (Nat.le_of_ble_eq_true rfl) (Nat.le_refl _) (Nat.le_refl _) (r_isCard a ⟨_, rfl, ?_⟩)
    refine g_if_eq rfl (fun c2 => ?_) (fun c2 => ?_)
    · rw [bI_eq] at c2
      have hQ := hF (by simp [swOk, *])
      refine g_iconst (nI 0) rfl (by decide) ?_
      refine g_vret rfl trivial (by first | exact ⟨by decide, by decide⟩ | trivial) (Nat.le_refl _) (Nat.le_refl _) ?_
      exact hQ
    · rw [bI_ne] at c2
      refine g_load rfl rfl rfl trivial ?_
      refine g_statI [.int c] rFr_tr rfl rfl rfl (Nat.le_of_ble_eq_true rfl) (Nat.le_refl _) (Nat.le_refl _) (r_isCard c ⟨_, rfl, ?_⟩)
      refine g_if_eq rfl (fun c3 => ?_) (fun c3 => ?_)
      · rw [bI_eq] at c3
        have hQ := hF (by simp [swOk, *])
        refine g_iconst (nI 0) rfl (by decide) ?_
        refine g_vret rfl trivial (by first | exact ⟨by decide, by decide⟩ | trivial) (Nat.le_refl _) (Nat.le_refl _) ?_
        exact hQ
      · rw [bI_ne] at c3
        obtain ⟨b', hb, rfl⟩ := bd_of c1 h0 (by omega)
        obtain ⟨a', ha, rfl⟩ := cd_of c2
        obtain ⟨c', hc, rfl⟩ := cd_of c3
        refine g_load rfl rfl rfl trivial ?_
        refine r_getf rfl rfl ?_
        refine g_load rfl rfl rfl trivial ?_
        refine g_iconst (nI 1) rfl (by decide) ?_
        refine g_isub rfl ?_
        refine r_za (b') rfl ⟨by decide, by decide, rfl⟩ (nI_pred b') (by show _ < 36; omega) ?_
        refine g_if_eq rfl (fun c4 => ?_) (fun c4 => ?_)
        · have hQ := hT b' a' c' hb ha hc rfl rfl rfl c4
          refine g_bipush (nI 52) rfl (by decide) ?_
          refine g_load rfl rfl rfl trivial ?_
          refine g_iconst (nI 1) rfl (by decide) ?_
          refine g_isub rfl ?_
          refine g_imul rfl ?_
          rw [show nI (b' + 1) - nI 1 = nI b' from nI_pred b', pk_mul]
          refine g_store [some (.ref 25), some (.int (nI (b' + 1))), some (.int (nI a')), some (.int (nI c')), some ((.int (nI (52 * b')))), none] rfl rfl trivial (Nat.le_of_ble_eq_true rfl) rfl ?_
          refine g_load rfl rfl rfl trivial ?_
          refine r_getf rfl rfl ?_
          refine g_load rfl rfl rfl trivial ?_
          refine g_load rfl rfl rfl trivial ?_
          refine g_iadd rfl ?_
          refine r_ia (52 * b' + a') rfl ⟨by decide, by decide, rfl⟩ (nI_add _ _) (by show _ < 1872; omega) ?_
          refine g_store [some (.ref 25), some (.int (nI (b' + 1))), some (.int (nI a')), some (.int (nI c')), some ((.int (nI (52 * b')))), some ((.int (u.2 26 (52 * b' + a'))))] rfl rfl trivial (Nat.le_of_ble_eq_true rfl) rfl ?_
          refine g_load rfl rfl rfl trivial ?_
          refine r_getf rfl rfl ?_
          refine g_load rfl rfl rfl trivial ?_
          refine g_load rfl rfl rfl trivial ?_
          refine g_iadd rfl ?_
          refine g_load rfl rfl rfl trivial ?_
          refine r_getf rfl rfl ?_
          refine g_load rfl rfl rfl trivial ?_
          refine g_load rfl rfl rfl trivial ?_
          refine g_iadd rfl ?_
          refine r_ia (52 * b' + c') rfl ⟨by decide, by decide, rfl⟩ (nI_add _ _) (by show _ < 1872; omega) ?_
          refine r_ias (52 * b' + a') rfl ⟨by decide, by decide, rfl⟩ (nI_add _ _) (by show _ < 1872; omega) ?_
          refine g_load rfl rfl rfl trivial ?_
          refine r_getf rfl rfl ?_
          refine g_load rfl rfl rfl trivial ?_
          refine g_load rfl rfl rfl trivial ?_
          refine g_iadd rfl ?_
          refine g_load rfl rfl rfl trivial ?_
          refine r_ias (52 * b' + c') rfl ⟨by decide, by decide, rfl⟩ (nI_add _ _) (by show _ < 1872; omega) ?_
          refine g_iconst (nI 1) rfl (by decide) ?_
          refine g_vret rfl trivial (by first | exact ⟨by decide, by decide⟩ | trivial) (Nat.le_refl _) (Nat.le_refl _) ?_
          exact hQ
        · have hQ := hF (by
            have : ¬ u.2 27 ((nI (b' + 1)).toNatClampNeg - 1) = 0 := by rw [nI_clamp (by omega)]; exact c4
            simp [swOk, this])
          refine g_iconst (nI 0) rfl (by decide) ?_
          refine g_vret rfl trivial (by first | exact ⟨by decide, by decide⟩ | trivial) (Nat.le_refl _) (Nat.le_refl _) ?_
          exact hQ
/-- whether a board may begin -/
def bgOk (u : rS) (nr : Nat) (t b n e : Int32) : Bool := inF t 0 9 && (isBd u b && (inF n 0 39 && (inF e 0 39 && (decide (u.2 28 t.toNatClampNeg = 0) && (decide (first (tabF u b) 0 10 = none) && (!(anyN (playF u n) 10) && (!(anyN (playF u e) 10) && (decide (¬ n = e) && (!(anyN (hasF u n b) nr) && (!(anyN (hasF u e b) nr) && decide (nr < 200)))))))))))
def uBegin (u : rS) (t b : Nat) (n e : Int32) : rS := (u.1, rU (rU (rU (rU (rU (rU (rU u.2 28 t (nI 1)) 29 t (nI (b + 1))) 30 (2 * t) n) 30 (2 * t + 1) e) 31 t (nI 0)) 32 t (nI 0)) 27 b 1)
theorem first_lt {p : Nat → Bool} : ∀ {n i t : Nat}, first p i n = some t → t < i + n ∧ i ≤ t ∧ p t = true
  | 0, i, t, h => by cases h
  | n + 1, i, t, h => by
    unfold first at h
    split at h
    · rename_i hp; cases h; exact ⟨by omega, by omega, hp⟩
    · have := first_lt h
      exact ⟨by omega, by omega, this.2.2⟩
theorem oI_none {o : Option Nat} (h : o = none) : oI o = -1 := by subst h; rfl
set_option maxRecDepth 20000 in
theorem r_begin {pr : aC} {d : Nat} {u : rS} (t b n e : Int32) (nr : Nat) (h1 : u.1 1 = nI nr) (hn : nr ≤ 220) (nb : Nat) (h0 : u.1 0 = nI nb) (hnb : nb ≤ 36) {Q : Option Value → rS → Prop} (hF : bgOk u nr t b n e = false → Q (some (.int 0)) u) (hT : ∀ t' b', t' < 10 → b' < nb → t = nI t' → b = nI (b' + 1) → bgOk u nr t b n e = true → Q (some (.int 1)) (uBegin u t' b' n e)) : rR pr (d + 2 + 1) 174 [.ref 25, .int t, .int b, .int n, .int e] u Q := by
  refine gR_of mi_174 rFr_rf rfl (Nat.le_of_ble_eq_true rfl) ?_
  show rB pr (d + 2) cd_174 (Option.some Jvm.ClassFile.FieldType.boolean) Q 0 [some (.ref 25), some (.int t), some (.int b), some (.int n), some (.int e)] [] u
  refine g_load rfl rfl rfl trivial ?_
  refine g_iconst (nI 0) rfl (by decide) ?_
  refine g_bipush (nI 9) rfl (by decide) ?_
  refine g_statI [.int t, .int (nI 0), .int (nI 9)] rFr_tr rfl rfl rfl (Nat.le_of_ble_eq_true rfl) (Nat.le_refl _) (Nat.le_refl _) (r_in t 0 9 ⟨_, rfl, ?_⟩)
  refine g_if_eq rfl (fun c1 => ?_) (fun c1 => ?_)
  · rw [bI_eq] at c1
    have hQ := hF (by simp [bgOk, *])
    refine g_iconst (nI 0) rfl (by decide) ?_
    refine g_vret rfl trivial (by first | exact ⟨by decide, by decide⟩ | trivial) (Nat.le_refl _) (Nat.le_refl _) ?_
    exact hQ
  · rw [bI_ne] at c1
    refine g_load rfl rfl rfl trivial ?_
    refine g_load rfl rfl rfl trivial ?_
    refine g_virtI (a := 25) (ci := 8) (n := 1) [.int b] rFr_tr rfl rfl (by decide) rfl r_this rfl (Nat.le_of_ble_eq_true rfl) (Nat.le_refl _) (Nat.le_refl _) (r_isBoard b ⟨_, rfl, ?_⟩)
    refine g_if_eq rfl (fun c2 => ?_) (fun c2 => ?_)
    · rw [bI_eq] at c2
      have hQ := hF (by simp [bgOk, *])
      refine g_iconst (nI 0) rfl (by decide) ?_
      refine g_vret rfl trivial (by first | exact ⟨by decide, by decide⟩ | trivial) (Nat.le_refl _) (Nat.le_refl _) ?_
      exact hQ
    · rw [bI_ne] at c2
      refine g_load rfl rfl rfl trivial ?_
      refine g_iconst (nI 0) rfl (by decide) ?_
      refine g_bipush (nI 39) rfl (by decide) ?_
      refine g_statI [.int n, .int (nI 0), .int (nI 39)] rFr_tr rfl rfl rfl (Nat.le_of_ble_eq_true rfl) (Nat.le_refl _) (Nat.le_refl _) (r_in n 0 39 ⟨_, rfl, ?_⟩)
      refine g_if_eq rfl (fun c3 => ?_) (fun c3 => ?_)
      · rw [bI_eq] at c3
        have hQ := hF (by simp [bgOk, *])
        refine g_iconst (nI 0) rfl (by decide) ?_
        refine g_vret rfl trivial (by first | exact ⟨by decide, by decide⟩ | trivial) (Nat.le_refl _) (Nat.le_refl _) ?_
        exact hQ
      · rw [bI_ne] at c3
        refine g_load rfl rfl rfl trivial ?_
        refine g_iconst (nI 0) rfl (by decide) ?_
        refine g_bipush (nI 39) rfl (by decide) ?_
        refine g_statI [.int e, .int (nI 0), .int (nI 39)] rFr_tr rfl rfl rfl (Nat.le_of_ble_eq_true rfl) (Nat.le_refl _) (Nat.le_refl _) (r_in e 0 39 ⟨_, rfl, ?_⟩)
        refine g_if_ne rfl (fun c4 => ?_) (fun c4 => ?_)
        · rw [bI_ne] at c4
          obtain ⟨t', ht, rfl⟩ := tb_of c1
          obtain ⟨b', hb, rfl⟩ := bd_of c2 h0 (by omega)
          have e0 : (nI t').toNatClampNeg = t' := nI_clamp (by omega)
          refine g_load rfl rfl rfl trivial ?_
          refine r_getf rfl rfl ?_
          refine g_load rfl rfl rfl trivial ?_
          refine r_ia (t') rfl ⟨by decide, by decide, rfl⟩ rfl (by show _ < 10; omega) ?_
          refine g_if_ne rfl (fun c5 => ?_) (fun c5 => ?_)
          · have hQ := hF (by simp [bgOk, *])
            refine g_iconst (nI 0) rfl (by decide) ?_
            refine g_vret rfl trivial (by first | exact ⟨by decide, by decide⟩ | trivial) (Nat.le_refl _) (Nat.le_refl _) ?_
            exact hQ
          · refine g_load rfl rfl rfl trivial ?_
            refine g_load rfl rfl rfl trivial ?_
            refine g_virtI (a := 25) (ci := 8) (n := 1) [(.int (nI (b' + 1)))] rFr_tr rfl rfl (by decide) rfl r_this rfl (Nat.le_of_ble_eq_true rfl) (Nat.le_refl _) (Nat.le_refl _) (r_tableOf (nI (b' + 1)) ⟨_, rfl, ?_⟩)
            refine g_iconst (-1) rfl (by decide) ?_
            refine g_icmp_ne rfl (fun c6 => ?_) (fun c6 => ?_)
            · have hfn : ¬ first (tabF u (nI (b' + 1))) 0 10 = none := fun q => c6 (oI_none q)
              have hQ := hF (by simp [bgOk, *])
              refine g_iconst (nI 0) rfl (by decide) ?_
              refine g_vret rfl trivial (by first | exact ⟨by decide, by decide⟩ | trivial) (Nat.le_refl _) (Nat.le_refl _) ?_
              exact hQ
            · have hfn : first (tabF u (nI (b' + 1))) 0 10 = none := oI_m1 c6 (fun i hi => by have := first_lt hi; omega)
              refine g_load rfl rfl rfl trivial ?_
              refine g_load rfl rfl rfl trivial ?_
              refine g_virtI (a := 25) (ci := 8) (n := 1) [.int n] rFr_tr rfl rfl (by decide) rfl r_this rfl (Nat.le_of_ble_eq_true rfl) (Nat.le_refl _) (Nat.le_refl _) (r_isPlaying n ⟨_, rfl, ?_⟩)
              refine g_if_ne rfl (fun c7 => ?_) (fun c7 => ?_)
              · rw [bI_ne] at c7
                have hQ := hF (by simp [bgOk, *])
                refine g_iconst (nI 0) rfl (by decide) ?_
                refine g_vret rfl trivial (by first | exact ⟨by decide, by decide⟩ | trivial) (Nat.le_refl _) (Nat.le_refl _) ?_
                exact hQ
              · rw [bI_eq] at c7
                refine g_load rfl rfl rfl trivial ?_
                refine g_load rfl rfl rfl trivial ?_
                refine g_virtI (a := 25) (ci := 8) (n := 1) [.int e] rFr_tr rfl rfl (by decide) rfl r_this rfl (Nat.le_of_ble_eq_true rfl) (Nat.le_refl _) (Nat.le_refl _) (r_isPlaying e ⟨_, rfl, ?_⟩)
                refine g_if_ne rfl (fun c8 => ?_) (fun c8 => ?_)
                · rw [bI_ne] at c8
                  have hQ := hF (by simp [bgOk, *])
                  refine g_iconst (nI 0) rfl (by decide) ?_
                  refine g_vret rfl trivial (by first | exact ⟨by decide, by decide⟩ | trivial) (Nat.le_refl _) (Nat.le_refl _) ?_
                  exact hQ
                · rw [bI_eq] at c8
                  refine g_load rfl rfl rfl trivial ?_
                  refine g_load rfl rfl rfl trivial ?_
                  refine g_icmp_ne rfl (fun c9 => ?_) (fun c9 => ?_)
                  · have hne := c9
                    refine g_load rfl rfl rfl trivial ?_
                    refine g_load rfl rfl rfl trivial ?_
                    refine g_load rfl rfl rfl trivial ?_
                    refine g_virtI (a := 25) (ci := 8) (n := 2) [(.int n), (.int (nI (b' + 1)))] rFr_tr rfl rfl (by decide) rfl r_this rfl (Nat.le_of_ble_eq_true rfl) (Nat.le_refl _) (Nat.le_refl _) (r_hasPlayed n (nI (b' + 1)) nr h1 hn ⟨_, rfl, ?_⟩)
                    refine g_if_ne rfl (fun c10 => ?_) (fun c10 => ?_)
                    · rw [bI_ne] at c10
                      have hQ := hF (by simp [bgOk, *])
                      refine g_iconst (nI 0) rfl (by decide) ?_
                      refine g_vret rfl trivial (by first | exact ⟨by decide, by decide⟩ | trivial) (Nat.le_refl _) (Nat.le_refl _) ?_
                      exact hQ
                    · rw [bI_eq] at c10
                      refine g_load rfl rfl rfl trivial ?_
                      refine g_load rfl rfl rfl trivial ?_
                      refine g_load rfl rfl rfl trivial ?_
                      refine g_virtI (a := 25) (ci := 8) (n := 2) [(.int e), (.int (nI (b' + 1)))] rFr_tr rfl rfl (by decide) rfl r_this rfl (Nat.le_of_ble_eq_true rfl) (Nat.le_refl _) (Nat.le_refl _) (r_hasPlayed e (nI (b' + 1)) nr h1 hn ⟨_, rfl, ?_⟩)
                      refine g_if_ne rfl (fun c11 => ?_) (fun c11 => ?_)
                      · rw [bI_ne] at c11
                        have hQ := hF (by simp [bgOk, *])
                        refine g_iconst (nI 0) rfl (by decide) ?_
                        refine g_vret rfl trivial (by first | exact ⟨by decide, by decide⟩ | trivial) (Nat.le_refl _) (Nat.le_refl _) ?_
                        exact hQ
                      · rw [bI_eq] at c11
                        refine g_load rfl rfl rfl trivial ?_
                        refine r_getf rfl rfl ?_
                        refine g_sipush (nI 200) rfl (by decide) ?_
                        rw [h1]
                        refine g_icmp_lt rfl (fun c12 => ?_) (fun c12 => ?_)
                        · rw [nI_ltI (by omega) (by omega)] at c12
                          have hQ := hT t' b' ht hb rfl rfl (by simp [bgOk, *])
                          refine g_load rfl rfl rfl trivial ?_
                          refine r_getf rfl rfl ?_
                          refine g_load rfl rfl rfl trivial ?_
                          refine g_iconst (nI 1) rfl (by decide) ?_
                          refine r_ias (t') rfl ⟨by decide, by decide, rfl⟩ rfl (by show _ < 10; omega) ?_
                          refine g_load rfl rfl rfl trivial ?_
                          refine r_getf rfl rfl ?_
                          refine g_load rfl rfl rfl trivial ?_
                          refine g_load rfl rfl rfl trivial ?_
                          refine r_ias (t') rfl ⟨by decide, by decide, rfl⟩ rfl (by show _ < 10; omega) ?_
                          refine g_load rfl rfl rfl trivial ?_
                          refine r_getf rfl rfl ?_
                          refine g_iconst (nI 2) rfl (by decide) ?_
                          refine g_load rfl rfl rfl trivial ?_
                          refine g_imul rfl ?_
                          refine g_load rfl rfl rfl trivial ?_
                          refine r_ias (2 * t') rfl ⟨by decide, by decide, rfl⟩ (pk_mul 2 t') (by show _ < 20; omega) ?_
                          refine g_load rfl rfl rfl trivial ?_
                          refine r_getf rfl rfl ?_
                          refine g_iconst (nI 2) rfl (by decide) ?_
                          refine g_load rfl rfl rfl trivial ?_
                          refine g_imul rfl ?_
                          refine g_iconst (nI 1) rfl (by decide) ?_
                          refine g_iadd rfl ?_
                          refine g_load rfl rfl rfl trivial ?_
                          refine r_ias (2 * t' + 1) rfl ⟨by decide, by decide, rfl⟩ (by rw [pk_mul, nI_add]) (by show _ < 20; omega) ?_
                          refine g_load rfl rfl rfl trivial ?_
                          refine r_getf rfl rfl ?_
                          refine g_load rfl rfl rfl trivial ?_
                          refine g_iconst (nI 0) rfl (by decide) ?_
                          refine r_ias (t') rfl ⟨by decide, by decide, rfl⟩ rfl (by show _ < 10; omega) ?_
                          refine g_load rfl rfl rfl trivial ?_
                          refine r_getf rfl rfl ?_
                          refine g_load rfl rfl rfl trivial ?_
                          refine g_iconst (nI 0) rfl (by decide) ?_
                          refine r_ias (t') rfl ⟨by decide, by decide, rfl⟩ rfl (by show _ < 10; omega) ?_
                          refine g_load rfl rfl rfl trivial ?_
                          refine r_getf rfl rfl ?_
                          refine g_load rfl rfl rfl trivial ?_
                          refine g_iconst (nI 1) rfl (by decide) ?_
                          refine g_isub rfl ?_
                          refine g_iconst (nI 1) rfl (by decide) ?_
                          refine r_zas (b') rfl ⟨by decide, by decide, rfl⟩ (nI_pred b') (by show _ < 36; omega) ?_
                          refine g_iconst (nI 1) rfl (by decide) ?_
                          refine g_vret rfl trivial (by first | exact ⟨by decide, by decide⟩ | trivial) (Nat.le_refl _) (Nat.le_refl _) ?_
                          exact hQ
                        · rw [nI_ltI (by omega) (by omega)] at c12
                          have hQ := hF (by simp [bgOk, *])
                          refine g_iconst (nI 0) rfl (by decide) ?_
                          refine g_vret rfl trivial (by first | exact ⟨by decide, by decide⟩ | trivial) (Nat.le_refl _) (Nat.le_refl _) ?_
                          exact hQ
                  · have hQ := hF (by simp [bgOk, *])
                    refine g_iconst (nI 0) rfl (by decide) ?_
                    refine g_vret rfl trivial (by first | exact ⟨by decide, by decide⟩ | trivial) (Nat.le_refl _) (Nat.le_refl _) ?_
                    exact hQ
        · rw [bI_eq] at c4
          have hQ := hF (by simp [bgOk, *])
          refine g_iconst (nI 0) rfl (by decide) ?_
          refine g_vret rfl trivial (by first | exact ⟨by decide, by decide⟩ | trivial) (Nat.le_refl _) (Nat.le_refl _) ?_
          exact hQ
