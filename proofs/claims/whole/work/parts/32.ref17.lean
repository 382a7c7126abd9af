/-! ===== the reference: search ===== -/
/-- what search leaves: the places as they were, and the cards ahead in the trick -/
def sPost (u v : rS) (mn : Nat) : Prop := v.1 = u.1 ∧ (∀ a, a ≠ 48 → a ≠ 49 → v.2 a = u.2 a) ∧ (∀ j, j < 16 → v.2 48 j = u.2 48 j) ∧ ∀ j, j < mn → v.2 49 j = u.2 49 j
theorem sPost.rf (u : rS) (mn : Nat) : sPost u u mn := ⟨rfl, fun _ _ _ => rfl, fun _ _ => rfl, fun _ _ => rfl⟩
/-- what search needs -/
def sPre (u : rS) (H : Nat → Nat → Bool) (tr sd ld mn t : Nat) : Prop := u.1 29 = nI tr ∧ u.1 30 = nI sd ∧ tr < 5 ∧ sd < 2 ∧ sRep (u.2 48) H ∧ sOk H ld mn t ∧ ∀ j, j < mn → ∃ c, c < 52 ∧ u.2 49 j = nI c
theorem sRep_congr {f g : Nat → Int32} {H : Nat → Nat → Bool} (h : sRep f H) (e : ∀ j, j < 16 → g j = f j) : sRep g H := by
  obtain ⟨h1, h2, h3⟩ := h
  refine ⟨fun s k hs hk => ?_, fun s c hs hc hh => ?_, fun s k k' c hs hk hk' hc e1 e2 => ?_⟩
  · rw [e _ (by omega)]; exact h1 s k hs hk
  · obtain ⟨k, z1, z2⟩ := h2 s c hs hc hh
    exact ⟨k, z1, by rw [e _ (by omega)]; exact z2⟩
  · rw [e _ (by omega)] at e1 e2; exact h3 s k k' c hs hk hk' hc e1 e2
/-- whether a place of seat s holds a card of the suit that was led -/
def flQ (f g : Nat → Int32) (s k : Nat) : Bool := decide (¬ f (4 * s + k) = -1 ∧ f (4 * s + k) / nI 13 = g 0 / nI 13)
def flF (f g : Nat → Int32) (s mn : Nat) : Bool := decide (0 < mn) && anyN (flQ f g s) 4
set_option maxRecDepth 20000 in
theorem r_search_f {pr : aC} {d : Nat} {u : rS} (ld mn t s : Nat) (o5 o6 : Int32) (hs : s < 4) (hmn : mn < 4) {Q : Option Value → rS → Prop} (hQ : ∀ k8, rB pr (d + 2) cd_205 (some .int) Q 133 [some (.ref 25), some (.int (nI ld)), some (.int (nI mn)), some (.int (nI t)), some (.int (nI s)), some (.int o5), some (.int o6), some (.int (bI (flF (u.2 48) (u.2 49) s mn))), some (.int k8), none, none] [] u) : ∀ (zz : Nat) (x : Nat) (hm : 4 - x < zz) (hle : x ≤ 4), rB pr (d + 2) cd_205 (Option.some Jvm.ClassFile.FieldType.int) Q 99 [some (.ref 25), some (.int (nI ld)), some (.int (nI mn)), some (.int (nI t)), some (.int (nI s)), some (.int o5), some (.int o6), some (.int (bI (decide (0 < mn) && anyN (flQ (u.2 48) (u.2 49) s) x))), some (.int (nI (4 * s + x))), none, none] [] u := by
  intro zz
  induction zz with
  | zero => intro x hm hle; exact absurd hm (by omega)
  | succ zz ih =>
    intro x hm hle
    refine g_load rfl rfl rfl trivial ?_
    refine g_iconst (nI 4) rfl (by decide) ?_
    refine g_load rfl rfl rfl trivial ?_
    refine g_imul rfl ?_
    refine g_iconst (nI 4) rfl (by decide) ?_
    refine g_iadd rfl ?_
    rw [pk_mul, nI_add]
    refine g_icmp_ge rfl (fun c1 => ?_) (fun c1 => ?_)
    · rw [nI_leI (by omega) (by omega)] at c1
      have hx : x = 4 := by omega
      subst hx
      exact hQ _
    · rw [nI_leI (by omega) (by omega)] at c1
      refine g_load rfl rfl rfl trivial ?_
      refine g_if_le rfl (fun c2 => ?_) (fun c2 => ?_)
      · rw [← nI_0, nI_leI (by omega) (by omega)] at c2
        have h0 : decide (0 < mn) = false := decide_eq_false (by omega)
        have hQ := hQ (nI (4 * s + x))
        unfold flF at hQ
        rw [h0] at hQ ⊢
        exact hQ
      · rw [← nI_0, nI_leI (by omega) (by omega)] at c2
        have h0 : decide (0 < mn) = true := decide_eq_true (by omega)
        rw [h0, Bool.true_and]
        refine g_load rfl rfl rfl trivial ?_
        have K3 : ∀ e3 : Int32, e3 = bI (anyN (flQ (u.2 48) (u.2 49) s) (x + 1)) → rB pr (d + 2) cd_205 (Option.some Jvm.ClassFile.FieldType.int) Q 130 [some (.ref 25), some (.int (nI ld)), some (.int (nI mn)), some (.int (nI t)), some (.int (nI s)), some (.int o5), some (.int o6), some (.int (bI (anyN (flQ (u.2 48) (u.2 49) s) x))), some (.int (nI (4 * s + x))), none, none] [.int e3] u := by
          intro e3 he3
          subst he3
          refine g_store [some (.ref 25), some (.int (nI ld)), some (.int (nI mn)), some (.int (nI t)), some (.int (nI s)), some (.int o5), some (.int o6), some (.int (bI (anyN (flQ (u.2 48) (u.2 49) s) (x + 1)))), some (.int (nI (4 * s + x))), none, none] rfl rfl trivial (Nat.le_of_ble_eq_true rfl) rfl ?_
          refine g_iinc (nI (4 * s + (x + 1))) [some (.ref 25), some (.int (nI ld)), some (.int (nI mn)), some (.int (nI t)), some (.int (nI s)), some (.int o5), some (.int o6), some (.int (bI (anyN (flQ (u.2 48) (u.2 49) s) (x + 1)))), some (.int (nI (4 * s + (x + 1)))), none, none] rfl rfl (nI_1 (4 * s + x)) rfl ?_
          refine g_goto rfl ?_
          have K := ih (x + 1) (by omega) (by omega)
          rw [h0, Bool.true_and] at K
          exact K
        refine g_if_ne rfl (fun c3 => ?_) (fun c3 => ?_)
        · rw [bI_ne] at c3
          have ha : anyN (flQ (u.2 48) (u.2 49) s) (x + 1) = true := by simp [anyN, c3]
          refine g_iconst (nI 1) rfl (by decide) ?_
          refine g_goto rfl ?_
          exact K3 _ (by rw [ha]; rfl)
        · rw [bI_eq] at c3
          have hany := c3
          refine g_load rfl rfl rfl trivial ?_
          refine r_getf rfl rfl ?_
          refine g_load rfl rfl rfl trivial ?_
          refine r_ia (4 * s + x) rfl ⟨by decide, by decide, rfl⟩ rfl (by show _ < 16; omega) ?_
          refine g_iconst (-1) rfl (by decide) ?_
          refine g_icmp_eq rfl (fun c4 => ?_) (fun c4 => ?_)
          · have ha : anyN (flQ (u.2 48) (u.2 49) s) (x + 1) = false := by simp [anyN, hany, flQ, c4]
            refine g_iconst (nI 0) rfl (by decide) ?_
            exact K3 _ (by rw [ha]; rfl)
          · refine g_load rfl rfl rfl trivial ?_
            refine r_getf rfl rfl ?_
            refine g_load rfl rfl rfl trivial ?_
            refine r_ia (4 * s + x) rfl ⟨by decide, by decide, rfl⟩ rfl (by show _ < 16; omega) ?_
            refine g_statI [.int (u.2 48 (4 * s + x))] rFr_tr rfl rfl rfl (Nat.le_of_ble_eq_true rfl) (Nat.le_refl _) (Nat.le_refl _) (r_suit (u.2 48 (4 * s + x)) ⟨_, rfl, ?_⟩)
            refine g_load rfl rfl rfl trivial ?_
            refine r_getf rfl rfl ?_
            refine g_iconst (nI 0) rfl (by decide) ?_
            refine r_ia (0) rfl ⟨by decide, by decide, rfl⟩ rfl (by decide) ?_
            refine g_statI [.int (u.2 49 0)] rFr_tr rfl rfl rfl (Nat.le_of_ble_eq_true rfl) (Nat.le_refl _) (Nat.le_refl _) (r_suit (u.2 49 0) ⟨_, rfl, ?_⟩)
            refine g_icmp_ne rfl (fun c5 => ?_) (fun c5 => ?_)
            · have ha : anyN (flQ (u.2 48) (u.2 49) s) (x + 1) = false := by simp [anyN, hany, flQ, c5]
              refine g_iconst (nI 0) rfl (by decide) ?_
              exact K3 _ (by rw [ha]; rfl)
            · have ha : anyN (flQ (u.2 48) (u.2 49) s) (x + 1) = true := by simp [anyN, flQ, *]
              refine g_iconst (nI 1) rfl (by decide) ?_
              refine g_goto rfl ?_
              exact K3 _ (by rw [ha]; rfl)
