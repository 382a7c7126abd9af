/-! ===== two cards of one hand with none between them that matters: either may be played ===== -/
def sg (a b c : Nat) : Nat := if c = a then b else if c = b then a else c
theorem sg_a (a b : Nat) : sg a b a = b := if_pos rfl
theorem sg_b (a b : Nat) : sg a b b = a := by unfold sg; split <;> simp_all
theorem sg_n {a b c : Nat} (h1 : c ≠ a) (h2 : c ≠ b) : sg a b c = c := by unfold sg; rw [if_neg h1, if_neg h2]
theorem sg_sg (a b c : Nat) : sg a b (sg a b c) = c := by
  by_cases h1 : c = a
  · subst h1; rw [sg_a, sg_b]
  · by_cases h2 : c = b
    · subst h2; rw [sg_b, sg_a]
    · rw [sg_n h1 h2, sg_n h1 h2]
theorem sg_lt {a b c : Nat} (ha : a < 52) (hb : b < 52) (hc : c < 52) : sg a b c < 52 := by unfold sg; split <;> (try split) <;> omega
theorem sg_su {a b : Nat} (h : a / 13 = b / 13) (c : Nat) : sg a b c / 13 = c / 13 := by
  unfold sg
  split
  · subst c; exact h.symm
  · split
    · subst c; exact h
    · rfl
/-- the hands H and H' differ by the exchange of a and b, of which nobody can tell -/
def swR (a b : Nat) (H H' : Nat → Nat → Bool) (s k top top' : Nat) : Prop := (∀ x c, H' x c = H x (sg a b c)) ∧ (∀ x c, x < 4 → a < c → c < b → H x c = false) ∧ (∀ x y, x < 4 → y < 4 → H x a = true → H y b = false) ∧ (0 < k → top' = sg a b top ∧ ¬ (a < top ∧ top < b) ∧ ((top = a ∨ top = b) → ∀ j, j < 4 - k → H ((s + j) % 4) (sg a b top) = false))
theorem gTk_sw {a b : Nat} {H H' : Nat → Nat → Bool} {s k top top' c : Nat} (hab : a < b) (hsu : a / 13 = b / 13) (hs : s < 4) (hk : k < 4) (hR : swR a b H H' s k top top') (tr : Nat) (hc : H s c = true) : gTk k (sg a b c) top' tr = gTk k c top tr := by
  obtain ⟨h1, h2, h3, h4⟩ := hR
  unfold gTk
  by_cases hk0 : k = 0
  · simp [hk0]
  · obtain ⟨e, n1, n2⟩ := h4 (by omega)
    rw [e, sg_su hsu, sg_su hsu]
    have hcn : ¬ (a < c ∧ c < b) := by
      rintro ⟨z1, z2⟩
      rw [h2 s c hs z1 z2] at hc; cases hc
    have key : (sg a b top < sg a b c) ↔ top < c := by
      have hx : (top = a ∨ top = b) → c ≠ sg a b top := by
        intro z e2
        have := n2 z 0 (by omega)
        rw [show (s + 0) % 4 = s by omega, ← e2, hc] at this
        cases this
      by_cases t1 : top = a
      · subst t1
        rw [sg_a] at hx ⊢
        have hx := hx (Or.inl rfl)
        by_cases c1 : c = top
        · subst c1; rw [sg_a]; omega
        · rw [sg_n c1 hx]; omega
      · by_cases t2 : top = b
        · subst t2
          rw [sg_b] at hx ⊢
          have hx := hx (Or.inr rfl)
          by_cases c1 : c = top
          · subst c1; rw [sg_b]; omega
          · rw [sg_n hx c1]; omega
        · rw [sg_n t1 t2]
          by_cases c1 : c = a
          · subst c1; rw [sg_a]; omega
          · by_cases c2 : c = b
            · subst c2; rw [sg_b]; omega
            · rw [sg_n c1 c2]
    simp only [key]
theorem gRm_sw {a b s c : Nat} {H H' : Nat → Nat → Bool} (h : ∀ x d, H' x d = H x (sg a b d)) (x d : Nat) : gRm H' s (sg a b c) x d = gRm H s c x (sg a b d) := by
  unfold gRm
  have e : (x = s ∧ d = sg a b c) ↔ (x = s ∧ sg a b d = c) := by
    constructor
    · rintro ⟨p, q⟩; exact ⟨p, by rw [q, sg_sg]⟩
    · rintro ⟨p, q⟩; exact ⟨p, by rw [← q, sg_sg]⟩
  simp only [e, h]
theorem gRm_f {H : Nat → Nat → Bool} {s c x d : Nat} (h : H x d = false) : gRm H s c x d = false := by
  unfold gRm; split
  · rfl
  · exact h
theorem gRm_t {H : Nat → Nat → Bool} {s c x d : Nat} (h : gRm H s c x d = true) : H x d = true := by
  unfold gRm at h; split at h
  · cases h
  · exact h
theorem swR.next {a b : Nat} {H H' : Nat → Nat → Bool} {s k top top' c tr : Nat} (hab : a < b) (hsu : a / 13 = b / 13) (hs : s < 4) (hk : k < 3) (hR : swR a b H H' s k top top') (hc : H s c = true) : swR a b (gRm H s c) (gRm H' s (sg a b c)) ((s + 1) % 4) (k + 1) (if gTk k c top tr then c else top) (if gTk k (sg a b c) top' tr then sg a b c else top') := by
  have ht := gTk_sw hab hsu hs (by omega) hR tr hc
  obtain ⟨h1, h2, h3, h4⟩ := hR
  refine ⟨gRm_sw h1, fun x d hx z1 z2 => gRm_f (h2 x d hx z1 z2), fun x y hx hy z => gRm_f (h3 x y hx hy (gRm_t z)), fun _ => ?_⟩
  rw [ht]
  by_cases ht : gTk k c top tr = true
  · rw [if_pos ht, if_pos ht]
    refine ⟨rfl, ?_, fun hz j hj => ?_⟩
    · rintro ⟨z1, z2⟩
      rw [h2 s c hs z1 z2] at hc; cases hc
    · refine gRm_f ?_
      rcases hz with rfl | rfl
      · rw [sg_a]; exact h3 s _ hs (by omega) hc
      · rw [sg_b]
        cases e : H (((s + 1) % 4 + j) % 4) a
        · rfl
        · have := h3 _ s (by omega) hs e; rw [hc] at this; cases this
  · have hk0 : 0 < k := by
      apply Nat.pos_of_ne_zero
      intro e; apply ht; unfold gTk; simp [e]
    obtain ⟨e, n1, n2⟩ := h4 hk0
    rw [if_neg ht, if_neg ht]
    refine ⟨e, n1, fun hz j hj => gRm_f ?_⟩
    have := n2 hz (j + 1) (by omega)
    rw [show ((s + 1) % 4 + j) % 4 = (s + (j + 1)) % 4 by omega]
    exact this
theorem swR.trick {a b : Nat} {H H' : Nat → Nat → Bool} {s k top top' c s' x y : Nat} (hR : swR a b H H' s k top top') : swR a b (gRm H s c) (gRm H' s (sg a b c)) s' 0 x y := by
  obtain ⟨h1, h2, h3, h4⟩ := hR
  exact ⟨gRm_sw h1, fun x d hx z1 z2 => gRm_f (h2 x d hx z1 z2), fun x y hx hy z => gRm_f (h3 x y hx hy (gRm_t z)), fun z => absurd z (by omega)⟩
theorem gLg_sw {a b : Nat} {H H' : Nat → Nat → Bool} {s c : Nat} {led : Option Nat} (ha : a < 52) (hb : b < 52) (hsu : a / 13 = b / 13) (h : ∀ x d, H' x d = H x (sg a b d)) (hc : gLg H s led c) : gLg H' s led (sg a b c) := by
  obtain ⟨g1, g2, g3⟩ := hc
  refine ⟨sg_lt ha hb g1, by rw [h, sg_sg]; exact g2, fun q hq => ?_⟩
  rw [sg_su hsu]
  refine (g3 q hq).imp id (fun z c' hc' hh => ?_)
  rw [h] at hh
  have := z _ (sg_lt ha hb hc') hh
  rw [sg_su hsu] at this
  exact this
theorem swR.symm {a b : Nat} {H H' : Nat → Nat → Bool} {s k top top' : Nat} (hab : a < b) (hR : swR a b H H' s k top top') : swR a b H' H s k top' top := by
  obtain ⟨h1, h2, h3, h4⟩ := hR
  refine ⟨fun x c => by rw [h1, sg_sg], fun x c hx z1 z2 => by rw [h1, sg_n (by omega) (by omega)]; exact h2 x c hx z1 z2, fun x y hx hy z => ?_, fun hk => ?_⟩
  · rw [h1, sg_a] at z
    rw [h1, sg_b]
    cases e : H y a
    · rfl
    · have := h3 y x hy hx e; rw [z] at this; cases this
  · obtain ⟨e, n1, n2⟩ := h4 hk
    have ee : top = sg a b top' := by rw [e, sg_sg]
    refine ⟨ee, ?_, fun hz j hj => ?_⟩
    · rw [e]; unfold sg; split <;> (try split) <;> omega
    · rw [h1, sg_sg, e]
      refine n2 ?_ j hj
      rw [ee]
      rcases hz with z | z
      · rw [z, sg_a]; exact Or.inr rfl
      · rw [z, sg_b]; exact Or.inl rfl
theorem gw_sw {a b : Nat} (tr sd : Nat) (hab : a < b) (ha : a < 52) (hb : b < 52) (hsu : a / 13 = b / 13) : ∀ (n need : Nat) (H H' : Nat → Nat → Bool) (s k : Nat) (led : Option Nat) (top top' w : Nat), s < 4 → k < 4 → w < 4 → swR a b H H' s k top top' → gw tr sd n need H s k led top w → gw tr sd n need H' s k led top' w
  | 0, need, H, H', s, k, led, top, top', w, _, _, _, _, h => h
  | n + 1, need, H, H', s, k, led, top, top', w, hs, hk, hw, hR, h => by
    rw [gw_s] at h ⊢
    have hc : ∀ c, H s c = true → gCh tr sd n need H s k led top w c → gCh tr sd n need H' s k led top' w (sg a b c) := by
      intro c hc h
      have ht := gTk_sw hab hsu hs hk hR tr hc
      have hlt : (if gTk k c top tr then s else w) < 4 := by split <;> omega
      unfold gCh at h ⊢
      by_cases q : k = 3
      · rw [if_pos q] at h ⊢
        rw [ht]
        exact gw_sw tr sd hab ha hb hsu n _ _ _ _ _ _ _ _ _ hlt (by omega) (by omega) hR.trick h
      · rw [if_neg q] at h ⊢
        have := gw_sw tr sd hab ha hb hsu n _ _ _ _ _ _ _ _ _ (Nat.mod_lt _ (by omega)) (by omega) hlt (hR.next (tr := tr) hab hsu hs (by omega) hc) h
        rw [sg_su hsu]
        rw [ht] at this ⊢
        exact this
    split
    · rename_i q; rw [if_pos q] at h
      obtain ⟨c, h1, h2⟩ := h
      exact ⟨sg a b c, gLg_sw ha hb hsu hR.1 h1, hc c h1.2.1 h2⟩
    · rename_i q; rw [if_neg q] at h
      intro c h1
      have h1' := gLg_sw ha hb hsu (hR.symm hab).1 h1
      have := hc _ h1'.2.1 (h _ h1')
      rw [sg_sg] at this
      exact this
/-- each card is held once, and the best of the trick by nobody -/
def gDj (H : Nat → Nat → Bool) (k top : Nat) : Prop := (∀ x y c, x < 4 → y < 4 → H x c = true → H y c = true → x = y) ∧ (0 < k → ∀ x, x < 4 → H x top = false)
theorem gDj.next {H : Nat → Nat → Bool} {s k top c : Nat} {b : Bool} (h : gDj H k top) (hs : s < 4) (hb : b = false → 0 < k) (hc : H s c = true) (k' : Nat) : gDj (gRm H s c) k' (if b then c else top) := by
  refine ⟨fun x y d hx hy z1 z2 => h.1 x y d hx hy (gRm_t z1) (gRm_t z2), fun _ x hx => ?_⟩
  cases e : b
  · rw [if_neg (by simp)]
    exact gRm_f (h.2 (hb e) x hx)
  · rw [if_pos rfl]
    unfold gRm
    by_cases q : x = s
    · rw [if_pos ⟨q, rfl⟩]
    · rw [if_neg (fun z => q z.1)]
      cases e2 : H x c
      · rfl
      · exact absurd (h.1 x s c hx hs e2 hc) q
theorem gDj.trick {H : Nat → Nat → Bool} {s k top c : Nat} (h : gDj H k top) : gDj (gRm H s c) 0 0 :=
  ⟨fun x y d hx hy z1 z2 => h.1 x y d hx hy (gRm_t z1) (gRm_t z2), fun z => absurd z (by omega)⟩
theorem gCh_eq {a b : Nat} (tr sd n need : Nat) {H : Nat → Nat → Bool} {s k : Nat} {led : Option Nat} {top w : Nat} (hab : a < b) (hb : b < 52) (hsu : a / 13 = b / 13) (hs : s < 4) (hk : k < 4) (hw : w < 4) (hD : gDj H k top) (hHa : H s a = true) (hHb : H s b = true) (hbt : ∀ x c, x < 4 → a < c → c < b → H x c = false) (htop : 0 < k → ¬ (a ≤ top ∧ top < b)) : gCh tr sd n need H s k led top w a ↔ gCh tr sd n need H s k led top w b := by
  have htb : 0 < k → top ≠ b ∧ top ≠ a := fun hk => ⟨fun e => (by have := hD.2 hk s hs; rw [e, hHb] at this; cases this), fun e => (by have := hD.2 hk s hs; rw [e, hHa] at this; cases this)⟩
  have ht : gTk k a top tr = gTk k b top tr := by
    unfold gTk
    by_cases hk0 : k = 0
    · simp [hk0]
    · have := htop (by omega)
      have := htb (by omega)
      have e : top < a ↔ top < b := by omega
      rw [hsu]; simp only [e]
  have oth : ∀ x c, x < 4 → x ≠ s → H s c = true → H x c = false := by
    intro x c hx hxs h
    cases e : H x c
    · rfl
    · exact absurd (hD.1 x s c hx hs e h) hxs
  -- hands after either
  have hH : ∀ x c, x < 4 → gRm H s b x c = gRm H s a x (sg a b c) := by
    intro x c hx
    unfold gRm
    by_cases c1 : c = a
    · subst c1
      rw [sg_a]
      by_cases e : x = s
      · subst e; rw [if_neg (fun z => by omega), if_neg (fun z => by omega), hHa, hHb]
      · rw [if_neg (fun z => e z.1), if_neg (fun z => e z.1), oth x _ hx e hHa, oth x _ hx e hHb]
    · by_cases c2 : c = b
      · subst c2
        rw [sg_b]
        by_cases e : x = s
        · rw [if_pos ⟨e, rfl⟩, if_pos ⟨e, rfl⟩]
        · rw [if_neg (fun z => e z.1), if_neg (fun z => e z.1), oth x _ hx e hHa, oth x _ hx e hHb]
      · rw [sg_n c1 c2, if_neg (fun z => c2 z.2), if_neg (fun z => c1 z.2)]
  have hR : ∀ s' k' t t', (0 < k' → t' = sg a b t ∧ ¬ (a < t ∧ t < b) ∧ ((t = a ∨ t = b) → ∀ j, j < 4 - k' → gRm H s a ((s' + j) % 4) (sg a b t) = false)) → swR a b (gRm H s a) (fun x c => gRm H s a x (sg a b c)) s' k' t t' := by
    intro s' k' t t' h
    refine ⟨fun x c => rfl, fun x c hx z1 z2 => gRm_f (hbt x c hx z1 z2), fun x y hx hy z => ?_, h⟩
    exfalso
    unfold gRm at z
    by_cases e : x = s
    · rw [if_pos ⟨e, rfl⟩] at z; cases z
    · rw [if_neg (fun q => e q.1), oth x a hx e hHa] at z; cases z
  have hcg : ∀ x c, x < 4 → c < 52 → gRm H s b x c = gRm H s a x (sg a b c) := fun x c hx _ => hH x c hx
  unfold gCh
  by_cases q : k = 3
  · rw [if_pos q, if_pos q, ht]
    have hlt : (if gTk k b top tr then s else w) < 4 := by split <;> omega
    have r := hR (if gTk k b top tr then s else w) 0 0 0 (fun z => absurd z (by omega))
    constructor
    · intro h
      exact gw_congr tr sd n _ _ _ _ _ _ _ _ hlt (by omega) (fun x c hx hc => (hcg x c hx hc).symm) (gw_sw tr sd hab (by omega) hb hsu n _ _ _ _ _ _ _ _ _ hlt (by omega) (by omega) r h)
    · intro h
      exact gw_sw tr sd hab (by omega) hb hsu n _ _ _ _ _ _ _ _ _ hlt (by omega) (by omega) (r.symm hab) (gw_congr tr sd n _ _ _ _ _ _ _ _ hlt (by omega) (fun x c hx hc => hcg x c hx hc) h)
  · rw [if_neg q, if_neg q, ht, hsu]
    have hlt : (if gTk k b top tr then s else w) < 4 := by split <;> omega
    have r := hR ((s + 1) % 4) (k + 1) (if gTk k b top tr then a else top) (if gTk k b top tr then b else top) (fun _ => by
      by_cases e : gTk k b top tr = true
      · rw [if_pos e, if_pos e]
        refine ⟨(sg_a a b).symm, by omega, fun _ j hj => ?_⟩
        rw [sg_a]
        exact gRm_f (oth _ b (by omega) (by omega) hHb)
      · have hk0 : 0 < k := by
          apply Nat.pos_of_ne_zero
          intro z; apply e; unfold gTk; simp [z]
        rw [if_neg e, if_neg e]
        have t1 := htb hk0
        have t2 := htop hk0
        exact ⟨(sg_n t1.2 t1.1).symm, by omega, fun z => by omega⟩)
    constructor
    · intro h
      exact gw_congr tr sd n _ _ _ _ _ _ _ _ (Nat.mod_lt _ (by omega)) hlt (fun x c hx hc => (hcg x c hx hc).symm) (gw_sw tr sd hab (by omega) hb hsu n _ _ _ _ _ _ _ _ _ (Nat.mod_lt _ (by omega)) (by omega) hlt r h)
    · intro h
      exact gw_sw tr sd hab (by omega) hb hsu n _ _ _ _ _ _ _ _ _ (Nat.mod_lt _ (by omega)) (by omega) hlt (r.symm hab) (gw_congr tr sd n _ _ _ _ _ _ _ _ (Nat.mod_lt _ (by omega)) hlt (fun x c hx hc => hcg x c hx hc) h)
/-! ===== more of the game: fewer tricks are won too; one card left each ===== -/
theorem gw_mono (tr sd : Nat) : ∀ (n need need' : Nat) (H : Nat → Nat → Bool) (s k : Nat) (led : Option Nat) (top w : Nat), need' ≤ need → gw tr sd n need H s k led top w → gw tr sd n need' H s k led top w
  | 0, need, need', H, s, k, led, top, w, hl, h => by
    have h : need = 0 := h
    show need' = 0
    omega
  | n + 1, need, need', H, s, k, led, top, w, hl, h => by
    rw [gw_s] at h ⊢
    have hc : ∀ c, gCh tr sd n need H s k led top w c → gCh tr sd n need' H s k led top w c := by
      intro c h
      unfold gCh at h ⊢
      by_cases q : k = 3
      · rw [if_pos q] at h ⊢
        exact gw_mono tr sd n _ _ _ _ _ _ _ _ (Nat.sub_le_sub_right hl _) h
      · rw [if_neg q] at h ⊢
        exact gw_mono tr sd n _ _ _ _ _ _ _ _ hl h
    split
    · rename_i q; rw [if_pos q] at h
      obtain ⟨c, h1, h2⟩ := h
      exact ⟨c, h1, hc c h2⟩
    · rename_i q; rw [if_neg q] at h
      exact fun c h1 => hc c (h c h1)
theorem gCh_mono {tr sd n need need' : Nat} {H : Nat → Nat → Bool} {s k : Nat} {led : Option Nat} {top w c : Nat} (hl : need' ≤ need) (h : gCh tr sd n need H s k led top w c) : gCh tr sd n need' H s k led top w c := by
  unfold gCh at h ⊢
  by_cases q : k = 3
  · rw [if_pos q] at h ⊢
    exact gw_mono tr sd n _ _ _ _ _ _ _ _ (Nat.sub_le_sub_right hl _) h
  · rw [if_neg q] at h ⊢
    exact gw_mono tr sd n _ _ _ _ _ _ _ _ hl h
/-- a card is worth what the place is worth: asked by yes or no -/
theorem gVc_iff {tr sd n : Nat} {H : Nat → Nat → Bool} {s k : Nat} {led : Option Nat} {top w c r : Nat} (hv : gVal tr sd (n + 1) H s k led top w r) (hc : gLg H s led c) : gVc tr sd n H s k led top w c r ↔ (if s % 2 = sd then gCh tr sd n r H s k led top w c else ¬ gCh tr sd n (r + 1) H s k led top w c) := by
  have hv' : ∀ need, (if s % 2 = sd then ∃ c, gLg H s led c ∧ gCh tr sd n need H s k led top w c else ∀ c, gLg H s led c → gCh tr sd n need H s k led top w c) ↔ need ≤ r := fun need => by rw [← gw_s]; exact hv need
  by_cases q : s % 2 = sd
  · rw [if_pos q]
    constructor
    · intro h; exact (h r).mpr (Nat.le_refl r)
    · intro h need
      constructor
      · intro z
        have := hv' need
        rw [if_pos q] at this
        exact this.mp ⟨c, hc, z⟩
      · intro z; exact gCh_mono z h
  · rw [if_neg q]
    constructor
    · intro h z
      have := (h (r + 1)).mp z
      omega
    · intro h need
      constructor
      · intro z
        apply Nat.le_of_not_lt
        intro y
        exact h (gCh_mono (by omega) z)
      · intro z
        have := hv' need
        rw [if_neg q] at this
        exact this.mpr z c hc
theorem gw_one {tr sd n need : Nat} {H : Nat → Nat → Bool} {s k : Nat} {led : Option Nat} {top w c : Nat} (hc : c < 52) (hh : H s c = true) (ho : ∀ c', c' < 52 → H s c' = true → c' = c) : gw tr sd (n + 1) need H s k led top w ↔ gCh tr sd n need H s k led top w c := by
  have hl : gLg H s led c := ⟨hc, hh, fun q hq => by
    by_cases e : c / 13 = q
    · exact Or.inl e
    · exact Or.inr (fun c' h1 h2 => by rw [ho c' h1 h2]; exact e)⟩
  have hl' : ∀ c', gLg H s led c' → c' = c := fun c' h => ho c' h.1 h.2.1
  rw [gw_s]
  split
  · exact ⟨fun ⟨c', h1, h2⟩ => hl' c' h1 ▸ h2, fun h => ⟨c, hl, h⟩⟩
  · exact ⟨fun h => h c hl, fun h c' h1 => (hl' c' h1).symm ▸ h⟩
/-- the best card so far and who played it -/
def lsT (tr : Nat) (c : Nat → Nat) : Nat → Nat
  | 0 => c 0
  | i + 1 => if gTk 1 (c (i + 1)) (lsT tr c i) tr then c (i + 1) else lsT tr c i
def lsW (tr s : Nat) (c : Nat → Nat) : Nat → Nat
  | 0 => s
  | i + 1 => if gTk 1 (c (i + 1)) (lsT tr c i) tr then (s + (i + 1)) % 4 else lsW tr s c i
theorem gTk_k {k c top tr : Nat} (h : 0 < k) : gTk k c top tr = gTk 1 c top tr := by
  unfold gTk; rw [show decide (k = 0) = false from decide_eq_false (by omega)]; simp
theorem gw_last {tr sd : Nat} {H : Nat → Nat → Bool} {s : Nat} {led : Option Nat} {top w : Nat} (c : Nat → Nat) (hs : s < 4) (h : ∀ i, i < 4 → c i < 52 ∧ H ((s + i) % 4) (c i) = true ∧ ∀ c', c' < 52 → H ((s + i) % 4) c' = true → c' = c i) : gw tr sd 4 1 H s 0 led top w ↔ lsW tr s c 3 % 2 = sd := by
  have h0 := h 0 (by omega)
  rw [show (s + 0) % 4 = s by omega] at h0
  have h1 := h 1 (by omega)
  have h2 := h 2 (by omega)
  have h3 := h 3 (by omega)
  have r : ∀ (G : Nat → Nat → Bool) (x y d : Nat), x ≠ y → ∀ c', gRm G x d y c' = G y c' := fun G x y d hxy c' => by unfold gRm; rw [if_neg (fun z => hxy z.1.symm)]
  rw [gw_one h0.1 h0.2.1 h0.2.2]
  unfold gCh
  rw [if_neg (by omega)]
  simp only [show gTk 0 (c 0) top tr = true by unfold gTk; simp, if_true]
  have a1 : ∀ c', gRm H s (c 0) ((s + 1) % 4) c' = H ((s + 1) % 4) c' := r _ _ _ _ (by omega)
  rw [gw_one h1.1 (by rw [a1]; exact h1.2.1) (fun c' z1 z2 => h1.2.2 c' z1 (by rw [a1] at z2; exact z2))]
  unfold gCh
  rw [if_neg (by omega)]
  have e2 : ((s + 1) % 4 + 1) % 4 = (s + 2) % 4 := by omega
  rw [e2]
  have a2 : ∀ c', gRm (gRm H s (c 0)) ((s + 1) % 4) (c 1) ((s + 2) % 4) c' = H ((s + 2) % 4) c' := fun c' => by rw [r _ _ _ _ (by omega), r _ _ _ _ (by omega)]
  rw [gw_one h2.1 (by rw [a2]; exact h2.2.1) (fun c' z1 z2 => h2.2.2 c' z1 (by rw [a2] at z2; exact z2))]
  unfold gCh
  rw [if_neg (by omega)]
  have e3 : ((s + 2) % 4 + 1) % 4 = (s + 3) % 4 := by omega
  rw [e3]
  have a3 : ∀ c', gRm (gRm (gRm H s (c 0)) ((s + 1) % 4) (c 1)) ((s + 2) % 4) (c 2) ((s + 3) % 4) c' = H ((s + 3) % 4) c' := fun c' => by rw [r _ _ _ _ (by omega), r _ _ _ _ (by omega), r _ _ _ _ (by omega)]
  rw [gw_one h3.1 (by rw [a3]; exact h3.2.1) (fun c' z1 z2 => h3.2.2 c' z1 (by rw [a3] at z2; exact z2))]
  unfold gCh
  rw [if_pos (by omega)]
  rw [gTk_k (k := 0 + 1 + 1) (by omega), gTk_k (k := 0 + 1 + 1 + 1) (by omega)]
  show (1 - (if lsW tr s c 3 % 2 = sd then 1 else 0) = 0) ↔ _
  by_cases q : lsW tr s c 3 % 2 = sd
  · rw [if_pos q]; exact ⟨fun _ => q, fun _ => rfl⟩
  · rw [if_neg q]; exact ⟨fun z => by omega, fun z => absurd z q⟩
