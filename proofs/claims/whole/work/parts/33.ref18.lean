/-! ===== the reference: search, its main loop, and the whole ===== -/
/-- a place's card that may be played -/
def lgS (f : Nat → Int32) (H : Nat → Nat → Bool) (s : Nat) (led : Option Nat) (k c : Nat) : Prop := f (4 * s + k) = nI c ∧ gLg H s led c
/-- what the loop knows behind x places: b the best yet -/
def sInv (f : Nat → Int32) (H : Nat → Nat → Bool) (s : Nat) (led : Option Nat) (V : Nat → Nat → Prop) (ours : Bool) (t : Nat) (b : Option Nat) (x : Nat) : Prop := match b with
  | none => ∀ k c, k < x → ¬ lgS f H s led k c
  | some r => r ≤ t ∧ (∃ c, gLg H s led c ∧ V c r) ∧ ∀ k c, k < x → lgS f H s led k c → ∃ rc, V c rc ∧ (if ours then rc ≤ r else r ≤ rc)
theorem fl_iff {f g : Nat → Int32} {H : Nat → Nat → Bool} {s mn c : Nat} (hs : s < 4) (hr : sRep f H) (hck : ∀ j, j < mn → ∃ c, c < 52 ∧ g j = nI c) (hc : c < 52) (hh : H s c = true) : gLg H s (ledF g mn) c ↔ (flF f g s mn = false ∨ nI c / nI 13 = g 0 / nI 13) := by
  by_cases hz : mn = 0
  · subst hz
    have h0 : flF f g s 0 = false := by simp [flF]
    exact ⟨fun _ => Or.inl h0, fun _ => ⟨hc, hh, fun q hq => by simp [ledF] at hq⟩⟩
  · obtain ⟨c0, hc0, e0⟩ := hck 0 (by omega)
    have hl : ledF g mn = some (c0 / 13) := by unfold ledF; rw [if_neg hz, cN_nI e0 hc0]
    have hd : ∀ x, x < 52 → (nI x / nI 13 = g 0 / nI 13 ↔ x / 13 = c0 / 13) := by
      intro x hx
      rw [e0, pk_div (by omega) (by omega) (by omega), pk_div (by omega) (by omega) (by omega), nI_eq (by omega) (by omega)]
    have hf : flF f g s mn = true ↔ ∃ c', c' < 52 ∧ H s c' = true ∧ c' / 13 = c0 / 13 := by
      unfold flF
      rw [decide_eq_true (by omega : 0 < mn), Bool.true_and, anyN_iff]
      constructor
      · rintro ⟨k, hk, hq⟩
        simp only [flQ, decide_eq_true_eq] at hq
        rcases hr.1 s k hs hk with z | ⟨c', z1, z2, z3⟩
        · exact absurd z hq.1
        · exact ⟨c', z1, z3, (hd c' z1).mp (by rw [← z2]; exact hq.2)⟩
      · rintro ⟨c', z1, z2, z3⟩
        obtain ⟨k, hk, e⟩ := hr.2.1 s c' hs z1 z2
        refine ⟨k, hk, ?_⟩
        simp only [flQ, decide_eq_true_eq]
        rw [e]
        exact ⟨nI_m1 (by omega), (hd c' z1).mpr z3⟩
    rw [hl]
    constructor
    · intro h
      cases hb : flF f g s mn with
      | false => exact Or.inl rfl
      | true =>
        obtain ⟨c', z1, z2, z3⟩ := hf.mp hb
        rcases h.2.2 _ rfl with z | z
        · exact Or.inr ((hd c hc).mpr z)
        · exact absurd z3 (z c' z1 z2)
    · intro h
      refine ⟨hc, hh, fun q hq => ?_⟩
      cases hq
      rcases h with h | h
      · refine Or.inr (fun c' z1 z2 z3 => ?_)
        rw [hf.mpr ⟨c', z1, z2, z3⟩] at h
        cases h
      · exact Or.inl ((hd c hc).mp h)
/-- the loop's end gives the value -/
theorem sInv_end {tr sd n t : Nat} {f : Nat → Int32} {H : Nat → Nat → Bool} {s k : Nat} {led : Option Nat} {top w : Nat} {r : Nat} {ours : Bool} (hs : s < 4) (ho : ours = decide (s % 2 = sd)) (hr : sRep f H) (hok : gOk H s k t) (hw : w < 4) (hn : n + 1 + k = 4 * t)
    (h : sInv f H s led (gVc tr sd n H s k led top w) ours t (some r) 4 ∨ (r ≤ t ∧ (∃ c, gLg H s led c ∧ gVc tr sd n H s k led top w c r) ∧ r = if ours then t else 0)) : gVal tr sd (n + 1) H s k led top w r := by
  intro need
  have hex : ∃ c, gLg H s led c ∧ gVc tr sd n H s k led top w c r := by
    rcases h with h | h
    · exact h.2.1
    · exact h.2.1
  obtain ⟨c0, hc0, hv0⟩ := hex
  have hval : ∀ c, gLg H s led c → sInv f H s led (gVc tr sd n H s k led top w) ours t (some r) 4 → ∃ rc, gVc tr sd n H s k led top w c rc ∧ (if ours then rc ≤ r else r ≤ rc) := by
    intro c hc hi
    obtain ⟨k', hk', e⟩ := hr.2.1 s c hs hc.1 hc.2.1
    exact hi.2.2 k' c hk' ⟨e, hc⟩
  cases ours with
  | true =>
    have hs2 : s % 2 = sd := by simpa using ho.symm
    constructor
    · intro hg
      rcases h with h | h
      · rw [gw_s, if_pos hs2] at hg
        obtain ⟨c, hc, hch⟩ := hg
        obtain ⟨rc, h1, h2⟩ := hval c hc h
        have h2 : rc ≤ r := h2
        exact Nat.le_trans ((h1 need).mp hch) h2
      · have := gw_le tr sd (n + 1) need t H s k led top w hn hok hw hg
        have e : r = t := h.2.2
        omega
    · intro hle
      rw [gw_s, if_pos hs2]
      exact ⟨c0, hc0, (hv0 need).mpr hle⟩
  | false =>
    have hs2 : ¬ s % 2 = sd := by simpa using ho.symm
    constructor
    · intro hg
      rw [gw_s, if_neg hs2] at hg
      exact (hv0 need).mp (hg c0 hc0)
    · intro hle
      rcases h with h | h
      · rw [gw_s, if_neg hs2]
        intro c hc
        obtain ⟨rc, h1, h2⟩ := hval c hc h
        have h2 : r ≤ rc := h2
        exact (h1 need).mpr (Nat.le_trans hle h2)
      · have e : r = 0 := h.2.2
        have : need = 0 := by omega
        subst this
        exact gw_0 tr sd (n + 1) t H s k led top w hn hok hw
def bestN (ours : Bool) (b : Option Nat) (r : Nat) : Nat := match b with
  | none => r
  | some b => if ours then max b r else min b r
theorem sInv_step {f : Nat → Int32} {H : Nat → Nat → Bool} {s : Nat} {led : Option Nat} {V : Nat → Nat → Prop} {ours : Bool} {t x c r : Nat} {b : Option Nat} (hc : lgS f H s led x c) (hc52 : c < 52) (hv : V c r) (hrt : r ≤ t) (h : sInv f H s led V ours t b x) (r' : Nat) (hr' : r' = bestN ours b r) : sInv f H s led V ours t (some r') (x + 1) := by
  have hun : ∀ c', lgS f H s led x c' → c' = c := fun c' h' => by
    have := h'.1.symm.trans hc.1
    exact (nI_eq (by have := h'.2.1; omega) (by omega)).mp this
  cases b with
  | none =>
    have e : r' = r := hr'
    subst e
    refine ⟨hrt, ⟨c, hc.2, hv⟩, fun k c' hk hl => ?_⟩
    by_cases hkx : k = x
    · subst hkx
      rw [hun c' hl]
      exact ⟨r', hv, by split <;> exact Nat.le_refl _⟩
    · exact absurd hl (h k c' (by omega))
  | some b =>
    obtain ⟨h1, ⟨c1, h2, h3⟩, h4⟩ := h
    have e : r' = if ours then max b r else min b r := hr'
    have hcase : (r' = b ∨ r' = r) ∧ (if ours then b ≤ r' ∧ r ≤ r' else r' ≤ b ∧ r' ≤ r) := by
      cases ours <;> simp only [if_true, if_false, Bool.false_eq_true] at e ⊢ <;> omega
    refine ⟨by omega, ?_, fun k c' hk hl => ?_⟩
    · rcases hcase.1 with z | z
      · rw [z]; exact ⟨c1, h2, h3⟩
      · rw [z]; exact ⟨c, hc.2, hv⟩
    · by_cases hkx : k = x
      · subst hkx
        rw [hun c' hl]
        refine ⟨r, hv, ?_⟩
        have := hcase.2
        split at this <;> rename_i q <;> simp only [q, if_true, if_false, Bool.false_eq_true] <;> omega
      · obtain ⟨rc, z1, z2⟩ := h4 k c' (by omega) hl
        refine ⟨rc, z1, ?_⟩
        have := hcase.2
        split at this <;> rename_i q <;> simp only [q, if_true, if_false, Bool.false_eq_true] at z2 ⊢ <;> omega
theorem sInv_skip {f : Nat → Int32} {H : Nat → Nat → Bool} {s : Nat} {led : Option Nat} {V : Nat → Nat → Prop} {ours : Bool} {t x : Nat} {b : Option Nat} (hn : ∀ c, ¬ lgS f H s led x c) (h : sInv f H s led V ours t b x) : sInv f H s led V ours t b (x + 1) := by
  cases b with
  | none =>
    intro k c hk hl
    by_cases hkx : k = x
    · subst hkx; exact hn c hl
    · exact h k c (by omega) hl
  | some b =>
    refine ⟨h.1, h.2.1, fun k c hk hl => ?_⟩
    by_cases hkx : k = x
    · subst hkx; exact absurd hl (hn c)
    · exact h.2.2 k c (by omega) hl

def sIH (pr : aC) (D μ : Nat) : Prop := ∀ (u : rS) (H : Nat → Nat → Bool) (tr sd ld mn t : Nat), 5 * t - mn = μ → sPre u H tr sd ld mn t → ∀ Q : Option Value → rS → Prop, (∀ v r, sPost u v mn → r ≤ t → sVal tr sd H (u.2 49) ld mn t r → Q (some (.int (nI r))) v) → rR pr D 205 [.ref 25, .int (nI ld), .int (nI mn), .int (nI t)] u Q
set_option maxRecDepth 20000 in
theorem r_search_m {pr : aC} {d : Nat} {u0 : rS} (H : Nat → Nat → Bool) (tr sd ld mn t s μ : Nat) (ours fol : Bool) (hs : s = (ld + mn) % 4) (hm : mn < 4) (hpre : sPre u0 H tr sd ld mn t) (ho : ours = decide (s % 2 = sd)) (hf : fol = flF (u0.2 48) (u0.2 49) s mn) (hμ : 5 * t - mn = μ + 1) (ih : sIH pr (d + 4) μ) {Q : Option Value → rS → Prop} (hQ : ∀ v r, sPost u0 v mn → r ≤ t → sVal tr sd H (u0.2 49) ld mn t r → Q (some (.int (nI r))) v) :
    ∀ (zz x : Nat) (u : rS) (b : Option Nat) (l9 l10 : Option Value) (hP : sPost u0 u mn) (hI : sInv (u0.2 48) H s (ledF (u0.2 49) mn) (gVc tr sd (4 * t - mn - 1) H s mn (ledF (u0.2 49) mn) (topF (u0.2 49) tr mn) (winF (u0.2 49) tr ld mn)) ours t b x) (hl9 : ∀ v, l9 = some v → v.category = 1) (hz : 4 - x < zz) (hx : x ≤ 4), rB pr (d + 4) cd_205 (some .int) Q 137 [some (.ref 25), some (.int (nI ld)), some (.int (nI mn)), some (.int (nI t)), some (.int (nI s)), some (.int (bI ours)), some (.int (oI b)), some (.int (bI fol)), some (.int (nI (4 * s + x))), l9, l10] [] u := by
  obtain ⟨p1, p2, p3, p4, p5, p6, p7⟩ := hpre
  have hs4 : s < 4 := by omega
  have hgok : gOk H s mn t := by rw [hs]; exact p6.2.2.2.2.1 hm
  have ht4 := p6.2.2.2.1
  have ht1 := p6.2.2.1
  have hld := p6.1
  have hwl : winF (u0.2 49) tr ld mn < 4 := by unfold winF; split <;> omega
  intro zz
  induction zz with
  | zero => intro x u b l9 l10 hP hI hl9 hz hx; omega
  | succ zz ihz =>
    intro x u b l9 l10 hP hI hl9 hz hx
    have fin : ∀ (v : rS) (r : Nat), sPost u0 v mn → r ≤ t → gVal tr sd (4 * t - mn - 1 + 1) H s mn (ledF (u0.2 49) mn) (topF (u0.2 49) tr mn) (winF (u0.2 49) tr ld mn) r → Q (some (.int (nI r))) v := by
      intro v r h1 h2 h3
      refine hQ v r h1 h2 ?_
      unfold sVal
      rw [if_neg (by omega), ← hs, show 4 * t - mn = 4 * t - mn - 1 + 1 by omega]
      exact h3
    refine g_load rfl rfl rfl trivial ?_
    refine g_iconst (nI 4) rfl (by decide) ?_
    refine g_load rfl rfl rfl trivial ?_
    refine g_imul rfl ?_
    refine g_iconst (nI 4) rfl (by decide) ?_
    refine g_iadd rfl ?_
    rw [pk_mul, nI_add]
    refine g_icmp_ge rfl (fun c1 => ?_) (fun c1 => ?_)
    · rw [nI_leI (by omega) (by omega)] at c1
      have hx4 : x = 4 := by omega
      subst hx4
      refine g_load rfl rfl rfl trivial ?_
      refine g_vret rfl trivial ⟨rfl, rfl⟩ (Nat.le_refl _) (Nat.le_refl _) ?_
      cases b with
      | none =>
        exfalso
        obtain ⟨c, hc⟩ := gLg_some (ledF (u0.2 49) mn) hgok.pos
        obtain ⟨k, hk, e⟩ := p5.2.1 s c hs4 hc.1 hc.2.1
        exact hI k c hk ⟨e, hc⟩
      | some r => exact fin u r hP hI.1 (sInv_end hs4 ho p5 hgok hwl (by omega) (Or.inl hI))
    · rw [nI_leI (by omega) (by omega)] at c1
      have hlf : u.2 48 (4 * s + x) = u0.2 48 (4 * s + x) := hP.2.2.1 _ (by omega)
      refine g_load rfl rfl rfl trivial ?_
      refine r_getf rfl rfl ?_
      refine g_load rfl rfl rfl trivial ?_
      refine r_ia (4 * s + x) rfl ⟨by decide, by decide, rfl⟩ rfl (by show _ < 16; omega) ?_
      rw [hlf]
      refine g_store [some (.ref 25), some (.int (nI ld)), some (.int (nI mn)), some (.int (nI t)), some (.int (nI s)), some (.int (bI ours)), some (.int (oI b)), some (.int (bI fol)), some (.int (nI (4 * s + x))), some (.int (u0.2 48 (4 * s + x))), l10] rfl rfl trivial (Nat.le_of_ble_eq_true rfl) rfl ?_
      have next : ∀ (v : rS) (b' : Option Nat) (m9 m10 : Option Value), sPost u0 v mn → sInv (u0.2 48) H s (ledF (u0.2 49) mn) (gVc tr sd (4 * t - mn - 1) H s mn (ledF (u0.2 49) mn) (topF (u0.2 49) tr mn) (winF (u0.2 49) tr ld mn)) ours t b' (x + 1) → (∀ v, m9 = some v → v.category = 1) → rB pr (d + 4) cd_205 (some .int) Q 208 [some (.ref 25), some (.int (nI ld)), some (.int (nI mn)), some (.int (nI t)), some (.int (nI s)), some (.int (bI ours)), some (.int (oI b')), some (.int (bI fol)), some (.int (nI (4 * s + x))), m9, m10] [] v := by
        intro v b' m9 m10 h1 h2 h9
        refine g_iinc (nI (4 * s + (x + 1))) [some (.ref 25), some (.int (nI ld)), some (.int (nI mn)), some (.int (nI t)), some (.int (nI s)), some (.int (bI ours)), some (.int (oI b')), some (.int (bI fol)), some (.int (nI (4 * s + (x + 1)))), m9, m10] rfl rfl (nI_1 (4 * s + x)) rfl ?_
        refine g_goto rfl ?_
        exact ihz (x + 1) v b' m9 m10 h1 h2 h9 (by omega) (by omega)
      refine g_load rfl rfl rfl trivial ?_
      refine g_iconst (-1) rfl (by decide) ?_
      refine g_icmp_eq rfl (fun c2 => ?_) (fun c2 => ?_)
      · exact next u b _ _ hP (sInv_skip (fun c hc => by rw [hc.1] at c2; exact nI_m1 (by have := hc.2.1; omega) c2) hI) (fun v hv => by cases hv; rfl)
      · obtain ⟨c, hc52, ec, hh⟩ := (p5.1 s x hs4 (by omega)).resolve_left c2
        have hlg := fl_iff hs4 p5 p7 hc52 hh
        rw [← hf] at hlg
        rw [ec]
        have go : gLg H s (ledF (u0.2 49) mn) c → rB pr (d + 4) cd_205 (some .int) Q 163 [some (.ref 25), some (.int (nI ld)), some (.int (nI mn)), some (.int (nI t)), some (.int (nI s)), some (.int (bI ours)), some (.int (oI b)), some (.int (bI fol)), some (.int (nI (4 * s + x))), some (.int (nI c)), l10] [] u := by
          intro hleg
          refine g_load rfl rfl rfl trivial ?_
          refine r_getf rfl rfl ?_
          refine g_load rfl rfl rfl trivial ?_
          refine g_iconst (-1) rfl (by decide) ?_
          refine r_iasv (4 * s + x) rfl ⟨by decide, by decide, rfl⟩ rfl (by show _ < 16; omega) (fun v1 a1 b1 d1 e1 => ?_)
          refine g_load rfl rfl rfl trivial ?_
          refine r_getf rfl rfl ?_
          refine g_load rfl rfl rfl trivial ?_
          refine g_load rfl rfl rfl trivial ?_
          refine r_iasv mn rfl ⟨by decide, by decide, rfl⟩ rfl (by show _ < 4; omega) (fun v2 a2 b2 d2 e2 => ?_)
          refine g_load rfl rfl rfl trivial ?_
          refine g_load rfl rfl rfl trivial ?_
          refine g_load rfl rfl rfl trivial ?_
          refine g_iconst (nI 1) rfl (by decide) ?_
          refine g_iadd rfl ?_
          rw [nI_add]
          refine g_load rfl rfl rfl trivial ?_
          have q48 : ∀ j, j < 16 → v2.2 48 j = upd (u0.2 48) (4 * s + x) (-1) j := by
            intro j hj
            rw [b2 48 (by decide)]
            unfold upd
            by_cases q : j = 4 * s + x
            · rw [if_pos q, q, d1]
            · rw [if_neg q, e1 j q]; exact hP.2.2.1 j hj
          have q49 : ∀ j, j < mn → v2.2 49 j = u0.2 49 j := fun j hj => by
            rw [e2 j (by omega), b1 49 (by decide)]; exact hP.2.2.2 j hj
          have hpre2 : sPre v2 (gRm H s c) tr sd ld (mn + 1) t := by
            refine ⟨by rw [a2, a1, hP.1]; exact p1, by rw [a2, a1, hP.1]; exact p2, p3, p4, sRep_congr (p5.rm hs4 (by omega) hc52 ec) q48, ?_, fun j hj => ?_⟩
            · rw [hs] at hh ⊢; exact sOk_n p6 hm hc52 hh
            · by_cases q : j = mn
              · subst q; exact ⟨c, hc52, d2⟩
              · rw [q49 j (by omega)]; exact p7 j (by omega)
          refine g_virtI (a := 25) (ci := 8) (n := 3) [.int (nI ld), .int (nI (mn + 1)), .int (nI t)] rFr_tr rfl rfl (by decide) rfl r_this rfl (Nat.le_of_ble_eq_true rfl) (Nat.le_refl _) (Nat.le_refl _) (ih v2 (gRm H s c) tr sd ld (mn + 1) t (by omega) hpre2 _ (fun v3 r hP3 hrt hV => ⟨_, rfl, ?_⟩))
          refine g_store [some (.ref 25), some (.int (nI ld)), some (.int (nI mn)), some (.int (nI t)), some (.int (nI s)), some (.int (bI ours)), some (.int (oI b)), some (.int (bI fol)), some (.int (nI (4 * s + x))), some (.int (nI c)), some (.int (nI r))] rfl rfl trivial (Nat.le_of_ble_eq_true rfl) rfl ?_
          refine g_load rfl rfl rfl trivial ?_
          refine r_getf rfl rfl ?_
          refine g_load rfl rfl rfl trivial ?_
          refine g_load rfl rfl rfl trivial ?_
          refine r_iasv (4 * s + x) rfl ⟨by decide, by decide, rfl⟩ rfl (by show _ < 16; omega) (fun v4 a4 b4 d4 e4 => ?_)
          have hP4 : sPost u0 v4 mn := by
            refine ⟨by rw [a4, hP3.1, a2, a1]; exact hP.1, fun a h1 h2 => by rw [b4 a h1, hP3.2.1 a h1 h2, b2 a h2, b1 a h1]; exact hP.2.1 a h1 h2, fun j hj => ?_, fun j hj => ?_⟩
            · by_cases q : j = 4 * s + x
              · rw [q, d4, ec]
              · rw [e4 j q, hP3.2.2.1 j hj, q48 j hj]; unfold upd; rw [if_neg q]
            · rw [b4 49 (by decide), hP3.2.2.2 j (by omega), q49 j hj]
          have hvc : gVc tr sd (4 * t - mn - 1) H s mn (ledF (u0.2 49) mn) (topF (u0.2 49) tr mn) (winF (u0.2 49) tr ld mn) c r := by
            have hV' := hV
            rw [hs] at hV' ⊢
            exact sVal_ch hld hm p3 p7 hc52 q49 d2 hV'
          have K200 : ∀ r', r' = bestN ours b r → rB pr (d + 4) cd_205 (some .int) Q 200 [some (.ref 25), some (.int (nI ld)), some (.int (nI mn)), some (.int (nI t)), some (.int (nI s)), some (.int (bI ours)), some (.int (nI r')), some (.int (bI fol)), some (.int (nI (4 * s + x))), some (.int (nI c)), some (.int (nI r))] [] v4 := by
            intro r' hr'
            have hI' := sInv_step ⟨ec, hleg⟩ hc52 hvc hrt hI r' hr'
            have hr't := hI'.1
            refine g_load rfl rfl rfl trivial ?_
            have K206 : ∀ e : Int32, e = nI (if ours then t else 0) → rB pr (d + 4) cd_205 (some .int) Q 206 [some (.ref 25), some (.int (nI ld)), some (.int (nI mn)), some (.int (nI t)), some (.int (nI s)), some (.int (bI ours)), some (.int (nI r')), some (.int (bI fol)), some (.int (nI (4 * s + x))), some (.int (nI c)), some (.int (nI r))] [.int e, .int (nI r')] v4 := by
              intro e he
              subst he
              refine g_icmp_ne rfl (fun k1 => ?_) (fun k1 => ?_)
              · exact next v4 (some r') _ _ hP4 hI' (fun v hv => by cases hv; rfl)
              · refine g_goto rfl ?_
                refine g_load rfl rfl rfl trivial ?_
                refine g_vret rfl trivial ⟨rfl, rfl⟩ (Nat.le_refl _) (Nat.le_refl _) ?_
                have e2 : r' = if ours then t else 0 := (nI_eq (by omega) (by split <;> omega)).mp k1
                exact fin v4 r' hP4 hr't (sInv_end hs4 ho p5 hgok hwl (by omega) (Or.inr ⟨hr't, hI'.2.1, e2⟩))
            refine g_load rfl rfl rfl trivial ?_
            refine g_if_eq rfl (fun k1 => ?_) (fun k1 => ?_)
            · rw [bI_eq] at k1
              refine g_iconst (nI 0) rfl (by decide) ?_
              exact K206 _ (by rw [k1]; rfl)
            · rw [bI_ne] at k1
              refine g_load rfl rfl rfl trivial ?_
              refine g_goto rfl ?_
              exact K206 _ (by rw [k1]; rfl)
          have K198 : ∀ o6 : Int32, r = bestN ours b r → rB pr (d + 4) cd_205 (some .int) Q 198 [some (.ref 25), some (.int (nI ld)), some (.int (nI mn)), some (.int (nI t)), some (.int (nI s)), some (.int (bI ours)), some (.int o6), some (.int (bI fol)), some (.int (nI (4 * s + x))), some (.int (nI c)), some (.int (nI r))] [] v4 := by
            intro o6 hr'
            refine g_load rfl rfl rfl trivial ?_
            refine g_store [some (.ref 25), some (.int (nI ld)), some (.int (nI mn)), some (.int (nI t)), some (.int (nI s)), some (.int (bI ours)), some (.int (nI r)), some (.int (bI fol)), some (.int (nI (4 * s + x))), some (.int (nI c)), some (.int (nI r))] rfl rfl trivial (Nat.le_of_ble_eq_true rfl) rfl ?_
            exact K200 r hr'
          refine g_load rfl rfl rfl trivial ?_
          refine g_iconst (-1) rfl (by decide) ?_
          refine g_icmp_eq rfl (fun k1 => ?_) (fun k1 => ?_)
          · have hb0 := oI_m1 k1 (fun i hi => by subst hi; have := hI.1; omega)
            subst hb0
            exact K198 _ rfl
          · obtain ⟨b0, hb0⟩ := oI_some k1
            subst hb0
            have hbt := hI.1
            have e6 : oI (some b0) = nI b0 := rfl
            rw [e6]
            refine g_load rfl rfl rfl trivial ?_
            refine g_if_eq rfl (fun k2 => ?_) (fun k2 => ?_)
            · rw [bI_eq] at k2
              refine g_load rfl rfl rfl trivial ?_
              refine g_load rfl rfl rfl trivial ?_
              refine g_icmp_ge rfl (fun k3 => ?_) (fun k3 => ?_)
              · rw [nI_leI (by omega) (by omega)] at k3
                exact K200 b0 (by show b0 = (if ours then max b0 r else min b0 r); simp only [k2, Bool.false_eq_true, if_false]; omega)
              · rw [nI_leI (by omega) (by omega)] at k3
                exact K198 _ (by show r = (if ours then max b0 r else min b0 r); simp only [k2, Bool.false_eq_true, if_false]; omega)
            · rw [bI_ne] at k2
              refine g_load rfl rfl rfl trivial ?_
              refine g_load rfl rfl rfl trivial ?_
              refine g_icmp_le rfl (fun k3 => ?_) (fun k3 => ?_)
              · rw [nI_leI (by omega) (by omega)] at k3
                exact K200 b0 (by show b0 = (if ours then max b0 r else min b0 r); simp only [k2, if_true]; omega)
              · rw [nI_leI (by omega) (by omega)] at k3
                refine g_goto rfl ?_
                exact K198 _ (by show r = (if ours then max b0 r else min b0 r); simp only [k2, if_true]; omega)
        refine g_load rfl rfl rfl trivial ?_
        refine g_if_eq rfl (fun c3 => ?_) (fun c3 => ?_)
        · rw [bI_eq] at c3
          exact go (hlg.mpr (Or.inl c3))
        · rw [bI_ne] at c3
          refine g_load rfl rfl rfl trivial ?_
          refine g_statI [.int (nI c)] rFr_tr rfl rfl rfl (Nat.le_of_ble_eq_true rfl) (Nat.le_refl _) (Nat.le_refl _) (r_suit (nI c) ⟨_, rfl, ?_⟩)
          refine g_load rfl rfl rfl trivial ?_
          refine r_getf rfl rfl ?_
          refine g_iconst (nI 0) rfl (by decide) ?_
          refine r_ia (0) rfl ⟨by decide, by decide, rfl⟩ rfl (by decide) ?_
          refine g_statI [.int (u.2 49 0)] rFr_tr rfl rfl rfl (Nat.le_of_ble_eq_true rfl) (Nat.le_refl _) (Nat.le_refl _) (r_suit (u.2 49 0) ⟨_, rfl, ?_⟩)
          have hmn0 : 0 < mn := by
            by_cases q : mn = 0
            · subst q
              rw [hf] at c3
              simp [flF] at c3
            · omega
          rw [hP.2.2.2 0 hmn0]
          refine g_icmp_eq rfl (fun c4 => ?_) (fun c4 => ?_)
          · exact go (hlg.mpr (Or.inr c4))
          · refine g_goto rfl ?_
            exact next u b _ _ hP (sInv_skip (fun c' hc' => by
              have e : c' = c := (nI_eq (by have := hc'.2.1; omega) (by omega)).mp (hc'.1.symm.trans ec)
              subst e
              rcases hlg.mp hc'.2 with z | z
              · rw [c3] at z; cases z
              · exact c4 z) hI) (fun v hv => by cases hv; rfl)

