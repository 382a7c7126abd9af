/-! ===== the reference: taken, search ===== -/
theorem btF_N {c t tr : Nat} (hc : c < 52) (ht : t < 52) (htr : tr < 5) : btF (nI c) (nI t) (nI tr) = (if c / 13 = t / 13 then decide (t < c) else decide (c / 13 = tr)) := by
  unfold btF
  rw [pk_div (by omega) (by omega) (by omega), pk_div (by omega) (by omega) (by omega)]
  by_cases h : c / 13 = t / 13
  · rw [if_pos h, if_pos (by rw [h])]
    by_cases q : t < c
    · rw [decide_eq_true q, decide_eq_true ((nI_ltI (by omega) (by omega)).mpr q)]
    · rw [decide_eq_false q, decide_eq_false (fun z => q ((nI_ltI (by omega) (by omega)).mp z))]
  · rw [if_neg h, if_neg (fun z => h ((nI_eq (by omega) (by omega)).mp z))]
    by_cases q : c / 13 = tr
    · rw [decide_eq_true q, q]; simp
    · rw [decide_eq_false q, decide_eq_false (fun z => q ((nI_eq (by omega) (by omega)).mp z))]
set_option maxRecDepth 20000 in
theorem r_taken_l {pr : aC} {d : Nat} {u : rS} (ld mn : Nat) (g : Nat → Int32) (tr : Int32) (hg : u.2 49 = g) (htr : u.1 29 = tr) (hmn : mn ≤ 3) {Q : Option Value → rS → Prop} (hQ : rB pr (d + 2) cd_204 (some .int) Q 23 [some (.ref 25), some (.int (nI ld)), some (.int (nI (mn + 1))), some (.int (nI (bst g tr 0 mn))), some (.int (nI (mn + 1)))] [] u) : ∀ (zz : Nat) (x : Nat) (hm : mn - x < zz) (hle : x ≤ mn), rB pr (d + 2) cd_204 (Option.some Jvm.ClassFile.FieldType.int) Q 4 [some (.ref 25), some (.int (nI ld)), some (.int (nI (mn + 1))), some (.int (nI (bst g tr 0 x))), some (.int (nI (x + 1)))] [] u := by
  intro zz
  induction zz with
  | zero => intro x hm hle; exact absurd hm (by omega)
  | succ zz ih =>
    intro x hm hle
    refine g_load rfl rfl rfl trivial ?_
    refine g_load rfl rfl rfl trivial ?_
    refine g_icmp_ge rfl (fun c1 => ?_) (fun c1 => ?_)
    · rw [nI_leI (by omega) (by omega)] at c1
      have hx : x = mn := by omega
      subst hx
      exact hQ
    · rw [nI_leI (by omega) (by omega)] at c1
      have hbl := bst_le g tr 0 x
      refine g_load rfl rfl rfl trivial ?_
      refine r_getf rfl rfl ?_
      refine g_load rfl rfl rfl trivial ?_
      refine r_ia (x + 1) rfl ⟨by decide, by decide, rfl⟩ rfl (by show _ < 4; omega) ?_
      refine g_load rfl rfl rfl trivial ?_
      refine r_getf rfl rfl ?_
      refine g_load rfl rfl rfl trivial ?_
      refine r_ia (bst g tr 0 x) rfl ⟨by decide, by decide, rfl⟩ rfl (by show _ < 4; omega) ?_
      refine g_load rfl rfl rfl trivial ?_
      refine r_getf rfl rfl ?_
      rw [hg, htr]
      change gB RF rFr _ _ _ _ _ _ _ _ _ _ _ _
      rw [show g (x + 1) = g (0 + (x + 1)) by rw [Nat.zero_add], show g (bst g tr 0 x) = g (0 + bst g tr 0 x) by rw [Nat.zero_add]]
      refine g_statI [.int (g (0 + (x + 1))), .int (g (0 + bst g tr 0 x)), .int tr] rFr_tr rfl rfl rfl (Nat.le_of_ble_eq_true rfl) (Nat.le_refl _) (Nat.le_refl _) (r_beats (g (0 + (x + 1))) (g (0 + bst g tr 0 x)) tr ⟨_, rfl, ?_⟩)
      refine g_if_eq rfl (fun c2 => ?_) (fun c2 => ?_)
      · rw [bI_eq] at c2
        have hb1 : bst g tr 0 (x + 1) = bst g tr 0 x := by show (if btF (g (0 + (x + 1))) (g (0 + bst g tr 0 x)) tr then x + 1 else bst g tr 0 x) = _; rw [if_neg (by rw [c2]; decide)]
        rw [← hb1]
        refine g_iinc (nI (x + 1 + 1)) [some (.ref 25), some (.int (nI ld)), some (.int (nI (mn + 1))), some (.int (nI (bst g tr 0 (x + 1)))), some (.int (nI (x + 1 + 1)))] rfl rfl (nI_1 (x + 1)) rfl ?_
        refine g_goto rfl ?_
        exact ih (x + 1) (by omega) (by omega)
      · rw [bI_ne] at c2
        have hb1 : bst g tr 0 (x + 1) = x + 1 := by show (if btF (g (0 + (x + 1))) (g (0 + bst g tr 0 x)) tr then x + 1 else bst g tr 0 x) = _; rw [if_pos c2]
        refine g_load rfl rfl rfl trivial ?_
        refine g_store [some (.ref 25), some (.int (nI ld)), some (.int (nI (mn + 1))), some (.int (nI (bst g tr 0 (x + 1)))), some (.int (nI (x + 1)))] rfl rfl trivial (Nat.le_of_ble_eq_true rfl) (by rw [hb1]; rfl) ?_
        refine g_iinc (nI (x + 1 + 1)) [some (.ref 25), some (.int (nI ld)), some (.int (nI (mn + 1))), some (.int (nI (bst g tr 0 (x + 1)))), some (.int (nI (x + 1 + 1)))] rfl rfl (nI_1 (x + 1)) rfl ?_
        refine g_goto rfl ?_
        exact ih (x + 1) (by omega) (by omega)
set_option maxRecDepth 20000 in
theorem r_taken {pr : aC} {d : Nat} {u : rS} (ld : Nat) (hld : ld < 4) {Q : Option Value → rS → Prop} (hQ : Q (some (.int (nI ((ld + bst (u.2 49) (u.1 29) 0 3) % 4)))) u) : rR pr (d + 2 + 1) 204 [.ref 25, .int (nI ld), .int (nI 4)] u Q := by
  refine gR_of mi_204 rFr_rf rfl (Nat.le_of_ble_eq_true rfl) ?_
  show rB pr (d + 2) cd_204 (Option.some Jvm.ClassFile.FieldType.int) Q 0 [some (.ref 25), some (.int (nI ld)), some (.int (nI 4)), none, none] [] u
  refine g_iconst (nI 0) rfl (by decide) ?_
  refine g_store [some (.ref 25), some (.int (nI ld)), some (.int (nI 4)), some (.int (nI 0)), none] rfl rfl trivial (Nat.le_of_ble_eq_true rfl) rfl ?_
  refine g_iconst (nI 1) rfl (by decide) ?_
  refine g_store [some (.ref 25), some (.int (nI ld)), some (.int (nI 4)), some (.int (nI 0)), some (.int (nI 1))] rfl rfl trivial (Nat.le_of_ble_eq_true rfl) rfl ?_
  refine r_taken_l ld 3 (u.2 49) (u.1 29) rfl rfl (by omega) ?_ 4 0 (by omega) (by omega)
  have hbl := bst_le (u.2 49) (u.1 29) 0 3
  refine g_load rfl rfl rfl trivial ?_
  refine g_load rfl rfl rfl trivial ?_
  refine g_iadd rfl ?_
  rw [nI_add]
  refine g_iconst (nI 4) rfl (by decide) ?_
  refine g_irem rfl (by decide) ?_
  rw [pk_rem (by omega) (by omega) (by omega)]
  exact g_vret rfl trivial ⟨rfl, rfl⟩ (Nat.le_refl _) (Nat.le_refl _) hQ
/-- the sixteen places hold the hands H -/
def sRep (lf : Nat → Int32) (H : Nat → Nat → Bool) : Prop := (∀ s k, s < 4 → k < 4 → lf (4 * s + k) = -1 ∨ ∃ c, c < 52 ∧ lf (4 * s + k) = nI c ∧ H s c = true) ∧ (∀ s c, s < 4 → c < 52 → H s c = true → ∃ k, k < 4 ∧ lf (4 * s + k) = nI c) ∧ ∀ s k k' c, s < 4 → k < 4 → k' < 4 → c < 52 → lf (4 * s + k) = nI c → lf (4 * s + k') = nI c → k = k'
theorem sRep.rm {lf : Nat → Int32} {H : Nat → Nat → Bool} (h : sRep lf H) {s k c : Nat} (hs : s < 4) (hk : k < 4) (hc : c < 52) (he : lf (4 * s + k) = nI c) : sRep (upd lf (4 * s + k) (-1)) (gRm H s c) := by
  obtain ⟨h1, h2, h3⟩ := h
  have hm1 : ∀ c, c < 52 → ¬ (-1 : Int32) = nI c := fun c hc q => nI_m1 (by omega) q.symm
  refine ⟨fun s' k' hs' hk' => ?_, fun s' c' hs' hc' hh => ?_, fun s' k1 k2 c' hs' hk1 hk2 hc' e1 e2 => ?_⟩
  · unfold upd
    by_cases q : 4 * s' + k' = 4 * s + k
    · rw [if_pos q]; exact Or.inl rfl
    · rw [if_neg q]
      rcases h1 s' k' hs' hk' with z | ⟨c', z1, z2, z3⟩
      · exact Or.inl z
      · refine Or.inr ⟨c', z1, z2, ?_⟩
        unfold gRm
        rw [if_neg]
        · exact z3
        · rintro ⟨rfl, rfl⟩
          exact q (by rw [h3 s' k' k c' hs hk' hk hc z2 he])
  · unfold gRm at hh
    split at hh
    · cases hh
    · rename_i q
      obtain ⟨k', z1, z2⟩ := h2 s' c' hs' hc' hh
      refine ⟨k', z1, ?_⟩
      unfold upd
      rw [if_neg]
      · exact z2
      · intro e
        have es : s' = s := by omega
        have ek : k' = k := by omega
        subst es; subst ek
        rw [he] at z2
        exact q ⟨rfl, ((nI_eq (by omega) (by omega)).mp z2).symm⟩
  · unfold upd at e1 e2
    split at e1
    · exact absurd e1 (hm1 c' hc')
    · split at e2
      · exact absurd e2 (hm1 c' hc')
      · exact h3 s' k1 k2 c' hs' hk1 hk2 hc' e1 e2
/-- the trick under way: mn cards g from ld on, trumps tr -/
def ledF (g : Nat → Int32) (mn : Nat) : Option Nat := if mn = 0 then none else some (cN g 0 / 13)
def topF (g : Nat → Int32) (tr mn : Nat) : Nat := if mn = 0 then 0 else cN g (bst g (nI tr) 0 (mn - 1))
def winF (g : Nat → Int32) (tr ld mn : Nat) : Nat := if mn = 0 then 0 else (ld + bst g (nI tr) 0 (mn - 1)) % 4
/-- what search answers -/
def sVal (tr sd : Nat) (H : Nat → Nat → Bool) (g : Nat → Int32) (ld mn t r : Nat) : Prop := if mn = 4 then ∀ need, gw tr sd (4 * (t - 1)) (need - (if winF g tr ld 4 % 2 = sd then 1 else 0)) H (winF g tr ld 4) 0 none 0 0 ↔ need ≤ r else gVal tr sd (4 * t - mn) H ((ld + mn) % 4) mn (ledF g mn) (topF g tr mn) (winF g tr ld mn) r
def sOk (H : Nat → Nat → Bool) (ld mn t : Nat) : Prop := ld < 4 ∧ mn ≤ 4 ∧ 1 ≤ t ∧ t ≤ 4 ∧ (mn < 4 → gOk H ((ld + mn) % 4) mn t) ∧ (mn = 4 → ∀ s, s < 4 → hN H s = t - 1)
theorem sOk_0 {H : Nat → Nat → Bool} {ld t w : Nat} (h : sOk H ld 4 t) (ht : 2 ≤ t) (hw : w < 4) : sOk H w 0 (t - 1) := by
  obtain ⟨h1, h2, h3, h4, h5, h6⟩ := h
  refine ⟨hw, by omega, by omega, by omega, fun _ => ⟨by omega, by omega, by omega, fun j hj => ?_⟩, fun q => by omega⟩
  rw [if_pos (by omega)]
  exact h6 rfl _ (by omega)
theorem sOk_n {H : Nat → Nat → Bool} {ld mn t c : Nat} (h : sOk H ld mn t) (hm : mn < 4) (hc : c < 52) (hh : H ((ld + mn) % 4) c = true) : sOk (gRm H ((ld + mn) % 4) c) ld (mn + 1) t := by
  obtain ⟨h1, h2, h3, h4, h5, h6⟩ := h
  have hg := h5 hm
  refine ⟨h1, by omega, h3, h4, fun q => ?_, fun q s hs => ?_⟩
  · have := hg.next (by omega) hc hh
    rw [show ((ld + mn) % 4 + 1) % 4 = (ld + (mn + 1)) % 4 by omega] at this
    exact this
  · have hm3 : mn = 3 := by omega
    subst hm3
    by_cases e : s = (ld + 3) % 4
    · subst e
      have a := hN_rm hc hh
      have b := hg.2.2.2 0 (by omega)
      rw [show ((ld + 3) % 4 + 0) % 4 = (ld + 3) % 4 by omega, if_pos (by omega)] at b
      omega
    · rw [hN_ne e]
      obtain ⟨j, hj, ej⟩ : ∃ j, j < 4 ∧ ((ld + 3) % 4 + j) % 4 = s := ⟨(s + 4 - (ld + 3) % 4) % 4, by omega, by omega⟩
      have b := hg.2.2.2 j hj
      rw [ej, if_neg (by omega)] at b
      exact b
theorem cN_nI {g : Nat → Int32} {i c : Nat} (h : g i = nI c) (hc : c < 52) : cN g i = c := by unfold cN; rw [h, nI_clamp (by omega)]
theorem bst_congr {g g' : Nat → Int32} {tr : Int32} : ∀ {k : Nat}, (∀ j, j ≤ k → g j = g' j) → bst g tr 0 k = bst g' tr 0 k
  | 0, _ => rfl
  | k + 1, h => by
    have e := bst_congr (g := g) (g' := g') (tr := tr) (k := k) (fun j hj => h j (by omega))
    have hb := bst_le g' tr 0 k
    unfold bst
    rw [e, h (0 + (k + 1)) (by omega), h (0 + bst g' tr 0 k) (by omega)]
/-- the value of a card is what search answers behind it -/
theorem sVal_ch {tr sd : Nat} {H : Nat → Nat → Bool} {g g' : Nat → Int32} {ld mn t r c : Nat} (hld : ld < 4) (hm : mn < 4) (htr : tr < 5) (hck : ∀ j, j < mn → ∃ c, c < 52 ∧ g j = nI c) (hc : c < 52) (hg : ∀ j, j < mn → g' j = g j) (hgc : g' mn = nI c) (h : sVal tr sd (gRm H ((ld + mn) % 4) c) g' ld (mn + 1) t r) : gVc tr sd (4 * t - mn - 1) H ((ld + mn) % 4) mn (ledF g mn) (topF g tr mn) (winF g tr ld mn) c r := by
  have key : bst g' (nI tr) 0 mn = (if gTk mn c (topF g tr mn) tr then mn else bst g (nI tr) 0 (mn - 1)) ∧ (gTk mn c (topF g tr mn) tr = false → mn ≠ 0) := by
    cases mn with
    | zero => exact ⟨rfl, fun q => by simp [gTk] at q⟩
    | succ k =>
      refine ⟨?_, fun _ => by omega⟩
      have e : bst g' (nI tr) 0 k = bst g (nI tr) 0 k := bst_congr (fun j hj => hg j (by omega))
      have hb := bst_le g (nI tr) 0 k
      obtain ⟨c2, hc2, e2⟩ := hck (bst g (nI tr) 0 k) (by omega)
      have et : topF g tr (k + 1) = c2 := by
        unfold topF
        rw [if_neg (by omega), Nat.add_sub_cancel]
        exact cN_nI e2 hc2
      rw [et]
      show (if btF (g' (0 + (k + 1))) (g' (0 + bst g' (nI tr) 0 k)) (nI tr) then k + 1 else bst g' (nI tr) 0 k) = _
      rw [e, Nat.zero_add, Nat.zero_add, hgc, hg _ (by omega), e2, btF_N hc hc2 htr]
      unfold gTk
      rw [show decide (k + 1 = 0) = false by simp, Bool.false_or]
      rfl
  have hw : winF g' tr ld (mn + 1) = (if gTk mn c (topF g tr mn) tr then (ld + mn) % 4 else winF g tr ld mn) := by
    unfold winF
    rw [if_neg (by omega), Nat.add_sub_cancel, key.1]
    by_cases q : gTk mn c (topF g tr mn) tr = true
    · rw [if_pos q, if_pos q]
    · rw [if_neg q, if_neg q, if_neg (key.2 (by simpa using q))]
  have htop : topF g' tr (mn + 1) = (if gTk mn c (topF g tr mn) tr then c else topF g tr mn) := by
    rw [show topF g' tr (mn + 1) = cN g' (bst g' (nI tr) 0 mn) by unfold topF; rw [if_neg (by omega), Nat.add_sub_cancel], key.1]
    by_cases q : gTk mn c (topF g tr mn) tr = true
    · rw [if_pos q, if_pos q]; exact cN_nI hgc hc
    · rw [if_neg q, if_neg q]
      have hz := key.2 (by simpa using q)
      have hb := bst_le g (nI tr) 0 (mn - 1)
      rw [show topF g tr mn = cN g (bst g (nI tr) 0 (mn - 1)) by unfold topF; rw [if_neg hz]]
      unfold cN
      rw [hg _ (by omega)]
  intro need
  unfold gCh
  by_cases h3 : mn = 3
  · subst h3
    unfold sVal at h
    rw [if_pos rfl] at h
    rw [if_pos rfl, ← hw, show 4 * t - 3 - 1 = 4 * (t - 1) by omega]
    exact h need
  · unfold sVal at h
    rw [if_neg (by omega)] at h
    rw [if_neg h3, ← hw, ← htop, show 4 * t - mn - 1 = 4 * t - (mn + 1) by omega, show ((ld + mn) % 4 + 1) % 4 = (ld + (mn + 1)) % 4 by omega]
    have hl : some ((ledF g mn).getD (c / 13)) = ledF g' (mn + 1) := by
      unfold ledF
      rw [if_neg (by omega : ¬ mn + 1 = 0)]
      by_cases hz : mn = 0
      · subst hz
        rw [if_pos rfl, cN_nI hgc hc]; rfl
      · rw [if_neg hz]
        unfold cN
        rw [hg 0 (by omega)]; rfl
    rw [hl]
    exact h need
