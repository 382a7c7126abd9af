/-! ===== the reference: layOut, best ===== -/
/-- who holds what at a table -/
def hH (u : rS) (t m : Nat) : Nat → Nat → Bool := fun s c => hdF u t m (nI s) (nI c)
/-- the places of one seat, filled from the cards below x -/
def fSt (H : Nat → Nat → Bool) (f : Nat → Int32) (s x n : Nat) : Prop := n = cnt (H s) x ∧ (∀ k, k < n → ∃ c, c < x ∧ H s c = true ∧ f (4 * s + k) = nI c) ∧ (∀ c, c < x → H s c = true → ∃ k, k < n ∧ f (4 * s + k) = nI c) ∧ ∀ k k' c, k < n → k' < n → c < 52 → f (4 * s + k) = nI c → f (4 * s + k') = nI c → k = k'
/-- the places of the seats below s -/
def gSt (H : Nat → Nat → Bool) (f : Nat → Int32) (s : Nat) : Prop := (∀ s' k, s' < s → k < 4 → f (4 * s' + k) = -1 ∨ ∃ c, c < 52 ∧ f (4 * s' + k) = nI c ∧ H s' c = true) ∧ (∀ s' c, s' < s → c < 52 → H s' c = true → ∃ k, k < 4 ∧ f (4 * s' + k) = nI c) ∧ ∀ s' k k' c, s' < s → k < 4 → k' < 4 → c < 52 → f (4 * s' + k) = nI c → f (4 * s' + k') = nI c → k = k'
theorem gSt_congr {H : Nat → Nat → Bool} {f g : Nat → Int32} {s : Nat} (h : gSt H f s) (e : ∀ j, j < 4 * s → g j = f j) : gSt H g s := by
  obtain ⟨h1, h2, h3⟩ := h
  refine ⟨fun s' k hs hk => ?_, fun s' c hs hc hh => ?_, fun s' k k' c hs hk hk' hc e1 e2 => ?_⟩
  · rw [e _ (by omega)]; exact h1 s' k hs hk
  · obtain ⟨k, z1, z2⟩ := h2 s' c hs hc hh
    exact ⟨k, z1, by rw [e _ (by omega)]; exact z2⟩
  · rw [e _ (by omega)] at e1 e2; exact h3 s' k k' c hs hk hk' hc e1 e2
theorem gSt_rep {H : Nat → Nat → Bool} {f : Nat → Int32} (h : gSt H f 4) : sRep f H := ⟨fun s k hs hk => h.1 s k hs hk, fun s c hs hc hh => h.2.1 s c hs hc hh, fun s k k' c hs hk hk' hc e1 e2 => h.2.2 s k k' c hs hk hk' hc e1 e2⟩
theorem fSt_add {H : Nat → Nat → Bool} {f g : Nat → Int32} {s x n : Nat} (h : fSt H f s x n) (hx : x < 52) (hh : H s x = true) (h1 : g (4 * s + n) = nI x) (h2 : ∀ j, j ≠ 4 * s + n → g j = f j) : fSt H g s (x + 1) (n + 1) := by
  obtain ⟨a1, a2, a3, a4⟩ := h
  have old : ∀ k, k < n → g (4 * s + k) = f (4 * s + k) := fun k hk => h2 _ (by omega)
  refine ⟨by rw [a1]; simp [cnt, hh], fun k hk => ?_, fun c hc hcc => ?_, fun k k' c hk hk' hc e1 e2 => ?_⟩
  · by_cases q : k = n
    · subst q; exact ⟨x, by omega, hh, h1⟩
    · obtain ⟨c, z1, z2, z3⟩ := a2 k (by omega)
      exact ⟨c, by omega, z2, by rw [old k (by omega)]; exact z3⟩
  · by_cases q : c = x
    · subst q; exact ⟨n, by omega, h1⟩
    · obtain ⟨k, z1, z2⟩ := a3 c (by omega) hcc
      exact ⟨k, by omega, by rw [old k z1]; exact z2⟩
  · have lt : ∀ k, k < n → ∀ c, c < 52 → g (4 * s + k) = nI c → c < x := by
      intro k hk c hc e
      obtain ⟨c', z1, z2, z3⟩ := a2 k hk
      rw [old k hk, z3, nI_eq (by omega) (by omega)] at e
      omega
    by_cases q : k = n
    · by_cases q' : k' = n
      · omega
      · subst q
        rw [h1, nI_eq (by omega) (by omega)] at e1
        have := lt k' (by omega) c hc e2
        omega
    · by_cases q' : k' = n
      · subst q'
        rw [h1, nI_eq (by omega) (by omega)] at e2
        have := lt k (by omega) c hc e1
        omega
      · rw [old k (by omega)] at e1
        rw [old k' (by omega)] at e2
        exact a4 k k' c (by omega) (by omega) hc e1 e2
theorem fSt_skip {H : Nat → Nat → Bool} {f : Nat → Int32} {s x n : Nat} (h : fSt H f s x n) (hh : H s x = false) : fSt H f s (x + 1) n := by
  obtain ⟨a1, a2, a3, a4⟩ := h
  refine ⟨by rw [a1]; simp [cnt, hh], fun k hk => ?_, fun c hc hcc => ?_, a4⟩
  · obtain ⟨c, z1, z2, z3⟩ := a2 k hk
    exact ⟨c, by omega, z2, z3⟩
  · by_cases q : c = x
    · subst q; rw [hh] at hcc; cases hcc
    · exact a3 c (by omega) hcc
theorem fSt_end {H : Nat → Nat → Bool} {f g : Nat → Int32} {s n : Nat} (h : fSt H f s 52 n) (hg : gSt H f s) (hn : n ≤ 4) (h1 : ∀ k, k < n → g (4 * s + k) = f (4 * s + k)) (h2 : ∀ k, n ≤ k → k < 4 → g (4 * s + k) = -1) (h3 : ∀ j, j < 4 * s → g j = f j) : gSt H g (s + 1) := by
  obtain ⟨a1, a2, a3, a4⟩ := h
  obtain ⟨b1, b2, b3⟩ := gSt_congr hg h3
  refine ⟨fun s' k hs hk => ?_, fun s' c hs hc hh => ?_, fun s' k k' c hs hk hk' hc e1 e2 => ?_⟩
  · by_cases q : s' = s
    · subst q
      by_cases qk : k < n
      · obtain ⟨c, z1, z2, z3⟩ := a2 k qk
        exact Or.inr ⟨c, z1, by rw [h1 k qk]; exact z3, z2⟩
      · exact Or.inl (h2 k (by omega) hk)
    · exact b1 s' k (by omega) hk
  · by_cases q : s' = s
    · subst q
      obtain ⟨k, z1, z2⟩ := a3 c hc hh
      exact ⟨k, by omega, by rw [h1 k z1]; exact z2⟩
    · exact b2 s' c (by omega) hc hh
  · by_cases q : s' = s
    · subst q
      have lt : ∀ k, k < 4 → g (4 * s' + k) = nI c → k < n := by
        intro k hk e
        apply Nat.lt_of_not_le
        intro z
        rw [h2 k z hk] at e
        exact nI_m1 (by omega) e.symm
      have l1 := lt k hk e1
      have l2 := lt k' hk' e2
      rw [h1 k l1] at e1
      rw [h1 k' l2] at e2
      exact a4 k k' c l1 l2 hc e1 e2
    · exact b3 s' k k' c (by omega) hk hk' hc e1 e2
/-- while the cards are laid out: only 48 and 49 change -/
def lSt (u v : rS) : Prop := v.1 = u.1 ∧ ∀ a, a ≠ 48 → a ≠ 49 → v.2 a = u.2 a
theorem lSt.rS {u v : rS} (h : lSt u v) : rSame u v := ⟨by rw [h.1], by rw [h.1], by rw [h.1], fun a ha => h.2 a (by omega) (by omega)⟩
theorem cnt_mono (p : Nat → Bool) : ∀ {a b : Nat}, a ≤ b → cnt p a ≤ cnt p b
  | a, 0, h => by have : a = 0 := by omega
                  subst this; exact Nat.le_refl _
  | a, b + 1, h => by
    by_cases q : a = b + 1
    · rw [q]; exact Nat.le_refl _
    · have := cnt_mono p (show a ≤ b by omega)
      unfold cnt
      cases a with
      | zero => simp [cnt]
      | succ a => show cnt p (a + 1) ≤ _; omega
set_option maxRecDepth 20000 in
theorem r_lay_i {pr : aC} {d : Nat} {u0 : rS} (t m nb tk : Nat) (H : Nat → Nat → Bool) (ht : t < 10) (h0 : u0.1 0 = nI nb) (hnb : nb ≤ 36) (hm0 : u0.2 32 t = nI m) (hm52 : m ≤ 52) (hH : H = hH u0 t m) (hle : ∀ s, s < 4 → hN H s ≤ 4) (s : Nat) (hs : s < 4) {Q : Option Value → rS → Prop} (hQ : ∀ u n, lSt u0 u → fSt H (u.2 48) s 52 n → gSt H (u.2 48) s → rB pr (d + 4) cd_206 (some .int) Q 65 [some (.ref 25), some (.int (nI t)), some (.int (nI tk)), some (.int (nI s)), some (.int (nI n)), some (.int (nI 52))] [] u) : ∀ (zz : Nat) (x : Nat) (u : rS) (n : Nat) (hL : lSt u0 u) (hF : fSt H (u.2 48) s x n) (hG : gSt H (u.2 48) s) (hm : 52 - x < zz) (hx : x ≤ 52), rB pr (d + 4) cd_206 (Option.some Jvm.ClassFile.FieldType.int) Q 43 [some (.ref 25), some (.int (nI t)), some (.int (nI tk)), some (.int (nI s)), some (.int (nI n)), some (.int (nI x))] [] u := by
  intro zz
  induction zz with
  | zero => intro x u n hL hF hG hm hx; exact absurd hm (by omega)
  | succ zz ih =>
    intro x u n hL hF hG hm hx
    refine g_load rfl rfl rfl trivial ?_
    refine g_bipush (nI 52) rfl (by decide) ?_
    refine g_icmp_ge rfl (fun c1 => ?_) (fun c1 => ?_)
    · rw [nI_leI (by omega) (by omega)] at c1
      have hx52 : x = 52 := by omega
      subst hx52
      exact hQ u n hL hF hG
    · rw [nI_leI (by omega) (by omega)] at c1
      have hn4 : n ≤ hN H s := by rw [hF.1]; exact cnt_mono _ (by omega)
      have hle4 := hle s hs
      refine g_load rfl rfl rfl trivial ?_
      refine g_load rfl rfl rfl trivial ?_
      refine g_load rfl rfl rfl trivial ?_
      refine g_load rfl rfl rfl trivial ?_
      refine g_virtI (a := 25) (ci := 8) (n := 3) [.int (nI t), .int (nI s), .int (nI x)] rFr_tr rfl rfl (by decide) rfl r_this rfl (Nat.le_of_ble_eq_true rfl) (Nat.le_refl _) (Nat.le_refl _) (r_holds t m nb (nI s) (nI x) ht (hL.rS.1.trans h0) hnb (by rw [hL.2 32 (by decide) (by decide)]; exact hm0) hm52 ⟨_, rfl, ?_⟩)
      refine g_if_ne rfl (fun c2 => ?_) (fun c2 => ?_)
      · rw [bI_ne, rSame_hd hL.rS] at c2
        have hh : H s x = true := by rw [hH]; exact c2
        refine g_load rfl rfl rfl trivial ?_
        refine r_getf rfl rfl ?_
        refine g_iconst (nI 4) rfl (by decide) ?_
        refine g_load rfl rfl rfl trivial ?_
        refine g_imul rfl ?_
        refine g_load rfl rfl rfl trivial ?_
        refine g_iadd rfl ?_
        refine g_load rfl rfl rfl trivial ?_
        have hlt : n < 4 := by
          have h1 : cnt (H s) (x + 1) ≤ hN H s := cnt_mono _ (by omega)
          have h2 : cnt (H s) (x + 1) = cnt (H s) x + 1 := by simp [cnt, hh]
          have h3 := hF.1
          omega
        refine r_iasv (4 * s + n) rfl ⟨by decide, by decide, rfl⟩ (by rw [pk_mul, nI_add]) (by show _ < 16; omega) (fun v a1 b1 c1 d1 => ?_)
        have hF2 := fSt_add hF (by omega) hh c1 d1
        have hL2 : lSt u0 v := ⟨a1.trans hL.1, fun a h1 h2 => (b1 a h1).trans (hL.2 a h1 h2)⟩
        have hG2 : gSt H (v.2 48) s := gSt_congr hG (fun j hj => d1 j (by omega))
        refine g_iinc (nI (n + 1)) [some (.ref 25), some (.int (nI t)), some (.int (nI tk)), some (.int (nI s)), some (.int (nI (n + 1))), some (.int (nI x))] rfl rfl (nI_1 n) rfl ?_
        refine g_iinc (nI (x + 1)) [some (.ref 25), some (.int (nI t)), some (.int (nI tk)), some (.int (nI s)), some (.int (nI (n + 1))), some (.int (nI (x + 1)))] rfl rfl (nI_1 x) rfl ?_
        refine g_goto rfl ?_
        exact ih (x + 1) _ _ hL2 hF2 hG2 (by omega) (by omega)
      · rw [bI_eq, rSame_hd hL.rS] at c2
        have hh : H s x = false := by rw [hH]; exact c2
        have hF2 := fSt_skip hF hh
        have hL2 := hL
        have hG2 := hG
        refine g_goto rfl ?_
        refine g_iinc (nI (x + 1)) [some (.ref 25), some (.int (nI t)), some (.int (nI tk)), some (.int (nI s)), some (.int (nI n)), some (.int (nI (x + 1)))] rfl rfl (nI_1 x) rfl ?_
        refine g_goto rfl ?_
        exact ih (x + 1) _ _ hL2 hF2 hG2 (by omega) (by omega)
set_option maxRecDepth 20000 in
theorem r_lay_f {pr : aC} {d : Nat} {u0 : rS} (t tk n : Nat) (H : Nat → Nat → Bool) (f : Nat → Int32) (s : Nat) (hs : s < 4) (hn : n ≤ 4) (hF : fSt H f s 52 n) (hG : gSt H f s) {Q : Option Value → rS → Prop} (hQ : ∀ u, lSt u0 u → gSt H (u.2 48) (s + 1) → rB pr (d + 4) cd_206 (some .int) Q 81 [some (.ref 25), some (.int (nI t)), some (.int (nI tk)), some (.int (nI s)), some (.int (nI n)), some (.int (nI 4))] [] u) : ∀ (zz : Nat) (x : Nat) (u : rS) (hL : lSt u0 u) (h1 : ∀ k, k < n → u.2 48 (4 * s + k) = f (4 * s + k)) (h2 : ∀ k, n ≤ k → k < x → u.2 48 (4 * s + k) = -1) (h3 : ∀ j, j < 4 * s → u.2 48 j = f j) (hnx : n ≤ x) (hm : 4 - x < zz) (hx : x ≤ 4), rB pr (d + 4) cd_206 (Option.some Jvm.ClassFile.FieldType.int) Q 67 [some (.ref 25), some (.int (nI t)), some (.int (nI tk)), some (.int (nI s)), some (.int (nI n)), some (.int (nI x))] [] u := by
  intro zz
  induction zz with
  | zero => intro x u hL h1 h2 h3 hnx hm hx; exact absurd hm (by omega)
  | succ zz ih =>
    intro x u hL h1 h2 h3 hnx hm hx
    refine g_load rfl rfl rfl trivial ?_
    refine g_iconst (nI 4) rfl (by decide) ?_
    refine g_icmp_ge rfl (fun c1 => ?_) (fun c1 => ?_)
    · rw [nI_leI (by omega) (by omega)] at c1
      have hx4 : x = 4 := by omega
      subst hx4
      exact hQ u hL (fSt_end hF hG hn h1 h2 h3)
    · rw [nI_leI (by omega) (by omega)] at c1
      refine g_load rfl rfl rfl trivial ?_
      refine r_getf rfl rfl ?_
      refine g_iconst (nI 4) rfl (by decide) ?_
      refine g_load rfl rfl rfl trivial ?_
      refine g_imul rfl ?_
      refine g_load rfl rfl rfl trivial ?_
      refine g_iadd rfl ?_
      refine g_iconst (-1) rfl (by decide) ?_
      refine r_iasv (4 * s + x) rfl ⟨by decide, by decide, rfl⟩ (by rw [pk_mul, nI_add]) (by show _ < 16; omega) (fun v a1 b1 c1 d1 => ?_)
      refine g_iinc (nI (x + 1)) [some (.ref 25), some (.int (nI t)), some (.int (nI tk)), some (.int (nI s)), some (.int (nI n)), some (.int (nI (x + 1)))] rfl rfl (nI_1 x) rfl ?_
      refine g_goto rfl ?_
      refine ih (x + 1) v ⟨a1.trans hL.1, fun a q1 q2 => (b1 a q1).trans (hL.2 a q1 q2)⟩ (fun k hk => by rw [d1 _ (by omega)]; exact h1 k hk) (fun k hk hk2 => ?_) (fun j hj => by rw [d1 _ (by omega)]; exact h3 j hj) (by omega) (by omega) (by omega)
      by_cases q : k = x
      · subst q; exact c1
      · rw [d1 _ (by omega)]; exact h2 k hk (by omega)
set_option maxRecDepth 20000 in
theorem r_lay_s {pr : aC} {d : Nat} {u0 : rS} (t m nb tk : Nat) (H : Nat → Nat → Bool) (ht : t < 10) (h0 : u0.1 0 = nI nb) (hnb : nb ≤ 36) (hm0 : u0.2 32 t = nI m) (hm52 : m ≤ 52) (hH : H = hH u0 t m) (hle : ∀ s, s < 4 → hN H s ≤ 4) {Q : Option Value → rS → Prop} (hQ : ∀ u l4 l5, lSt u0 u → gSt H (u.2 48) 4 → rB pr (d + 4) cd_206 (some .int) Q 83 [some (.ref 25), some (.int (nI t)), some (.int (nI tk)), some (.int (nI 4)), l4, l5] [] u) : ∀ (zz : Nat) (s : Nat) (u : rS) (l4 l5 : Option Value) (hL : lSt u0 u) (hG : gSt H (u.2 48) s) (hm : 4 - s < zz) (hx : s ≤ 4), rB pr (d + 4) cd_206 (Option.some Jvm.ClassFile.FieldType.int) Q 36 [some (.ref 25), some (.int (nI t)), some (.int (nI tk)), some (.int (nI s)), l4, l5] [] u := by
  intro zz
  induction zz with
  | zero => intro s u l4 l5 hL hG hm hx; exact absurd hm (by omega)
  | succ zz ih =>
    intro s u l4 l5 hL hG hm hx
    refine g_load rfl rfl rfl trivial ?_
    refine g_iconst (nI 4) rfl (by decide) ?_
    refine g_icmp_ge rfl (fun c1 => ?_) (fun c1 => ?_)
    · rw [nI_leI (by omega) (by omega)] at c1
      have hx4 : s = 4 := by omega
      subst hx4
      exact hQ u l4 l5 hL hG
    · rw [nI_leI (by omega) (by omega)] at c1
      refine g_iconst (nI 0) rfl (by decide) ?_
      refine g_store [some (.ref 25), some (.int (nI t)), some (.int (nI tk)), some (.int (nI s)), some (.int (nI 0)), l5] rfl rfl trivial (Nat.le_of_ble_eq_true rfl) rfl ?_
      refine g_iconst (nI 0) rfl (by decide) ?_
      refine g_store [some (.ref 25), some (.int (nI t)), some (.int (nI tk)), some (.int (nI s)), some (.int (nI 0)), some (.int (nI 0))] rfl rfl trivial (Nat.le_of_ble_eq_true rfl) rfl ?_
      refine r_lay_i t m nb tk H ht h0 hnb hm0 hm52 hH hle s (by omega) (fun u1 n hL1 hF1 hG1 => ?_) 53 0 u 0 hL ⟨rfl, fun k hk => absurd hk (by omega), fun c hc => absurd hc (by omega), fun k k' c hk => absurd hk (by omega)⟩ hG (by omega) (by omega)
      have hn4 : n ≤ 4 := by have h1 := hle s (by omega); have h2 : n = hN H s := hF1.1; omega
      refine g_load rfl rfl rfl trivial ?_
      refine g_store [some (.ref 25), some (.int (nI t)), some (.int (nI tk)), some (.int (nI s)), some (.int (nI n)), some (.int (nI n))] rfl rfl trivial (Nat.le_of_ble_eq_true rfl) rfl ?_
      refine r_lay_f (u0 := u0) t tk n H (u1.2 48) s (by omega) hn4 hF1 hG1 (fun u2 hL2 hG2 => ?_) 5 n u1 hL1 (fun _ _ => rfl) (fun k h1 h2 => absurd h1 (by omega)) (fun _ _ => rfl) (by omega) (by omega) (by omega)
      refine g_iinc (nI (s + 1)) [some (.ref 25), some (.int (nI t)), some (.int (nI tk)), some (.int (nI (s + 1))), some (.int (nI n)), some (.int (nI 4))] rfl rfl (nI_1 s) rfl ?_
      refine g_goto rfl ?_
      exact ih (s + 1) u2 _ _ hL2 hG2 (by omega) (by omega)
set_option maxRecDepth 20000 in
theorem r_lay_t {pr : aC} {d : Nat} {u0 : rS} (t m tk j : Nat) (H : Nat → Nat → Bool) (ht : t < 10) (hm0 : u0.2 32 t = nI m) (hm52 : m ≤ 52) (h26 : u0.1 26 = nI j) (hj : j ≤ m) (hj4 : m - j < 4) {Q : Option Value → rS → Prop} (hQ : ∀ u, lSt u0 u → sRep (u.2 48) H → (∀ k, k < m - j → u.2 49 k = gf u0 t (j + k)) → Q (some (.int (nI tk))) u) : ∀ (zz : Nat) (x : Nat) (u : rS) (l4 l5 : Option Value) (hL : lSt u0 u) (hR : sRep (u.2 48) H) (hT : ∀ k, k < x → u.2 49 k = gf u0 t (j + k)) (hm : m - j - x < zz) (hx : x ≤ m - j), rB pr (d + 4) cd_206 (Option.some Jvm.ClassFile.FieldType.int) Q 86 [some (.ref 25), some (.int (nI t)), some (.int (nI tk)), some (.int (nI (j + x))), l4, l5] [] u := by
  intro zz
  induction zz with
  | zero => intro x u l4 l5 hL hR hT hm hx; exact absurd hm (by omega)
  | succ zz ih =>
    intro x u l4 l5 hL hR hT hm hx
    refine g_load rfl rfl rfl trivial ?_
    refine g_load rfl rfl rfl trivial ?_
    refine r_getf rfl rfl ?_
    refine g_load rfl rfl rfl trivial ?_
    refine r_ia (t) rfl ⟨by decide, by decide, rfl⟩ rfl (by show _ < 10; omega) ?_
    rw [hL.2 32 (by decide) (by decide), hm0]
    refine g_icmp_ge rfl (fun c1 => ?_) (fun c1 => ?_)
    · rw [nI_leI (by omega) (by omega)] at c1
      have hxe : x = m - j := by omega
      subst hxe
      have hQ := hQ u hL hR hT
      refine g_load rfl rfl rfl trivial ?_
      refine g_vret rfl trivial ⟨rfl, rfl⟩ (Nat.le_refl _) (Nat.le_refl _) ?_
      exact hQ
    · rw [nI_leI (by omega) (by omega)] at c1
      refine g_load rfl rfl rfl trivial ?_
      refine r_getf rfl rfl ?_
      refine g_load rfl rfl rfl trivial ?_
      refine g_load rfl rfl rfl trivial ?_
      refine r_getf rfl rfl ?_
      refine g_isub rfl ?_
      refine g_load rfl rfl rfl trivial ?_
      refine r_getf rfl rfl ?_
      refine g_bipush (nI 52) rfl (by decide) ?_
      refine g_load rfl rfl rfl trivial ?_
      refine g_imul rfl ?_
      refine g_load rfl rfl rfl trivial ?_
      refine g_iadd rfl ?_
      refine r_ia (52 * t + (j + x)) rfl ⟨by decide, by decide, rfl⟩ (by rw [pk_mul, nI_add]) (by show _ < 520; omega) ?_
      refine r_iasv (x) rfl ⟨by decide, by decide, rfl⟩ (by rw [hL.1, h26, pk_sub (by omega)]; congr 1; omega) (by show _ < 4; omega) (fun v a1 b1 c1 d1 => ?_)
      refine g_iinc (nI (j + (x + 1))) [some (.ref 25), some (.int (nI t)), some (.int (nI tk)), some (.int (nI (j + (x + 1)))), l4, l5] rfl rfl (nI_1 (j + x)) rfl ?_
      refine g_goto rfl ?_
      refine ih (x + 1) v _ _ ⟨a1.trans hL.1, fun a q1 q2 => (b1 a q2).trans (hL.2 a q1 q2)⟩ (by rw [b1 48 (by decide)]; exact hR) (fun k hk => ?_) (by omega) (by omega)
      by_cases q : k = x
      · subst q; rw [c1, hL.2 34 (by decide) (by decide)]; rfl
      · rw [d1 k q]; exact hT k (by omega)
