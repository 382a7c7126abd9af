/-! ===== the law: one call after the other ===== -/
theorem gR_mono {σ : Type} {Rp : σ → aH → Prop} {Fr : aH → aH → Prop} {cl : aC} {j : Nat} {as : List Value} {u : σ} {mc ms : Nat} {Q Q' : Option Value → σ → Prop} (hC : gR Rp Fr cl j as u mc ms Q) (hm : ∀ v s, Q v s → Q' v s) : gR Rp Fr cl j as u mc ms Q' :=
  fun h QQ hR hq => hC h QQ hR (fun r h' u' a b c => hq r h' u' a b (hm r u' c))
theorem g_virtP {σ : Type} {Rp : σ → aH → Prop} {Fr : aH → aH → Prop} {cl : aC} {cd : List aE} {C S : Nat} {rt : Option FieldType} {Q : Option Value → σ → Prop} {k : Nat} {l : aL} {st sk : List Value} {u : σ} {c s : Nat} {j x n a ci y : Nat} (as : List Value) (mc ms : Nat) (hft : ∀ a b d, Fr a b → Fr b d → Fr a d) (hg : aGet cd k = some (.invokevirtual j, x, y)) (hy : y = n + 16 * ci) (hn16 : n < 16) (hn : as.length = n) (hob : ∀ h, Rp u h → 16 ≤ a ∧ a < h.2 ∧ ∃ fs, h.1 a = .inr (ci, fs)) (hst : as.reverse ++ .ref a :: st = sk) (hcat : aCat st ≤ 8) (hc : c + mc ≤ C) (hs : s + ms ≤ S) (hC : gR Rp Fr cl x (.ref a :: as) u mc ms (fun r u' => ∃ v, r = some v ∧ gB Rp Fr cl cd C S rt Q (k + 1) l (v :: st) u' (c + mc) (s + ms))) : gB Rp Fr cl cd C S rt Q k l sk u c s := by
  intro h0 h QQ hR hF hQ P hr
  obtain ⟨b1, b2, fs, b3⟩ := hob h hR
  subst hy
  refine hst ▸ hr 45 k _ x n a as st mc ms ci fs l h c s hg ⟨j, rfl⟩ hn16 hn b1 b2 b3 hcat hc hs (hC h _ hR (fun r h' u' hR' hF' hB => ?_))
  obtain ⟨v, rfl, hB⟩ := hB
  exact hB h0 h' QQ hR' (hft h0 h h' hF hF') hQ P hr
section LAW
variable {cl : aC} {cd : List aE} {C S : Nat} {rt : Option FieldType} {Q : Option Value → cS × rS → Prop} {k : Nat} {l : aL} {st : List Value} {u : cS × rS} {c s : Nat} {L : Nat} {xs : Nat → Int32}
theorem l_ia {x y : Nat} {i : Int32} (n : Nat) (hg : aGet cd k = some (.iaload, x, y)) (hi : i = nI n) (hn : n < L) (hL : L ≤ 3072) (hP : gB (LF L xs) tFr cl cd C S rt Q (k + 1) l (.int (xs n) :: st) u c s) : gB (LF L xs) tFr cl cd C S rt Q k l (.int i :: .ref 14 :: st) u c s := by
  intro h0' h QQ hR hF hQ P hr
  refine hr 29 k x y 14 L xs i l st h c s hg (by have := hR.2.1.1; omega) hR.2.2 (hi ▸ vp_in_nI hn (by omega)) ?_
  rw [hi, nI_clamp (by omega)]
  exact hP h0' h QQ hR hF hQ P hr
theorem l_len {x y : Nat} (hg : aGet cd k = some (.arraylength, x, y)) (hP : gB (LF L xs) tFr cl cd C S rt Q (k + 1) l (.int (nI L) :: st) u c s) : gB (LF L xs) tFr cl cd C S rt Q k l (.ref 14 :: st) u c s := by
  intro h0' h QQ hR hF hQ P hr
  exact hr 28 k x y 14 0 (L, .inl xs) l st h c s hg (by have := hR.2.1.1; omega) hR.2.2 (by decide) (hP h0' h QQ hR hF hQ P hr)
end LAW
theorem l_16 {L : Nat} {xs : Nat → Int32} {u : cS} {r : rS} (hk : u.kd 16 = 10) (h : aH) (hR : LF L xs (u, r) h) : 16 ≤ 16 ∧ 16 < h.2 ∧ ∃ fs, h.1 16 = .inr (7, fs) := c_ob hk (by decide) rfl h hR.1
theorem l_25 {L : Nat} {xs : Nat → Int32} {u : cS} {r : rS} (h : aH) (hR : LF L xs (u, r) h) : 16 ≤ 25 ∧ 25 < h.2 ∧ ∃ fs, h.1 25 = .inr (8, fs) := r_this h hR.2.1
/-- the law's body at a place, the i-th int -/
abbrev lB (pr : aC) (D L : Nat) (xs : Nat → Int32) (C S : Nat) (Q : Option Value → cS × rS → Prop) (k i : Nat) (u : cS × rS) (c s : Nat) : Prop := gB (LF L xs) tFr (aRun pg pr (D + 50)) cd_225 C S ret Q k [some (.ref 14), some (.ref 16), some (.ref 25), some (.int (nI i))] [] u c s
set_option maxRecDepth 20000 in
theorem q_deal {pr : aC} {D L : Nat} {xs : Nat → Int32} {u : cS} {r : rS} {nb nr : Nat} (hJ : J u r nb nr) {i : Nat} (hL : L ≤ 3072) (hi : i + 6 ≤ L) {C S c s : Nat} {Q : Option Value → cS × rS → Prop} (hc : c + 6 ≤ C) (hs : s + 399 ≤ S) (hK : ∀ (p : cS × rS) nb nr c' s', J p.1 p.2 nb nr → c' ≤ c + 6 → s' ≤ s + 399 → lB pr D L xs C S Q 840 i p c' s') : lB pr D L xs C S Q 22 i (u, r) c s := by
  refine g_load rfl rfl rfl trivial ?_
  refine g_load rfl rfl rfl trivial ?_
  refine g_load rfl rfl rfl trivial ?_
  refine g_iconst (nI 1) rfl (by decide) ?_
  refine g_iadd rfl ?_
  refine l_ia (i + 1) rfl (by simp only [nI_add]) (by omega) hL ?_
  refine g_virtP (a := 16) (ci := 7) (n := 1) [.int (xs (i + 1))] 2 8 tFr_tr rfl rfl (by decide) rfl (l_16 hJ.k.1) rfl (Nat.le_of_ble_eq_true rfl) (by omega) (by omega) (gR_mono (p_deal hJ (xs (i + 1))) (fun v p1 hq => ?_))
  obtain ⟨x, u', rfl, rfl, hR⟩ := hq
  refine ⟨_, rfl, ?_⟩
  refine g_load rfl rfl rfl trivial ?_
  refine g_load rfl rfl rfl trivial ?_
  refine g_load rfl rfl rfl trivial ?_
  refine g_iconst (nI 1) rfl (by decide) ?_
  refine g_iadd rfl ?_
  refine l_ia (i + 1) rfl (by simp only [nI_add]) (by omega) hL ?_
  refine g_virtP (a := 25) (ci := 8) (n := 1) [.int (xs (i + 1))] 0 0 tFr_tr rfl rfl (by decide) rfl l_25 rfl (Nat.le_of_ble_eq_true rfl) (by omega) (by omega) (gR_mono hR (fun w p2 hq => ?_))
  obtain ⟨rfl, nb', nr', hJ'⟩ := hq
  refine ⟨_, rfl, ?_⟩
  refine g_icmp_eq rfl (fun c1 => ?_) (fun c1 => ?_)
  · exact hK _ _ _ _ _ hJ' (by omega) (by omega)
  · exact absurd rfl c1
set_option maxRecDepth 20000 in
theorem q_swap {pr : aC} {D L : Nat} {xs : Nat → Int32} {u : cS} {r : rS} {nb nr : Nat} (hJ : J u r nb nr) {i : Nat} (hL : L ≤ 3072) (hi : i + 6 ≤ L) {C S c s : Nat} {Q : Option Value → cS × rS → Prop} (hc : c + 6 ≤ C) (hs : s + 399 ≤ S) (hK : ∀ (p : cS × rS) nb nr c' s', J p.1 p.2 nb nr → c' ≤ c + 6 → s' ≤ s + 399 → lB pr D L xs C S Q 840 i p c' s') : lB pr D L xs C S Q 39 i (u, r) c s := by
  refine g_load rfl rfl rfl trivial ?_
  refine g_load rfl rfl rfl trivial ?_
  refine g_load rfl rfl rfl trivial ?_
  refine g_iconst (nI 1) rfl (by decide) ?_
  refine g_iadd rfl ?_
  refine l_ia (i + 1) rfl (by simp only [nI_add]) (by omega) hL ?_
  refine g_load rfl rfl rfl trivial ?_
  refine g_load rfl rfl rfl trivial ?_
  refine g_iconst (nI 2) rfl (by decide) ?_
  refine g_iadd rfl ?_
  refine l_ia (i + 2) rfl (by simp only [nI_add]) (by omega) hL ?_
  refine g_load rfl rfl rfl trivial ?_
  refine g_load rfl rfl rfl trivial ?_
  refine g_iconst (nI 3) rfl (by decide) ?_
  refine g_iadd rfl ?_
  refine l_ia (i + 3) rfl (by simp only [nI_add]) (by omega) hL ?_
  refine g_virtP (a := 16) (ci := 7) (n := 3) [.int (xs (i + 1)), .int (xs (i + 2)), .int (xs (i + 3))] 0 0 tFr_tr rfl rfl (by decide) rfl (l_16 hJ.k.1) rfl (Nat.le_of_ble_eq_true rfl) (by omega) (by omega) (gR_mono (p_swap hJ (xs (i + 1)) (xs (i + 2)) (xs (i + 3))) (fun v p1 hq => ?_))
  obtain ⟨x, u', rfl, rfl, hR⟩ := hq
  refine ⟨_, rfl, ?_⟩
  refine g_load rfl rfl rfl trivial ?_
  refine g_load rfl rfl rfl trivial ?_
  refine g_load rfl rfl rfl trivial ?_
  refine g_iconst (nI 1) rfl (by decide) ?_
  refine g_iadd rfl ?_
  refine l_ia (i + 1) rfl (by simp only [nI_add]) (by omega) hL ?_
  refine g_load rfl rfl rfl trivial ?_
  refine g_load rfl rfl rfl trivial ?_
  refine g_iconst (nI 2) rfl (by decide) ?_
  refine g_iadd rfl ?_
  refine l_ia (i + 2) rfl (by simp only [nI_add]) (by omega) hL ?_
  refine g_load rfl rfl rfl trivial ?_
  refine g_load rfl rfl rfl trivial ?_
  refine g_iconst (nI 3) rfl (by decide) ?_
  refine g_iadd rfl ?_
  refine l_ia (i + 3) rfl (by simp only [nI_add]) (by omega) hL ?_
  refine g_virtP (a := 25) (ci := 8) (n := 3) [.int (xs (i + 1)), .int (xs (i + 2)), .int (xs (i + 3))] 0 0 tFr_tr rfl rfl (by decide) rfl l_25 rfl (Nat.le_of_ble_eq_true rfl) (by omega) (by omega) (gR_mono hR (fun w p2 hq => ?_))
  obtain ⟨rfl, nb', nr', hJ'⟩ := hq
  refine ⟨_, rfl, ?_⟩
  refine g_icmp_eq rfl (fun c1 => ?_) (fun c1 => ?_)
  · exact hK _ _ _ _ _ hJ' (by omega) (by omega)
  · exact absurd rfl c1
set_option maxRecDepth 20000 in
theorem q_hand {pr : aC} {D L : Nat} {xs : Nat → Int32} {u : cS} {r : rS} {nb nr : Nat} (hJ : J u r nb nr) {i : Nat} (hL : L ≤ 3072) (hi : i + 6 ≤ L) {C S c s : Nat} {Q : Option Value → cS × rS → Prop} (hc : c + 6 ≤ C) (hs : s + 399 ≤ S) (hK : ∀ (p : cS × rS) nb nr c' s', J p.1 p.2 nb nr → c' ≤ c + 6 → s' ≤ s + 399 → lB pr D L xs C S Q 840 i p c' s') : lB pr D L xs C S Q 76 i (u, r) c s := by
  refine g_load rfl rfl rfl trivial ?_
  refine g_load rfl rfl rfl trivial ?_
  refine g_load rfl rfl rfl trivial ?_
  refine g_iconst (nI 1) rfl (by decide) ?_
  refine g_iadd rfl ?_
  refine l_ia (i + 1) rfl (by simp only [nI_add]) (by omega) hL ?_
  refine g_load rfl rfl rfl trivial ?_
  refine g_load rfl rfl rfl trivial ?_
  refine g_iconst (nI 2) rfl (by decide) ?_
  refine g_iadd rfl ?_
  refine l_ia (i + 2) rfl (by simp only [nI_add]) (by omega) hL ?_
  refine g_virtP (a := 16) (ci := 7) (n := 2) [.int (xs (i + 1)), .int (xs (i + 2))] 0 0 tFr_tr rfl rfl (by decide) rfl (l_16 hJ.k.1) rfl (Nat.le_of_ble_eq_true rfl) (by omega) (by omega) (gR_mono (p_hand hJ (xs (i + 1)) (xs (i + 2))) (fun v p1 hq => ?_))
  obtain ⟨x, u', rfl, rfl, hR⟩ := hq
  refine ⟨_, rfl, ?_⟩
  refine g_load rfl rfl rfl trivial ?_
  refine g_load rfl rfl rfl trivial ?_
  refine g_load rfl rfl rfl trivial ?_
  refine g_iconst (nI 1) rfl (by decide) ?_
  refine g_iadd rfl ?_
  refine l_ia (i + 1) rfl (by simp only [nI_add]) (by omega) hL ?_
  refine g_load rfl rfl rfl trivial ?_
  refine g_load rfl rfl rfl trivial ?_
  refine g_iconst (nI 2) rfl (by decide) ?_
  refine g_iadd rfl ?_
  refine l_ia (i + 2) rfl (by simp only [nI_add]) (by omega) hL ?_
  refine g_virtP (a := 25) (ci := 8) (n := 2) [.int (xs (i + 1)), .int (xs (i + 2))] 0 0 tFr_tr rfl rfl (by decide) rfl l_25 rfl (Nat.le_of_ble_eq_true rfl) (by omega) (by omega) (gR_mono hR (fun w p2 hq => ?_))
  obtain ⟨rfl, nb', nr', hJ'⟩ := hq
  refine ⟨_, rfl, ?_⟩
  refine g_icmp_eq rfl (fun c1 => ?_) (fun c1 => ?_)
  · exact hK _ _ _ _ _ hJ' (by omega) (by omega)
  · exact absurd rfl c1
set_option maxRecDepth 20000 in
theorem q_board {pr : aC} {D L : Nat} {xs : Nat → Int32} {u : cS} {r : rS} {nb nr : Nat} (hJ : J u r nb nr) {i : Nat} (hL : L ≤ 3072) (hi : i + 6 ≤ L) {C S c s : Nat} {Q : Option Value → cS × rS → Prop} (hc : c + 6 ≤ C) (hs : s + 399 ≤ S) (hK : ∀ (p : cS × rS) nb nr c' s', J p.1 p.2 nb nr → c' ≤ c + 6 → s' ≤ s + 399 → lB pr D L xs C S Q 840 i p c' s') : lB pr D L xs C S Q 103 i (u, r) c s := by
  refine g_load rfl rfl rfl trivial ?_
  refine g_load rfl rfl rfl trivial ?_
  refine g_load rfl rfl rfl trivial ?_
  refine g_iconst (nI 1) rfl (by decide) ?_
  refine g_iadd rfl ?_
  refine l_ia (i + 1) rfl (by simp only [nI_add]) (by omega) hL ?_
  refine g_load rfl rfl rfl trivial ?_
  refine g_load rfl rfl rfl trivial ?_
  refine g_iconst (nI 2) rfl (by decide) ?_
  refine g_iadd rfl ?_
  refine l_ia (i + 2) rfl (by simp only [nI_add]) (by omega) hL ?_
  refine g_virtP (a := 16) (ci := 7) (n := 2) [.int (xs (i + 1)), .int (xs (i + 2))] 0 0 tFr_tr rfl rfl (by decide) rfl (l_16 hJ.k.1) rfl (Nat.le_of_ble_eq_true rfl) (by omega) (by omega) (gR_mono (p_board hJ (xs (i + 1)) (xs (i + 2))) (fun v p1 hq => ?_))
  obtain ⟨x, u', rfl, rfl, hR⟩ := hq
  refine ⟨_, rfl, ?_⟩
  refine g_load rfl rfl rfl trivial ?_
  refine g_load rfl rfl rfl trivial ?_
  refine g_load rfl rfl rfl trivial ?_
  refine g_iconst (nI 1) rfl (by decide) ?_
  refine g_iadd rfl ?_
  refine l_ia (i + 1) rfl (by simp only [nI_add]) (by omega) hL ?_
  refine g_load rfl rfl rfl trivial ?_
  refine g_load rfl rfl rfl trivial ?_
  refine g_iconst (nI 2) rfl (by decide) ?_
  refine g_iadd rfl ?_
  refine l_ia (i + 2) rfl (by simp only [nI_add]) (by omega) hL ?_
  refine g_virtP (a := 25) (ci := 8) (n := 2) [.int (xs (i + 1)), .int (xs (i + 2))] 0 0 tFr_tr rfl rfl (by decide) rfl l_25 rfl (Nat.le_of_ble_eq_true rfl) (by omega) (by omega) (gR_mono hR (fun w p2 hq => ?_))
  obtain ⟨rfl, nb', nr', hJ'⟩ := hq
  refine ⟨_, rfl, ?_⟩
  refine g_icmp_eq rfl (fun c1 => ?_) (fun c1 => ?_)
  · exact hK _ _ _ _ _ hJ' (by omega) (by omega)
  · exact absurd rfl c1
set_option maxRecDepth 20000 in
theorem q_begin {pr : aC} {D L : Nat} {xs : Nat → Int32} {u : cS} {r : rS} {nb nr : Nat} (hJ : J u r nb nr) {i : Nat} (hL : L ≤ 3072) (hi : i + 6 ≤ L) {C S c s : Nat} {Q : Option Value → cS × rS → Prop} (hc : c + 6 ≤ C) (hs : s + 399 ≤ S) (hK : ∀ (p : cS × rS) nb nr c' s', J p.1 p.2 nb nr → c' ≤ c + 6 → s' ≤ s + 399 → lB pr D L xs C S Q 840 i p c' s') : lB pr D L xs C S Q 130 i (u, r) c s := by
  refine g_load rfl rfl rfl trivial ?_
  refine g_load rfl rfl rfl trivial ?_
  refine g_load rfl rfl rfl trivial ?_
  refine g_iconst (nI 1) rfl (by decide) ?_
  refine g_iadd rfl ?_
  refine l_ia (i + 1) rfl (by simp only [nI_add]) (by omega) hL ?_
  refine g_load rfl rfl rfl trivial ?_
  refine g_load rfl rfl rfl trivial ?_
  refine g_iconst (nI 2) rfl (by decide) ?_
  refine g_iadd rfl ?_
  refine l_ia (i + 2) rfl (by simp only [nI_add]) (by omega) hL ?_
  refine g_load rfl rfl rfl trivial ?_
  refine g_load rfl rfl rfl trivial ?_
  refine g_iconst (nI 3) rfl (by decide) ?_
  refine g_iadd rfl ?_
  refine l_ia (i + 3) rfl (by simp only [nI_add]) (by omega) hL ?_
  refine g_load rfl rfl rfl trivial ?_
  refine g_load rfl rfl rfl trivial ?_
  refine g_iconst (nI 4) rfl (by decide) ?_
  refine g_iadd rfl ?_
  refine l_ia (i + 4) rfl (by simp only [nI_add]) (by omega) hL ?_
  refine g_virtP (a := 16) (ci := 7) (n := 4) [.int (xs (i + 1)), .int (xs (i + 2)), .int (xs (i + 3)), .int (xs (i + 4))] 6 399 tFr_tr rfl rfl (by decide) rfl (l_16 hJ.k.1) rfl (Nat.le_of_ble_eq_true rfl) (by omega) (by omega) (gR_mono (p_begin hJ (xs (i + 1)) (xs (i + 2)) (xs (i + 3)) (xs (i + 4))) (fun v p1 hq => ?_))
  obtain ⟨x, u', rfl, rfl, hR⟩ := hq
  refine ⟨_, rfl, ?_⟩
  refine g_load rfl rfl rfl trivial ?_
  refine g_load rfl rfl rfl trivial ?_
  refine g_load rfl rfl rfl trivial ?_
  refine g_iconst (nI 1) rfl (by decide) ?_
  refine g_iadd rfl ?_
  refine l_ia (i + 1) rfl (by simp only [nI_add]) (by omega) hL ?_
  refine g_load rfl rfl rfl trivial ?_
  refine g_load rfl rfl rfl trivial ?_
  refine g_iconst (nI 2) rfl (by decide) ?_
  refine g_iadd rfl ?_
  refine l_ia (i + 2) rfl (by simp only [nI_add]) (by omega) hL ?_
  refine g_load rfl rfl rfl trivial ?_
  refine g_load rfl rfl rfl trivial ?_
  refine g_iconst (nI 3) rfl (by decide) ?_
  refine g_iadd rfl ?_
  refine l_ia (i + 3) rfl (by simp only [nI_add]) (by omega) hL ?_
  refine g_load rfl rfl rfl trivial ?_
  refine g_load rfl rfl rfl trivial ?_
  refine g_iconst (nI 4) rfl (by decide) ?_
  refine g_iadd rfl ?_
  refine l_ia (i + 4) rfl (by simp only [nI_add]) (by omega) hL ?_
  refine g_virtP (a := 25) (ci := 8) (n := 4) [.int (xs (i + 1)), .int (xs (i + 2)), .int (xs (i + 3)), .int (xs (i + 4))] 0 0 tFr_tr rfl rfl (by decide) rfl l_25 rfl (Nat.le_of_ble_eq_true rfl) (by omega) (by omega) (gR_mono hR (fun w p2 hq => ?_))
  obtain ⟨rfl, nb', nr', hJ'⟩ := hq
  refine ⟨_, rfl, ?_⟩
  refine g_icmp_eq rfl (fun c1 => ?_) (fun c1 => ?_)
  · exact hK _ _ _ _ _ hJ' (by omega) (by omega)
  · exact absurd rfl c1
set_option maxRecDepth 20000 in
theorem q_call {pr : aC} {D L : Nat} {xs : Nat → Int32} {u : cS} {r : rS} {nb nr : Nat} (hJ : J u r nb nr) {i : Nat} (hL : L ≤ 3072) (hi : i + 6 ≤ L) {C S c s : Nat} {Q : Option Value → cS × rS → Prop} (hc : c + 6 ≤ C) (hs : s + 399 ≤ S) (hK : ∀ (p : cS × rS) nb nr c' s', J p.1 p.2 nb nr → c' ≤ c + 6 → s' ≤ s + 399 → lB pr D L xs C S Q 840 i p c' s') : lB pr D L xs C S Q 177 i (u, r) c s := by
  refine g_load rfl rfl rfl trivial ?_
  refine g_load rfl rfl rfl trivial ?_
  refine g_load rfl rfl rfl trivial ?_
  refine g_iconst (nI 1) rfl (by decide) ?_
  refine g_iadd rfl ?_
  refine l_ia (i + 1) rfl (by simp only [nI_add]) (by omega) hL ?_
  refine g_load rfl rfl rfl trivial ?_
  refine g_load rfl rfl rfl trivial ?_
  refine g_iconst (nI 2) rfl (by decide) ?_
  refine g_iadd rfl ?_
  refine l_ia (i + 2) rfl (by simp only [nI_add]) (by omega) hL ?_
  refine g_virtP (a := 16) (ci := 7) (n := 2) [.int (xs (i + 1)), .int (xs (i + 2))] 1 12 tFr_tr rfl rfl (by decide) rfl (l_16 hJ.k.1) rfl (Nat.le_of_ble_eq_true rfl) (by omega) (by omega) (gR_mono (p_call hJ (xs (i + 1)) (xs (i + 2))) (fun v p1 hq => ?_))
  obtain ⟨x, u', rfl, rfl, hR⟩ := hq
  refine ⟨_, rfl, ?_⟩
  refine g_load rfl rfl rfl trivial ?_
  refine g_load rfl rfl rfl trivial ?_
  refine g_load rfl rfl rfl trivial ?_
  refine g_iconst (nI 1) rfl (by decide) ?_
  refine g_iadd rfl ?_
  refine l_ia (i + 1) rfl (by simp only [nI_add]) (by omega) hL ?_
  refine g_load rfl rfl rfl trivial ?_
  refine g_load rfl rfl rfl trivial ?_
  refine g_iconst (nI 2) rfl (by decide) ?_
  refine g_iadd rfl ?_
  refine l_ia (i + 2) rfl (by simp only [nI_add]) (by omega) hL ?_
  refine g_virtP (a := 25) (ci := 8) (n := 2) [.int (xs (i + 1)), .int (xs (i + 2))] 0 0 tFr_tr rfl rfl (by decide) rfl l_25 rfl (Nat.le_of_ble_eq_true rfl) (by omega) (by omega) (gR_mono hR (fun w p2 hq => ?_))
  obtain ⟨rfl, nb', nr', hJ'⟩ := hq
  refine ⟨_, rfl, ?_⟩
  refine g_icmp_eq rfl (fun c1 => ?_) (fun c1 => ?_)
  · exact hK _ _ _ _ _ hJ' (by omega) (by omega)
  · exact absurd rfl c1
set_option maxRecDepth 20000 in
theorem q_play {pr : aC} {D L : Nat} {xs : Nat → Int32} {u : cS} {r : rS} {nb nr : Nat} (hJ : J u r nb nr) {i : Nat} (hL : L ≤ 3072) (hi : i + 6 ≤ L) {C S c s : Nat} {Q : Option Value → cS × rS → Prop} (hc : c + 6 ≤ C) (hs : s + 399 ≤ S) (hK : ∀ (p : cS × rS) nb nr c' s', J p.1 p.2 nb nr → c' ≤ c + 6 → s' ≤ s + 399 → lB pr D L xs C S Q 840 i p c' s') : lB pr D L xs C S Q 204 i (u, r) c s := by
  refine g_load rfl rfl rfl trivial ?_
  refine g_load rfl rfl rfl trivial ?_
  refine g_load rfl rfl rfl trivial ?_
  refine g_iconst (nI 1) rfl (by decide) ?_
  refine g_iadd rfl ?_
  refine l_ia (i + 1) rfl (by simp only [nI_add]) (by omega) hL ?_
  refine g_load rfl rfl rfl trivial ?_
  refine g_load rfl rfl rfl trivial ?_
  refine g_iconst (nI 2) rfl (by decide) ?_
  refine g_iadd rfl ?_
  refine l_ia (i + 2) rfl (by simp only [nI_add]) (by omega) hL ?_
  refine g_virtP (a := 16) (ci := 7) (n := 2) [.int (xs (i + 1)), .int (xs (i + 2))] 1 12 tFr_tr rfl rfl (by decide) rfl (l_16 hJ.k.1) rfl (Nat.le_of_ble_eq_true rfl) (by omega) (by omega) (gR_mono (p_play hJ (xs (i + 1)) (xs (i + 2))) (fun v p1 hq => ?_))
  obtain ⟨x, u', rfl, rfl, hR⟩ := hq
  refine ⟨_, rfl, ?_⟩
  refine g_load rfl rfl rfl trivial ?_
  refine g_load rfl rfl rfl trivial ?_
  refine g_load rfl rfl rfl trivial ?_
  refine g_iconst (nI 1) rfl (by decide) ?_
  refine g_iadd rfl ?_
  refine l_ia (i + 1) rfl (by simp only [nI_add]) (by omega) hL ?_
  refine g_load rfl rfl rfl trivial ?_
  refine g_load rfl rfl rfl trivial ?_
  refine g_iconst (nI 2) rfl (by decide) ?_
  refine g_iadd rfl ?_
  refine l_ia (i + 2) rfl (by simp only [nI_add]) (by omega) hL ?_
  refine g_virtP (a := 25) (ci := 8) (n := 2) [.int (xs (i + 1)), .int (xs (i + 2))] 0 0 tFr_tr rfl rfl (by decide) rfl l_25 rfl (Nat.le_of_ble_eq_true rfl) (by omega) (by omega) (gR_mono hR (fun w p2 hq => ?_))
  obtain ⟨rfl, nb', nr', hJ'⟩ := hq
  refine ⟨_, rfl, ?_⟩
  refine g_icmp_eq rfl (fun c1 => ?_) (fun c1 => ?_)
  · exact hK _ _ _ _ _ hJ' (by omega) (by omega)
  · exact absurd rfl c1
set_option maxRecDepth 20000 in
theorem q_claim {pr : aC} {D L : Nat} {xs : Nat → Int32} {u : cS} {r : rS} {nb nr : Nat} (hJ : J u r nb nr) {i : Nat} (hL : L ≤ 3072) (hi : i + 6 ≤ L) {C S c s : Nat} {Q : Option Value → cS × rS → Prop} (hc : c + 6 ≤ C) (hs : s + 399 ≤ S) (hK : ∀ (p : cS × rS) nb nr c' s', J p.1 p.2 nb nr → c' ≤ c + 6 → s' ≤ s + 399 → lB pr D L xs C S Q 840 i p c' s') : lB pr D L xs C S Q 231 i (u, r) c s := by
  refine g_load rfl rfl rfl trivial ?_
  refine g_load rfl rfl rfl trivial ?_
  refine g_load rfl rfl rfl trivial ?_
  refine g_iconst (nI 1) rfl (by decide) ?_
  refine g_iadd rfl ?_
  refine l_ia (i + 1) rfl (by simp only [nI_add]) (by omega) hL ?_
  refine g_load rfl rfl rfl trivial ?_
  refine g_load rfl rfl rfl trivial ?_
  refine g_iconst (nI 2) rfl (by decide) ?_
  refine g_iadd rfl ?_
  refine l_ia (i + 2) rfl (by simp only [nI_add]) (by omega) hL ?_
  refine g_virtP (a := 16) (ci := 7) (n := 2) [.int (xs (i + 1)), .int (xs (i + 2))] 1 12 tFr_tr rfl rfl (by decide) rfl (l_16 hJ.k.1) rfl (Nat.le_of_ble_eq_true rfl) (by omega) (by omega) (gR_mono (p_claim hJ (xs (i + 1)) (xs (i + 2))) (fun v p1 hq => ?_))
  obtain ⟨x, u', rfl, rfl, hR⟩ := hq
  refine ⟨_, rfl, ?_⟩
  refine g_load rfl rfl rfl trivial ?_
  refine g_load rfl rfl rfl trivial ?_
  refine g_load rfl rfl rfl trivial ?_
  refine g_iconst (nI 1) rfl (by decide) ?_
  refine g_iadd rfl ?_
  refine l_ia (i + 1) rfl (by simp only [nI_add]) (by omega) hL ?_
  refine g_load rfl rfl rfl trivial ?_
  refine g_load rfl rfl rfl trivial ?_
  refine g_iconst (nI 2) rfl (by decide) ?_
  refine g_iadd rfl ?_
  refine l_ia (i + 2) rfl (by simp only [nI_add]) (by omega) hL ?_
  refine g_virtP (a := 25) (ci := 8) (n := 2) [.int (xs (i + 1)), .int (xs (i + 2))] 0 0 tFr_tr rfl rfl (by decide) rfl l_25 rfl (Nat.le_of_ble_eq_true rfl) (by omega) (by omega) (gR_mono hR (fun w p2 hq => ?_))
  obtain ⟨rfl, nb', nr', hJ'⟩ := hq
  refine ⟨_, rfl, ?_⟩
  refine g_icmp_eq rfl (fun c1 => ?_) (fun c1 => ?_)
  · exact hK _ _ _ _ _ hJ' (by omega) (by omega)
  · exact absurd rfl c1
set_option maxRecDepth 20000 in
theorem q_back {pr : aC} {D L : Nat} {xs : Nat → Int32} {u : cS} {r : rS} {nb nr : Nat} (hJ : J u r nb nr) {i : Nat} (hL : L ≤ 3072) (hi : i + 6 ≤ L) {C S c s : Nat} {Q : Option Value → cS × rS → Prop} (hc : c + 6 ≤ C) (hs : s + 399 ≤ S) (hK : ∀ (p : cS × rS) nb nr c' s', J p.1 p.2 nb nr → c' ≤ c + 6 → s' ≤ s + 399 → lB pr D L xs C S Q 840 i p c' s') : lB pr D L xs C S Q 258 i (u, r) c s := by
  refine g_load rfl rfl rfl trivial ?_
  refine g_load rfl rfl rfl trivial ?_
  refine g_load rfl rfl rfl trivial ?_
  refine g_iconst (nI 1) rfl (by decide) ?_
  refine g_iadd rfl ?_
  refine l_ia (i + 1) rfl (by simp only [nI_add]) (by omega) hL ?_
  refine g_virtP (a := 16) (ci := 7) (n := 1) [.int (xs (i + 1))] 0 0 tFr_tr rfl rfl (by decide) rfl (l_16 hJ.k.1) rfl (Nat.le_of_ble_eq_true rfl) (by omega) (by omega) (gR_mono (p_back hJ (xs (i + 1))) (fun v p1 hq => ?_))
  obtain ⟨x, u', rfl, rfl, hR⟩ := hq
  refine ⟨_, rfl, ?_⟩
  refine g_load rfl rfl rfl trivial ?_
  refine g_load rfl rfl rfl trivial ?_
  refine g_load rfl rfl rfl trivial ?_
  refine g_iconst (nI 1) rfl (by decide) ?_
  refine g_iadd rfl ?_
  refine l_ia (i + 1) rfl (by simp only [nI_add]) (by omega) hL ?_
  refine g_virtP (a := 25) (ci := 8) (n := 1) [.int (xs (i + 1))] 0 0 tFr_tr rfl rfl (by decide) rfl l_25 rfl (Nat.le_of_ble_eq_true rfl) (by omega) (by omega) (gR_mono hR (fun w p2 hq => ?_))
  obtain ⟨rfl, nb', nr', hJ'⟩ := hq
  refine ⟨_, rfl, ?_⟩
  refine g_icmp_eq rfl (fun c1 => ?_) (fun c1 => ?_)
  · exact hK _ _ _ _ _ hJ' (by omega) (by omega)
  · exact absurd rfl c1
set_option maxRecDepth 20000 in
theorem q_leave {pr : aC} {D L : Nat} {xs : Nat → Int32} {u : cS} {r : rS} {nb nr : Nat} (hJ : J u r nb nr) {i : Nat} (hL : L ≤ 3072) (hi : i + 6 ≤ L) {C S c s : Nat} {Q : Option Value → cS × rS → Prop} (hc : c + 6 ≤ C) (hs : s + 399 ≤ S) (hK : ∀ (p : cS × rS) nb nr c' s', J p.1 p.2 nb nr → c' ≤ c + 6 → s' ≤ s + 399 → lB pr D L xs C S Q 840 i p c' s') : lB pr D L xs C S Q 275 i (u, r) c s := by
  refine g_load rfl rfl rfl trivial ?_
  refine g_load rfl rfl rfl trivial ?_
  refine g_load rfl rfl rfl trivial ?_
  refine g_iconst (nI 1) rfl (by decide) ?_
  refine g_iadd rfl ?_
  refine l_ia (i + 1) rfl (by simp only [nI_add]) (by omega) hL ?_
  refine g_virtP (a := 16) (ci := 7) (n := 1) [.int (xs (i + 1))] 0 0 tFr_tr rfl rfl (by decide) rfl (l_16 hJ.k.1) rfl (Nat.le_of_ble_eq_true rfl) (by omega) (by omega) (gR_mono (p_leave hJ (xs (i + 1))) (fun v p1 hq => ?_))
  obtain ⟨x, u', rfl, rfl, hR⟩ := hq
  refine ⟨_, rfl, ?_⟩
  refine g_load rfl rfl rfl trivial ?_
  refine g_load rfl rfl rfl trivial ?_
  refine g_load rfl rfl rfl trivial ?_
  refine g_iconst (nI 1) rfl (by decide) ?_
  refine g_iadd rfl ?_
  refine l_ia (i + 1) rfl (by simp only [nI_add]) (by omega) hL ?_
  refine g_virtP (a := 25) (ci := 8) (n := 1) [.int (xs (i + 1))] 0 0 tFr_tr rfl rfl (by decide) rfl l_25 rfl (Nat.le_of_ble_eq_true rfl) (by omega) (by omega) (gR_mono hR (fun w p2 hq => ?_))
  obtain ⟨rfl, nb', nr', hJ'⟩ := hq
  refine ⟨_, rfl, ?_⟩
  refine g_icmp_eq rfl (fun c1 => ?_) (fun c1 => ?_)
  · exact hK _ _ _ _ _ hJ' (by omega) (by omega)
  · exact absurd rfl c1
set_option maxRecDepth 20000 in
theorem q_table {pr : aC} {D L : Nat} {xs : Nat → Int32} {u : cS} {r : rS} {nb nr : Nat} (hJ : J u r nb nr) {i : Nat} (hL : L ≤ 3072) (hi : i + 6 ≤ L) {C S c s : Nat} {Q : Option Value → cS × rS → Prop} (hc : c + 6 ≤ C) (hs : s + 399 ≤ S) (hK : ∀ (p : cS × rS) nb nr c' s', J p.1 p.2 nb nr → c' ≤ c + 6 → s' ≤ s + 399 → lB pr D L xs C S Q 840 i p c' s') : lB pr D L xs C S Q 292 i (u, r) c s := by
  refine g_load rfl rfl rfl trivial ?_
  refine g_load rfl rfl rfl trivial ?_
  refine g_load rfl rfl rfl trivial ?_
  refine g_iconst (nI 1) rfl (by decide) ?_
  refine g_iadd rfl ?_
  refine l_ia (i + 1) rfl (by simp only [nI_add]) (by omega) hL ?_
  refine g_load rfl rfl rfl trivial ?_
  refine g_load rfl rfl rfl trivial ?_
  refine g_iconst (nI 2) rfl (by decide) ?_
  refine g_iadd rfl ?_
  refine l_ia (i + 2) rfl (by simp only [nI_add]) (by omega) hL ?_
  refine g_virtP (a := 16) (ci := 7) (n := 2) [.int (xs (i + 1)), .int (xs (i + 2))] 0 0 tFr_tr rfl rfl (by decide) rfl (l_16 hJ.k.1) rfl (Nat.le_of_ble_eq_true rfl) (by omega) (by omega) (gR_mono (p_table hJ (xs (i + 1)) (xs (i + 2))) (fun v p1 hq => ?_))
  obtain ⟨x, u', rfl, rfl, hR⟩ := hq
  refine ⟨_, rfl, ?_⟩
  refine g_load rfl rfl rfl trivial ?_
  refine g_load rfl rfl rfl trivial ?_
  refine g_load rfl rfl rfl trivial ?_
  refine g_iconst (nI 1) rfl (by decide) ?_
  refine g_iadd rfl ?_
  refine l_ia (i + 1) rfl (by simp only [nI_add]) (by omega) hL ?_
  refine g_load rfl rfl rfl trivial ?_
  refine g_load rfl rfl rfl trivial ?_
  refine g_iconst (nI 2) rfl (by decide) ?_
  refine g_iadd rfl ?_
  refine l_ia (i + 2) rfl (by simp only [nI_add]) (by omega) hL ?_
  refine g_virtP (a := 25) (ci := 8) (n := 2) [.int (xs (i + 1)), .int (xs (i + 2))] 0 0 tFr_tr rfl rfl (by decide) rfl l_25 rfl (Nat.le_of_ble_eq_true rfl) (by omega) (by omega) (gR_mono hR (fun w p2 hq => ?_))
  obtain ⟨rfl, nb', nr', hJ'⟩ := hq
  refine ⟨_, rfl, ?_⟩
  refine g_icmp_eq rfl (fun c1 => ?_) (fun c1 => ?_)
  · exact hK _ _ _ _ _ hJ' (by omega) (by omega)
  · exact absurd rfl c1
set_option maxRecDepth 20000 in
theorem q_called {pr : aC} {D L : Nat} {xs : Nat → Int32} {u : cS} {r : rS} {nb nr : Nat} (hJ : J u r nb nr) {i : Nat} (hL : L ≤ 3072) (hi : i + 6 ≤ L) {C S c s : Nat} {Q : Option Value → cS × rS → Prop} (hc : c + 6 ≤ C) (hs : s + 399 ≤ S) (hK : ∀ (p : cS × rS) nb nr c' s', J p.1 p.2 nb nr → c' ≤ c + 6 → s' ≤ s + 399 → lB pr D L xs C S Q 840 i p c' s') : lB pr D L xs C S Q 319 i (u, r) c s := by
  refine g_load rfl rfl rfl trivial ?_
  refine g_load rfl rfl rfl trivial ?_
  refine g_load rfl rfl rfl trivial ?_
  refine g_iconst (nI 1) rfl (by decide) ?_
  refine g_iadd rfl ?_
  refine l_ia (i + 1) rfl (by simp only [nI_add]) (by omega) hL ?_
  refine g_load rfl rfl rfl trivial ?_
  refine g_load rfl rfl rfl trivial ?_
  refine g_iconst (nI 2) rfl (by decide) ?_
  refine g_iadd rfl ?_
  refine l_ia (i + 2) rfl (by simp only [nI_add]) (by omega) hL ?_
  refine g_virtP (a := 16) (ci := 7) (n := 2) [.int (xs (i + 1)), .int (xs (i + 2))] 0 0 tFr_tr rfl rfl (by decide) rfl (l_16 hJ.k.1) rfl (Nat.le_of_ble_eq_true rfl) (by omega) (by omega) (gR_mono (p_called hJ (xs (i + 1)) (xs (i + 2))) (fun v p1 hq => ?_))
  obtain ⟨x, u', rfl, rfl, hR⟩ := hq
  refine ⟨_, rfl, ?_⟩
  refine g_load rfl rfl rfl trivial ?_
  refine g_load rfl rfl rfl trivial ?_
  refine g_load rfl rfl rfl trivial ?_
  refine g_iconst (nI 1) rfl (by decide) ?_
  refine g_iadd rfl ?_
  refine l_ia (i + 1) rfl (by simp only [nI_add]) (by omega) hL ?_
  refine g_load rfl rfl rfl trivial ?_
  refine g_load rfl rfl rfl trivial ?_
  refine g_iconst (nI 2) rfl (by decide) ?_
  refine g_iadd rfl ?_
  refine l_ia (i + 2) rfl (by simp only [nI_add]) (by omega) hL ?_
  refine g_virtP (a := 25) (ci := 8) (n := 2) [.int (xs (i + 1)), .int (xs (i + 2))] 0 0 tFr_tr rfl rfl (by decide) rfl l_25 rfl (Nat.le_of_ble_eq_true rfl) (by omega) (by omega) (gR_mono hR (fun w p2 hq => ?_))
  obtain ⟨rfl, nb', nr', hJ'⟩ := hq
  refine ⟨_, rfl, ?_⟩
  refine g_icmp_eq rfl (fun c1 => ?_) (fun c1 => ?_)
  · exact hK _ _ _ _ _ hJ' (by omega) (by omega)
  · exact absurd rfl c1
set_option maxRecDepth 20000 in
theorem q_played {pr : aC} {D L : Nat} {xs : Nat → Int32} {u : cS} {r : rS} {nb nr : Nat} (hJ : J u r nb nr) {i : Nat} (hL : L ≤ 3072) (hi : i + 6 ≤ L) {C S c s : Nat} {Q : Option Value → cS × rS → Prop} (hc : c + 6 ≤ C) (hs : s + 399 ≤ S) (hK : ∀ (p : cS × rS) nb nr c' s', J p.1 p.2 nb nr → c' ≤ c + 6 → s' ≤ s + 399 → lB pr D L xs C S Q 840 i p c' s') : lB pr D L xs C S Q 346 i (u, r) c s := by
  refine g_load rfl rfl rfl trivial ?_
  refine g_load rfl rfl rfl trivial ?_
  refine g_load rfl rfl rfl trivial ?_
  refine g_iconst (nI 1) rfl (by decide) ?_
  refine g_iadd rfl ?_
  refine l_ia (i + 1) rfl (by simp only [nI_add]) (by omega) hL ?_
  refine g_load rfl rfl rfl trivial ?_
  refine g_load rfl rfl rfl trivial ?_
  refine g_iconst (nI 2) rfl (by decide) ?_
  refine g_iadd rfl ?_
  refine l_ia (i + 2) rfl (by simp only [nI_add]) (by omega) hL ?_
  refine g_virtP (a := 16) (ci := 7) (n := 2) [.int (xs (i + 1)), .int (xs (i + 2))] 0 0 tFr_tr rfl rfl (by decide) rfl (l_16 hJ.k.1) rfl (Nat.le_of_ble_eq_true rfl) (by omega) (by omega) (gR_mono (p_played hJ (xs (i + 1)) (xs (i + 2))) (fun v p1 hq => ?_))
  obtain ⟨x, u', rfl, rfl, hR⟩ := hq
  refine ⟨_, rfl, ?_⟩
  refine g_load rfl rfl rfl trivial ?_
  refine g_load rfl rfl rfl trivial ?_
  refine g_load rfl rfl rfl trivial ?_
  refine g_iconst (nI 1) rfl (by decide) ?_
  refine g_iadd rfl ?_
  refine l_ia (i + 1) rfl (by simp only [nI_add]) (by omega) hL ?_
  refine g_load rfl rfl rfl trivial ?_
  refine g_load rfl rfl rfl trivial ?_
  refine g_iconst (nI 2) rfl (by decide) ?_
  refine g_iadd rfl ?_
  refine l_ia (i + 2) rfl (by simp only [nI_add]) (by omega) hL ?_
  refine g_virtP (a := 25) (ci := 8) (n := 2) [.int (xs (i + 1)), .int (xs (i + 2))] 0 0 tFr_tr rfl rfl (by decide) rfl l_25 rfl (Nat.le_of_ble_eq_true rfl) (by omega) (by omega) (gR_mono hR (fun w p2 hq => ?_))
  obtain ⟨rfl, nb', nr', hJ'⟩ := hq
  refine ⟨_, rfl, ?_⟩
  refine g_icmp_eq rfl (fun c1 => ?_) (fun c1 => ?_)
  · exact hK _ _ _ _ _ hJ' (by omega) (by omega)
  · exact absurd rfl c1
set_option maxRecDepth 20000 in
theorem q_allowed {pr : aC} {D L : Nat} {xs : Nat → Int32} {u : cS} {r : rS} {nb nr : Nat} (hJ : J u r nb nr) {i : Nat} (hL : L ≤ 3072) (hi : i + 6 ≤ L) {C S c s : Nat} {Q : Option Value → cS × rS → Prop} (hc : c + 6 ≤ C) (hs : s + 399 ≤ S) (hK : ∀ (p : cS × rS) nb nr c' s', J p.1 p.2 nb nr → c' ≤ c + 6 → s' ≤ s + 399 → lB pr D L xs C S Q 840 i p c' s') : lB pr D L xs C S Q 373 i (u, r) c s := by
  refine g_load rfl rfl rfl trivial ?_
  refine g_load rfl rfl rfl trivial ?_
  refine g_load rfl rfl rfl trivial ?_
  refine g_iconst (nI 1) rfl (by decide) ?_
  refine g_iadd rfl ?_
  refine l_ia (i + 1) rfl (by simp only [nI_add]) (by omega) hL ?_
  refine g_load rfl rfl rfl trivial ?_
  refine g_load rfl rfl rfl trivial ?_
  refine g_iconst (nI 2) rfl (by decide) ?_
  refine g_iadd rfl ?_
  refine l_ia (i + 2) rfl (by simp only [nI_add]) (by omega) hL ?_
  refine g_virtP (a := 16) (ci := 7) (n := 2) [.int (xs (i + 1)), .int (xs (i + 2))] 0 0 tFr_tr rfl rfl (by decide) rfl (l_16 hJ.k.1) rfl (Nat.le_of_ble_eq_true rfl) (by omega) (by omega) (gR_mono (p_allowed hJ (xs (i + 1)) (xs (i + 2))) (fun v p1 hq => ?_))
  obtain ⟨x, u', rfl, rfl, hR⟩ := hq
  refine ⟨_, rfl, ?_⟩
  refine g_load rfl rfl rfl trivial ?_
  refine g_load rfl rfl rfl trivial ?_
  refine g_load rfl rfl rfl trivial ?_
  refine g_iconst (nI 1) rfl (by decide) ?_
  refine g_iadd rfl ?_
  refine l_ia (i + 1) rfl (by simp only [nI_add]) (by omega) hL ?_
  refine g_load rfl rfl rfl trivial ?_
  refine g_load rfl rfl rfl trivial ?_
  refine g_iconst (nI 2) rfl (by decide) ?_
  refine g_iadd rfl ?_
  refine l_ia (i + 2) rfl (by simp only [nI_add]) (by omega) hL ?_
  refine g_virtP (a := 25) (ci := 8) (n := 2) [.int (xs (i + 1)), .int (xs (i + 2))] 0 0 tFr_tr rfl rfl (by decide) rfl l_25 rfl (Nat.le_of_ble_eq_true rfl) (by omega) (by omega) (gR_mono hR (fun w p2 hq => ?_))
  obtain ⟨rfl, nb', nr', hJ'⟩ := hq
  refine ⟨_, rfl, ?_⟩
  refine g_icmp_eq rfl (fun c1 => ?_) (fun c1 => ?_)
  · exact hK _ _ _ _ _ hJ' (by omega) (by omega)
  · exact absurd rfl c1
set_option maxRecDepth 20000 in
theorem q_sees {pr : aC} {D L : Nat} {xs : Nat → Int32} {u : cS} {r : rS} {nb nr : Nat} (hJ : J u r nb nr) {i : Nat} (hL : L ≤ 3072) (hi : i + 6 ≤ L) {C S c s : Nat} {Q : Option Value → cS × rS → Prop} (hc : c + 6 ≤ C) (hs : s + 399 ≤ S) (hK : ∀ (p : cS × rS) nb nr c' s', J p.1 p.2 nb nr → c' ≤ c + 6 → s' ≤ s + 399 → lB pr D L xs C S Q 840 i p c' s') : lB pr D L xs C S Q 400 i (u, r) c s := by
  refine g_load rfl rfl rfl trivial ?_
  refine g_load rfl rfl rfl trivial ?_
  refine g_load rfl rfl rfl trivial ?_
  refine g_iconst (nI 1) rfl (by decide) ?_
  refine g_iadd rfl ?_
  refine l_ia (i + 1) rfl (by simp only [nI_add]) (by omega) hL ?_
  refine g_load rfl rfl rfl trivial ?_
  refine g_load rfl rfl rfl trivial ?_
  refine g_iconst (nI 2) rfl (by decide) ?_
  refine g_iadd rfl ?_
  refine l_ia (i + 2) rfl (by simp only [nI_add]) (by omega) hL ?_
  refine g_load rfl rfl rfl trivial ?_
  refine g_load rfl rfl rfl trivial ?_
  refine g_iconst (nI 3) rfl (by decide) ?_
  refine g_iadd rfl ?_
  refine l_ia (i + 3) rfl (by simp only [nI_add]) (by omega) hL ?_
  refine g_virtP (a := 16) (ci := 7) (n := 3) [.int (xs (i + 1)), .int (xs (i + 2)), .int (xs (i + 3))] 0 0 tFr_tr rfl rfl (by decide) rfl (l_16 hJ.k.1) rfl (Nat.le_of_ble_eq_true rfl) (by omega) (by omega) (gR_mono (p_sees hJ (xs (i + 1)) (xs (i + 2)) (xs (i + 3))) (fun v p1 hq => ?_))
  obtain ⟨x, u', rfl, rfl, hR⟩ := hq
  refine ⟨_, rfl, ?_⟩
  refine g_load rfl rfl rfl trivial ?_
  refine g_load rfl rfl rfl trivial ?_
  refine g_load rfl rfl rfl trivial ?_
  refine g_iconst (nI 1) rfl (by decide) ?_
  refine g_iadd rfl ?_
  refine l_ia (i + 1) rfl (by simp only [nI_add]) (by omega) hL ?_
  refine g_load rfl rfl rfl trivial ?_
  refine g_load rfl rfl rfl trivial ?_
  refine g_iconst (nI 2) rfl (by decide) ?_
  refine g_iadd rfl ?_
  refine l_ia (i + 2) rfl (by simp only [nI_add]) (by omega) hL ?_
  refine g_load rfl rfl rfl trivial ?_
  refine g_load rfl rfl rfl trivial ?_
  refine g_iconst (nI 3) rfl (by decide) ?_
  refine g_iadd rfl ?_
  refine l_ia (i + 3) rfl (by simp only [nI_add]) (by omega) hL ?_
  refine g_virtP (a := 25) (ci := 8) (n := 3) [.int (xs (i + 1)), .int (xs (i + 2)), .int (xs (i + 3))] 0 0 tFr_tr rfl rfl (by decide) rfl l_25 rfl (Nat.le_of_ble_eq_true rfl) (by omega) (by omega) (gR_mono hR (fun w p2 hq => ?_))
  obtain ⟨rfl, nb', nr', hJ'⟩ := hq
  refine ⟨_, rfl, ?_⟩
  refine g_icmp_eq rfl (fun c1 => ?_) (fun c1 => ?_)
  · exact hK _ _ _ _ _ hJ' (by omega) (by omega)
  · exact absurd rfl c1
set_option maxRecDepth 20000 in
theorem q_lacks {pr : aC} {D L : Nat} {xs : Nat → Int32} {u : cS} {r : rS} {nb nr : Nat} (hJ : J u r nb nr) {i : Nat} (hL : L ≤ 3072) (hi : i + 6 ≤ L) {C S c s : Nat} {Q : Option Value → cS × rS → Prop} (hc : c + 6 ≤ C) (hs : s + 399 ≤ S) (hK : ∀ (p : cS × rS) nb nr c' s', J p.1 p.2 nb nr → c' ≤ c + 6 → s' ≤ s + 399 → lB pr D L xs C S Q 840 i p c' s') : lB pr D L xs C S Q 437 i (u, r) c s := by
  refine g_load rfl rfl rfl trivial ?_
  refine g_load rfl rfl rfl trivial ?_
  refine g_load rfl rfl rfl trivial ?_
  refine g_iconst (nI 1) rfl (by decide) ?_
  refine g_iadd rfl ?_
  refine l_ia (i + 1) rfl (by simp only [nI_add]) (by omega) hL ?_
  refine g_load rfl rfl rfl trivial ?_
  refine g_load rfl rfl rfl trivial ?_
  refine g_iconst (nI 2) rfl (by decide) ?_
  refine g_iadd rfl ?_
  refine l_ia (i + 2) rfl (by simp only [nI_add]) (by omega) hL ?_
  refine g_load rfl rfl rfl trivial ?_
  refine g_load rfl rfl rfl trivial ?_
  refine g_iconst (nI 3) rfl (by decide) ?_
  refine g_iadd rfl ?_
  refine l_ia (i + 3) rfl (by simp only [nI_add]) (by omega) hL ?_
  refine g_virtP (a := 16) (ci := 7) (n := 3) [.int (xs (i + 1)), .int (xs (i + 2)), .int (xs (i + 3))] 0 0 tFr_tr rfl rfl (by decide) rfl (l_16 hJ.k.1) rfl (Nat.le_of_ble_eq_true rfl) (by omega) (by omega) (gR_mono (p_lacks hJ (xs (i + 1)) (xs (i + 2)) (xs (i + 3))) (fun v p1 hq => ?_))
  obtain ⟨x, u', rfl, rfl, hR⟩ := hq
  refine ⟨_, rfl, ?_⟩
  refine g_load rfl rfl rfl trivial ?_
  refine g_load rfl rfl rfl trivial ?_
  refine g_load rfl rfl rfl trivial ?_
  refine g_iconst (nI 1) rfl (by decide) ?_
  refine g_iadd rfl ?_
  refine l_ia (i + 1) rfl (by simp only [nI_add]) (by omega) hL ?_
  refine g_load rfl rfl rfl trivial ?_
  refine g_load rfl rfl rfl trivial ?_
  refine g_iconst (nI 2) rfl (by decide) ?_
  refine g_iadd rfl ?_
  refine l_ia (i + 2) rfl (by simp only [nI_add]) (by omega) hL ?_
  refine g_load rfl rfl rfl trivial ?_
  refine g_load rfl rfl rfl trivial ?_
  refine g_iconst (nI 3) rfl (by decide) ?_
  refine g_iadd rfl ?_
  refine l_ia (i + 3) rfl (by simp only [nI_add]) (by omega) hL ?_
  refine g_virtP (a := 25) (ci := 8) (n := 3) [.int (xs (i + 1)), .int (xs (i + 2)), .int (xs (i + 3))] 0 0 tFr_tr rfl rfl (by decide) rfl l_25 rfl (Nat.le_of_ble_eq_true rfl) (by omega) (by omega) (gR_mono hR (fun w p2 hq => ?_))
  obtain ⟨rfl, nb', nr', hJ'⟩ := hq
  refine ⟨_, rfl, ?_⟩
  refine g_icmp_eq rfl (fun c1 => ?_) (fun c1 => ?_)
  · exact hK _ _ _ _ _ hJ' (by omega) (by omega)
  · exact absurd rfl c1
set_option maxRecDepth 20000 in
theorem q_best {pr : aC} {D L : Nat} {xs : Nat → Int32} {u : cS} {r : rS} {nb nr : Nat} (hJ : J u r nb nr) {i : Nat} (hL : L ≤ 3072) (hi : i + 6 ≤ L) {C S c s : Nat} {Q : Option Value → cS × rS → Prop} (hc : c + 6 ≤ C) (hs : s + 399 ≤ S) (hK : ∀ (p : cS × rS) nb nr c' s', J p.1 p.2 nb nr → c' ≤ c + 6 → s' ≤ s + 399 → lB pr D L xs C S Q 840 i p c' s') : lB pr D L xs C S Q 474 i (u, r) c s := by
  refine g_load rfl rfl rfl trivial ?_
  refine g_load rfl rfl rfl trivial ?_
  refine g_load rfl rfl rfl trivial ?_
  refine g_iconst (nI 1) rfl (by decide) ?_
  refine g_iadd rfl ?_
  refine l_ia (i + 1) rfl (by simp only [nI_add]) (by omega) hL ?_
  refine g_virtP (a := 16) (ci := 7) (n := 1) [.int (xs (i + 1))] 0 0 tFr_tr rfl rfl (by decide) rfl (l_16 hJ.k.1) rfl (Nat.le_of_ble_eq_true rfl) (by omega) (by omega) (gR_mono (p_best hJ (xs (i + 1))) (fun v p1 hq => ?_))
  obtain ⟨x, u', rfl, rfl, hR⟩ := hq
  refine ⟨_, rfl, ?_⟩
  refine g_load rfl rfl rfl trivial ?_
  refine g_load rfl rfl rfl trivial ?_
  refine g_load rfl rfl rfl trivial ?_
  refine g_iconst (nI 1) rfl (by decide) ?_
  refine g_iadd rfl ?_
  refine l_ia (i + 1) rfl (by simp only [nI_add]) (by omega) hL ?_
  refine g_virtP (a := 25) (ci := 8) (n := 1) [.int (xs (i + 1))] 0 0 tFr_tr rfl rfl (by decide) rfl l_25 rfl (Nat.le_of_ble_eq_true rfl) (by omega) (by omega) (gR_mono hR (fun w p2 hq => ?_))
  obtain ⟨rfl, nb', nr', hJ'⟩ := hq
  refine ⟨_, rfl, ?_⟩
  refine g_icmp_eq rfl (fun c1 => ?_) (fun c1 => ?_)
  · exact hK _ _ _ _ _ hJ' (by omega) (by omega)
  · exact absurd rfl c1
set_option maxRecDepth 20000 in
theorem q_bestCard {pr : aC} {D L : Nat} {xs : Nat → Int32} {u : cS} {r : rS} {nb nr : Nat} (hJ : J u r nb nr) {i : Nat} (hL : L ≤ 3072) (hi : i + 6 ≤ L) {C S c s : Nat} {Q : Option Value → cS × rS → Prop} (hc : c + 6 ≤ C) (hs : s + 399 ≤ S) (hK : ∀ (p : cS × rS) nb nr c' s', J p.1 p.2 nb nr → c' ≤ c + 6 → s' ≤ s + 399 → lB pr D L xs C S Q 840 i p c' s') : lB pr D L xs C S Q 491 i (u, r) c s := by
  refine g_load rfl rfl rfl trivial ?_
  refine g_load rfl rfl rfl trivial ?_
  refine g_load rfl rfl rfl trivial ?_
  refine g_iconst (nI 1) rfl (by decide) ?_
  refine g_iadd rfl ?_
  refine l_ia (i + 1) rfl (by simp only [nI_add]) (by omega) hL ?_
  refine g_virtP (a := 16) (ci := 7) (n := 1) [.int (xs (i + 1))] 0 0 tFr_tr rfl rfl (by decide) rfl (l_16 hJ.k.1) rfl (Nat.le_of_ble_eq_true rfl) (by omega) (by omega) (gR_mono (p_bestCard hJ (xs (i + 1))) (fun v p1 hq => ?_))
  obtain ⟨x, u', rfl, rfl, hR⟩ := hq
  refine ⟨_, rfl, ?_⟩
  refine g_load rfl rfl rfl trivial ?_
  refine g_load rfl rfl rfl trivial ?_
  refine g_load rfl rfl rfl trivial ?_
  refine g_iconst (nI 1) rfl (by decide) ?_
  refine g_iadd rfl ?_
  refine l_ia (i + 1) rfl (by simp only [nI_add]) (by omega) hL ?_
  refine g_virtP (a := 25) (ci := 8) (n := 1) [.int (xs (i + 1))] 0 0 tFr_tr rfl rfl (by decide) rfl l_25 rfl (Nat.le_of_ble_eq_true rfl) (by omega) (by omega) (gR_mono hR (fun w p2 hq => ?_))
  obtain ⟨rfl, nb', nr', hJ'⟩ := hq
  refine ⟨_, rfl, ?_⟩
  refine g_icmp_eq rfl (fun c1 => ?_) (fun c1 => ?_)
  · exact hK _ _ _ _ _ hJ' (by omega) (by omega)
  · exact absurd rfl c1
set_option maxRecDepth 20000 in
theorem q_result {pr : aC} {D L : Nat} {xs : Nat → Int32} {u : cS} {r : rS} {nb nr : Nat} (hJ : J u r nb nr) {i : Nat} (hL : L ≤ 3072) (hi : i + 6 ≤ L) {C S c s : Nat} {Q : Option Value → cS × rS → Prop} (hc : c + 6 ≤ C) (hs : s + 399 ≤ S) (hK : ∀ (p : cS × rS) nb nr c' s', J p.1 p.2 nb nr → c' ≤ c + 6 → s' ≤ s + 399 → lB pr D L xs C S Q 840 i p c' s') : lB pr D L xs C S Q 508 i (u, r) c s := by
  refine g_load rfl rfl rfl trivial ?_
  refine g_load rfl rfl rfl trivial ?_
  refine g_load rfl rfl rfl trivial ?_
  refine g_iconst (nI 1) rfl (by decide) ?_
  refine g_iadd rfl ?_
  refine l_ia (i + 1) rfl (by simp only [nI_add]) (by omega) hL ?_
  refine g_load rfl rfl rfl trivial ?_
  refine g_load rfl rfl rfl trivial ?_
  refine g_iconst (nI 2) rfl (by decide) ?_
  refine g_iadd rfl ?_
  refine l_ia (i + 2) rfl (by simp only [nI_add]) (by omega) hL ?_
  refine g_virtP (a := 16) (ci := 7) (n := 2) [.int (xs (i + 1)), .int (xs (i + 2))] 0 0 tFr_tr rfl rfl (by decide) rfl (l_16 hJ.k.1) rfl (Nat.le_of_ble_eq_true rfl) (by omega) (by omega) (gR_mono (p_result hJ (xs (i + 1)) (xs (i + 2))) (fun v p1 hq => ?_))
  obtain ⟨x, u', rfl, rfl, hR⟩ := hq
  refine ⟨_, rfl, ?_⟩
  refine g_load rfl rfl rfl trivial ?_
  refine g_load rfl rfl rfl trivial ?_
  refine g_load rfl rfl rfl trivial ?_
  refine g_iconst (nI 1) rfl (by decide) ?_
  refine g_iadd rfl ?_
  refine l_ia (i + 1) rfl (by simp only [nI_add]) (by omega) hL ?_
  refine g_load rfl rfl rfl trivial ?_
  refine g_load rfl rfl rfl trivial ?_
  refine g_iconst (nI 2) rfl (by decide) ?_
  refine g_iadd rfl ?_
  refine l_ia (i + 2) rfl (by simp only [nI_add]) (by omega) hL ?_
  refine g_virtP (a := 25) (ci := 8) (n := 2) [.int (xs (i + 1)), .int (xs (i + 2))] 0 0 tFr_tr rfl rfl (by decide) rfl l_25 rfl (Nat.le_of_ble_eq_true rfl) (by omega) (by omega) (gR_mono hR (fun w p2 hq => ?_))
  obtain ⟨rfl, nb', nr', hJ'⟩ := hq
  refine ⟨_, rfl, ?_⟩
  refine g_icmp_eq rfl (fun c1 => ?_) (fun c1 => ?_)
  · exact hK _ _ _ _ _ hJ' (by omega) (by omega)
  · exact absurd rfl c1
set_option maxRecDepth 20000 in
theorem q_adjust {pr : aC} {D L : Nat} {xs : Nat → Int32} {u : cS} {r : rS} {nb nr : Nat} (hJ : J u r nb nr) {i : Nat} (hL : L ≤ 3072) (hi : i + 6 ≤ L) {C S c s : Nat} {Q : Option Value → cS × rS → Prop} (hc : c + 6 ≤ C) (hs : s + 399 ≤ S) (hK : ∀ (p : cS × rS) nb nr c' s', J p.1 p.2 nb nr → c' ≤ c + 6 → s' ≤ s + 399 → lB pr D L xs C S Q 840 i p c' s') : lB pr D L xs C S Q 535 i (u, r) c s := by
  refine g_load rfl rfl rfl trivial ?_
  refine g_load rfl rfl rfl trivial ?_
  refine g_load rfl rfl rfl trivial ?_
  refine g_iconst (nI 1) rfl (by decide) ?_
  refine g_iadd rfl ?_
  refine l_ia (i + 1) rfl (by simp only [nI_add]) (by omega) hL ?_
  refine g_load rfl rfl rfl trivial ?_
  refine g_load rfl rfl rfl trivial ?_
  refine g_iconst (nI 2) rfl (by decide) ?_
  refine g_iadd rfl ?_
  refine l_ia (i + 2) rfl (by simp only [nI_add]) (by omega) hL ?_
  refine g_load rfl rfl rfl trivial ?_
  refine g_load rfl rfl rfl trivial ?_
  refine g_iconst (nI 3) rfl (by decide) ?_
  refine g_iadd rfl ?_
  refine l_ia (i + 3) rfl (by simp only [nI_add]) (by omega) hL ?_
  refine g_virtP (a := 16) (ci := 7) (n := 3) [.int (xs (i + 1)), .int (xs (i + 2)), .int (xs (i + 3))] 0 0 tFr_tr rfl rfl (by decide) rfl (l_16 hJ.k.1) rfl (Nat.le_of_ble_eq_true rfl) (by omega) (by omega) (gR_mono (p_adjust hJ (xs (i + 1)) (xs (i + 2)) (xs (i + 3))) (fun v p1 hq => ?_))
  obtain ⟨x, u', rfl, rfl, hR⟩ := hq
  refine ⟨_, rfl, ?_⟩
  refine g_load rfl rfl rfl trivial ?_
  refine g_load rfl rfl rfl trivial ?_
  refine g_load rfl rfl rfl trivial ?_
  refine g_iconst (nI 1) rfl (by decide) ?_
  refine g_iadd rfl ?_
  refine l_ia (i + 1) rfl (by simp only [nI_add]) (by omega) hL ?_
  refine g_load rfl rfl rfl trivial ?_
  refine g_load rfl rfl rfl trivial ?_
  refine g_iconst (nI 2) rfl (by decide) ?_
  refine g_iadd rfl ?_
  refine l_ia (i + 2) rfl (by simp only [nI_add]) (by omega) hL ?_
  refine g_load rfl rfl rfl trivial ?_
  refine g_load rfl rfl rfl trivial ?_
  refine g_iconst (nI 3) rfl (by decide) ?_
  refine g_iadd rfl ?_
  refine l_ia (i + 3) rfl (by simp only [nI_add]) (by omega) hL ?_
  refine g_virtP (a := 25) (ci := 8) (n := 3) [.int (xs (i + 1)), .int (xs (i + 2)), .int (xs (i + 3))] 0 0 tFr_tr rfl rfl (by decide) rfl l_25 rfl (Nat.le_of_ble_eq_true rfl) (by omega) (by omega) (gR_mono hR (fun w p2 hq => ?_))
  obtain ⟨rfl, nb', nr', hJ'⟩ := hq
  refine ⟨_, rfl, ?_⟩
  refine g_icmp_eq rfl (fun c1 => ?_) (fun c1 => ?_)
  · exact hK _ _ _ _ _ hJ' (by omega) (by omega)
  · exact absurd rfl c1
set_option maxRecDepth 20000 in
theorem q_score_f {pr : aC} {D L : Nat} {xs : Nat → Int32} {u : cS} {r : rS} {nb nr : Nat} (hJ : J u r nb nr) {i : Nat} (hL : L ≤ 3072) (hi : i + 6 ≤ L) {C S c s : Nat} {Q : Option Value → cS × rS → Prop} (hc : c + 6 ≤ C) (hs : s + 399 ≤ S) (hK : ∀ (p : cS × rS) nb nr c' s', J p.1 p.2 nb nr → c' ≤ c + 6 → s' ≤ s + 399 → lB pr D L xs C S Q 840 i p c' s') (hz : xs (i + 4) = 0) : lB pr D L xs C S Q 572 i (u, r) c s := by
  refine g_load rfl rfl rfl trivial ?_
  refine g_load rfl rfl rfl trivial ?_
  refine g_load rfl rfl rfl trivial ?_
  refine g_iconst (nI 1) rfl (by decide) ?_
  refine g_iadd rfl ?_
  refine l_ia (i + 1) rfl (by simp only [nI_add]) (by omega) hL ?_
  refine g_load rfl rfl rfl trivial ?_
  refine g_load rfl rfl rfl trivial ?_
  refine g_iconst (nI 2) rfl (by decide) ?_
  refine g_iadd rfl ?_
  refine l_ia (i + 2) rfl (by simp only [nI_add]) (by omega) hL ?_
  refine g_load rfl rfl rfl trivial ?_
  refine g_load rfl rfl rfl trivial ?_
  refine g_iconst (nI 3) rfl (by decide) ?_
  refine g_iadd rfl ?_
  refine l_ia (i + 3) rfl (by simp only [nI_add]) (by omega) hL ?_
  refine g_load rfl rfl rfl trivial ?_
  refine g_load rfl rfl rfl trivial ?_
  refine g_iconst (nI 4) rfl (by decide) ?_
  refine g_iadd rfl ?_
  refine l_ia (i + 4) rfl (by simp only [nI_add]) (by omega) hL ?_
  refine g_if_eq rfl (fun c1 => ?_) (fun c1 => ?_)
  · refine g_iconst (nI 0) rfl (by decide) ?_
    refine g_load rfl rfl rfl trivial ?_
    refine g_load rfl rfl rfl trivial ?_
    refine g_iconst (nI 5) rfl (by decide) ?_
    refine g_iadd rfl ?_
    refine l_ia (i + 5) rfl (by simp only [nI_add]) (by omega) hL ?_
    refine g_virtP (a := 16) (ci := 7) (n := 5) [.int (xs (i + 1)), .int (xs (i + 2)), .int (xs (i + 3)), .int (bI false), .int (xs (i + 5))] 0 0 tFr_tr rfl rfl (by decide) rfl (l_16 hJ.k.1) rfl (Nat.le_of_ble_eq_true rfl) (by omega) (by omega) (gR_mono (p_score hJ (xs (i + 1)) (xs (i + 2)) (xs (i + 3)) (xs (i + 5)) false) (fun v p1 hq => ?_))
    obtain ⟨x, u', rfl, rfl, hR⟩ := hq
    refine ⟨_, rfl, ?_⟩
    refine g_load rfl rfl rfl trivial ?_
    refine g_load rfl rfl rfl trivial ?_
    refine g_load rfl rfl rfl trivial ?_
    refine g_iconst (nI 1) rfl (by decide) ?_
    refine g_iadd rfl ?_
    refine l_ia (i + 1) rfl (by simp only [nI_add]) (by omega) hL ?_
    refine g_load rfl rfl rfl trivial ?_
    refine g_load rfl rfl rfl trivial ?_
    refine g_iconst (nI 2) rfl (by decide) ?_
    refine g_iadd rfl ?_
    refine l_ia (i + 2) rfl (by simp only [nI_add]) (by omega) hL ?_
    refine g_load rfl rfl rfl trivial ?_
    refine g_load rfl rfl rfl trivial ?_
    refine g_iconst (nI 3) rfl (by decide) ?_
    refine g_iadd rfl ?_
    refine l_ia (i + 3) rfl (by simp only [nI_add]) (by omega) hL ?_
    refine g_load rfl rfl rfl trivial ?_
    refine g_load rfl rfl rfl trivial ?_
    refine g_iconst (nI 4) rfl (by decide) ?_
    refine g_iadd rfl ?_
    refine l_ia (i + 4) rfl (by simp only [nI_add]) (by omega) hL ?_
    refine g_if_eq rfl (fun c2 => ?_) (fun c2 => ?_)
    · refine g_iconst (nI 0) rfl (by decide) ?_
      refine g_load rfl rfl rfl trivial ?_
      refine g_load rfl rfl rfl trivial ?_
      refine g_iconst (nI 5) rfl (by decide) ?_
      refine g_iadd rfl ?_
      refine l_ia (i + 5) rfl (by simp only [nI_add]) (by omega) hL ?_
      refine g_virtP (a := 25) (ci := 8) (n := 5) [.int (xs (i + 1)), .int (xs (i + 2)), .int (xs (i + 3)), .int (bI false), .int (xs (i + 5))] 0 0 tFr_tr rfl rfl (by decide) rfl l_25 rfl (Nat.le_of_ble_eq_true rfl) (by omega) (by omega) (gR_mono hR (fun w p2 hq => ?_))
      obtain ⟨rfl, nb', nr', hJ'⟩ := hq
      refine ⟨_, rfl, ?_⟩
      refine g_icmp_eq rfl (fun c3 => ?_) (fun c3 => ?_)
      · exact hK _ _ _ _ _ hJ' (by omega) (by omega)
      · exact absurd rfl c3
    · exact absurd hz c2
  · exact absurd hz c1
set_option maxRecDepth 20000 in
theorem q_score_t {pr : aC} {D L : Nat} {xs : Nat → Int32} {u : cS} {r : rS} {nb nr : Nat} (hJ : J u r nb nr) {i : Nat} (hL : L ≤ 3072) (hi : i + 6 ≤ L) {C S c s : Nat} {Q : Option Value → cS × rS → Prop} (hc : c + 6 ≤ C) (hs : s + 399 ≤ S) (hK : ∀ (p : cS × rS) nb nr c' s', J p.1 p.2 nb nr → c' ≤ c + 6 → s' ≤ s + 399 → lB pr D L xs C S Q 840 i p c' s') (hz : ¬ xs (i + 4) = 0) : lB pr D L xs C S Q 572 i (u, r) c s := by
  refine g_load rfl rfl rfl trivial ?_
  refine g_load rfl rfl rfl trivial ?_
  refine g_load rfl rfl rfl trivial ?_
  refine g_iconst (nI 1) rfl (by decide) ?_
  refine g_iadd rfl ?_
  refine l_ia (i + 1) rfl (by simp only [nI_add]) (by omega) hL ?_
  refine g_load rfl rfl rfl trivial ?_
  refine g_load rfl rfl rfl trivial ?_
  refine g_iconst (nI 2) rfl (by decide) ?_
  refine g_iadd rfl ?_
  refine l_ia (i + 2) rfl (by simp only [nI_add]) (by omega) hL ?_
  refine g_load rfl rfl rfl trivial ?_
  refine g_load rfl rfl rfl trivial ?_
  refine g_iconst (nI 3) rfl (by decide) ?_
  refine g_iadd rfl ?_
  refine l_ia (i + 3) rfl (by simp only [nI_add]) (by omega) hL ?_
  refine g_load rfl rfl rfl trivial ?_
  refine g_load rfl rfl rfl trivial ?_
  refine g_iconst (nI 4) rfl (by decide) ?_
  refine g_iadd rfl ?_
  refine l_ia (i + 4) rfl (by simp only [nI_add]) (by omega) hL ?_
  refine g_if_eq rfl (fun c1 => ?_) (fun c1 => ?_)
  · exact absurd c1 hz
  · refine g_iconst (nI 1) rfl (by decide) ?_
    refine g_goto rfl ?_
    refine g_load rfl rfl rfl trivial ?_
    refine g_load rfl rfl rfl trivial ?_
    refine g_iconst (nI 5) rfl (by decide) ?_
    refine g_iadd rfl ?_
    refine l_ia (i + 5) rfl (by simp only [nI_add]) (by omega) hL ?_
    refine g_virtP (a := 16) (ci := 7) (n := 5) [.int (xs (i + 1)), .int (xs (i + 2)), .int (xs (i + 3)), .int (bI true), .int (xs (i + 5))] 0 0 tFr_tr rfl rfl (by decide) rfl (l_16 hJ.k.1) rfl (Nat.le_of_ble_eq_true rfl) (by omega) (by omega) (gR_mono (p_score hJ (xs (i + 1)) (xs (i + 2)) (xs (i + 3)) (xs (i + 5)) true) (fun v p1 hq => ?_))
    obtain ⟨x, u', rfl, rfl, hR⟩ := hq
    refine ⟨_, rfl, ?_⟩
    refine g_load rfl rfl rfl trivial ?_
    refine g_load rfl rfl rfl trivial ?_
    refine g_load rfl rfl rfl trivial ?_
    refine g_iconst (nI 1) rfl (by decide) ?_
    refine g_iadd rfl ?_
    refine l_ia (i + 1) rfl (by simp only [nI_add]) (by omega) hL ?_
    refine g_load rfl rfl rfl trivial ?_
    refine g_load rfl rfl rfl trivial ?_
    refine g_iconst (nI 2) rfl (by decide) ?_
    refine g_iadd rfl ?_
    refine l_ia (i + 2) rfl (by simp only [nI_add]) (by omega) hL ?_
    refine g_load rfl rfl rfl trivial ?_
    refine g_load rfl rfl rfl trivial ?_
    refine g_iconst (nI 3) rfl (by decide) ?_
    refine g_iadd rfl ?_
    refine l_ia (i + 3) rfl (by simp only [nI_add]) (by omega) hL ?_
    refine g_load rfl rfl rfl trivial ?_
    refine g_load rfl rfl rfl trivial ?_
    refine g_iconst (nI 4) rfl (by decide) ?_
    refine g_iadd rfl ?_
    refine l_ia (i + 4) rfl (by simp only [nI_add]) (by omega) hL ?_
    refine g_if_eq rfl (fun c2 => ?_) (fun c2 => ?_)
    · exact absurd c2 hz
    · refine g_iconst (nI 1) rfl (by decide) ?_
      refine g_goto rfl ?_
      refine g_load rfl rfl rfl trivial ?_
      refine g_load rfl rfl rfl trivial ?_
      refine g_iconst (nI 5) rfl (by decide) ?_
      refine g_iadd rfl ?_
      refine l_ia (i + 5) rfl (by simp only [nI_add]) (by omega) hL ?_
      refine g_virtP (a := 25) (ci := 8) (n := 5) [.int (xs (i + 1)), .int (xs (i + 2)), .int (xs (i + 3)), .int (bI true), .int (xs (i + 5))] 0 0 tFr_tr rfl rfl (by decide) rfl l_25 rfl (Nat.le_of_ble_eq_true rfl) (by omega) (by omega) (gR_mono hR (fun w p2 hq => ?_))
      obtain ⟨rfl, nb', nr', hJ'⟩ := hq
      refine ⟨_, rfl, ?_⟩
      refine g_icmp_eq rfl (fun c3 => ?_) (fun c3 => ?_)
      · exact hK _ _ _ _ _ hJ' (by omega) (by omega)
      · exact absurd rfl c3
theorem q_score {pr : aC} {D L : Nat} {xs : Nat → Int32} {u : cS} {r : rS} {nb nr : Nat} (hJ : J u r nb nr) {i : Nat} (hL : L ≤ 3072) (hi : i + 6 ≤ L) {C S c s : Nat} {Q : Option Value → cS × rS → Prop} (hc : c + 6 ≤ C) (hs : s + 399 ≤ S) (hK : ∀ (p : cS × rS) nb nr c' s', J p.1 p.2 nb nr → c' ≤ c + 6 → s' ≤ s + 399 → lB pr D L xs C S Q 840 i p c' s') : lB pr D L xs C S Q 572 i (u, r) c s := by
  by_cases hz : xs (i + 4) = 0
  · exact q_score_f hJ hL hi hc hs hK hz
  · exact q_score_t hJ hL hi hc hs hK hz
set_option maxRecDepth 20000 in
theorem q_steps {pr : aC} {D L : Nat} {xs : Nat → Int32} {u : cS} {r : rS} {nb nr : Nat} (hJ : J u r nb nr) {i : Nat} (hL : L ≤ 3072) (hi : i + 6 ≤ L) {C S c s : Nat} {Q : Option Value → cS × rS → Prop} (hc : c + 6 ≤ C) (hs : s + 399 ≤ S) (hK : ∀ (p : cS × rS) nb nr c' s', J p.1 p.2 nb nr → c' ≤ c + 6 → s' ≤ s + 399 → lB pr D L xs C S Q 840 i p c' s') : lB pr D L xs C S Q 637 i (u, r) c s := by
  refine g_load rfl rfl rfl trivial ?_
  refine g_load rfl rfl rfl trivial ?_
  refine g_load rfl rfl rfl trivial ?_
  refine g_iconst (nI 1) rfl (by decide) ?_
  refine g_iadd rfl ?_
  refine l_ia (i + 1) rfl (by simp only [nI_add]) (by omega) hL ?_
  refine g_load rfl rfl rfl trivial ?_
  refine g_load rfl rfl rfl trivial ?_
  refine g_iconst (nI 2) rfl (by decide) ?_
  refine g_iadd rfl ?_
  refine l_ia (i + 2) rfl (by simp only [nI_add]) (by omega) hL ?_
  refine g_virtP (a := 16) (ci := 7) (n := 2) [.int (xs (i + 1)), .int (xs (i + 2))] 0 0 tFr_tr rfl rfl (by decide) rfl (l_16 hJ.k.1) rfl (Nat.le_of_ble_eq_true rfl) (by omega) (by omega) (gR_mono (p_steps hJ (xs (i + 1)) (xs (i + 2))) (fun v p1 hq => ?_))
  obtain ⟨x, u', rfl, rfl, hR⟩ := hq
  refine ⟨_, rfl, ?_⟩
  refine g_load rfl rfl rfl trivial ?_
  refine g_load rfl rfl rfl trivial ?_
  refine g_load rfl rfl rfl trivial ?_
  refine g_iconst (nI 1) rfl (by decide) ?_
  refine g_iadd rfl ?_
  refine l_ia (i + 1) rfl (by simp only [nI_add]) (by omega) hL ?_
  refine g_load rfl rfl rfl trivial ?_
  refine g_load rfl rfl rfl trivial ?_
  refine g_iconst (nI 2) rfl (by decide) ?_
  refine g_iadd rfl ?_
  refine l_ia (i + 2) rfl (by simp only [nI_add]) (by omega) hL ?_
  refine g_virtP (a := 25) (ci := 8) (n := 2) [.int (xs (i + 1)), .int (xs (i + 2))] 0 0 tFr_tr rfl rfl (by decide) rfl l_25 rfl (Nat.le_of_ble_eq_true rfl) (by omega) (by omega) (gR_mono hR (fun w p2 hq => ?_))
  obtain ⟨rfl, nb', nr', hJ'⟩ := hq
  refine ⟨_, rfl, ?_⟩
  refine g_icmp_eq rfl (fun c1 => ?_) (fun c1 => ?_)
  · exact hK _ _ _ _ _ hJ' (by omega) (by omega)
  · exact absurd rfl c1
set_option maxRecDepth 20000 in
theorem q_points {pr : aC} {D L : Nat} {xs : Nat → Int32} {u : cS} {r : rS} {nb nr : Nat} (hJ : J u r nb nr) {i : Nat} (hL : L ≤ 3072) (hi : i + 6 ≤ L) {C S c s : Nat} {Q : Option Value → cS × rS → Prop} (hc : c + 6 ≤ C) (hs : s + 399 ≤ S) (hK : ∀ (p : cS × rS) nb nr c' s', J p.1 p.2 nb nr → c' ≤ c + 6 → s' ≤ s + 399 → lB pr D L xs C S Q 840 i p c' s') : lB pr D L xs C S Q 664 i (u, r) c s := by
  refine g_load rfl rfl rfl trivial ?_
  refine g_load rfl rfl rfl trivial ?_
  refine g_load rfl rfl rfl trivial ?_
  refine g_iconst (nI 1) rfl (by decide) ?_
  refine g_iadd rfl ?_
  refine l_ia (i + 1) rfl (by simp only [nI_add]) (by omega) hL ?_
  refine g_load rfl rfl rfl trivial ?_
  refine g_load rfl rfl rfl trivial ?_
  refine g_iconst (nI 2) rfl (by decide) ?_
  refine g_iadd rfl ?_
  refine l_ia (i + 2) rfl (by simp only [nI_add]) (by omega) hL ?_
  refine g_virtP (a := 16) (ci := 7) (n := 2) [.int (xs (i + 1)), .int (xs (i + 2))] 0 0 tFr_tr rfl rfl (by decide) rfl (l_16 hJ.k.1) rfl (Nat.le_of_ble_eq_true rfl) (by omega) (by omega) (gR_mono (p_points hJ (xs (i + 1)) (xs (i + 2))) (fun v p1 hq => ?_))
  obtain ⟨x, u', rfl, rfl, hR⟩ := hq
  refine ⟨_, rfl, ?_⟩
  refine g_load rfl rfl rfl trivial ?_
  refine g_load rfl rfl rfl trivial ?_
  refine g_load rfl rfl rfl trivial ?_
  refine g_iconst (nI 1) rfl (by decide) ?_
  refine g_iadd rfl ?_
  refine l_ia (i + 1) rfl (by simp only [nI_add]) (by omega) hL ?_
  refine g_load rfl rfl rfl trivial ?_
  refine g_load rfl rfl rfl trivial ?_
  refine g_iconst (nI 2) rfl (by decide) ?_
  refine g_iadd rfl ?_
  refine l_ia (i + 2) rfl (by simp only [nI_add]) (by omega) hL ?_
  refine g_virtP (a := 25) (ci := 8) (n := 2) [.int (xs (i + 1)), .int (xs (i + 2))] 0 0 tFr_tr rfl rfl (by decide) rfl l_25 rfl (Nat.le_of_ble_eq_true rfl) (by omega) (by omega) (gR_mono hR (fun w p2 hq => ?_))
  obtain ⟨rfl, nb', nr', hJ'⟩ := hq
  refine ⟨_, rfl, ?_⟩
  refine g_icmp_eq rfl (fun c1 => ?_) (fun c1 => ?_)
  · exact hK _ _ _ _ _ hJ' (by omega) (by omega)
  · exact absurd rfl c1
set_option maxRecDepth 20000 in
theorem q_total {pr : aC} {D L : Nat} {xs : Nat → Int32} {u : cS} {r : rS} {nb nr : Nat} (hJ : J u r nb nr) {i : Nat} (hL : L ≤ 3072) (hi : i + 6 ≤ L) {C S c s : Nat} {Q : Option Value → cS × rS → Prop} (hc : c + 6 ≤ C) (hs : s + 399 ≤ S) (hK : ∀ (p : cS × rS) nb nr c' s', J p.1 p.2 nb nr → c' ≤ c + 6 → s' ≤ s + 399 → lB pr D L xs C S Q 840 i p c' s') : lB pr D L xs C S Q 691 i (u, r) c s := by
  refine g_load rfl rfl rfl trivial ?_
  refine g_load rfl rfl rfl trivial ?_
  refine g_load rfl rfl rfl trivial ?_
  refine g_iconst (nI 1) rfl (by decide) ?_
  refine g_iadd rfl ?_
  refine l_ia (i + 1) rfl (by simp only [nI_add]) (by omega) hL ?_
  refine g_virtP (a := 16) (ci := 7) (n := 1) [.int (xs (i + 1))] 0 0 tFr_tr rfl rfl (by decide) rfl (l_16 hJ.k.1) rfl (Nat.le_of_ble_eq_true rfl) (by omega) (by omega) (gR_mono (p_total hJ (xs (i + 1))) (fun v p1 hq => ?_))
  obtain ⟨x, u', rfl, rfl, hR⟩ := hq
  refine ⟨_, rfl, ?_⟩
  refine g_load rfl rfl rfl trivial ?_
  refine g_load rfl rfl rfl trivial ?_
  refine g_load rfl rfl rfl trivial ?_
  refine g_iconst (nI 1) rfl (by decide) ?_
  refine g_iadd rfl ?_
  refine l_ia (i + 1) rfl (by simp only [nI_add]) (by omega) hL ?_
  refine g_virtP (a := 25) (ci := 8) (n := 1) [.int (xs (i + 1))] 0 0 tFr_tr rfl rfl (by decide) rfl l_25 rfl (Nat.le_of_ble_eq_true rfl) (by omega) (by omega) (gR_mono hR (fun w p2 hq => ?_))
  obtain ⟨rfl, nb', nr', hJ'⟩ := hq
  refine ⟨_, rfl, ?_⟩
  refine g_icmp_eq rfl (fun c1 => ?_) (fun c1 => ?_)
  · exact hK _ _ _ _ _ hJ' (by omega) (by omega)
  · exact absurd rfl c1
set_option maxRecDepth 20000 in
theorem q_top {pr : aC} {D L : Nat} {xs : Nat → Int32} {u : cS} {r : rS} {nb nr : Nat} (hJ : J u r nb nr) {i : Nat} (hL : L ≤ 3072) (hi : i + 6 ≤ L) {C S c s : Nat} {Q : Option Value → cS × rS → Prop} (hc : c + 6 ≤ C) (hs : s + 399 ≤ S) (hK : ∀ (p : cS × rS) nb nr c' s', J p.1 p.2 nb nr → c' ≤ c + 6 → s' ≤ s + 399 → lB pr D L xs C S Q 840 i p c' s') : lB pr D L xs C S Q 708 i (u, r) c s := by
  refine g_load rfl rfl rfl trivial ?_
  refine g_load rfl rfl rfl trivial ?_
  refine g_load rfl rfl rfl trivial ?_
  refine g_iconst (nI 1) rfl (by decide) ?_
  refine g_iadd rfl ?_
  refine l_ia (i + 1) rfl (by simp only [nI_add]) (by omega) hL ?_
  refine g_virtP (a := 16) (ci := 7) (n := 1) [.int (xs (i + 1))] 0 0 tFr_tr rfl rfl (by decide) rfl (l_16 hJ.k.1) rfl (Nat.le_of_ble_eq_true rfl) (by omega) (by omega) (gR_mono (p_top hJ (xs (i + 1))) (fun v p1 hq => ?_))
  obtain ⟨x, u', rfl, rfl, hR⟩ := hq
  refine ⟨_, rfl, ?_⟩
  refine g_load rfl rfl rfl trivial ?_
  refine g_load rfl rfl rfl trivial ?_
  refine g_load rfl rfl rfl trivial ?_
  refine g_iconst (nI 1) rfl (by decide) ?_
  refine g_iadd rfl ?_
  refine l_ia (i + 1) rfl (by simp only [nI_add]) (by omega) hL ?_
  refine g_virtP (a := 25) (ci := 8) (n := 1) [.int (xs (i + 1))] 0 0 tFr_tr rfl rfl (by decide) rfl l_25 rfl (Nat.le_of_ble_eq_true rfl) (by omega) (by omega) (gR_mono hR (fun w p2 hq => ?_))
  obtain ⟨rfl, nb', nr', hJ'⟩ := hq
  refine ⟨_, rfl, ?_⟩
  refine g_icmp_eq rfl (fun c1 => ?_) (fun c1 => ?_)
  · exact hK _ _ _ _ _ hJ' (by omega) (by omega)
  · exact absurd rfl c1
set_option maxRecDepth 20000 in
theorem q_place {pr : aC} {D L : Nat} {xs : Nat → Int32} {u : cS} {r : rS} {nb nr : Nat} (hJ : J u r nb nr) {i : Nat} (hL : L ≤ 3072) (hi : i + 6 ≤ L) {C S c s : Nat} {Q : Option Value → cS × rS → Prop} (hc : c + 6 ≤ C) (hs : s + 399 ≤ S) (hK : ∀ (p : cS × rS) nb nr c' s', J p.1 p.2 nb nr → c' ≤ c + 6 → s' ≤ s + 399 → lB pr D L xs C S Q 840 i p c' s') : lB pr D L xs C S Q 725 i (u, r) c s := by
  refine g_load rfl rfl rfl trivial ?_
  refine g_load rfl rfl rfl trivial ?_
  refine g_load rfl rfl rfl trivial ?_
  refine g_iconst (nI 1) rfl (by decide) ?_
  refine g_iadd rfl ?_
  refine l_ia (i + 1) rfl (by simp only [nI_add]) (by omega) hL ?_
  refine g_virtP (a := 16) (ci := 7) (n := 1) [.int (xs (i + 1))] 0 0 tFr_tr rfl rfl (by decide) rfl (l_16 hJ.k.1) rfl (Nat.le_of_ble_eq_true rfl) (by omega) (by omega) (gR_mono (p_place hJ (xs (i + 1))) (fun v p1 hq => ?_))
  obtain ⟨x, u', rfl, rfl, hR⟩ := hq
  refine ⟨_, rfl, ?_⟩
  refine g_load rfl rfl rfl trivial ?_
  refine g_load rfl rfl rfl trivial ?_
  refine g_load rfl rfl rfl trivial ?_
  refine g_iconst (nI 1) rfl (by decide) ?_
  refine g_iadd rfl ?_
  refine l_ia (i + 1) rfl (by simp only [nI_add]) (by omega) hL ?_
  refine g_virtP (a := 25) (ci := 8) (n := 1) [.int (xs (i + 1))] 0 0 tFr_tr rfl rfl (by decide) rfl l_25 rfl (Nat.le_of_ble_eq_true rfl) (by omega) (by omega) (gR_mono hR (fun w p2 hq => ?_))
  obtain ⟨rfl, nb', nr', hJ'⟩ := hq
  refine ⟨_, rfl, ?_⟩
  refine g_icmp_eq rfl (fun c1 => ?_) (fun c1 => ?_)
  · exact hK _ _ _ _ _ hJ' (by omega) (by omega)
  · exact absurd rfl c1
set_option maxRecDepth 20000 in
theorem q_plan {pr : aC} {D L : Nat} {xs : Nat → Int32} {u : cS} {r : rS} {nb nr : Nat} (hJ : J u r nb nr) {i : Nat} (hL : L ≤ 3072) (hi : i + 6 ≤ L) {C S c s : Nat} {Q : Option Value → cS × rS → Prop} (hc : c + 6 ≤ C) (hs : s + 399 ≤ S) (hK : ∀ (p : cS × rS) nb nr c' s', J p.1 p.2 nb nr → c' ≤ c + 6 → s' ≤ s + 399 → lB pr D L xs C S Q 840 i p c' s') : lB pr D L xs C S Q 742 i (u, r) c s := by
  refine g_load rfl rfl rfl trivial ?_
  refine g_load rfl rfl rfl trivial ?_
  refine g_load rfl rfl rfl trivial ?_
  refine g_iconst (nI 1) rfl (by decide) ?_
  refine g_iadd rfl ?_
  refine l_ia (i + 1) rfl (by simp only [nI_add]) (by omega) hL ?_
  refine g_load rfl rfl rfl trivial ?_
  refine g_load rfl rfl rfl trivial ?_
  refine g_iconst (nI 2) rfl (by decide) ?_
  refine g_iadd rfl ?_
  refine l_ia (i + 2) rfl (by simp only [nI_add]) (by omega) hL ?_
  refine g_load rfl rfl rfl trivial ?_
  refine g_load rfl rfl rfl trivial ?_
  refine g_iconst (nI 3) rfl (by decide) ?_
  refine g_iadd rfl ?_
  refine l_ia (i + 3) rfl (by simp only [nI_add]) (by omega) hL ?_
  refine g_load rfl rfl rfl trivial ?_
  refine g_load rfl rfl rfl trivial ?_
  refine g_iconst (nI 4) rfl (by decide) ?_
  refine g_iadd rfl ?_
  refine l_ia (i + 4) rfl (by simp only [nI_add]) (by omega) hL ?_
  refine g_virtP (a := 16) (ci := 7) (n := 4) [.int (xs (i + 1)), .int (xs (i + 2)), .int (xs (i + 3)), .int (xs (i + 4))] 0 0 tFr_tr rfl rfl (by decide) rfl (l_16 hJ.k.1) rfl (Nat.le_of_ble_eq_true rfl) (by omega) (by omega) (gR_mono (p_plan hJ (xs (i + 1)) (xs (i + 2)) (xs (i + 3)) (xs (i + 4))) (fun v p1 hq => ?_))
  obtain ⟨x, u', rfl, rfl, hR⟩ := hq
  refine ⟨_, rfl, ?_⟩
  refine g_load rfl rfl rfl trivial ?_
  refine g_load rfl rfl rfl trivial ?_
  refine g_load rfl rfl rfl trivial ?_
  refine g_iconst (nI 1) rfl (by decide) ?_
  refine g_iadd rfl ?_
  refine l_ia (i + 1) rfl (by simp only [nI_add]) (by omega) hL ?_
  refine g_load rfl rfl rfl trivial ?_
  refine g_load rfl rfl rfl trivial ?_
  refine g_iconst (nI 2) rfl (by decide) ?_
  refine g_iadd rfl ?_
  refine l_ia (i + 2) rfl (by simp only [nI_add]) (by omega) hL ?_
  refine g_load rfl rfl rfl trivial ?_
  refine g_load rfl rfl rfl trivial ?_
  refine g_iconst (nI 3) rfl (by decide) ?_
  refine g_iadd rfl ?_
  refine l_ia (i + 3) rfl (by simp only [nI_add]) (by omega) hL ?_
  refine g_load rfl rfl rfl trivial ?_
  refine g_load rfl rfl rfl trivial ?_
  refine g_iconst (nI 4) rfl (by decide) ?_
  refine g_iadd rfl ?_
  refine l_ia (i + 4) rfl (by simp only [nI_add]) (by omega) hL ?_
  refine g_virtP (a := 25) (ci := 8) (n := 4) [.int (xs (i + 1)), .int (xs (i + 2)), .int (xs (i + 3)), .int (xs (i + 4))] 0 0 tFr_tr rfl rfl (by decide) rfl l_25 rfl (Nat.le_of_ble_eq_true rfl) (by omega) (by omega) (gR_mono hR (fun w p2 hq => ?_))
  obtain ⟨rfl, nb', nr', hJ'⟩ := hq
  refine ⟨_, rfl, ?_⟩
  refine g_icmp_eq rfl (fun c1 => ?_) (fun c1 => ?_)
  · exact hK _ _ _ _ _ hJ' (by omega) (by omega)
  · exact absurd rfl c1
set_option maxRecDepth 20000 in
theorem q_write {pr : aC} {D L : Nat} {xs : Nat → Int32} {u : cS} {r : rS} {nb nr : Nat} (hJ : J u r nb nr) {i : Nat} (hL : L ≤ 3072) (hi : i + 6 ≤ L) {C S c s : Nat} {Q : Option Value → cS × rS → Prop} (hc : c + 6 ≤ C) (hs : s + 399 ≤ S) (hK : ∀ (p : cS × rS) nb nr c' s', J p.1 p.2 nb nr → c' ≤ c + 6 → s' ≤ s + 399 → lB pr D L xs C S Q 840 i p c' s') : lB pr D L xs C S Q 789 i (u, r) c s := by
  refine g_load rfl rfl rfl trivial ?_
  refine g_load rfl rfl rfl trivial ?_
  refine g_load rfl rfl rfl trivial ?_
  refine g_iconst (nI 1) rfl (by decide) ?_
  refine g_iadd rfl ?_
  refine l_ia (i + 1) rfl (by simp only [nI_add]) (by omega) hL ?_
  refine g_virtP (a := 16) (ci := 7) (n := 1) [.int (xs (i + 1))] 0 0 tFr_tr rfl rfl (by decide) rfl (l_16 hJ.k.1) rfl (Nat.le_of_ble_eq_true rfl) (by omega) (by omega) (gR_mono (p_write hJ (xs (i + 1))) (fun v p1 hq => ?_))
  obtain ⟨x, u', rfl, rfl, hR⟩ := hq
  refine ⟨_, rfl, ?_⟩
  refine g_load rfl rfl rfl trivial ?_
  refine g_load rfl rfl rfl trivial ?_
  refine g_load rfl rfl rfl trivial ?_
  refine g_iconst (nI 1) rfl (by decide) ?_
  refine g_iadd rfl ?_
  refine l_ia (i + 1) rfl (by simp only [nI_add]) (by omega) hL ?_
  refine g_virtP (a := 25) (ci := 8) (n := 1) [.int (xs (i + 1))] 0 0 tFr_tr rfl rfl (by decide) rfl l_25 rfl (Nat.le_of_ble_eq_true rfl) (by omega) (by omega) (gR_mono hR (fun w p2 hq => ?_))
  obtain ⟨rfl, nb', nr', hJ'⟩ := hq
  refine ⟨_, rfl, ?_⟩
  refine g_icmp_eq rfl (fun c1 => ?_) (fun c1 => ?_)
  · exact hK _ _ _ _ _ hJ' (by omega) (by omega)
  · exact absurd rfl c1
set_option maxRecDepth 20000 in
theorem q_out {pr : aC} {D L : Nat} {xs : Nat → Int32} {u : cS} {r : rS} {nb nr : Nat} (hJ : J u r nb nr) {i : Nat} (hL : L ≤ 3072) (hi : i + 6 ≤ L) {C S c s : Nat} {Q : Option Value → cS × rS → Prop} (hc : c + 6 ≤ C) (hs : s + 399 ≤ S) (hK : ∀ (p : cS × rS) nb nr c' s', J p.1 p.2 nb nr → c' ≤ c + 6 → s' ≤ s + 399 → lB pr D L xs C S Q 840 i p c' s') : lB pr D L xs C S Q 806 i (u, r) c s := by
  refine g_load rfl rfl rfl trivial ?_
  refine g_load rfl rfl rfl trivial ?_
  refine g_load rfl rfl rfl trivial ?_
  refine g_iconst (nI 1) rfl (by decide) ?_
  refine g_iadd rfl ?_
  refine l_ia (i + 1) rfl (by simp only [nI_add]) (by omega) hL ?_
  refine g_virtP (a := 16) (ci := 7) (n := 1) [.int (xs (i + 1))] 0 0 tFr_tr rfl rfl (by decide) rfl (l_16 hJ.k.1) rfl (Nat.le_of_ble_eq_true rfl) (by omega) (by omega) (gR_mono (p_out hJ (xs (i + 1))) (fun v p1 hq => ?_))
  obtain ⟨x, u', rfl, rfl, hR⟩ := hq
  refine ⟨_, rfl, ?_⟩
  refine g_load rfl rfl rfl trivial ?_
  refine g_load rfl rfl rfl trivial ?_
  refine g_load rfl rfl rfl trivial ?_
  refine g_iconst (nI 1) rfl (by decide) ?_
  refine g_iadd rfl ?_
  refine l_ia (i + 1) rfl (by simp only [nI_add]) (by omega) hL ?_
  refine g_virtP (a := 25) (ci := 8) (n := 1) [.int (xs (i + 1))] 0 0 tFr_tr rfl rfl (by decide) rfl l_25 rfl (Nat.le_of_ble_eq_true rfl) (by omega) (by omega) (gR_mono hR (fun w p2 hq => ?_))
  obtain ⟨rfl, nb', nr', hJ'⟩ := hq
  refine ⟨_, rfl, ?_⟩
  refine g_icmp_eq rfl (fun c1 => ?_) (fun c1 => ?_)
  · exact hK _ _ _ _ _ hJ' (by omega) (by omega)
  · exact absurd rfl c1
set_option maxRecDepth 20000 in
theorem q_count {pr : aC} {D L : Nat} {xs : Nat → Int32} {u : cS} {r : rS} {nb nr : Nat} (hJ : J u r nb nr) {i : Nat} (hL : L ≤ 3072) (hi : i + 6 ≤ L) {C S c s : Nat} {Q : Option Value → cS × rS → Prop} (hc : c + 6 ≤ C) (hs : s + 399 ≤ S) (hK : ∀ (p : cS × rS) nb nr c' s', J p.1 p.2 nb nr → c' ≤ c + 6 → s' ≤ s + 399 → lB pr D L xs C S Q 840 i p c' s') : lB pr D L xs C S Q 823 i (u, r) c s := by
  refine g_load rfl rfl rfl trivial ?_
  refine g_load rfl rfl rfl trivial ?_
  refine g_load rfl rfl rfl trivial ?_
  refine g_iconst (nI 1) rfl (by decide) ?_
  refine g_iadd rfl ?_
  refine l_ia (i + 1) rfl (by simp only [nI_add]) (by omega) hL ?_
  refine g_virtP (a := 16) (ci := 7) (n := 1) [.int (xs (i + 1))] 0 0 tFr_tr rfl rfl (by decide) rfl (l_16 hJ.k.1) rfl (Nat.le_of_ble_eq_true rfl) (by omega) (by omega) (gR_mono (p_count hJ (xs (i + 1))) (fun v p1 hq => ?_))
  obtain ⟨x, u', rfl, rfl, hR⟩ := hq
  refine ⟨_, rfl, ?_⟩
  refine g_load rfl rfl rfl trivial ?_
  refine g_load rfl rfl rfl trivial ?_
  refine g_load rfl rfl rfl trivial ?_
  refine g_iconst (nI 1) rfl (by decide) ?_
  refine g_iadd rfl ?_
  refine l_ia (i + 1) rfl (by simp only [nI_add]) (by omega) hL ?_
  refine g_virtP (a := 25) (ci := 8) (n := 1) [.int (xs (i + 1))] 0 0 tFr_tr rfl rfl (by decide) rfl l_25 rfl (Nat.le_of_ble_eq_true rfl) (by omega) (by omega) (gR_mono hR (fun w p2 hq => ?_))
  obtain ⟨rfl, nb', nr', hJ'⟩ := hq
  refine ⟨_, rfl, ?_⟩
  refine g_icmp_eq rfl (fun c1 => ?_) (fun c1 => ?_)
  · exact hK _ _ _ _ _ hJ' (by omega) (by omega)
  · exact absurd rfl c1
theorem lt_6 {L i : Nat} (hL : L < 6) (hi : i < 2 ^ 31) : nI L - nI 6 < nI i := by
  have h0 : nI L - nI 6 < 0 := by
    rcases (show L = 0 ∨ L = 1 ∨ L = 2 ∨ L = 3 ∨ L = 4 ∨ L = 5 by omega) with e | e | e | e | e | e <;> subst e <;> decide
  have h1 : ¬ nI i < 0 := nI_pos hi
  rw [Int32.lt_iff_toInt_lt] at h0 h1 ⊢
  omega
set_option maxRecDepth 20000 in
theorem q_step {pr : aC} {D L : Nat} {xs : Nat → Int32} {u : cS} {r : rS} {nb nr : Nat} (hJ : J u r nb nr) {i : Nat} (hL : L ≤ 3072) (hi : i + 6 ≤ L) {C S c s : Nat} {Q : Option Value → cS × rS → Prop} (hc : c + 6 ≤ C) (hs : s + 399 ≤ S) (hK : ∀ (p : cS × rS) nb nr c' s', J p.1 p.2 nb nr → c' ≤ c + 6 → s' ≤ s + 399 → lB pr D L xs C S Q 840 i p c' s') : lB pr D L xs C S Q 16 i (u, r) c s := by
  refine g_load rfl rfl rfl trivial ?_
  refine g_load rfl rfl rfl trivial ?_
  refine l_ia i rfl rfl (by omega) hL ?_
  refine g_bipush (nI 31) rfl (by decide) ?_
  refine g_iand rfl ?_
  by_cases hsw : (xs i &&& nI 31).toInt < 0 ∨ 29 < (xs i &&& nI 31).toInt
  · refine g_tabOut 840 rfl hsw rfl ?_
    exact hK _ _ _ _ _ hJ (by omega) (by omega)
  obtain ⟨ksw, hk, e⟩ := sw_of (n := 29) hsw
  rw [e]
  rcases (show ksw = 0 ∨ ksw = 1 ∨ ksw = 2 ∨ ksw = 3 ∨ ksw = 4 ∨ ksw = 5 ∨ ksw = 6 ∨ ksw = 7 ∨ ksw = 8 ∨ ksw = 9 ∨ ksw = 10 ∨ ksw = 11 ∨ ksw = 12 ∨ ksw = 13 ∨ ksw = 14 ∨ ksw = 15 ∨ ksw = 16 ∨ ksw = 17 ∨ ksw = 18 ∨ ksw = 19 ∨ ksw = 20 ∨ ksw = 21 ∨ ksw = 22 ∨ ksw = 23 ∨ ksw = 24 ∨ ksw = 25 ∨ ksw = 26 ∨ ksw = 27 ∨ ksw = 28 ∨ ksw = 29 by omega) with rfl | rfl | rfl | rfl | rfl | rfl | rfl | rfl | rfl | rfl | rfl | rfl | rfl | rfl | rfl | rfl | rfl | rfl | rfl | rfl | rfl | rfl | rfl | rfl | rfl | rfl | rfl | rfl | rfl | rfl
  · exact g_tabIn (135) 22 rfl (by decide) (by decide) rfl rfl (q_deal hJ hL hi hc hs hK)
  · exact g_tabIn (158) 39 rfl (by decide) (by decide) rfl rfl (q_swap hJ hL hi hc hs hK)
  · exact g_tabIn (201) 76 rfl (by decide) (by decide) rfl rfl (q_hand hJ hL hi hc hs hK)
  · exact g_tabIn (234) 103 rfl (by decide) (by decide) rfl rfl (q_board hJ hL hi hc hs hK)
  · exact g_tabIn (267) 130 rfl (by decide) (by decide) rfl rfl (q_begin hJ hL hi hc hs hK)
  · exact g_tabIn (320) 177 rfl (by decide) (by decide) rfl rfl (q_call hJ hL hi hc hs hK)
  · exact g_tabIn (353) 204 rfl (by decide) (by decide) rfl rfl (q_play hJ hL hi hc hs hK)
  · exact g_tabIn (386) 231 rfl (by decide) (by decide) rfl rfl (q_claim hJ hL hi hc hs hK)
  · exact g_tabIn (419) 258 rfl (by decide) (by decide) rfl rfl (q_back hJ hL hi hc hs hK)
  · exact g_tabIn (442) 275 rfl (by decide) (by decide) rfl rfl (q_leave hJ hL hi hc hs hK)
  · exact g_tabIn (465) 292 rfl (by decide) (by decide) rfl rfl (q_table hJ hL hi hc hs hK)
  · exact g_tabIn (498) 319 rfl (by decide) (by decide) rfl rfl (q_called hJ hL hi hc hs hK)
  · exact g_tabIn (531) 346 rfl (by decide) (by decide) rfl rfl (q_played hJ hL hi hc hs hK)
  · exact g_tabIn (564) 373 rfl (by decide) (by decide) rfl rfl (q_allowed hJ hL hi hc hs hK)
  · exact g_tabIn (597) 400 rfl (by decide) (by decide) rfl rfl (q_sees hJ hL hi hc hs hK)
  · exact g_tabIn (640) 437 rfl (by decide) (by decide) rfl rfl (q_lacks hJ hL hi hc hs hK)
  · exact g_tabIn (683) 474 rfl (by decide) (by decide) rfl rfl (q_best hJ hL hi hc hs hK)
  · exact g_tabIn (706) 491 rfl (by decide) (by decide) rfl rfl (q_bestCard hJ hL hi hc hs hK)
  · exact g_tabIn (729) 508 rfl (by decide) (by decide) rfl rfl (q_result hJ hL hi hc hs hK)
  · exact g_tabIn (762) 535 rfl (by decide) (by decide) rfl rfl (q_adjust hJ hL hi hc hs hK)
  · exact g_tabIn (805) 572 rfl (by decide) (by decide) rfl rfl (q_score hJ hL hi hc hs hK)
  · exact g_tabIn (884) 637 rfl (by decide) (by decide) rfl rfl (q_steps hJ hL hi hc hs hK)
  · exact g_tabIn (917) 664 rfl (by decide) (by decide) rfl rfl (q_points hJ hL hi hc hs hK)
  · exact g_tabIn (950) 691 rfl (by decide) (by decide) rfl rfl (q_total hJ hL hi hc hs hK)
  · exact g_tabIn (973) 708 rfl (by decide) (by decide) rfl rfl (q_top hJ hL hi hc hs hK)
  · exact g_tabIn (996) 725 rfl (by decide) (by decide) rfl rfl (q_place hJ hL hi hc hs hK)
  · exact g_tabIn (1019) 742 rfl (by decide) (by decide) rfl rfl (q_plan hJ hL hi hc hs hK)
  · exact g_tabIn (1072) 789 rfl (by decide) (by decide) rfl rfl (q_write hJ hL hi hc hs hK)
  · exact g_tabIn (1095) 806 rfl (by decide) (by decide) rfl rfl (q_out hJ hL hi hc hs hK)
  · exact g_tabIn (1118) 823 rfl (by decide) (by decide) rfl rfl (q_count hJ hL hi hc hs hK)
set_option maxRecDepth 20000 in
theorem q_loop {pr : aC} {D L : Nat} {xs : Nat → Int32} (hL : L ≤ 3072) {C S : Nat} {Q : Option Value → cS × rS → Prop} (hQ : ∀ p, Q (some (.int (nI 1))) p) : ∀ (zz i : Nat) (p : cS × rS) (nb nr c s : Nat), J p.1 p.2 nb nr → L - i < zz → i ≤ 3072 → c + (L - i) ≤ C → s + 67 * (L - i) ≤ S → lB pr D L xs C S Q 10 i p c s := by
  intro zz
  induction zz with
  | zero => intro i p nb nr c s _ h; omega
  | succ zz ih =>
    intro i p nb nr c s hJ hz hi3 hc hs
    obtain ⟨u, r⟩ := p
    refine g_load rfl rfl rfl trivial ?_
    refine g_load rfl rfl rfl trivial ?_
    refine l_len rfl ?_
    refine g_bipush (nI 6) rfl (by decide) ?_
    refine g_isub rfl ?_
    refine g_icmp_gt rfl (fun c1 => ?_) (fun c1 => ?_)
    · refine g_iconst (nI 1) rfl (by decide) ?_
      exact g_vret rfl trivial ⟨by decide, by decide⟩ (by omega) (by omega) (hQ _)
    · have h6 : ¬ L < 6 := fun h => c1 (lt_6 h (by omega))
      rw [pk_sub (by omega), nI_ltI (by omega) (by omega)] at c1
      refine q_step hJ hL (by omega) (by omega) (by omega) (fun p' nb' nr' c' s' hJ' hc' hs' => ?_)
      refine g_iinc (nI (i + 6)) [some (.ref 14), some (.ref 16), some (.ref 25), some (.int (nI (i + 6)))] rfl rfl (by rw [show (Int32.ofInt 6) = nI 6 from by decide, nI_add]) rfl ?_
      refine g_goto rfl ?_
      exact ih (i + 6) p' nb' nr' c' s' hJ' (by omega) (by omega) (by omega) (by omega)
