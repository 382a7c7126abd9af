/-! ===== each method of the class beside the reference's ===== -/
theorem p_hand {pr : aC} {D L : Nat} {xs : Nat → Int32} {u : cS} {r : rS} {nb nr : Nat} (hJ : J u r nb nr) (b c : Int32) : pX (aRun pg pr (D + 50)) L xs 110 165 0 0 [.int b, .int c] u r := by
  exact l_c (j_hand hJ b c ⟨_, u, rfl, rfl, l_r (r_hand b c nb hJ.hb.2.2 hJ.hb.2.1 ⟨rfl, nb, nr, hJ⟩)⟩)
theorem p_board {pr : aC} {D L : Nat} {xs : Nat → Int32} {u : cS} {r : rS} {nb nr : Nat} (hJ : J u r nb nr) (b w : Int32) : pX (aRun pg pr (D + 50)) L xs 111 171 0 0 [.int b, .int w] u r := by
  exact l_c (j_board hJ b w ⟨_, u, rfl, rfl, l_r (r_board b w nr hJ.hr.2.1 (by have := hJ.nr; omega) nb hJ.hb.2.2 hJ.hb.2.1 ⟨rfl, nb, nr, hJ⟩)⟩)
theorem p_table {pr : aC} {D L : Nat} {xs : Nat → Int32} {u : cS} {r : rS} {nb nr : Nat} (hJ : J u r nb nr) (t w : Int32) : pX (aRun pg pr (D + 50)) L xs 118 198 0 0 [.int t, .int w] u r := by
  exact l_c (j_table hJ t w ⟨_, u, rfl, rfl, l_r (r_table t w nb hJ.rok (fun r1 hs => ⟨rfl, nb, nr, hJ.oe (onE_rf u) hs⟩))⟩)
theorem p_called {pr : aC} {D L : Nat} {xs : Nat → Int32} {u : cS} {r : rS} {nb nr : Nat} (hJ : J u r nb nr) (t i : Int32) : pX (aRun pg pr (D + 50)) L xs 119 199 0 0 [.int t, .int i] u r := by
  exact l_c (j_called hJ t i ⟨_, u, rfl, rfl, l_r (r_called t i hJ.calls ⟨rfl, nb, nr, hJ⟩)⟩)
theorem p_played {pr : aC} {D L : Nat} {xs : Nat → Int32} {u : cS} {r : rS} {nb nr : Nat} (hJ : J u r nb nr) (t i : Int32) : pX (aRun pg pr (D + 50)) L xs 120 200 0 0 [.int t, .int i] u r := by
  exact l_c (j_played hJ t i ⟨_, u, rfl, rfl, l_r (r_played t i hJ.cards ⟨rfl, nb, nr, hJ⟩)⟩)
theorem p_allowed {pr : aC} {D L : Nat} {xs : Nat → Int32} {u : cS} {r : rS} {nb nr : Nat} (hJ : J u r nb nr) (t x : Int32) : pX (aRun pg pr (D + 50)) L xs 121 201 0 0 [.int t, .int x] u r := by
  exact l_c (j_allowed hJ t x ⟨_, u, rfl, rfl, l_r (r_allowed t x nb hJ.rok (fun r1 hs => ⟨rfl, nb, nr, hJ.oe (onE_rf u) hs⟩))⟩)
theorem p_sees {pr : aC} {D L : Nat} {xs : Nat → Int32} {u : cS} {r : rS} {nb nr : Nat} (hJ : J u r nb nr) (t s c : Int32) : pX (aRun pg pr (D + 50)) L xs 122 202 0 0 [.int t, .int s, .int c] u r := by
  exact l_c (j_sees hJ t s c ⟨_, u, rfl, rfl, l_r (r_sees t s c nb hJ.rok ⟨rfl, nb, nr, hJ⟩)⟩)
theorem p_lacks {pr : aC} {D L : Nat} {xs : Nat → Int32} {u : cS} {r : rS} {nb nr : Nat} (hJ : J u r nb nr) (t s q : Int32) : pX (aRun pg pr (D + 50)) L xs 123 203 0 0 [.int t, .int s, .int q] u r := by
  exact l_c (j_lacks hJ t s q ⟨_, u, rfl, rfl, l_r (r_lacks t s q nb hJ.rok ⟨rfl, nb, nr, hJ⟩)⟩)
theorem p_result {pr : aC} {D L : Nat} {xs : Nat → Int32} {u : cS} {r : rS} {nb nr : Nat} (hJ : J u r nb nr) (i w : Int32) : pX (aRun pg pr (D + 50)) L xs 126 213 0 0 [.int i, .int w] u r := by
  exact l_c (j_result hJ i w ⟨_, u, rfl, rfl, l_r (r_result i w nr hJ.hr.2.1 (by have := hJ.nr; omega) ⟨rfl, nb, nr, hJ⟩)⟩)
theorem p_steps {pr : aC} {D L : Nat} {xs : Nat → Int32} {u : cS} {r : rS} {nb nr : Nat} (hJ : J u r nb nr) (a b : Int32) : pX (aRun pg pr (D + 50)) L xs 129 211 0 0 [.int a, .int b] u r := by
  exact l_c (j_steps a b ⟨_, u, rfl, rfl, l_r (r_steps a b ⟨rfl, nb, nr, hJ⟩)⟩)
theorem p_total {pr : aC} {D L : Nat} {xs : Nat → Int32} {u : cS} {r : rS} {nb nr : Nat} (hJ : J u r nb nr) (p : Int32) : pX (aRun pg pr (D + 50)) L xs 131 217 0 0 [.int p] u r := by
  exact l_c (j_total hJ p ⟨_, u, rfl, rfl, l_r (r_total p nr hJ.hr.2.1 (by have := hJ.nr; omega) ⟨rfl, nb, nr, hJ⟩)⟩)
theorem p_top {pr : aC} {D L : Nat} {xs : Nat → Int32} {u : cS} {r : rS} {nb nr : Nat} (hJ : J u r nb nr) (p : Int32) : pX (aRun pg pr (D + 50)) L xs 132 218 0 0 [.int p] u r := by
  exact l_c (j_top hJ p ⟨_, u, rfl, rfl, l_r (r_top p nr hJ.hr.2.1 (by have := hJ.nr; omega) ⟨rfl, nb, nr, hJ⟩)⟩)
theorem p_place {pr : aC} {D L : Nat} {xs : Nat → Int32} {u : cS} {r : rS} {nb nr : Nat} (hJ : J u r nb nr) (p : Int32) : pX (aRun pg pr (D + 50)) L xs 133 219 0 0 [.int p] u r := by
  exact l_c (j_place hJ p ⟨_, u, rfl, rfl, l_r (r_place p nr hJ.hr.2.1 (by have := hJ.nr; omega) ⟨rfl, nb, nr, hJ⟩)⟩)
theorem p_plan {pr : aC} {D L : Nat} {xs : Nat → Int32} {u : cS} {r : rS} {nb nr : Nat} (hJ : J u r nb nr) (t q k w : Int32) : pX (aRun pg pr (D + 50)) L xs 134 220 0 0 [.int t, .int q, .int k, .int w] u r := by
  exact l_c (j_plan t q k w ⟨_, u, rfl, rfl, l_r (r_plan t q k w ⟨rfl, nb, nr, hJ⟩)⟩)
theorem p_count {pr : aC} {D L : Nat} {xs : Nat → Int32} {u : cS} {r : rS} {nb nr : Nat} (hJ : J u r nb nr) (w : Int32) : pX (aRun pg pr (D + 50)) L xs 137 224 0 0 [.int w] u r := by
  exact l_c (j_count hJ w ⟨_, u, rfl, rfl, l_r (r_count w nr hJ.hr.2.1 (by have := hJ.nr; omega) ⟨rfl, nb, nr, hJ⟩)⟩)
theorem p_score {pr : aC} {D L : Nat} {xs : Nat → Int32} {u : cS} {r : rS} {nb nr : Nat} (hJ : J u r nb nr) (lv sr db tk : Int32) (v : Bool) : pX (aRun pg pr (D + 50)) L xs 128 209 0 0 [.int lv, .int sr, .int db, .int (bI v), .int tk] u r := by
  exact l_c (j_score hJ lv sr db tk v ⟨_, u, rfl, rfl, l_r (r_score lv sr db tk v ⟨rfl, nb, nr, hJ⟩)⟩)
theorem p_points {pr : aC} {D L : Nat} {xs : Nat → Int32} {u : cS} {r : rS} {nb nr : Nat} (hJ : J u r nb nr) (i s : Int32) : pX (aRun pg pr (D + 50)) L xs 130 215 0 0 [.int i, .int s] u r := by
  refine l_c (j_points hJ i s ⟨_, u, rfl, rfl, l_r ?_⟩)
  by_cases h : (irF nr i && inF s 0 1) = true
  · have hs := (Bool.and_eq_true_iff.mp h).2
    obtain ⟨i', hi, rfl⟩ := irF_of (by have := hJ.nr; omega) (Bool.and_eq_true_iff.mp h).1
    have e : pnt r nr (nI i') s = ptF r nr i' s.toNatClampNeg := by
      unfold pnt
      rw [if_pos h, nI_clamp (by have := hJ.nr; omega)]
    rw [e]
    obtain ⟨s', hs', rfl⟩ : ∃ s', s' < 2 ∧ s = nI s' := by
      unfold inF at hs
      rcases (show s = 0 ∨ s = 1 by
        have h1 := of_decide_eq_true (Bool.and_eq_true_iff.mp hs).1
        have h2 := of_decide_eq_true (Bool.and_eq_true_iff.mp hs).2
        rw [Int32.le_iff_toInt_le] at h1 h2
        have e0 : (0 : Int32).toInt = 0 := by decide
        have e1 : (1 : Int32).toInt = 1 := by decide
        rw [e0] at h1
        rw [e1] at h2
        rcases (show s.toInt = 0 ∨ s.toInt = 1 by omega) with q | q
        · exact Or.inl (Int32.toInt_inj.mp (q.trans e0.symm))
        · exact Or.inr (Int32.toInt_inj.mp (q.trans e1.symm))) with q | q
      · exact ⟨0, by omega, q⟩
      · exact ⟨1, by omega, q⟩
    rw [nI_clamp (by omega)]
    exact r_points i' s' nr hJ.hr.2.1 (by have := hJ.nr; omega) hi hs' ⟨rfl, nb, nr, hJ⟩
  · have e : pnt r nr i s = -1 := by unfold pnt; rw [if_neg h]
    rw [e]
    exact r_points_n i s nr hJ.hr.2.1 (by have := hJ.nr; omega) (by simpa using h) ⟨rfl, nb, nr, hJ⟩
theorem p_out {pr : aC} {D L : Nat} {xs : Nat → Int32} {u : cS} {r : rS} {nb nr : Nat} (hJ : J u r nb nr) (i : Int32) : pX (aRun pg pr (D + 50)) L xs 136 223 0 0 [.int i] u r := by
  obtain ⟨len, h1, _, h3, _⟩ := hJ.tx
  exact l_c (j_out hJ i ⟨_, u, rfl, rfl, l_r (r_out i len h3 (by omega) ⟨rfl, nb, nr, hJ⟩)⟩)
theorem p_write {pr : aC} {D L : Nat} {xs : Nat → Int32} {u : cS} {r : rS} {nb nr : Nat} (hJ : J u r nb nr) (i : Int32) : pX (aRun pg pr (D + 50)) L xs 135 222 0 0 [.int i] u r := by
  refine l_w (j_write hJ i (fun e => ⟨_, u, rfl, rfl, l_r (r_write_n i nr hJ.hr.2.1 (by have := hJ.nr; omega) e ⟨rfl, nb, nr, hJ⟩)⟩) (fun ii v K hi e hO hE hS => ⟨_, v, rfl, rfl, l_r ?_⟩))
  subst e
  exact r_write hJ.hr.2.1 (by have := hJ.nr; omega) hi hO (fun w hX => ⟨rfl, nb, nr, hJ.write hE hS hX⟩)
theorem p_deal {pr : aC} {D L : Nat} {xs : Nat → Int32} {u : cS} {r : rS} {nb nr : Nat} (hJ : J u r nb nr) (seed : Int32) : pX (aRun pg pr (D + 50)) L xs 108 161 2 8 [.int seed] u r := by
  refine l_w (j_deal hJ seed (fun e => ⟨_, u, rfl, rfl, l_r (r_deal seed nb hJ.hb.2.2 hJ.hb.2.1 (fun _ => ⟨rfl, nb, nr, hJ⟩) (fun h => absurd e (by omega)))⟩) (fun h z hz => ⟨_, z, rfl, rfl, l_r (r_deal seed nb hJ.hb.2.2 hJ.hb.2.1 (fun e => absurd e (by omega)) (fun _ u1 r' a b c => ⟨rfl, nb + 1, nr, hz u1 r' a b c⟩))⟩))
theorem sw_f {r : rS} {nb b a c : Nat} (h0 : r.1 0 = nI nb) (hn : nb ≤ 36) (h1 : b < nb) (h2 : a < 52) (h3 : c < 52) (h4 : r.2 27 b = 0) : swOk r (nI (b + 1)) (nI a) (nI c) = true := by
  unfold swOk
  rw [bd_t h0 (by omega) h1, cd_t h2, cd_t h3, nI_clamp (by omega)]
  simpa using h4
theorem p_swap {pr : aC} {D L : Nat} {xs : Nat → Int32} {u : cS} {r : rS} {nb nr : Nat} (hJ : J u r nb nr) (b a c : Int32) : pX (aRun pg pr (D + 50)) L xs 109 164 0 0 [.int b, .int a, .int c] u r := by
  refine l_w (j_swap hJ b a c (fun e => ⟨_, u, rfl, rfl, l_r (r_swap b a c nb hJ.hb.2.2 hJ.hb.2.1 (fun _ => ⟨rfl, nb, nr, hJ⟩) (fun b' a' c' h1 h2 h3 h4 h5 h6 h7 => ?_))⟩) (fun b0 a0 c0 v g1 g2 g3 g4 g5 g6 g7 hv => ⟨_, v, rfl, rfl, l_r (r_swap b a c nb hJ.hb.2.2 hJ.hb.2.1 (fun e => ?_) (fun b' a' c' h1 h2 h3 h4 h5 h6 h7 => ?_))⟩))
  · rw [h4, h5, h6, sw_f hJ.hb.2.2 hJ.hb.2.1 h1 h2 h3 h7] at e
    cases e
  · rw [g4, g5, g6, sw_f hJ.hb.2.2 hJ.hb.2.1 g1 g2 g3 g7] at e
    cases e
  · have hn := hJ.hb.2.1
    have e1 : b' = b0 := Nat.succ.inj (nIi (by omega) (by omega) (h4.symm.trans g4))
    have e2 : a' = a0 := nIi (by omega) (by omega) (h5.symm.trans g5)
    have e3 : c' = c0 := nIi (by omega) (by omega) (h6.symm.trans g6)
    subst e1 e2 e3
    exact ⟨rfl, nb, nr, hv⟩
theorem p_begin {pr : aC} {D L : Nat} {xs : Nat → Int32} {u : cS} {r : rS} {nb nr : Nat} (hJ : J u r nb nr) (t b n e : Int32) : pX (aRun pg pr (D + 50)) L xs 112 174 6 399 [.int t, .int b, .int n, .int e] u r := by
  refine l_w (j_begin hJ t b n e (fun f => ⟨_, u, rfl, rfl, l_r (r_begin t b n e nr hJ.hr.2.1 (by have := hJ.nr; omega) nb hJ.hb.2.2 hJ.hb.2.1 (fun _ => ⟨rfl, nb, nr, hJ⟩) (fun t' b' h1 h2 h3 h4 h5 => ?_))⟩) (fun t0 b0 v g1 g2 g3 g4 g5 hv => ⟨_, v, rfl, rfl, l_r (r_begin t b n e nr hJ.hr.2.1 (by have := hJ.nr; omega) nb hJ.hb.2.2 hJ.hb.2.1 (fun f => ?_) (fun t' b' h1 h2 h3 h4 h5 => ?_))⟩))
  · rw [h5] at f
    cases f
  · rw [g5] at f
    cases f
  · have hn := hJ.hb.2.1
    have e1 : t' = t0 := nIi (by omega) (by omega) (h3.symm.trans g3)
    have e2 : b' = b0 := Nat.succ.inj (nIi (by omega) (by omega) (h4.symm.trans g4))
    subst e1 e2
    exact ⟨rfl, nb, nr, hv⟩
theorem p_leave {pr : aC} {D L : Nat} {xs : Nat → Int32} {u : cS} {r : rS} {nb nr : Nat} (hJ : J u r nb nr) (t : Int32) : pX (aRun pg pr (D + 50)) L xs 117 196 0 0 [.int t] u r := by
  refine l_w (j_leave hJ t (fun f => ⟨_, u, rfl, rfl, l_r (r_leave t (fun _ => ⟨rfl, nb, nr, hJ⟩) (fun t' h1 h2 h3 => ?_))⟩) (fun t0 v g1 g2 g3 hv => ⟨_, v, rfl, rfl, l_r (r_leave t (fun f => ?_) (fun t' h1 h2 h3 => ?_))⟩))
  · rw [h2, phF_t h1] at f
    exact absurd f h3
  · rw [g2, phF_t g1] at f
    exact absurd f g3
  · have e1 : t' = t0 := nIi (by omega) (by omega) (h2.symm.trans g2)
    subst e1
    exact ⟨rfl, nb, nr, hv⟩
theorem p_back {pr : aC} {D L : Nat} {xs : Nat → Int32} {u : cS} {r : rS} {nb nr : Nat} (hJ : J u r nb nr) (t : Int32) : pX (aRun pg pr (D + 50)) L xs 116 195 0 0 [.int t] u r := by
  refine l_w (j_back hJ t (fun f => ⟨_, u, rfl, rfl, l_r (r_back t nb hJ.rok (fun _ => ⟨rfl, nb, nr, hJ⟩) (fun t' h1 h2 h3 h4 => ?_))⟩) (fun t0 v g1 g2 g3 g4 hv => ⟨_, v, rfl, rfl, l_r (r_back t nb hJ.rok (fun f => ?_) (fun t' h1 h2 h3 h4 => ?_))⟩))
  · rw [h2, phF_t h1, nI_clamp (by omega)] at f
    rcases f with f | f
    · exact absurd f h3
    · omega
  · rw [g2, phF_t g1, nI_clamp (by omega)] at f
    rcases f with f | f
    · exact absurd f g3
    · omega
  · have e1 : t' = t0 := nIi (by omega) (by omega) (h2.symm.trans g2)
    subst e1
    exact ⟨rfl, nb, nr, hv⟩
theorem p_adjust {pr : aC} {D L : Nat} {xs : Nat → Int32} {u : cS} {r : rS} {nb nr : Nat} (hJ : J u r nb nr) (i a b : Int32) : pX (aRun pg pr (D + 50)) L xs 127 214 0 0 [.int i, .int a, .int b] u r := by
  have hn := hJ.nr
  refine l_w (j_adjust hJ i a b (fun f => ⟨_, u, rfl, rfl, l_r (r_adjust i a b nr hJ.hr.2.1 (by have := hJ.nr; omega) (fun _ => ⟨rfl, nb, nr, hJ⟩) (fun h i' _ _ => ?_))⟩) (fun g ii v g1 g2 hv => ⟨_, v, rfl, rfl, l_r (r_adjust i a b nr hJ.hr.2.1 (by have := hJ.nr; omega) (fun f => ?_) (fun _ i' h1 h2 => ?_))⟩))
  · rw [h] at f
    cases f
  · rw [g] at f
    cases f
  · have e1 : i' = ii := nIi (by omega) (by omega) (h2.symm.trans g2)
    subst e1
    exact ⟨rfl, nb, nr, hv⟩
theorem p_call {pr : aC} {D L : Nat} {xs : Nat → Int32} {u : cS} {r : rS} {nb nr : Nat} (hJ : J u r nb nr) (t c : Int32) : pX (aRun pg pr (D + 50)) L xs 113 185 1 12 [.int t, .int c] u r := by
  have hn := hJ.nr
  refine l_w (j_call hJ t c (fun f => ⟨_, u, rfl, rfl, l_r (r_call t c nb nr hJ.rok hJ.hr.2.1 (by omega) (fun _ => ⟨rfl, nb, nr, hJ⟩) (fun t' v h1 h2 h3 h4 => absurd h3 f))⟩) (fun t0 g1 g2 g3 => ⟨fun z g4 g5 hz => ⟨_, z, rfl, rfl, l_r (r_call t c nb nr hJ.rok hJ.hr.2.1 (by omega) (fun f => absurd g3 f) (fun t' v h1 h2 h3 h4 => ?_))⟩, fun z i g4 g5 hz => ⟨_, z, rfl, rfl, l_r (r_call t c nb nr hJ.rok hJ.hr.2.1 (by omega) (fun f => absurd g3 f) (fun t' v h1 h2 h3 h4 => ?_))⟩, fun z g4 g5 hz => ⟨_, z, rfl, rfl, l_r (r_call t c nb nr hJ.rok hJ.hr.2.1 (by omega) (fun f => absurd g3 f) (fun t' v h1 h2 h3 h4 => ?_))⟩⟩))
  · have e1 : t' = t0 := nIi (by omega) (by omega) (h2.symm.trans g2)
    subst e1
    rw [called_cf h4]
    exact ⟨fun _ _ w hw => ⟨rfl, nb, nr + 1, hz v w h4 hw⟩, fun i hi => absurd (g4.symm.trans hi) (by simp), fun hno => absurd ⟨g4, g5⟩ hno⟩
  · have e1 : t' = t0 := nIi (by omega) (by omega) (h2.symm.trans g2)
    subst e1
    rw [called_cf h4]
    exact ⟨fun hi => absurd (hi.symm.trans g4) (by simp), fun i' hi' hd w w1 w2 w3 => ⟨rfl, nb, nr, hz v w h4 w1 w2 w3⟩, fun _ hno => absurd g5 (hno i g4)⟩
  · have e1 : t' = t0 := nIi (by omega) (by omega) (h2.symm.trans g2)
    subst e1
    rw [called_cf h4]
    exact ⟨fun a b => absurd ⟨a, b⟩ g4, fun i' hi' hd => absurd hd (g5 i' hi'), fun _ _ => ⟨rfl, nb, nr, hz v h4⟩⟩
theorem p_play {pr : aC} {D L : Nat} {xs : Nat → Int32} {u : cS} {r : rS} {nb nr : Nat} (hJ : J u r nb nr) (t c : Int32) : pX (aRun pg pr (D + 50)) L xs 114 193 1 12 [.int t, .int c] u r := by
  have hn := hJ.nr
  refine l_w (j_play hJ t c (fun f => ⟨_, u, rfl, rfl, l_r (r_play t c nb nr hJ.rok hJ.hr.2.1 (by omega) (fun _ r1 hs => ⟨rfl, nb, nr, hJ.oe (onE_rf u) hs⟩) (fun t' v h1 h2 h3 h4 => absurd h3 f))⟩) (fun t0 g1 g2 g3 => ⟨fun z g4 hz => ⟨_, z, rfl, rfl, l_r (r_play t c nb nr hJ.rok hJ.hr.2.1 (by omega) (fun f => absurd g3 f) (fun t' v h1 h2 h3 h4 => ?_))⟩, fun z g4 g5 hz => ⟨_, z, rfl, rfl, l_r (r_play t c nb nr hJ.rok hJ.hr.2.1 (by omega) (fun f => absurd g3 f) (fun t' v h1 h2 h3 h4 => ?_))⟩, fun z g4 hz => ⟨_, z, rfl, rfl, l_r (r_play t c nb nr hJ.rok hJ.hr.2.1 (by omega) (fun f => absurd g3 f) (fun t' v h1 h2 h3 h4 => ?_))⟩⟩))
  · have e1 : t' = t0 := nIi (by omega) (by omega) (h2.symm.trans g2)
    subst e1
    exact ⟨fun _ => ⟨rfl, nb, nr, hz v h4⟩, fun h => absurd h g4, fun h => absurd (show (mC r t' + 1) % 4 = 0 by omega) g4⟩
  · have e1 : t' = t0 := nIi (by omega) (by omega) (h2.symm.trans g2)
    subst e1
    exact ⟨fun h => absurd g4 h, fun _ _ => ⟨rfl, nb, nr, hz v h4⟩, fun h => absurd h (by omega)⟩
  · have e1 : t' = t0 := nIi (by omega) (by omega) (h2.symm.trans g2)
    subst e1
    exact ⟨fun h => absurd (show (mC r t' + 1) % 4 = 0 by omega) h, fun _ h => absurd h (by omega), fun _ v1 w hs hw => ⟨rfl, nb, nr + 1, hz v v1 w h4 hs hw⟩⟩
