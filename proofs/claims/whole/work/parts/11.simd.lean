/-! ===== the AM's calls are the machine's; the whole method ===== -/
theorem aObjB : Cond.instanceMethod objectInit ∈ lw_tbl ∧ Cond.code objectInit ⟨#[0xb1]⟩ 1 none ∈ lw_tbl := by decide +kernel
section SIM
variable {G : aG} {pq : Nat → Option aM} {p : Program} {l : Launch} {e : Env} {R : Room} {s : State} {m : MethodId} {args : Array Value} {below : List Frame} {meth : Method} {c : Code} {mi : aM} {Q' : State → Prop}
variable {cl : aC} {C S d : Nat} {rt : Option FieldType} {ini : Bool} {Q : aQ}
def aOk (pq : Nat → Option aM) : Prop := ∀ j mj, pq j = some mj → ∃ w1 w2 w3 w4, mChk pq mj w1 w2 w3 w4 = true
def aIH (G : aG) (l : Launch) (pq : Nat → Option aM) (cl : aC) (d : Nat) : Prop := ∀ j mj as h mc ms Q, pq j = some mj → cl j as h mc ms Q → aMet G l mj d as h mc ms Q
theorem mChk_spec {mj : aM} {w1 w2 w3 w4 : Nat} (h : mChk pq mj w1 w2 w3 w4 = true) : Cond.code mj.y mj.bs mj.nL mj.rt ∈ lw_good ∧ (mj.sta = true → Cond.static mj.y ∈ lw_good) ∧ (mj.sta = false → Cond.instanceMethod mj.y ∈ lw_good) ∧ (mj.sta = false → mj.ini = false → mj.y.cls ≠ RJ5 → Cond.selects mj.y.cls mj.y mj.y ∈ lw_good) ∧ Cond.initialized mj.y.cls ∈ lw_good ∧ aPc mj.cd 0 = 0 ∧ plainFor mj.y = true ∧ mj.own = mj.y.cls ∧ ∀ k e, mj.cd[k]? = some e → eChk pq mj k e = true := by
  simp only [mChk, Bool.and_eq_true, Bool.or_eq_true, decide_eq_true_eq] at h
  obtain ⟨⟨⟨⟨⟨⟨⟨h1, h2⟩, h3⟩, h4⟩, h5⟩, h6⟩, h7⟩, h8⟩ := h
  refine ⟨wIs_in h1, fun q => ?_, fun q => ?_, fun q1 q2 q3 => ?_, wIs_in h4, h5, h6, h7, fun k e hk => ?_⟩
  · rw [if_pos q] at h2; exact wIs_in h2
  · rw [if_neg (by rw [q]; decide)] at h2; exact wIs_in h2
  · rcases h3 with ((z | z) | z) | z
    · rw [q1] at z; cases z
    · rw [q2] at z; cases z
    · exact absurd z q3
    · exact wIs_in z
  · have h9 := List.all_eq_true.mp h8 (e, k) (List.mem_zipIdx_iff_getElem?.mpr hk)
    exact h9
theorem aGood (ws : List Cond) (hw : ∀ w ∈ ws, w ∈ lw_good) : GoodIn lw_good ws := fun w h => lw_good_all w (hw w h)
theorem aWs_in {mj : aM} (h : Cond.code mj.y mj.bs mj.nL mj.rt ∈ lw_good) : ∀ w ∈ aWs mj, w ∈ lw_good := by
  intro w hw
  rcases List.mem_cons.mp hw with rfl | hw
  · exact h
  · exact hw
theorem aCallK {H : Heap} {locs : List Loc} {cells slots mc ms pc : Nat} {ls : Array Slot} {st0 rest : List Value} {a : Array Value} {Q0 : aQ} (hr : va_Run p l e R s m args below meth c H locs cells slots mc ms (F0 m pc ls st0) rest (aPost G Q0 a) (fun q => G.1.heap.size ≤ q)) (hq : ∀ q ∈ locs, G.1.heap.size ≤ q.base)
    (kk : ∀ (r : Option Value) (h : aH) (H1 : Heap) (locs1 : List Loc), aHp G H1 h → Q0 r h → (∀ q ∈ locs1, G.1.heap.size ≤ q.base) → W p l e R s m args below meth c H1 locs1 (cells + mc) (slots + ms) Q' (F0 m (pc + 3) ls ((r.toList).map (up G) ++ rest))) : W p l e R s m args below meth c H locs cells slots Q' (F0 m pc ls st0) := by
  intro T hT X
  obtain ⟨v, st₀, t, T', L, h0, X', hL, e1, e2, ⟨r, h, hv, hH, hV, hQ⟩, st⟩ := hr T hT X
  have hv : v = r.map (up G) := by injection hv
  subst hv
  obtain ⟨t2, a1, b1⟩ := kk r h T'.heap (locs ++ L) (by rw [e1]; exact hH) hQ (fun q hm => by
    rcases List.mem_append.mp hm with h1 | h1
    · exact hq q h1
    · exact hL q h1) T' rfl X'
  refine ⟨t2, st t2 ?_, b1⟩
  have e3 : (r.map (up G)).toList = r.toList.map (up G) := by cases r <;> rfl
  rw [e3]
  exact a1
theorem cChk_spec {mj : aM} {n : Nat} (h : cChk mj n = true) : aNp mj.y = some n ∧ mj.y.cls ≠ "java/lang/invoke/MethodHandle" ∧ mj.y.cls ≠ "java/lang/invoke/VarHandle" ∧ mj.nL ≤ 30 := by
  simp only [cChk, Bool.and_eq_true, decide_eq_true_eq] at h
  exact ⟨h.1.1.1.1, h.1.1.1.2, h.1.1.2, h.1.2⟩
theorem aRm_ok {mj : aM} {n mc ms : Nat} (h : cChk mj n = true) : (aRm d mc ms).frames + 1 ≤ (aRm (d + 1) C S).frames ∧ 8 + (mj.nL + 11) + (aRm d mc ms).locals ≤ (aRm (d + 1) C S).locals := by
  have h1 := (cChk_spec h).2.2.2
  show d + 1 ≤ d + 1 ∧ 8 + (mj.nL + 11) + 60 * d ≤ 60 * (d + 1)
  omega
theorem sm_44 (X : aCtx G pq p s m args meth c mi) (hok : aOk pq) (ih : aIH G l pq cl d) : aRul cl mi.cd C S rt ini Q (aW G p l e (aRm (d + 1) C S) s m args below meth c mi Q') 44 := by
  intro k i x n as st mc ms lo h c1 s1 hg hi hn hcat hc hs hcl H ls locs hH hl hq
  obtain ⟨j, rfl⟩ := hi
  obtain ⟨hd, hnx, w, hk⟩ := X.go hg rfl rfl
  simp only [lChk] at hk
  split at hk
  · rename_i mj hmj
    simp only [Bool.and_eq_true, Bool.not_eq_true'] at hk
    obtain ⟨⟨⟨k1, k2⟩, k3⟩, k4⟩ := hk
    obtain ⟨w1, w2, w3, w4, hm⟩ := hok x mj hmj
    obtain ⟨m1, m2, m3, m4, m5, -, -, -, -⟩ := mChk_spec hm
    have hM := ih x mj as h mc ms _ hmj hcl
    have hC := cChk_spec k2
    have hT : GoodIn lw_good (va_wsS mi.own j mj.y (aWs mj)) := aGood _ (fun w hw => by
      rcases List.mem_append.mp hw with hw | hw
      · simp only [List.mem_cons, List.not_mem_nil, or_false] at hw
        rcases hw with rfl | rfl | rfl
        · exact wIs_in k1
        · exact m2 k3
        · exact m5
      · exact aWs_in m1 w hw)
    refine aCallK (va_runS (As := as.map (up G)) (rest := st.map (up G)) (n := n) ⟨X.1, X.2.1, X.2.2.1, X.own, X.ts⟩ hM (va_cwS n X.ts hT rfl rfl rfl ⟨hC.2.1, hC.2.2.1, hC.1⟩ (aRm_ok k2)) ⟨aPre_blind as h, fun U hU hW => ⟨rfl, by rw [hU]; exact hH, X.2.2.2.2.2.2.2.2.1.warm hW⟩⟩ rfl (by rw [List.length_map]; exact hn) hl.1 (by rw [List.map_append, List.map_reverse]) (lv_room (by rw [up_cats]; exact hcat)) hd ⟨hc, hs⟩) hq ?_
    intro r h' H1 locs1 hH1 hP1 hq1
    have K := hP1 H1 ls locs1 hH1 hl hq1
    rw [hnx, List.map_append] at K
    exact K
  · cases hk
theorem aNoJ5 : ∀ (ci : Nat) {q : vw_C}, aCls[ci]? = some q → q.1 ≠ RJ5
  | 0, _, h => by cases h; decide
  | 1, _, h => by cases h; decide
  | 2, _, h => by cases h; decide
  | 3, _, h => by cases h; decide
  | 4, _, h => by cases h; decide
  | 5, _, h => by cases h; decide
  | 6, _, h => by cases h; decide
  | 7, _, h => by cases h; decide
  | 8, _, h => by cases h; decide
  | _ + 9, _, h => by simp [aCls, vwCl] at h
theorem sm_45 (X : aCtx G pq p s m args meth c mi) (hok : aOk pq) (ih : aIH G l pq cl d) : aRul cl mi.cd C S rt ini Q (aW G p l e (aRm (d + 1) C S) s m args below meth c mi Q') 45 := by
  intro k i x n a as st mc ms ci fs lo h c1 s1 hg hi hn16 hn h16 hlt he hcat hc hs hcl H ls locs hH hl hq
  obtain ⟨j, rfl⟩ := hi
  obtain ⟨hd, hnx, w, hk⟩ := X.go hg rfl rfl
  simp only [lChk] at hk
  split at hk
  · rename_i mj hmj
    simp only [Bool.and_eq_true, Bool.or_eq_true, Bool.not_eq_true', decide_eq_true_eq] at hk
    obtain ⟨⟨⟨⟨k1, k2⟩, k3⟩, k4⟩, k5⟩ := hk
    obtain ⟨w1, w2, w3, w4, hm⟩ := hok x mj hmj
    obtain ⟨m1, m2, m3, m4, m5, -, -, -, -⟩ := mChk_spec hm
    have hM := ih x mj (.ref a :: as) h mc ms _ hmj hcl
    have e1 : (n + 16 * ci) % 16 = n := by omega
    have e2 : (n + 16 * ci) / 16 = ci := by omega
    rw [e1] at k2
    rw [e2] at k5
    have hC := cChk_spec k2
    obtain ⟨r, hr, cell, g1, g2, g3, g4⟩ := hH.at h16 hlt he
    have hr' : aCls[ci]? = some r := hr
    have kk : ∀ (r : Option Value) (h : aH) (H1 : Heap) (locs1 : List Loc), aHp G H1 h → aW G p l e (aRm (d + 1) C S) s m args below meth c mi Q' (k + 1) lo (r.toList ++ st) h (c1 + mc) (s1 + ms) → (∀ q ∈ locs1, G.1.heap.size ≤ q.base) → W p l e (aRm (d + 1) C S) s m args below meth c H1 locs1 (c1 + mc) (s1 + ms) Q' (F0 m (aPc mi.cd k + 3) ls ((r.toList).map (up G) ++ st.map (up G))) := by
      intro r h' H1 locs1 hH1 hP1 hq1
      have K := hP1 H1 ls locs1 hH1 hl hq1
      rw [hnx, List.map_append] at K
      exact K
    rcases k5 with (k5 | k5) | k5
    · rw [hr'] at k5
      have hcn : r.1 = mj.y.cls := Option.some.inj k5
      have hT : GoodIn lw_good (wsV mi.own j mj.y.cls mj.y (aWs mj)) := aGood _ (fun w hw => by
        rcases List.mem_append.mp hw with hw | hw
        · simp only [List.mem_cons, List.not_mem_nil, or_false] at hw
          rcases hw with rfl | rfl | rfl | rfl
          · exact wIs_in k1
          · exact m3 k3
          · exact m4 k3 k4 (by rw [← hcn]; exact aNoJ5 ci hr')
          · exact m5
        · exact aWs_in m1 w hw)
      exact aCallK (va_runV (As := as.map (up G)) (b := ad G a) (rest := st.map (up G)) (n := n) ⟨X.1, X.2.1, X.2.2.1, X.own, X.ts⟩ hM (cwV n X.ts hT rfl rfl rfl ⟨rfl, hC.2.1, hC.2.2.1, hC.1⟩ (aRm_ok k2)) ⟨aPre_blind _ h, ⟨cell, g1, by rw [g3]; rfl, by rw [g2, ← hcn]; exact (X.K.1 ci r hr').2.1⟩, fun U hU hW => ⟨rfl, by rw [hU]; exact hH, X.2.2.2.2.2.2.2.2.1.warm hW⟩⟩ rfl (by rw [List.length_map]; exact hn) hl.1 (by rw [List.map_append, List.map_reverse]; rfl) (lv_room (by rw [up_cats]; exact hcat)) hd ⟨hc, hs⟩) hq kk
    · rw [k5.1] at hr'
      cases hr'
    · obtain ⟨⟨⟨k6, k7⟩, k8⟩, k9⟩ := k5
      subst k6
      have hrn : r.1 = RJ4 := by cases hr'; rfl
      have hT : GoodIn lw_good (va_wsU mi.own j RJ4 RJ5 mj.y mj.y (aWs mj)) := aGood _ (fun w hw => by
        rcases List.mem_append.mp hw with hw | hw
        · simp only [List.mem_cons, List.not_mem_nil, or_false] at hw
          rcases hw with rfl | rfl | rfl | rfl | rfl
          · exact wIs_in k1
          · rw [k7]; exact inOk_in k8
          · exact inOk_in k9
          · exact m3 k3
          · exact m5
        · exact aWs_in m1 w hw)
      exact aCallK (va_runU (As := as.map (up G)) (b := ad G a) (rest := st.map (up G)) (n := n) ⟨X.1, X.2.1, X.2.2.1, X.own, X.ts⟩ hM (va_cwU n X.ts hT rfl rfl rfl (by rw [← k7]) ⟨by rw [← k7]; exact hC.2.1, by rw [← k7]; exact hC.2.2.1, hC.1⟩ (aRm_ok k2)) ⟨aPre_blind _ h, ⟨cell, g1, by rw [g3]; rfl, by rw [g2, ← hrn]; exact (X.K.1 0 r hr').2.1⟩, fun U hU hW => ⟨rfl, by rw [hU]; exact hH, X.2.2.2.2.2.2.2.2.1.warm hW⟩⟩ rfl (by rw [List.length_map]; exact hn) hl.1 (by rw [List.map_append, List.map_reverse]; rfl) (lv_room (by rw [up_cats]; exact hcat)) hd ⟨hc, hs⟩) hq kk
  · cases hk
theorem sm_51 (X : aCtx G pq p s m args meth c mi) (hok : aOk pq) (ih : aIH G l pq cl d) : aRul cl mi.cd C S rt ini Q (aW G p l e (aRm (d + 1) C S) s m args below meth c mi Q') 51 := by
  intro k i x n a as st mc ms fs lo h c1 s1 hg hi hn16 hn h16 he hcat hc hs hcl H ls locs hH hl hq
  obtain ⟨j, rfl⟩ := hi
  obtain ⟨hd, hnx, w, hk⟩ := X.go hg rfl rfl
  simp only [lChk] at hk
  split at hk
  · rename_i mj hmj
    simp only [Bool.and_eq_true, Bool.or_eq_true, Bool.not_eq_true', decide_eq_true_eq] at hk
    obtain ⟨⟨⟨⟨k1, k2⟩, k3⟩, k4⟩, k5⟩ := hk
    obtain ⟨w1, w2, w3, w4, hm⟩ := hok x mj hmj
    obtain ⟨m1, m2, m3, m4, m5, -, -, -, -⟩ := mChk_spec hm
    have hM := ih x mj (.ref a :: as) h mc ms _ hmj hcl
    have e1 : (n + 16 * 9) % 16 = n := by omega
    have e2 : (n + 16 * 9) / 16 = 9 := by omega
    rw [e1] at k2
    rw [e2] at k5
    have hC := cChk_spec k2
    obtain ⟨hO, -⟩ := hH.2.2.2.2.2 a fs h16 he
    obtain ⟨cell, g1, g2, g3, g4⟩ := hO.moved X.alike
    have ea : ad G a = G.2.1 a := ad_lo h16
    rcases k5 with (k5 | k5) | k5
    · cases k5
    · have hcn := k5.2
      have hT : GoodIn lw_good (wsV mi.own j mj.y.cls mj.y (aWs mj)) := aGood _ (fun w hw => by
        rcases List.mem_append.mp hw with hw | hw
        · simp only [List.mem_cons, List.not_mem_nil, or_false] at hw
          rcases hw with rfl | rfl | rfl | rfl
          · exact wIs_in k1
          · exact m3 k3
          · exact m4 k3 k4 (by rw [hcn]; decide)
          · exact m5
        · exact aWs_in m1 w hw)
      refine aCallK (va_runV (As := as.map (up G)) (b := ad G a) (rest := st.map (up G)) (n := n) ⟨X.1, X.2.1, X.2.2.1, X.own, X.ts⟩ hM (cwV n X.ts hT rfl rfl rfl ⟨rfl, hC.2.1, hC.2.2.1, hC.1⟩ (aRm_ok k2)) ⟨aPre_blind _ h, ⟨cell, by rw [ea, hH.2.2.1 _ (Array.getElem?_eq_some_iff.mp g1).1]; exact g1, g2, by rw [hcn]; exact g3⟩, fun U hU hW => ⟨rfl, by rw [hU]; exact hH, X.2.2.2.2.2.2.2.2.1.warm hW⟩⟩ rfl (by rw [List.length_map]; exact hn) hl.1 (by rw [List.map_append, List.map_reverse]; rfl) (lv_room (by rw [up_cats]; exact hcat)) hd ⟨hc, hs⟩) hq ?_
      intro r h' H1 locs1 hH1 hP1 hq1
      have K := hP1 H1 ls locs1 hH1 hl hq1
      rw [hnx, List.map_append] at K
      exact K
    · exact absurd k5.1.1.1 (by decide)
  · cases hk
theorem sm_52 (X : aCtx G pq p s m args meth c mi) (hok : aOk pq) (ih : aIH G l pq cl d) : aRul cl mi.cd C S rt ini Q (aW G p l e (aRm (d + 1) C S) s m args below meth c mi Q') 52 := by
  intro k i x n a as st mc ms fs lo h c1 s1 hg hi hx hn h16 hlt he hcat hc hs hcl H ls locs hH hl hq
  obtain ⟨j, rfl⟩ := hi
  obtain ⟨hd, hnx, w, hk⟩ := X.go hg rfl rfl
  simp only [lChk] at hk
  rw [if_neg (by omega), if_pos (by omega)] at hk
  split at hk
  · rename_i mj hmj
    simp only [Bool.and_eq_true, Bool.not_eq_true', decide_eq_true_eq] at hk
    obtain ⟨⟨⟨⟨⟨⟨⟨k1, k2⟩, k3⟩, k4⟩, k5⟩, k6⟩, k7⟩, k8⟩ := hk
    obtain ⟨w1, w2, w3, w4, hm⟩ := hok x mj hmj
    obtain ⟨m1, m2, m3, m4, m5, -, -, -, -⟩ := mChk_spec hm
    have hM := ih x mj (.ref a :: as) h mc ms _ hmj hcl
    rw [show n + 1000 - 1000 = n by omega] at k2
    have hC := cChk_spec k2
    obtain ⟨r, hr, cell, g1, g2, g3, g4⟩ := hH.at h16 hlt he
    have hr' : aCls[0]? = some r := hr
    have hrn : r.1 = RJ4 := by cases hr'; rfl
    have hname : mj.y.name ≠ "<init>" := by
      intro z
      have := k3
      unfold aM.ini at this
      have z2 : mj.2.1.name = "<init>" := z
      rw [z2] at this
      exact absurd this (by decide)
    obtain ⟨-, hfc, kC, hkC, hkd⟩ := X.K.1 0 r hr'
    have hT : GoodIn lw_good (va_wsSU mi.own j mj.y (aWs mj)) := aGood _ (fun w hw => by
      rcases List.mem_append.mp hw with hw | hw
      · simp only [List.mem_cons, List.not_mem_nil, or_false] at hw
        rcases hw with rfl | rfl | rfl | rfl | rfl
        · exact wIs_in k1
        · rw [k5]; exact inOk_in k7
        · rw [k5, k6]; exact inOk_in k8
        · exact m3 k4
        · exact m5
      · exact aWs_in m1 w hw)
    refine aCallK (va_runSU (C := r.1) (As := as.map (up G)) (b := ad G a) (rest := st.map (up G)) (n := n) ⟨hfc, kC, hkC, hkd⟩ ⟨X.1, X.2.1, X.2.2.1, X.own, X.ts⟩ hM (va_cwSU n X.ts hT rfl rfl rfl ⟨hname, hC.1⟩ (aRm_ok k2)) ⟨aPre_blind _ h, ⟨cell, g1, by rw [g3]; rfl, by rw [g2]; exact hfc⟩, fun U hU hW => ⟨rfl, by rw [hU]; exact hH, X.2.2.2.2.2.2.2.2.1.warm hW⟩⟩ rfl (by rw [List.length_map]; exact hn) hl.1 (by rw [List.map_append, List.map_reverse]; rfl) (lv_room (by rw [up_cats]; exact hcat)) hd ⟨hc, hs⟩) hq ?_
    intro r h' H1 locs1 hH1 hP1 hq1
    have K := hP1 H1 ls locs1 hH1 hl hq1
    rw [hnx, List.map_append] at K
    exact K
  · cases hk
theorem sm_53 (X : aCtx G pq p s m args meth c mi) : aRul cl mi.cd C S rt ini Q (aW G p l e (aRm (d + 1) C S) s m args below meth c mi Q') 53 := by
  intro k x y a b na nb f g n lo st h c1 s1 hg hb16 heb h16 hlt he hcat hn dp hdp hna hnb hfit hP H ls locs hH hl hq
  obtain ⟨len, w, hk⟩ := aGet_at hg
  have h0 := X.2.2.2.2.2.2.2.2.2.1 k _ hk
  simp only [eChk, Bool.and_eq_true, decide_eq_true_eq] at h0
  obtain ⟨⟨⟨⟨⟨hd, hnx⟩, k1⟩, k2⟩, k3⟩, k4⟩ := h0
  have hcst := hH.2.2.2.2.1 b _ hb16 heb
  rw [heb] at hcst
  have hX : va_T .byte (G.2.1 b) nb (fun j => .int (f j)) (aOld G) s G.1.heap := va_T.moved X.alike hcst
  have hat := hH.at h16 hlt he
  obtain ⟨scr, hs1, hs2, hs3, hs4, hs4', hs5, hs7⟩ := hX
  have hc0 : H[G.2.1 b]? = some scr := by rw [hH.2.2.1 _ (Array.getElem?_eq_some_iff.mp hs1).1]; exact hs1
  have hc1 : H[ad G a]? = some (vp_cell (G.2.2.1 2) (na, .inl g)) := hat
  obtain ⟨hs6, k0, hk0, cm0, hkk0⟩ := hs2
  obtain ⟨-, k1', hk1', cm1, hkk1⟩ := (X.K.2 2 _ (aTys_at G (by decide))).1 na (fun j => .int (g j))
  have ez : (nI n).toNatClampNeg = n := nI_clamp (by omega)
  have ed : (nI dp).toNatClampNeg = dp := nI_clamp (by omega)
  have z0 : (0 : Int32).toNatClampNeg = 0 := by decide
  intro T hT XT
  obtain ⟨vm', X', step⟩ := XT.arraycopy X.1 X.own (X.ts _ (wIs_in k1)) (X.ts _ (inOk_in k2)) (X.ts _ (inOk_in k3)) (X.ts _ (inOk_in k4)) (src := G.2.1 b) (dst := ad G a) (cs := scr) (cd := vp_cell (G.2.2.1 2) (na, .inl g)) (srcPos := 0) (destPos := nI dp) (n := nI n) (by rw [hT]; exact hc0) (by rw [hT]; exact hc1)
    hs6 (fun _ h => by cases h) hs3 (fun h => by cases h) hk0 hk1' hkk0 hkk1 (by simp [refKind, aTy]) (by decide) (nI_pos (by omega)) (nI_pos (by omega))
    (by rw [nI_toInt (by omega)]; simp; omega)
    (by rw [nI_toInt (by omega), nI_toInt (by omega)]; show ¬ _ > ((arrV _ na (fun j => .int (g j))).slots.size : Int); rw [arrV_size]; omega)
    (fun vm₁ _ i hi => by
      rw [ez] at hi
      have e : scr.slots.getD ((0 : Int32).toNatClampNeg + i) .null = .int (f i) := by
        rw [Array.getD_eq_getD_getElem?, z0, Nat.zero_add, hs5 _ (by omega)]
        rfl
      refine ⟨?_, ?_⟩
      · rw [e]
        exact hfit i hi
      · rw [e]
        exact trivial)
    (g := F0 m (aPc mi.cd k) ls (.int (nI n) :: .int (nI dp) :: .ref (ad G a) :: .int 0 :: .ref (G.2.1 b) :: st.map (up G))) rfl (by rw [X.2.2.1]; exact hl.1) (rest := st.map (up G)) rfl (by rw [X.2.1]; exact hd) (by show 1 ≤ d + 1; omega) (by
      have h1 : (List.map (fun v => Value.category v) (List.map (up G) st)).sum = aCat st := up_cats G st
      have h2 : nativeFrameWords "java/lang/System" "arraycopy" 5 ≤ 40 := by decide
      show 2 * 0 + (List.map (fun v => Value.category v) (List.map (up G) st)).sum + (nativeFrameWords "java/lang/System" "arraycopy" 5 + 11) ≤ 60 * (d + 1)
      omega)
  have e1 : copied scr (vp_cell (G.2.2.1 2) (na, .inl g)) 0 (nI dp) (nI n) = vp_cell (G.2.2.1 2) (na, .inl (va_cpy f g 0 dp n)) := by
    have := va_copiedX (fun z => Value.int z) scr (G.2.2.1 2) (n0 := nb) (n1 := na) (n := (nI n).toNatClampNeg) (sp := (0 : Int32).toNatClampNeg) (dp := (nI dp).toNatClampNeg) f g hs5 (by rw [z0, ez]; omega)
    rw [z0, ez, ed] at this
    refine Eq.trans ?_ this
    show _ = (arrV _ na (fun j => .int (g j))).storeRun dp (scr.stretch 0 n)
    unfold copied
    rw [z0, ez, ed]
    rfl
  rw [e1] at X' step
  have hlA : ad G a < H.size := (Array.getElem?_eq_some_iff.mp hc1).1
  have hheap : ((T.setVm vm').setCell (ad G a) (vp_cell (G.2.2.1 2) (na, .inl (va_cpy f g 0 dp n)))).heap = H.setIfInBounds (ad G a) (vp_cell (G.2.2.1 2) (na, .inl (va_cpy f g 0 dp n))) := by rw [← hT]; rfl
  have oq : ∀ q : Nat, q ≠ ad G a → (H.setIfInBounds (ad G a) (vp_cell (G.2.2.1 2) (na, .inl (va_cpy f g 0 dp n))))[q]? = H[q]? := fun q hq => by simp [Array.getElem?_setIfInBounds, Ne.symm hq]
  have K := fun locs1 hq1 => hP (H.setIfInBounds (ad G a) (vp_cell (G.2.2.1 2) (na, .inl (va_cpy f g 0 dp n)))) ls locs1 (hH.put h16 hlt (by simp) oq (show (H.setIfInBounds (ad G a) (vp_cell (G.2.2.1 2) (na, .inl (va_cpy f g 0 dp n))))[ad G a]? = some (vp_cell (G.2.2.1 2) (na, .inl (va_cpy f g 0 dp n))) by simp [Array.getElem?_setIfInBounds, hlA])) hl hq1
  rw [hnx] at K
  obtain ⟨t, a1, b1⟩ := K _ (fun q hq2 => by
    rcases List.mem_append.mp hq2 with hh | hh
    · exact hq q hh
    · obtain ⟨z, -, hz⟩ := List.mem_map.mp hh
      rw [← hz]
      show _ ≤ ad G a
      rw [ad_hi h16]; omega) _ hheap X'
  refine ⟨t, ?_, b1⟩
  rw [show List.map (up G) (Value.int (nI n) :: Value.int (nI dp) :: Value.ref a :: Value.int 0 :: Value.ref b :: st) = (.int (nI n) :: .int (nI dp) :: .ref (ad G a) :: .int 0 :: .ref (G.2.1 b) :: st.map (up G)) by
    simp only [List.map_cons, up]; rw [ad_lo hb16]]
  exact step t a1
theorem sm_46 (X : aCtx G pq p s m args meth c mi) (hok : aOk pq) (ih : aIH G l pq cl d) : aRul cl mi.cd C S rt ini Q (aW G p l e (aRm (d + 1) C S) s m args below meth c mi Q') 46 := by
  intro k i x n a as st mc ms lo h c1 s1 hg hi hx hn16 hn hcat hc hs hcl H ls locs hH hl hq
  obtain ⟨j, rfl⟩ := hi
  obtain ⟨hd, hnx, w, hk⟩ := X.go hg rfl rfl
  simp only [lChk] at hk
  rw [if_neg (by omega), if_neg (by omega)] at hk
  split at hk
  · rename_i mj hmj
    simp only [Bool.and_eq_true, decide_eq_true_eq, Bool.not_eq_true'] at hk
    obtain ⟨⟨⟨⟨k1, k2⟩, k3⟩, k4⟩, hsta⟩ := hk
    obtain ⟨w1, w2, w3, w4, hm⟩ := hok x mj hmj
    obtain ⟨m1, m2, m3, m4, m5, -, -, -, -⟩ := mChk_spec hm
    have hM := ih x mj (.ref a :: as) h mc ms _ hmj hcl
    have hC := cChk_spec k2
    have hname : mj.y.name = "<init>" := by
      have := k3
      unfold aM.ini at this
      exact eq_of_beq this
    have hws : aWs mj = Cond.code mj.y mj.bs mj.nL none :: lw_good := by unfold aWs; rw [k4]
    have kk : ∀ (r : Option Value) (h : aH) (H1 : Heap) (locs1 : List Loc), aHp G H1 h → aW G p l e (aRm (d + 1) C S) s m args below meth c mi Q' (k + 1) lo (r.toList ++ st) h (c1 + mc) (s1 + ms) → (∀ q ∈ locs1, G.1.heap.size ≤ q.base) → W p l e (aRm (d + 1) C S) s m args below meth c H1 locs1 (c1 + mc) (s1 + ms) Q' (F0 m (aPc mi.cd k + 3) ls ((r.toList).map (up G) ++ st.map (up G))) := by
      intro r h' H1 locs1 hH1 hP1 hq1
      have K := hP1 H1 ls locs1 hH1 hl hq1
      rw [hnx, List.map_append] at K
      exact K
    by_cases hw : w < 10000
    · rw [if_pos hw] at k1
      exact aCallK (va_runI (As := as.map (up G)) (b := ad G a) (rest := st.map (up G)) (n := n) ⟨X.1, X.2.1, X.2.2.1, X.own, X.ts⟩ hM (cwI n X.ts (aGood _ (aWs_in m1)) hws rfl rfl (X.ts _ m5) (X.ts _ (wIs_in k1)) (X.ts _ (m3 hsta)) hname ⟨hC.2.1, hC.2.2.1, hC.1⟩ (aRm_ok k2)) ⟨aPre_blind _ h, fun U hU hW => ⟨rfl, by rw [hU]; exact hH, X.2.2.2.2.2.2.2.2.1.warm hW⟩⟩ rfl (by rw [List.length_map]; exact hn) hl.1 (by rw [List.map_append, List.map_reverse]; rfl) (lv_room (by rw [up_cats]; exact hcat)) hd ⟨hc, hs⟩) hq kk
    · rw [if_neg hw] at k1
      have k1 := of_decide_eq_true k1
      exact aCallK (va_runIN (As := as.map (up G)) (b := ad G a) (rest := st.map (up G)) (n := n) ⟨X.1, X.2.1, X.2.2.1, X.own, X.ts⟩ hM ⟨va_cnB n X.ts (aGood _ (aWs_in m1)) hws rfl rfl (X.2.2.2.2.2.2.2.2.1.2.2.1 _ k1) (X.ts _ m5) ⟨hC.2.1, hC.2.2.1, hC.1⟩ (aRm_ok k2), hname, X.ts _ (m3 hsta)⟩ ⟨aPre_blind _ h, fun U hU hW => ⟨rfl, by rw [hU]; exact hH, X.2.2.2.2.2.2.2.2.1.warm hW⟩⟩ rfl (by rw [List.length_map]; exact hn) hl.1 (by rw [List.map_append, List.map_reverse]; rfl) (lv_room (by rw [up_cats]; exact hcat)) hd ⟨hc, hs⟩) hq kk
  · cases hk
theorem sm_47 (X : aCtx G pq p s m args meth c mi) : aRul cl mi.cd C S rt ini Q (aW G p l e (aRm (d + 1) C S) s m args below meth c mi Q') 47 := by
  intro k j n a st lo h c1 s1 hg hcat hP H ls locs hH hl hq
  have K := hP H ls locs hH hl hq
  obtain ⟨hd, hnx, w, hk⟩ := X.go hg rfl rfl
  simp only [lChk] at hk
  rw [if_pos trivial] at hk
  rw [hnx] at K
  have hr : 2 * (F0 m (aPc mi.cd k) ls (List.map (up G) (Value.ref a :: st))).monitorRoom + ((st.map (up G)).map fun v => v.category).sum ≤ 8 := lv_room (by rw [up_cats]; exact hcat)
  exact W.objInit X.1 X.2.1 X.own (X.ts _ (wIs_in hk)) (X.ts _ (lw_good_in aObjB.1 rfl)) (X.ts _ (lw_good_in aObjB.2 rfl)) rfl (hl.1.trans X.2.2.1.symm) rfl hd (by show 1 ≤ d + 1; omega) (by show _ + 12 ≤ 60 * (d + 1); omega) K
end SIM
theorem aArg_sl (G : aG) : ∀ (as : List Value) (i : Nat) (v : Value), (aArg as)[i]? = some (some v) → (lg_sl (as.map (up G)))[i]? = some (Slot.val (up G v))
  | [], i, v, h => by simp [aArg] at h
  | a :: as, i, v, h => by
    have ih := aArg_sl G as
    unfold aArg at h
    unfold lg_sl
    rw [List.flatMap_cons] at h
    rw [List.map_cons, List.flatMap_cons]
    rw [up_cat]
    by_cases hc : a.category = 2
    · rw [if_pos hc] at h ⊢
      match i, h with
      | 0, h => cases h; rfl
      | 1, h => cases h
      | i + 2, h => exact ih i v h
    · rw [if_neg hc] at h ⊢
      match i, h with
      | 0, h => cases h; rfl
      | i + 1, h => exact ih i v h
theorem aArg_len (G : aG) (as : List Value) : (lg_sl (as.map (up G))).length = (aArg as).length := by
  induction as with
  | nil => rfl
  | cons a as ih =>
    unfold aArg lg_sl at *
    rw [List.map_cons, List.flatMap_cons, List.flatMap_cons, List.length_append, List.length_append, ih, up_cat]
    split <;> rfl
theorem aEnt_lv (G : aG) (as : List Value) {n : Nat} (h : (aArg as).length ≤ n) : aLv G ((lg_sl (as.map (up G)) ++ List.replicate (n - (lg_sl (as.map (up G))).length) Slot.unset).toArray) n (aEnt n as) := by
  have h1 := lv_entry (as.map (up G)) (n := n) (by rw [aArg_len]; exact h)
  refine ⟨h1.1, ?_, h1.2.1, fun i v hi => ?_⟩
  · unfold aEnt
    rw [List.length_append, List.length_replicate]; omega
  · unfold aEnt at hi
    by_cases hl : i < (aArg as).length
    · rw [List.getElem?_append_left hl] at hi
      have h2 := aArg_sl G as i v hi
      rw [List.getElem?_toArray, List.getElem?_append_left (by rw [aArg_len]; exact hl)]
      exact h2
    · rw [List.getElem?_append_right (by omega)] at hi
      have := List.mem_of_getElem? hi
      rw [List.mem_replicate] at this
      cases this.2
theorem aOfW {l : Launch} {y : MethodName} {ws ws' : List Cond} {rm : Room} {Pc : Array Value → State → Prop} {Qc : Array Value → State → Outcome → State → Prop} {mc ms : Nat} {free : Addr → Prop} {cc : ByteArray} {maxL : Nat} {ret : Option FieldType}
    (hy : plainFor y = true) (hw : ws = Cond.code y cc maxL ret :: ws')
    (body : ∀ p e s m args below meth c s₁, BodyLoose p l y (headSpec ws rm) cc maxL ret e s m args below meth c s₁ → c.maxLocals = maxL → Pc args s →
      W p l e (headSpec ws rm).room s m args below meth c s.heap [] 0 0 (MQ below Qc args s mc ms free) (entryFrame m args maxL)) : Met l y ws rm Pc Qc mc ms free := by
  refine MetFree.of_bodySF (code := cc) (maxLocals := maxL) (ret := ret) hy ?_ ?_
  · intro args s m h hn
    obtain ⟨meth, c, h1, h2, h3, h4, h5, h6, -, -⟩ := Cond.code_spec hn (atoms_spec (ws := ws) h _ (by rw [hw]; exact List.mem_cons_self))
    exact ⟨meth, c, h1, h2, h3, h4, h5, h6⟩
  · intro p e s m args below meth c s₁ B hml hP _
    have hh0 : s₁.heap = s.heap := by rw [B.state]; rfl
    obtain ⟨t, a1, o, b1, b2, b3⟩ := body p e s m args below meth c s₁ B hml hP s₁ hh0 (Stand.of_body B)
    exact ⟨t, o, a1, b1, b2, ⟨b3.1, b3.2⟩⟩
section SIM
variable {G : aG} {pq : Nat → Option aM} {l : Launch} {cl : aC} {d : Nat}
/-- a run of the AM's body is the machine's -/
theorem aSim (hok : aOk pq) (ih : aIH G l pq cl d) {j : Nat} {mj : aM} (hmj : pq j = some mj) {as : List Value} {h : aH} {mc ms : Nat} {Q : aQ} {ini : Bool} (hfit : (aArg as).length ≤ mj.nL) (hB : aB cl mj.cd mc ms mj.rt ini Q 0 (aEnt mj.nL as) [] h 0 0) : aMet G l mj (d + 1) as h mc ms Q := by
  obtain ⟨w1, w2, w3, w4, hm⟩ := hok j mj hmj
  obtain ⟨m1, m2, m3, m4, m5, m6, m7, m8, m9⟩ := mChk_spec hm
  refine aOfW (cc := mj.bs) (maxL := mj.nL) (ret := mj.rt) m7 rfl ?_
  intro p e s m args below meth c s₁ B hml hv
  obtain ⟨rfl, hH, hV⟩ := hv
  have hts := atoms_spec (ws := aWs mj) B.pre
  have hown : s.vm.findClass mj.own = some m.cls := by rw [m8]; exact findClass_of_methodNamed B.named
  have X : aCtx G pq p s m (as.map (up G)).toArray meth c mj := ⟨B.exec, B.bytes, hml, B.returns, B.notSynchronized, hown, fun q => by
    have h1 := (name_of_methodNamed B.named B.method).1
    rw [h1]
    unfold aM.ini at q
    exact eq_of_beq q, fun w hw => hts w (List.mem_cons_of_mem _ hw), hV, m9, by rw [hH.2.1]; omega⟩
  rw [lg_entry_eq]
  have K := hB (aW G p l e (headSpec (aWs mj) (aRm (d + 1) mc ms)).room s m (as.map (up G)).toArray below meth c mj (MQ below (aPost G Q) (as.map (up G)).toArray s mc ms (fun q => G.1.heap.size ≤ q))) (fun n => by
    show aRul cl mj.cd mc ms mj.rt ini Q (aW G p l e (aRm (d + 1) mc ms) s m (as.map (up G)).toArray below meth c mj (MQ below (aPost G Q) (as.map (up G)).toArray s mc ms (fun q => G.1.heap.size ≤ q))) n
    match n with
    | 0 => exact sm_0 X
    | 1 => exact sm_1 X
    | 2 => exact sm_2 X
    | 3 => exact sm_3 X
    | 4 => exact sm_4 X
    | 5 => exact sm_5 X
    | 6 => exact sm_6 X
    | 7 => exact sm_7 X
    | 8 => exact sm_8 X
    | 9 => exact sm_9 X
    | 10 => exact sm_10 X
    | 11 => exact sm_11 X
    | 12 => exact sm_12 X
    | 13 => exact sm_13 X
    | 14 => exact sm_14 X
    | 15 => exact sm_15 X
    | 16 => exact sm_16 X
    | 17 => exact sm_17 X
    | 18 => exact sm_18 X
    | 19 => exact sm_19 X
    | 20 => exact sm_20 X
    | 21 => exact sm_21 X
    | 22 => exact sm_22 X
    | 23 => exact sm_23 X
    | 24 => exact sm_24 X
    | 25 => exact sm_25 X
    | 26 => exact sm_26 X
    | 27 => exact sm_27 X
    | 28 => exact sm_28 X
    | 29 => exact sm_29 X
    | 30 => exact sm_30 X
    | 31 => exact sm_31 X
    | 32 => exact sm_32 X
    | 33 => exact sm_33 X
    | 34 => exact sm_34 X
    | 35 => exact sm_35 X
    | 36 => exact sm_36 X
    | 37 => exact sm_37 X
    | 38 => exact sm_38 X rfl rfl
    | 39 => exact sm_39 X rfl rfl
    | 40 => exact sm_40 X rfl rfl
    | 41 => exact sm_41 X
    | 42 => exact sm_42 X
    | 43 => exact sm_43 X
    | 44 => exact sm_44 X hok ih
    | 45 => exact sm_45 X hok ih
    | 46 => exact sm_46 X hok ih
    | 47 => exact sm_47 X
    | 48 => exact sm_48 X rfl
    | 49 => exact sm_49 X rfl
    | 50 => exact sm_50 X
    | 51 => exact sm_51 X hok ih
    | 52 => exact sm_52 X hok ih
    | 53 => exact sm_53 X
    | 54 => exact sm_54 X
    | _ + 55 => trivial)
  have K2 := K s.heap _ [] hH (aEnt_lv G as hfit) (fun q hq => by cases hq)
  rw [m6] at K2
  exact K2
/-- every run of the AM is the machine's -/
theorem aSimAll (hok : aOk pq) {pr : aC} (hpr : ∀ d, aIH G l pq pr d) : ∀ d, aIH G l pq (aRun pq pr d) d := by
  intro d
  induction d with
  | zero => intro j mj as h mc ms Q _ hf; exact hf.elim
  | succ d ih =>
    intro j mj as h mc ms Q hj hf
    rcases hf with hf | ⟨mi, h1, h2, h3⟩
    · exact hpr (d + 1) j mj as h mc ms Q hj hf
    · cases hj.symm.trans h1
      exact aSim hok ih hj h2 h3
end SIM
