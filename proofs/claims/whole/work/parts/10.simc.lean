/-! ===== the AM's steps are the machine's: what is made, calls, ends; and the whole method ===== -/
section SIM
variable {G : aG} {pq : Nat → Option aM} {p : Program} {l : Launch} {e : Env} {R : Room} {s : State} {m : MethodId} {args : Array Value} {below : List Frame} {meth : Method} {c : Code} {mi : aM} {Q' : State → Prop}
variable {cl : aC} {C S : Nat} {rt : Option FieldType} {ini : Bool} {Q : aQ}
theorem sm_38 (X : aCtx G pq p s m args meth c mi) (hRc : R.cells = C) (hRs : R.slots = S) : aRul cl mi.cd C S rt ini Q (aW G p l e R s m args below meth c mi Q') 38 := by
  intro k at' t y n lo st h c1 s1 hg ht hn0 hn1 hc hs hP H ls locs hH hl hq
  obtain ⟨hd, hn, w, hk⟩ := X.go hg rfl rfl
  simp only [lChk, Bool.and_eq_true, decide_eq_true_eq] at hk
  have harr : Cond.arrayClass (aTy t) ∈ lw_good := by
    have h1 := aArrB
    rcases (show t = 0 ∨ t = 1 ∨ t = 2 ∨ t = 3 by omega) with rfl | rfl | rfl | rfl
    · exact lw_good_in h1.1.1 rfl
    · exact lw_good_in h1.1.2 rfl
    · exact lw_good_in h1.2.1 rfl
    · exact lw_good_in h1.2.2 rfl
  have hcb : componentBytes (newarray.typeOf at') ≤ 8 := by rw [hk.1]; rcases (show t = 0 ∨ t = 1 ∨ t = 2 ∨ t = 3 by omega) with rfl | rfl | rfl | rfl <;> decide
  refine va_newaK X.1 X.2.1 (by rw [hk.1]; exact X.ts _ harr) rfl hd rfl hn0 rfl (Nat.le_trans (Nat.mul_le_mul hn1 hcb) (by decide)) (by rw [hRc]; exact hc) (by rw [hRs]; exact hs) rfl fun H1 cA e1 z1 o1 hAr hNm => ?_
  rw [hk.1] at e1 hNm
  have hcA : cA = G.2.2.1 t := by
    have h2 := (X.K.2 t _ (aTys_at G (by omega))).2
    rcases (show t = 0 ∨ t = 1 ∨ t = 2 ∨ t = 3 by omega) with rfl | rfl | rfl | rfl <;> exact Option.some.inj (hNm.symm.trans h2)
  subst hcA
  have K := hP H1 ls locs (hH.new z1 o1 (by
    rcases (show t = 0 ∨ t = 1 ∨ t = 2 ∨ t = 3 by omega) with rfl | rfl | rfl | rfl <;> exact e1)) hl hq
  rw [hn] at K
  rw [← hH.ref]
  exact K
theorem sm_39 (X : aCtx G pq p s m args meth c mi) (hRc : R.cells = C) (hRs : R.slots = S) : aRul cl mi.cd C S rt ini Q (aW G p l e R s m args below meth c mi Q') 39 := by
  intro k j t y n lo st h c1 s1 hg ht4 ht7 hn0 hn1 hc hs hP H ls locs hH hl hq
  obtain ⟨hd, hn, w, hk⟩ := X.go hg rfl rfl
  simp only [lChk] at hk
  split at hk
  · rename_i Cn hCn
    simp only [Bool.and_eq_true, decide_eq_true_eq] at hk
    have hov : va_AO Cn s := by
      have hv := X.2.2.2.2.2.2.2.2.1.2.2.2
      rcases (show t = 4 ∨ t = 5 ∨ t = 6 by omega) with rfl | rfl | rfl <;> cases hCn
      · exact hv.1
      · exact hv.2.1
      · exact hv.2.2.1
    refine W.anew X.1 X.2.1 X.own (X.ts _ (wIs_in hk.1.1)) (va_AO.use hov) rfl hd rfl hn0 (by omega) (by rw [hRc]; exact hc) (by rw [hRs]; exact hs) fun cA kA comp f1 f2 f3 f4 => ?_
    generalize hH1 : H.push ({ cls := cA, slots := Array.replicate n.toNatClampNeg .null, vm := .none } : Cell) = H1
    have z1 : H1.size = H.size + 1 := by rw [← hH1, Array.size_push]
    have e1 : H1[H.size]? = some (arrV cA n.toNatClampNeg (fun _ => .null)) := by rw [← hH1, Array.getElem?_push_size, ← arrV_new]
    have o1 : ∀ q : Nat, q < H.size → H1[q]? = H[q]? := fun q hq => by rw [← hH1, Array.getElem?_push, if_neg (Nat.ne_of_lt hq)]
    have hcA : cA = G.2.2.1 t := by
      have h2 := (X.K.2 t _ (aTys_at G ht7)).2
      rw [hCn] at h2
      obtain ⟨_, _, _, _, _, h3⟩ := h2
      exact Option.some.inj (f1.symm.trans h3)
    subst hcA
    have K := hP H1 ls locs (hH.new z1 o1 (by
      rcases (show t = 4 ∨ t = 5 ∨ t = 6 by omega) with rfl | rfl | rfl <;> exact e1)) hl hq
    rw [hn] at K
    rw [← hH.ref]
    exact K
  · cases hk
theorem aDef_at (G : aG) {ci : Nat} {r : vw_C} (hr : aCls[ci]? = some r) {ty : Nat → FieldType} (hty : ∀ k, k < r.2.2 → parseFieldDescriptor (r.2.1 k).2.2.1 = some (ty k)) : ∀ j, j < r.2.2 → defaultValue (ty j) = vp_V ((aDef ci).map (up G)) j := by
  intro j hj
  unfold aDef vp_V
  rw [hr]
  show _ = (List.map (up G) (List.map _ (List.range r.2.2))).getD j .null
  rw [List.getD_eq_getElem?_getD, List.getElem?_map, List.getElem?_map, List.getElem?_range hj]
  show _ = up G (match parseFieldDescriptor (r.2.1 j).2.2.1 with
    | some ty => defaultValue ty
    | none => .null)
  rw [hty j hj]
  exact (defUp G (ty j)).symm
theorem sm_40 (X : aCtx G pq p s m args meth c mi) (hRc : R.cells = C) (hRs : R.slots = S) : aRul cl mi.cd C S rt ini Q (aW G p l e R s m args below meth c mi Q') 40 := by
  intro k j ci y lo st h c1 s1 hg hc hs hP H ls locs hH hl hq
  obtain ⟨hd, hn, w, hk⟩ := X.go hg rfl rfl
  simp only [lChk] at hk
  split at hk
  · rename_i r hr
    have hN : aN ci = r.2.2 := by unfold aN; rw [hr]
    rw [hN] at hs hP
    have hI := aIsB_of ci hr
    simp only [aIsB, Bool.and_eq_true, decide_eq_true_eq] at hI
    have hKn := X.K.1 ci _ hr
    obtain ⟨ty, hty⟩ := aTyk_of ci hr
    refine W.newcK X.1 X.2.1 X.own (X.ts _ (wIs_in hk)) (X.ts _ (lw_good_in hI.1.1.1 hI.1.1.2)) (X.ts _ (lw_good_in hI.1.2 hI.2)) rfl hd (by rw [hRc]; exact hc) (by rw [hRs]; exact hs) hKn.2.1 rfl fun H1 kC hkC e1 z1 o1 => ?_
    have K := hP H1 ls locs (hH.new z1 o1 ⟨_, hr, (u_born ty X.ts (aIn_of hr) hKn hkC e1 hty).to (aDef_at G hr hty)⟩) hl hq
    rw [hn] at K
    rw [← hH.ref]
    exact K
  · cases hk
theorem aGets (X : aCtx G pq p s m args meth c mi) {H : Heap} {h : aH} (hH : aHp G H h) {Cn n d : String} {v : Value} (hz : va_Z Cn n d (up G v) (aOld G) G.1 G.1.heap) {locs : List Loc} {cells slots pc : Nat} {ls : Array Slot} {rest : List Value} {index : Nat} (hlink : (Cond.fieldLink mi.own index Cn n d).before args s = true) (hd : decode mi.bs pc = .ok (.getstatic index, 3))
    (K : W p l e R s m args below meth c H locs cells slots Q' (F0 m (pc + 3) ls ((v :: rest).map (up G)))) : W p l e R s m args below meth c H locs cells slots Q' (F0 m pc ls (rest.map (up G))) := by
  obtain ⟨cf, kf, fi, f, a, cell, h1, h2, h3, h4, h5, h6, h7, h8⟩ := hz.moved X.alike
  exact W.gets X.1 X.2.1 X.own hlink h1 h2 h3 h4 (by rw [hH.2.2.1 a (Array.getElem?_eq_some_iff.mp h5).1]; exact h5) (fun e => by rw [e] at h6; cases h6) h7 rfl hd K
theorem sm_50 (X : aCtx G pq p s m args meth c mi) : aRul cl mi.cd C S rt ini Q (aW G p l e R s m args below meth c mi Q') 50 := by
  intro k j f a fs v lo st h c1 s1 hg h16 he hv hP H ls locs hH hl hq
  have K := hP H ls locs hH hl hq
  obtain ⟨hd, hn, w, hk⟩ := X.go hg rfl rfl
  rw [hn] at K
  obtain ⟨-, b, hb, rfl, hF1, hF2⟩ := hH.2.2.2.2.2 a fs h16 he
  simp only [lChk, show aFT 9 f = none from rfl, Bool.and_eq_true, decide_eq_true_eq] at hk
  have hk2 := hk.2
  clear hk
  have ea : ad G a = G.2.1 a := ad_lo h16
  by_cases hf : f = 0
  · subst hf
    rw [if_pos rfl] at hk2
    cases hv
    obtain ⟨cf, kc, i, fl, cell, g1, g2, g3, g4, g5, -⟩ := hF1.moved X.alike
    refine W.getf X.1 X.2.1 X.own (X.ts _ (wIs_in hk2)) g1 g2 (a := G.2.1 a) (by rw [hH.2.2.1 _ (Array.getElem?_eq_some_iff.mp g3).1]; exact g3) g4 (v := .ref (G.2.1 b)) g5 rfl (by show Value.ref (ad G a) :: _ = _; rw [ea]) hd ?_
    have K' : W p l e R s m args below meth c H locs c1 s1 Q' (F0 m (aPc mi.cd k + 3) ls (.ref (ad G b) :: st.map (up G))) := K
    rw [ad_lo hb] at K'
    exact K'
  · rw [if_neg hf, Bool.and_eq_true, decide_eq_true_eq] at hk2
    obtain ⟨rfl, hk2⟩ := hk2
    cases hv
    obtain ⟨cf, kc, i, fl, cell, g1, g2, g3, g4, g5, -⟩ := hF2.moved X.alike
    exact W.getf X.1 X.2.1 X.own (X.ts _ (wIs_in hk2)) g1 g2 (a := G.2.1 a) (by rw [hH.2.2.1 _ (Array.getElem?_eq_some_iff.mp g3).1]; exact g3) g4 (v := .int 0) g5 rfl (by show Value.ref (ad G a) :: _ = _; rw [ea]) hd K
theorem sm_41 (X : aCtx G pq p s m args meth c mi) : aRul cl mi.cd C S rt ini Q (aW G p l e R s m args below meth c mi Q') 41 := by
  intro k j a y lo st h c1 s1 hg hy hP H ls locs hH hl hq
  have K := hP H ls locs hH hl hq
  obtain ⟨hd, hn, w, hk⟩ := X.go hg rfl rfl
  simp only [lChk, List.any_eq_true, Bool.and_eq_true, decide_eq_true_eq] at hk
  obtain ⟨q, hq1, ⟨rfl, rfl⟩, hk⟩ := hk
  rw [hn] at K
  obtain ⟨z0, z1, -⟩ := X.2.2.2.2.2.2.2.2.1.2.2.2.2.2.2.1 q hq1
  have hz : va_Z q.1 q.2.1 q.2.2.1 (up G (if q.2.2.2.2 = 0 then .ref q.2.2.2.1 else .int (Int32.ofNat q.2.2.2.1))) (aOld G) G.1 G.1.heap := by
    rcases (show q.2.2.2.2 = 0 ∨ q.2.2.2.2 = 1 by omega) with e0 | e0
    · rw [if_pos e0]; exact z0 e0
    · rw [if_neg (by omega)]; exact z1 e0
  exact aGets X hH hz (X.ts _ (wIs_in hk)) hd K
theorem sm_54 (X : aCtx G pq p s m args meth c mi) : aRul cl mi.cd C S rt ini Q (aW G p l e R s m args below meth c mi Q') 54 := by
  intro k j a lo st h c1 s1 hg hP hP2 H ls locs hH hl hq
  have K := hP H ls locs hH hl hq
  have K2 := hP2 H ls locs hH hl hq
  obtain ⟨hd, hn, w, hk⟩ := X.go hg rfl rfl
  simp only [lChk, List.any_eq_true, Bool.and_eq_true, decide_eq_true_eq] at hk
  obtain ⟨q, hq1, ⟨rfl, hy⟩, hk⟩ := hk
  rw [hn] at K K2
  obtain ⟨-, -, z2⟩ := X.2.2.2.2.2.2.2.2.1.2.2.2.2.2.2.1 q hq1
  rcases z2 hy with z | z
  · exact aGets (v := .null) X hH z (X.ts _ (wIs_in hk)) hd K
  · exact aGets (v := .ref q.2.2.2.1) X hH z (X.ts _ (wIs_in hk)) hd K2
theorem ldcwS {H : Heap} {locs : List Loc} {cells slots pc : Nat} {ls : Array Slot} {rest : List Value} {cc : ByteArray} (hexec : p.tables.exec = Jvm.exec) (hb : c.code = cc) {own tx : String} {index q : Nat} (hown : s.vm.findClass own = some m.cls) (hZ : vk_R own index tx q s) (hdg : decode cc pc = .ok (.ldc_w index, 3))
    (k : W p l e R s m args below meth c H locs cells slots Q' (F0 m (pc + 3) ls (.ref q :: rest))) : W p l e R s m args below meth c H locs cells slots Q' (F0 m pc ls rest) := by
  intro T hT X
  obtain ⟨t, a1, b1⟩ := k T hT X
  have hW := hZ.warm X.warmed
  have hown' : T.vm.findClass own = some m.cls := by rw [X.warmed.alike.findClass]; exact hown
  obtain ⟨k', cf, i, a, z1, z2, z3, z4, z5, z6⟩ := Cond.stringRef_spec hown' hW.1
  have ea : a = q := by
    have := z6.symm.trans hW.2
    cases this; rfl
  subst ea
  refine ⟨t, ?_, b1⟩
  have hdg' : decode c.code pc = .ok (.ldc_w index, 3) := by rw [hb]; exact hdg
  jvm_step X.here [hexec, hdg', ldc_w.wp_string (s := T) (f := F0 m pc ls rest) X.here.top z1 z2 z3 z5]
  exact a1
theorem sm_42 (X : aCtx G pq p s m args meth c mi) : aRul cl mi.cd C S rt ini Q (aW G p l e R s m args below meth c mi Q') 42 := by
  intro k i x y lo st h c1 s1 hg hi hP H ls locs hH hl hq
  have K := hP H ls locs hH hl hq
  have hstr : ∀ j, aStr.any (fun q => decide (q.1 = mi.own ∧ q.2.1 = j ∧ q.2.2.2 = x)) = true → ∃ tx, vk_R mi.own j tx (ad G x) s := by
    intro j hz
    simp only [List.any_eq_true, decide_eq_true_eq] at hz
    obtain ⟨q, hq1, e1, e2, e3⟩ := hz
    have := X.2.2.2.2.2.2.2.2.1.2.2.2.2.2.2.2 q hq1
    rw [e1, e2, e3] at this
    exact ⟨_, this⟩
  obtain ⟨j, rfl | rfl⟩ := hi
  · obtain ⟨hd, hn, w, hk⟩ := X.go hg rfl rfl
    simp only [lChk] at hk
    rw [hn] at K
    by_cases hy : y = 0
    · rw [if_pos hy] at hk
      rw [if_pos hy] at K
      exact lv_ldc X.1 X.2.1 X.own (X.ts _ (wIs_in hk)) hd K
    · rw [if_neg hy] at hk
      rw [if_neg hy] at K
      obtain ⟨tx, hR⟩ := hstr j hk
      exact va_ldcS X.1 X.2.1 X.own hR hd K
  · obtain ⟨hd, hn, w, hk⟩ := X.go hg rfl rfl
    simp only [lChk] at hk
    rw [hn] at K
    by_cases hy : y = 0
    · rw [if_pos hy] at hk
      rw [if_pos hy] at K
      exact lv_ldcw X.1 X.2.1 X.own (X.ts _ (wIs_in hk)) hd K
    · rw [if_neg hy] at hk
      rw [if_neg hy] at K
      obtain ⟨tx, hR⟩ := hstr j hk
      exact ldcwS X.1 X.2.1 X.own hR hd K
theorem sm_43 (X : aCtx G pq p s m args meth c mi) : aRul cl mi.cd C S rt ini Q (aW G p l e R s m args below meth c mi Q') 43 := by
  intro k j x y lo st h c1 s1 hg hP H ls locs hH hl hq
  have K := hP H ls locs hH hl hq
  obtain ⟨hd, hn, w, hk⟩ := X.go hg rfl rfl
  simp only [lChk] at hk
  rw [hn] at K
  exact lv_ldc2 X.1 X.2.1 X.own (X.ts _ (wIs_in hk)) hd K
def aPre (G : aG) (as : List Value) (h : aH) : Array Value → State → Prop := fun a U => a = (as.map (up G)).toArray ∧ aHp G U.heap h ∧ aV G U
def aPost (G : aG) (Q : aQ) : Array Value → State → Outcome → State → Prop := fun _ _ o t => ∃ (r : Option Value) (h : aH), o = .returned (r.map (up G)) ∧ aHp G t.heap h ∧ aV G t ∧ Q r h
def aWs (mj : aM) : List Cond := Cond.code mj.y mj.bs mj.nL mj.rt :: lw_good
def aRm (d mc ms : Nat) : Room := { frames := d, cells := mc, slots := ms, locals := 60 * d }
def aMet (G : aG) (l : Launch) (mj : aM) (d : Nat) (as : List Value) (h : aH) (mc ms : Nat) (Q : aQ) : Prop := Met l mj.y (aWs mj) (aRm d mc ms) (aPre G as h) (aPost G Q) mc ms (fun q => G.1.heap.size ≤ q)
theorem aPre_blind (as : List Value) (h : aH) : FrameBlind (aPre G as h) := by
  intro a U g mk q
  obtain ⟨q1, q2, h1, h2, h3, h4, h5, h6, h8, h9⟩ := q
  have hvm : U.vm.Alike (U.calling g mk a).vm := Vm.Alike.refl U.vm
  refine ⟨q1, q2, h1.trans hvm, va_K.moved hvm h2, fun w hw => ?_, va_AO.moved hvm h4, va_AO.moved hvm h5, va_AO.moved hvm h6, h8, fun q hq => (h9 q hq).same rfl⟩
  have h7 := h3 w hw
  simp only [aNw, List.mem_cons, List.not_mem_nil, or_false] at hw
  rcases hw with rfl | rfl | rfl | rfl <;> exact va_Nw.same rfl rfl h7
theorem aV.warm {U : State} (h : aV G s) (hW : s.WarmedH U.vm) : aV G U := by
  obtain ⟨h1, h2, h3, h4, h5, h6, h8, h9⟩ := h
  refine ⟨h1.trans hW.alike, va_K.moved hW.alike h2, fun w hw => ?_, va_AO.moved hW.alike h4, va_AO.moved hW.alike h5, va_AO.moved hW.alike h6, h8, fun q hq => (h9 q hq).warm hW⟩
  have h7 := h3 w hw
  simp only [aNw, List.mem_cons, List.not_mem_nil, or_false] at hw
  rcases hw with rfl | rfl | rfl | rfl <;> exact va_Nw.warmM hW h7
theorem sm_48 (X : aCtx G pq p s m args meth c mi) (hrt : rt = mi.rt) : aRul cl mi.cd C S rt ini Q (aW G p l e R s m args below meth c mi (MQ below (aPost G Q) args s C S (fun q => G.1.heap.size ≤ q))) 48 := by
  intro k x y lo h c1 s1 hg hr hc hs hP H ls locs hH hl hq
  obtain ⟨len, w, hd, -, hlen, -⟩ := X.at hg rfl
  have hl3 := hlen rfl
  subst hl3
  refine W.widen hc hs ?_
  exact W.vret X.1 X.2.1 (by rw [X.2.2.2.1, ← hrt]; exact hr) (fun t ht hw => ⟨none, h, rfl, by rw [ht]; exact hH, X.2.2.2.2.2.2.2.2.1.warm hw, hP⟩) hq hd X.2.2.2.2.1
theorem sm_49 (X : aCtx G pq p s m args meth c mi) (hrt : rt = mi.rt) : aRul cl mi.cd C S rt ini Q (aW G p l e R s m args below meth c mi (MQ below (aPost G Q) args s C S (fun q => G.1.heap.size ≤ q))) 49 := by
  intro k i x y v lo h c1 s1 hg hi hr hc hs hP H ls locs hH hl hq
  refine W.widen hc hs ?_
  have fin : ∀ t : State, t.heap = H → s.WarmedH t.vm → aPost G Q args s (.returned (some (up G v))) t := fun t ht hw => ⟨some v, h, rfl, by rw [ht]; exact hH, X.2.2.2.2.2.2.2.2.1.warm hw, hP⟩
  have hmr : meth.sig.returnType = rt := by rw [X.2.2.2.1, ← hrt]
  unfold kRet at hi
  split at hi
  · obtain ⟨len, w, hd, -, hlen, -⟩ := X.at hg rfl
    have hl3 := hlen rfl
    subst hl3
    cases hrt2 : rt with
    | none => rw [hrt2] at hr; exact absurd hr (by simp [aRT])
    | some ty =>
      rw [hrt2] at hr
      exact W.zret (ty := ty) X.1 X.2.1 (hmr.trans hrt2) hr.1 fin hq hd X.2.2.2.2.1
  · obtain ⟨len, w, hd, -, hlen, -⟩ := X.at hg rfl
    have hl3 := hlen rfl
    subst hl3
    have h4 : rt = some .long := by
      unfold aRT at hr
      split at hr <;> first | rfl | (simp at *; done) | (rename_i q; cases q)
    exact W.lret X.1 X.2.1 (hmr.trans h4) fin hq hd X.2.2.2.2.1
  · obtain ⟨len, w, hd, -, hlen, -⟩ := X.at hg rfl
    have hl3 := hlen rfl
    subst hl3
    have h4 : ∃ ty, rt = some ty ∧ ((∃ n, ty = .object n) ∨ ∃ t, ty = .array t) := by
      unfold aRT at hr
      split at hr <;> first | exact ⟨_, rfl, Or.inl ⟨_, rfl⟩⟩ | exact ⟨_, rfl, Or.inr ⟨_, rfl⟩⟩ | (simp at *; done) | (rename_i q; cases q)
    obtain ⟨ty, h5, h6⟩ := h4
    exact W.aret (rt := ty) X.1 X.2.1 (hmr.trans h5) h6 (Or.inr ⟨_, rfl⟩) fin hq hd X.2.2.2.2.1
  · obtain ⟨len, w, hd, -, hlen, -⟩ := X.at hg rfl
    have hl3 := hlen rfl
    subst hl3
    have h4 : ∃ ty, rt = some ty ∧ ((∃ n, ty = .object n) ∨ ∃ t, ty = .array t) := by
      unfold aRT at hr
      split at hr <;> first | exact ⟨_, rfl, Or.inl ⟨_, rfl⟩⟩ | exact ⟨_, rfl, Or.inr ⟨_, rfl⟩⟩ | (simp at *; done) | (rename_i q; cases q)
    obtain ⟨ty, h5, h6⟩ := h4
    exact W.aret (rt := ty) X.1 X.2.1 (hmr.trans h5) h6 (Or.inl rfl) fin hq hd X.2.2.2.2.1
  · cases hi
end SIM
