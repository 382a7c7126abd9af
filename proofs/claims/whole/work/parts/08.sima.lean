/-! ===== the AM's steps are the machine's: instructions without a heap ===== -/
section SIM
variable {G : aG} {pq : Nat → Option aM} {p : Program} {l : Launch} {e : Env} {R : Room} {s : State} {m : MethodId} {args : Array Value} {below : List Frame} {meth : Method} {c : Code} {mi : aM} {Q' : State → Prop}
def aCtx (G : aG) (pq : Nat → Option aM) (p : Program) (s : State) (m : MethodId) (args : Array Value) (meth : Method) (c : Code) (mi : aM) : Prop :=
  p.tables.exec = Jvm.exec ∧ c.code = mi.bs ∧ c.maxLocals = mi.nL ∧ meth.sig.returnType = mi.rt ∧ meth.locks = false ∧ s.vm.findClass mi.own = some m.cls ∧ (mi.ini = true → meth.name = "<init>") ∧ (∀ w ∈ lw_good, w.before args s = true) ∧ aV G s ∧ (∀ k e, mi.cd[k]? = some e → eChk pq mi k e = true) ∧ G.1.heap.size ≤ s.heap.size
def aW (G : aG) (p : Program) (l : Launch) (e : Env) (R : Room) (s : State) (m : MethodId) (args : Array Value) (below : List Frame) (meth : Method) (c : Code) (mi : aM) (Q' : State → Prop) : aP := fun k lo st h c1 s1 =>
  ∀ (H : Heap) (ls : Array Slot) (locs : List Loc), aHp G H h → aLv G ls mi.nL lo → (∀ q ∈ locs, G.1.heap.size ≤ q.base) → W p l e R s m args below meth c H locs c1 s1 Q' (F0 m (aPc mi.cd k) ls (st.map (up G)))
theorem aCtx.at (X : aCtx G pq p s m args meth c mi) {k x y : Nat} {i : Instr} (hg : aGet mi.cd k = some (i, x, y)) (hfk : eFk i = false) : ∃ len w, decode mi.bs (aPc mi.cd k) = .ok (i, len) ∧ (eFall i = true → aPc mi.cd (k + 1) = aPc mi.cd k + len) ∧ (eSw i = false → len = kLen i) ∧ lChk pq mi (aPc mi.cd k) i x y w = true := by
  obtain ⟨len, w, hk⟩ := aGet_at hg
  have h := X.2.2.2.2.2.2.2.2.2.1 k _ hk
  have h0 : eChk pq mi k (aPc mi.cd k, i, len, x, y, w) = (decide (decode mi.bs (aPc mi.cd k) = .ok (i, len)) && (!(eFall i) || decide (aPc mi.cd (k + 1) = aPc mi.cd k + len)) && (eSw i || decide (len = kLen i)) && lChk pq mi (aPc mi.cd k) i x y w) := by
    cases i <;> first | rfl | cases hfk
  rw [h0] at h
  simp only [Bool.and_eq_true, decide_eq_true_eq, Bool.or_eq_true, Bool.not_eq_true'] at h
  obtain ⟨⟨⟨h1, h2⟩, h3⟩, h4⟩ := h
  refine ⟨len, w, h1, fun q => ?_, fun q => ?_, h4⟩
  · rcases h2 with z | z
    · rw [q] at z; cases z
    · exact z
  · rcases h3 with z | z
    · rw [q] at z; cases z
    · exact z
theorem aCtx.go (X : aCtx G pq p s m args meth c mi) {k x y : Nat} {i : Instr} (hg : aGet mi.cd k = some (i, x, y)) (h1 : eFall i = true) (h2 : eSw i = false) : decode mi.bs (aPc mi.cd k) = .ok (i, kLen i) ∧ aPc mi.cd (k + 1) = aPc mi.cd k + kLen i ∧ ∃ w, lChk pq mi (aPc mi.cd k) i x y w = true := by
  obtain ⟨len, w, a, b, d, f⟩ := X.at hg (by cases i <;> first | rfl | cases h1)
  have hl := d h2
  subst hl
  exact ⟨a, b h1, w, f⟩
variable {cl : aC} {C S : Nat} {rt : Option FieldType} {ini : Bool} {Q : aQ}
theorem sm_0 (X : aCtx G pq p s m args meth c mi) : aRul cl mi.cd C S rt ini Q (aW G p l e R s m args below meth c mi Q') 0 := by
  intro k i x y v lo st h c1 s1 hg hf hP H ls locs hH hl hq
  have K := hP H ls locs hH hl hq
  unfold kConst at hf
  split at hf <;> cases hf <;> (obtain ⟨hd, hn, -⟩ := X.go hg rfl rfl; rw [hn] at K)
  · exact lv_iconst X.1 X.2.1 hd rfl K
  · exact lv_bipush X.1 X.2.1 hd rfl K
  · exact lv_sipush X.1 X.2.1 hd rfl K
  · exact lv_lconst X.1 X.2.1 hd rfl K
  · exact lv_null X.1 X.2.1 hd K
theorem sm_1 (X : aCtx G pq p s m args meth c mi) : aRul cl mi.cd C S rt ini Q (aW G p l e R s m args below meth c mi Q') 1 := by
  intro k i x y j t v lo st h c1 s1 hg hf hj ht hP H ls locs hH hl hq
  have K := hP H ls locs hH hl hq
  have hls := hl.at hj
  unfold kLoad at hf
  split at hf <;> cases hf <;> (obtain ⟨hd, hn, -⟩ := X.go hg rfl rfl; rw [hn] at K) <;> cases v <;> first | (simp [kTy] at ht; done) | skip
  · exact lv_iload X.1 X.2.1 hd hls K
  · exact lv_iload_n X.1 X.2.1 hd rfl hls K
  · exact lv_lload X.1 X.2.1 hd hls K
  · exact lv_lload_n X.1 X.2.1 hd rfl hls K
  · exact lv_aloadN X.1 X.2.1 hd hls K
  · exact lv_aload X.1 X.2.1 hd hls K
  · exact lv_aload_nN X.1 X.2.1 hd rfl hls K
  · exact lv_aload_n X.1 X.2.1 hd rfl hls K
theorem sm_2 (X : aCtx G pq p s m args meth c mi) : aRul cl mi.cd C S rt ini Q (aW G p l e R s m args below meth c mi Q') 2 := by
  intro k i x y j t v lo st h c1 s1 hg hf ht hj hP H ls locs hH hl hq
  have K := fun ls' hl' => hP H ls' locs hH hl' hq
  have hlen := hl.2.1
  unfold kStore at hf
  split at hf <;> cases hf <;> (obtain ⟨hd, hn, -⟩ := X.go hg rfl rfl; rw [hn] at K) <;> cases v <;> first | (simp [kTy] at ht; done) | skip
  · exact lv_istore X.1 X.2.1 hd hl.has (by omega) rfl (fun ls' h' => K ls' (aLv.set1 hlen (by omega) rfl h'))
  · exact lv_istore_n X.1 X.2.1 hd rfl hl.has (by omega) rfl (fun ls' h' => K ls' (aLv.set1 hlen (by omega) rfl h'))
  · exact lv_lstore X.1 X.2.1 hd hl.has (by omega) rfl (fun ls' h' => K ls' (aLv.set2 hlen (by omega) h'))
  · exact lv_lstore_n X.1 X.2.1 hd rfl hl.has (by omega) rfl (fun ls' h' => K ls' (aLv.set2 hlen (by omega) h'))
  · exact lv_astoreN X.1 X.2.1 hd hl.has (by omega) rfl (fun ls' h' => K ls' (aLv.set1 hlen (by omega) rfl h'))
  · exact lv_astore X.1 X.2.1 hd hl.has (by omega) rfl (fun ls' h' => K ls' (aLv.set1 hlen (by omega) rfl h'))
  · exact lv_astore_nN X.1 X.2.1 hd rfl hl.has (by omega) rfl (fun ls' h' => K ls' (aLv.set1 hlen (by omega) rfl h'))
  · exact lv_astore_n X.1 X.2.1 hd rfl hl.has (by omega) rfl (fun ls' h' => K ls' (aLv.set1 hlen (by omega) rfl h'))
theorem sm_3 (X : aCtx G pq p s m args meth c mi) : aRul cl mi.cd C S rt ini Q (aW G p l e R s m args below meth c mi Q') 3 := by
  intro k i x y f a b lo st h c1 s1 hg hf hP H ls locs hH hl hq
  have K := hP H ls locs hH hl hq
  unfold kBin at hf
  split at hf <;> cases hf <;> (obtain ⟨hd, hn, -⟩ := X.go hg rfl rfl; rw [hn] at K)
  · exact lv_iadd X.1 X.2.1 hd K
  · exact lv_isub X.1 X.2.1 hd K
  · exact lv_imul X.1 X.2.1 hd K
  · exact lv_iand X.1 X.2.1 hd K
  · exact lv_ior X.1 X.2.1 hd K
  · exact lv_ixor X.1 X.2.1 hd K
  · exact lv_ishl X.1 X.2.1 hd K
  · exact lv_ishr X.1 X.2.1 hd K
  · exact lv_iushr X.1 X.2.1 hd rfl K
theorem sm_4 (X : aCtx G pq p s m args meth c mi) : aRul cl mi.cd C S rt ini Q (aW G p l e R s m args below meth c mi Q') 4 := by
  intro k i x y f a b lo st h c1 s1 hg hf hb0 hP H ls locs hH hl hq
  have K := hP H ls locs hH hl hq
  unfold kDiv at hf
  split at hf <;> cases hf <;> (obtain ⟨hd, hn, -⟩ := X.go hg rfl rfl; rw [hn] at K)
  · exact lv_idiv X.1 X.2.1 hd hb0 K
  · exact lv_irem X.1 X.2.1 hd hb0 K
theorem sm_5 (X : aCtx G pq p s m args meth c mi) : aRul cl mi.cd C S rt ini Q (aW G p l e R s m args below meth c mi Q') 5 := by
  intro k i x y f a b lo st h c1 s1 hg hf hP H ls locs hH hl hq
  have K := hP H ls locs hH hl hq
  unfold kBinL at hf
  split at hf <;> cases hf <;> (obtain ⟨hd, hn, -⟩ := X.go hg rfl rfl; rw [hn] at K)
  · exact lv_ladd X.1 X.2.1 hd K
  · exact lv_lsub X.1 X.2.1 hd K
  · exact lv_lmul X.1 X.2.1 hd K
  · exact lv_land X.1 X.2.1 hd K
  · exact lv_lor X.1 X.2.1 hd K
  · exact lv_lxor X.1 X.2.1 hd K
theorem sm_6 (X : aCtx G pq p s m args meth c mi) : aRul cl mi.cd C S rt ini Q (aW G p l e R s m args below meth c mi Q') 6 := by
  intro k i x y f a b lo st h c1 s1 hg hf hP H ls locs hH hl hq
  have K := hP H ls locs hH hl hq
  unfold kShL at hf
  split at hf <;> cases hf <;> (obtain ⟨hd, hn, -⟩ := X.go hg rfl rfl; rw [hn] at K)
  · exact lv_lshl X.1 X.2.1 hd rfl K
  · exact lv_lshr X.1 X.2.1 hd rfl K
  · exact lv_lushr X.1 X.2.1 hd rfl K
theorem sm_7 (X : aCtx G pq p s m args meth c mi) : aRul cl mi.cd C S rt ini Q (aW G p l e R s m args below meth c mi Q') 7 := by
  intro k i x y f a lo st h c1 s1 hg hf hP H ls locs hH hl hq
  have K := hP H ls locs hH hl hq
  unfold kUn at hf
  split at hf <;> cases hf <;> (obtain ⟨hd, hn, -⟩ := X.go hg rfl rfl; rw [hn] at K)
  · exact lv_ineg X.1 X.2.1 hd K
  · exact lv_i2b X.1 X.2.1 hd rfl K
  · exact lv_i2c X.1 X.2.1 hd rfl K
theorem sm_8 (X : aCtx G pq p s m args meth c mi) : aRul cl mi.cd C S rt ini Q (aW G p l e R s m args below meth c mi Q') 8 := by
  intro k x y a lo st h c1 s1 hg hP H ls locs hH hl hq
  have K := hP H ls locs hH hl hq
  obtain ⟨hd, hn, -⟩ := X.go hg rfl rfl; rw [hn] at K
  exact lv_lneg X.1 X.2.1 hd K
theorem sm_9 (X : aCtx G pq p s m args meth c mi) : aRul cl mi.cd C S rt ini Q (aW G p l e R s m args below meth c mi Q') 9 := by
  intro k x y a lo st h c1 s1 hg hP H ls locs hH hl hq
  have K := hP H ls locs hH hl hq
  obtain ⟨hd, hn, -⟩ := X.go hg rfl rfl; rw [hn] at K
  exact lv_i2l X.1 X.2.1 hd rfl K
theorem sm_10 (X : aCtx G pq p s m args meth c mi) : aRul cl mi.cd C S rt ini Q (aW G p l e R s m args below meth c mi Q') 10 := by
  intro k x y a lo st h c1 s1 hg hP H ls locs hH hl hq
  have K := hP H ls locs hH hl hq
  obtain ⟨hd, hn, -⟩ := X.go hg rfl rfl; rw [hn] at K
  exact lv_l2i X.1 X.2.1 hd rfl K
theorem sm_11 (X : aCtx G pq p s m args meth c mi) : aRul cl mi.cd C S rt ini Q (aW G p l e R s m args below meth c mi Q') 11 := by
  intro k x y a b lo st h c1 s1 hg hP H ls locs hH hl hq
  have K := hP H ls locs hH hl hq
  obtain ⟨hd, hn, -⟩ := X.go hg rfl rfl; rw [hn] at K
  exact W.lcmp X.1 X.2.1 hd K
theorem sm_12 (X : aCtx G pq p s m args meth c mi) : aRul cl mi.cd C S rt ini Q (aW G p l e R s m args below meth c mi Q') 12 := by
  intro k j n x y a lo st h c1 s1 hg hj hP H ls locs hH hl hq
  have K := fun ls' hl' => hP H ls' locs hH hl' hq
  obtain ⟨hd, hn, -⟩ := X.go hg rfl rfl; rw [hn] at K
  obtain ⟨kk, hkk⟩ := List.getElem?_of_mem (aLs_mem (G := G) hj)
  have hlen := hl.2.1
  have hjl := (List.getElem?_eq_some_iff.mp hj).1
  exact lv_iinc X.1 X.2.1 hd hl.has hkk rfl (by omega) rfl (fun ls' h' => K ls' (aLv.inc hlen hj h' (hl.noLong hj)))
theorem sm_13 (X : aCtx G pq p s m args meth c mi) : aRul cl mi.cd C S rt ini Q (aW G p l e R s m args below meth c mi Q') 13 := by
  intro k x y v lo st h c1 s1 hg hv hP H ls locs hH hl hq
  have K := hP H ls locs hH hl hq
  obtain ⟨hd, hn, -⟩ := X.go hg rfl rfl; rw [hn] at K
  exact lv_dup X.1 X.2.1 hd (by rw [up_cat]; exact hv) K
theorem sm_14 (X : aCtx G pq p s m args meth c mi) : aRul cl mi.cd C S rt ini Q (aW G p l e R s m args below meth c mi Q') 14 := by
  intro k x y v lo st h c1 s1 hg hv hP H ls locs hH hl hq
  have K := hP H ls locs hH hl hq
  obtain ⟨hd, hn, -⟩ := X.go hg rfl rfl; rw [hn] at K
  exact lv_pop X.1 X.2.1 hd (by rw [up_cat]; exact hv) K
theorem sm_15 (X : aCtx G pq p s m args meth c mi) : aRul cl mi.cd C S rt ini Q (aW G p l e R s m args below meth c mi Q') 15 := by
  intro k x y v w lo st h c1 s1 hg hv hw hP H ls locs hH hl hq
  have K := hP H ls locs hH hl hq
  obtain ⟨hd, hn, -⟩ := X.go hg rfl rfl; rw [hn] at K
  exact lv_dup2_11 X.1 X.2.1 hd (by rw [up_cat]; exact hv) (by rw [up_cat]; exact hw) K
theorem sm_16 (X : aCtx G pq p s m args meth c mi) : aRul cl mi.cd C S rt ini Q (aW G p l e R s m args below meth c mi Q') 16 := by
  intro k x y v w lo st h c1 s1 hg hv hw hP H ls locs hH hl hq
  have K := hP H ls locs hH hl hq
  obtain ⟨hd, hn, -⟩ := X.go hg rfl rfl; rw [hn] at K
  exact lv_dup_x1 X.1 X.2.1 hd (by rw [up_cat]; exact hv) (by rw [up_cat]; exact hw) K
theorem sm_17 (X : aCtx G pq p s m args meth c mi) : aRul cl mi.cd C S rt ini Q (aW G p l e R s m args below meth c mi Q') 17 := by
  intro k co off x y a lo st h c1 s1 hg hT hF H ls locs hH hl hq
  obtain ⟨hd, hn, w, hk⟩ := X.go hg rfl rfl
  simp only [lChk, decide_eq_true_eq] at hk
  have KT := fun q => hT q H ls locs hH hl hq
  have KF := fun q => hF q H ls locs hH hl hq
  rw [hn] at KF
  cases co
  · exact lv_if_eq X.1 X.2.1 hd hk KT KF
  · exact lv_if_ne X.1 X.2.1 hd hk KT (fun q => KF (fun z => z q))
  · exact lv_if_lt X.1 X.2.1 hd hk KT KF
  · exact lv_if_ge X.1 X.2.1 hd hk KT KF
  · exact lv_if_gt X.1 X.2.1 hd hk KT KF
  · exact lv_if_le X.1 X.2.1 hd hk KT KF
theorem sm_18 (X : aCtx G pq p s m args meth c mi) : aRul cl mi.cd C S rt ini Q (aW G p l e R s m args below meth c mi Q') 18 := by
  intro k co off x y a b lo st h c1 s1 hg hT hF H ls locs hH hl hq
  obtain ⟨hd, hn, w, hk⟩ := X.go hg rfl rfl
  simp only [lChk, decide_eq_true_eq] at hk
  have KT := fun q => hT q H ls locs hH hl hq
  have KF := fun q => hF q H ls locs hH hl hq
  rw [hn] at KF
  cases co
  · exact lv_icmp_eq X.1 X.2.1 hd hk KT KF
  · exact lv_icmp_ne X.1 X.2.1 hd hk KT (fun q => KF (fun z => z q))
  · exact lv_icmp_lt X.1 X.2.1 hd hk KT KF
  · exact lv_icmp_ge X.1 X.2.1 hd hk KT KF
  · exact lv_icmp_gt X.1 X.2.1 hd hk KT KF
  · exact lv_icmp_le X.1 X.2.1 hd hk KT KF
theorem sm_19 (X : aCtx G pq p s m args meth c mi) : aRul cl mi.cd C S rt ini Q (aW G p l e R s m args below meth c mi Q') 19 := by
  intro k off x y lo st h c1 s1 hg hP H ls locs hH hl hq
  obtain ⟨len, w, hd, -, hlen, hk⟩ := X.at hg rfl
  have hl3 := hlen rfl
  subst hl3
  simp only [lChk, decide_eq_true_eq] at hk
  exact lv_goto X.1 X.2.1 hd hk (hP H ls locs hH hl hq)
theorem sm_20 (X : aCtx G pq p s m args meth c mi) : aRul cl mi.cd C S rt ini Q (aW G p l e R s m args below meth c mi Q') 20 := by
  intro k off x y a lo st h c1 s1 hg hP H ls locs hH hl hq
  have K := hP H ls locs hH hl hq
  obtain ⟨hd, hn, -⟩ := X.go hg rfl rfl; rw [hn] at K
  exact lv_ifnull X.1 X.2.1 hd K
theorem sm_21 (X : aCtx G pq p s m args meth c mi) : aRul cl mi.cd C S rt ini Q (aW G p l e R s m args below meth c mi Q') 21 := by
  intro k off x y lo st h c1 s1 hg hP H ls locs hH hl hq
  obtain ⟨hd, hn, w, hk⟩ := X.go hg rfl rfl
  simp only [lChk, decide_eq_true_eq] at hk
  exact lv_ifnullN X.1 X.2.1 hd hk (hP H ls locs hH hl hq)
theorem sm_22 (X : aCtx G pq p s m args meth c mi) : aRul cl mi.cd C S rt ini Q (aW G p l e R s m args below meth c mi Q') 22 := by
  intro k off x y a lo st h c1 s1 hg hP H ls locs hH hl hq
  obtain ⟨hd, hn, w, hk⟩ := X.go hg rfl rfl
  simp only [lChk, decide_eq_true_eq] at hk
  exact lv_ifnonnull X.1 X.2.1 hd hk (hP H ls locs hH hl hq)
theorem sm_23 (X : aCtx G pq p s m args meth c mi) : aRul cl mi.cd C S rt ini Q (aW G p l e R s m args below meth c mi Q') 23 := by
  intro k off x y lo st h c1 s1 hg hP H ls locs hH hl hq
  have K := hP H ls locs hH hl hq
  obtain ⟨hd, hn, -⟩ := X.go hg rfl rfl; rw [hn] at K
  exact lv_ifnonnullN X.1 X.2.1 hd K
theorem sm_24 (X : aCtx G pq p s m args meth c mi) : aRul cl mi.cd C S rt ini Q (aW G p l e R s m args below meth c mi Q') 24 := by
  intro k d lo hi offs x y a t lo' st h c1 s1 hg hr ht hP H ls locs hH hl hq
  obtain ⟨len, w, hd, -, -, -⟩ := X.at hg rfl
  exact lv_tableOut X.1 X.2.1 hd hr ht (hP H ls locs hH hl hq)
theorem sm_25 (X : aCtx G pq p s m args meth c mi) : aRul cl mi.cd C S rt ini Q (aW G p l e R s m args below meth c mi Q') 25 := by
  intro k d lo hi offs x y a o t lo' st h c1 s1 hg h1 h2 ho ht hP H ls locs hH hl hq
  obtain ⟨len, w, hd, -, -, -⟩ := X.at hg rfl
  exact lv_tableIn X.1 X.2.1 hd h1 h2 ho ht (hP H ls locs hH hl hq)
end SIM
