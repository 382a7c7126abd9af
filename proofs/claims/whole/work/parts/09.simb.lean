/-! ===== the AM's steps are the machine's: the heap ===== -/
def aInB (q : vw_C) : Bool := (u_ws q.1 q.2.1 q.2.2).all (fun w => decide (w ∈ lw_tbl) && goodWord w)
def aIsB (q : vw_C) : Bool := decide (Cond.instantiable q.1 q.2.2 ∈ lw_tbl) && goodWord (Cond.instantiable q.1 q.2.2) && decide (Cond.initialized q.1 ∈ lw_tbl) && goodWord (Cond.initialized q.1)
theorem aInB_0 : aInB (RJ4, TJ4, 4) = true := by decide +kernel
theorem aIsB_0 : aIsB (RJ4, TJ4, 4) = true := by decide +kernel
theorem aInB_1 : aInB (RX0, TX0, 3) = true := by decide +kernel
theorem aIsB_1 : aIsB (RX0, TX0, 3) = true := by decide +kernel
theorem aInB_2 : aInB (RX1, TX1, 4) = true := by decide +kernel
theorem aIsB_2 : aIsB (RX1, TX1, 4) = true := by decide +kernel
theorem aInB_3 : aInB (RX3, TX3, 8) = true := by decide +kernel
theorem aIsB_3 : aIsB (RX3, TX3, 8) = true := by decide +kernel
theorem aInB_4 : aInB (RX4, TX4, 6) = true := by decide +kernel
theorem aIsB_4 : aIsB (RX4, TX4, 6) = true := by decide +kernel
theorem aInB_5 : aInB (RX5, TX5, 12) = true := by decide +kernel
theorem aIsB_5 : aIsB (RX5, TX5, 12) = true := by decide +kernel
theorem aInB_6 : aInB (RX7, TX7, 5) = true := by decide +kernel
theorem aIsB_6 : aIsB (RX7, TX7, 5) = true := by decide +kernel
theorem aInB_7 : aInB (RX8, TX8, 8) = true := by decide +kernel
theorem aIsB_7 : aIsB (RX8, TX8, 8) = true := by decide +kernel
theorem aInB_8 : aInB (RX9, TX9, 31) = true := by decide +kernel
theorem aIsB_8 : aIsB (RX9, TX9, 31) = true := by decide +kernel
theorem aInB_of : ∀ (ci : Nat) {q : vw_C}, aCls[ci]? = some q → aInB q = true
  | 0, _, h => by cases h; exact aInB_0
  | 1, _, h => by cases h; exact aInB_1
  | 2, _, h => by cases h; exact aInB_2
  | 3, _, h => by cases h; exact aInB_3
  | 4, _, h => by cases h; exact aInB_4
  | 5, _, h => by cases h; exact aInB_5
  | 6, _, h => by cases h; exact aInB_6
  | 7, _, h => by cases h; exact aInB_7
  | 8, _, h => by cases h; exact aInB_8
  | _ + 9, _, h => by simp [aCls, vwCl] at h
theorem aIsB_of : ∀ (ci : Nat) {q : vw_C}, aCls[ci]? = some q → aIsB q = true
  | 0, _, h => by cases h; exact aIsB_0
  | 1, _, h => by cases h; exact aIsB_1
  | 2, _, h => by cases h; exact aIsB_2
  | 3, _, h => by cases h; exact aIsB_3
  | 4, _, h => by cases h; exact aIsB_4
  | 5, _, h => by cases h; exact aIsB_5
  | 6, _, h => by cases h; exact aIsB_6
  | 7, _, h => by cases h; exact aIsB_7
  | 8, _, h => by cases h; exact aIsB_8
  | _ + 9, _, h => by simp [aCls, vwCl] at h
theorem aNm_of : ∀ (ci : Nat) {q : vw_C}, aCls[ci]? = some q → ∀ a, a < q.2.2 → ∀ b, b < q.2.2 → a ≠ b → (q.2.1 a).2.1 ≠ (q.2.1 b).2.1
  | 0, _, h => by cases h; exact nmJ4
  | 1, _, h => by cases h; exact nmX0
  | 2, _, h => by cases h; exact nmX1
  | 3, _, h => by cases h; exact nmX3
  | 4, _, h => by cases h; exact nmX4
  | 5, _, h => by cases h; exact nmX5
  | 6, _, h => by cases h; exact nmX7
  | 7, _, h => by cases h; exact nmX8
  | 8, _, h => by cases h; exact nmX9
  | _ + 9, _, h => by simp [aCls, vwCl] at h
theorem aTyk_of : ∀ (ci : Nat) {q : vw_C}, aCls[ci]? = some q → ∃ ty : Nat → FieldType, ∀ k, k < q.2.2 → parseFieldDescriptor (q.2.1 k).2.2.1 = some (ty k)
  | 0, _, h => by cases h; exact ⟨_, tyJ4_ok⟩
  | 1, _, h => by cases h; exact ⟨_, tyX0_ok⟩
  | 2, _, h => by cases h; exact ⟨_, tyX1_ok⟩
  | 3, _, h => by cases h; exact ⟨_, tyX3_ok⟩
  | 4, _, h => by cases h; exact ⟨_, tyX4_ok⟩
  | 5, _, h => by cases h; exact ⟨_, tyX5_ok⟩
  | 6, _, h => by cases h; exact ⟨_, tyX7_ok⟩
  | 7, _, h => by cases h; exact ⟨_, tyX8_ok⟩
  | 8, _, h => by cases h; exact ⟨_, tyX9_ok⟩
  | _ + 9, _, h => by simp [aCls, vwCl] at h
theorem aIn_of {ci : Nat} {q : vw_C} (h : aCls[ci]? = some q) : ∀ w ∈ u_ws q.1 q.2.1 q.2.2, w ∈ lw_good := by
  intro w hw
  have h1 := List.all_eq_true.mp (aInB_of ci h) w hw
  simp only [Bool.and_eq_true, decide_eq_true_eq] at h1
  exact lw_good_in h1.1 h1.2
theorem aArrB : (Cond.arrayClass .int ∈ lw_tbl ∧ Cond.arrayClass .boolean ∈ lw_tbl) ∧ (Cond.arrayClass .byte ∈ lw_tbl ∧ Cond.arrayClass .long ∈ lw_tbl) := by decide +kernel
theorem aFT_at {ci k : Nat} {q : String × String × String × Bool} (h : aFT ci k = some q) : ∃ r : vw_C, aCls[ci]? = some r ∧ k < r.2.2 ∧ r.2.1 k = q := by
  unfold aFT at h
  split at h
  · rename_i r hr
    split at h
    · rename_i hk
      cases h
      exact ⟨r, hr, hk, rfl⟩
    · cases h
  · cases h
theorem aRefTy (t : Nat) (h1 : 4 ≤ t) (h2 : t < 7) : (aTy t).isReference = true := by
  rcases (show t = 4 ∨ t = 5 ∨ t = 6 by omega) with rfl | rfl | rfl <;> rfl
theorem defUp (G : aG) (ty : FieldType) : up G (defaultValue ty) = defaultValue ty := by cases ty <;> rfl
section SIM
variable {G : aG} {pq : Nat → Option aM} {p : Program} {l : Launch} {e : Env} {R : Room} {s : State} {m : MethodId} {args : Array Value} {below : List Frame} {meth : Method} {c : Code} {mi : aM} {Q' : State → Prop}
variable {cl : aC} {C S : Nat} {rt : Option FieldType} {ini : Bool} {Q : aQ}
theorem aCtx.K (X : aCtx G pq p s m args meth c mi) : va_K G.2.2.2 aCls (aTys G) s := X.2.2.2.2.2.2.2.2.1.2.1
theorem aCtx.ts (X : aCtx G pq p s m args meth c mi) : ∀ w ∈ lw_good, w.before args s = true := X.2.2.2.2.2.2.2.1
theorem aCtx.own (X : aCtx G pq p s m args meth c mi) : s.vm.findClass mi.own = some m.cls := X.2.2.2.2.2.1
theorem aCtx.alike (X : aCtx G pq p s m args meth c mi) : G.1.vm.Alike s.vm := X.2.2.2.2.2.2.2.2.1.1
theorem sm_26 (X : aCtx G pq p s m args meth c mi) : aRul cl mi.cd C S rt ini Q (aW G p l e R s m args below meth c mi Q') 26 := by
  intro k j ci f a fs v lo st h c1 s1 hg h16 hlt he hv hP H ls locs hH hl hq
  have K := hP H ls locs hH hl hq
  obtain ⟨hd, hn, w, hk⟩ := X.go hg rfl rfl
  rw [hn] at K
  simp only [lChk] at hk
  split at hk
  · rename_i q hq1
    obtain ⟨r, hr, hf, rfl⟩ := aFT_at hq1
    have hat := hH.at h16 hlt he
    have hPc : va_P G.2.2.2 aCls [(ad G a, trE G (.inr (ci, fs)))] H := fun i q hi => by
      have hz : i < 1 := (List.getElem?_eq_some_iff.mp hi).1
      rw [show i = 0 by omega] at hi
      cases hi
      exact hat
    exact va_get (cl := aCls) (D := G.2.2.2) (tys := aTys G) (C := r.1) (T := r.2.1) (N := r.2.2) (ci := ci) (own := mi.own) (fs := fs.map (up G)) X.1 X.2.1 X.ts (aIn_of hr) X.own X.K hPc 0 rfl hr f hf (X.ts _ (wIs_in hk)) (fun _ h => h) (by rw [List.getElem?_map, hv]; rfl) hd K
  · simp only [Bool.and_eq_true, decide_eq_true_eq] at hk
    obtain ⟨r, hr, -⟩ := hH.at h16 hlt he
    rw [hk.1] at hr
    cases hr
theorem aPut {cc : ByteArray} (hexec : p.tables.exec = Jvm.exec) (hb : c.code = cc) {H : Heap} {locs : List Loc} {cells slots pc : Nat} {ls : Array Slot} {rest : List Value} {own : String} {r : vw_C} {ci index : Nat} (hts : ∀ w ∈ lw_good, w.before args s = true) (hown : s.vm.findClass own = some m.cls) (hK : va_K G.2.2.2 aCls (aTys G) s) {a : Nat} {fs : List Value} (hat : va_at G.2.2.2 aCls (a, .inr (ci, fs)) H) (hc : aCls[ci]? = some r) (k : Nat) (hk : k < r.2.2) (hlink : (Cond.fieldLink own index (r.2.1 k).1 (r.2.1 k).2.1 (r.2.1 k).2.2.1).before args s = true) (hfin : (r.2.1 k).2.2.2 = false ∨ (meth.name = "<init>" ∧ (r.2.1 k).1 = own)) {ty : FieldType} {v : Value} (hd : parseFieldDescriptor (r.2.1 k).2.2.1 = some ty) (hn : narrow ty v = v) (hfit : fits ty v = true) (hl : k < fs.length)
    (hdg : decode cc pc = .ok (.putfield index, 3)) (kk : ∀ (H1 : Heap) (f : Nat), H1.size = H.size → (∀ q, q ≠ a → H1[q]? = H[q]?) → va_at G.2.2.2 aCls (a, .inr (ci, fs.set k v)) H1 → W p l e R s m args below meth c H1 (locs ++ [⟨a, f⟩]) cells slots Q' (F0 m (pc + 3) ls rest)) : W p l e R s m args below meth c H locs cells slots Q' (F0 m pc ls (v :: .ref a :: rest)) := by
  obtain ⟨ty0, hty⟩ := aTyk_of ci hc
  have hin := aIn_of hc
  have hap := va_apart (own := own) hts hin ty0 hty (aNm_of ci hc) hK hc
  obtain ⟨r', h1, cell, q1, q2, q3, q4⟩ := hat
  have hr : r' = r := Option.some.inj (h1.symm.trans hc)
  subst hr
  obtain ⟨hS, hfc, kC, hkC, hkind⟩ := hK.1 ci _ hc
  obtain ⟨cf, kf, fi, f, hi, hsl⟩ := hS k hk
  have hlay := hts _ (hin _ (u_in_lay hk))
  have hst := (u_facts hfc hkC (u_lays hts hin hk) hi).1
  have fin : ∀ H' : Heap, H'[a]? = some (cell.setSlot f.slot v) → H'.size = H.size → (∀ q, q ≠ a → H'[q]? = H[q]?) → W p l e R s m args below meth c H' (locs ++ [⟨a, f.slot⟩]) cells slots Q' (F0 m (pc + 3) ls rest) := by
    intro H' e1 e2 e3
    rw [hsl] at e1 ⊢
    exact kk H' _ e2 e3 ⟨_, hc, t_OB.to (V := updV (vp_V fs) k v) ⟨_, e1, q2, q3, t_set q4 hap hk v⟩ (fun j _ => vp_updV_set hl v j)⟩
  by_cases hf0 : (r'.2.1 k).2.2.2 = false
  · unfold u_lay at hlay
    rw [if_neg (by rw [hf0]; decide)] at hlay
    have h6 := u_store hfc hkC hkind hlay hi hd hn hfit
    exact W.putK hexec hb (f := f) ⟨hown, hlink, ⟨_, _, _, hi⟩, hst⟩ (by rw [q2]; exact h6) q1 q3 (by rw [hsl]; exact k2_hasslot (q4 k hk)) rfl rfl hdg fin
  · have hf1 : (r'.2.1 k).2.2.2 = true := by
      cases hb2 : (r'.2.1 k).2.2.2
      · exact absurd hb2 hf0
      · rfl
    obtain ⟨hin2, hdecl⟩ := hfin.resolve_left hf0
    unfold u_lay at hlay
    rw [if_pos hf1] at hlay
    have hcf : m.cls = cf := by
      obtain ⟨_, _, c', _, _, _, -, -, hf', -, -, -, hown2, -⟩ := Cond.laysFinal_spec hlay
      have e1 : c' = cf := by have := hi.symm.trans hf'; simp at this; exact this.1.symm
      rw [hdecl] at hown2
      rw [← e1]; exact Option.some.inj (hown.symm.trans hown2)
    have h6 := u_fits hfc hkC hkind (Or.inr hlay) hi hd hn hfit
    exact W.putFinK hexec hb hown hlink hi hst hcf hin2 (by rw [q2]; exact h6) q1 q3 (by rw [hsl]; exact k2_hasslot (q4 k hk)) rfl rfl hdg fin
theorem aLocs {locs : List Loc} (hq : ∀ q ∈ locs, G.1.heap.size ≤ q.base) {a f : Nat} (h : 16 ≤ a) : ∀ q ∈ locs ++ [(⟨ad G a, f⟩ : Loc)], G.1.heap.size ≤ q.base := by
  intro q hm
  rcases List.mem_append.mp hm with h1 | h1
  · exact hq q h1
  · rw [List.mem_singleton.mp h1]
    show _ ≤ ad G a
    rw [ad_hi h]; omega
theorem sm_27 (X : aCtx G pq p s m args meth c mi) : aRul cl mi.cd C S rt ini Q (aW G p l e R s m args below meth c mi Q') 27 := by
  intro k j ci f a fs v lo st h c1 s1 hg h16 hlt he hfl hfit hP H ls locs hH hl hq
  obtain ⟨hd, hn, w, hk⟩ := X.go hg rfl rfl
  simp only [lChk] at hk
  split at hk
  · rename_i q hq1
    obtain ⟨r, hr, hf, rfl⟩ := aFT_at hq1
    simp only [Bool.and_eq_true, Bool.or_eq_true, Bool.not_eq_true', decide_eq_true_eq] at hk
    obtain ⟨q2, ty, g1, g2, g3, g4⟩ := hfit
    cases hq1.symm.trans g1
    obtain ⟨g5, g6⟩ := up_fit (G := G) g3 g4
    refine aPut (G := G) X.1 X.2.1 X.ts X.own X.K (hH.at h16 hlt he) hr f hf (X.ts _ (wIs_in hk.1)) ?_ g2 g5 g6 (by rw [List.length_map]; exact hfl) hd fun H1 sl e2 e3 e4 => ?_
    · rcases hk.2 with z | z
      · exact Or.inl z
      · exact Or.inr ⟨X.2.2.2.2.2.2.1 z.1, z.2⟩
    · have K := hP H1 ls _ (hH.put h16 hlt e2 e3 (by rw [← List.map_set] at e4; exact e4)) hl (aLocs hq (f := sl) h16)
      rw [hn] at K
      exact K
  · cases hk
theorem aArrAt (X : aCtx G pq p s m args meth c mi) {H : Heap} {h : aH} (hH : aHp G H h) {a t n : Nat} {f : Nat → Int32} (ht : t < 7) (hlt : a < h.2) (he : h.1 a = .inl (t, n, .inl f)) : ∃ cell : Cell, H[ad G a]? = some cell ∧ s.isArrayOf cell (aTy t) ∧ cell.vm ≠ .unknown ∧ n ≤ cell.slots.size ∧ cell.slots.size.toInt32 = Int32.ofNat n ∧ ∀ j : Nat, j < n → cell.slots[j]? = some (.int (f j)) := by
  by_cases h16 : 16 ≤ a
  · have h1 : H[ad G a]? = some (vp_cell (G.2.2.1 t) (n, .inl f)) := hH.at h16 hlt he
    refine ⟨_, h1, ((X.K.2 t _ (aTys_at G ht)).1 n (fun j => .int (f j))), (fun q => by cases q), ?_, ?_, fun j hj => ?_⟩
    · rw [vp_cell_i, arrV_size]; exact Nat.le_refl _
    · rw [vp_cell_i, arrV_size]
    · rw [vp_cell_i, arrV_read _ _ hj]
  · have h5 := hH.2.2.2.2.1 a _ (by omega) he
    rw [he] at h5
    obtain ⟨cell, b1, b2, b3, b4, b5, b6, b7⟩ := va_T.moved X.alike h5
    refine ⟨cell, ?_, b2, b3, b4, b5, b6⟩
    rw [ad_lo (by omega), hH.2.2.1 _ (by omega)]
    exact b1
theorem sm_28 (X : aCtx G pq p s m args meth c mi) : aRul cl mi.cd C S rt ini Q (aW G p l e R s m args below meth c mi Q') 28 := by
  intro k x y a t u lo st h c1 s1 hg hlt he ht hP H ls locs hH hl hq
  have K := hP H ls locs hH hl hq
  obtain ⟨hd, hn, -⟩ := X.go hg rfl rfl
  rw [hn] at K
  by_cases h16 : 16 ≤ a
  · have h1 : H[ad G a]? = some (vp_cell (G.2.2.1 t) (trU G u)) := hH.at h16 hlt he
    have hc : ∃ z, vp_cell (G.2.2.1 t) (trU G u) = arrV (G.2.2.1 t) u.1 z := by
      obtain ⟨n, w⟩ := u
      rcases w with w | w | w | w | w
      · exact ⟨fun j => .int (w j), rfl⟩
      · exact ⟨fun j => .long (w j), rfl⟩
      · exact ⟨fun j => .float (w j), rfl⟩
      · exact ⟨fun j => .double (w j), rfl⟩
      · exact ⟨fun j => va_rf ((w j).map (ad G)), rfl⟩
    obtain ⟨z, hz⟩ := hc
    rw [hz] at h1
    exact W.alen X.1 X.2.1 h1 ((X.K.2 t _ (aTys_at G ht)).1 u.1 z) (by rw [arrV_size]) rfl rfl hd K
  · have h5 := hH.2.2.2.2.1 a _ (by omega) he
    obtain ⟨n, w⟩ := u
    rw [he] at h5
    rcases w with w | w
    · obtain ⟨cell, b1, b2, b3, b4, b5, b6⟩ := aArrAt X hH ht hlt he
      exact W.alen X.1 X.2.1 b1 b2 b5 rfl rfl hd K
    · exact absurd h5 (by simp [aCst])
theorem sm_29 (X : aCtx G pq p s m args meth c mi) : aRul cl mi.cd C S rt ini Q (aW G p l e R s m args below meth c mi Q') 29 := by
  intro k x y a n f i lo st h c1 s1 hg hlt he hin hP H ls locs hH hl hq
  have K := hP H ls locs hH hl hq
  obtain ⟨hd, hn, -⟩ := X.go hg rfl rfl
  rw [hn] at K
  obtain ⟨cell, b1, b2, b3, b4, b5, b6⟩ := aArrAt X hH (by decide) hlt he
  exact W.iald X.1 X.2.1 b1 b2 b3 (fun q => hin (q.imp id (fun z => Nat.le_trans b4 z))) (b6 _ (Nat.not_le.mp fun q => hin (Or.inr q))) rfl rfl hd K
theorem sm_30 (X : aCtx G pq p s m args meth c mi) : aRul cl mi.cd C S rt ini Q (aW G p l e R s m args below meth c mi Q') 30 := by
  intro k x y a t n f i lo st h c1 s1 hg hlt ht he hin hP H ls locs hH hl hq
  have K := hP H ls locs hH hl hq
  obtain ⟨hd, hn, -⟩ := X.go hg rfl rfl
  rw [hn] at K
  obtain ⟨cell, b1, b2, b3, b4, b5, b6⟩ := aArrAt X hH (by rcases ht with rfl | rfl <;> decide) hlt he
  rcases ht with rfl | rfl
  · exact W.zald X.1 X.2.1 b1 b2 b3 (fun q => hin (q.imp id (fun z => Nat.le_trans b4 z))) (b6 _ (Nat.not_le.mp fun q => hin (Or.inr q))) rfl rfl hd K
  · exact W.bald X.1 X.2.1 b1 b2 b3 (fun q => hin (q.imp id (fun z => Nat.le_trans b4 z))) (b6 _ (Nat.not_le.mp fun q => hin (Or.inr q))) rfl rfl hd K
theorem sm_31 (X : aCtx G pq p s m args meth c mi) : aRul cl mi.cd C S rt ini Q (aW G p l e R s m args below meth c mi Q') 31 := by
  intro k x y a n f i lo st h c1 s1 hg h16 hlt he hin hP H ls locs hH hl hq
  have K := hP H ls locs hH hl hq
  obtain ⟨hd, hn, -⟩ := X.go hg rfl rfl
  rw [hn] at K
  have h1 : H[ad G a]? = some (vp_cell (G.2.2.1 3) (n, .inr (.inl f))) := hH.at h16 hlt he
  have hl2 : i.toNatClampNeg < n := Nat.not_le.mp fun q => hin (Or.inr q)
  exact W.lald (v := .long (f i.toNatClampNeg)) X.1 X.2.1 h1 ((X.K.2 3 _ (aTys_at G (by decide))).1 n (fun j => .long (f j))) (fun q => by cases q) (by show ¬ (i < 0 ∨ (arrV _ _ _).slots.size ≤ _); rw [arrV_size]; exact hin) (by show (arrV _ _ _).slots[_]? = _; rw [arrV_read _ _ hl2]) rfl rfl hd K
theorem sm_32 (X : aCtx G pq p s m args meth c mi) : aRul cl mi.cd C S rt ini Q (aW G p l e R s m args below meth c mi Q') 32 := by
  intro k x y a t n f i lo st h c1 s1 hg h16 hlt ht4 ht7 he hin hP H ls locs hH hl hq
  have K := hP H ls locs hH hl hq
  obtain ⟨hd, hn, -⟩ := X.go hg rfl rfl
  rw [hn] at K
  have h1 : H[ad G a]? = some (vp_cell (G.2.2.1 t) (n, .inr (.inr (.inr (.inr (fun j => (f j).map (ad G))))))) := hH.at h16 hlt he
  have hl2 : i.toNatClampNeg < n := Nat.not_le.mp fun q => hin (Or.inr q)
  have hty := aRefTy t ht4 ht7
  exact W.aald (v := up G (aRef (f i.toNatClampNeg))) (ty := aTy t) X.1 X.2.1 h1 ((X.K.2 t _ (aTys_at G ht7)).1 n (fun j => va_rf ((f j).map (ad G)))) hty (fun q => by cases q) (by show ¬ (i < 0 ∨ (arrV _ _ _).slots.size ≤ _); rw [arrV_size]; exact hin) (by show (arrV _ _ _).slots[_]? = _; rw [arrV_read _ _ hl2, up_rf]) rfl rfl hd K
theorem sm_33 (X : aCtx G pq p s m args meth c mi) : aRul cl mi.cd C S rt ini Q (aW G p l e R s m args below meth c mi Q') 33 := by
  intro k x y a n f i v lo st h c1 s1 hg h16 hlt he hin hP H ls locs hH hl hq
  obtain ⟨hd, hn, -⟩ := X.go hg rfl rfl
  have h1 : H[ad G a]? = some (vp_cell (G.2.2.1 0) (n, .inl f)) := hH.at h16 hlt he
  refine W.iast X.1 X.2.1 h1 ((X.K.2 0 _ (aTys_at G (by decide))).1 n (fun j => .int (f j))) (fun q => by cases q) (by show ¬ (i < 0 ∨ (arrV _ _ _).slots.size ≤ _); rw [arrV_size]; exact hin) rfl rfl hd fun H1 e1 z oq => ?_
  have K := hP H1 ls _ (hH.put h16 hlt z oq (by
    show H1[ad G a]? = some (vp_cell _ _)
    rw [e1]
    show _ = some (vp_cell (G.2.2.1 0) (n, .inl (upd f i.toNatClampNeg v)))
    rw [vp_cell_i, vp_cell_i, arrV_store]
    congr 2
    funext q
    by_cases hq : q = i.toNatClampNeg
    · subst hq; simp [updV, upd]
    · simp [updV, upd, hq])) hl (aLocs hq (f := i.toNatClampNeg) h16)
  rw [hn] at K
  exact K
theorem sm_34 (X : aCtx G pq p s m args meth c mi) : aRul cl mi.cd C S rt ini Q (aW G p l e R s m args below meth c mi Q') 34 := by
  intro k x y a n f i v lo st h c1 s1 hg h16 hlt he hin hP H ls locs hH hl hq
  obtain ⟨hd, hn, -⟩ := X.go hg rfl rfl
  have h1 : H[ad G a]? = some (vp_cell (G.2.2.1 1) (n, .inl f)) := hH.at h16 hlt he
  refine W.zast X.1 X.2.1 h1 ((X.K.2 1 _ (aTys_at G (by decide))).1 n (fun j => .int (f j))) (fun q => by cases q) (by show ¬ (i < 0 ∨ (arrV _ _ _).slots.size ≤ _); rw [arrV_size]; exact hin) rfl rfl hd fun H1 e1 z oq => ?_
  have K := hP H1 ls _ (hH.put h16 hlt z oq (by
    show H1[ad G a]? = some (vp_cell _ _)
    rw [e1]
    show _ = some (vp_cell (G.2.2.1 1) (n, .inl (upd f i.toNatClampNeg (vp_nar .boolean v))))
    rw [vp_cell_i, vp_cell_i, arrV_store]
    congr 2
    funext q
    by_cases hq : q = i.toNatClampNeg
    · subst hq; simp [updV, upd, vp_nar, narrow]
    · simp [updV, upd, hq])) hl (aLocs hq (f := i.toNatClampNeg) h16)
  rw [hn] at K
  exact K
theorem sm_35 (X : aCtx G pq p s m args meth c mi) : aRul cl mi.cd C S rt ini Q (aW G p l e R s m args below meth c mi Q') 35 := by
  intro k x y a n f i v lo st h c1 s1 hg h16 hlt he hin hP H ls locs hH hl hq
  obtain ⟨hd, hn, -⟩ := X.go hg rfl rfl
  have h1 : H[ad G a]? = some (vp_cell (G.2.2.1 2) (n, .inl f)) := hH.at h16 hlt he
  refine W.bast X.1 X.2.1 h1 ((X.K.2 2 _ (aTys_at G (by decide))).1 n (fun j => .int (f j))) (fun q => by cases q) (by show ¬ (i < 0 ∨ (arrV _ _ _).slots.size ≤ _); rw [arrV_size]; exact hin) rfl rfl hd fun H1 e1 z oq => ?_
  have K := hP H1 ls _ (hH.put h16 hlt z oq (by
    show H1[ad G a]? = some (vp_cell _ _)
    rw [e1]
    show _ = some (vp_cell (G.2.2.1 2) (n, .inl (upd f i.toNatClampNeg (vp_nar .byte v))))
    rw [vp_cell_i, vp_cell_i, arrV_store]
    congr 2
    funext q
    by_cases hq : q = i.toNatClampNeg
    · subst hq; simp [updV, upd, vp_nar, narrow]
    · simp [updV, upd, hq])) hl (aLocs hq (f := i.toNatClampNeg) h16)
  rw [hn] at K
  exact K
theorem sm_36 (X : aCtx G pq p s m args meth c mi) : aRul cl mi.cd C S rt ini Q (aW G p l e R s m args below meth c mi Q') 36 := by
  intro k x y a n f i v lo st h c1 s1 hg h16 hlt he hin hP H ls locs hH hl hq
  obtain ⟨hd, hn, -⟩ := X.go hg rfl rfl
  have h1 : H[ad G a]? = some (vp_cell (G.2.2.1 3) (n, .inr (.inl f))) := hH.at h16 hlt he
  refine W.last X.1 X.2.1 h1 ((X.K.2 3 _ (aTys_at G (by decide))).1 n (fun j => .long (f j))) (fun q => by cases q) (by show ¬ (i < 0 ∨ (arrV _ _ _).slots.size ≤ _); rw [arrV_size]; exact hin) rfl rfl hd fun H1 e1 z oq => ?_
  have K := hP H1 ls _ (hH.put h16 hlt z oq (by
    show H1[ad G a]? = some (vp_cell _ _)
    rw [e1]
    show _ = some (vp_cell (G.2.2.1 3) (n, .inr (.inl (vp_updL f i.toNatClampNeg v))))
    rw [vp_cell_l, vp_cell_l, arrV_store]
    congr 2
    funext q
    by_cases hq : q = i.toNatClampNeg
    · subst hq; simp [updV, vp_updL]
    · simp [updV, vp_updL, hq])) hl (aLocs hq (f := i.toNatClampNeg) h16)
  rw [hn] at K
  exact K
theorem sm_37 (X : aCtx G pq p s m args meth c mi) : aRul cl mi.cd C S rt ini Q (aW G p l e R s m args below meth c mi Q') 37 := by
  intro k x y a t n f i b ci fs q0 lo st h c1 s1 hg h16 hlt ht4 ht7 he hin hb16 hblt hbe hc hty hP H ls locs hH hl hq
  obtain ⟨hd, hn, -⟩ := X.go hg rfl rfl
  have h1 : H[ad G a]? = some (vp_cell (G.2.2.1 t) (n, .inr (.inr (.inr (.inr (fun j => (f j).map (ad G))))))) := hH.at h16 hlt he
  have hl2 : i.toNatClampNeg < n := Nat.not_le.mp fun q => hin (Or.inr q)
  have h0 : ¬ i < 0 := fun q => hin (Or.inl q)
  obtain ⟨r', hr', cellV, g1, g2, g3, -⟩ := hH.at hb16 hblt hbe
  have hcls := (X.K.1 ci q0 hc).2
  have hRA := (X.K.2 t _ (aTys_at G ht7)).2
  rw [hty] at hRA
  obtain ⟨kA, comp, k1, k2, k3, -⟩ := hRA
  have hcomp : comp = G.2.2.2.1 ci := Option.some.inj (k3.symm.trans hcls.1)
  subst hcomp
  obtain ⟨kC, hkC, -⟩ := hcls.2
  refine W.aast X.1 X.2.1 h1 (fun q h => by cases h) (fun h => by cases h) k1 k2 rfl hkC ⟨h0, by show _ < (arrV _ _ _).slots.size; rw [arrV_size]; exact hl2⟩ g1 (fun q h => by rw [g3] at h; cases h) (by rw [g2]; exact hkC) (by rw [g2]; exact va_assign hcls) rfl rfl hd fun H1 e1 z oq => ?_
  have K := hP H1 ls _ (hH.put h16 hlt z oq (by
    show H1[ad G a]? = some (vp_cell _ _)
    rw [e1]
    show _ = some (vp_cell (G.2.2.1 t) (n, .inr (.inr (.inr (.inr (fun j => (va_up f i.toNatClampNeg (some b) j).map (ad G)))))))
    rw [vp_cell_q, vp_cell_q, arrV_store]
    congr 2
    funext q
    by_cases hq : q = i.toNatClampNeg
    · subst hq; simp [updV, va_up, va_rf]
    · simp [updV, va_up, hq])) hl (aLocs hq (f := i.toNatClampNeg) h16)
  rw [hn] at K
  exact K
end SIM
