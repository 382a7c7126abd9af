/-! ===== the club is made ===== -/
theorem g_superA {σ : Type} {Rp : σ → aH → Prop} {Fr : aH → aH → Prop} {cl : aC} {cd : List aE} {C S : Nat} {rt : Option FieldType} {Q : Option Value → σ → Prop} {k : Nat} {l : aL} {st sk : List Value} {u : σ} {c s : Nat} {j x n a y : Nat} (as : List Value) (mc ms : Nat) (hft : ∀ a b d, Fr a b → Fr b d → Fr a d) (hg : aGet cd k = some (.invokespecial j, x, y)) (hy : y = n + 1000) (hx : x < 1000) (hn : as.length = n) (hob : ∀ h, Rp u h → 16 ≤ a ∧ a < h.2 ∧ ∃ fs, h.1 a = .inr (0, fs)) (hst : as.reverse ++ .ref a :: st = sk) (hcat : aCat st ≤ 8) (hc : c + mc ≤ C) (hs : s + ms ≤ S) (hC : gR Rp Fr cl x (.ref a :: as) u mc ms (fun r u' => r = none ∧ gB Rp Fr cl cd C S rt Q (k + 1) l st u' (c + mc) (s + ms))) : gB Rp Fr cl cd C S rt Q k l sk u c s := by
  intro h0 h QQ hR hF hQ P hr
  obtain ⟨b1, b2, fs, b3⟩ := hob h hR
  subst hy
  refine hst ▸ hr 52 k _ x n a as st mc ms fs l h c s hg ⟨j, rfl⟩ hx hn b1 b2 b3 hcat hc hs (hC h _ hR (fun r h' u' hR' hF' hB => ?_))
  obtain ⟨rfl, hB⟩ := hB
  exact hB h0 h' QQ hR' (hft h0 h h' hF hF') hQ P hr
set_option maxRecDepth 20000 in
theorem w_endInit {pr : aC} {d : Nat} {u : cS} (a : Nat) (hk : u.kd a = 34) (ha : a < u.tp) (hp : u.tp < 25 ∨ 50 ≤ u.tp) {Q : Option Value → cS → Prop} (hQ : Q none (upR (mkO u 2) a 0 (some u.tp))) : gR CF cFr (aRun pg pr (d + 1)) 34 [.ref a] u 1 4 Q := by
  refine gR_of mi_34 cFr_rf rfl (Nat.le_of_ble_eq_true rfl) ?_
  show gB CF cFr (aRun pg pr (d)) cd_34 1 4 none Q 0 [some (.ref a)] [] u 0 0
  refine g_load rfl rfl rfl trivial ?_
  refine g_objInit rfl (Nat.le_of_ble_eq_true rfl) ?_
  refine g_load rfl rfl rfl trivial ?_
  refine g_iconst (nI 4) rfl (by decide) ?_
  refine c_newa 2 4 rfl (by decide) rfl (by decide) (by assumption) (Nat.le_of_ble_eq_true rfl) (Nat.le_of_ble_eq_true rfl) (by simp [cCell, mkO, aArr0, cS.rI, cS.rL, cS.rR, cS.tp]) ?_
  refine c_putr (v := some u.tp) rfl (κ := 34) (by exact (mk_n ha).trans hk) (by decide) (by rfl) (Nat.le_of_ble_eq_true rfl) ⟨_, _, rfl, rfl, rfl, rfl⟩ 0 (by simp [cCell, upR, u2, cS.kd, cS.oI, cS.rI, cS.rL, cS.rR, cS.tp]) rfl ?_
  refine g_ret rfl rfl (Nat.le_of_ble_eq_true rfl) (Nat.le_of_ble_eq_true rfl) ?_
  exact hQ
set_option maxRecDepth 20000 in
theorem w_sbInit5 {pr : aC} {d : Nat} {u : cS} (a : Nat) (hk : u.kd a = 35) (ha : a < u.tp) (hp : u.tp < 25 ∨ 50 ≤ u.tp) {Q : Option Value → cS → Prop} (hQ : Q none (upO (upR (mkO u 16) a 0 (some u.tp)) a 1 (nI 0))) : gR CF cFr (aRun pg pr (d + 1)) 231 [.ref a, .int (nI 16)] u 1 16 Q := by
  refine gR_of mi_231 cFr_rf rfl (Nat.le_of_ble_eq_true rfl) ?_
  show gB CF cFr (aRun pg pr (d)) cd_231 1 16 none Q 0 [some (.ref a), some (.int (nI 16))] [] u 0 0
  refine g_load rfl rfl rfl trivial ?_
  refine g_objInit rfl (Nat.le_of_ble_eq_true rfl) ?_
  refine g_gets1 1 rfl rfl ?_
  refine g_if_eq rfl (fun c1 => ?_) (fun c1 => ?_)
  · exact absurd c1 (by decide)
  · refine g_load rfl rfl rfl trivial ?_
    refine g_load rfl rfl rfl trivial ?_
    refine c_newa 16 16 rfl (by decide) rfl (by decide) (by assumption) (Nat.le_of_ble_eq_true rfl) (Nat.le_of_ble_eq_true rfl) (by simp [cCell, mkO, aArr0, cS.rI, cS.rL, cS.rR, cS.tp]) ?_
    refine c_putr (v := some u.tp) rfl (κ := 35) (by exact (mk_n ha).trans hk) (by decide) (by rfl) (Nat.le_of_ble_eq_true rfl) ⟨_, _, rfl, rfl, rfl, rfl⟩ 0 (by simp [cCell, upR, u2, cS.kd, cS.oI, cS.rI, cS.rL, cS.rR, cS.tp]) rfl ?_
    refine g_load rfl rfl rfl trivial ?_
    refine g_iconst (nI 0) rfl (by decide) ?_
    refine c_puti rfl (κ := 35) (by exact (mk_n ha).trans hk) (by decide) (by rfl) (Nat.le_of_ble_eq_true rfl) ⟨_, _, rfl, rfl, rfl, rfl⟩ (by simp [cCell, upO, u2, cS.kd, cS.oI, cS.rI, cS.rL, cS.rR, cS.tp]) ?_
    refine g_goto rfl ?_
    refine g_ret rfl rfl (Nat.le_of_ble_eq_true rfl) (Nat.le_of_ble_eq_true rfl) ?_
    exact hQ
set_option maxRecDepth 20000 in
theorem w_sbInit {pr : aC} {d : Nat} {u : cS} (a : Nat) (hk : u.kd a = 35) (ha : a < u.tp) (hp : u.tp < 25 ∨ 50 ≤ u.tp) {Q : Option Value → cS → Prop} (hQ : Q none (upO (upR (mkO u 16) a 0 (some u.tp)) a 1 (nI 0))) : gR CF cFr (aRun pg pr (d + 1 + 1)) 230 [.ref a] u 1 16 Q := by
  refine gR_of mi_230 cFr_rf rfl (Nat.le_of_ble_eq_true rfl) ?_
  show gB CF cFr (aRun pg pr (d + 1)) cd_230 1 16 none Q 0 [some (.ref a)] [] u 0 0
  refine g_load rfl rfl rfl trivial ?_
  refine g_bipush (nI 16) rfl (by decide) ?_
  refine g_special (n := 1) [.int (nI 16)] 1 16 cFr_tr rfl (by decide) (by decide) rfl rfl (Nat.le_of_ble_eq_true rfl) (Nat.le_of_ble_eq_true rfl) (Nat.le_of_ble_eq_true rfl) (w_sbInit5 a hk ha hp ?_)
  refine g_ret rfl rfl (Nat.le_of_ble_eq_true rfl) (Nat.le_of_ble_eq_true rfl) ?_
  exact hQ
/-- nothing is there yet; the club as it is made -/
def iZ : cS := (fun _ => 0, fun _ _ => 0, fun _ _ => 0, fun _ _ => 0, fun _ _ => none, 16)
def iK (b : Nat) : Nat := if b = 16 then 10 else if b = 17 then 11 else if b = 18 then 12 else if b = 19 then 13 else if b = 20 then 7 else if b = 21 then 14 else if b = 22 then 2 else if b = 23 then 15 else if b = 24 then 16 else 0
def iC : cS := (iK, fun _ _ => 0, fun _ _ => 0, fun _ _ => 0, fun _ _ => none, 25)
def iA1 : cS := upR (mkO (mkO iZ 30) 11) 16 0 (some 17)
def iA2 : cS := upR (mkO iA1 12) 16 2 (some 18)
def iA3 : cS := upR (mkO iA2 13) 16 3 (some 19)
def iA4 : cS := upR (mkO iA3 7) 16 5 (some 20)
def iA5 : cS := upR (upR (mkO (mkO iA4 34) 2) 21 0 (some 22)) 16 6 (some 21)
def iA6 : cS := upR (upO (upR (mkO (mkO iA5 35) 16) 23 0 (some 24)) 23 1 (nI 0)) 16 7 (some 23)
set_option maxRecDepth 20000 in
theorem w_clubInit {pr : aC} {d : Nat}  {Q : Option Value → cS → Prop} (hQ : Q none iA6) : gR CF cFr (aRun pg pr (d + 2 + 1)) 107 [.ref 16] (mkO iZ 30) 8 340 Q := by
  refine gR_of mi_107 cFr_rf rfl (Nat.le_of_ble_eq_true rfl) ?_
  show gB CF cFr (aRun pg pr (d + 2)) cd_107 8 340 none Q 0 [some (.ref 16)] [] (mkO iZ 30) 0 0
  refine g_load rfl rfl rfl trivial ?_
  refine g_objInit rfl (Nat.le_of_ble_eq_true rfl) ?_
  refine g_load rfl rfl rfl trivial ?_
  refine g_bipush (nI 36) rfl (by decide) ?_
  refine c_anew 11 36 rfl ⟨by decide, by decide⟩ rfl (by decide) (Or.inl (by decide)) (Nat.le_of_ble_eq_true rfl) (Nat.le_of_ble_eq_true rfl) (by simp [cCell, mkO, aArr0, cS.rI, cS.rL, cS.rR, cS.tp]) ?_
  refine c_putr (v := some 17) rfl (κ := 30) (by rfl) (by decide) (by rfl) (Nat.le_of_ble_eq_true rfl) ⟨_, _, rfl, rfl, rfl, rfl⟩ 0 (by rfl) rfl ?_
  show gB CF cFr _ _ _ _ _ _ _ _ _ iA1 _ _
  refine g_load rfl rfl rfl trivial ?_
  refine g_bipush (nI 10) rfl (by decide) ?_
  refine c_anew 12 10 rfl ⟨by decide, by decide⟩ rfl (by decide) (Or.inl (by decide)) (Nat.le_of_ble_eq_true rfl) (Nat.le_of_ble_eq_true rfl) (by simp [cCell, mkO, aArr0, cS.rI, cS.rL, cS.rR, cS.tp]) ?_
  refine c_putr (v := some 18) rfl (κ := 30) (by rfl) (by decide) (by rfl) (Nat.le_of_ble_eq_true rfl) ⟨_, _, rfl, rfl, rfl, rfl⟩ 2 (by rfl) rfl ?_
  show gB CF cFr _ _ _ _ _ _ _ _ _ iA2 _ _
  refine g_load rfl rfl rfl trivial ?_
  refine g_sipush (nI 210) rfl (by decide) ?_
  refine c_anew 13 210 rfl ⟨by decide, by decide⟩ rfl (by decide) (Or.inl (by decide)) (Nat.le_of_ble_eq_true rfl) (Nat.le_of_ble_eq_true rfl) (by simp [cCell, mkO, aArr0, cS.rI, cS.rL, cS.rR, cS.tp]) ?_
  refine c_putr (v := some 19) rfl (κ := 30) (by rfl) (by decide) (by rfl) (Nat.le_of_ble_eq_true rfl) ⟨_, _, rfl, rfl, rfl, rfl⟩ 3 (by rfl) rfl ?_
  show gB CF cFr _ _ _ _ _ _ _ _ _ iA3 _ _
  refine g_load rfl rfl rfl trivial ?_
  refine g_bipush (nI 52) rfl (by decide) ?_
  refine c_newa 7 52 rfl (by decide) rfl (by decide) (Or.inl (by decide)) (Nat.le_of_ble_eq_true rfl) (Nat.le_of_ble_eq_true rfl) (by simp [cCell, mkO, aArr0, cS.rI, cS.rL, cS.rR, cS.tp]) ?_
  refine c_putr (v := some 20) rfl (κ := 30) (by rfl) (by decide) (by rfl) (Nat.le_of_ble_eq_true rfl) ⟨_, _, rfl, rfl, rfl, rfl⟩ 5 (by rfl) rfl ?_
  show gB CF cFr _ _ _ _ _ _ _ _ _ iA4 _ _
  refine g_load rfl rfl rfl trivial ?_
  refine c_new 34 rfl (Or.inl (by decide)) (Nat.le_of_ble_eq_true rfl) (Nat.le_of_ble_eq_true rfl) (by simp [cCell, mkO, aDef, aCls, vwCl, cS.oI, cS.rR, cS.tp]; rfl) ?_
  refine g_dup rfl rfl ?_
  refine g_special (n := 0) [] 1 4 cFr_tr rfl (by decide) (by decide) rfl rfl (Nat.le_of_ble_eq_true rfl) (Nat.le_of_ble_eq_true rfl) (Nat.le_of_ble_eq_true rfl) (w_endInit 21 (by rfl) (by decide) (Or.inl (by decide)) ?_)
  refine c_putr (v := some 21) rfl (κ := 30) (by rfl) (by decide) (by rfl) (Nat.le_of_ble_eq_true rfl) ⟨_, _, rfl, rfl, rfl, rfl⟩ 6 (by rfl) rfl ?_
  show gB CF cFr _ _ _ _ _ _ _ _ _ iA5 _ _
  refine g_load rfl rfl rfl trivial ?_
  refine c_new 35 rfl (Or.inl (by decide)) (Nat.le_of_ble_eq_true rfl) (Nat.le_of_ble_eq_true rfl) (by simp [cCell, mkO, aDef, aCls, vwCl, cS.oI, cS.rR, cS.tp]; rfl) ?_
  refine g_dup rfl rfl ?_
  refine g_special (n := 0) [] 1 16 cFr_tr rfl (by decide) (by decide) rfl rfl (Nat.le_of_ble_eq_true rfl) (Nat.le_of_ble_eq_true rfl) (Nat.le_of_ble_eq_true rfl) (w_sbInit 23 (by rfl) (by decide) (Or.inl (by decide)) ?_)
  refine c_putr (v := some 23) rfl (κ := 30) (by rfl) (by decide) (by rfl) (Nat.le_of_ble_eq_true rfl) ⟨_, _, rfl, rfl, rfl, rfl⟩ 7 (by rfl) rfl ?_
  show gB CF cFr _ _ _ _ _ _ _ _ _ iA6 _ _
  refine g_ret rfl rfl (Nat.le_of_ble_eq_true rfl) (Nat.le_of_ble_eq_true rfl) ?_
  exact hQ
theorem iC_view {h : aH} (hR : CF iA6 h) : CF iC h := by
  refine hR.view rfl (fun b hb => ?_)
  have hb' : iK b ≠ 0 := hb
  have hc : b = 16 ∨ b = 17 ∨ b = 18 ∨ b = 19 ∨ b = 20 ∨ b = 21 ∨ b = 22 ∨ b = 23 ∨ b = 24 := by
    unfold iK at hb'
    apply Classical.byContradiction
    intro z
    apply hb'
    rw [if_neg (by omega), if_neg (by omega), if_neg (by omega), if_neg (by omega), if_neg (by omega), if_neg (by omega), if_neg (by omega), if_neg (by omega), if_neg (by omega)]
  rcases hc with e | e | e | e | e | e | e | e | e <;> subst e <;> exact ⟨by decide, by rfl⟩
