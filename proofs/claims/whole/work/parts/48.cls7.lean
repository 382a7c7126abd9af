/-! ===== the class: what is made ===== -/
theorem CF.view {u u' : cS} {h : aH} (hR : CF u h) (htp : u'.tp = u.tp) (hv : ∀ b, u'.kd b ≠ 0 → u.kd b ≠ 0 ∧ cCell u' b (u'.kd b) = cCell u b (u.kd b)) : CF u' h := by
  obtain ⟨h1, h2, h3⟩ := hR
  refine ⟨⟨h1.1, h1.2.trans htp.symm⟩, h2, fun b hb => ?_⟩
  obtain ⟨e1, e2⟩ := hv b hb
  have h4 := h3 b e1
  rw [e2]; exact h4
theorem mk_s (u : cS) (κ : Nat) : (mkO u κ).kd u.tp = κ := if_pos rfl
theorem mk_n {u : cS} {κ b : Nat} (h : b < u.tp) : (mkO u κ).kd b = u.kd b := if_neg (by omega)
theorem mk_O {u : cS} {κ b : Nat} (h : b < u.tp) : (mkO u κ).oI b = u.oI b := if_neg (by omega)
theorem mk_I {u : cS} {κ b : Nat} (h : b < u.tp) : (mkO u κ).rI b = u.rI b := if_neg (by omega)
theorem mk_L {u : cS} {κ b : Nat} (h : b < u.tp) : (mkO u κ).rL b = u.rL b := if_neg (by omega)
theorem mk_R {u : cS} {κ b : Nat} (h : b < u.tp) : (mkO u κ).rR b = u.rR b := if_neg (by omega)
set_option maxRecDepth 20000 in
theorem w_auctionInit {pr : aC} {d : Nat} {u : cS} (a : Nat) (hk : u.kd a = 24) (ha : a < u.tp) (hp : u.tp < 25 ∨ 50 ≤ u.tp) {Q : Option Value → cS → Prop} (hQ : Q none (upR (mkO u 5) a 1 (some u.tp))) : gR CF cFr (aRun pg pr (d + 1)) 0 [.ref a] u 1 319 Q := by
  refine gR_of mi_0 cFr_rf rfl (Nat.le_of_ble_eq_true rfl) ?_
  show gB CF cFr (aRun pg pr (d)) cd_0 1 319 none Q 0 [some (.ref a)] [] u 0 0
  refine g_load rfl rfl rfl trivial ?_
  refine g_objInit rfl (Nat.le_of_ble_eq_true rfl) ?_
  refine g_load rfl rfl rfl trivial ?_
  refine g_sipush (nI 319) rfl (by decide) ?_
  refine c_newa 5 319 rfl (by decide) rfl (by decide) (by assumption) (Nat.le_of_ble_eq_true rfl) (Nat.le_of_ble_eq_true rfl) (by simp [cCell, mkO, aArr0, cS.rI, cS.rL, cS.rR, cS.tp]) ?_
  refine c_putr (v := some u.tp) rfl (κ := 24) (by exact (mk_n ha).trans hk) (by decide) (by rfl) (Nat.le_of_ble_eq_true rfl) ⟨_, _, rfl, rfl, rfl, rfl⟩ 1 (by simp [cCell, upR, u2, cS.kd, cS.oI, cS.rI, cS.rL, cS.rR, cS.tp]) rfl ?_
  refine g_ret rfl rfl (Nat.le_of_ble_eq_true rfl) (Nat.le_of_ble_eq_true rfl) ?_
  exact hQ
set_option maxRecDepth 20000 in
theorem w_playInit {pr : aC} {d : Nat} {u : cS} (a : Nat) (hk : u.kd a = 26) (ha : a < u.tp) (hp : u.tp < 25 ∨ 50 ≤ u.tp) (hp1 : u.tp + 1 < 25 ∨ 50 ≤ u.tp + 1) {Q : Option Value → cS → Prop} (hQ : Q none (upR (mkO (upR (mkO u 7) a 1 (some u.tp)) 8) a 2 (some (u.tp + 1)))) : gR CF cFr (aRun pg pr (d + 1)) 43 [.ref a] u 2 66 Q := by
  refine gR_of mi_43 cFr_rf rfl (Nat.le_of_ble_eq_true rfl) ?_
  show gB CF cFr (aRun pg pr (d)) cd_43 2 66 none Q 0 [some (.ref a)] [] u 0 0
  refine g_load rfl rfl rfl trivial ?_
  refine g_objInit rfl (Nat.le_of_ble_eq_true rfl) ?_
  refine g_load rfl rfl rfl trivial ?_
  refine g_bipush (nI 52) rfl (by decide) ?_
  refine c_newa 7 52 rfl (by decide) rfl (by decide) (by assumption) (Nat.le_of_ble_eq_true rfl) (Nat.le_of_ble_eq_true rfl) (by simp [cCell, mkO, aArr0, cS.rI, cS.rL, cS.rR, cS.tp]) ?_
  refine c_putr (v := some u.tp) rfl (κ := 26) (by exact (mk_n ha).trans hk) (by decide) (by rfl) (Nat.le_of_ble_eq_true rfl) ⟨_, _, rfl, rfl, rfl, rfl⟩ 1 (by simp [cCell, upR, u2, cS.kd, cS.oI, cS.rI, cS.rL, cS.rR, cS.tp]) rfl ?_
  refine g_load rfl rfl rfl trivial ?_
  refine g_bipush (nI 14) rfl (by decide) ?_
  refine c_newa 8 14 rfl (by decide) rfl (by decide) (by assumption) (Nat.le_of_ble_eq_true rfl) (Nat.le_of_ble_eq_true rfl) (by simp [cCell, mkO, aArr0, cS.rI, cS.rL, cS.rR, cS.tp]) ?_
  refine c_putr (v := some (u.tp + 1)) rfl (κ := 26) (by exact (if_neg (by show ¬ a = u.tp + 1; omega) : _).trans ((mk_n ha).trans hk)) (by decide) (by rfl) (Nat.le_of_ble_eq_true rfl) ⟨_, _, rfl, rfl, rfl, rfl⟩ 2 (by simp [cCell, upR, u2, cS.kd, cS.oI, cS.rI, cS.rL, cS.rR, cS.tp]) rfl ?_
  refine g_ret rfl rfl (Nat.le_of_ble_eq_true rfl) (Nat.le_of_ble_eq_true rfl) ?_
  exact hQ
set_option maxRecDepth 20000 in
theorem w_boardInit {pr : aC} {d : Nat} {u : cS} (a : Nat) (n : Int32) (hk : u.kd a = 21) (ha : a < u.tp) (hp : u.tp < 25 ∨ 50 ≤ u.tp) {Q : Option Value → cS → Prop} (hQ : Q none (upO (upR (mkO u 2) a 1 (some u.tp)) a 0 n)) : gR CF cFr (aRun pg pr (d + 1)) 15 [.ref a, .int n] u 1 4 Q := by
  refine gR_of mi_15 cFr_rf rfl (Nat.le_of_ble_eq_true rfl) ?_
  show gB CF cFr (aRun pg pr (d)) cd_15 1 4 none Q 0 [some (.ref a), some (.int n)] [] u 0 0
  refine g_load rfl rfl rfl trivial ?_
  refine g_objInit rfl (Nat.le_of_ble_eq_true rfl) ?_
  refine g_load rfl rfl rfl trivial ?_
  refine g_iconst (nI 4) rfl (by decide) ?_
  refine c_newa 2 4 rfl (by decide) rfl (by decide) (by assumption) (Nat.le_of_ble_eq_true rfl) (Nat.le_of_ble_eq_true rfl) (by simp [cCell, mkO, aArr0, cS.rI, cS.rL, cS.rR, cS.tp]) ?_
  refine c_putr (v := some u.tp) rfl (κ := 21) (by exact (mk_n ha).trans hk) (by decide) (by rfl) (Nat.le_of_ble_eq_true rfl) ⟨_, _, rfl, rfl, rfl, rfl⟩ 1 (by simp [cCell, upR, u2, cS.kd, cS.oI, cS.rI, cS.rL, cS.rR, cS.tp]) rfl ?_
  refine g_load rfl rfl rfl trivial ?_
  refine g_load rfl rfl rfl trivial ?_
  refine c_puti rfl (κ := 21) (by exact (mk_n ha).trans hk) (by decide) (by rfl) (Nat.le_of_ble_eq_true rfl) ⟨_, _, rfl, rfl, rfl, rfl⟩ (by simp [cCell, upO, u2, cS.kd, cS.oI, cS.rI, cS.rL, cS.rR, cS.tp]) ?_
  refine g_ret rfl rfl (Nat.le_of_ble_eq_true rfl) (Nat.le_of_ble_eq_true rfl) ?_
  exact hQ
def rsN (u : cS) (a : Nat) (b n e : Int32) : cS := upO (upO (upO (upO (upO (upO (upO u a 4 (-1)) a 5 (-1)) a 6 (-1)) a 7 (-1)) a 0 b) a 1 n) a 2 e
set_option maxRecDepth 20000 in
theorem w_resultInit {pr : aC} {d : Nat} {u : cS} (a : Nat) (b n e : Int32) (hk : u.kd a = 9) {Q : Option Value → cS → Prop} (hQ : Q none (rsN u a b n e)) : gR CF cFr (aRun pg pr (d + 1)) 62 [.ref a, .int b, .int n, .int e] u 0 0 Q := by
  refine gR_of mi_62 cFr_rf rfl (Nat.le_of_ble_eq_true rfl) ?_
  show gB CF cFr (aRun pg pr (d)) cd_62 0 0 none Q 0 [some (.ref a), some (.int b), some (.int n), some (.int e)] [] u 0 0
  refine g_load rfl rfl rfl trivial ?_
  refine g_objInit rfl (Nat.le_of_ble_eq_true rfl) ?_
  refine g_load rfl rfl rfl trivial ?_
  refine g_iconst (-1) rfl (by decide) ?_
  refine c_puti rfl (κ := 9) (by exact hk) (by decide) (by rfl) (Nat.le_of_ble_eq_true rfl) ⟨_, _, rfl, rfl, rfl, rfl⟩ (by simp [cCell, upO, u2, cS.kd, cS.oI, cS.rI, cS.rL, cS.rR, cS.tp]) ?_
  refine g_load rfl rfl rfl trivial ?_
  refine g_iconst (-1) rfl (by decide) ?_
  refine c_puti rfl (κ := 9) (by exact hk) (by decide) (by rfl) (Nat.le_of_ble_eq_true rfl) ⟨_, _, rfl, rfl, rfl, rfl⟩ (by simp [cCell, upO, u2, cS.kd, cS.oI, cS.rI, cS.rL, cS.rR, cS.tp]) ?_
  refine g_load rfl rfl rfl trivial ?_
  refine g_iconst (-1) rfl (by decide) ?_
  refine c_puti rfl (κ := 9) (by exact hk) (by decide) (by rfl) (Nat.le_of_ble_eq_true rfl) ⟨_, _, rfl, rfl, rfl, rfl⟩ (by simp [cCell, upO, u2, cS.kd, cS.oI, cS.rI, cS.rL, cS.rR, cS.tp]) ?_
  refine g_load rfl rfl rfl trivial ?_
  refine g_iconst (-1) rfl (by decide) ?_
  refine c_puti rfl (κ := 9) (by exact hk) (by decide) (by rfl) (Nat.le_of_ble_eq_true rfl) ⟨_, _, rfl, rfl, rfl, rfl⟩ (by simp [cCell, upO, u2, cS.kd, cS.oI, cS.rI, cS.rL, cS.rR, cS.tp]) ?_
  refine g_load rfl rfl rfl trivial ?_
  refine g_load rfl rfl rfl trivial ?_
  refine c_puti rfl (κ := 9) (by exact hk) (by decide) (by rfl) (Nat.le_of_ble_eq_true rfl) ⟨_, _, rfl, rfl, rfl, rfl⟩ (by simp [cCell, upO, u2, cS.kd, cS.oI, cS.rI, cS.rL, cS.rR, cS.tp]) ?_
  refine g_load rfl rfl rfl trivial ?_
  refine g_load rfl rfl rfl trivial ?_
  refine c_puti rfl (κ := 9) (by exact hk) (by decide) (by rfl) (Nat.le_of_ble_eq_true rfl) ⟨_, _, rfl, rfl, rfl, rfl⟩ (by simp [cCell, upO, u2, cS.kd, cS.oI, cS.rI, cS.rL, cS.rR, cS.tp]) ?_
  refine g_load rfl rfl rfl trivial ?_
  refine g_load rfl rfl rfl trivial ?_
  refine c_puti rfl (κ := 9) (by exact hk) (by decide) (by rfl) (Nat.le_of_ble_eq_true rfl) ⟨_, _, rfl, rfl, rfl, rfl⟩ (by simp [cCell, upO, u2, cS.kd, cS.oI, cS.rI, cS.rL, cS.rR, cS.tp]) ?_
  refine g_ret rfl rfl (Nat.le_of_ble_eq_true rfl) (Nat.le_of_ble_eq_true rfl) ?_
  exact hQ
/-- a table has been made at T -/
def tN (u : cS) (T : Nat) : cS := ((fun b => if b = T then 3 else if b = T + 1 then 4 else if b = T + 2 then 5 else if b = T + 3 then 6 else if b = T + 4 then 7 else if b = T + 5 then 8 else u.kd b), (fun b => if T ≤ b ∧ b ≤ T + 5 then fun _ => 0 else u.oI b), (fun b => if T ≤ b ∧ b ≤ T + 5 then fun _ => 0 else u.rI b), (fun b => if T ≤ b ∧ b ≤ T + 5 then fun _ => 0 else u.rL b), (fun b => if T ≤ b ∧ b ≤ T + 5 then fun _ => none else u.rR b), T + 6)
/-- while a table is made -/
def tN1 (u : cS) : cS := upR (upR (mkO (mkO u 24) 5) (u.tp) 1 (some (u.tp + 1))) (u.tp - 1) 3 (some u.tp)
def tN2 (u : cS) : cS := upR (upR (mkO (upR (mkO (mkO (tN1 u) 26) 7) (u.tp + 2) 1 (some (u.tp + 3))) 8) (u.tp + 2) 2 (some (u.tp + 4))) (u.tp - 1) 4 (some (u.tp + 2))
set_option maxRecDepth 20000 in
theorem w_tableInit {pr : aC} {d : Nat} {u : cS} (T : Nat) (hk : u.kd T = 23) (ht : u.tp = T + 1) (hp : 50 ≤ T) {Q : Option Value → cS → Prop} (hQ : Q none (tN2 u)) : gR CF cFr (aRun pg pr (d + 1 + 1)) 82 [.ref T] u 5 394 Q := by
  refine gR_of mi_82 cFr_rf rfl (Nat.le_of_ble_eq_true rfl) ?_
  show gB CF cFr (aRun pg pr (d + 1)) cd_82 5 394 none Q 0 [some (.ref T)] [] u 0 0
  have h50 : u.tp < 25 ∨ 50 ≤ u.tp := by omega
  refine g_load rfl rfl rfl trivial ?_
  refine g_objInit rfl (Nat.le_of_ble_eq_true rfl) ?_
  refine g_load rfl rfl rfl trivial ?_
  refine c_new 24 rfl h50 (Nat.le_of_ble_eq_true rfl) (Nat.le_of_ble_eq_true rfl) (by simp [cCell, mkO, aDef, aCls, vwCl, cS.oI, cS.rR, cS.tp]; rfl) ?_
  refine g_dup rfl rfl ?_
  refine g_special (n := 0) [] 1 319 cFr_tr rfl (by decide) (by decide) rfl rfl (Nat.le_of_ble_eq_true rfl) (Nat.le_of_ble_eq_true rfl) (Nat.le_of_ble_eq_true rfl) (w_auctionInit u.tp (mk_s u 24) (by show u.tp < u.tp + 1; omega) (by show u.tp + 1 < 25 ∨ 50 ≤ u.tp + 1; omega) ?_)
  have e1 : T = u.tp - 1 := by omega
  subst e1
  refine c_putr (v := some u.tp) rfl (κ := 23) (by show (if u.tp - 1 = u.tp + 1 then 5 else if u.tp - 1 = u.tp then 24 else u.kd (u.tp - 1)) = 23; rw [if_neg (by omega), if_neg (by omega)]; exact hk) (by decide) (by rfl) (Nat.le_of_ble_eq_true rfl) ⟨_, _, rfl, rfl, rfl, rfl⟩ 3 (by simp [cCell, upR, u2, cS.kd, cS.oI, cS.rI, cS.rL, cS.rR, cS.tp]) rfl ?_
  show gB CF cFr _ _ _ _ _ _ _ _ _ (tN1 u) _ _
  refine g_load rfl rfl rfl trivial ?_
  refine c_new 26 rfl (by show u.tp + 2 < 25 ∨ 50 ≤ u.tp + 2; omega) (Nat.le_of_ble_eq_true rfl) (Nat.le_of_ble_eq_true rfl) (by simp [cCell, mkO, aDef, aCls, vwCl, cS.oI, cS.rR, cS.rL, cS.tp]; rfl) ?_
  refine g_dup rfl rfl ?_
  refine g_special (n := 0) [] 2 66 cFr_tr rfl (by decide) (by decide) rfl rfl (Nat.le_of_ble_eq_true rfl) (Nat.le_of_ble_eq_true rfl) (Nat.le_of_ble_eq_true rfl) (w_playInit (u.tp + 2) (mk_s (tN1 u) 26) (by show u.tp + 2 < u.tp + 3; omega) (by show u.tp + 3 < 25 ∨ 50 ≤ u.tp + 3; omega) (by show u.tp + 4 < 25 ∨ 50 ≤ u.tp + 4; omega) ?_)
  refine c_putr (v := some (u.tp + 2)) rfl (κ := 23) (by
    show (if u.tp - 1 = u.tp + 4 then 8 else if u.tp - 1 = u.tp + 3 then 7 else if u.tp - 1 = u.tp + 2 then 26 else if u.tp - 1 = u.tp + 1 then 5 else if u.tp - 1 = u.tp then 24 else u.kd (u.tp - 1)) = 23
    rw [if_neg (by omega), if_neg (by omega), if_neg (by omega), if_neg (by omega), if_neg (by omega)]; exact hk) (by decide) (by rfl) (Nat.le_of_ble_eq_true rfl) ⟨_, _, rfl, rfl, rfl, rfl⟩ 4 (by simp [cCell, upR, u2, cS.kd, cS.oI, cS.rI, cS.rL, cS.rR, cS.tp]) rfl ?_
  refine g_ret rfl rfl (Nat.le_of_ble_eq_true rfl) (Nat.le_of_ble_eq_true rfl) ?_
  exact hQ
set_option maxHeartbeats 4000000 in
theorem tN_view {v : cS} {h : aH} (hR : CF (tN2 (mkO v 23)) h) : CF (tN v v.tp) h := by
  refine hR.view (by show v.tp + 6 = v.tp + 1 + 1 + 1 + 1 + 1 + 1; omega) (fun b hb => ?_)
  by_cases b0 : b = v.tp
  · subst b0
    simp [tN, tN2, tN1, mkO, upR, u2, cCell, cS.kd, cS.oI, cS.rI, cS.rL, cS.rR, cS.tp, aRef, va_rf, Nat.add_assoc]
  by_cases b1 : b = v.tp + 1
  · subst b1
    simp [tN, tN2, tN1, mkO, upR, u2, cCell, cS.kd, cS.oI, cS.rI, cS.rL, cS.rR, cS.tp, aRef, va_rf, Nat.add_assoc]
  by_cases b2 : b = v.tp + 2
  · subst b2
    simp [tN, tN2, tN1, mkO, upR, u2, cCell, cS.kd, cS.oI, cS.rI, cS.rL, cS.rR, cS.tp, aRef, va_rf, Nat.add_assoc]
  by_cases b3 : b = v.tp + 3
  · subst b3
    simp [tN, tN2, tN1, mkO, upR, u2, cCell, cS.kd, cS.oI, cS.rI, cS.rL, cS.rR, cS.tp, aRef, va_rf, Nat.add_assoc]
  by_cases b4 : b = v.tp + 4
  · subst b4
    simp [tN, tN2, tN1, mkO, upR, u2, cCell, cS.kd, cS.oI, cS.rI, cS.rL, cS.rR, cS.tp, aRef, va_rf, Nat.add_assoc]
  by_cases b5 : b = v.tp + 5
  · subst b5
    simp [tN, tN2, tN1, mkO, upR, u2, cCell, cS.kd, cS.oI, cS.rI, cS.rL, cS.rR, cS.tp, aRef, va_rf, Nat.add_assoc]
  have e0 : (tN v v.tp).kd b = v.kd b := by
    show (if _ then _ else _) = _
    rw [if_neg b0, if_neg b1, if_neg b2, if_neg b3, if_neg b4, if_neg b5]
  have g0 : ¬ (v.tp ≤ b ∧ b ≤ v.tp + 5) := by omega
  have e1 : (tN v v.tp).oI b = v.oI b := if_neg g0
  have e2 : (tN v v.tp).rI b = v.rI b := if_neg g0
  have e3 : (tN v v.tp).rL b = v.rL b := if_neg g0
  have e4 : (tN v v.tp).rR b = v.rR b := if_neg g0
  have f0 : (tN2 (mkO v 23)).kd b = v.kd b := by
    show (if b = v.tp + 1 + 4 then 8 else if b = v.tp + 1 + 3 then 7 else if b = v.tp + 1 + 2 then 26 else if b = v.tp + 1 + 1 then 5 else if b = v.tp + 1 then 24 else if b = v.tp then 23 else v.kd b) = _
    rw [if_neg (by omega), if_neg (by omega), if_neg (by omega), if_neg (by omega), if_neg (by omega), if_neg (by omega)]
  have f1 : (tN2 (mkO v 23)).oI b = v.oI b := by
    show (if b = v.tp + 1 + 4 then (fun _ => (0 : Int32)) else if b = v.tp + 1 + 3 then (fun _ => 0) else if b = v.tp + 1 + 2 then (fun _ => 0) else if b = v.tp + 1 + 1 then (fun _ => 0) else if b = v.tp + 1 then (fun _ => 0) else if b = v.tp then (fun _ => 0) else v.oI b) = _
    rw [if_neg (by omega), if_neg (by omega), if_neg (by omega), if_neg (by omega), if_neg (by omega), if_neg (by omega)]
  have f2 : (tN2 (mkO v 23)).rI b = v.rI b := by
    show (if b = v.tp + 1 + 4 then (fun _ => (0 : Int32)) else if b = v.tp + 1 + 3 then (fun _ => 0) else if b = v.tp + 1 + 2 then (fun _ => 0) else if b = v.tp + 1 + 1 then (fun _ => 0) else if b = v.tp + 1 then (fun _ => 0) else if b = v.tp then (fun _ => 0) else v.rI b) = _
    rw [if_neg (by omega), if_neg (by omega), if_neg (by omega), if_neg (by omega), if_neg (by omega), if_neg (by omega)]
  have f3 : (tN2 (mkO v 23)).rL b = v.rL b := by
    show (if b = v.tp + 1 + 4 then (fun _ => (0 : Int64)) else if b = v.tp + 1 + 3 then (fun _ => 0) else if b = v.tp + 1 + 2 then (fun _ => 0) else if b = v.tp + 1 + 1 then (fun _ => 0) else if b = v.tp + 1 then (fun _ => 0) else if b = v.tp then (fun _ => 0) else v.rL b) = _
    rw [if_neg (by omega), if_neg (by omega), if_neg (by omega), if_neg (by omega), if_neg (by omega), if_neg (by omega)]
  have f4 : (tN2 (mkO v 23)).rR b = v.rR b := by
    simp [tN2, tN1, mkO, upR, u2, cS.kd, cS.oI, cS.rI, cS.rL, cS.rR, cS.tp, b0, b1, b2, b3, b4, b5, Nat.add_assoc]
  rw [e0] at hb ⊢
  rw [f0]
  refine ⟨hb, ?_⟩
  unfold cCell
  rw [e1, e2, e3, e4, f1, f2, f3, f4]
/-- a board has been made -/
def bN (u : cS) (n : Int32) : cS := ((fun b => if b = u.tp then 1 else if b = u.tp + 1 then 2 else u.kd b), (fun b => if b = u.tp then (fun k => if k = 0 then n else 0) else if b = u.tp + 1 then fun _ => 0 else u.oI b), (fun b => if b = u.tp ∨ b = u.tp + 1 then fun _ => 0 else u.rI b), (fun b => if b = u.tp ∨ b = u.tp + 1 then fun _ => 0 else u.rL b), (fun b => if b = u.tp ∨ b = u.tp + 1 then fun _ => none else u.rR b), u.tp + 2)
set_option maxHeartbeats 4000000 in
theorem bN_view {v : cS} {n : Int32} {h : aH} (hR : CF (upO (upR (mkO (mkO v 21) 2) v.tp 1 (some (v.tp + 1))) v.tp 0 n) h) : CF (bN v n) h := by
  refine hR.view (by show v.tp + 2 = v.tp + 1 + 1; omega) (fun b hb => ?_)
  by_cases b0 : b = v.tp
  · subst b0
    simp [bN, mkO, upR, upO, u2, cCell, cS.kd, cS.oI, cS.rI, cS.rL, cS.rR, cS.tp, aRef, va_rf]
  by_cases b1 : b = v.tp + 1
  · subst b1
    simp [bN, mkO, upR, upO, u2, cCell, cS.kd, cS.oI, cS.rI, cS.rL, cS.rR, cS.tp, aRef, va_rf]
  have e0 : (bN v n).kd b = v.kd b := by
    show (if _ then _ else _) = _
    rw [if_neg b0, if_neg b1]
  rw [e0] at hb ⊢
  have f0 : (upO (upR (mkO (mkO v 21) 2) v.tp 1 (some (v.tp + 1))) v.tp 0 n).kd b = v.kd b := by
    show (if b = v.tp + 1 then 2 else if b = v.tp then 21 else v.kd b) = _
    rw [if_neg b1, if_neg b0]
  rw [f0]
  refine ⟨hb, ?_⟩
  unfold cCell
  simp [bN, mkO, upR, upO, u2, cS.kd, cS.oI, cS.rI, cS.rL, cS.rR, cS.tp, b0, b1]
