/-! ===== the class: Result and Table, what is written ===== -/
/-- the object at a alone has other whole numbers -/
def onO (u v : cS) (a : Nat) (F : Nat → Int32) : Prop := v.kd = u.kd ∧ v.rI = u.rI ∧ v.rL = u.rL ∧ v.rR = u.rR ∧ v.tp = u.tp ∧ (∀ b, b ≠ a → v.oI b = u.oI b) ∧ v.oI a = F
set_option maxRecDepth 20000 in
theorem w_setContract {pr : aC} {d : Nat} {u : cS} (a : Nat) (l s e : Int32) (hk : u.kd a = 9) {Q : Option Value → cS → Prop} (hQ : ∀ v, onO u v a (fun k => if k = 6 then e else if k = 4 then s else if k = 3 then l else u.oI a k) → Q none v) : wR pr (d + 1) 63 [.ref a, .int l, .int s, .int e] u Q := by
  refine gR_of mi_63 cFr_rf rfl (Nat.le_of_ble_eq_true rfl) ?_
  show wB pr (d) cd_63 none Q 0 [some (.ref a), some (.int l), some (.int s), some (.int e)] [] u
  refine g_load rfl rfl rfl trivial ?_
  refine g_load rfl rfl rfl trivial ?_
  refine c_puti rfl (κ := 9) (by exact hk) (by decide) (by rfl) (Nat.le_of_ble_eq_true rfl) ⟨_, _, rfl, rfl, rfl, rfl⟩ (by simp [cCell, upO, u2, cS.kd, cS.oI, cS.rI, cS.rL, cS.rR, cS.tp]) ?_
  refine g_load rfl rfl rfl trivial ?_
  refine g_load rfl rfl rfl trivial ?_
  refine c_puti rfl (κ := 9) (by exact hk) (by decide) (by rfl) (Nat.le_of_ble_eq_true rfl) ⟨_, _, rfl, rfl, rfl, rfl⟩ (by simp [cCell, upO, u2, cS.kd, cS.oI, cS.rI, cS.rL, cS.rR, cS.tp]) ?_
  refine g_load rfl rfl rfl trivial ?_
  refine g_load rfl rfl rfl trivial ?_
  refine c_puti rfl (κ := 9) (by exact hk) (by decide) (by rfl) (Nat.le_of_ble_eq_true rfl) ⟨_, _, rfl, rfl, rfl, rfl⟩ (by simp [cCell, upO, u2, cS.kd, cS.oI, cS.rI, cS.rL, cS.rR, cS.tp]) ?_
  refine g_ret rfl rfl (Nat.le_refl _) (Nat.le_refl _) ?_
  refine hQ _ ⟨rfl, rfl, rfl, rfl, rfl, fun b hb => ?_, ?_⟩
  · show u2 (u2 (u2 u.oI a 3 l) a 4 s) a 6 e b = _; rw [u2_a _ _ hb, u2_a _ _ hb, u2_a _ _ hb]
  · funext k; show u2 (u2 (u2 u.oI a 3 l) a 4 s) a 6 e a k = _; simp only [u2, if_pos]
def soF (r : Nat → Int32) (seat won : Int32) (v : Bool) : Nat → Int32 := fun k => if k = 8 then (if seat - seat / nI 2 * nI 2 = 0 then ofS (r 3) (r 4) (r 6) v won else -(ofS (r 3) (r 4) (r 6) v won)) else if k = 7 then won else if k = 5 then seat else r k
set_option maxRecDepth 20000 in
theorem w_setOutcome {pr : aC} {d : Nat} {u : cS} (a : Nat) (seat won : Int32) (v : Bool) (hk : u.kd a = 9) {Q : Option Value → cS → Prop} (hQ : ∀ w, onO u w a (soF (u.oI a) seat won v) → Q none w) : wR pr (d + 3 + 1) 64 [.ref a, .int seat, .int won, .int (bI v)] u Q := by
  refine gR_of mi_64 cFr_rf rfl (Nat.le_of_ble_eq_true rfl) ?_
  show wB pr (d + 3) cd_64 none Q 0 [some (.ref a), some (.int seat), some (.int won), some (.int (bI v)), none] [] u
  refine g_load rfl rfl rfl trivial ?_
  refine g_load rfl rfl rfl trivial ?_
  refine c_puti rfl (κ := 9) (by exact hk) (by decide) (by rfl) (Nat.le_of_ble_eq_true rfl) ⟨_, _, rfl, rfl, rfl, rfl⟩ (by simp [cCell, upO, u2, cS.kd, cS.oI, cS.rI, cS.rL, cS.rR, cS.tp]) ?_
  refine g_load rfl rfl rfl trivial ?_
  refine g_load rfl rfl rfl trivial ?_
  refine c_puti rfl (κ := 9) (by exact hk) (by decide) (by rfl) (Nat.le_of_ble_eq_true rfl) ⟨_, _, rfl, rfl, rfl, rfl⟩ (by simp [cCell, upO, u2, cS.kd, cS.oI, cS.rI, cS.rL, cS.rR, cS.tp]) ?_
  refine g_load rfl rfl rfl trivial ?_
  refine c_getf rfl (κ := 9) (by exact hk) (by decide) (by rfl) (by rfl) ?_
  rw [show ((upO (upO u a 5 seat) a 7 won)).oI a 3 = u.oI a 3 by show u2 (u2 u.oI a 5 seat) a 7 won a 3 = _; rw [u2_k _ _ (by decide), u2_k _ _ (by decide)]]
  refine g_load rfl rfl rfl trivial ?_
  refine c_getf rfl (κ := 9) (by exact hk) (by decide) (by rfl) (by rfl) ?_
  rw [show ((upO (upO u a 5 seat) a 7 won)).oI a 4 = u.oI a 4 by show u2 (u2 u.oI a 5 seat) a 7 won a 4 = _; rw [u2_k _ _ (by decide), u2_k _ _ (by decide)]]
  refine g_load rfl rfl rfl trivial ?_
  refine c_getf rfl (κ := 9) (by exact hk) (by decide) (by rfl) (by rfl) ?_
  rw [show ((upO (upO u a 5 seat) a 7 won)).oI a 6 = u.oI a 6 by show u2 (u2 u.oI a 5 seat) a 7 won a 6 = _; rw [u2_k _ _ (by decide), u2_k _ _ (by decide)]]
  refine g_load rfl rfl rfl trivial ?_
  refine g_load rfl rfl rfl trivial ?_
  refine c_getf rfl (κ := 9) (by exact hk) (by decide) (by rfl) (by rfl) ?_
  rw [show ((upO (upO u a 5 seat) a 7 won)).oI a 7 = won by show u2 (u2 u.oI a 5 seat) a 7 won a 7 = _; rw [u2_s]]
  refine g_statI [.int (u.oI a 3), .int (u.oI a 4), .int (u.oI a 6), .int (bI v), .int won] cFr_tr rfl rfl rfl (Nat.le_of_ble_eq_true rfl) (Nat.le_refl _) (Nat.le_refl _) (p_ofContract cFr_rf cFr_tr (u.oI a 3) (u.oI a 4) (u.oI a 6) won v ⟨_, rfl, ?_⟩)
  refine g_store [some (.ref a), some (.int seat), some (.int won), some (.int (bI v)), some (.int (ofS (u.oI a 3) (u.oI a 4) (u.oI a 6) v won))] rfl rfl trivial (Nat.le_of_ble_eq_true rfl) rfl ?_
  refine g_load rfl rfl rfl trivial ?_
  refine g_load rfl rfl rfl trivial ?_
  refine g_iconst (nI 2) rfl (by decide) ?_
  refine g_irem rfl (by decide) ?_
  refine g_if_ne rfl (fun c1 => ?_) (fun c1 => ?_)
  · have hx : (if seat - seat / nI 2 * nI 2 = 0 then ofS (u.oI a 3) (u.oI a 4) (u.oI a 6) v won else -(ofS (u.oI a 3) (u.oI a 4) (u.oI a 6) v won)) = -(ofS (u.oI a 3) (u.oI a 4) (u.oI a 6) v won) := if_neg c1
    refine g_load rfl rfl rfl trivial ?_
    refine g_ineg rfl ?_
    refine c_puti rfl (κ := 9) (by exact hk) (by decide) (by rfl) (Nat.le_of_ble_eq_true rfl) ⟨_, _, rfl, rfl, rfl, rfl⟩ (by simp [cCell, upO, u2, cS.kd, cS.oI, cS.rI, cS.rL, cS.rR, cS.tp]) ?_
    refine g_ret rfl rfl (Nat.le_refl _) (Nat.le_refl _) ?_
    refine hQ _ ⟨rfl, rfl, rfl, rfl, rfl, fun b hb => ?_, ?_⟩
    · show u2 (u2 (u2 u.oI a 5 seat) a 7 won) a 8 _ b = _; rw [u2_a _ _ hb, u2_a _ _ hb, u2_a _ _ hb]
    · funext k; show u2 (u2 (u2 u.oI a 5 seat) a 7 won) a 8 _ a k = _; simp only [u2, if_pos, soF, hx]
  · have hx : (if seat - seat / nI 2 * nI 2 = 0 then ofS (u.oI a 3) (u.oI a 4) (u.oI a 6) v won else -(ofS (u.oI a 3) (u.oI a 4) (u.oI a 6) v won)) = ofS (u.oI a 3) (u.oI a 4) (u.oI a 6) v won := if_pos c1
    refine g_load rfl rfl rfl trivial ?_
    refine g_goto rfl ?_
    refine c_puti rfl (κ := 9) (by exact hk) (by decide) (by rfl) (Nat.le_of_ble_eq_true rfl) ⟨_, _, rfl, rfl, rfl, rfl⟩ (by simp [cCell, upO, u2, cS.kd, cS.oI, cS.rI, cS.rL, cS.rR, cS.tp]) ?_
    refine g_ret rfl rfl (Nat.le_refl _) (Nat.le_refl _) ?_
    refine hQ _ ⟨rfl, rfl, rfl, rfl, rfl, fun b hb => ?_, ?_⟩
    · show u2 (u2 (u2 u.oI a 5 seat) a 7 won) a 8 _ b = _; rw [u2_a _ _ hb, u2_a _ _ hb, u2_a _ _ hb]
    · funext k; show u2 (u2 (u2 u.oI a 5 seat) a 7 won) a 8 _ a k = _; simp only [u2, if_pos, soF, hx]
set_option maxRecDepth 20000 in
theorem w_setParts {pr : aC} {d : Nat} {u : cS} (a : Nat) (p q : Int32) (hk : u.kd a = 9) {Q : Option Value → cS → Prop} (hQ : ∀ v, onO u v a (fun k => if k = 11 then q else if k = 10 then p else if k = 9 then 1 else u.oI a k) → Q none v) : wR pr (d + 1) 65 [.ref a, .int p, .int q] u Q := by
  refine gR_of mi_65 cFr_rf rfl (Nat.le_of_ble_eq_true rfl) ?_
  show wB pr (d) cd_65 none Q 0 [some (.ref a), some (.int p), some (.int q)] [] u
  refine g_load rfl rfl rfl trivial ?_
  refine g_iconst (nI 1) rfl (by decide) ?_
  refine c_puti rfl (κ := 9) (by exact hk) (by decide) (by rfl) (Nat.le_of_ble_eq_true rfl) ⟨_, _, rfl, rfl, rfl, rfl⟩ (by simp [cCell, upO, u2, cS.kd, cS.oI, cS.rI, cS.rL, cS.rR, cS.tp]) ?_
  refine g_load rfl rfl rfl trivial ?_
  refine g_load rfl rfl rfl trivial ?_
  refine c_puti rfl (κ := 9) (by exact hk) (by decide) (by rfl) (Nat.le_of_ble_eq_true rfl) ⟨_, _, rfl, rfl, rfl, rfl⟩ (by simp [cCell, upO, u2, cS.kd, cS.oI, cS.rI, cS.rL, cS.rR, cS.tp]) ?_
  refine g_load rfl rfl rfl trivial ?_
  refine g_load rfl rfl rfl trivial ?_
  refine c_puti rfl (κ := 9) (by exact hk) (by decide) (by rfl) (Nat.le_of_ble_eq_true rfl) ⟨_, _, rfl, rfl, rfl, rfl⟩ (by simp [cCell, upO, u2, cS.kd, cS.oI, cS.rI, cS.rL, cS.rR, cS.tp]) ?_
  refine g_ret rfl rfl (Nat.le_refl _) (Nat.le_refl _) ?_
  refine hQ _ ⟨rfl, rfl, rfl, rfl, rfl, fun b hb => ?_, ?_⟩
  · show u2 (u2 (u2 u.oI a 9 (nI 1)) a 10 p) a 11 q b = _; rw [u2_a _ _ hb, u2_a _ _ hb, u2_a _ _ hb]
  · funext k; show u2 (u2 (u2 u.oI a 9 (nI 1)) a 10 p) a 11 q a k = _; simp only [u2, if_pos, nI1]
set_option maxRecDepth 20000 in
theorem w_tstop {pr : aC} {d : Nat} {u : cS} (T : Nat) (k0 : u.kd T = 3) {Q : Option Value → cS → Prop} (hQ : Q none (upR u T 0 none)) : wR pr (d + 1) 84 [.ref T] u Q := by
  refine gR_of mi_84 cFr_rf rfl (Nat.le_of_ble_eq_true rfl) ?_
  show wB pr (d) cd_84 none Q 0 [some (.ref T)] [] u
  refine g_load rfl rfl rfl trivial ?_
  refine g_null rfl ?_
  refine c_putr (v := none) rfl (κ := 3) (by exact k0) (by decide) (by rfl) (Nat.le_of_ble_eq_true rfl) ⟨_, _, rfl, rfl, rfl, rfl⟩ 0 (by simp [cCell, upR, u2, cS.kd, cS.oI, cS.rI, cS.rL, cS.rR, cS.tp]) rfl ?_
  refine g_ret rfl rfl (Nat.le_refl _) (Nat.le_refl _) ?_
  exact hQ
/-- a table begins -/
def tSt (u : cS) (T B : Nat) (n e dl : Int32) : cS := upI (upO (upO (upL (upO (upO (upO (upO (upO (upO (upR u T 0 (some B)) B 2 1) T 1 n) T 2 e) (T + 1) 2 dl) (T + 1) 1 0) (T + 3) 2 (nI 0)) (T + 3) 0 (lN 0)) (T + 3) 4 (nI 0)) (T + 3) 5 (nI 0)) (T + 3 + 2) 0 (nI ((0 + 1) % 4))
set_option maxRecDepth 20000 in
theorem w_tstart {pr : aC} {d : Nat} {u : cS} (T B bd : Nat) (n e : Int32) (k0 : u.kd T = 3) (k1 : u.kd (T + 1) = 4) (k3 : u.kd (T + 3) = 6) (k5 : u.kd (T + 3 + 2) = 8) (kb : u.kd B = 1) (hb : u.oI B 0 = nI (bd + 1)) (hb2 : bd < 36) {Q : Option Value → cS → Prop} (hQ : Q none (tSt u T B n e (nI (bd % 4)))) : wR pr (d + 1 + 1) 83 [.ref T, .ref B, .int n, .int e] u Q := by
  refine gR_of mi_83 cFr_rf rfl (Nat.le_of_ble_eq_true rfl) ?_
  show wB pr (d + 1) cd_83 none Q 0 [some (.ref T), some (.ref B), some (.int n), some (.int e)] [] u
  have hBT : B ≠ T := fun q => by rw [q, k0] at kb; exact absurd kb (by decide)
  refine g_load rfl rfl rfl trivial ?_
  refine g_load rfl rfl rfl trivial ?_
  refine c_putr (v := some B) rfl (κ := 3) (by exact k0) (by decide) (by rfl) (Nat.le_of_ble_eq_true rfl) ⟨_, _, rfl, rfl, rfl, rfl⟩ 0 (by simp [cCell, upR, u2, cS.kd, cS.oI, cS.rI, cS.rL, cS.rR, cS.tp]) rfl ?_
  refine g_load rfl rfl rfl trivial ?_
  refine g_virtV (a := B) (ci := 2) (n := 0) [] cFr_tr rfl rfl (by decide) rfl (c_ob (κ := 1) (by exact kb) (by decide) (by rfl)) rfl (Nat.le_of_ble_eq_true rfl) (Nat.le_refl _) (Nat.le_refl _) (w_markBegun B (by exact kb) ⟨rfl, ?_⟩)
  refine g_load rfl rfl rfl trivial ?_
  refine g_load rfl rfl rfl trivial ?_
  refine c_puti rfl (κ := 3) (by exact k0) (by decide) (by rfl) (Nat.le_of_ble_eq_true rfl) ⟨_, _, rfl, rfl, rfl, rfl⟩ (by simp [cCell, upO, u2, cS.kd, cS.oI, cS.rI, cS.rL, cS.rR, cS.tp]) ?_
  refine g_load rfl rfl rfl trivial ?_
  refine g_load rfl rfl rfl trivial ?_
  refine c_puti rfl (κ := 3) (by exact k0) (by decide) (by rfl) (Nat.le_of_ble_eq_true rfl) ⟨_, _, rfl, rfl, rfl, rfl⟩ (by simp [cCell, upO, u2, cS.kd, cS.oI, cS.rI, cS.rL, cS.rR, cS.tp]) ?_
  refine g_load rfl rfl rfl trivial ?_
  refine c_getf rfl (κ := 3) (by exact k0) (by decide) (by rfl) (by rfl) ?_
  refine g_load rfl rfl rfl trivial ?_
  refine g_virtI (a := B) (ci := 2) (n := 0) [] cFr_tr rfl rfl (by decide) rfl (c_ob (κ := 1) (by exact kb) (by decide) (by rfl)) rfl (Nat.le_of_ble_eq_true rfl) (Nat.le_refl _) (Nat.le_refl _) (c_lift cFr_rf (fun _ h => h) (c_bdealer B bd (by exact kb) (by show u2 (u2 (u2 u.oI B 2 1) T 1 n) T 2 e B 0 = _; rw [u2_a _ _ hBT, u2_a _ _ hBT, u2_k _ _ (by decide)]; exact hb) hb2 ⟨_, rfl, ?_⟩))
  refine g_virtV (a := T + 1) (ci := 1) (n := 1) [.int (nI (bd % 4))] cFr_tr rfl rfl (by decide) rfl (c_ob (κ := 4) (by exact k1) (by decide) (by rfl)) rfl (Nat.le_of_ble_eq_true rfl) (Nat.le_refl _) (Nat.le_refl _) (w_aopen (T + 1) _ (by exact k1) ⟨rfl, ?_⟩)
  refine g_load rfl rfl rfl trivial ?_
  refine c_getf rfl (κ := 3) (by exact k0) (by decide) (by rfl) (by rfl) ?_
  refine g_iconst (nI 0) rfl (by decide) ?_
  refine g_iconst (nI 0) rfl (by decide) ?_
  refine g_virtV (a := T + 3) (ci := 4) (n := 2) [.int (nI 0), .int (nI 0)] cFr_tr rfl rfl (by decide) rfl (c_ob (κ := 6) (by exact k3) (by decide) (by rfl)) rfl (Nat.le_of_ble_eq_true rfl) (Nat.le_refl _) (Nat.le_refl _) (w_popen (T + 3) (by exact k3) (by exact k5) 0 (nI 0) (by decide) ⟨rfl, ?_⟩)
  refine g_ret rfl rfl (Nat.le_refl _) (Nat.le_refl _) ?_
  exact hQ
set_option maxRecDepth 20000 in
theorem w_popen_n {pr : aC} {d : Nat} {u : cS} (a : Nat) (hk : u.kd a = 6) (hk2 : u.kd (a + 2) = 8) (tr : Int32) {Q : Option Value → cS → Prop} (hQ : Q none (upI (upO (upO (upL (upO u a 2 (nI 0)) a 0 (lN 0)) a 4 (-1)) a 5 tr) (a + 2) 0 0)) : wR pr (d + 1) 44 [.ref a, .int (-1), .int tr] u Q := by
  refine gR_of mi_44 cFr_rf rfl (Nat.le_of_ble_eq_true rfl) ?_
  show wB pr (d) cd_44 none Q 0 [some (.ref a), some (.int (-1)), some (.int tr)] [] u
  refine g_load rfl rfl rfl trivial ?_
  refine g_iconst (nI 0) rfl (by decide) ?_
  refine c_puti rfl (κ := 6) (by exact hk) (by decide) (by rfl) (Nat.le_of_ble_eq_true rfl) ⟨_, _, rfl, rfl, rfl, rfl⟩ (by simp [cCell, upO, u2, cS.kd, cS.oI, cS.rI, cS.rL, cS.rR, cS.tp]) ?_
  refine g_load rfl rfl rfl trivial ?_
  refine g_lconst (lN 0) rfl rfl ?_
  refine c_putl rfl (κ := 6) (by exact hk) (by decide) (by rfl) (Nat.le_of_ble_eq_true rfl) ⟨_, _, rfl, rfl, rfl, rfl⟩ (by simp [cCell, upL, u2, cS.kd, cS.oI, cS.rI, cS.rL, cS.rR]) ?_
  refine g_load rfl rfl rfl trivial ?_
  refine g_load rfl rfl rfl trivial ?_
  refine c_puti rfl (κ := 6) (by exact hk) (by decide) (by rfl) (Nat.le_of_ble_eq_true rfl) ⟨_, _, rfl, rfl, rfl, rfl⟩ (by simp [cCell, upO, u2, cS.kd, cS.oI, cS.rI, cS.rL, cS.rR, cS.tp]) ?_
  refine g_load rfl rfl rfl trivial ?_
  refine g_load rfl rfl rfl trivial ?_
  refine c_puti rfl (κ := 6) (by exact hk) (by decide) (by rfl) (Nat.le_of_ble_eq_true rfl) ⟨_, _, rfl, rfl, rfl, rfl⟩ (by simp [cCell, upO, u2, cS.kd, cS.oI, cS.rI, cS.rL, cS.rR, cS.tp]) ?_
  refine g_load rfl rfl rfl trivial ?_
  refine c_getf rfl (κ := 6) (by exact hk) (by decide) (by rfl) (by rfl) ?_
  refine g_iconst (nI 0) rfl (by decide) ?_
  refine g_load rfl rfl rfl trivial ?_
  refine g_iconst (nI 1) rfl (by decide) ?_
  refine g_iadd rfl ?_
  refine g_iconst (nI 4) rfl (by decide) ?_
  refine g_irem rfl (by decide) ?_
  rw [show (-1 + nI 1 : Int32) - (-1 + nI 1) / nI 4 * nI 4 = 0 by decide]
  refine c_ias 0 rfl (κ := 8) (by exact hk2) (by decide) (by rfl) rfl (by decide) (by decide) (by rfl) ?_
  refine g_ret rfl rfl (Nat.le_refl _) (Nat.le_refl _) ?_
  exact hQ
/-- a call is added -/
def tCl (u : cS) (T n : Nat) (c : Int32) : cS := upO (upI u (T + 1 + 1) n c) (T + 1) 1 (nI (n + 1))
/-- the play is opened -/
def tPl (u : cS) (T : Nat) (s tr l : Int32) : cS := upI (upO (upO (upL (upO u (T + 3) 2 (nI 0)) (T + 3) 0 (lN 0)) (T + 3) 4 s) (T + 3) 5 tr) (T + 3 + 2) 0 l
set_option maxRecDepth 20000 in
theorem w_addCall {pr : aC} {d : Nat} {u : cS} (T B n m : Nat) (hT : tB u T B n m) (c : Int32) (hn3 : n < 319) (dl : Nat) (hd : u.oI (T + 1) 2 = nI dl) (hdl : dl < 4) (hc37 : ∀ i, i < n + 1 → inF ((upd (u.rI (T + 1 + 1)) n c) i) 0 37 = true) {Q : Option Value → cS → Prop} (hN : ovF (upd (u.rI (T + 1 + 1)) n c) (n + 1) = false → Q none (tCl u T n c)) (hP : ovF (upd (u.rI (T + 1 + 1)) n c) (n + 1) = true → last ge3 (upd (u.rI (T + 1 + 1)) n c) (n + 1) = none → Q none (tPl (tCl u T n c) T (-1) (-1) 0)) (hC : ovF (upd (u.rI (T + 1 + 1)) n c) (n + 1) = true → ∀ b, last ge3 (upd (u.rI (T + 1 + 1)) n c) (n + 1) = some b → Q none (tPl (tCl u T n c) T (nI (dcN (upd (u.rI (T + 1 + 1)) n c) dl b)) (stF (upd (u.rI (T + 1 + 1)) n c) b) (nI ((dcN (upd (u.rI (T + 1 + 1)) n c) dl b + 1) % 4)))) : wR pr (d + 4 + 1) 92 [.ref T, .int c] u Q := by
  refine gR_of mi_92 cFr_rf rfl (Nat.le_of_ble_eq_true rfl) ?_
  show wB pr (d + 4) cd_92 none Q 0 [some (.ref T), some (.int c)] [] u
  obtain ⟨k0, k1, k2, k3, k4, k5, kb, kb1, hon, hn, hn2, hm, hm2⟩ := hT
  have f1 : (tCl u T n c).oI (T + 1) 1 = nI (n + 1) := u2_s u.oI (T + 1) 1 (nI (n + 1))
  have f2 : (tCl u T n c).rI (T + 1 + 1) = upd (u.rI (T + 1 + 1)) n c := u2_row u.rI (T + 1 + 1) n c
  have f3 : (tCl u T n c).oI (T + 1) 2 = nI dl := (u2_k u.oI (nI (n + 1)) (by decide)).trans hd
  have g1 : (tCl u T n c).kd (T + 1) = 4 := k1
  have g2 : (tCl u T n c).kd (T + 1 + 1) = 5 := k2
  have g0 : (tCl u T n c).kd T = 3 := k0
  have g3 : (tCl u T n c).kd (T + 3) = 6 := k3
  have g5 : (tCl u T n c).kd (T + 3 + 2) = 8 := k5
  refine g_load rfl rfl rfl trivial ?_
  refine c_getf rfl (by assumption) (by decide) (by rfl) (by rfl) ?_
  refine g_load rfl rfl rfl trivial ?_
  refine g_virtV (a := T + 1) (ci := 1) (n := 1) [.int c] cFr_tr rfl rfl (by decide) rfl (c_ob (κ := 4) (by exact k1) (by decide) (by rfl)) rfl (Nat.le_of_ble_eq_true rfl) (Nat.le_refl _) (Nat.le_refl _) (w_add (T + 1) n (by exact k1) (by exact k2) hn hn3 c ⟨rfl, ?_⟩)
  show wB _ _ _ _ _ _ _ _ (tCl u T n c)
  refine g_load rfl rfl rfl trivial ?_
  refine c_getf rfl (κ := 3) (by exact g0) (by decide) (by rfl) (by rfl) ?_
  refine g_virtI (a := T + 1) (ci := 1) (n := 0) [] cFr_tr rfl rfl (by decide) rfl (c_ob (κ := 4) (by exact g1) (by decide) (by rfl)) rfl (Nat.le_of_ble_eq_true rfl) (Nat.le_refl _) (Nat.le_refl _) (c_lift cFr_rf (fun _ h => h) (c_isOver (T + 1) (n + 1) g1 g2 f1 (by omega) ⟨_, rfl, ?_⟩))
  rw [f2]
  refine g_if_eq rfl (fun c1 => ?_) (fun c1 => ?_)
  · rw [bI_eq] at c1
    have hQ := hN c1
    refine g_ret rfl rfl (Nat.le_refl _) (Nat.le_refl _) ?_
    exact hQ
  · rw [bI_ne] at c1
    have hP := hP c1
    have hC := hC c1
    cases hb : last ge3 (upd (u.rI (T + 1 + 1)) n c) (n + 1) with
    | none =>
      have hQ := hP hb
      clear hC
      refine g_load rfl rfl rfl trivial ?_
      refine c_getf rfl (κ := 3) (by exact g0) (by decide) (by rfl) (by rfl) ?_
      refine g_load rfl rfl rfl trivial ?_
      refine c_getf rfl (κ := 3) (by exact g0) (by decide) (by rfl) (by rfl) ?_
      refine g_virtI (a := T + 1) (ci := 1) (n := 0) [] cFr_tr rfl rfl (by decide) rfl (c_ob (κ := 4) (by exact g1) (by decide) (by rfl)) rfl (Nat.le_of_ble_eq_true rfl) (Nat.le_refl _) (Nat.le_refl _) (c_lift cFr_rf (fun _ h => h) (c_adeclarer_n (T + 1) (n + 1) g1 g2 f1 (by omega) (by rw [f2]; exact hb) ⟨_, rfl, ?_⟩))
      refine g_load rfl rfl rfl trivial ?_
      refine c_getf rfl (κ := 3) (by exact g0) (by decide) (by rfl) (by rfl) ?_
      refine g_virtI (a := T + 1) (ci := 1) (n := 0) [] cFr_tr rfl rfl (by decide) rfl (c_ob (κ := 4) (by exact g1) (by decide) (by rfl)) rfl (Nat.le_of_ble_eq_true rfl) (Nat.le_refl _) (Nat.le_refl _) (c_lift cFr_rf (fun _ h => h) (c_astrain (T + 1) (n + 1) g1 g2 f1 (by omega) ⟨_, rfl, ?_⟩))
      rw [show stG ((tCl u T n c).rI (T + 1 + 1)) (n + 1) = -1 by rw [f2]; unfold stG; rw [hb]]
      refine g_virtV (a := T + 3) (ci := 4) (n := 2) [.int (-1), .int (-1)] cFr_tr rfl rfl (by decide) rfl (c_ob (κ := 6) (by exact g3) (by decide) (by rfl)) rfl (Nat.le_of_ble_eq_true rfl) (Nat.le_refl _) (Nat.le_refl _) (w_popen_n (T + 3) (by exact g3) (by exact g5) (-1) ⟨rfl, ?_⟩)
      exact g_ret rfl rfl (Nat.le_refl _) (Nat.le_refl _) hQ
    | some b =>
      have hQ := hC b hb
      have hb3 := (last_lt hb).2
      have hdc := dcF_N (f := upd (u.rI (T + 1 + 1)) n c) (dl := dl) hb3
      refine g_load rfl rfl rfl trivial ?_
      refine c_getf rfl (κ := 3) (by exact g0) (by decide) (by rfl) (by rfl) ?_
      refine g_load rfl rfl rfl trivial ?_
      refine c_getf rfl (κ := 3) (by exact g0) (by decide) (by rfl) (by rfl) ?_
      refine g_virtI (a := T + 1) (ci := 1) (n := 0) [] cFr_tr rfl rfl (by decide) rfl (c_ob (κ := 4) (by exact g1) (by decide) (by rfl)) rfl (Nat.le_of_ble_eq_true rfl) (Nat.le_refl _) (Nat.le_refl _) (c_lift cFr_rf (fun _ h => h) (c_adeclarer (T + 1) (n + 1) g1 g2 f1 (by omega) dl b f3 hdl (by rw [f2]; exact hb) (by rw [f2]; exact hc37) ⟨_, rfl, ?_⟩))
      rw [f2, hdc.1]
      refine g_load rfl rfl rfl trivial ?_
      refine c_getf rfl (κ := 3) (by exact g0) (by decide) (by rfl) (by rfl) ?_
      refine g_virtI (a := T + 1) (ci := 1) (n := 0) [] cFr_tr rfl rfl (by decide) rfl (c_ob (κ := 4) (by exact g1) (by decide) (by rfl)) rfl (Nat.le_of_ble_eq_true rfl) (Nat.le_refl _) (Nat.le_refl _) (c_lift cFr_rf (fun _ h => h) (c_astrain (T + 1) (n + 1) g1 g2 f1 (by omega) ⟨_, rfl, ?_⟩))
      rw [show stG ((tCl u T n c).rI (T + 1 + 1)) (n + 1) = stF (upd (u.rI (T + 1 + 1)) n c) b by rw [f2]; unfold stG; rw [hb]]
      refine g_virtV (a := T + 3) (ci := 4) (n := 2) [.int (nI (dcN (upd (u.rI (T + 1 + 1)) n c) dl b)), .int (stF (upd (u.rI (T + 1 + 1)) n c) b)] cFr_tr rfl rfl (by decide) rfl (c_ob (κ := 6) (by exact g3) (by decide) (by rfl)) rfl (Nat.le_of_ble_eq_true rfl) (Nat.le_refl _) (Nat.le_refl _) (w_popen (T + 3) (by exact g3) (by exact g5) _ _ hdc.2 ⟨rfl, ?_⟩)
      exact g_ret rfl rfl (Nat.le_refl _) (Nat.le_refl _) hQ
    skip
set_option maxRecDepth 20000 in
theorem w_addCard {pr : aC} {d : Nat} {u : cS} (T B n m : Nat) (hT : tB u T B n m) (hm52 : m < 52) (c : Nat) (ld : Nat) (hl : u.rI (T + 3 + 2) (m / 4) = nI ld) (hl4 : ld < 4) (hds : (m + 1) % 4 = 0 → ∀ x y, x < 4 → y < 4 → upd (u.rI (T + 3 + 1)) m (nI c) (m + 1 - 4 + x) = upd (u.rI (T + 3 + 1)) m (nI c) (m + 1 - 4 + y) → x = y) {Q : Option Value → cS → Prop} (hQ : ¬ (m + 1) % 4 = 0 → Q none (addP u (T + 3) m c)) (hQ4 : (m + 1) % 4 = 0 → Q none (upI (addP u (T + 3) m c) (T + 3 + 2) ((m + 1) / 4) (nI ((ld + bst (upd (u.rI (T + 3 + 1)) m (nI c)) (u.oI (T + 3) 5) (m + 1 - 4) 3) % 4)))) : wR pr (d + 4 + 1) 95 [.ref T, .int (nI c)] u Q := by
  refine gR_of mi_95 cFr_rf rfl (Nat.le_of_ble_eq_true rfl) ?_
  show wB pr (d + 4) cd_95 none Q 0 [some (.ref T), some (.int (nI c))] [] u
  obtain ⟨k0, k1, k2, k3, k4, k5, kb, kb1, hon, hn, hn2, hm, hm2⟩ := hT
  refine g_load rfl rfl rfl trivial ?_
  refine c_getf rfl (by assumption) (by decide) (by rfl) (by rfl) ?_
  refine g_load rfl rfl rfl trivial ?_
  refine g_virtV (a := T + 3) (ci := 4) (n := 1) [.int (nI c)] cFr_tr rfl rfl (by decide) rfl (c_ob (κ := 6) (by exact k3) (by decide) (by rfl)) rfl (Nat.le_of_ble_eq_true rfl) (Nat.le_refl _) (Nat.le_refl _) (w_padd (T + 3) m k3 k4 k5 hm hm2 hm52 c ld hl hl4 hds (fun q => ⟨rfl, ?_⟩) (fun q => ⟨rfl, ?_⟩))
  · exact g_ret rfl rfl (Nat.le_refl _) (Nat.le_refl _) (hQ q)
  exact g_ret rfl rfl (Nat.le_refl _) (Nat.le_refl _) (hQ4 q)
set_option maxRecDepth 20000 in
theorem w_tdrop {pr : aC} {d : Nat} {u : cS} (T B n m : Nat) (hT : tB u T B n m) (hck : cdOk (u.rI (T + 3 + 1)) m) {Q : Option Value → cS → Prop} (h0 : m = 0 → n = 0 → Q (some (.int 0)) u) (hA : m = 0 → 0 < n → Q (some (.int 1)) (upO u (T + 1) 1 (nI (n - 1)))) (hP : 0 < m → Q (some (.int 1)) (dropP u (T + 3) m (cN (u.rI (T + 3 + 1)) (m - 1)))) : wR pr (d + 2 + 1) 96 [.ref T] u Q := by
  refine gR_of mi_96 cFr_rf rfl (Nat.le_of_ble_eq_true rfl) ?_
  show wB pr (d + 2) cd_96 (Option.some Jvm.ClassFile.FieldType.boolean) Q 0 [some (.ref T)] [] u
  obtain ⟨k0, k1, k2, k3, k4, k5, kb, kb1, hon, hn, hn2, hm, hm2⟩ := hT
  refine g_load rfl rfl rfl trivial ?_
  refine c_getf rfl (by assumption) (by decide) (by rfl) (by rfl) ?_
  refine g_virtI (a := T + 3) (ci := 4) (n := 0) [] cFr_tr rfl rfl (by decide) rfl (c_ob (κ := 6) (by exact k3) (by decide) (by rfl)) rfl (Nat.le_of_ble_eq_true rfl) (Nat.le_refl _) (Nat.le_refl _) (w_pdrop (T + 3) m k3 k4 k5 hm hm2 hck (fun q => ⟨_, rfl, ?_⟩) (fun q => ⟨_, rfl, ?_⟩))
  · refine g_if_ne rfl (fun c1 => absurd rfl c1) (fun _ => ?_)
    refine g_load rfl rfl rfl trivial ?_
    refine c_getf rfl (κ := 3) (by exact k0) (by decide) (by rfl) (by rfl) ?_
    refine g_virtI (a := T + 1) (ci := 1) (n := 0) [] cFr_tr rfl rfl (by decide) rfl (c_ob (κ := 4) (by exact k1) (by decide) (by rfl)) rfl (Nat.le_of_ble_eq_true rfl) (Nat.le_refl _) (Nat.le_refl _) (w_adrop (T + 1) n k1 k2 hn hn2 (fun q2 => ⟨_, rfl, ?_⟩) (fun q2 => ⟨_, rfl, ?_⟩))
    · refine g_if_eq rfl (fun _ => ?_) (fun c1 => absurd rfl c1)
      refine g_iconst (nI 0) rfl (by decide) ?_
      exact g_vret rfl trivial ⟨by decide, by decide⟩ (Nat.le_refl _) (Nat.le_refl _) (h0 q q2)
    · refine g_if_eq rfl (fun c1 => absurd c1 (by decide)) (fun _ => ?_)
      refine g_iconst (nI 1) rfl (by decide) ?_
      refine g_goto rfl ?_
      exact g_vret rfl trivial ⟨by decide, by decide⟩ (Nat.le_refl _) (Nat.le_refl _) (hA q q2)
  · refine g_if_ne rfl (fun _ => ?_) (fun c1 => absurd c1 (by decide))
    refine g_iconst (nI 1) rfl (by decide) ?_
    refine g_goto rfl ?_
    exact g_vret rfl trivial ⟨by decide, by decide⟩ (Nat.le_refl _) (Nat.le_refl _) (hP q)
/-- one cell more: a result -/
def newR (u v : cS) (R : Nat → Int32) : Prop := v.tp = u.tp + 1 ∧ (∀ b, b ≠ u.tp → v.kd b = u.kd b ∧ v.oI b = u.oI b ∧ v.rI b = u.rI b ∧ v.rL b = u.rL b ∧ v.rR b = u.rR b) ∧ v.kd u.tp = 9 ∧ v.oI u.tp = R
def rs0 (b n e : Int32) : Nat → Int32 := fun k => if k = 0 then b else if k = 1 then n else if k = 2 then e else if k = 4 ∨ k = 5 ∨ k = 6 ∨ k = 7 then -1 else 0
theorem newR_0 (u : cS) (b n e : Int32) : newR u (rsN (mkO u 9) u.tp b n e) (rs0 b n e) := by
  refine ⟨rfl, fun x hx => ⟨if_neg hx, ?_, if_neg hx, if_neg hx, if_neg hx⟩, if_pos rfl, ?_⟩
  · show u2 (u2 (u2 (u2 (u2 (u2 (u2 (mkO u 9).oI u.tp 4 (-1)) u.tp 5 (-1)) u.tp 6 (-1)) u.tp 7 (-1)) u.tp 0 b) u.tp 1 n) u.tp 2 e x = _
    rw [u2_a _ _ hx, u2_a _ _ hx, u2_a _ _ hx, u2_a _ _ hx, u2_a _ _ hx, u2_a _ _ hx, u2_a _ _ hx]
    exact if_neg hx
  · funext k
    show u2 (u2 (u2 (u2 (u2 (u2 (u2 (mkO u 9).oI u.tp 4 (-1)) u.tp 5 (-1)) u.tp 6 (-1)) u.tp 7 (-1)) u.tp 0 b) u.tp 1 n) u.tp 2 e u.tp k = _
    have e0 : (mkO u 9).oI u.tp = fun _ => 0 := if_pos rfl
    by_cases k0 : k = 0
    · subst k0; simp [u2, rs0]
    by_cases k1 : k = 1
    · subst k1; simp [u2, rs0]
    by_cases k2 : k = 2
    · subst k2; simp [u2, rs0]
    by_cases k4 : k = 4
    · subst k4; simp [u2, rs0]
    by_cases k5 : k = 5
    · subst k5; simp [u2, rs0]
    by_cases k6 : k = 6
    · subst k6; simp [u2, rs0]
    by_cases k7 : k = 7
    · subst k7; simp [u2, rs0]
    simp [u2, rs0, k0, k1, k2, k4, k5, k6, k7, e0]
theorem newR.on {u v w : cS} {R F : Nat → Int32} (h : newR u v R) (h2 : onO v w u.tp F) : newR u w F := by
  obtain ⟨a1, a2, a3, a4⟩ := h
  obtain ⟨b1, b2, b3, b4, b5, b6, b7⟩ := h2
  refine ⟨b5.trans a1, fun x hx => ?_, by rw [b1]; exact a3, b7⟩
  rw [b1, b2, b3, b4, b6 x hx]
  exact a2 x hx
theorem newR.tB {u v : cS} {R : Nat → Int32} {T B n m : Nat} (h : newR u v R) (hT : tB u T B n m) (ht : ∀ a, u.kd a ≠ 0 → a < u.tp) : tB v T B n m := by
  obtain ⟨k0, k1, k2, k3, k4, k5, kb, kb1, hon, hn, hn2, hm, hm2⟩ := hT
  have f : ∀ a κ, κ ≠ 0 → u.kd a = κ → v.kd a = u.kd a ∧ v.oI a = u.oI a ∧ v.rI a = u.rI a ∧ v.rL a = u.rL a ∧ v.rR a = u.rR a := fun a κ h0 hk => h.2.1 a (by have := ht a (by rw [hk]; exact h0); omega)
  refine ⟨(f T 3 (by decide) k0).1.trans k0, (f _ 4 (by decide) k1).1.trans k1, (f _ 5 (by decide) k2).1.trans k2, (f _ 6 (by decide) k3).1.trans k3, (f _ 7 (by decide) k4).1.trans k4, (f _ 8 (by decide) k5).1.trans k5, (f _ 1 (by decide) kb).1.trans kb, (f _ 2 (by decide) kb1).1.trans kb1, ?_, ?_, hn2, ?_, hm2⟩
  · rw [(f T 3 (by decide) k0).2.2.2.2]; exact hon
  · rw [(f _ 4 (by decide) k1).2.1]; exact hn
  · rw [(f _ 6 (by decide) k3).2.1]; exact hm
set_option maxRecDepth 20000 in
theorem w_toResult_n {pr : aC} {d : Nat} {u : cS} (T B n m : Nat) (hT : tB u T B n m) (cl : Int32) (htp : ∀ a, u.kd a ≠ 0 → a < u.tp) (h50 : 50 ≤ u.tp) (hnc : last ge3 (u.rI (T + 1 + 1)) n = none) {Q : Option Value → cS → Prop} (hQ : ∀ v, newR u v (rs0 (u.oI B 0) (u.oI T 1) (u.oI T 2)) → Q (some (.ref u.tp)) v) : gR CF cFr (aRun pg pr (d + 3 + 1)) 106 [.ref T, .int cl] u 1 12 Q := by
  refine gR_of mi_106 cFr_rf rfl (Nat.le_of_ble_eq_true rfl) ?_
  show gB CF cFr (aRun pg pr (d + 3)) cd_106 1 12 (Option.some (Jvm.ClassFile.FieldType.object "BridgeClub$Result")) Q 0 [some (.ref T), some (.int cl), none, none] [] u 0 0
  have hT0 := hT
  obtain ⟨k0, k1, k2, k3, k4, k5, kb, kb1, hon, hn, hn2, hm, hm2⟩ := hT
  have lt : ∀ a κ, κ ≠ 0 → u.kd a = κ → a < u.tp := fun a κ h0 hk => htp a (by rw [hk]; exact h0)
  have n2 : ∀ a κ, κ ≠ 0 → u.kd a = κ → a ≠ u.tp := fun a κ h0 hk => by have := lt a κ h0 hk; omega
  have kT : (mkO u 9).kd T = 3 := (mk_n (lt T 3 (by decide) k0)).trans k0
  have oT : (mkO u 9).oI T = u.oI T := mk_O (lt T 3 (by decide) k0)
  have oB : (mkO u 9).oI B = u.oI B := mk_O (lt B 1 (by decide) kb)
  have hTm : tB (mkO u 9) T B n m := ⟨kT, (mk_n (lt _ 4 (by decide) k1)).trans k1, (mk_n (lt _ 5 (by decide) k2)).trans k2, (mk_n (lt _ 6 (by decide) k3)).trans k3, (mk_n (lt _ 7 (by decide) k4)).trans k4, (mk_n (lt _ 8 (by decide) k5)).trans k5, (mk_n (lt _ 1 (by decide) kb)).trans kb, (mk_n (lt _ 2 (by decide) kb1)).trans kb1, (by rw [mk_R (lt T 3 (by decide) k0)]; exact hon), (by rw [mk_O (lt _ 4 (by decide) k1)]; exact hn), hn2, (by rw [mk_O (lt _ 6 (by decide) k3)]; exact hm), hm2⟩
  refine c_new 9 rfl (Or.inr h50) (Nat.le_of_ble_eq_true rfl) (Nat.le_of_ble_eq_true rfl) (by simp [cCell, mkO, aDef, aCls, vwCl, cS.oI, cS.rR, cS.tp]; rfl) ?_
  refine g_dup rfl rfl ?_
  refine g_load rfl rfl rfl trivial ?_
  refine g_virtI (a := T) (ci := 6) (n := 0) [] cFr_tr rfl rfl (by decide) rfl (c_ob (κ := 3) (by exact kT) (by decide) (by rfl)) rfl (Nat.le_of_ble_eq_true rfl) (Nat.le_of_ble_eq_true rfl) (Nat.le_of_ble_eq_true rfl) (c_lift cFr_rf (fun _ h => h) (c_tboard T B n m hTm ⟨_, rfl, ?_⟩))
  rw [oB]
  refine g_load rfl rfl rfl trivial ?_
  refine c_getf rfl (κ := 3) (by exact kT) (by decide) (by rfl) (by rfl) ?_
  rw [show (mkO u 9).oI T 1 = u.oI T 1 by rw [oT]]
  refine g_load rfl rfl rfl trivial ?_
  refine c_getf rfl (κ := 3) (by exact kT) (by decide) (by rfl) (by rfl) ?_
  rw [show (mkO u 9).oI T 2 = u.oI T 2 by rw [oT]]
  refine g_special (n := 3) [.int (u.oI B 0), .int (u.oI T 1), .int (u.oI T 2)] 0 0 cFr_tr rfl (by decide) (by decide) rfl rfl (Nat.le_of_ble_eq_true rfl) (Nat.le_of_ble_eq_true rfl) (Nat.le_of_ble_eq_true rfl) (w_resultInit u.tp (u.oI B 0) (u.oI T 1) (u.oI T 2) (mk_s u 9) ?_)
  have F0 := newR_0 u (u.oI B 0) (u.oI T 1) (u.oI T 2)
  generalize rsN (mkO u 9) u.tp (u.oI B 0) (u.oI T 1) (u.oI T 2) = v0 at F0 ⊢
  have T0 := F0.tB hT0 htp
  have T0' := T0
  obtain ⟨k0', k1', k2', k3', k4', k5', kb', kb1', hon', hn', _, hm', _⟩ := T0'
  have s1 : v0.rI (T + 1 + 1) = u.rI (T + 1 + 1) := (F0.2.1 (T + 1 + 1) (n2 _ 5 (by decide) k2)).2.2.1
  have s2 : v0.rI (T + 3 + 1) = u.rI (T + 3 + 1) := (F0.2.1 (T + 3 + 1) (n2 _ 7 (by decide) k4)).2.2.1
  have s3 : v0.rI (T + 3 + 2) = u.rI (T + 3 + 2) := (F0.2.1 (T + 3 + 2) (n2 _ 8 (by decide) k5)).2.2.1
  have s4 : v0.oI (T + 3) = u.oI (T + 3) := (F0.2.1 (T + 3) (n2 _ 6 (by decide) k3)).2.1
  have s5 : v0.oI B = u.oI B := (F0.2.1 B (n2 _ 1 (by decide) kb)).2.1
  refine g_store [some (.ref T), some (.int cl), some (.ref u.tp), none] rfl rfl trivial (Nat.le_of_ble_eq_true rfl) rfl ?_
  refine g_load rfl rfl rfl trivial ?_
  refine c_getf rfl (κ := 3) (by exact k0') (by decide) (by rfl) (by rfl) ?_
  rw [hon']
  refine g_ifnull_r rfl ?_
  refine g_load rfl rfl rfl trivial ?_
  refine g_virtI (a := T) (ci := 6) (n := 0) [] cFr_tr rfl rfl (by decide) rfl (c_ob (κ := 3) (by exact k0') (by decide) (by rfl)) rfl (Nat.le_of_ble_eq_true rfl) (Nat.le_of_ble_eq_true rfl) (Nat.le_of_ble_eq_true rfl) (c_lift cFr_rf (fun _ h => h) (c_hasContract T B n m T0 ⟨_, rfl, ?_⟩))
  rw [s1, hnc]
  refine g_if_eq rfl (fun c1 => ?_) (fun c1 => ?_)
  · refine g_load rfl rfl rfl trivial ?_
    refine g_vret rfl trivial (by first | exact ⟨by decide, by decide⟩ | trivial) (Nat.le_of_ble_eq_true rfl) (Nat.le_of_ble_eq_true rfl) ?_
    exact hQ _ F0
  · exact absurd rfl c1
set_option maxRecDepth 20000 in
theorem w_toResult_c {pr : aC} {d : Nat} {u : cS} (T B n m : Nat) (hT : tB u T B n m) (cl : Nat) (htp : ∀ a, u.kd a ≠ 0 → a < u.tp) (h50 : 50 ≤ u.tp) (b dc bd l0 : Nat) (hb : last ge3 (u.rI (T + 1 + 1)) n = some b) (hdc : u.oI (T + 3) 4 = nI dc) (hdc4 : dc < 4) (hbd : u.oI B 0 = nI (bd + 1)) (hbd2 : bd < 36) (hl0 : l0 < 4) (hL : ∀ j, j ≤ m / 4 → u.rI (T + 3 + 2) j = nI (ldF (u.rI (T + 3 + 1)) (u.oI (T + 3) 5) l0 j)) {Q : Option Value → cS → Prop} (hQ : ∀ v, newR u v (soF (fun k => if k = 6 then dbG (u.rI (T + 1 + 1)) n else if k = 4 then stG (u.rI (T + 1 + 1)) n else if k = 3 then lvG (u.rI (T + 1 + 1)) n else rs0 (u.oI B 0) (u.oI T 1) (u.oI T 2) k) (nI dc) (nI (wnF (u.rI (T + 3 + 1)) (u.oI (T + 3) 5) l0 (dc % 2) (m / 4) + cl)) (vulF bd (dc % 2))) → Q (some (.ref u.tp)) v) : gR CF cFr (aRun pg pr (d + 4 + 1)) 106 [.ref T, .int (nI cl)] u 1 12 Q := by
  refine gR_of mi_106 cFr_rf rfl (Nat.le_of_ble_eq_true rfl) ?_
  show gB CF cFr (aRun pg pr (d + 4)) cd_106 1 12 (Option.some (Jvm.ClassFile.FieldType.object "BridgeClub$Result")) Q 0 [some (.ref T), some (.int (nI cl)), none, none] [] u 0 0
  have hT0 := hT
  obtain ⟨k0, k1, k2, k3, k4, k5, kb, kb1, hon, hn, hn2, hm, hm2⟩ := hT
  have lt : ∀ a κ, κ ≠ 0 → u.kd a = κ → a < u.tp := fun a κ h0 hk => htp a (by rw [hk]; exact h0)
  have n2 : ∀ a κ, κ ≠ 0 → u.kd a = κ → a ≠ u.tp := fun a κ h0 hk => by have := lt a κ h0 hk; omega
  have kT : (mkO u 9).kd T = 3 := (mk_n (lt T 3 (by decide) k0)).trans k0
  have oT : (mkO u 9).oI T = u.oI T := mk_O (lt T 3 (by decide) k0)
  have oB : (mkO u 9).oI B = u.oI B := mk_O (lt B 1 (by decide) kb)
  have hTm : tB (mkO u 9) T B n m := ⟨kT, (mk_n (lt _ 4 (by decide) k1)).trans k1, (mk_n (lt _ 5 (by decide) k2)).trans k2, (mk_n (lt _ 6 (by decide) k3)).trans k3, (mk_n (lt _ 7 (by decide) k4)).trans k4, (mk_n (lt _ 8 (by decide) k5)).trans k5, (mk_n (lt _ 1 (by decide) kb)).trans kb, (mk_n (lt _ 2 (by decide) kb1)).trans kb1, (by rw [mk_R (lt T 3 (by decide) k0)]; exact hon), (by rw [mk_O (lt _ 4 (by decide) k1)]; exact hn), hn2, (by rw [mk_O (lt _ 6 (by decide) k3)]; exact hm), hm2⟩
  refine c_new 9 rfl (Or.inr h50) (Nat.le_of_ble_eq_true rfl) (Nat.le_of_ble_eq_true rfl) (by simp [cCell, mkO, aDef, aCls, vwCl, cS.oI, cS.rR, cS.tp]; rfl) ?_
  refine g_dup rfl rfl ?_
  refine g_load rfl rfl rfl trivial ?_
  refine g_virtI (a := T) (ci := 6) (n := 0) [] cFr_tr rfl rfl (by decide) rfl (c_ob (κ := 3) (by exact kT) (by decide) (by rfl)) rfl (Nat.le_of_ble_eq_true rfl) (Nat.le_of_ble_eq_true rfl) (Nat.le_of_ble_eq_true rfl) (c_lift cFr_rf (fun _ h => h) (c_tboard T B n m hTm ⟨_, rfl, ?_⟩))
  rw [oB]
  refine g_load rfl rfl rfl trivial ?_
  refine c_getf rfl (κ := 3) (by exact kT) (by decide) (by rfl) (by rfl) ?_
  rw [show (mkO u 9).oI T 1 = u.oI T 1 by rw [oT]]
  refine g_load rfl rfl rfl trivial ?_
  refine c_getf rfl (κ := 3) (by exact kT) (by decide) (by rfl) (by rfl) ?_
  rw [show (mkO u 9).oI T 2 = u.oI T 2 by rw [oT]]
  refine g_special (n := 3) [.int (u.oI B 0), .int (u.oI T 1), .int (u.oI T 2)] 0 0 cFr_tr rfl (by decide) (by decide) rfl rfl (Nat.le_of_ble_eq_true rfl) (Nat.le_of_ble_eq_true rfl) (Nat.le_of_ble_eq_true rfl) (w_resultInit u.tp (u.oI B 0) (u.oI T 1) (u.oI T 2) (mk_s u 9) ?_)
  have F0 := newR_0 u (u.oI B 0) (u.oI T 1) (u.oI T 2)
  generalize rsN (mkO u 9) u.tp (u.oI B 0) (u.oI T 1) (u.oI T 2) = v0 at F0 ⊢
  have T0 := F0.tB hT0 htp
  have T0' := T0
  obtain ⟨k0', k1', k2', k3', k4', k5', kb', kb1', hon', hn', _, hm', _⟩ := T0'
  have s1 : v0.rI (T + 1 + 1) = u.rI (T + 1 + 1) := (F0.2.1 (T + 1 + 1) (n2 _ 5 (by decide) k2)).2.2.1
  have s2 : v0.rI (T + 3 + 1) = u.rI (T + 3 + 1) := (F0.2.1 (T + 3 + 1) (n2 _ 7 (by decide) k4)).2.2.1
  have s3 : v0.rI (T + 3 + 2) = u.rI (T + 3 + 2) := (F0.2.1 (T + 3 + 2) (n2 _ 8 (by decide) k5)).2.2.1
  have s4 : v0.oI (T + 3) = u.oI (T + 3) := (F0.2.1 (T + 3) (n2 _ 6 (by decide) k3)).2.1
  have s5 : v0.oI B = u.oI B := (F0.2.1 B (n2 _ 1 (by decide) kb)).2.1
  have k9 : v0.kd u.tp = 9 := F0.2.2.1
  refine g_store [some (.ref T), some (.int (nI cl)), some (.ref u.tp), none] rfl rfl trivial (Nat.le_of_ble_eq_true rfl) rfl ?_
  refine g_load rfl rfl rfl trivial ?_
  refine c_getf rfl (κ := 3) (by exact k0') (by decide) (by rfl) (by rfl) ?_
  rw [hon']
  refine g_ifnull_r rfl ?_
  refine g_load rfl rfl rfl trivial ?_
  refine g_virtI (a := T) (ci := 6) (n := 0) [] cFr_tr rfl rfl (by decide) rfl (c_ob (κ := 3) (by exact k0') (by decide) (by rfl)) rfl (Nat.le_of_ble_eq_true rfl) (Nat.le_of_ble_eq_true rfl) (Nat.le_of_ble_eq_true rfl) (c_lift cFr_rf (fun _ h => h) (c_hasContract T B n m T0 ⟨_, rfl, ?_⟩))
  rw [s1, hb]
  refine g_if_eq rfl (fun c1 => ?_) (fun c1 => ?_)
  · exact absurd c1 (show ¬ bI true = 0 by decide)
  · refine g_load rfl rfl rfl trivial ?_
    refine c_getf rfl (κ := 3) (by exact k0') (by decide) (by rfl) (by rfl) ?_
    refine g_virtI (a := T + 3) (ci := 4) (n := 0) [] cFr_tr rfl rfl (by decide) rfl (c_ob (κ := 6) (by exact k3') (by decide) (by rfl)) rfl (Nat.le_of_ble_eq_true rfl) (Nat.le_of_ble_eq_true rfl) (Nat.le_of_ble_eq_true rfl) (c_lift cFr_rf (fun _ h => h) (c_pdeclarer (T + 3) k3' ⟨_, rfl, ?_⟩))
    rw [s4, hdc]
    refine g_store [some (.ref T), some (.int (nI cl)), some (.ref u.tp), some (.int (nI dc))] rfl rfl trivial (Nat.le_of_ble_eq_true rfl) rfl ?_
    refine g_load rfl rfl rfl trivial ?_
    refine g_load rfl rfl rfl trivial ?_
    refine c_getf rfl (κ := 3) (by exact k0') (by decide) (by rfl) (by rfl) ?_
    refine g_virtI (a := T + 1) (ci := 1) (n := 0) [] cFr_tr rfl rfl (by decide) rfl (c_ob (κ := 4) (by exact k1') (by decide) (by rfl)) rfl (Nat.le_of_ble_eq_true rfl) (Nat.le_of_ble_eq_true rfl) (Nat.le_of_ble_eq_true rfl) (c_lift cFr_rf (fun _ h => h) (c_alevel (T + 1) n k1' k2' hn' hn2 ⟨_, rfl, ?_⟩))
    refine g_load rfl rfl rfl trivial ?_
    refine c_getf rfl (κ := 3) (by exact k0') (by decide) (by rfl) (by rfl) ?_
    refine g_virtI (a := T + 1) (ci := 1) (n := 0) [] cFr_tr rfl rfl (by decide) rfl (c_ob (κ := 4) (by exact k1') (by decide) (by rfl)) rfl (Nat.le_of_ble_eq_true rfl) (Nat.le_of_ble_eq_true rfl) (Nat.le_of_ble_eq_true rfl) (c_lift cFr_rf (fun _ h => h) (c_astrain (T + 1) n k1' k2' hn' hn2 ⟨_, rfl, ?_⟩))
    refine g_load rfl rfl rfl trivial ?_
    refine c_getf rfl (κ := 3) (by exact k0') (by decide) (by rfl) (by rfl) ?_
    refine g_virtI (a := T + 1) (ci := 1) (n := 0) [] cFr_tr rfl rfl (by decide) rfl (c_ob (κ := 4) (by exact k1') (by decide) (by rfl)) rfl (Nat.le_of_ble_eq_true rfl) (Nat.le_of_ble_eq_true rfl) (Nat.le_of_ble_eq_true rfl) (c_lift cFr_rf (fun _ h => h) (c_doubling (T + 1) n k1' k2' hn' hn2 ⟨_, rfl, ?_⟩))
    rw [s1]
    refine g_virtV (a := u.tp) (ci := 5) (n := 3) [.int (lvG (u.rI (T + 1 + 1)) n), .int (stG (u.rI (T + 1 + 1)) n), .int (dbG (u.rI (T + 1 + 1)) n)] cFr_tr rfl rfl (by decide) rfl (c_ob (κ := 9) k9 (by decide) (by rfl)) rfl (Nat.le_of_ble_eq_true rfl) (Nat.le_of_ble_eq_true rfl) (Nat.le_of_ble_eq_true rfl) (w_setContract u.tp _ _ _ k9 (fun v1 h1 => ⟨rfl, ?_⟩))
    have F1 := F0.on h1
    have e0 : v0.oI u.tp = rs0 (u.oI B 0) (u.oI T 1) (u.oI T 2) := F0.2.2.2
    rw [e0] at F1
    clear h1 T0 k0' k1' k2' k3' k4' k5' kb' kb1' hon' hn' hm' s1 s2 s3 s4 s5
    have T1 := F1.tB hT0 htp
    have T1' := T1
    obtain ⟨k0', k1', k2', k3', k4', k5', kb', kb1', hon', hn', _, hm', _⟩ := T1'
    have s1 : v1.rI (T + 1 + 1) = u.rI (T + 1 + 1) := (F1.2.1 (T + 1 + 1) (n2 _ 5 (by decide) k2)).2.2.1
    have s2 : v1.rI (T + 3 + 1) = u.rI (T + 3 + 1) := (F1.2.1 (T + 3 + 1) (n2 _ 7 (by decide) k4)).2.2.1
    have s3 : v1.rI (T + 3 + 2) = u.rI (T + 3 + 2) := (F1.2.1 (T + 3 + 2) (n2 _ 8 (by decide) k5)).2.2.1
    have s4 : v1.oI (T + 3) = u.oI (T + 3) := (F1.2.1 (T + 3) (n2 _ 6 (by decide) k3)).2.1
    have s5 : v1.oI B = u.oI B := (F1.2.1 B (n2 _ 1 (by decide) kb)).2.1
    have k9 : v1.kd u.tp = 9 := F1.2.2.1
    refine g_load rfl rfl rfl trivial ?_
    refine g_load rfl rfl rfl trivial ?_
    refine g_load rfl rfl rfl trivial ?_
    refine c_getf rfl (κ := 3) (by exact k0') (by decide) (by rfl) (by rfl) ?_
    refine g_load rfl rfl rfl trivial ?_
    refine g_iconst (nI 2) rfl (by decide) ?_
    refine g_irem rfl (by decide) ?_
    rw [pk_rem (by omega) (by omega) (by omega)]
    refine g_virtI (a := T + 3) (ci := 4) (n := 1) [.int (nI (dc % 2))] cFr_tr rfl rfl (by decide) rfl (c_ob (κ := 6) (by exact k3') (by decide) (by rfl)) rfl (Nat.le_of_ble_eq_true rfl) (Nat.le_of_ble_eq_true rfl) (Nat.le_of_ble_eq_true rfl) (c_lift cFr_rf (fun _ h => h) (c_tricksOf (T + 3) m k3' k4' k5' hm' hm2 l0 hl0 (by rw [s2, s3, s4]; exact hL) (dc % 2) (by omega) ⟨_, rfl, ?_⟩))
    rw [s2, s4]
    refine g_load rfl rfl rfl trivial ?_
    refine g_iadd rfl ?_
    rw [nI_add]
    refine g_load rfl rfl rfl trivial ?_
    refine c_getf rfl (κ := 3) (by exact k0') (by decide) (by rfl) (by rfl) ?_
    rw [hon']
    refine g_load rfl rfl rfl trivial ?_
    refine g_iconst (nI 2) rfl (by decide) ?_
    refine g_irem rfl (by decide) ?_
    rw [pk_rem (by omega) (by omega) (by omega)]
    refine g_virtI (a := B) (ci := 2) (n := 1) [.int (nI (dc % 2))] cFr_tr rfl rfl (by decide) rfl (c_ob (κ := 1) (by exact kb') (by decide) (by rfl)) rfl (Nat.le_of_ble_eq_true rfl) (Nat.le_of_ble_eq_true rfl) (Nat.le_of_ble_eq_true rfl) (c_lift cFr_rf (fun _ h => h) (c_isVulnerable B bd kb' (by rw [s5]; exact hbd) hbd2 (dc % 2) (by omega) ⟨_, rfl, ?_⟩))
    refine g_virtV (a := u.tp) (ci := 5) (n := 3) [.int (nI dc), .int (nI (wnF (u.rI (T + 3 + 1)) (u.oI (T + 3) 5) l0 (dc % 2) (m / 4) + cl)), .int (bI (vulF bd (dc % 2)))] cFr_tr rfl rfl (by decide) rfl (c_ob (κ := 9) k9 (by decide) (by rfl)) rfl (Nat.le_of_ble_eq_true rfl) (Nat.le_of_ble_eq_true rfl) (Nat.le_of_ble_eq_true rfl) (w_setOutcome u.tp _ _ _ k9 (fun v2 h2 => ⟨rfl, ?_⟩))
    have F2 := F1.on h2
    rw [F1.2.2.2] at F2
    refine g_load rfl rfl rfl trivial ?_
    refine g_vret rfl trivial (by first | exact ⟨by decide, by decide⟩ | trivial) (Nat.le_of_ble_eq_true rfl) (Nat.le_of_ble_eq_true rfl) ?_
    exact hQ _ F2
