/-! ===== the class: Ending, from a table on ===== -/
/-- only the ending's own cells differ -/
def onE (u v : cS) : Prop := v.kd = u.kd ∧ v.tp = u.tp ∧ v.rI = u.rI ∧ v.rR = u.rR ∧ (∀ b, b ≠ 21 → v.oI b = u.oI b) ∧ ∀ b, b ≠ 22 → v.rL b = u.rL b
theorem onE.rf (u : cS) : onE u u := ⟨rfl, rfl, rfl, rfl, fun _ _ => rfl, fun _ _ => rfl⟩
theorem onE.tr {u v w : cS} (h : onE u v) (k : onE v w) : onE u w := ⟨k.1.trans h.1, k.2.1.trans h.2.1, k.2.2.1.trans h.2.2.1, k.2.2.2.1.trans h.2.2.2.1, fun b hb => (k.2.2.2.2.1 b hb).trans (h.2.2.2.2.1 b hb), fun b hb => (k.2.2.2.2.2 b hb).trans (h.2.2.2.2.2 b hb)⟩
theorem onE.O (u : cS) (k : Nat) (x : Int32) : onE u (upO u 21 k x) := ⟨rfl, rfl, rfl, rfl, fun _ hb => u2_a u.oI x hb, fun _ _ => rfl⟩
theorem onE.L (u : cS) (k : Nat) (x : Int64) : onE u (upL u 22 k x) := ⟨rfl, rfl, rfl, rfl, fun _ _ => rfl, fun _ hb => u2_a u.rL x hb⟩
theorem onE.kk {u v : cS} (h : onE u v) {a κ : Nat} (hk : u.kd a = κ) : v.kd a = κ := by rw [h.1]; exact hk
theorem c_pute {cl : aC} {cd : List aE} {C S : Nat} {rt : Option FieldType} {Q : Option Value → cS → Prop} {k : Nat} {l : aL} {st : List Value} {u : cS} {c s : Nat} {j f : Nat} {x : Int32} (hg : aGet cd k = some (.putfield j, 3, f)) (hk : u.kd 21 = 14) (hf : 1 ≤ f ∧ f ≤ 7) (hP : ∀ v, onE u v → v.rL = u.rL → v.oI 21 f = x → (∀ g, g ≠ f → v.oI 21 g = u.oI 21 g) → gB CF cFr cl cd C S rt Q (k + 1) l st v c s) : gB CF cFr cl cd C S rt Q k l (.int x :: .ref 21 :: st) u c s := by
  have hv := hP (upO u 21 f x) (onE.O u f x) rfl (u2_s u.oI 21 f x) (fun g hg => u2_k (a := 21) u.oI x hg)
  rcases (show f = 1 ∨ f = 2 ∨ f = 3 ∨ f = 4 ∨ f = 5 ∨ f = 6 ∨ f = 7 by omega) with e | e | e | e | e | e | e <;> subst e <;> exact c_puti hg (κ := 14) hk (by decide) (by rfl) (Nat.le_of_ble_eq_true rfl) ⟨_, _, rfl, rfl, rfl, rfl⟩ (by simp [cCell, upO, u2, cS.kd, cS.oI, cS.rI, cS.rL, cS.rR, cS.tp]) hv
/-- the play of a table, its leader -/
def plB (u : cS) (a m ld : Nat) : Prop := u.kd a = 6 ∧ u.kd (a + 1) = 7 ∧ u.kd (a + 2) = 8 ∧ u.oI a 2 = nI m ∧ m ≤ 52 ∧ u.rI (a + 2) (m / 4) = nI ld ∧ ld < 4
theorem onE.pl {u v : cS} (h : onE u v) (k1 : u.kd 21 = 14) {a m ld : Nat} (hp : plB u a m ld) : plB v a m ld := by
  obtain ⟨p1, p2, p3, p4, p5, p6, p7⟩ := hp
  refine ⟨h.kk p1, h.kk p2, h.kk p3, ?_, p5, ?_, p7⟩
  · rw [h.2.2.2.2.1 a (fun e => by rw [e, k1] at p1; exact absurd p1 (by decide))]; exact p4
  · rw [h.2.2.1]; exact p6
theorem onE.oT {u v : cS} (h : onE u v) (k1 : u.kd 21 = 14) {a κ : Nat} (hk : u.kd a = κ) (hn : κ ≠ 14) (j : Nat) : v.oI a j = u.oI a j := by
  rw [h.2.2.2.2.1 a (fun e => by rw [e, k1] at hk; exact hn hk.symm)]
theorem onE.tB {u v : cS} (h : onE u v) (k1 : u.kd 21 = 14) {T B n m : Nat} (hT : tB u T B n m) : tB v T B n m := by
  obtain ⟨k0, k1', k2, k3, k4, k5, kb, kb1, hon, hn, hn2, hm, hm2⟩ := hT
  exact ⟨h.kk k0, h.kk k1', h.kk k2, h.kk k3, h.kk k4, h.kk k5, h.kk kb, h.kk kb1, by rw [h.2.2.2.1]; exact hon, by rw [h.oT k1 k1' (by decide)]; exact hn, hn2, by rw [h.oT k1 k3 (by decide)]; exact hm, hm2⟩
/-- what a seat still holds, as a long -/
def hlL (u : cS) (T B x : Nat) : Int64 := u.rL (B + 1) x &&& (u.rL (T + 3) 0 ^^^ (-1))
def hgF (g : Nat → Int32) (tr : Int32) (m : Nat) : Int32 := if m % 4 = 0 then -1 else g (m - m % 4 + bst g tr (m - m % 4) (m % 4 - 1))
def wiF (g : Nat → Int32) (tr : Int32) (m ld : Nat) : Int32 := if m % 4 = 0 then nI ld else nI ((ld + bst g tr (m - m % 4) (m % 4 - 1)) % 4)
def lded (u v : cS) (T B m dc ld : Nat) : Prop := onE u v ∧ (∀ x, x < 4 → v.rL 22 x = hlL u T B x) ∧ v.oI 21 1 = u.oI (T + 3) 5 ∧ v.oI 21 2 = nI (dc % 2) ∧ v.oI 21 3 = nI (52 - m) ∧ v.oI 21 4 = nI ((ld + m % 4) % 4) ∧ v.oI 21 5 = ledC (u.rI (T + 3 + 1)) m ∧ v.oI 21 6 = hgF (u.rI (T + 3 + 1)) (u.oI (T + 3) 5) m ∧ v.oI 21 7 = wiF (u.rI (T + 3 + 1)) (u.oI (T + 3) 5) m ld
set_option maxRecDepth 20000 in
theorem w_load_2 {pr : aC} {d : Nat} {u : cS} (T B n m dc ld : Nat) (hT : tB u T B n m) (k21 : u.kd 21 = 14) (k22 : u.kd 22 = 2) (hdc : u.oI (T + 3) 4 = nI dc) (hdc4 : dc < 4) (hl : u.rI (T + 3 + 2) (m / 4) = nI ld) (hl4 : ld < 4) (hds : ∀ x y, x < m % 4 → y < m % 4 → u.rI (T + 3 + 1) (m - m % 4 + x) = u.rI (T + 3 + 1) (m - m % 4 + y) → x = y) {v0 : cS} (E0 : onE u v0) (L0 : ∀ x, x < 4 → v0.rL 22 x = hlL u T B x) {Q : Option Value → cS → Prop} (hQ : ∀ v, lded u v T B m dc ld → Q none v) : wB pr (d + 3) cd_35 none Q 19 [some (.ref 21), some (.ref T), some (.ref (T + 3)), some (.int (nI 4))] [] v0 := by
  have hT0 := hT
  obtain ⟨k0, k1, k2, k3, k4, k5, kb, kb1, hon, hn, hn2, hm, hm2⟩ := hT
  have P0 : plB u (T + 3) m ld := ⟨k3, k4, k5, hm, hm2, hl, hl4⟩
  refine g_load rfl rfl rfl trivial ?_
  refine g_load rfl rfl rfl trivial ?_
  refine g_virtI (a := T + 3) (ci := 4) (n := 0) [] cFr_tr rfl rfl (by decide) rfl (c_ob (κ := 6) (by exact (E0.kk k3)) (by decide) (by rfl)) rfl (Nat.le_of_ble_eq_true rfl) (Nat.le_refl _) (Nat.le_refl _) (c_lift cFr_rf (fun _ h => h) (c_trump (T + 3) (E0.kk k3) ⟨_, rfl, ?_⟩))
  rw [E0.oT k21 k3 (by decide)]
  refine c_pute rfl (E0.kk k21) (by decide) (fun v1 e1 r1 f1 g1 => ?_)
  have E1 := E0.tr e1
  refine g_load rfl rfl rfl trivial ?_
  refine g_load rfl rfl rfl trivial ?_
  refine g_virtI (a := T + 3) (ci := 4) (n := 0) [] cFr_tr rfl rfl (by decide) rfl (c_ob (κ := 6) (by exact (E1.kk k3)) (by decide) (by rfl)) rfl (Nat.le_of_ble_eq_true rfl) (Nat.le_refl _) (Nat.le_refl _) (c_lift cFr_rf (fun _ h => h) (c_pdeclarer (T + 3) (E1.kk k3) ⟨_, rfl, ?_⟩))
  rw [E1.oT k21 k3 (by decide), hdc]
  refine g_iconst (nI 2) rfl (by decide) ?_
  refine g_irem rfl (by decide) ?_
  rw [pk_rem (by omega) (by omega) (by omega)]
  refine c_pute rfl (E1.kk k21) (by decide) (fun v2 e2 r2 f2 g2 => ?_)
  have E2 := E1.tr e2
  refine g_load rfl rfl rfl trivial ?_
  refine g_bipush (nI 52) rfl (by decide) ?_
  refine g_load rfl rfl rfl trivial ?_
  refine g_virtI (a := T + 3) (ci := 4) (n := 0) [] cFr_tr rfl rfl (by decide) rfl (c_ob (κ := 6) (by exact (E2.kk k3)) (by decide) (by rfl)) rfl (Nat.le_of_ble_eq_true rfl) (Nat.le_refl _) (Nat.le_refl _) (c_lift cFr_rf (fun _ h => h) (c_plength (T + 3) (E2.kk k3) ⟨_, rfl, ?_⟩))
  rw [E2.oT k21 k3 (by decide), hm]
  refine g_isub rfl ?_
  rw [pk_sub (by omega)]
  refine c_pute rfl (E2.kk k21) (by decide) (fun v3 e3 r3 f3 g3 => ?_)
  have E3 := E2.tr e3
  refine g_load rfl rfl rfl trivial ?_
  refine g_load rfl rfl rfl trivial ?_
  refine g_virtI (a := T + 3) (ci := 4) (n := 0) [] cFr_tr rfl rfl (by decide) rfl (c_ob (κ := 6) (by exact (E3.kk k3)) (by decide) (by rfl)) rfl (Nat.le_of_ble_eq_true rfl) (Nat.le_refl _) (Nat.le_refl _) (c_lift cFr_rf (fun _ h => h) (c_pturn (T + 3) m (E3.pl k21 P0).1 (E3.pl k21 P0).2.1 (E3.pl k21 P0).2.2.1 (E3.pl k21 P0).2.2.2.1 (E3.pl k21 P0).2.2.2.2.1 ld (by rw [E3.2.2.1]; exact hl) hl4 ⟨_, rfl, ?_⟩))
  refine c_pute rfl (E3.kk k21) (by decide) (fun v4 e4 r4 f4 g4 => ?_)
  have E4 := E3.tr e4
  refine g_load rfl rfl rfl trivial ?_
  refine g_load rfl rfl rfl trivial ?_
  refine g_virtI (a := T + 3) (ci := 4) (n := 0) [] cFr_tr rfl rfl (by decide) rfl (c_ob (κ := 6) (by exact (E4.kk k3)) (by decide) (by rfl)) rfl (Nat.le_of_ble_eq_true rfl) (Nat.le_refl _) (Nat.le_refl _) (c_lift cFr_rf (fun _ h => h) (c_led (T + 3) m (E4.pl k21 P0).1 (E4.pl k21 P0).2.1 (E4.pl k21 P0).2.2.1 (E4.pl k21 P0).2.2.2.1 (E4.pl k21 P0).2.2.2.2.1 ⟨_, rfl, ?_⟩))
  rw [E4.2.2.1]
  refine c_pute rfl (E4.kk k21) (by decide) (fun v5 e5 r5 f5 g5 => ?_)
  have E5 := E4.tr e5
  refine g_load rfl rfl rfl trivial ?_
  refine g_virtI (a := T + 3) (ci := 4) (n := 0) [] cFr_tr rfl rfl (by decide) rfl (c_ob (κ := 6) (by exact (E5.kk k3)) (by decide) (by rfl)) rfl (Nat.le_of_ble_eq_true rfl) (Nat.le_refl _) (Nat.le_refl _) (c_lift cFr_rf (fun _ h => h) (c_plength (T + 3) (E5.kk k3) ⟨_, rfl, ?_⟩))
  rw [E5.oT k21 k3 (by decide), hm]
  refine g_load rfl rfl rfl trivial ?_
  refine g_virtI (a := T + 3) (ci := 4) (n := 0) [] cFr_tr rfl rfl (by decide) rfl (c_ob (κ := 6) (by exact (E5.kk k3)) (by decide) (by rfl)) rfl (Nat.le_of_ble_eq_true rfl) (Nat.le_refl _) (Nat.le_refl _) (c_lift cFr_rf (fun _ h => h) (c_inTrick (T + 3) m (E5.pl k21 P0).1 (E5.pl k21 P0).2.1 (E5.pl k21 P0).2.2.1 (E5.pl k21 P0).2.2.2.1 (E5.pl k21 P0).2.2.2.2.1 ⟨_, rfl, ?_⟩))
  refine g_isub rfl ?_
  rw [pk_sub (by omega)]
  refine g_store [some (.ref 21), some (.ref T), some (.ref (T + 3)), some (.int (nI (m - m % 4)))] rfl rfl trivial (Nat.le_of_ble_eq_true rfl) rfl ?_
  refine g_load rfl rfl rfl trivial ?_
  refine g_load rfl rfl rfl trivial ?_
  refine g_load rfl rfl rfl trivial ?_
  refine g_load rfl rfl rfl trivial ?_
  refine g_virtI (a := T + 3) (ci := 4) (n := 0) [] cFr_tr rfl rfl (by decide) rfl (c_ob (κ := 6) (by exact (E5.kk k3)) (by decide) (by rfl)) rfl (Nat.le_of_ble_eq_true rfl) (Nat.le_refl _) (Nat.le_refl _) (c_lift cFr_rf (fun _ h => h) (c_inTrick (T + 3) m (E5.pl k21 P0).1 (E5.pl k21 P0).2.1 (E5.pl k21 P0).2.2.1 (E5.pl k21 P0).2.2.2.1 (E5.pl k21 P0).2.2.2.2.1 ⟨_, rfl, ?_⟩))
  have K : gB CF cFr (aRun pg pr (d + 3)) cd_35 0 0 none Q 55 [some (.ref 21), some (.ref T), some (.ref (T + 3)), some (.int (nI (m - m % 4)))] [.int (hgF (u.rI (T + 3 + 1)) (u.oI (T + 3) 5) m), .ref 21] v5 0 0 := by
    refine c_pute rfl (E5.kk k21) (by decide) (fun v6 e6 r6 f6 g6 => ?_)
    have E6 := E5.tr e6
    refine g_load rfl rfl rfl trivial ?_
    refine g_load rfl rfl rfl trivial ?_
    refine g_load rfl rfl rfl trivial ?_
    refine g_load rfl rfl rfl trivial ?_
    refine g_virtI (a := T + 3) (ci := 4) (n := 0) [] cFr_tr rfl rfl (by decide) rfl (c_ob (κ := 6) (by exact (E6.kk k3)) (by decide) (by rfl)) rfl (Nat.le_of_ble_eq_true rfl) (Nat.le_refl _) (Nat.le_refl _) (c_lift cFr_rf (fun _ h => h) (c_inTrick (T + 3) m (E6.pl k21 P0).1 (E6.pl k21 P0).2.1 (E6.pl k21 P0).2.2.1 (E6.pl k21 P0).2.2.2.1 (E6.pl k21 P0).2.2.2.2.1 ⟨_, rfl, ?_⟩))
    refine g_load rfl rfl rfl trivial ?_
    refine g_load rfl rfl rfl trivial ?_
    refine g_virtI (a := T + 3) (ci := 4) (n := 0) [] cFr_tr rfl rfl (by decide) rfl (c_ob (κ := 6) (by exact (E6.kk k3)) (by decide) (by rfl)) rfl (Nat.le_of_ble_eq_true rfl) (Nat.le_refl _) (Nat.le_refl _) (c_lift cFr_rf (fun _ h => h) (c_tricksDone (T + 3) m (E6.pl k21 P0).1 (E6.pl k21 P0).2.1 (E6.pl k21 P0).2.2.1 (E6.pl k21 P0).2.2.2.1 (E6.pl k21 P0).2.2.2.2.1 ⟨_, rfl, ?_⟩))
    refine g_virtI (a := T + 3) (ci := 4) (n := 1) [.int (nI (m / 4))] cFr_tr rfl rfl (by decide) rfl (c_ob (κ := 6) (by exact (E6.kk k3)) (by decide) (by rfl)) rfl (Nat.le_of_ble_eq_true rfl) (Nat.le_refl _) (Nat.le_refl _) (c_lift cFr_rf (fun _ h => h) (c_leaderOf (T + 3) (m / 4) (E6.kk k3) (E6.kk k5) (by omega) ⟨_, rfl, ?_⟩))
    rw [E6.2.2.1, hl]
    have K : gB CF cFr (aRun pg pr (d + 3)) cd_35 0 0 none Q 66 [some (.ref 21), some (.ref T), some (.ref (T + 3)), some (.int (nI (m - m % 4)))] [.int (wiF (u.rI (T + 3 + 1)) (u.oI (T + 3) 5) m ld), .ref 21] v6 0 0 := by
      refine c_pute rfl (E6.kk k21) (by decide) (fun v7 e7 r7 f7 g7 => ?_)
      have E7 := E6.tr e7
      refine g_ret rfl rfl (Nat.le_refl _) (Nat.le_refl _) ?_
      refine hQ _ ⟨E7, fun x hx => ?_, ?_, ?_, ?_, ?_, ?_, ?_, f7⟩
      · rw [r7, r6, r5, r4, r3, r2, r1]; exact L0 x hx
      · rw [g7 1 (by decide), g6 1 (by decide), g5 1 (by decide), g4 1 (by decide), g3 1 (by decide), g2 1 (by decide)]; exact f1
      · rw [g7 2 (by decide), g6 2 (by decide), g5 2 (by decide), g4 2 (by decide), g3 2 (by decide)]; exact f2
      · rw [g7 3 (by decide), g6 3 (by decide), g5 3 (by decide), g4 3 (by decide)]; exact f3
      · rw [g7 4 (by decide), g6 4 (by decide), g5 4 (by decide)]; exact f4
      · rw [g7 5 (by decide), g6 5 (by decide)]; exact f5
      · rw [g7 6 (by decide)]; exact f6
    by_cases h4 : m % 4 = 0
    · rw [show wiF (u.rI (T + 3 + 1)) (u.oI (T + 3) 5) m ld = nI ld from if_pos h4] at K
      rw [h4] at K ⊢
      exact g_virtI (a := T + 3) (ci := 4) (n := 3) [.int (nI (m - 0)), .int (nI 0), .int (nI ld)] cFr_tr rfl rfl (by decide) rfl (c_ob (κ := 6) (E6.kk k3) (by decide) (by rfl)) rfl (Nat.le_of_ble_eq_true rfl) (Nat.le_refl _) (Nat.le_refl _) (c_lift cFr_rf (fun _ h => h) (c_winnerFrom_0 (T + 3) m (E6.pl k21 P0).1 (E6.pl k21 P0).2.1 (E6.pl k21 P0).2.2.1 (E6.pl k21 P0).2.2.2.1 (E6.pl k21 P0).2.2.2.2.1 (nI (m - 0)) (nI ld) ⟨_, rfl, K⟩))
    · rw [show wiF (u.rI (T + 3 + 1)) (u.oI (T + 3) 5) m ld = _ from if_neg h4] at K
      exact g_virtI (a := T + 3) (ci := 4) (n := 3) [.int (nI (m - m % 4)), .int (nI (m % 4)), .int (nI ld)] cFr_tr rfl rfl (by decide) rfl (c_ob (κ := 6) (E6.kk k3) (by decide) (by rfl)) rfl (Nat.le_of_ble_eq_true rfl) (Nat.le_refl _) (Nat.le_refl _) (c_lift cFr_rf (fun _ h => h) (c_winnerFrom (T + 3) m (E6.pl k21 P0).1 (E6.pl k21 P0).2.1 (E6.pl k21 P0).2.2.1 (E6.pl k21 P0).2.2.2.1 (E6.pl k21 P0).2.2.2.2.1 (m - m % 4) (m % 4) ld (by omega) (by omega) hl4 (by rw [E6.2.2.1]; exact hds) ⟨_, rfl, by rw [E6.2.2.1, E6.oT k21 k3 (by decide)]; exact K⟩))
  by_cases h4 : m % 4 = 0
  · rw [show hgF (u.rI (T + 3 + 1)) (u.oI (T + 3) 5) m = -1 from if_pos h4] at K
    rw [h4] at K ⊢
    exact g_virtI (a := T + 3) (ci := 4) (n := 2) [.int (nI (m - 0)), .int (nI 0)] cFr_tr rfl rfl (by decide) rfl (c_ob (κ := 6) (E5.kk k3) (by decide) (by rfl)) rfl (Nat.le_of_ble_eq_true rfl) (Nat.le_refl _) (Nat.le_refl _) (c_lift cFr_rf (fun _ h => h) (c_winningCard_0 (T + 3) m (E5.pl k21 P0).1 (E5.pl k21 P0).2.1 (E5.pl k21 P0).2.2.1 (E5.pl k21 P0).2.2.2.1 (E5.pl k21 P0).2.2.2.2.1 (nI (m - 0)) ⟨_, rfl, K⟩))
  · rw [show hgF (u.rI (T + 3 + 1)) (u.oI (T + 3) 5) m = _ from if_neg h4] at K
    exact g_virtI (a := T + 3) (ci := 4) (n := 2) [.int (nI (m - m % 4)), .int (nI (m % 4))] cFr_tr rfl rfl (by decide) rfl (c_ob (κ := 6) (E5.kk k3) (by decide) (by rfl)) rfl (Nat.le_of_ble_eq_true rfl) (Nat.le_refl _) (Nat.le_refl _) (c_lift cFr_rf (fun _ h => h) (c_winningCard (T + 3) m (E5.pl k21 P0).1 (E5.pl k21 P0).2.1 (E5.pl k21 P0).2.2.1 (E5.pl k21 P0).2.2.2.1 (E5.pl k21 P0).2.2.2.2.1 (m - m % 4) (m % 4) (by omega) (by omega) ⟨_, rfl, by rw [E5.2.2.1, E5.oT k21 k3 (by decide)]; exact K⟩))
set_option maxRecDepth 20000 in
theorem w_load_l {pr : aC} {d : Nat} {u : cS} (T B n m dc ld : Nat) (hT : tB u T B n m) (k21 : u.kd 21 = 14) (k22 : u.kd 22 = 2) (hdc : u.oI (T + 3) 4 = nI dc) (hdc4 : dc < 4) (hl : u.rI (T + 3 + 2) (m / 4) = nI ld) (hl4 : ld < 4) (hds : ∀ x y, x < m % 4 → y < m % 4 → u.rI (T + 3 + 1) (m - m % 4 + x) = u.rI (T + 3 + 1) (m - m % 4 + y) → x = y) {Q : Option Value → cS → Prop} (hQ : ∀ v, lded u v T B m dc ld → Q none v) : ∀ (zz : Nat) (i : Nat) (v : cS) (E0 : onE u v) (L0 : ∀ x, x < i → v.rL 22 x = hlL u T B x) (hm : 4 - i < zz) (hle : i ≤ 4), wB pr (d + 3) cd_35 none Q 5 [some (.ref 21), some (.ref T), some (.ref (T + 3)), some (.int (nI i))] [] v := by
  intro zz
  induction zz with
  | zero => intro i v E0 L0 hm hle; exact absurd hm (by omega)
  | succ zz ih =>
    intro i v E0 L0 hm hle
    have hT0 := hT
    obtain ⟨k0, k1, k2, k3, k4, k5, kb, kb1, hon, hn, hn2, hm, hm2⟩ := hT
    have P0 : plB u (T + 3) m ld := ⟨k3, k4, k5, hm, hm2, hl, hl4⟩
    have nB : B + 1 ≠ 22 := fun e => by
      have e2 : B = 21 := by omega
      rw [e2, k21] at kb; exact absurd kb (by decide)
    have nT : T + 3 ≠ 22 := fun e => by rw [e, k22] at k3; exact absurd k3 (by decide)
    refine g_load rfl rfl rfl trivial ?_
    refine g_load rfl rfl rfl trivial ?_
    refine c_getf rfl (κ := 14) (by exact (E0.kk k21)) (by decide) (by rfl) (by rfl) ?_
    refine c_len rfl (κ := 2) (E0.kk k22) (by decide) (by rfl) (by decide) ?_
    refine g_icmp_ge rfl (fun c1 => ?_) (fun c1 => ?_)
    · rw [nI_leI (by omega) (by omega)] at c1
      have e : i = 4 := by omega
      subst e
      exact w_load_2 T B n m dc ld hT0 k21 k22 hdc hdc4 hl hl4 hds E0 L0 hQ
    · rw [nI_leI (by omega) (by omega)] at c1
      refine g_load rfl rfl rfl trivial ?_
      refine c_getf rfl (κ := 14) (by exact (E0.kk k21)) (by decide) (by rfl) (by rfl) ?_
      refine g_load rfl rfl rfl trivial ?_
      refine g_load rfl rfl rfl trivial ?_
      refine g_load rfl rfl rfl trivial ?_
      refine g_virtI (a := T) (ci := 6) (n := 1) [.int (nI i)] cFr_tr rfl rfl (by decide) rfl (c_ob (κ := 3) (by exact (E0.kk k0)) (by decide) (by rfl)) rfl (Nat.le_of_ble_eq_true rfl) (Nat.le_refl _) (Nat.le_refl _) (c_lift cFr_rf (fun _ h => h) (c_heldBy T B n m (E0.tB k21 hT0) i (by omega) ⟨_, rfl, ?_⟩))
      rw [E0.2.2.2.2.2 _ nB, E0.2.2.2.2.2 _ nT]
      refine c_las i rfl (κ := 2) (E0.kk k22) (by decide) (by rfl) rfl (by omega) (by decide) (by rfl) ?_
      refine g_iinc (nI (i + 1)) [some (.ref 21), some (.ref T), some (.ref (T + 3)), some (.int (nI (i + 1)))] rfl rfl (nI_1 i) rfl ?_
      refine g_goto rfl ?_
      refine ih (i + 1) _ (E0.tr (onE.L v i _)) (fun x hx => ?_) (by omega) (by omega)
      show u2 v.rL 22 i _ 22 x = _
      by_cases e : x = i
      · subst e; rw [u2_s]; rfl
      · rw [u2_k _ _ e]; exact L0 x (by omega)
set_option maxRecDepth 20000 in
theorem w_load {pr : aC} {d : Nat} {u : cS} (T B n m dc ld : Nat) (hT : tB u T B n m) (k21 : u.kd 21 = 14) (k22 : u.kd 22 = 2) (hdc : u.oI (T + 3) 4 = nI dc) (hdc4 : dc < 4) (hl : u.rI (T + 3 + 2) (m / 4) = nI ld) (hl4 : ld < 4) (hds : ∀ x y, x < m % 4 → y < m % 4 → u.rI (T + 3 + 1) (m - m % 4 + x) = u.rI (T + 3 + 1) (m - m % 4 + y) → x = y) {Q : Option Value → cS → Prop} (hQ : ∀ v, lded u v T B m dc ld → Q none v) : wR pr (d + 3 + 1) 35 [.ref 21, .ref T] u Q := by
  refine gR_of mi_35 cFr_rf rfl (Nat.le_of_ble_eq_true rfl) ?_
  show wB pr (d + 3) cd_35 none Q 0 [some (.ref 21), some (.ref T), none, none] [] u
  have k0 := hT.1
  refine g_load rfl rfl rfl trivial ?_
  refine g_virtI (a := T) (ci := 6) (n := 0) [] cFr_tr rfl rfl (by decide) rfl (c_ob (κ := 3) (by exact k0) (by decide) (by rfl)) rfl (Nat.le_of_ble_eq_true rfl) (Nat.le_refl _) (Nat.le_refl _) (c_lift cFr_rf (fun _ h => h) (c_tricks T B n m hT ⟨_, rfl, ?_⟩))
  refine g_store [some (.ref 21), some (.ref T), some (.ref (T + 3)), none] rfl rfl trivial (Nat.le_of_ble_eq_true rfl) rfl ?_
  refine g_iconst (nI 0) rfl (by decide) ?_
  refine g_store [some (.ref 21), some (.ref T), some (.ref (T + 3)), some (.int (nI 0))] rfl rfl trivial (Nat.le_of_ble_eq_true rfl) rfl ?_
  exact w_load_l T B n m dc ld hT k21 k22 hdc hdc4 hl hl4 hds hQ 5 0 u (onE.rf u) (fun x hx => absurd hx (by omega)) (by omega) (by omega)
