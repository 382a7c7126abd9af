/-! ===== the reference: a result comes; call, play ===== -/
def kS (u v : rS) : Prop := v.1 = u.1 ∧ ∀ a, a < 35 → v.2 a = u.2 a
theorem kS.rf (u : rS) : kS u u := ⟨rfl, fun _ _ => rfl⟩
theorem kS.st {u v w : rS} (h : kS u v) {a : Nat} (q1 : w.1 = v.1) (q2 : ∀ b, b ≠ a → w.2 b = v.2 b) (ha : 35 ≤ a) : kS u w := ⟨q1.trans h.1, fun b hb => (q2 b (by omega)).trans (h.2 b hb)⟩
theorem kS_cf {u v : rS} (h : kS u v) (t : Nat) : cf v t = cf u t := by unfold cf; rw [h.2 33 (by decide)]
/-- a result has come at table t: R says what it holds (36, 0: its pairs) -/
def ended (u v : rS) (t nr : Nat) (R : Nat → Int32) : Prop := v.1 1 = nI (nr + 1) ∧ (∀ g, g ≠ 1 → v.1 g = u.1 g) ∧ v.2 28 t = 0 ∧ (∀ z, z ≠ t → v.2 28 z = u.2 28 z) ∧ (∀ a, a ≠ 28 → (a < 35 ∨ a = 43 ∨ 44 < a) → v.2 a = u.2 a) ∧ (∀ a, ((35 ≤ a ∧ a ≤ 42 ∧ a ≠ 36) ∨ a = 44) → v.2 a nr = R a ∧ ∀ z, z ≠ nr → v.2 a z = u.2 a z) ∧ v.2 36 (2 * nr) = R 36 ∧ v.2 36 (2 * nr + 1) = R 0 ∧ ∀ z, z ≠ 2 * nr → z ≠ 2 * nr + 1 → v.2 36 z = u.2 36 z
def rec0 (u : rS) (t : Nat) (tk : Int32) (a : Nat) : Int32 := if a = 35 then u.2 29 t else if a = 36 then u.2 30 (2 * t) else if a = 0 then u.2 30 (2 * t + 1) else if a = 37 then 0 else if a = 38 then -1 else if a = 39 then -1 else if a = 40 then -1 else if a = 41 then tk else 0
def recC (u : rS) (t n b bd : Nat) (k : Nat) (a : Nat) : Int32 := if a = 35 then u.2 29 t else if a = 36 then u.2 30 (2 * t) else if a = 0 then u.2 30 (2 * t + 1) else if a = 37 then lvF (cf u t) b else if a = 38 then stF (cf u t) b else if a = 39 then nI (dcN (cf u t) (bd % 4) b) else if a = 40 then dblF (cf u t) n else if a = 41 then nI k else if a = 42 then (if dcN (cf u t) (bd % 4) b % 2 = 0 then scG (lvF (cf u t) b) (stF (cf u t) b) (dblF (cf u t) n) (vulF bd (dcN (cf u t) (bd % 4) b % 2)) (nI k) else -(scG (lvF (cf u t) b) (stF (cf u t) b) (dblF (cf u t) n) (vulF bd (dcN (cf u t) (bd % 4) b % 2)) (nI k))) else 0
set_option maxRecDepth 20000 in
theorem r_ends_p {pr : aC} {d : Nat} {u : rS} (t : Nat) (ht : t < 10) (nr : Nat) (h1 : u.1 1 = nI nr) (hn : nr < 220) {Q : Option Value → rS → Prop} (hQ : ∀ v, ended u v t nr (rec0 u t (-1)) → Q none v) : rR pr (d + 5 + 1) 197 [.ref 25, .int (nI t), .int (-1)] u Q := by
  refine gR_of mi_197 rFr_rf rfl (Nat.le_of_ble_eq_true rfl) ?_
  show rB pr (d + 5) cd_197 none Q 0 [some (.ref 25), some (.int (nI t)), some (.int (-1)), none, none, none, none] [] u
  refine g_load rfl rfl rfl trivial ?_
  refine r_getf rfl rfl ?_
  rw [h1]
  refine g_store [some (.ref 25), some (.int (nI t)), some (.int (-1)), some (.int (nI nr)), none, none, none] rfl rfl trivial (Nat.le_of_ble_eq_true rfl) rfl ?_
  refine g_load rfl rfl rfl trivial ?_
  refine r_getf rfl rfl ?_
  refine g_load rfl rfl rfl trivial ?_
  refine r_ia (t) rfl ⟨by decide, by decide, rfl⟩ rfl (by show _ < 10; omega) ?_
  refine g_store [some (.ref 25), some (.int (nI t)), some (.int (-1)), some (.int (nI nr)), some (.int (u.2 29 t)), none, none] rfl rfl trivial (Nat.le_of_ble_eq_true rfl) rfl ?_
  refine g_load rfl rfl rfl trivial ?_
  refine r_getf rfl rfl ?_
  refine g_load rfl rfl rfl trivial ?_
  refine g_load rfl rfl rfl trivial ?_
  refine r_iasv (nr) rfl ⟨by decide, by decide, rfl⟩ rfl (by show _ < 220; omega) (fun v1 xa1 xb1 xc1 xd1 => ?_)
  have hS1 : kS u v1 := (kS.rf u).st xa1 xb1 (by decide)
  refine g_load rfl rfl rfl trivial ?_
  refine r_getf rfl rfl ?_
  refine g_iconst (nI 2) rfl (by decide) ?_
  refine g_load rfl rfl rfl trivial ?_
  refine g_imul rfl ?_
  refine g_load rfl rfl rfl trivial ?_
  refine r_getf rfl rfl ?_
  refine g_iconst (nI 2) rfl (by decide) ?_
  refine g_load rfl rfl rfl trivial ?_
  refine g_imul rfl ?_
  refine r_ia (2 * t) rfl ⟨by decide, by decide, rfl⟩ (pk_mul 2 t) (by show _ < 20; omega) ?_
  refine r_iasv (2 * nr) rfl ⟨by decide, by decide, rfl⟩ (pk_mul 2 nr) (by show _ < 440; omega) (fun v2 xa2 xb2 xc2 xd2 => ?_)
  have hS2 : kS u v2 := (hS1).st xa2 xb2 (by decide)
  refine g_load rfl rfl rfl trivial ?_
  refine r_getf rfl rfl ?_
  refine g_iconst (nI 2) rfl (by decide) ?_
  refine g_load rfl rfl rfl trivial ?_
  refine g_imul rfl ?_
  refine g_iconst (nI 1) rfl (by decide) ?_
  refine g_iadd rfl ?_
  refine g_load rfl rfl rfl trivial ?_
  refine r_getf rfl rfl ?_
  refine g_iconst (nI 2) rfl (by decide) ?_
  refine g_load rfl rfl rfl trivial ?_
  refine g_imul rfl ?_
  refine g_iconst (nI 1) rfl (by decide) ?_
  refine g_iadd rfl ?_
  refine r_ia (2 * t + 1) rfl ⟨by decide, by decide, rfl⟩ (by rw [pk_mul, nI_add]) (by show _ < 20; omega) ?_
  refine r_iasv (2 * nr + 1) rfl ⟨by decide, by decide, rfl⟩ (by rw [pk_mul, nI_add]) (by show _ < 440; omega) (fun v3 xa3 xb3 xc3 xd3 => ?_)
  have hS3 : kS u v3 := (hS2).st xa3 xb3 (by decide)
  refine g_load rfl rfl rfl trivial ?_
  refine r_getf rfl rfl ?_
  refine g_load rfl rfl rfl trivial ?_
  refine g_iconst (nI 0) rfl (by decide) ?_
  refine r_iasv (nr) rfl ⟨by decide, by decide, rfl⟩ rfl (by show _ < 220; omega) (fun v4 xa4 xb4 xc4 xd4 => ?_)
  have hS4 : kS u v4 := (hS3).st xa4 xb4 (by decide)
  refine g_load rfl rfl rfl trivial ?_
  refine r_getf rfl rfl ?_
  refine g_load rfl rfl rfl trivial ?_
  refine g_iconst (-1) rfl (by decide) ?_
  refine r_iasv (nr) rfl ⟨by decide, by decide, rfl⟩ rfl (by show _ < 220; omega) (fun v5 xa5 xb5 xc5 xd5 => ?_)
  have hS5 : kS u v5 := (hS4).st xa5 xb5 (by decide)
  refine g_load rfl rfl rfl trivial ?_
  refine r_getf rfl rfl ?_
  refine g_load rfl rfl rfl trivial ?_
  refine g_iconst (-1) rfl (by decide) ?_
  refine r_iasv (nr) rfl ⟨by decide, by decide, rfl⟩ rfl (by show _ < 220; omega) (fun v6 xa6 xb6 xc6 xd6 => ?_)
  have hS6 : kS u v6 := (hS5).st xa6 xb6 (by decide)
  refine g_load rfl rfl rfl trivial ?_
  refine r_getf rfl rfl ?_
  refine g_load rfl rfl rfl trivial ?_
  refine g_iconst (-1) rfl (by decide) ?_
  refine r_iasv (nr) rfl ⟨by decide, by decide, rfl⟩ rfl (by show _ < 220; omega) (fun v7 xa7 xb7 xc7 xd7 => ?_)
  have hS7 : kS u v7 := (hS6).st xa7 xb7 (by decide)
  refine g_load rfl rfl rfl trivial ?_
  refine r_getf rfl rfl ?_
  refine g_load rfl rfl rfl trivial ?_
  refine g_load rfl rfl rfl trivial ?_
  refine r_iasv (nr) rfl ⟨by decide, by decide, rfl⟩ rfl (by show _ < 220; omega) (fun v8 xa8 xb8 xc8 xd8 => ?_)
  have hS8 : kS u v8 := (hS7).st xa8 xb8 (by decide)
  refine g_load rfl rfl rfl trivial ?_
  refine r_getf rfl rfl ?_
  refine g_load rfl rfl rfl trivial ?_
  refine g_iconst (nI 0) rfl (by decide) ?_
  refine r_iasv (nr) rfl ⟨by decide, by decide, rfl⟩ rfl (by show _ < 220; omega) (fun v9 xa9 xb9 xc9 xd9 => ?_)
  have hS9 : kS u v9 := (hS8).st xa9 xb9 (by decide)
  refine g_load rfl rfl rfl trivial ?_
  refine r_getf rfl rfl ?_
  refine g_load rfl rfl rfl trivial ?_
  refine g_iconst (nI 0) rfl (by decide) ?_
  refine r_zasv (nr) rfl ⟨by decide, by decide, rfl⟩ rfl (by show _ < 220; omega) (fun v10 xa10 xb10 xc10 xd10 => ?_)
  have hS10 : kS u v10 := (hS9).st xa10 xb10 (by decide)
  refine g_load rfl rfl rfl trivial ?_
  refine g_iconst (-1) rfl (by decide) ?_
  refine g_icmp_eq rfl (fun c1 => ?_) (fun c1 => ?_)
  · refine g_load rfl rfl rfl trivial ?_
    refine g_dup rfl rfl ?_
    refine r_getf rfl rfl ?_
    refine g_iconst (nI 1) rfl (by decide) ?_
    refine g_iadd rfl ?_
    rw [show v10.1 1 = nI nr by rw [hS10.1]; exact h1, nI_add]
    refine r_putv rfl (by simp [rIs]) (fun w1 p2 pf po => ?_)
    refine g_load rfl rfl rfl trivial ?_
    refine r_getf rfl rfl ?_
    refine g_load rfl rfl rfl trivial ?_
    refine g_iconst (nI 0) rfl (by decide) ?_
    refine r_iasv (t) rfl ⟨by decide, by decide, rfl⟩ rfl (by show _ < 10; omega) (fun w2 f1 f2 f3 f4 => ?_)
    refine g_ret rfl rfl (Nat.le_refl _) (Nat.le_refl _) ?_
    refine hQ w2 ⟨?_, ?_, ?_, ?_, ?_, ?_, ?_, ?_, ?_⟩
    · rw [f1, pf]
    · intro g hg; rw [f1, po g hg, xa10, xa9, xa8, xa7, xa6, xa5, xa4, xa3, xa2, xa1]
    · exact f3
    · intro z hz; rw [f4 z hz, p2, hS10.2 28 (by decide)]
    · intro a h28 ha; rw [f2 a h28, p2, xb10 a (by omega), xb9 a (by omega), xb8 a (by omega), xb7 a (by omega), xb6 a (by omega), xb5 a (by omega), xb4 a (by omega), xb3 a (by omega), xb2 a (by omega), xb1 a (by omega)]
    · intro a ha
      rcases (show a = 35 ∨ a = 37 ∨ a = 38 ∨ a = 39 ∨ a = 40 ∨ a = 41 ∨ a = 42 ∨ a = 44 by omega) with rfl | rfl | rfl | rfl | rfl | rfl | rfl | rfl
      · refine ⟨?_, fun z hz => ?_⟩
        · rw [f2 35 (by decide), p2, xb10 35 (by decide), xb9 35 (by decide), xb8 35 (by decide), xb7 35 (by decide), xb6 35 (by decide), xb5 35 (by decide), xb4 35 (by decide), xb3 35 (by decide), xb2 35 (by decide), xc1]
          all_goals first | rfl | exact rfl
        · rw [f2 35 (by decide), p2, xb10 35 (by decide), xb9 35 (by decide), xb8 35 (by decide), xb7 35 (by decide), xb6 35 (by decide), xb5 35 (by decide), xb4 35 (by decide), xb3 35 (by decide), xb2 35 (by decide), xd1 z hz]
      · refine ⟨?_, fun z hz => ?_⟩
        · rw [f2 37 (by decide), p2, xb10 37 (by decide), xb9 37 (by decide), xb8 37 (by decide), xb7 37 (by decide), xb6 37 (by decide), xb5 37 (by decide), xc4]
          all_goals first | rfl | exact rfl
        · rw [f2 37 (by decide), p2, xb10 37 (by decide), xb9 37 (by decide), xb8 37 (by decide), xb7 37 (by decide), xb6 37 (by decide), xb5 37 (by decide), xd4 z hz, xb3 37 (by decide), xb2 37 (by decide), xb1 37 (by decide)]
      · refine ⟨?_, fun z hz => ?_⟩
        · rw [f2 38 (by decide), p2, xb10 38 (by decide), xb9 38 (by decide), xb8 38 (by decide), xb7 38 (by decide), xb6 38 (by decide), xc5]
          all_goals first | rfl | exact rfl
        · rw [f2 38 (by decide), p2, xb10 38 (by decide), xb9 38 (by decide), xb8 38 (by decide), xb7 38 (by decide), xb6 38 (by decide), xd5 z hz, xb4 38 (by decide), xb3 38 (by decide), xb2 38 (by decide), xb1 38 (by decide)]
      · refine ⟨?_, fun z hz => ?_⟩
        · rw [f2 39 (by decide), p2, xb10 39 (by decide), xb9 39 (by decide), xb8 39 (by decide), xb7 39 (by decide), xc6]
          all_goals first | rfl | exact rfl
        · rw [f2 39 (by decide), p2, xb10 39 (by decide), xb9 39 (by decide), xb8 39 (by decide), xb7 39 (by decide), xd6 z hz, xb5 39 (by decide), xb4 39 (by decide), xb3 39 (by decide), xb2 39 (by decide), xb1 39 (by decide)]
      · refine ⟨?_, fun z hz => ?_⟩
        · rw [f2 40 (by decide), p2, xb10 40 (by decide), xb9 40 (by decide), xb8 40 (by decide), xc7]
          all_goals first | rfl | exact rfl
        · rw [f2 40 (by decide), p2, xb10 40 (by decide), xb9 40 (by decide), xb8 40 (by decide), xd7 z hz, xb6 40 (by decide), xb5 40 (by decide), xb4 40 (by decide), xb3 40 (by decide), xb2 40 (by decide), xb1 40 (by decide)]
      · refine ⟨?_, fun z hz => ?_⟩
        · rw [f2 41 (by decide), p2, xb10 41 (by decide), xb9 41 (by decide), xc8]
          all_goals first | rfl | exact rfl
        · rw [f2 41 (by decide), p2, xb10 41 (by decide), xb9 41 (by decide), xd8 z hz, xb7 41 (by decide), xb6 41 (by decide), xb5 41 (by decide), xb4 41 (by decide), xb3 41 (by decide), xb2 41 (by decide), xb1 41 (by decide)]
      · refine ⟨?_, fun z hz => ?_⟩
        · rw [f2 42 (by decide), p2, xb10 42 (by decide), xc9]
          all_goals first | rfl | exact rfl
        · rw [f2 42 (by decide), p2, xb10 42 (by decide), xd9 z hz, xb8 42 (by decide), xb7 42 (by decide), xb6 42 (by decide), xb5 42 (by decide), xb4 42 (by decide), xb3 42 (by decide), xb2 42 (by decide), xb1 42 (by decide)]
      · refine ⟨?_, fun z hz => ?_⟩
        · rw [f2 44 (by decide), p2, xc10]
          all_goals first | rfl | exact rfl
        · rw [f2 44 (by decide), p2, xd10 z hz, xb9 44 (by decide), xb8 44 (by decide), xb7 44 (by decide), xb6 44 (by decide), xb5 44 (by decide), xb4 44 (by decide), xb3 44 (by decide), xb2 44 (by decide), xb1 44 (by decide)]
    · rw [f2 36 (by decide), p2, xb10 36 (by decide), xb9 36 (by decide), xb8 36 (by decide), xb7 36 (by decide), xb6 36 (by decide), xb5 36 (by decide), xb4 36 (by decide), xd3 (2 * nr) (by omega), xc2, hS1.2 30 (by decide)]; rfl
    · rw [f2 36 (by decide), p2, xb10 36 (by decide), xb9 36 (by decide), xb8 36 (by decide), xb7 36 (by decide), xb6 36 (by decide), xb5 36 (by decide), xb4 36 (by decide), xc3, hS2.2 30 (by decide)]; rfl
    · intro z h1z h2z; rw [f2 36 (by decide), p2, xb10 36 (by decide), xb9 36 (by decide), xb8 36 (by decide), xb7 36 (by decide), xb6 36 (by decide), xb5 36 (by decide), xb4 36 (by decide), xd3 z h2z, xd2 z h1z, xb1 36 (by decide)]
  · exact absurd rfl c1
theorem nI_m1 {k : Nat} (h : k < 2 ^ 31) : ¬ nI k = -1 := by
  intro e
  have h1 := congrArg Int32.toInt e
  rw [nI_toInt h, show (-1 : Int32).toInt = -1 by decide] at h1
  omega
set_option maxRecDepth 20000 in
theorem r_ends_c {pr : aC} {d : Nat} {u : rS} (t : Nat) (ht : t < 10) (nr : Nat) (h1 : u.1 1 = nI nr) (hn : nr < 220) (n b bd k : Nat) (hc : u.2 31 t = nI n) (hn3 : n ≤ 340) (hb : last ge3 (cf u t) n = some b) (hbd : u.2 29 t = nI (bd + 1)) (hbd2 : bd < 36) (hk : k < 1000) {Q : Option Value → rS → Prop} (hQ : ∀ v, ended u v t nr (recC u t n b bd k) → Q none v) : rR pr (d + 5 + 1) 197 [.ref 25, .int (nI t), .int (nI k)] u Q := by
  refine gR_of mi_197 rFr_rf rfl (Nat.le_of_ble_eq_true rfl) ?_
  show rB pr (d + 5) cd_197 none Q 0 [some (.ref 25), some (.int (nI t)), some (.int (nI k)), none, none, none, none] [] u
  refine g_load rfl rfl rfl trivial ?_
  refine r_getf rfl rfl ?_
  rw [h1]
  refine g_store [some (.ref 25), some (.int (nI t)), some (.int (nI k)), some (.int (nI nr)), none, none, none] rfl rfl trivial (Nat.le_of_ble_eq_true rfl) rfl ?_
  refine g_load rfl rfl rfl trivial ?_
  refine r_getf rfl rfl ?_
  refine g_load rfl rfl rfl trivial ?_
  refine r_ia (t) rfl ⟨by decide, by decide, rfl⟩ rfl (by show _ < 10; omega) ?_
  rw [hbd]
  refine g_store [some (.ref 25), some (.int (nI t)), some (.int (nI k)), some (.int (nI nr)), some (.int (nI (bd + 1))), none, none] rfl rfl trivial (Nat.le_of_ble_eq_true rfl) rfl ?_
  refine g_load rfl rfl rfl trivial ?_
  refine r_getf rfl rfl ?_
  refine g_load rfl rfl rfl trivial ?_
  refine g_load rfl rfl rfl trivial ?_
  refine r_iasv (nr) rfl ⟨by decide, by decide, rfl⟩ rfl (by show _ < 220; omega) (fun v1 xa1 xb1 xc1 xd1 => ?_)
  have hS1 : kS u v1 := (kS.rf u).st xa1 xb1 (by decide)
  refine g_load rfl rfl rfl trivial ?_
  refine r_getf rfl rfl ?_
  refine g_iconst (nI 2) rfl (by decide) ?_
  refine g_load rfl rfl rfl trivial ?_
  refine g_imul rfl ?_
  refine g_load rfl rfl rfl trivial ?_
  refine r_getf rfl rfl ?_
  refine g_iconst (nI 2) rfl (by decide) ?_
  refine g_load rfl rfl rfl trivial ?_
  refine g_imul rfl ?_
  refine r_ia (2 * t) rfl ⟨by decide, by decide, rfl⟩ (pk_mul 2 t) (by show _ < 20; omega) ?_
  refine r_iasv (2 * nr) rfl ⟨by decide, by decide, rfl⟩ (pk_mul 2 nr) (by show _ < 440; omega) (fun v2 xa2 xb2 xc2 xd2 => ?_)
  have hS2 : kS u v2 := (hS1).st xa2 xb2 (by decide)
  refine g_load rfl rfl rfl trivial ?_
  refine r_getf rfl rfl ?_
  refine g_iconst (nI 2) rfl (by decide) ?_
  refine g_load rfl rfl rfl trivial ?_
  refine g_imul rfl ?_
  refine g_iconst (nI 1) rfl (by decide) ?_
  refine g_iadd rfl ?_
  refine g_load rfl rfl rfl trivial ?_
  refine r_getf rfl rfl ?_
  refine g_iconst (nI 2) rfl (by decide) ?_
  refine g_load rfl rfl rfl trivial ?_
  refine g_imul rfl ?_
  refine g_iconst (nI 1) rfl (by decide) ?_
  refine g_iadd rfl ?_
  refine r_ia (2 * t + 1) rfl ⟨by decide, by decide, rfl⟩ (by rw [pk_mul, nI_add]) (by show _ < 20; omega) ?_
  refine r_iasv (2 * nr + 1) rfl ⟨by decide, by decide, rfl⟩ (by rw [pk_mul, nI_add]) (by show _ < 440; omega) (fun v3 xa3 xb3 xc3 xd3 => ?_)
  have hS3 : kS u v3 := (hS2).st xa3 xb3 (by decide)
  refine g_load rfl rfl rfl trivial ?_
  refine r_getf rfl rfl ?_
  refine g_load rfl rfl rfl trivial ?_
  refine g_iconst (nI 0) rfl (by decide) ?_
  refine r_iasv (nr) rfl ⟨by decide, by decide, rfl⟩ rfl (by show _ < 220; omega) (fun v4 xa4 xb4 xc4 xd4 => ?_)
  have hS4 : kS u v4 := (hS3).st xa4 xb4 (by decide)
  refine g_load rfl rfl rfl trivial ?_
  refine r_getf rfl rfl ?_
  refine g_load rfl rfl rfl trivial ?_
  refine g_iconst (-1) rfl (by decide) ?_
  refine r_iasv (nr) rfl ⟨by decide, by decide, rfl⟩ rfl (by show _ < 220; omega) (fun v5 xa5 xb5 xc5 xd5 => ?_)
  have hS5 : kS u v5 := (hS4).st xa5 xb5 (by decide)
  refine g_load rfl rfl rfl trivial ?_
  refine r_getf rfl rfl ?_
  refine g_load rfl rfl rfl trivial ?_
  refine g_iconst (-1) rfl (by decide) ?_
  refine r_iasv (nr) rfl ⟨by decide, by decide, rfl⟩ rfl (by show _ < 220; omega) (fun v6 xa6 xb6 xc6 xd6 => ?_)
  have hS6 : kS u v6 := (hS5).st xa6 xb6 (by decide)
  refine g_load rfl rfl rfl trivial ?_
  refine r_getf rfl rfl ?_
  refine g_load rfl rfl rfl trivial ?_
  refine g_iconst (-1) rfl (by decide) ?_
  refine r_iasv (nr) rfl ⟨by decide, by decide, rfl⟩ rfl (by show _ < 220; omega) (fun v7 xa7 xb7 xc7 xd7 => ?_)
  have hS7 : kS u v7 := (hS6).st xa7 xb7 (by decide)
  refine g_load rfl rfl rfl trivial ?_
  refine r_getf rfl rfl ?_
  refine g_load rfl rfl rfl trivial ?_
  refine g_load rfl rfl rfl trivial ?_
  refine r_iasv (nr) rfl ⟨by decide, by decide, rfl⟩ rfl (by show _ < 220; omega) (fun v8 xa8 xb8 xc8 xd8 => ?_)
  have hS8 : kS u v8 := (hS7).st xa8 xb8 (by decide)
  refine g_load rfl rfl rfl trivial ?_
  refine r_getf rfl rfl ?_
  refine g_load rfl rfl rfl trivial ?_
  refine g_iconst (nI 0) rfl (by decide) ?_
  refine r_iasv (nr) rfl ⟨by decide, by decide, rfl⟩ rfl (by show _ < 220; omega) (fun v9 xa9 xb9 xc9 xd9 => ?_)
  have hS9 : kS u v9 := (hS8).st xa9 xb9 (by decide)
  refine g_load rfl rfl rfl trivial ?_
  refine r_getf rfl rfl ?_
  refine g_load rfl rfl rfl trivial ?_
  refine g_iconst (nI 0) rfl (by decide) ?_
  refine r_zasv (nr) rfl ⟨by decide, by decide, rfl⟩ rfl (by show _ < 220; omega) (fun v10 xa10 xb10 xc10 xd10 => ?_)
  have hS10 : kS u v10 := (hS9).st xa10 xb10 (by decide)
  refine g_load rfl rfl rfl trivial ?_
  refine g_iconst (-1) rfl (by decide) ?_
  refine g_icmp_eq rfl (fun c1 => ?_) (fun c1 => ?_)
  · exact absurd c1 (nI_m1 (by omega))
  · refine g_load rfl rfl rfl trivial ?_
    refine r_getf rfl rfl ?_
    refine g_load rfl rfl rfl trivial ?_
    refine g_load rfl rfl rfl trivial ?_
    refine g_load rfl rfl rfl trivial ?_
    refine g_virtI (a := 25) (ci := 8) (n := 1) [.int (nI t)] rFr_tr rfl rfl (by decide) rfl r_this rfl (Nat.le_of_ble_eq_true rfl) (Nat.le_refl _) (Nat.le_refl _) (r_level t n b ht (by rw [hS10.2 31 (by decide)]; exact hc) hn3 (by rw [kS_cf hS10]; exact hb) ⟨_, rfl, ?_⟩)
    rw [kS_cf hS10]
    refine r_iasv (nr) rfl ⟨by decide, by decide, rfl⟩ rfl (by show _ < 220; omega) (fun v11 xa11 xb11 xc11 xd11 => ?_)
    have hS11 : kS u v11 := (hS10).st xa11 xb11 (by decide)
    refine g_load rfl rfl rfl trivial ?_
    refine r_getf rfl rfl ?_
    refine g_load rfl rfl rfl trivial ?_
    refine g_load rfl rfl rfl trivial ?_
    refine g_load rfl rfl rfl trivial ?_
    refine g_virtI (a := 25) (ci := 8) (n := 1) [.int (nI t)] rFr_tr rfl rfl (by decide) rfl r_this rfl (Nat.le_of_ble_eq_true rfl) (Nat.le_refl _) (Nat.le_refl _) (r_strain t n b ht (by rw [hS11.2 31 (by decide)]; exact hc) hn3 (by rw [kS_cf hS11]; exact hb) ⟨_, rfl, ?_⟩)
    rw [kS_cf hS11]
    refine r_iasv (nr) rfl ⟨by decide, by decide, rfl⟩ rfl (by show _ < 220; omega) (fun v12 xa12 xb12 xc12 xd12 => ?_)
    have hS12 : kS u v12 := (hS11).st xa12 xb12 (by decide)
    refine g_load rfl rfl rfl trivial ?_
    refine r_getf rfl rfl ?_
    refine g_load rfl rfl rfl trivial ?_
    refine g_load rfl rfl rfl trivial ?_
    refine g_load rfl rfl rfl trivial ?_
    refine g_virtI (a := 25) (ci := 8) (n := 1) [.int (nI t)] rFr_tr rfl rfl (by decide) rfl r_this rfl (Nat.le_of_ble_eq_true rfl) (Nat.le_refl _) (Nat.le_refl _) (r_declarer t n b bd ht (by rw [hS12.2 31 (by decide)]; exact hc) hn3 (by rw [kS_cf hS12]; exact hb) (by rw [hS12.2 29 (by decide)]; exact hbd) hbd2 ⟨_, rfl, ?_⟩)
    rw [kS_cf hS12]
    obtain ⟨hd1, hd4⟩ := dcF_N (dl := bd % 4) (last_lt hb).2
    rw [hd1]
    refine r_iasv (nr) rfl ⟨by decide, by decide, rfl⟩ rfl (by show _ < 220; omega) (fun v13 xa13 xb13 xc13 xd13 => ?_)
    have hS13 : kS u v13 := (hS12).st xa13 xb13 (by decide)
    refine g_load rfl rfl rfl trivial ?_
    refine r_getf rfl rfl ?_
    refine g_load rfl rfl rfl trivial ?_
    refine g_load rfl rfl rfl trivial ?_
    refine g_load rfl rfl rfl trivial ?_
    refine g_virtI (a := 25) (ci := 8) (n := 1) [.int (nI t)] rFr_tr rfl rfl (by decide) rfl r_this rfl (Nat.le_of_ble_eq_true rfl) (Nat.le_refl _) (Nat.le_refl _) (r_doubled t n ht (by rw [hS13.2 31 (by decide)]; exact hc) hn3 ⟨_, rfl, ?_⟩)
    rw [kS_cf hS13]
    refine r_iasv (nr) rfl ⟨by decide, by decide, rfl⟩ rfl (by show _ < 220; omega) (fun v14 xa14 xb14 xc14 xd14 => ?_)
    have hS14 : kS u v14 := (hS13).st xa14 xb14 (by decide)
    refine g_load rfl rfl rfl trivial ?_
    refine r_getf rfl rfl ?_
    refine g_load rfl rfl rfl trivial ?_
    refine r_ia (nr) rfl ⟨by decide, by decide, rfl⟩ rfl (by show _ < 220; omega) ?_
    rw [xb14 39 (by decide), xc13]
    refine g_iconst (nI 2) rfl (by decide) ?_
    refine g_irem rfl (by decide) ?_
    rw [pk_rem (by omega) (by omega) (by omega)]
    refine g_store [some (.ref 25), some (.int (nI t)), some (.int (nI k)), some (.int (nI nr)), some (.int (nI (bd + 1))), some (.int (nI (dcN (cf u t) (bd % 4) b % 2))), none] rfl rfl trivial (Nat.le_of_ble_eq_true rfl) rfl ?_
    refine g_load rfl rfl rfl trivial ?_
    refine g_load rfl rfl rfl trivial ?_
    refine r_getf rfl rfl ?_
    refine g_load rfl rfl rfl trivial ?_
    refine r_ia (nr) rfl ⟨by decide, by decide, rfl⟩ rfl (by show _ < 220; omega) ?_
    rw [xb14 37 (by decide), xb13 37 (by decide), xb12 37 (by decide), xc11]
    refine g_load rfl rfl rfl trivial ?_
    refine r_getf rfl rfl ?_
    refine g_load rfl rfl rfl trivial ?_
    refine r_ia (nr) rfl ⟨by decide, by decide, rfl⟩ rfl (by show _ < 220; omega) ?_
    rw [xb14 38 (by decide), xb13 38 (by decide), xc12]
    refine g_load rfl rfl rfl trivial ?_
    refine r_getf rfl rfl ?_
    refine g_load rfl rfl rfl trivial ?_
    refine r_ia (nr) rfl ⟨by decide, by decide, rfl⟩ rfl (by show _ < 220; omega) ?_
    rw [xc14]
    refine g_load rfl rfl rfl trivial ?_
    refine g_load rfl rfl rfl trivial ?_
    refine g_statI [.int (nI (bd + 1)), .int (nI (dcN (cf u t) (bd % 4) b % 2))] rFr_tr rfl rfl rfl (Nat.le_of_ble_eq_true rfl) (Nat.le_refl _) (Nat.le_refl _) (r_isVulnerable bd (dcN (cf u t) (bd % 4) b % 2) (by omega) (by omega) ⟨_, rfl, ?_⟩)
    refine g_load rfl rfl rfl trivial ?_
    refine g_virtI (a := 25) (ci := 8) (n := 5) [.int (lvF (cf u t) b), .int (stF (cf u t) b), .int (dblF (cf u t) n), .int (bI (vulF bd (dcN (cf u t) (bd % 4) b % 2))), .int (nI k)] rFr_tr rfl rfl (by decide) rfl r_this rfl (Nat.le_of_ble_eq_true rfl) (Nat.le_refl _) (Nat.le_refl _) (r_score (lvF (cf u t) b) (stF (cf u t) b) (dblF (cf u t) n) (nI k) (vulF bd (dcN (cf u t) (bd % 4) b % 2)) ⟨_, rfl, ?_⟩)
    refine g_store [some (.ref 25), some (.int (nI t)), some (.int (nI k)), some (.int (nI nr)), some (.int (nI (bd + 1))), some (.int (nI (dcN (cf u t) (bd % 4) b % 2))), some (.int (scG (lvF (cf u t) b) (stF (cf u t) b) (dblF (cf u t) n) (vulF bd (dcN (cf u t) (bd % 4) b % 2)) (nI k)))] rfl rfl trivial (Nat.le_of_ble_eq_true rfl) rfl ?_
    refine g_load rfl rfl rfl trivial ?_
    refine r_getf rfl rfl ?_
    refine g_load rfl rfl rfl trivial ?_
    refine g_load rfl rfl rfl trivial ?_
    have K2 : ∀ e2 : Int32, e2 = (recC u t n b bd k 42) → rB pr (d + 5) cd_197 none Q 142 [some (.ref 25), some (.int (nI t)), some (.int (nI k)), some (.int (nI nr)), some (.int (nI (bd + 1))), some (.int (nI (dcN (cf u t) (bd % 4) b % 2))), some (.int (scG (lvF (cf u t) b) (stF (cf u t) b) (dblF (cf u t) n) (vulF bd (dcN (cf u t) (bd % 4) b % 2)) (nI k)))] [.int e2, .int (nI nr), .ref 42] v14 := by
      intro e2 he2
      subst he2
      refine r_iasv (nr) rfl ⟨by decide, by decide, rfl⟩ rfl (by show _ < 220; omega) (fun v15 xa15 xb15 xc15 xd15 => ?_)
      have hS15 : kS u v15 := (hS14).st xa15 xb15 (by decide)
      refine g_load rfl rfl rfl trivial ?_
      refine g_dup rfl rfl ?_
      refine r_getf rfl rfl ?_
      refine g_iconst (nI 1) rfl (by decide) ?_
      refine g_iadd rfl ?_
      rw [show v15.1 1 = nI nr by rw [hS15.1]; exact h1, nI_add]
      refine r_putv rfl (by simp [rIs]) (fun w1 p2 pf po => ?_)
      refine g_load rfl rfl rfl trivial ?_
      refine r_getf rfl rfl ?_
      refine g_load rfl rfl rfl trivial ?_
      refine g_iconst (nI 0) rfl (by decide) ?_
      refine r_iasv (t) rfl ⟨by decide, by decide, rfl⟩ rfl (by show _ < 10; omega) (fun w2 f1 f2 f3 f4 => ?_)
      refine g_ret rfl rfl (Nat.le_refl _) (Nat.le_refl _) ?_
      refine hQ w2 ⟨?_, ?_, ?_, ?_, ?_, ?_, ?_, ?_, ?_⟩
      · rw [f1, pf]
      · intro g hg; rw [f1, po g hg, xa15, xa14, xa13, xa12, xa11, xa10, xa9, xa8, xa7, xa6, xa5, xa4, xa3, xa2, xa1]
      · exact f3
      · intro z hz; rw [f4 z hz, p2, hS15.2 28 (by decide)]
      · intro a h28 ha; rw [f2 a h28, p2, xb15 a (by omega), xb14 a (by omega), xb13 a (by omega), xb12 a (by omega), xb11 a (by omega), xb10 a (by omega), xb9 a (by omega), xb8 a (by omega), xb7 a (by omega), xb6 a (by omega), xb5 a (by omega), xb4 a (by omega), xb3 a (by omega), xb2 a (by omega), xb1 a (by omega)]
      · intro a ha
        rcases (show a = 35 ∨ a = 37 ∨ a = 38 ∨ a = 39 ∨ a = 40 ∨ a = 41 ∨ a = 42 ∨ a = 44 by omega) with rfl | rfl | rfl | rfl | rfl | rfl | rfl | rfl
        · refine ⟨?_, fun z hz => ?_⟩
          · rw [f2 35 (by decide), p2, xb15 35 (by decide), xb14 35 (by decide), xb13 35 (by decide), xb12 35 (by decide), xb11 35 (by decide), xb10 35 (by decide), xb9 35 (by decide), xb8 35 (by decide), xb7 35 (by decide), xb6 35 (by decide), xb5 35 (by decide), xb4 35 (by decide), xb3 35 (by decide), xb2 35 (by decide), xc1]
            all_goals first | rfl | exact hbd.symm
          · rw [f2 35 (by decide), p2, xb15 35 (by decide), xb14 35 (by decide), xb13 35 (by decide), xb12 35 (by decide), xb11 35 (by decide), xb10 35 (by decide), xb9 35 (by decide), xb8 35 (by decide), xb7 35 (by decide), xb6 35 (by decide), xb5 35 (by decide), xb4 35 (by decide), xb3 35 (by decide), xb2 35 (by decide), xd1 z hz]
        · refine ⟨?_, fun z hz => ?_⟩
          · rw [f2 37 (by decide), p2, xb15 37 (by decide), xb14 37 (by decide), xb13 37 (by decide), xb12 37 (by decide), xc11]
            all_goals first | rfl | exact rfl
          · rw [f2 37 (by decide), p2, xb15 37 (by decide), xb14 37 (by decide), xb13 37 (by decide), xb12 37 (by decide), xd11 z hz, xb10 37 (by decide), xb9 37 (by decide), xb8 37 (by decide), xb7 37 (by decide), xb6 37 (by decide), xb5 37 (by decide), xd4 z hz, xb3 37 (by decide), xb2 37 (by decide), xb1 37 (by decide)]
        · refine ⟨?_, fun z hz => ?_⟩
          · rw [f2 38 (by decide), p2, xb15 38 (by decide), xb14 38 (by decide), xb13 38 (by decide), xc12]
            all_goals first | rfl | exact rfl
          · rw [f2 38 (by decide), p2, xb15 38 (by decide), xb14 38 (by decide), xb13 38 (by decide), xd12 z hz, xb11 38 (by decide), xb10 38 (by decide), xb9 38 (by decide), xb8 38 (by decide), xb7 38 (by decide), xb6 38 (by decide), xd5 z hz, xb4 38 (by decide), xb3 38 (by decide), xb2 38 (by decide), xb1 38 (by decide)]
        · refine ⟨?_, fun z hz => ?_⟩
          · rw [f2 39 (by decide), p2, xb15 39 (by decide), xb14 39 (by decide), xc13]
            all_goals first | rfl | exact rfl
          · rw [f2 39 (by decide), p2, xb15 39 (by decide), xb14 39 (by decide), xd13 z hz, xb12 39 (by decide), xb11 39 (by decide), xb10 39 (by decide), xb9 39 (by decide), xb8 39 (by decide), xb7 39 (by decide), xd6 z hz, xb5 39 (by decide), xb4 39 (by decide), xb3 39 (by decide), xb2 39 (by decide), xb1 39 (by decide)]
        · refine ⟨?_, fun z hz => ?_⟩
          · rw [f2 40 (by decide), p2, xb15 40 (by decide), xc14]
            all_goals first | rfl | exact rfl
          · rw [f2 40 (by decide), p2, xb15 40 (by decide), xd14 z hz, xb13 40 (by decide), xb12 40 (by decide), xb11 40 (by decide), xb10 40 (by decide), xb9 40 (by decide), xb8 40 (by decide), xd7 z hz, xb6 40 (by decide), xb5 40 (by decide), xb4 40 (by decide), xb3 40 (by decide), xb2 40 (by decide), xb1 40 (by decide)]
        · refine ⟨?_, fun z hz => ?_⟩
          · rw [f2 41 (by decide), p2, xb15 41 (by decide), xb14 41 (by decide), xb13 41 (by decide), xb12 41 (by decide), xb11 41 (by decide), xb10 41 (by decide), xb9 41 (by decide), xc8]
            all_goals first | rfl | exact rfl
          · rw [f2 41 (by decide), p2, xb15 41 (by decide), xb14 41 (by decide), xb13 41 (by decide), xb12 41 (by decide), xb11 41 (by decide), xb10 41 (by decide), xb9 41 (by decide), xd8 z hz, xb7 41 (by decide), xb6 41 (by decide), xb5 41 (by decide), xb4 41 (by decide), xb3 41 (by decide), xb2 41 (by decide), xb1 41 (by decide)]
        · refine ⟨?_, fun z hz => ?_⟩
          · rw [f2 42 (by decide), p2, xc15]
            all_goals first | rfl | exact rfl
          · rw [f2 42 (by decide), p2, xd15 z hz, xb14 42 (by decide), xb13 42 (by decide), xb12 42 (by decide), xb11 42 (by decide), xb10 42 (by decide), xd9 z hz, xb8 42 (by decide), xb7 42 (by decide), xb6 42 (by decide), xb5 42 (by decide), xb4 42 (by decide), xb3 42 (by decide), xb2 42 (by decide), xb1 42 (by decide)]
        · refine ⟨?_, fun z hz => ?_⟩
          · rw [f2 44 (by decide), p2, xb15 44 (by decide), xb14 44 (by decide), xb13 44 (by decide), xb12 44 (by decide), xb11 44 (by decide), xc10]
            all_goals first | rfl | exact rfl
          · rw [f2 44 (by decide), p2, xb15 44 (by decide), xb14 44 (by decide), xb13 44 (by decide), xb12 44 (by decide), xb11 44 (by decide), xd10 z hz, xb9 44 (by decide), xb8 44 (by decide), xb7 44 (by decide), xb6 44 (by decide), xb5 44 (by decide), xb4 44 (by decide), xb3 44 (by decide), xb2 44 (by decide), xb1 44 (by decide)]
      · rw [f2 36 (by decide), p2, xb15 36 (by decide), xb14 36 (by decide), xb13 36 (by decide), xb12 36 (by decide), xb11 36 (by decide), xb10 36 (by decide), xb9 36 (by decide), xb8 36 (by decide), xb7 36 (by decide), xb6 36 (by decide), xb5 36 (by decide), xb4 36 (by decide), xd3 (2 * nr) (by omega), xc2, hS1.2 30 (by decide)]; rfl
      · rw [f2 36 (by decide), p2, xb15 36 (by decide), xb14 36 (by decide), xb13 36 (by decide), xb12 36 (by decide), xb11 36 (by decide), xb10 36 (by decide), xb9 36 (by decide), xb8 36 (by decide), xb7 36 (by decide), xb6 36 (by decide), xb5 36 (by decide), xb4 36 (by decide), xc3, hS2.2 30 (by decide)]; rfl
      · intro z h1z h2z; rw [f2 36 (by decide), p2, xb15 36 (by decide), xb14 36 (by decide), xb13 36 (by decide), xb12 36 (by decide), xb11 36 (by decide), xb10 36 (by decide), xb9 36 (by decide), xb8 36 (by decide), xb7 36 (by decide), xb6 36 (by decide), xb5 36 (by decide), xb4 36 (by decide), xd3 z h2z, xd2 z h1z, xb1 36 (by decide)]
    refine g_if_ne rfl (fun c2 => ?_) (fun c2 => ?_)
    · rw [← nI_0, nI_eq (by omega) (by omega)] at c2
      have hz0 := c2
      refine g_load rfl rfl rfl trivial ?_
      refine g_ineg rfl ?_
      exact K2 _ (by show _ = (if dcN (cf u t) (bd % 4) b % 2 = 0 then _ else _); first | rw [if_pos hz0] | rw [if_neg hz0])
    · rw [← nI_0, nI_eq (by omega) (by omega)] at c2
      have hz0 := c2
      refine g_load rfl rfl rfl trivial ?_
      refine g_goto rfl ?_
      exact K2 _ (by show _ = (if dcN (cf u t) (bd % 4) b % 2 = 0 then _ else _); first | rw [if_pos hz0] | rw [if_neg hz0])
