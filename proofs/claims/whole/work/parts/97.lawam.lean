/-! ===== the law, from its entry to its end ===== -/
/-- the heap at the entry: the constants, the script at 14 -/
def hS (L : Nat) (xs : Nat → Int32) : aH := (fun a => if a = 14 then .inl (0, L, .inl xs) else cT a, 16)
theorem hS_K (L : Nat) (xs : Nat → Int32) : cK (hS L xs) := fun a ha => by
  show (if a = 14 then _ else cT a) = cT a
  rw [if_neg (by omega)]
theorem hS_C (L : Nat) (xs : Nat → Int32) : CF iZ (hS L xs) := ⟨⟨Nat.le_refl _, rfl⟩, hS_K L xs, fun a ha => absurd rfl ha⟩
theorem aDef8 : aDef 8 = iG 0 := by rfl
set_option maxRecDepth 20000 in
theorem law_am {pr : aC} {D L : Nat} {xs : Nat → Int32} (hL : L ≤ 3072) : aB (aRun pg pr (D + 50)) cd_225 600000 7302250 ret false (fun r _ => r = some (.int 1)) 0 [some (.ref 14), none, none, none] [] (hS L xs) 0 0 := by
  intro P hr
  refine hr 40 0 7 7 0 _ _ (hS L xs) 0 0 rfl (Nat.le_of_ble_eq_true rfl) (Nat.le_of_ble_eq_true rfl) ?_
  have hC1 : CF (mkO iZ 30) (aNew (hS L xs) (.inr (7, aDef 7))) := (hS_C L xs).new (Or.inl (by decide)) (by simp [cCell, mkO, aDef, aCls, vwCl, cS.oI, cS.rR, cS.tp]; rfl)
  show P 1 _ [.ref 16] (aNew (hS L xs) (.inr (7, aDef 7))) 1 8
  have h14 : (aNew (hS L xs) (.inr (7, aDef 7))).1 14 = .inl (0, L, .inl xs) := by
    show va_up (hS L xs).1 16 (.inr (7, aDef 7)) 14 = _
    rw [va_up_ne _ _ (by decide)]
    rfl
  generalize aNew (hS L xs) (.inr (7, aDef 7)) = h1 at hC1 h14 ⊢
  refine hr 13 1 0 0 (.ref 16) _ _ _ 1 8 rfl rfl ?_
  refine hr 46 2 _ 107 0 16 [] [.ref 16] 8 340 _ h1 1 8 rfl ⟨_, rfl⟩ (by decide) (by decide) rfl (Nat.le_of_ble_eq_true rfl) (Nat.le_of_ble_eq_true rfl) (Nat.le_of_ble_eq_true rfl) (w_clubInit (d := D + 47) (Q := fun r u' => r = none ∧ u' = iA6) ⟨rfl, rfl⟩ h1 _ hC1 (fun r h2 u' hC2 hF2 hq => ?_))
  obtain ⟨rfl, rfl⟩ := hq
  have hC3 := iC_view hC2
  have h214 : h2.1 14 = .inl (0, L, .inl xs) := (hF2.2 14 (Or.inl (by decide))).trans h14
  have h225 : h2.2 = 25 := hC3.1.2
  show P 3 _ [.ref 16] h2 9 348
  refine hr 2 3 _ 0 0 1 _ (.ref 16) _ _ h2 9 348 rfl rfl trivial (by decide) ?_
  show P 4 [some (.ref 14), some (.ref 16), none, none] [] h2 9 348
  refine hr 40 4 10 8 0 _ _ h2 9 348 rfl (Nat.le_of_ble_eq_true rfl) (Nat.le_of_ble_eq_true rfl) ?_
  have hI : iF (iG 0, 0) (aNew h2 (.inr (8, aDef 8))) := by
    refine ⟨⟨by decide, ?_⟩, ?_, fun a a1 a2 => absurd a2 (by show ¬ a < 26 + 0; omega), hC3.2.1.new (by omega)⟩
    · show h2.2 + 1 = 26 + 0; omega
    · show va_up h2.1 h2.2 (.inr (8, aDef 8)) 25 = _
      rw [h225, va_up_self, aDef8]
  have hFr : iFr h2 (aNew h2 (.inr (8, aDef 8))) := ⟨Nat.le_succ _, fun a ha => va_up_ne _ _ (by omega)⟩
  rw [h225]
  show P 5 _ [.ref 25] (aNew h2 (.inr (8, aDef 8))) 10 379
  generalize aNew h2 (.inr (8, aDef 8)) = h3 at hI hFr ⊢
  refine hr 13 5 0 0 (.ref 25) _ _ _ 10 379 rfl rfl ?_
  refine hr 46 6 _ 158 0 25 [] [.ref 25] 24 8622 _ h3 10 379 rfl ⟨_, rfl⟩ (by decide) (by decide) rfl (Nat.le_of_ble_eq_true rfl) (Nat.le_of_ble_eq_true rfl) (Nat.le_of_ble_eq_true rfl) (i_refInit (d := D + 49) (Q := fun r u' => r = none ∧ u' = (iG 24, 24)) ⟨rfl, rfl⟩ h3 _ hI (fun r h4 u' hI4 hF4 hq => ?_))
  obtain ⟨rfl, rfl⟩ := hq
  have hF5 := iFr_tr _ _ _ hFr hF4
  have hLF : LF L xs (iD, rZ) h4 := ⟨iC_end hC3 hF5 hI4.1.2 hI4.2.2.2, iF_end hI4, (hF5.2 14 (by decide)).trans h214⟩
  show P 7 _ [.ref 25] h4 34 9001
  refine hr 2 7 _ 0 0 2 _ (.ref 25) _ _ h4 34 9001 rfl rfl trivial (by decide) ?_
  refine hr 0 8 _ 0 0 (.int (nI 0)) _ _ h4 34 9001 rfl rfl ?_
  refine hr 2 9 _ 0 0 3 _ (.int (nI 0)) _ _ h4 34 9001 rfl rfl trivial (by decide) ?_
  show P 10 [some (.ref 14), some (.ref 16), some (.ref 25), some (.int (nI 0))] [] h4 34 9001
  exact q_loop (pr := pr) (D := D) (xs := xs) hL (C := 600000) (S := 7302250) (Q := fun r _ => r = some (.int 1)) (fun _ => rfl) (L + 1) 0 (iD, rZ) 0 0 34 9001 J_start (by omega) (by omega) (by omega) (by omega) h4 h4 _ hLF trivial (fun r h' u' _ _ hq => hq) P hr
