/-! ===== the club beside the reference: swap ===== -/
/-- only the longs at a differ -/
theorem onL.ag {u v : cS} {a : Nat} {L : Nat → Int64} (h : onL u v a L) {x : Nat} (hx : x ≠ a) : agr u v x := ⟨by rw [h.1], by rw [h.2.1], by rw [h.2.2.1], h.2.2.2.2.1 x hx, by rw [h.2.2.2.1.1]⟩
theorem J.swap {u v w : cS} {r : rS} {nb nr b a c B sa sc : Nat} (hJ : J u r nb nr) (hb : b < nb) (hB : bJ u r nr b B) (h27 : r.2 27 b = 0) (ha : a < 52) (hc : c < 52) (hsa : sa < 4) (hsc : sc < 4) (fa : r.2 26 (52 * b + a) = nI sa) (fc : r.2 26 (52 * b + c) = nI sc) (hv : onL u v (B + 1) (gvS (u.rL (B + 1)) sc a)) (hw : onL v w (B + 1) (gvS (v.rL (B + 1)) sa c)) : J w (uSwap r b a c) nb nr := by
  have kw : w.kd = u.kd := hw.1.trans hv.1
  have ow : w.oI = u.oI := hw.2.1.trans hv.2.1
  have iw : w.rI = u.rI := hw.2.2.1.trans hv.2.2.1
  have rw' : w.rR = u.rR := hw.2.2.2.1.1.trans hv.2.2.2.1.1
  have tw : w.tp = u.tp := hw.2.2.2.1.2.trans hv.2.2.2.1.2
  have lw : ∀ x, x ≠ B + 1 → w.rL x = u.rL x := fun x hx => (hw.2.2.2.2.1 x hx).trans (hv.2.2.2.2.1 x hx)
  have lB : w.rL (B + 1) = gvS (gvS (u.rL (B + 1)) sc a) sa c := by rw [hw.2.2.2.2.2, hv.2.2.2.2.2]
  have ag : ∀ x, x ≠ B + 1 → agr u w x := fun x hx => ⟨by rw [kw], by rw [ow], by rw [iw], lw x hx, by rw [rw']⟩
  have agk : ∀ x κ, u.kd x = κ → κ ≠ 2 → agr u w x := fun x κ h1 h2 => ag x (fun e => by rw [e, hB.2.2.1] at h1; exact h2 h1.symm)
  have eo : ∀ x, x ≠ 26 → (uSwap r b a c).2 x = r.2 x := fun x h => by
    show (rU (rU r.2 26 (52 * b + a) (r.2 26 (52 * b + c))) 26 (52 * b + c) (r.2 26 (52 * b + a))) x = _
    rw [rU_a h, rU_a h]
  have e26 : ∀ z, (uSwap r b a c).2 26 z = if z = 52 * b + c then r.2 26 (52 * b + a) else if z = 52 * b + a then r.2 26 (52 * b + c) else r.2 26 z := fun z => by
    show (rU (rU r.2 26 (52 * b + a) (r.2 26 (52 * b + c))) 26 (52 * b + c) (r.2 26 (52 * b + a))) 26 z = _
    by_cases e : z = 52 * b + c
    · rw [if_pos e, e, rU_s]
    · rw [if_neg e, rU_k e]
      by_cases e2 : z = 52 * b + a
      · rw [if_pos e2, e2, rU_s]
      · rw [if_neg e2, rU_k e2]
  refine ⟨?_, ?_, ?_, ?_, fun bb hbb => ?_, fun t' ht' => ?_, fun j hj => ?_, ?_⟩
  · unfold kJ; rw [kw]; exact hJ.k
  · unfold aJ; rw [kw, tw, rw']; exact hJ.a
  · rw [ow]; exact hJ.hb
  · rw [ow, eo 28 (by decide)]; exact hJ.hr
  · by_cases e : bb = b
    · subst e
      obtain ⟨h1, h2, h3, h4, h5, h6, h7, h8⟩ := hB
      refine ⟨B, by rw [rw']; exact h1, by rw [kw]; exact h2, by rw [kw]; exact h3, by rw [ow]; exact h4, by rw [ow, eo 27 (by decide)]; exact h5, by rw [eo 27 (by decide)]; exact h6, by rw [ow, eo 35 (by decide)]; exact h7, ?_⟩
      rw [lB]
      refine h8.swap ha hc hsa hsc fa fc ?_ ?_ (fun i hi n1 n2 => ?_)
      · show (uSwap r bb a c).2 26 (52 * bb + a) = r.2 26 (52 * bb + c)
        rw [e26]
        by_cases z : a = c
        · rw [if_pos (by rw [z]), z]
        · rw [if_neg (by omega), if_pos rfl]
      · show (uSwap r bb a c).2 26 (52 * bb + c) = r.2 26 (52 * bb + a)
        rw [e26, if_pos rfl]
      · show (uSwap r bb a c).2 26 (52 * bb + i) = r.2 26 (52 * bb + i)
        rw [e26, if_neg (by omega), if_neg (by omega)]
    · obtain ⟨B', hB'⟩ := hJ.bd hbb
      have hne : B' ≠ B := fun z => e (by
        have h1 := hB'.2.2.2.1
        rw [z, hB.2.2.2.1] at h1
        have := (nI_eq (by have := hJ.hb.2.1; omega) (by have := hJ.hb.2.1; omega)).mp h1
        omega)
      exact ⟨B', bJ_fr hB' (by rw [rw']) (agk B' 1 hB'.2.1 (by decide)) (ag _ (by omega)) (by rw [eo 27 (by decide)]) (by rw [eo 35 (by decide)]) (fun k hk => by rw [e26, if_neg (by omega), if_neg (by omega)])⟩
  · rcases hJ.tb ht' with ⟨h1, h2⟩ | ⟨T, B', bd, n, m, hT⟩
    · exact Or.inl ⟨by rw [eo 28 (by decide)]; exact h1, tI0_fr h2 (by rw [rw']) (fun T _ => ⟨fun a _ _ => by rw [kw], by rw [rw']⟩)⟩
    · have hbd : bd ≠ b := fun z => by
        have := hT.2.2.2.2.2.2.2.2.2.2.2.2.1
        rw [z, h27] at this; exact absurd this (by decide)
      exact Or.inr ⟨T, B', bd, n, m, tJ_fr hT (Nat.le_refl _) (by rw [rw']) (by rw [rw']) (fun x h1 h2 => agk x _ (hT.2.1.tk.at h1 h2) (by omega)) (by rw [kw]) (by rw [kw]) ⟨by rw [eo 28 (by decide)], by rw [eo 29 (by decide)], by rw [eo 30 (by decide)], by rw [eo 30 (by decide)], by rw [eo 31 (by decide)], by rw [eo 32 (by decide)], fun i _ => by unfold cf; rw [eo 33 (by decide)], fun i _ => by unfold gf; rw [eo 34 (by decide)], by rw [eo 27 (by decide)], fun k hk => by rw [e26, if_neg (by omega), if_neg (by omega)]⟩⟩
  · obtain ⟨R, hR⟩ := hJ.rs hj
    exact ⟨R, rJ_fr hR (Nat.le_refl _) (by rw [rw']) (agk R 9 hR.2.1 (by decide)) (fun x hx => by rw [eo x (by omega)]) ⟨by rw [eo 36 (by decide)], by rw [eo 36 (by decide)]⟩ ⟨by rw [eo 43 (by decide)], by rw [eo 43 (by decide)]⟩⟩
  · obtain ⟨len, t1, t2, t3, t4, t5⟩ := hJ.tx
    exact ⟨len, t1, by rw [ow]; exact t2, t3, by rw [ow]; exact t4, fun x hx => by rw [iw, eo 45 (by decide)]; exact t5 x hx⟩
theorem bJ.x {u : cS} {r : rS} {nr b B : Nat} (h : bJ u r nr b B) : u.oI B 2 = bI (decide (¬ r.2 27 b = 0)) := by
  rw [h.2.2.2.2.1]
  rcases h.2.2.2.2.2.1 with e | e
  · rw [e]; rfl
  · rw [e]; rfl
theorem swOk_n {r : rS} {b : Nat} {a c : Int32} (hb : b < 36) (h : ¬ r.2 27 b = 0) : swOk r (nI (b + 1)) a c = false := by
  unfold swOk
  rw [nI_clamp (by omega), Nat.add_sub_cancel, decide_eq_false h]; simp
set_option maxRecDepth 20000 in
theorem j_swap {pr : aC} {d : Nat} {u : cS} {r : rS} {nb nr : Nat} (hJ : J u r nb nr) (b a c : Int32) {Q : Option Value → cS → Prop} (hF : swOk r b a c = false → Q (some (.int 0)) u) (hQ : ∀ b0 a0 c0 v, b0 < nb → a0 < 52 → c0 < 52 → b = nI (b0 + 1) → a = nI a0 → c = nI c0 → r.2 27 b0 = 0 → J v (uSwap r b0 a0 c0) nb nr → Q (some (.int 1)) v) : wR pr (d + 3 + 1) 109 [.ref 16, .int b, .int a, .int c] u Q := by
  refine gR_of mi_109 cFr_rf rfl (Nat.le_of_ble_eq_true rfl) ?_
  show wB pr (d + 3) cd_109 (Option.some Jvm.ClassFile.FieldType.boolean) Q 0 [some (.ref 16), some (.int b), some (.int a), some (.int c), none, none, none] [] u
  have hnr2 := hJ.nr
  obtain ⟨hnr, hr1, _⟩ := hJ.hr
  obtain ⟨hnb, hnb2, hr0⟩ := hJ.hb
  have hk0 := hJ.k
  obtain ⟨k16, k17, k18, k19, k20, k21, k22, k23, k24⟩ := hJ.k
  refine g_load rfl rfl rfl trivial ?_
  refine g_load rfl rfl rfl trivial ?_
  cases hbb : isBd r b with
  | false =>
    refine g_virtI (a := 16) (ci := 7) (n := 1) [.int b] cFr_tr rfl rfl (by decide) rfl (c_ob k16 (by decide) (by rfl)) rfl (Nat.le_of_ble_eq_true rfl) (Nat.le_refl _) (Nat.le_refl _) (c_lift cFr_rf (fun _ h => h) (c_bnum_n nb hk0 hnb hnb2 b (isBd_f hr0 hbb) ⟨_, rfl, ?_⟩))
    refine g_store [some (.ref 16), some (.int b), some (.int a), some (.int c), some (.null), none, none] rfl rfl trivial (Nat.le_of_ble_eq_true rfl) rfl ?_
    have hQ := hF (by unfold swOk; rw [hbb]; rfl)
    refine g_load rfl rfl rfl trivial ?_
    refine g_ifnull_n rfl ?_
    refine g_iconst (nI 0) rfl (by decide) ?_
    refine g_vret rfl trivial (by first | exact ⟨by decide, by decide⟩ | trivial) (Nat.le_refl _) (Nat.le_refl _) ?_
    exact hQ
  | true =>
    obtain ⟨bd, hbd, rfl⟩ := bd_of hbb hr0 (by omega)
    obtain ⟨B, hB⟩ := hJ.bd hbd
    have kB := hB.2.1
    have kB1 := hB.2.2.1
    refine g_virtI (a := 16) (ci := 7) (n := 1) [.int (nI (bd + 1))] cFr_tr rfl rfl (by decide) rfl (c_ob k16 (by decide) (by rfl)) rfl (Nat.le_of_ble_eq_true rfl) (Nat.le_refl _) (Nat.le_refl _) (c_lift cFr_rf (fun _ h => h) (c_bnum nb hk0 hnb hnb2 bd B hbd hB.1 ⟨_, rfl, ?_⟩))
    refine g_store [some (.ref 16), some (.int (nI (bd + 1))), some (.int a), some (.int c), some (.ref B), none, none] rfl rfl trivial (Nat.le_of_ble_eq_true rfl) rfl ?_
    refine g_load rfl rfl rfl trivial ?_
    refine g_ifnull_r rfl ?_
    refine g_load rfl rfl rfl trivial ?_
    refine g_virtI (a := B) (ci := 2) (n := 0) [] cFr_tr rfl rfl (by decide) rfl (c_ob (κ := 1) kB (by decide) (by rfl)) rfl (Nat.le_of_ble_eq_true rfl) (Nat.le_refl _) (Nat.le_refl _) (c_lift cFr_rf (fun _ h => h) (c_wasBegun B _ kB hB.x ⟨_, rfl, ?_⟩))
    refine g_if_ne rfl (fun c1 => ?_) (fun c1 => ?_)
    · rw [bI_ne, decide_eq_true_eq] at c1
      have hQ := hF (swOk_n (by omega) c1)
      refine g_iconst (nI 0) rfl (by decide) ?_
      refine g_vret rfl trivial (by first | exact ⟨by decide, by decide⟩ | trivial) (Nat.le_refl _) (Nat.le_refl _) ?_
      exact hQ
    · rw [bI_eq, decide_eq_false_iff_not, Classical.not_not] at c1
      have h27 := c1
      refine g_load rfl rfl rfl trivial ?_
      refine g_statI [.int a] cFr_tr rfl rfl rfl (Nat.le_of_ble_eq_true rfl) (Nat.le_refl _) (Nat.le_refl _) (p_exists cFr_rf cFr_tr a ⟨_, rfl, ?_⟩)
      refine g_if_eq rfl (fun c2 => ?_) (fun c2 => ?_)
      · rw [bI_eq] at c2
        have hQ := hF (by unfold swOk; rw [c2]; simp)
        refine g_iconst (nI 0) rfl (by decide) ?_
        refine g_vret rfl trivial (by first | exact ⟨by decide, by decide⟩ | trivial) (Nat.le_refl _) (Nat.le_refl _) ?_
        exact hQ
      · rw [bI_ne] at c2
        obtain ⟨a0, ha0, rfl⟩ := cd_of c2
        refine g_load rfl rfl rfl trivial ?_
        refine g_statI [.int c] cFr_tr rfl rfl rfl (Nat.le_of_ble_eq_true rfl) (Nat.le_refl _) (Nat.le_refl _) (p_exists cFr_rf cFr_tr c ⟨_, rfl, ?_⟩)
        refine g_if_ne rfl (fun c3 => ?_) (fun c3 => ?_)
        · rw [bI_ne] at c3
          obtain ⟨c0, hc0, rfl⟩ := cd_of c3
          obtain ⟨sa, hsa, fa, _⟩ := hB.2.2.2.2.2.2.2.2.1 a0 ha0
          obtain ⟨sc, hsc, fc, _⟩ := hB.2.2.2.2.2.2.2.2.1 c0 hc0
          have fa : r.2 26 (52 * bd + a0) = nI sa := fa
          have fc : r.2 26 (52 * bd + c0) = nI sc := fc
          refine g_load rfl rfl rfl trivial ?_
          refine g_load rfl rfl rfl trivial ?_
          refine g_virtI (a := B) (ci := 2) (n := 1) [.int (nI a0)] cFr_tr rfl rfl (by decide) rfl (c_ob (κ := 1) kB (by decide) (by rfl)) rfl (Nat.le_of_ble_eq_true rfl) (Nat.le_refl _) (Nat.le_refl _) (c_lift cFr_rf (fun _ h => h) (c_holder B kB kB1 a0 (by omega) ⟨_, rfl, ?_⟩))
          rw [hB.2.2.2.2.2.2.2.ho ha0, fa]
          refine g_store [some (.ref 16), some (.int (nI (bd + 1))), some (.int (nI a0)), some (.int (nI c0)), some (.ref B), some (.int (nI sa)), none] rfl rfl trivial (Nat.le_of_ble_eq_true rfl) rfl ?_
          refine g_load rfl rfl rfl trivial ?_
          refine g_load rfl rfl rfl trivial ?_
          refine g_virtI (a := B) (ci := 2) (n := 1) [.int (nI c0)] cFr_tr rfl rfl (by decide) rfl (c_ob (κ := 1) kB (by decide) (by rfl)) rfl (Nat.le_of_ble_eq_true rfl) (Nat.le_refl _) (Nat.le_refl _) (c_lift cFr_rf (fun _ h => h) (c_holder B kB kB1 c0 (by omega) ⟨_, rfl, ?_⟩))
          rw [hB.2.2.2.2.2.2.2.ho hc0, fc]
          refine g_store [some (.ref 16), some (.int (nI (bd + 1))), some (.int (nI a0)), some (.int (nI c0)), some (.ref B), some (.int (nI sa)), some (.int (nI sc))] rfl rfl trivial (Nat.le_of_ble_eq_true rfl) rfl ?_
          refine g_load rfl rfl rfl trivial ?_
          refine g_load rfl rfl rfl trivial ?_
          refine g_load rfl rfl rfl trivial ?_
          refine g_virtV (a := B) (ci := 2) (n := 2) [.int (nI sc), .int (nI a0)] cFr_tr rfl rfl (by decide) rfl (c_ob (κ := 1) kB (by decide) (by rfl)) rfl (Nat.le_of_ble_eq_true rfl) (Nat.le_refl _) (Nat.le_refl _) (w_give B kB kB1 sc a0 hsc (fun v hv => ⟨rfl, ?_⟩))
          refine g_load rfl rfl rfl trivial ?_
          refine g_load rfl rfl rfl trivial ?_
          refine g_load rfl rfl rfl trivial ?_
          refine g_virtV (a := B) (ci := 2) (n := 2) [.int (nI sa), .int (nI c0)] cFr_tr rfl rfl (by decide) rfl (c_ob (κ := 1) (by rw [hv.1]; exact kB) (by decide) (by rfl)) rfl (Nat.le_of_ble_eq_true rfl) (Nat.le_refl _) (Nat.le_refl _) (w_give B (by rw [hv.1]; exact kB) (by rw [hv.1]; exact kB1) sa c0 hsa (fun w hw => ⟨rfl, ?_⟩))
          have hQ := hQ bd a0 c0 w hbd ha0 hc0 rfl rfl rfl h27 (J.swap hJ hbd hB h27 ha0 hc0 hsa hsc fa fc hv hw)
          refine g_iconst (nI 1) rfl (by decide) ?_
          refine g_vret rfl trivial (by first | exact ⟨by decide, by decide⟩ | trivial) (Nat.le_refl _) (Nat.le_refl _) ?_
          exact hQ
        · rw [bI_eq] at c3
          have hQ := hF (by unfold swOk; rw [c3]; simp)
          refine g_iconst (nI 0) rfl (by decide) ?_
          refine g_vret rfl trivial (by first | exact ⟨by decide, by decide⟩ | trivial) (Nat.le_refl _) (Nat.le_refl _) ?_
          exact hQ
