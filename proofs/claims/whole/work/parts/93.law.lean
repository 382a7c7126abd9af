/-! ===== class and reference in one heap, beside the script ===== -/
def LF (L : Nat) (xs : Nat → Int32) (s : cS × rS) (h : aH) : Prop := CF s.1 h ∧ RF s.2 h ∧ h.1 14 = .inl (0, L, .inl xs)
def tFr (_ _ : aH) : Prop := True
theorem tFr_rf (h : aH) : tFr h h := trivial
theorem tFr_tr (a b d : aH) (_ : tFr a b) (_ : tFr b d) : tFr a d := trivial
theorem l_w {L : Nat} {xs : Nat → Int32} {cl : aC} {j : Nat} {as : List Value} {u : cS} {r : rS} {mc ms : Nat} {Q : Option Value → cS × rS → Prop} (hC : gR CF cFr cl j as u mc ms (fun v u' => Q v (u', r))) : gR (LF L xs) tFr cl j as (u, r) mc ms Q := by
  intro h QQ hR hQ
  obtain ⟨h1, h2, h3⟩ := hR
  refine hC h QQ h1 (fun v h' u' hc hf hq => hQ v h' (u', r) ⟨hc, ⟨Nat.le_trans h2.1 hf.1, ?_, fun a a1 a2 => ?_, hc.2.1⟩, ?_⟩ trivial hq)
  · rw [hf.2 25 (Or.inr ⟨by decide, by decide⟩)]; exact h2.2.1
  · rw [hf.2 a (Or.inr ⟨by omega, a2⟩)]; exact h2.2.2.1 a a1 a2
  · rw [hf.2 14 (Or.inl (by decide))]; exact h3
theorem l_c {L : Nat} {xs : Nat → Int32} {cl : aC} {j : Nat} {as : List Value} {u : cS} {r : rS} {mc ms : Nat} {Q : Option Value → cS × rS → Prop} (hC : gR CF eF cl j as u mc ms (fun v u' => Q v (u', r))) : gR (LF L xs) tFr cl j as (u, r) mc ms Q := by
  intro h QQ hR hQ
  obtain ⟨h1, h2, h3⟩ := hR
  refine hC h QQ h1 (fun v h' u' hc hf hq => hQ v h' (u', r) ⟨hc, ?_, ?_⟩ trivial hq)
  · rw [show h' = h from hf]; exact h2
  · rw [show h' = h from hf]; exact h3
theorem l_r {L : Nat} {xs : Nat → Int32} {cl : aC} {j : Nat} {as : List Value} {u : cS} {r : rS} {mc ms : Nat} {Q : Option Value → cS × rS → Prop} (hC : gR RF rFr cl j as r mc ms (fun v r' => Q v (u, r'))) : gR (LF L xs) tFr cl j as (u, r) mc ms Q := by
  intro h QQ hR hQ
  obtain ⟨h1, h2, h3⟩ := hR
  refine hC h QQ h2 (fun v h' r' hc hf hq => hQ v h' (u, r') ⟨⟨⟨by rw [hf.1]; exact h1.1.1, hf.1.trans h1.1.2⟩, hc.2.2.2, fun a ha => ?_⟩, hc, ?_⟩ trivial hq)
  · obtain ⟨x1, x2, x3, x4⟩ := h1.2.2 a ha
    exact ⟨x1, x2, by rw [hf.1]; exact x3, by rw [hf.2 a (by omega)]; exact x4⟩
  · rw [hf.2 14 (Or.inl (by decide))]; exact h3
/-- the class answers, then the reference answers the same, and both stand side by side again -/
def pX (cl : aC) (L : Nat) (xs : Nat → Int32) (jc jr mc ms : Nat) (as : List Value) (u : cS) (r : rS) : Prop := gR (LF L xs) tFr cl jc (.ref 16 :: as) (u, r) mc ms (fun v s' => ∃ x u', v = some (.int x) ∧ s' = (u', r) ∧ gR (LF L xs) tFr cl jr (.ref 25 :: as) (u', r) 0 0 (fun w s'' => w = some (.int x) ∧ ∃ nb nr, J s''.1 s''.2 nb nr))
theorem onE_rf (u : cS) : onE u u := ⟨rfl, rfl, rfl, rfl, fun _ _ => rfl, fun _ _ => rfl⟩
theorem nIi {a b : Nat} (ha : a < 2 ^ 31) (hb : b < 2 ^ 31) (h : nI a = nI b) : a = b := by
  have := congrArg Int32.toNatClampNeg h
  rwa [nI_clamp ha, nI_clamp hb] at this
theorem J.rok {u : cS} {r : rS} {nb nr : Nat} (hJ : J u r nb nr) : rOkT r nb := by
  refine ⟨hJ.hb.2.2, hJ.hb.2.1, fun t ht => ?_⟩
  rcases hJ.tb ht with ⟨h, _⟩ | ⟨T, B, bd, n, m, h⟩
  · exact Or.inl h
  · right
    have eN := h.eN
    have eM := h.eM
    have eD := h.eD hJ.hb.2.1
    have hck := h.ck
    have h' := h
    obtain ⟨_, hB, hbd, _, h29, _, h31, h32, _, _, _, _, _, _, hph⟩ := h'
    rw [eN, eM, eD]
    refine ⟨h29, hbd, h31, ?_, h32, ?_, hck, ?_⟩
    · have := hB.2.2.2.2.2.2.2.2.2.2.1; omega
    · rcases hph with ⟨_, e, _⟩ | ⟨_, _, b, hb, hp⟩
      · omega
      · exact hp.2.2.1
    · rcases hph with ⟨e1, e2, _⟩ | ⟨e1, _, b, hb, _⟩
      · exact Or.inl ⟨e1, e2⟩
      · exact Or.inr ⟨e1, by rw [h.eB hb]; exact hb⟩
theorem J.calls {u : cS} {r : rS} {nb nr : Nat} (hJ : J u r nb nr) (t : Nat) (ht : t < 10) (h : ¬ r.2 28 t = 0) : ∃ n, n ≤ 340 ∧ r.2 31 t = nI n := by
  rcases hJ.rok.2.2 t ht with e | ⟨_, _, e, hn, _⟩
  · exact absurd e h
  · exact ⟨_, by omega, e⟩
theorem J.cards {u : cS} {r : rS} {nb nr : Nat} (hJ : J u r nb nr) (t : Nat) (ht : t < 10) (h : ¬ r.2 28 t = 0) : ∃ n, n ≤ 52 ∧ r.2 32 t = nI n := by
  rcases hJ.rok.2.2 t ht with e | ⟨_, _, _, _, e, hn, _⟩
  · exact absurd e h
  · exact ⟨_, by omega, e⟩
/-- at the start -/
theorem J_start : J iD rZ 0 0 := by
  refine ⟨⟨rfl, rfl, rfl, rfl, rfl, rfl, rfl, rfl, rfl⟩, ⟨⟨Nat.le_refl _, fun a ha => ?_⟩, fun t t' T _ _ h _ => ?_, fun i j R hi _ _ _ => ?_⟩, ⟨rfl, by omega, rfl⟩, ⟨rfl, rfl, ?_⟩, fun b hb => ?_, fun t ht => Or.inl ⟨rfl, Or.inl rfl⟩, fun i hi => ?_, ⟨0, by omega, rfl, rfl, rfl, fun i hi => ?_⟩⟩
  · have := iK_lt ha
    show a < 50
    omega
  · exact absurd (show (none : Option Nat) = some T from h) (by simp)
  · omega
  · have : cnt (fun t => decide (¬ rZ.2 28 t = 0)) 10 = 0 := by rfl
    omega
  · omega
  · omega
  · omega
