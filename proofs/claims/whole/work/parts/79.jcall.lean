/-! ===== call: the joint invariant is kept ===== -/
theorem upd_lt {f : Nat → Int32} {n : Nat} {c : Int32} {k : Nat} (h : k ≤ n) : ∀ i, i < k → f i = upd f n c i := fun i hi => by unfold upd; rw [if_neg (by omega)]
theorem upd_at (f : Nat → Int32) (n : Nat) (c : Int32) : upd f n c n = c := if_pos rfl
theorem aucOk.snoc {f : Nat → Int32} {n : Nat} {c : Int32} (h : aucOk f n) (ho : ovF f n = false) (hc : mcF f n c = true) : aucOk (upd f n c) (n + 1) := by
  intro k hk
  by_cases e : k = n
  · subst e
    rw [upd_at, ← mcF_cg (upd_lt (Nat.le_refl _)), ← ovF_congr (upd_lt (Nat.le_refl _))]
    exact ⟨hc, ho⟩
  · have h1 := h k (by omega)
    rw [← mcF_cg (upd_lt (f := f) (c := c) (show k ≤ n by omega)), ← ovF_congr (upd_lt (f := f) (c := c) (show k ≤ n by omega)), ← upd_lt (f := f) (c := c) (Nat.le_refl n) k (by omega)]
    exact h1
theorem aucOk.g3 {f : Nat → Int32} {n : Nat} (h : aucOk f n) : (last nz f n = none ↔ last ge3 f n = none) := by
  rcases aucB_of h with ⟨a1, a2, _⟩ | ⟨i, β, d, b, a1, a2, _⟩
  · exact ⟨fun _ => a2, fun _ => a1⟩
  · constructor
    · intro e; rw [a1] at e; cases e
    · intro e; rw [a2] at e; cases e
theorem called_cf {r v : rS} {t n : Nat} {c : Int32} (h : calledP r v t n c) : cf v t = upd (cf r t) n c := by
  funext i
  unfold cf
  rw [h.2.2.1]
  unfold upd
  by_cases e : i = n
  · rw [if_pos e, if_pos (by omega)]
  · rw [if_neg e, if_neg (by omega)]
theorem called_gf {r v : rS} {t n : Nat} {c : Int32} (h : calledP r v t n c) : gf v t = gf r t := by
  unfold gf; rw [h.2.1 34 (by decide) (by decide)]
theorem called_on {r v : rS} {t n : Nat} {c : Int32} (h : calledP r v t n c) (hn : n < 340) : onR r v t := by
  obtain ⟨h1, h2, h3, h4⟩ := h
  refine ⟨fun g _ => by rw [h1], fun a _ ha => h2 a (by omega) (by omega), fun a ha z hz => ?_, fun z _ _ => by rw [h2 30 (by decide) (by decide)], fun z hz => ?_, fun z _ => by rw [h2 34 (by decide) (by decide)]⟩
  · rcases ha with e | e | e | e
    · rw [e, h2 28 (by decide) (by decide)]
    · rw [e, h2 29 (by decide) (by decide)]
    · rw [e, h4]; exact if_neg hz
    · rw [e, h2 32 (by decide) (by decide)]
  · rw [h3]; exact if_neg (by omega)
/-- the table in the auction: a call is added -/
theorem J.called {u z : cS} {r v : rS} {nb nr t T B bd n : Nat} {c : Int32} (hJ : J u r nb nr) (ht : t < 10) (hT : tJ u r nb t T B bd n 0) (h28 : r.2 28 t = nI 1) (ho : ovF (cf r t) n = false) (hmc : mcF (cf r t) n c = true) (hv : onR r v t) (v31 : v.2 31 t = nI (n + 1)) (v32 : v.2 32 t = r.2 32 t) (v29 : v.2 29 t = r.2 29 t) (v30 : v.2 30 = r.2 30) (vcf : cf v t = upd (cf r t) n c) (hz : onT u z T) (z0 : z.oI T = u.oI T) (zr : z.rR T = u.rR T) (z11 : z.oI (T + 1) 1 = nI (n + 1)) (z12 : z.oI (T + 1) 2 = u.oI (T + 1) 2) (z2 : z.rI (T + 1 + 1) = upd (u.rI (T + 1 + 1)) n c) (z32 : z.oI (T + 3) 2 = nI 0) (zl : z.rL (T + 3) 0 = u.rL (T + 3) 0 ∨ z.rL (T + 3) 0 = lN 0) (hph : v.2 28 t = nI 1 ∨ v.2 28 t = nI 2) (hnew : phJ z v t T bd (n + 1) 0) : J z v nb nr := by
  have hk := hT.2.1.tk
  have h318 := hT.2.2.2.2.2.2.2.2.2.2.2.1.le318 ho
  obtain ⟨h1, h2, h3, h4, h5, ⟨h6, h7, h8⟩, h9, h10, h11, h12, h13, h14, h15, h16, h17⟩ := hT
  obtain ⟨k0, k1, k2, k3, k4, k5, kb, kb1, hon, hn, hn2, hmm, hm2⟩ := h2
  have k18 := hJ.k.2.2.1
  have k17 := hJ.k.2.1
  have a18 : agr u z 18 := hz.2.2 18 (hk.ne k18 (by decide))
  have a17 : agr u z 17 := hz.2.2 17 (hk.ne k17 (by decide))
  refine J_tab hJ ht h1 hk hz hv ?_ (Or.inr ⟨B, bd, n + 1, 0, by rw [a18.2.2.2.2]; exact h1, ⟨?_, ?_, ?_, ?_, ?_, ?_, ?_, ?_, by rw [zr]; exact hon, z11, by omega, z32, by omega⟩, h3, by rw [a17.2.2.2.2]; exact h4, v29.trans h5, ⟨by rw [z0, v30]; exact h6, by rw [z0, v30]; exact h7, by rw [v30]; exact h8⟩, v31, v32.trans h10, fun i hi => ?_, fun i hi => absurd hi (by omega), z12.trans h13, ?_, by rw [hv.2.1 27 (by decide) (by decide)]; exact h15, ?_, hnew⟩)
  · have e : cnt (fun z => decide (¬ v.2 28 z = 0)) 10 = cnt (fun z => decide (¬ r.2 28 z = 0)) 10 := cnt_congr (fun x _ => by
      by_cases e : x = t
      · rw [e, h28]
        have e2 : ¬ v.2 28 t = 0 := by
          rcases hph with q | q
          · rw [q]; decide
          · rw [q]; decide
        exact (decide_eq_true e2).trans (decide_eq_true (show ¬ nI 1 = 0 by decide)).symm
      · rw [hv.2.2.1 28 (by omega) x e])
    have := hJ.hr.2.2
    omega
  · rw [hz.1]; exact k0
  · rw [hz.1]; exact k1
  · rw [hz.1]; exact k2
  · rw [hz.1]; exact k3
  · rw [hz.1]; exact k4
  · rw [hz.1]; exact k5
  · rw [hz.1]; exact kb
  · rw [hz.1]; exact kb1
  · rw [z2, vcf]
    unfold upd
    by_cases e : i = n
    · rw [if_pos e, if_pos e]
    · rw [if_neg e, if_neg e]; exact h11 i (by omega)
  · rw [vcf]; exact h14.snoc ho hmc
  · rcases zl with e | e
    · rw [e]; exact ⟨h16.1, h16.2⟩
    · exact gn_0 e _
theorem tCl_on (u : cS) (T n : Nat) (c : Int32) : onT u (tCl u T n c) T := ((onT.rf u T).I c ⟨by omega, by omega⟩).O _ ⟨by omega, by omega⟩
theorem tPl_on {u v : cS} {T : Nat} (h : onT u v T) (s tr l : Int32) : onT u (tPl v T s tr l) T := ((((h.O _ ⟨by omega, by omega⟩).L _ ⟨by omega, by omega⟩).O _ ⟨by omega, by omega⟩).O _ ⟨by omega, by omega⟩).I _ ⟨by omega, by omega⟩
theorem tPl_o {v : cS} {T : Nat} {s tr l : Int32} {a : Nat} (ha : a ≠ T + 3) : (tPl v T s tr l).oI a = v.oI a := by
  show u2 (u2 (u2 v.oI (T + 3) 2 (nI 0)) (T + 3) 4 s) (T + 3) 5 tr a = _
  rw [u2_a _ _ ha, u2_a _ _ ha, u2_a _ _ ha]
theorem tPl_4 {v : cS} {T : Nat} {s tr l : Int32} : (tPl v T s tr l).oI (T + 3) 4 = s := by
  show u2 (u2 (u2 v.oI (T + 3) 2 (nI 0)) (T + 3) 4 s) (T + 3) 5 tr (T + 3) 4 = _
  rw [u2_k _ _ (by decide), u2_s]
theorem tPl_5 {v : cS} {T : Nat} {s tr l : Int32} : (tPl v T s tr l).oI (T + 3) 5 = tr := by
  show u2 (u2 (u2 v.oI (T + 3) 2 (nI 0)) (T + 3) 4 s) (T + 3) 5 tr (T + 3) 5 = _
  rw [u2_s]
theorem tPl_2 {v : cS} {T : Nat} {s tr l : Int32} : (tPl v T s tr l).oI (T + 3) 2 = nI 0 := by
  show u2 (u2 (u2 v.oI (T + 3) 2 (nI 0)) (T + 3) 4 s) (T + 3) 5 tr (T + 3) 2 = _
  rw [u2_k _ _ (by decide), u2_k _ _ (by decide), u2_s]
theorem tPl_l {v : cS} {T : Nat} {s tr l : Int32} : (tPl v T s tr l).rI (T + 3 + 2) 0 = l := u2_s v.rI (T + 3 + 2) 0 l
theorem tPl_i {v : cS} {T : Nat} {s tr l : Int32} {a : Nat} (ha : a ≠ T + 3 + 2) : (tPl v T s tr l).rI a = v.rI a := u2_a v.rI l ha
theorem tCl_o1 (u : cS) (T n : Nat) (c : Int32) : (tCl u T n c).oI (T + 1) 1 = nI (n + 1) := u2_s u.oI (T + 1) 1 _
theorem tCl_o2 (u : cS) (T n : Nat) (c : Int32) : (tCl u T n c).oI (T + 1) 2 = u.oI (T + 1) 2 := u2_k u.oI _ (by decide)
theorem tCl_o {u : cS} {T n : Nat} {c : Int32} {a : Nat} (ha : a ≠ T + 1) : (tCl u T n c).oI a = u.oI a := u2_a u.oI _ ha
theorem tCl_i (u : cS) (T n : Nat) (c : Int32) : (tCl u T n c).rI (T + 1 + 1) = upd (u.rI (T + 1 + 1)) n c := u2_row u.rI (T + 1 + 1) n c
theorem tCl_j {u : cS} {T n : Nat} {c : Int32} {a : Nat} (ha : a ≠ T + 1 + 1) : (tCl u T n c).rI a = u.rI a := u2_a u.rI c ha
/-- it goes on -/
theorem J.call_0 {u : cS} {r v : rS} {nb nr t T B bd n : Nat} {c : Int32} (hJ : J u r nb nr) (ht : t < 10) (hT : tJ u r nb t T B bd n 0) (h28 : r.2 28 t = nI 1) (ho : ovF (cf r t) n = false) (hmc : mcF (cf r t) n c = true) (hno : ovF (upd (cf r t) n c) (n + 1) = false) (hv : calledP r v t n c) : J (tCl u T n c) v nb nr := by
  have hn := hT.2.1.2.2.2.2.2.2.2.2.2.2.1
  have vcf := called_cf hv
  obtain ⟨l0, hl0, hL, _⟩ := hT.ld
  obtain ⟨dc, hdc, hdc2, _⟩ := hT.dc
  have e28 : v.2 28 t = nI 1 := by rw [hv.2.1 28 (by decide) (by decide)]; exact h28
  refine J.called hJ ht hT h28 ho hmc (called_on hv (by omega)) (by rw [hv.2.2.2]; exact if_pos rfl) (by rw [hv.2.1 32 (by decide) (by decide)]) (by rw [hv.2.1 29 (by decide) (by decide)]) (hv.2.1 30 (by decide) (by decide)) vcf (tCl_on u T n c) (tCl_o (by omega)) rfl (tCl_o1 u T n c) (tCl_o2 u T n c) (tCl_i u T n c) ?_ (Or.inl rfl) (Or.inl e28) (Or.inl ⟨e28, rfl, by rw [vcf]; exact hno, ⟨dc, hdc, ?_⟩, l0, hl0, ?_⟩)
  · rw [tCl_o (by omega)]; exact hT.2.1.2.2.2.2.2.2.2.2.2.2.2.1
  · rw [tCl_o (by omega)]; exact hdc2
  · rw [tCl_j (by omega)]; exact hL 0 (by omega)
/-- a contract stands -/
theorem J.call_1 {u : cS} {r v w : rS} {nb nr t T B bd n b : Nat} {c : Int32} (hJ : J u r nb nr) (ht : t < 10) (hT : tJ u r nb t T B bd n 0) (h28 : r.2 28 t = nI 1) (ho : ovF (cf r t) n = false) (hmc : mcF (cf r t) n c = true) (hov : ovF (upd (cf r t) n c) (n + 1) = true) (hb : last ge3 (upd (cf r t) n c) (n + 1) = some b) (hv : calledP r v t n c) (w1 : w.1 = v.1) (w2 : ∀ a, a ≠ 28 → w.2 a = v.2 a) (w3 : w.2 28 = upd (v.2 28) t (nI 2)) : J (tPl (tCl u T n c) T (nI (dcN (upd (cf r t) n c) (bd % 4) b)) (stF (upd (cf r t) n c) b) (nI ((dcN (upd (cf r t) n c) (bd % 4) b + 1) % 4))) w nb nr := by
  have hn := hT.2.1.2.2.2.2.2.2.2.2.2.2.1
  have vcf := called_cf hv
  have wcf : cf w t = upd (cf r t) n c := by rw [← vcf]; unfold cf; rw [w2 33 (by decide)]
  have hvo := called_on hv (by omega)
  have e28 : w.2 28 t = nI 2 := by rw [w3]; exact if_pos rfl
  have hwo : onR r w t := by
    obtain ⟨o1, o2, o3, o4, o5, o6⟩ := hvo
    refine ⟨fun g hg => by rw [w1]; exact o1 g hg, fun a h1 h2 => by rw [w2 a (by omega)]; exact o2 a h1 h2, fun a ha z hz => ?_, fun z q1 q2 => by rw [w2 30 (by decide)]; exact o4 z q1 q2, fun z q => by rw [w2 33 (by decide)]; exact o5 z q, fun z q => by rw [w2 34 (by decide)]; exact o6 z q⟩
    by_cases e : a = 28
    · rw [e, w3]; show (if z = t then _ else v.2 28 z) = _; rw [if_neg hz]; exact o3 28 (by omega) z hz
    · rw [w2 a e]; exact o3 a ha z hz
  have hT1 := hT
  refine J.called hJ ht hT h28 ho hmc hwo (by rw [w2 31 (by decide), hv.2.2.2]; exact if_pos rfl) (by rw [w2 32 (by decide), hv.2.1 32 (by decide) (by decide)]) (by rw [w2 29 (by decide), hv.2.1 29 (by decide) (by decide)]) (by rw [w2 30 (by decide), hv.2.1 30 (by decide) (by decide)]) wcf (tPl_on (tCl_on u T n c) _ _ _) ?_ rfl ?_ ?_ ?_ tPl_2 (Or.inr (u2_s (tCl u T n c).rL (T + 3) 0 (lN 0))) (Or.inr e28) (Or.inr ⟨e28, by rw [wcf]; exact hov, b, by rw [wcf]; exact hb, ?_⟩)
  · rw [tPl_o (by omega), tCl_o (by omega)]
  · rw [tPl_o (by omega)]; exact tCl_o1 u T n c
  · rw [tPl_o (by omega)]; exact tCl_o2 u T n c
  · rw [tPl_i (by omega)]; exact tCl_i u T n c
  · refine ⟨by rw [tPl_4, wcf], by rw [tPl_5, wcf], by decide, fun j hj => ?_, fun i hi => absurd hi (by omega), fun x y hx => absurd hx (by omega), fun i hi => absurd hi (by omega)⟩
    have : j = 0 := by omega
    subst this
    rw [tPl_l, wcf]; rfl
/-- passed out: what stands before the result -/
theorem J.idle {u z : cS} {r v : rS} {nb nr t T B bd n m : Nat} (hJ : J u r nb nr) (ht : t < 10) (hT : tJ u r nb t T B bd n m) (hv : onR r v t) (hz : onT u z T) : J (upR z T 0 none) (v.1, rU v.2 28 t 0) nb nr ∧ nr + 1 + cnt (fun x => decide (¬ (rU v.2 28 t 0) 28 x = 0)) 10 ≤ 209 := by
  have hk := hT.2.1.tk
  have hr : onR r (v.1, rU v.2 28 t 0) t := by
    obtain ⟨o1, o2, o3, o4, o5, o6⟩ := hv
    refine ⟨o1, fun a h1 h2 => by show rU v.2 28 t 0 a = _; rw [rU_a (by omega)]; exact o2 a h1 h2, fun a ha z hz => ?_, fun z q1 q2 => by show rU v.2 28 t 0 30 z = _; rw [rU_a (by decide)]; exact o4 z q1 q2, fun z q => by show rU v.2 28 t 0 33 z = _; rw [rU_a (by decide)]; exact o5 z q, fun z q => by show rU v.2 28 t 0 34 z = _; rw [rU_a (by decide)]; exact o6 z q⟩
    show rU v.2 28 t 0 a z = _
    by_cases e : a = 28
    · rw [e, rU_k hz]; exact o3 28 (by omega) z hz
    · rw [rU_a e]; exact o3 a ha z hz
  have hc : nr + 1 + cnt (fun x => decide (¬ (rU v.2 28 t 0) 28 x = 0)) 10 ≤ 209 := by
    have h1 := hJ.hr.2.2
    have h2 := cnt_rm (p := fun x => decide (¬ r.2 28 x = 0)) (q := fun x => decide (¬ (rU v.2 28 t 0) 28 x = 0)) ht (decide_eq_true hT.ph) (fun x _ => by
      by_cases e : x = t
      · rw [if_pos e, e, rU_s]; rfl
      · rw [if_neg e, rU_k e, hv.2.2.1 28 (by omega) x e])
    omega
  refine ⟨J_tab hJ ht hT.1 hk (hz.R none ⟨Nat.le_refl _, by omega⟩) hr (by show nr + cnt (fun x => decide (¬ (rU v.2 28 t 0) 28 x = 0)) 10 ≤ 209; omega) (Or.inl ⟨rU_s v.2 28 t 0, Or.inr ⟨T, ?_, ?_, u2_s z.rR T 0 none⟩⟩), hc⟩
  · have n18 : 18 ≠ T := fun e => by have := hk.1; rw [← e, hJ.k.2.2.1] at this; exact absurd this (by decide)
    show u2 z.rR T 0 none 18 t = _
    rw [u2_a _ _ n18, (hz.2.2 18 (hk.ne hJ.k.2.2.1 (by decide))).2.2.2.2]; exact hT.1
  · exact tK_fr hk (fun a _ _ => by show z.kd a = _; rw [hz.1])
/-- ended, seen from the idle table -/
theorem ended_addM {v w : rS} {t nr : Nat} {R : Nat → Int32} (h : ended v w t nr R) : addM (v.1, rU v.2 28 t 0) w nr R := by
  obtain ⟨h1, h2, h3, h4, h5, h6, h7, h8, h9⟩ := h
  refine ⟨h2 0 (by decide), h2 22 (by decide), h1, fun a ha z => ?_, fun a ha => ⟨(h6 a ha).1, fun z hz => ?_⟩, h7, h8, fun z q1 q2 => ?_⟩
  · show _ = rU v.2 28 t 0 a z
    by_cases e : a = 28
    · rw [e]
      by_cases e2 : z = t
      · rw [e2, rU_s]; exact h3
      · rw [rU_k e2]; exact h4 z e2
    · rw [rU_a e, h5 a e ha]
  · show _ = rU v.2 28 t 0 a z
    rw [rU_a (by omega)]; exact (h6 a ha).2 z hz
  · show _ = rU v.2 28 t 0 36 z
    rw [rU_a (by decide)]; exact h9 z q1 q2
