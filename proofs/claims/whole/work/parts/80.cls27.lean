/-! ===== the club beside the reference: call ===== -/
theorem cl_iff {u : cS} {r : rS} {nb t T B bd n m : Nat} (h : tJ u r nb t T B bd n m) (ht : t < 10) (c : Int32) : (!(ovF (u.rI (T + 1 + 1)) n) && amF (u.rI (T + 1 + 1)) n c) = true ↔ clOk r (nI t) c := by
  unfold clOk
  rw [ph_in ht, nI_clamp (by omega), h.eN, h.ov, amF_cg h.2.2.2.2.2.2.2.2.1]
  rcases h.2.2.2.2.2.2.2.2.2.2.2.2.2.2 with ⟨h1, _, h3, _⟩ | ⟨h1, h3, _⟩
  · rw [h1, h3, h.2.2.2.2.2.2.2.2.2.2.2.1.am h3]; simp
  · rw [h1, h3]
    constructor
    · intro z; simp at z
    · rintro ⟨z, _⟩; exact absurd z (by decide)
theorem cl_1 {u : cS} {r : rS} {nb t T B bd n m : Nat} (h : tJ u r nb t T B bd n m) (ht : t < 10) {c : Int32} (hc : clOk r (nI t) c) : r.2 28 t = nI 1 ∧ m = 0 ∧ ovF (cf r t) n = false ∧ mcF (cf r t) n c = true := by
  unfold clOk at hc
  rw [ph_in ht, nI_clamp (by omega), h.eN] at hc
  rcases h.2.2.2.2.2.2.2.2.2.2.2.2.2.2 with ⟨h1, h2, h3, _⟩ | ⟨h1, _⟩
  · exact ⟨h1, h2, h3, hc.2⟩
  · rw [h1] at hc; exact absurd hc.1 (by decide)
theorem onT.B {u v : cS} {T B n m : Nat} (h : onT u v T) (hT : tB u T B n m) : agr u v B ∧ agr u v (B + 1) :=
  ⟨h.2.2 B (hT.tk.ne hT.2.2.2.2.2.2.1 (by decide)), h.2.2 _ (hT.tk.ne hT.2.2.2.2.2.2.2.1 (by decide))⟩
/-- the record of a board that was passed out -/
theorem rec0_ok {u z : cS} {r v w : rS} {nb nr t T B bd n : Nat} {x : cS} (hJ : J u r nb nr) (ht : t < 10) (hT : tJ u r nb t T B bd n 0) (hv : onR r v t) (v29 : v.2 29 t = r.2 29 t) (v30 : v.2 30 = r.2 30) (hx : onT u x T) (x0 : x.oI T = u.oI T) (hz : addC (upR x T 0 none) z B nr (rs0 (x.oI B 0) (x.oI T 1) (x.oI T 2))) (hw : ended v w t nr (rec0 v t (-1))) : J z w nb (nr + 1) := by
  obtain ⟨hJ1, hc⟩ := J.idle hJ ht hT hv hx
  have hbd := hT.2.2.1
  obtain ⟨B', hB'⟩ := hJ1.bd hbd
  have hk := hT.2.1.tk
  have e : B' = B := by
    have h9 := hB'.1
    have n17 : 17 ≠ T := fun e => by have := hk.1; rw [← e, hJ.k.2.1] at this; exact absurd this (by decide)
    have h10 : (upR x T 0 none).rR 17 bd = u.rR 17 bd := by
      show u2 x.rR T 0 none 17 bd = _
      rw [u2_a _ _ n17, (hx.2.2 17 (hk.ne hJ.k.2.1 (by decide))).2.2.2.2]
    rw [h10, hT.2.2.2.1] at h9
    exact (Option.some.inj h9).symm
  subst e
  have hB0 : x.oI B' 0 = nI (bd + 1) := hB'.2.2.2.1
  obtain ⟨h6, h7, h8⟩ := hT.2.2.2.2.2.1
  refine J.addRes hJ1 hbd hB' hz (ended_addM hw) hc ?_ rfl ?_ ?_ ?_ ?_ rfl rfl rfl rfl rfl rfl rfl (Or.inl rfl)
  · show v.2 29 t = _; rw [v29]; exact hT.2.2.2.2.1
  · show ¬ v.2 30 (2 * t) = v.2 30 (2 * t + 1); rw [v30]; exact h8
  · show x.oI B' 0 = v.2 29 t; rw [hB0, v29]; exact hT.2.2.2.2.1.symm
  · show x.oI T 1 = v.2 30 (2 * t); rw [x0, v30]; exact h6
  · show x.oI T 2 = v.2 30 (2 * t + 1); rw [x0, v30]; exact h7
set_option maxRecDepth 20000 in
theorem j_call {pr : aC} {d : Nat} {u : cS} {r : rS} {nb nr : Nat} (hJ : J u r nb nr) (t c : Int32) {Q : Option Value → cS → Prop} (hF : ¬ clOk r t c → Q (some (.int (-1))) u) (hQ : ∀ t0, t0 < 10 → t = nI t0 → clOk r t c → (∀ z, last nz (upd (cf r t0) (nC r t0) c) (nC r t0 + 1) = none → nC r t0 = 3 → (∀ v w, calledP r v t0 (nC r t0) c → ended v w t0 nr (rec0 v t0 (-1)) → J z w nb (nr + 1)) → Q (some (.int 2)) z) ∧ (∀ z i, last nz (upd (cf r t0) (nC r t0) c) (nC r t0 + 1) = some i → nC r t0 - i = 3 → (∀ v w : rS, calledP r v t0 (nC r t0) c → w.1 = v.1 → (∀ a, a ≠ 28 → w.2 a = v.2 a) → w.2 28 = upd (v.2 28) t0 (nI 2) → J z w nb nr) → Q (some (.int 1)) z) ∧ (∀ z, (¬ (last nz (upd (cf r t0) (nC r t0) c) (nC r t0 + 1) = none ∧ nC r t0 = 3)) → (∀ i, last nz (upd (cf r t0) (nC r t0) c) (nC r t0 + 1) = some i → ¬ nC r t0 - i = 3) → (∀ v, calledP r v t0 (nC r t0) c → J z v nb nr) → Q (some (.int 0)) z)) : gR CF cFr (aRun pg pr (d + 6 + 1)) 113 [.ref 16, .int t, .int c] u 1 12 Q := by
  refine gR_of mi_113 cFr_rf rfl (Nat.le_of_ble_eq_true rfl) ?_
  show gB CF cFr (aRun pg pr (d + 6)) cd_113 1 12 (Option.some Jvm.ClassFile.FieldType.int) Q 0 [some (.ref 16), some (.int t), some (.int c), none] [] u 0 0
  have hnr2 := hJ.nr
  obtain ⟨hnr, hr1, _⟩ := hJ.hr
  obtain ⟨hnb, hnb2, hr0⟩ := hJ.hb
  have hk0 := hJ.k
  obtain ⟨k16, k17, k18, k19, k20, k21, k22, k23, k24⟩ := hJ.k
  refine g_load rfl rfl rfl trivial ?_
  refine g_load rfl rfl rfl trivial ?_
  rcases hJ.bz t with ⟨hph, hid⟩ | ⟨t0, T, B, bd, n, m, ht0, rfl, hT⟩
  · refine g_virtI (a := 16) (ci := 7) (n := 1) [.int t] cFr_tr rfl rfl (by decide) rfl (c_ob (κ := 10) k16 (by decide) (by rfl)) rfl (Nat.le_of_ble_eq_true rfl) (Nat.le_of_ble_eq_true rfl) (Nat.le_of_ble_eq_true rfl) (c_lift cFr_rf (fun _ h => h) (c_busy_x hk0 t hid ⟨_, rfl, ?_⟩))
    refine g_store [some (.ref 16), some (.int t), some (.int c), some (.null)] rfl rfl trivial (Nat.le_of_ble_eq_true rfl) rfl ?_
    have hQ := hF (fun z => by have := z.1; rw [hph] at this; exact absurd this (by decide))
    refine g_load rfl rfl rfl trivial ?_
    refine g_ifnull_n rfl ?_
    refine g_iconst (-1) rfl (by decide) ?_
    refine g_vret rfl trivial ⟨rfl, rfl⟩ (Nat.le_of_ble_eq_true rfl) (Nat.le_of_ble_eq_true rfl) ?_
    exact hQ
  have hTB := hT.2.1
  have kT := hTB.1
  refine g_virtI (a := 16) (ci := 7) (n := 1) [.int (nI t0)] cFr_tr rfl rfl (by decide) rfl (c_ob (κ := 10) k16 (by decide) (by rfl)) rfl (Nat.le_of_ble_eq_true rfl) (Nat.le_of_ble_eq_true rfl) (Nat.le_of_ble_eq_true rfl) (c_lift cFr_rf (fun _ h => h) (c_busy hk0 t0 T B n m ht0 hT.1 hTB ⟨_, rfl, ?_⟩))
  refine g_store [some (.ref 16), some (.int (nI t0)), some (.int c), some (.ref T)] rfl rfl trivial (Nat.le_of_ble_eq_true rfl) rfl ?_
  refine g_load rfl rfl rfl trivial ?_
  refine g_ifnull_r rfl ?_
  refine g_load rfl rfl rfl trivial ?_
  refine g_load rfl rfl rfl trivial ?_
  refine g_virtI (a := T) (ci := 6) (n := 1) [.int c] cFr_tr rfl rfl (by decide) rfl (c_ob (κ := 3) kT (by decide) (by rfl)) rfl (Nat.le_of_ble_eq_true rfl) (Nat.le_of_ble_eq_true rfl) (Nat.le_of_ble_eq_true rfl) (c_lift cFr_rf (fun _ h => h) (c_admitsCall T B n m hTB c ⟨_, rfl, ?_⟩))
  refine g_if_ne rfl (fun c1 => ?_) (fun c1 => ?_)
  · rw [bI_ne, cl_iff hT ht0] at c1
    have hcl := c1
    refine g_load rfl rfl rfl trivial ?_
    refine g_load rfl rfl rfl trivial ?_
    obtain ⟨h28, hm0, ho, hmc⟩ := cl_1 hT ht0 hcl
    subst hm0
    have eN := hT.eN
    have hau := hT.2.2.2.2.2.2.2.2.2.2.2.1
    have h318 := hau.le318 ho
    have hau1 := hau.snoc ho hmc
    have hfx : ∀ i, i < n + 1 → upd (u.rI (T + 1 + 1)) n c i = upd (cf r t0) n c i := fun i hi => by
      unfold upd
      by_cases e : i = n
      · rw [if_pos e, if_pos e]
      · rw [if_neg e, if_neg e]; exact hT.2.2.2.2.2.2.2.2.1 i (by omega)
    obtain ⟨hQ2, hQ1, hQ0⟩ := hQ t0 ht0 rfl hcl
    rw [eN] at hQ2 hQ1 hQ0
    refine g_virtV (a := T) (ci := 6) (n := 1) [.int c] cFr_tr rfl rfl (by decide) rfl (c_ob (κ := 3) kT (by decide) (by rfl)) rfl (Nat.le_of_ble_eq_true rfl) (Nat.le_of_ble_eq_true rfl) (Nat.le_of_ble_eq_true rfl) (w_addCall T B n 0 hTB c (by omega) (bd % 4) hT.2.2.2.2.2.2.2.2.2.2.1 (Nat.mod_lt _ (by decide)) (fun i hi => by rw [hfx i hi]; exact hau1.in hi) (fun hov => ⟨rfl, ?_⟩) (fun hov hlb => ⟨rfl, ?_⟩) (fun hov b hlb => ⟨rfl, ?_⟩))
    · have hz : onT u (tCl u T n c) T := tCl_on u T n c
      have kZ : ((tCl u T n c)).kd T = 3 := by rw [hz.1]; exact kT
      have tZ : tB (tCl u T n c) T B (n + 1) 0 := ⟨kZ, by rw [hz.1]; exact hTB.2.1, by rw [hz.1]; exact hTB.2.2.1, by rw [hz.1]; exact hTB.2.2.2.1, by rw [hz.1]; exact hTB.2.2.2.2.1, by rw [hz.1]; exact hTB.2.2.2.2.2.1, by rw [hz.1]; exact hTB.2.2.2.2.2.2.1, by rw [hz.1]; exact hTB.2.2.2.2.2.2.2.1, hTB.2.2.2.2.2.2.2.2.1, tCl_o1 u T n c, by omega, (by rw [tCl_o (by omega)]; exact hTB.2.2.2.2.2.2.2.2.2.2.2.1), by omega⟩
      have fZ : ((tCl u T n c)).rI (T + 1 + 1) = upd (u.rI (T + 1 + 1)) n c := tCl_i u T n c
      refine g_load rfl rfl rfl trivial ?_
      refine g_virtI (a := T) (ci := 6) (n := 0) [] cFr_tr rfl rfl (by decide) rfl (c_ob (κ := 3) kZ (by decide) (by rfl)) rfl (Nat.le_of_ble_eq_true rfl) (Nat.le_of_ble_eq_true rfl) (Nat.le_of_ble_eq_true rfl) (c_lift cFr_rf (fun _ h => h) (c_aover T B (n + 1) 0 tZ ⟨_, rfl, ?_⟩))
      rw [fZ, hov]
      refine g_if_ne rfl (fun c9 => absurd rfl c9) (fun _ => ?_)
      rw [ovF_congr hfx] at hov
      have hov2 : ¬ ovF (upd (cf r t0) n c) (n + 1) = true := by rw [hov]; decide
      rw [hau1.ov] at hov2
      have hQ := hQ0 _ (fun z => hov2 (Or.inl z)) (fun i z1 z2 => hov2 (Or.inr ⟨i, z1, z2⟩)) (fun v hv => J.call_0 hJ ht0 hT h28 ho hmc hov hv)
      refine g_iconst (nI 0) rfl (by decide) ?_
      exact g_vret rfl trivial ⟨rfl, rfl⟩ (Nat.le_of_ble_eq_true rfl) (Nat.le_of_ble_eq_true rfl) hQ
    · have hz : onT u (tPl (tCl u T n c) T (-1) (-1) 0) T := tPl_on (tCl_on u T n c) _ _ _
      have kZ : ((tPl (tCl u T n c) T (-1) (-1) 0)).kd T = 3 := by rw [hz.1]; exact kT
      have tZ : tB (tPl (tCl u T n c) T (-1) (-1) 0) T B (n + 1) 0 := ⟨kZ, by rw [hz.1]; exact hTB.2.1, by rw [hz.1]; exact hTB.2.2.1, by rw [hz.1]; exact hTB.2.2.2.1, by rw [hz.1]; exact hTB.2.2.2.2.1, by rw [hz.1]; exact hTB.2.2.2.2.2.1, by rw [hz.1]; exact hTB.2.2.2.2.2.2.1, by rw [hz.1]; exact hTB.2.2.2.2.2.2.2.1, hTB.2.2.2.2.2.2.2.2.1, (by rw [tPl_o (by omega)]; exact tCl_o1 u T n c), by omega, tPl_2, by omega⟩
      have fZ : ((tPl (tCl u T n c) T (-1) (-1) 0)).rI (T + 1 + 1) = upd (u.rI (T + 1 + 1)) n c := (by rw [tPl_i (by omega)]; exact tCl_i u T n c)
      refine g_load rfl rfl rfl trivial ?_
      refine g_virtI (a := T) (ci := 6) (n := 0) [] cFr_tr rfl rfl (by decide) rfl (c_ob (κ := 3) kZ (by decide) (by rfl)) rfl (Nat.le_of_ble_eq_true rfl) (Nat.le_of_ble_eq_true rfl) (Nat.le_of_ble_eq_true rfl) (c_lift cFr_rf (fun _ h => h) (c_aover T B (n + 1) 0 tZ ⟨_, rfl, ?_⟩))
      rw [fZ, hov]
      refine g_if_ne rfl (fun _ => ?_) (fun c9 => absurd c9 (show ¬ bI true = 0 by decide))
      refine g_load rfl rfl rfl trivial ?_
      refine g_virtI (a := T) (ci := 6) (n := 0) [] cFr_tr rfl rfl (by decide) rfl (c_ob (κ := 3) kZ (by decide) (by rfl)) rfl (Nat.le_of_ble_eq_true rfl) (Nat.le_of_ble_eq_true rfl) (Nat.le_of_ble_eq_true rfl) (c_lift cFr_rf (fun _ h => h) (c_hasContract T B (n + 1) 0 tZ ⟨_, rfl, ?_⟩))
      rw [fZ, hlb]
      refine g_if_eq rfl (fun _ => ?_) (fun c9 => absurd rfl c9)
      rw [ovF_congr hfx, hau1.ov] at hov
      rw [last_cg hfx] at hlb
      have hnz := hau1.g3.mpr hlb
      have hn3 : n = 3 := by
        rcases hov with z | ⟨i, z, _⟩
        · exact z.2
        · rw [hnz] at z; cases z
      have aZ := hz.B hTB
      have a16 : agr u (tPl (tCl u T n c) T (-1) (-1) 0) 16 := hz.2.2 16 (hTB.tk.ne k16 (by decide))
      have a17 : agr u (tPl (tCl u T n c) T (-1) (-1) 0) 17 := hz.2.2 17 (hTB.tk.ne k17 (by decide))
      refine g_load rfl rfl rfl trivial ?_
      refine g_load rfl rfl rfl trivial ?_
      refine g_iconst (nI 0) rfl (by decide) ?_
      refine g_virtual (a := 16) (ci := 7) (n := 2) [.ref T, .int (nI 0)] 1 12 cFr_tr rfl rfl (by decide) rfl (c_ob (κ := 10) (by rw [hz.1]; exact k16) (by decide) (by rfl)) rfl (Nat.le_of_ble_eq_true rfl) (Nat.le_of_ble_eq_true rfl) (Nat.le_of_ble_eq_true rfl) (w_finish (d := d) (by unfold kJ; rw [hz.1]; exact hk0) nb nr T B bd (n + 1) 0 (by rw [a16.2.1]; exact hnb) hnb2 (by rw [a16.2.1]; exact hnr) (by omega) tZ hT.2.2.1 (by rw [a17.2.2.2.2]; exact hT.2.2.2.1) (by rw [aZ.1.2.1]; exact (hJ.bo hT).2.2.2.1) (by rw [hz.1, hz.2.1]; exact hJ.a.1.2) (by rw [hz.2.1]; exact hJ.a.1.1) (nI 0) _ (fun Q' hQ' => w_toResult_n (d := d + 1) T B (n + 1) 0 tZ (nI 0) (by rw [hz.1, hz.2.1]; exact hJ.a.1.2) (by rw [hz.2.1]; exact hJ.a.1.1) (by rw [fZ, last_cg hfx]; exact hlb) hQ') (fun z hadd => ?_))
      have x0 : (tPl (tCl u T n c) T (-1) (-1) 0).oI T = u.oI T := by rw [tPl_o (by omega), tCl_o (by omega)]
      have hQ := hQ2 z hnz hn3 (fun v w hv hw => rec0_ok hJ ht0 hT (called_on hv (by omega)) (by rw [hv.2.1 29 (by decide) (by decide)]) (hv.2.1 30 (by decide) (by decide)) hz x0 hadd hw)
      refine g_iconst (nI 2) rfl (by decide) ?_
      exact g_vret rfl trivial ⟨rfl, rfl⟩ (Nat.le_of_ble_eq_true rfl) (Nat.le_of_ble_eq_true rfl) hQ
    · have hz : onT u (tPl (tCl u T n c) T (nI (dcN (upd (u.rI (T + 1 + 1)) n c) (bd % 4) b)) (stF (upd (u.rI (T + 1 + 1)) n c) b) (nI ((dcN (upd (u.rI (T + 1 + 1)) n c) (bd % 4) b + 1) % 4))) T := tPl_on (tCl_on u T n c) _ _ _
      have kZ : ((tPl (tCl u T n c) T (nI (dcN (upd (u.rI (T + 1 + 1)) n c) (bd % 4) b)) (stF (upd (u.rI (T + 1 + 1)) n c) b) (nI ((dcN (upd (u.rI (T + 1 + 1)) n c) (bd % 4) b + 1) % 4)))).kd T = 3 := by rw [hz.1]; exact kT
      have tZ : tB (tPl (tCl u T n c) T (nI (dcN (upd (u.rI (T + 1 + 1)) n c) (bd % 4) b)) (stF (upd (u.rI (T + 1 + 1)) n c) b) (nI ((dcN (upd (u.rI (T + 1 + 1)) n c) (bd % 4) b + 1) % 4))) T B (n + 1) 0 := ⟨kZ, by rw [hz.1]; exact hTB.2.1, by rw [hz.1]; exact hTB.2.2.1, by rw [hz.1]; exact hTB.2.2.2.1, by rw [hz.1]; exact hTB.2.2.2.2.1, by rw [hz.1]; exact hTB.2.2.2.2.2.1, by rw [hz.1]; exact hTB.2.2.2.2.2.2.1, by rw [hz.1]; exact hTB.2.2.2.2.2.2.2.1, hTB.2.2.2.2.2.2.2.2.1, (by rw [tPl_o (by omega)]; exact tCl_o1 u T n c), by omega, tPl_2, by omega⟩
      have fZ : ((tPl (tCl u T n c) T (nI (dcN (upd (u.rI (T + 1 + 1)) n c) (bd % 4) b)) (stF (upd (u.rI (T + 1 + 1)) n c) b) (nI ((dcN (upd (u.rI (T + 1 + 1)) n c) (bd % 4) b + 1) % 4)))).rI (T + 1 + 1) = upd (u.rI (T + 1 + 1)) n c := (by rw [tPl_i (by omega)]; exact tCl_i u T n c)
      refine g_load rfl rfl rfl trivial ?_
      refine g_virtI (a := T) (ci := 6) (n := 0) [] cFr_tr rfl rfl (by decide) rfl (c_ob (κ := 3) kZ (by decide) (by rfl)) rfl (Nat.le_of_ble_eq_true rfl) (Nat.le_of_ble_eq_true rfl) (Nat.le_of_ble_eq_true rfl) (c_lift cFr_rf (fun _ h => h) (c_aover T B (n + 1) 0 tZ ⟨_, rfl, ?_⟩))
      rw [fZ, hov]
      refine g_if_ne rfl (fun _ => ?_) (fun c9 => absurd c9 (show ¬ bI true = 0 by decide))
      refine g_load rfl rfl rfl trivial ?_
      refine g_virtI (a := T) (ci := 6) (n := 0) [] cFr_tr rfl rfl (by decide) rfl (c_ob (κ := 3) kZ (by decide) (by rfl)) rfl (Nat.le_of_ble_eq_true rfl) (Nat.le_of_ble_eq_true rfl) (Nat.le_of_ble_eq_true rfl) (c_lift cFr_rf (fun _ h => h) (c_hasContract T B (n + 1) 0 tZ ⟨_, rfl, ?_⟩))
      rw [fZ, hlb]
      refine g_if_eq rfl (fun c9 => absurd c9 (show ¬ bI true = 0 by decide)) (fun _ => ?_)
      rw [ovF_congr hfx] at hov
      rw [last_cg hfx] at hlb
      have hov2 := hau1.ov.mp hov
      have hbn := (last_lt hlb).1
      obtain ⟨i, hi1, hi2⟩ : ∃ i, last nz (upd (cf r t0) n c) (n + 1) = some i ∧ n - i = 3 := by
        rcases hov2 with z | z
        · rw [hau1.g3.mp z.1] at hlb; cases hlb
        · exact z
      rw [dcN_cg hfx hbn, stF_cg hfx hbn]
      have hQ := hQ1 _ i hi1 hi2 (fun v w hv w1 w2 w3 => J.call_1 hJ ht0 hT h28 ho hmc hov hlb hv w1 w2 w3)
      refine g_iconst (nI 1) rfl (by decide) ?_
      exact g_vret rfl trivial ⟨rfl, rfl⟩ (Nat.le_of_ble_eq_true rfl) (Nat.le_of_ble_eq_true rfl) hQ
  · rw [bI_eq] at c1
    have hQ := hF (fun z => by rw [(cl_iff hT ht0 c).mpr z] at c1; cases c1)
    refine g_iconst (-1) rfl (by decide) ?_
    refine g_vret rfl trivial ⟨rfl, rfl⟩ (Nat.le_of_ble_eq_true rfl) (Nat.le_of_ble_eq_true rfl) ?_
    exact hQ
