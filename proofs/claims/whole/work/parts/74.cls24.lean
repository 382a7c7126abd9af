/-! ===== the club beside the reference: deal, begin ===== -/
theorem onG.rf (u : cS) (a : Nat) : onG u u a := ⟨rfl, rfl, rfl, rfl, rfl, fun _ _ => rfl⟩
set_option maxRecDepth 20000 in
theorem j_deal {pr : aC} {d : Nat} {u : cS} {r : rS} {nb nr : Nat} (hJ : J u r nb nr) (seed : Int32) {Q : Option Value → cS → Prop} (hF : nb = 36 → Q (some (.int (-1))) u) (hQ : nb < 36 → ∀ z, (∀ u1 r', dealt r u1 nb (rwN seed 51) 52 → r'.1 = upd r.1 0 (nI (nb + 1)) → r'.2 = rU u1.2 27 nb 0 → J z r' (nb + 1) nr) → Q (some (.int (nI (nb + 1)))) z) : gR CF cFr (aRun pg pr (d + 2 + 1)) 108 [.ref 16, .int seed] u 2 8 Q := by
  refine gR_of mi_108 cFr_rf rfl (Nat.le_of_ble_eq_true rfl) ?_
  show gB CF cFr (aRun pg pr (d + 2)) cd_108 2 8 (Option.some Jvm.ClassFile.FieldType.int) Q 0 [some (.ref 16), some (.int seed), none, none] [] u 0 0
  have hnr2 := hJ.nr
  obtain ⟨hnr, hr1, _⟩ := hJ.hr
  obtain ⟨hnb, hnb2, hr0⟩ := hJ.hb
  have hk0 := hJ.k
  obtain ⟨k16, k17, k18, k19, k20, k21, k22, k23, k24⟩ := hJ.k
  have h50 := hJ.a.1.1
  refine g_load rfl rfl rfl trivial ?_
  refine c_getf rfl (by assumption) (by decide) (by rfl) (by rfl) ?_
  refine g_load rfl rfl rfl trivial ?_
  refine c_getf rfl (by assumption) (by decide) (by rfl) (by rfl) ?_
  refine c_len rfl (by assumption) (by decide) (by rfl) (by decide) ?_
  rw [hnb]
  refine g_icmp_lt rfl (fun c1 => ?_) (fun c1 => ?_)
  · rw [nI_ltI (by omega) (by omega)] at c1
    have hQ := hQ c1
    refine g_load rfl rfl rfl trivial ?_
    refine g_load rfl rfl rfl trivial ?_
    refine g_virtV (a := 16) (ci := 7) (n := 1) [.int seed] cFr_tr rfl rfl (by decide) rfl (c_ob k16 (by decide) (by rfl)) rfl (Nat.le_of_ble_eq_true rfl) (Nat.le_of_ble_eq_true rfl) (Nat.le_of_ble_eq_true rfl) (w_shuffle seed k16 k20 (fun v P hpk => ⟨rfl, ?_⟩))
    have tpv : v.tp = u.tp := P.2.2.2.2.1
    have kv : ∀ a, v.kd a = u.kd a := fun a => by rw [P.1]
    have m16 : (mkO v 21).kd 16 = 10 := (mk_n (by omega)).trans ((kv 16).trans k16)
    have n16 : (mkO v 21).oI 16 1 = nI nb := by rw [mk_O (by omega), P.2.1]; exact hnb
    refine c_new 21 rfl (Or.inr (by omega)) (Nat.le_of_ble_eq_true rfl) (Nat.le_of_ble_eq_true rfl) (by simp [cCell, mkO, aDef, aCls, vwCl, cS.oI, cS.rR, cS.tp]; rfl) ?_
    refine g_dup rfl rfl ?_
    refine g_load rfl rfl rfl trivial ?_
    refine c_getf rfl (κ := 10) m16 (by decide) (by rfl) (by rfl) ?_
    rw [n16]
    refine g_iconst (nI 1) rfl (by decide) ?_
    refine g_iadd rfl ?_
    rw [nI_add]
    refine g_special (n := 1) [.int (nI (nb + 1))] 1 4 cFr_tr rfl (by decide) (by decide) rfl rfl (Nat.le_of_ble_eq_true rfl) (Nat.le_of_ble_eq_true rfl) (Nat.le_of_ble_eq_true rfl) (w_boardInit v.tp (nI (nb + 1)) (mk_s v 21) (by show v.tp < v.tp + 1; omega) (Or.inr (by show 50 ≤ v.tp + 1; omega)) ?_)
    refine c_view (fun h => bN_view) ?_
    have z16 : (bN v (nI (nb + 1))).kd 16 = 10 := by
      show (if 16 = v.tp then 1 else if 16 = v.tp + 1 then 2 else v.kd 16) = _
      rw [if_neg (by omega), if_neg (by omega), kv]; exact k16
    have z17 : (bN v (nI (nb + 1))).kd 17 = 11 := by
      show (if 17 = v.tp then 1 else if 17 = v.tp + 1 then 2 else v.kd 17) = _
      rw [if_neg (by omega), if_neg (by omega), kv]; exact k17
    have z20 : (bN v (nI (nb + 1))).kd 20 = 7 := by
      show (if 20 = v.tp then 1 else if 20 = v.tp + 1 then 2 else v.kd 20) = _
      rw [if_neg (by omega), if_neg (by omega), kv]; exact k20
    have zB : (bN v (nI (nb + 1))).kd v.tp = 1 := if_pos rfl
    have zB1 : (bN v (nI (nb + 1))).kd (v.tp + 1) = 2 := by
      show (if v.tp + 1 = v.tp then 1 else if v.tp + 1 = v.tp + 1 then 2 else _) = _
      rw [if_neg (by omega), if_pos rfl]
    have zo : (bN v (nI (nb + 1))).oI 16 1 = nI nb := by
      show (if 16 = v.tp then _ else if 16 = v.tp + 1 then _ else v.oI 16) 1 = _
      rw [if_neg (by omega), if_neg (by omega), P.2.1]; exact hnb
    have zp : ∀ k, k < 52 → (bN v (nI (nb + 1))).rI 20 k = rwN seed 51 k := fun k hk => by
      show (if 20 = v.tp ∨ 20 = v.tp + 1 then _ else v.rI 20) k = _
      rw [if_neg (by omega)]; exact hpk k hk
    have zl : ∀ s, s < 4 → (bN v (nI (nb + 1))).rL (v.tp + 1) s = 0 := fun s _ => by
      show (if v.tp + 1 = v.tp ∨ v.tp + 1 = v.tp + 1 then (fun _ => (0 : Int64)) else _) s = _
      rw [if_pos (Or.inr rfl)]
    refine g_store [some (.ref 16), some (.int seed), some (.ref v.tp), none] rfl rfl trivial (Nat.le_of_ble_eq_true rfl) rfl ?_
    refine g_iconst (nI 0) rfl (by decide) ?_
    refine g_store [some (.ref 16), some (.int seed), some (.ref v.tp), some (.int (nI 0))] rfl rfl trivial (Nat.le_of_ble_eq_true rfl) rfl ?_
    refine w_deal_l _ _ _ _ (Nat.le_of_ble_eq_true rfl) (Nat.le_of_ble_eq_true rfl) seed v.tp (rwN seed 51) (rowOk_N seed 51 (by decide)) z16 z20 zB zB1 zp (fun w G hD => ?_) 53 0 _ (onG.rf _ _) (dlJ_0 zl) (by omega) (by omega)
    refine g_load rfl rfl rfl trivial ?_
    refine c_getf rfl (κ := 10) (by rw [G.1]; exact z16) (by decide) (by rfl) (by rfl) ?_
    refine g_load rfl rfl rfl trivial ?_
    refine c_getf rfl (κ := 10) (by rw [G.1]; exact z16) (by decide) (by rfl) (by rfl) ?_
    rw [show w.oI 16 1 = nI nb by rw [G.2.1]; exact zo]
    refine g_load rfl rfl rfl trivial ?_
    refine c_aas nb rfl (κ := 11) (by rw [G.1]; exact z17) (by decide) (by rfl) ⟨by decide, by decide⟩ rfl (by omega) (by decide) (κ' := 1) (by rw [G.1]; exact zB) (by decide) (by rfl) rfl rfl (by rfl) ?_
    refine g_load rfl rfl rfl trivial ?_
    refine g_dup rfl rfl ?_
    refine c_getf rfl (κ := 10) (by show w.kd 16 = 10; rw [G.1]; exact z16) (by decide) (by rfl) (by rfl) ?_
    rw [show (upR w 17 nb (some v.tp)).oI 16 1 = nI nb by show w.oI 16 1 = _; rw [G.2.1]; exact zo]
    refine g_iconst (nI 1) rfl (by decide) ?_
    refine g_iadd rfl ?_
    rw [nI_add]
    refine c_puti rfl (κ := 10) (by exact (show w.kd 16 = 10 by rw [G.1]; exact z16)) (by decide) (by rfl) (Nat.le_of_ble_eq_true rfl) ⟨_, _, rfl, rfl, rfl, rfl⟩ (by simp [cCell, upO, u2, cS.kd, cS.oI, cS.rI, cS.rL, cS.rR, cS.tp]) ?_
    refine g_load rfl rfl rfl trivial ?_
    refine c_getf rfl (κ := 10) (by show w.kd 16 = 10; rw [G.1]; exact z16) (by decide) (by rfl) (by rfl) ?_
    rw [show (upO (upR w 17 nb (some v.tp)) 16 1 (nI (nb + 1))).oI 16 1 = nI (nb + 1) from u2_s w.oI 16 1 _]
    have hQ := hQ _ (fun u1 r' e1 e2 e3 => J.deal hJ c1 P G hD e1 e2 e3)
    refine g_vret rfl trivial ⟨rfl, rfl⟩ (Nat.le_of_ble_eq_true rfl) (Nat.le_of_ble_eq_true rfl) ?_
    exact hQ
  · rw [nI_ltI (by omega) (by omega)] at c1
    have hQ := hF (by omega)
    refine g_iconst (-1) rfl (by decide) ?_
    refine g_vret rfl trivial ⟨rfl, rfl⟩ (Nat.le_of_ble_eq_true rfl) (Nat.le_of_ble_eq_true rfl) ?_
    exact hQ
