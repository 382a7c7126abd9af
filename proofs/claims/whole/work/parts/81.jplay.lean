/-! ===== play, claim: the joint invariant is kept ===== -/
theorem played_gf {r v : rS} {t m : Nat} {c : Int32} (h : playedP r v t m c) : gf v t = upd (gf r t) m c := by
  funext i
  unfold gf
  rw [h.2.2.2.2.1]
  unfold upd
  by_cases e : i = m
  · rw [if_pos e, if_pos (by omega)]
  · rw [if_neg e, if_neg (by omega)]
theorem played_cf {r v : rS} {t m : Nat} {c : Int32} (h : playedP r v t m c) : cf v t = cf r t := by
  unfold cf; rw [h.2.2.2.1 33 (by decide) (by decide) (by decide)]
theorem played_on {r v : rS} {t m : Nat} {c : Int32} (h : playedP r v t m c) (hm : m < 52) : onR r v t := by
  obtain ⟨h1, h2, h3, h4, h5, h6⟩ := h
  refine ⟨fun g hg => ?_, fun a ha hb => h4 a ha (by omega) (by omega), fun a ha z hz => ?_, fun z _ _ => by rw [h4 30 (by decide) (by decide) (by decide)], fun z _ => by rw [h4 33 (by decide) (by decide) (by decide)], fun z hz => ?_⟩
  · rcases hg with e | e | e
    · rw [e]; exact h1
    · rw [e]; exact h2
    · rw [e]; exact h3
  · rcases ha with e | e | e | e
    · rw [e, h4 28 (by decide) (by decide) (by decide)]
    · rw [e, h4 29 (by decide) (by decide) (by decide)]
    · rw [e, h4 31 (by decide) (by decide) (by decide)]
    · rw [e, h6]; exact if_neg hz
  · rw [h5]; exact if_neg (by omega)
/-- what a card that may be played is -/
theorem mp_of {u : cS} {r : rS} {nb nr t T B bd n m b : Nat} {c : Int32} (hJ : J u r nb nr) (hT : tJ u r nb t T B bd n m) (h : mpF r t m (seatF r t b bd m) c = true) : ∃ c0, c0 < 52 ∧ c = nI c0 ∧ r.2 26 (52 * bd + c0) = nI (seatF r t b bd m) ∧ ∀ k, k < m → ¬ gf r t k = nI c0 := by
  unfold mpF at h
  simp only [Bool.and_eq_true] at h
  obtain ⟨h1, h2, _⟩ := h
  obtain ⟨c0, hc0, rfl⟩ := cd_of h1
  unfold hdF at h2
  simp only [Bool.and_eq_true, decide_eq_true_eq, Bool.not_eq_true'] at h2
  rw [J.hf hJ hT hc0] at h2
  refine ⟨c0, hc0, rfl, h2.1, fun k hk e => ?_⟩
  have := anyN_t (p := fun k => decide (gf r t k = nI c0)) hk (decide_eq_true e)
  rw [h2.2] at this; cases this
/-- a table behind a card: the class's cells -/
def zP (u z : cS) (T m c : Nat) (g : Nat → Int32) (tr : Int32) (l0 : Nat) : Prop := onT u z T ∧ z.oI T = u.oI T ∧ z.rR T = u.rR T ∧ z.oI (T + 1) = u.oI (T + 1) ∧ z.rI (T + 1 + 1) = u.rI (T + 1 + 1) ∧ z.rI (T + 3 + 1) = upd (u.rI (T + 3 + 1)) m (nI c) ∧ z.oI (T + 3) 2 = nI (m + 1) ∧ z.oI (T + 3) 4 = u.oI (T + 3) 4 ∧ z.oI (T + 3) 5 = u.oI (T + 3) 5 ∧ z.rL (T + 3) 0 = (u.rL (T + 3) 0 ||| bt1 c) ∧ ∀ j, j ≤ (m + 1) / 4 → z.rI (T + 3 + 2) j = nI (ldF (upd g m (nI c)) tr l0 j)
theorem zP_a {u : cS} {T m c l0 : Nat} {g : Nat → Int32} {tr : Int32} (h4 : ¬ (m + 1) % 4 = 0) (hL : ∀ j, j ≤ m / 4 → u.rI (T + 3 + 2) j = nI (ldF g tr l0 j)) : zP u (addP u (T + 3) m c) T m c g tr l0 := by
  refine ⟨(((onT.rf u T).I _ ⟨by omega, by omega⟩).O _ ⟨by omega, by omega⟩).L _ ⟨by omega, by omega⟩, u2_a u.oI _ (by omega), rfl, u2_a u.oI _ (by omega), u2_a u.rI _ (by omega), u2_row u.rI (T + 3 + 1) m (nI c), u2_s u.oI (T + 3) 2 _, u2_k u.oI _ (by decide), u2_k u.oI _ (by decide), u2_s u.rL (T + 3) 0 _, fun j hj => ?_⟩
  show u2 u.rI (T + 3 + 1) m (nI c) (T + 3 + 2) j = _
  rw [u2_a _ _ (by omega), hL j (by omega), ldF_cg (f := g) (g := upd g m (nI c)) (fun x hx => upd_lt (k := m) (Nat.le_refl _) x (by omega))]
theorem zP_b {u : cS} {T m c l0 : Nat} {g : Nat → Int32} {tr : Int32} (h4 : (m + 1) % 4 = 0) (hL : ∀ j, j ≤ m / 4 → u.rI (T + 3 + 2) j = nI (ldF g tr l0 j)) (hg : ∀ i, i < m → u.rI (T + 3 + 1) i = g i) (htr : u.oI (T + 3) 5 = tr) : zP u (upI (addP u (T + 3) m c) (T + 3 + 2) ((m + 1) / 4) (nI ((ldF g tr l0 (m / 4) + bst (upd (u.rI (T + 3 + 1)) m (nI c)) (u.oI (T + 3) 5) (m + 1 - 4) 3) % 4))) T m c g tr l0 := by
  refine ⟨((((onT.rf u T).I _ ⟨by omega, by omega⟩).O _ ⟨by omega, by omega⟩).L _ ⟨by omega, by omega⟩).I _ ⟨by omega, by omega⟩, u2_a u.oI _ (by omega), rfl, u2_a u.oI _ (by omega), ?_, ?_, u2_s u.oI (T + 3) 2 _, u2_k u.oI _ (by decide), u2_k u.oI _ (by decide), u2_s u.rL (T + 3) 0 _, fun j hj => ?_⟩
  · show u2 (u2 u.rI (T + 3 + 1) m (nI c)) (T + 3 + 2) _ _ (T + 1 + 1) = _
    rw [u2_a _ _ (by omega), u2_a _ _ (by omega)]
  · show u2 (u2 u.rI (T + 3 + 1) m (nI c)) (T + 3 + 2) _ _ (T + 3 + 1) = _
    rw [u2_a _ _ (by omega), u2_row]
  · show u2 (u2 u.rI (T + 3 + 1) m (nI c)) (T + 3 + 2) ((m + 1) / 4) _ (T + 3 + 2) j = _
    by_cases e : j = (m + 1) / 4
    · rw [e, u2_s]
      have em : (m + 1) / 4 = m / 4 + 1 := by omega
      rw [em]
      show _ = nI ((ldF (upd g m (nI c)) tr l0 (m / 4) + bst (upd g m (nI c)) tr (4 * (m / 4)) 3) % 4)
      rw [← ldF_cg (f := g) (g := upd g m (nI c)) (fun x hx => upd_lt (k := m) (Nat.le_refl _) x (by omega)), htr, show m + 1 - 4 = 4 * (m / 4) by omega]
      congr 3
      refine bst_cg (fun x hx => ?_)
      unfold upd
      by_cases e2 : x = m
      · rw [if_pos e2, if_pos e2]
      · rw [if_neg e2, if_neg e2]; exact hg x (by omega)
    · rw [u2_k _ _ e, u2_a _ _ (by omega), hL j (by omega), ldF_cg (f := g) (g := upd g m (nI c)) (fun x hx => upd_lt (k := m) (Nat.le_refl _) x (by omega))]
theorem zP.tb {u z : cS} {T B n m c l0 : Nat} {g : Nat → Int32} {tr : Int32} (h : zP u z T m c g tr l0) (hT : tB u T B n m) (hm : m < 52) : tB z T B n (m + 1) := by
  obtain ⟨k0, k1, k2, k3, k4, k5, kb, kb1, hon, hn, hn2, hmm, hm2⟩ := hT
  obtain ⟨h1, h2, h3, h4, h5, h6, h7, _⟩ := h
  refine ⟨?_, ?_, ?_, ?_, ?_, ?_, ?_, ?_, by rw [h3]; exact hon, by rw [h4]; exact hn, hn2, h7, by omega⟩
  · rw [h1.1]; exact k0
  · rw [h1.1]; exact k1
  · rw [h1.1]; exact k2
  · rw [h1.1]; exact k3
  · rw [h1.1]; exact k4
  · rw [h1.1]; exact k5
  · rw [h1.1]; exact kb
  · rw [h1.1]; exact kb1
theorem J.play {u z : cS} {r v : rS} {nb nr t T B bd n m b c : Nat} (hJ : J u r nb nr) (ht : t < 10) (hT : tJ u r nb t T B bd n m) (h28 : r.2 28 t = nI 2) (hov : ovF (cf r t) n = true) (hb : last ge3 (cf r t) n = some b) (hp : plJ u r t T bd b m) (hc : c < 52) (hown : r.2 26 (52 * bd + c) = nI (seatF r t b bd m)) (hfr : ∀ k, k < m → ¬ gf r t k = nI c) (hm : m + 1 < 52) (hv : playedP r v t m (nI c)) (hz : zP u z T m c (gf r t) (stF (cf r t) b) ((dcN (cf r t) (bd % 4) b + 1) % 4)) : J z v nb nr := by
  have hk := hT.2.1.tk
  have hvo := played_on hv (by omega)
  have vgf := played_gf hv
  have vcf := played_cf hv
  have hT0 := hT
  have htb := hz.tb hT.2.1 (by omega)
  obtain ⟨h1, h2, h3, h4, h5, ⟨h6, h7, h8⟩, h9, h10, h11, h12, h13, h14, h15, h16, h17⟩ := hT
  obtain ⟨z1, z2, z3, z4, z5, z6, z7, z8, z9, z10, z11⟩ := hz
  obtain ⟨b1, b2, b3, b4, b5, b6, b7⟩ := hp
  have e := fun a (h1 : a < 46) (h2 : a ≠ 34) (h3 : a ≠ 32) => hv.2.2.2.1 a h1 h2 h3
  have a18 : agr u z 18 := z1.2.2 18 (hk.ne hJ.k.2.2.1 (by decide))
  have a17 : agr u z 17 := z1.2.2 17 (hk.ne hJ.k.2.1 (by decide))
  have hcN : ∀ i, i < m → cN (upd (gf r t) m (nI c)) i = cN (gf r t) i := fun i hi => by unfold cN; rw [← upd_lt (k := m) (Nat.le_refl _) i hi]
  have hcm : cN (upd (gf r t) m (nI c)) m = c := by unfold cN; rw [upd_at]; exact nI_clamp (by omega)
  refine J_tab hJ ht h1 hk z1 hvo (by rw [e 28 (by decide) (by decide) (by decide)]; exact hJ.hr.2.2) (Or.inr ⟨B, bd, n, m + 1, by rw [a18.2.2.2.2]; exact h1, htb, h3, by rw [a17.2.2.2.2]; exact h4, by rw [e 29 (by decide) (by decide) (by decide)]; exact h5, ⟨by rw [z2, e 30 (by decide) (by decide) (by decide)]; exact h6, by rw [z2, e 30 (by decide) (by decide) (by decide)]; exact h7, by rw [e 30 (by decide) (by decide) (by decide)]; exact h8⟩, by rw [e 31 (by decide) (by decide) (by decide)]; exact h9, by rw [hv.2.2.2.2.2]; exact if_pos rfl, fun i hi => by rw [z5, vcf]; exact h11 i hi, fun i hi => ?_, by rw [z4]; exact h13, by rw [vcf]; exact h14, by rw [e 27 (by decide) (by decide) (by decide)]; exact h15, ?_, Or.inr ⟨by rw [e 28 (by decide) (by decide) (by decide)]; exact h28, by rw [vcf]; exact hov, b, by rw [vcf]; exact hb, ?_⟩⟩)
  · rw [z6, vgf]
    unfold upd
    by_cases q : i = m
    · rw [if_pos q, if_pos q]
    · rw [if_neg q, if_neg q]; exact h12 i (by omega)
  · rw [z10, vgf]
    refine ⟨fun k hk => by rw [hb_or, h16.1 k hk, hb_bt (by omega), decide_eq_false (by omega)]; rfl, fun x hx => ?_⟩
    rw [hb_or, hb_bt (by omega), h16.2 x hx]
    show _ = (anyN (fun k => decide (upd (gf r t) m (nI c) k = nI x)) m || decide (upd (gf r t) m (nI c) m = nI x))
    rw [upd_at, anyN_cg (p := fun k => decide (upd (gf r t) m (nI c) k = nI x)) (q := fun k => decide (gf r t k = nI x)) (fun k hk => by rw [← upd_lt (k := m) (Nat.le_refl _) k hk])]
    congr 1
    exact decide_eq_decide.mpr ⟨fun q => by rw [q], fun q => ((nI_eq (by omega) (by omega)).mp q).symm⟩
  · refine ⟨by rw [z8, vcf]; exact b1, by rw [z9, vcf]; exact b2, hm, fun j hj => by rw [vgf, vcf]; exact z11 j hj, ?_, ?_, ?_⟩
    · rw [vgf]
      intro i hi
      by_cases q : i = m
      · rw [q, hcm, upd_at]; exact ⟨hc, rfl⟩
      · rw [hcN i (by omega), ← upd_lt (k := m) (Nat.le_refl _) i (by omega)]; exact b5 i (by omega)
    · rw [vgf]
      intro x y hx hy q
      by_cases q1 : x = m
      · by_cases q2 : y = m
        · omega
        · rw [q1, upd_at, ← upd_lt (k := m) (Nat.le_refl _) y (by omega)] at q
          exact absurd q.symm (hfr y (by omega))
      · by_cases q2 : y = m
        · rw [q2, upd_at, ← upd_lt (k := m) (Nat.le_refl _) x (by omega)] at q
          exact absurd q (hfr x (by omega))
        · rw [← upd_lt (k := m) (Nat.le_refl _) x (by omega), ← upd_lt (k := m) (Nat.le_refl _) y (by omega)] at q
          exact b6 x y (by omega) (by omega) q
    · intro i hi
      rw [vgf, vcf, e 26 (by decide) (by decide) (by decide)]
      have hld : ldF (upd (gf r t) m (nI c)) (stF (cf r t) b) ((dcN (cf r t) (bd % 4) b + 1) % 4) (i / 4) = ldF (gf r t) (stF (cf r t) b) ((dcN (cf r t) (bd % 4) b + 1) % 4) (i / 4) := (ldF_cg (fun x hx => upd_lt (k := m) (Nat.le_refl _) x (by omega))).symm
      unfold plS
      rw [hld]
      by_cases q : i = m
      · rw [q, hcm]; exact hown
      · rw [hcN i (by omega)]; exact b7 i (by omega)
theorem aucOk.dbl {f : Nat → Int32} {n b : Nat} (h : aucOk f n) (hb : last ge3 f n = some b) : ∃ db, db ≤ 2 ∧ dblF f n = nI db := by
  rcases aucB_of h with ⟨_, a2, _⟩ | ⟨i, β, d, b', a1, a2, a3, a4, a5, a6, a7, a8, a9, a10, a11⟩
  · rw [a2] at hb; cases hb
  · refine ⟨d, a6, ?_⟩
    unfold dblF
    rw [a1]
    show (if nI 2 < f i then 0 else f i) = nI d
    rcases (show d = 0 ∨ d = 1 ∨ d = 2 by omega) with e | e | e
    · rw [a9 e, if_pos ((nI_ltI (by omega) (by omega)).mpr (by omega)), e]; rfl
    · rw [a10 e, if_neg (by decide), e]; rfl
    · rw [a11 e, if_neg (by decide), e]; rfl
/-- the record of a contract -/
def rcR (f : Nat → Int32) (n bd dc W : Nat) (p0 p1 p2 : Int32) : Nat → Int32 := soF (fun k => if k = 6 then dbG f n else if k = 4 then stG f n else if k = 3 then lvG f n else rs0 p0 p1 p2 k) (nI dc) (nI W) (vulF bd (dc % 2))
theorem rcR_eq {f : Nat → Int32} {v : rS} {t n b bd W : Nat} {p0 p1 p2 : Int32} (hf : ∀ i, i < n → f i = cf v t i) (hau : aucOk (cf v t) n) (hb : last ge3 (cf v t) n = some b) (hW : W ≤ 13) : rcR f n bd (dcN (cf v t) (bd % 4) b) W p0 p1 p2 0 = p0 ∧ rcR f n bd (dcN (cf v t) (bd % 4) b) W p0 p1 p2 1 = p1 ∧ rcR f n bd (dcN (cf v t) (bd % 4) b) W p0 p1 p2 2 = p2 ∧ rcR f n bd (dcN (cf v t) (bd % 4) b) W p0 p1 p2 3 = recC v t n b bd W 37 ∧ rcR f n bd (dcN (cf v t) (bd % 4) b) W p0 p1 p2 4 = recC v t n b bd W 38 ∧ rcR f n bd (dcN (cf v t) (bd % 4) b) W p0 p1 p2 5 = recC v t n b bd W 39 ∧ rcR f n bd (dcN (cf v t) (bd % 4) b) W p0 p1 p2 6 = recC v t n b bd W 40 ∧ rcR f n bd (dcN (cf v t) (bd % 4) b) W p0 p1 p2 7 = recC v t n b bd W 41 ∧ rcR f n bd (dcN (cf v t) (bd % 4) b) W p0 p1 p2 8 = recC v t n b bd W 42 ∧ rcR f n bd (dcN (cf v t) (bd % 4) b) W p0 p1 p2 9 = 0 ∧ ∃ lv sr dc db tk, 1 ≤ lv ∧ lv ≤ 7 ∧ sr ≤ 4 ∧ dc < 4 ∧ db ≤ 2 ∧ tk ≤ 13 ∧ recC v t n b bd W 37 = nI lv ∧ recC v t n b bd W 38 = nI sr ∧ recC v t n b bd W 39 = nI dc ∧ recC v t n b bd W 40 = nI db ∧ recC v t n b bd W 41 = nI tk := by
  have e3 : lvG f n = lvF (cf v t) b := by rw [lvG_cg hf]; unfold lvG; rw [hb]
  have e4 : stG f n = stF (cf v t) b := by rw [stG_cg hf]; unfold stG; rw [hb]
  have e6 : dbG f n = dblF (cf v t) n := by rw [dbG_cg hf, hau.db, hb]; rfl
  obtain ⟨lv, l1, l2, hlv⟩ := hau.lv hb
  obtain ⟨sr, s1, hsr⟩ := hau.st hb
  obtain ⟨db, d1, hdb⟩ := hau.dbl hb
  have hdc := (dcF_N (f := cf v t) (dl := bd % 4) (last_lt hb).2).2
  refine ⟨rfl, rfl, rfl, e3, e4, rfl, e6, rfl, ?_, rfl, lv, sr, dcN (cf v t) (bd % 4) b, db, W, l1, l2, by omega, hdc, d1, hW, hlv, hsr, rfl, hdb, rfl⟩
  show (if nI (dcN (cf v t) (bd % 4) b) - nI (dcN (cf v t) (bd % 4) b) / nI 2 * nI 2 = 0 then ofS (lvG f n) (stG f n) (dbG f n) (vulF bd (dcN (cf v t) (bd % 4) b % 2)) (nI W) else -(ofS (lvG f n) (stG f n) (dbG f n) (vulF bd (dcN (cf v t) (bd % 4) b % 2)) (nI W))) = (if dcN (cf v t) (bd % 4) b % 2 = 0 then scG (lvF (cf v t) b) (stF (cf v t) b) (dblF (cf v t) n) (vulF bd (dcN (cf v t) (bd % 4) b % 2)) (nI W) else -(scG (lvF (cf v t) b) (stF (cf v t) b) (dblF (cf v t) n) (vulF bd (dcN (cf v t) (bd % 4) b % 2)) (nI W)))
  rw [e3, e4, e6, hlv, hsr, hdb, of_sc lv (by omega) l1 sr (by omega) db (by omega) W (by omega), pk_rem (by omega) (by omega) (by omega)]
  by_cases q : dcN (cf v t) (bd % 4) b % 2 = 0
  · rw [if_pos q, q, if_pos (show nI 0 = 0 from rfl)]
  · rw [if_neg q, if_neg (show ¬ nI (dcN (cf v t) (bd % 4) b % 2) = 0 from fun z => q ((nI_eq (b := 0) (by omega) (by omega)).mp z))]
/-- the result of a contract -/
theorem recC_ok {u x z : cS} {r v w : rS} {nb nr t T B bd n m b W : Nat} (hJ : J u r nb nr) (ht : t < 10) (hT : tJ u r nb t T B bd n m) (hv : onR r v t) (v29 : v.2 29 t = r.2 29 t) (v30 : v.2 30 = r.2 30) (vcf : ∀ i, i < n → cf v t i = cf r t i) (hb : last ge3 (cf v t) n = some b) (hx : onT u x T) (x0 : x.oI T = u.oI T) (hW : W ≤ 13) (hz : addC (upR x T 0 none) z B nr (rcR (u.rI (T + 1 + 1)) n bd (dcN (cf v t) (bd % 4) b) W (x.oI B 0) (x.oI T 1) (x.oI T 2))) (hw : ended v w t nr (recC v t n b bd W)) : J z w nb (nr + 1) := by
  obtain ⟨hJ1, hc⟩ := J.idle hJ ht hT hv hx
  have hbd := hT.2.2.1
  obtain ⟨B', hB'⟩ := hJ1.bd hbd
  have hk := hT.2.1.tk
  have e : B' = B := by
    have h9 := hB'.1
    have n17 : 17 ≠ T := fun e => by have := hk.1; rw [← e, hJ.k.2.1] at this; exact absurd this (by decide)
    have h10 : (upR x T 0 none).rR 17 bd = u.rR 17 bd := by
      show u2 x.rR T 0 none 17 bd = _
      rw [u2_a _ _ n17, (hx.2.2 17 (hk.ne hJ.k.2.1 (by decide))).2.2.2.2]
    rw [h10, hT.2.2.2.1] at h9
    exact (Option.some.inj h9).symm
  subst e
  have hB0 : x.oI B' 0 = nI (bd + 1) := hB'.2.2.2.1
  obtain ⟨h6, h7, h8⟩ := hT.2.2.2.2.2.1
  have hf : ∀ i, i < n → u.rI (T + 1 + 1) i = cf v t i := fun i hi => (hT.2.2.2.2.2.2.2.2.1 i hi).trans (vcf i hi).symm
  have hau : aucOk (cf v t) n := aucOk_cg (fun i hi => (vcf i hi).symm) hT.2.2.2.2.2.2.2.2.2.2.2.1
  obtain ⟨q0, q1, q2, q3, q4, q5, q6, q7, q8, q9, q10⟩ := rcR_eq (p0 := x.oI B' 0) (p1 := x.oI T 1) (p2 := x.oI T 2) (bd := bd) hf hau hb hW
  refine J.addRes hJ1 hbd hB' hz (ended_addM hw) hc ?_ rfl ?_ (q0.trans ?_) (q1.trans ?_) (q2.trans ?_) q3 q4 q5 q6 q7 q8 q9 (Or.inr q10)
  · show v.2 29 t = _; rw [v29]; exact hT.2.2.2.2.1
  · show ¬ v.2 30 (2 * t) = v.2 30 (2 * t + 1); rw [v30]; exact h8
  · show x.oI B' 0 = v.2 29 t; rw [hB0, v29]; exact hT.2.2.2.2.1.symm
  · show x.oI T 1 = v.2 30 (2 * t); rw [x0, v30]; exact h6
  · show x.oI T 2 = v.2 30 (2 * t + 1); rw [x0, v30]; exact h7
