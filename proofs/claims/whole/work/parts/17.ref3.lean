/-! ===== the reference: auctions ===== -/
def phF (u : rS) (t : Int32) : Int32 := if inF t 0 9 then u.2 28 t.toNatClampNeg else 0
theorem tb_of {t : Int32} (h : inF t 0 9 = true) : ∃ t', t' < 10 ∧ t = nI t' := by
  simp only [inF, Bool.and_eq_true, decide_eq_true_eq, Int32.le_iff_toInt_le] at h
  have h1 : (0 : Int32).toInt = 0 := by decide
  have h2 : (9 : Int32).toInt = 9 := by decide
  rw [h1, h2] at h
  obtain ⟨j, hj, rfl⟩ := nI_of (x := t) (by rw [Int32.lt_iff_toInt_lt]; omega)
  rw [nI_toInt hj] at h
  exact ⟨j, by omega, rfl⟩
theorem tb_t {t : Nat} (h : t < 10) : inF (nI t) 0 9 = true := by
  simp only [inF, Bool.and_eq_true, decide_eq_true_eq]
  exact ⟨by rw [← nI_0]; exact nI_le (by omega) (by omega), by rw [show (9 : Int32) = nI 9 by decide]; exact nI_le (by omega) (by omega)⟩
theorem phF_t {u : rS} {t : Nat} (h : t < 10) : phF u (nI t) = u.2 28 t := by
  unfold phF
  rw [tb_t h, if_pos rfl, nI_clamp (by omega)]
theorem ph_of {u : rS} {t : Int32} (h : ¬ phF u t = 0) : ∃ t', t' < 10 ∧ t = nI t' := by
  unfold phF at h
  split at h
  · rename_i q; exact tb_of q
  · exact absurd rfl h
/-- the calls of a table; its cards -/
def cf (u : rS) (t : Nat) : Nat → Int32 := fun i => u.2 33 (340 * t + i)
def gf (u : rS) (t : Nat) : Nat → Int32 := fun i => u.2 34 (52 * t + i)
def nz (v : Int32) : Bool := decide (¬ v = 0)
def ge3 (v : Int32) : Bool := decide (nI 3 ≤ v)
theorem last_lt {p : Int32 → Bool} {f : Nat → Int32} : ∀ {n i : Nat}, last p f n = some i → i < n ∧ p (f i) = true
  | 0, i, h => by cases h
  | n + 1, i, h => by
    unfold last at h
    split at h
    · rename_i hp
      cases h
      exact ⟨Nat.lt_succ_self _, hp⟩
    · have := last_lt h
      exact ⟨by omega, this.2⟩
set_option maxRecDepth 20000 in
theorem r_phaseOf {pr : aC} {d : Nat} {u : rS} (t : Int32) {Q : Option Value → rS → Prop} (hQ : Q (some (.int (phF u t))) u) : rR pr (d + 1 + 1) 175 [.ref 25, .int t] u Q := by
  refine gR_of mi_175 rFr_rf rfl (Nat.le_of_ble_eq_true rfl) ?_
  show rB pr (d + 1) cd_175 (Option.some Jvm.ClassFile.FieldType.int) Q 0 [some (.ref 25), some (.int t)] [] u
  refine g_load rfl rfl rfl trivial ?_
  refine g_iconst (nI 0) rfl (by decide) ?_
  refine g_bipush (nI 9) rfl (by decide) ?_
  refine g_statI [.int t, .int (nI 0), .int (nI 9)] rFr_tr rfl rfl rfl (Nat.le_of_ble_eq_true rfl) (Nat.le_refl _) (Nat.le_refl _) (r_in t 0 9 ⟨_, rfl, ?_⟩)
  refine g_if_eq rfl (fun c1 => ?_) (fun c1 => ?_)
  · rw [bI_eq] at c1
    refine g_iconst (nI 0) rfl (by decide) ?_
    refine g_vret rfl trivial ⟨rfl, rfl⟩ (Nat.le_refl _) (Nat.le_refl _) ?_
    refine Qe ?_ hQ
    first | (rw [phF_t ht]; done) | (simp only [phF, c1]; rfl)
  · rw [bI_ne] at c1
    obtain ⟨t', ht, rfl⟩ := tb_of c1
    refine g_load rfl rfl rfl trivial ?_
    refine r_getf rfl rfl ?_
    refine g_load rfl rfl rfl trivial ?_
    refine r_ia (t') rfl ⟨by decide, by decide, rfl⟩ rfl (by show _ < 10; omega) ?_
    refine g_goto rfl ?_
    refine g_vret rfl trivial ⟨rfl, rfl⟩ (Nat.le_refl _) (Nat.le_refl _) ?_
    refine Qe ?_ hQ
    first | (rw [phF_t ht]; done) | (simp only [phF, c1]; rfl)
set_option maxRecDepth 20000 in
theorem r_callAt {pr : aC} {d : Nat} {u : rS} (t i : Nat) (ht : t < 10) (hi : i < 340) {Q : Option Value → rS → Prop} (hQ : Q (some (.int (cf u t i))) u) : rR pr (d + 1) 176 [.ref 25, .int (nI t), .int (nI i)] u Q := by
  refine gR_of mi_176 rFr_rf rfl (Nat.le_of_ble_eq_true rfl) ?_
  show rB pr (d) cd_176 (Option.some Jvm.ClassFile.FieldType.int) Q 0 [some (.ref 25), some (.int (nI t)), some (.int (nI i))] [] u
  refine g_load rfl rfl rfl trivial ?_
  refine r_getf rfl rfl ?_
  refine g_sipush (nI 340) rfl (by decide) ?_
  refine g_load rfl rfl rfl trivial ?_
  refine g_imul rfl ?_
  refine g_load rfl rfl rfl trivial ?_
  refine g_iadd rfl ?_
  refine r_ia (340 * t + i) rfl ⟨by decide, by decide, rfl⟩ (by rw [pk_mul, nI_add]) (by show _ < 3400; omega) ?_
  refine g_vret rfl trivial ⟨rfl, rfl⟩ (Nat.le_refl _) (Nat.le_refl _) ?_
  exact hQ
set_option maxRecDepth 20000 in
theorem r_callerOf {pr : aC} {d : Nat} {u : rS} (t i b : Nat) (ht : t < 10) (hi : i < 340) (hb : u.2 29 t = nI (b + 1)) (hb2 : b < 36) {Q : Option Value → rS → Prop} (hQ : Q (some (.int (nI ((b % 4 + i) % 4)))) u) : rR pr (d + 1 + 1) 177 [.ref 25, .int (nI t), .int (nI i)] u Q := by
  refine gR_of mi_177 rFr_rf rfl (Nat.le_of_ble_eq_true rfl) ?_
  show rB pr (d + 1) cd_177 (Option.some Jvm.ClassFile.FieldType.int) Q 0 [some (.ref 25), some (.int (nI t)), some (.int (nI i))] [] u
  refine g_load rfl rfl rfl trivial ?_
  refine r_getf rfl rfl ?_
  refine g_load rfl rfl rfl trivial ?_
  refine r_ia (t) rfl ⟨by decide, by decide, rfl⟩ rfl (by show _ < 10; omega) ?_
  rw [hb]
  refine g_statI [.int (nI (b + 1))] rFr_tr rfl rfl rfl (Nat.le_of_ble_eq_true rfl) (Nat.le_refl _) (Nat.le_refl _) (r_dealer b (by omega) ⟨_, rfl, ?_⟩)
  refine g_load rfl rfl rfl trivial ?_
  refine g_iadd rfl ?_
  refine g_iconst (nI 4) rfl (by decide) ?_
  refine g_irem rfl (by decide) ?_
  refine g_vret rfl trivial ⟨rfl, rfl⟩ (Nat.le_refl _) (Nat.le_refl _) ?_
  rw [nI_add, pk_rem (by omega) (by omega) (by omega)]
  exact hQ
set_option maxRecDepth 20000 in
theorem r_latestCall_l {pr : aC} {d : Nat} {u : rS} (t : Nat) (ht : t < 10) {Q : Option Value → rS → Prop} : ∀ (i : Nat) (hi : i ≤ 340) (hQ : Q (some (.int (oI (last nz (cf u t) i)))) u), rB pr (d + 1) cd_178 (Option.some Jvm.ClassFile.FieldType.int) Q 7 [some (.ref 25), some (.int (nI t)), some (.int (pI i))] [] u := by
  intro i
  induction i with
  | zero =>
    intro hi hQ
    refine g_load rfl rfl rfl trivial ?_
    refine g_if_lt rfl (fun c1 => ?_) (fun c1 => ?_)
    · refine g_load rfl rfl rfl trivial ?_
      refine g_vret rfl trivial ⟨rfl, rfl⟩ (Nat.le_refl _) (Nat.le_refl _) ?_
      exact hQ
    · exact absurd (show pI 0 < 0 by decide) c1
  | succ i ih =>
    intro hi hQ
    refine g_load rfl rfl rfl trivial ?_
    refine g_if_lt rfl (fun c1 => ?_) (fun c1 => ?_)
    · exact absurd c1 (nI_pos (by omega))
    · refine g_load rfl rfl rfl trivial ?_
      refine g_load rfl rfl rfl trivial ?_
      refine g_load rfl rfl rfl trivial ?_
      refine g_virtI (a := 25) (ci := 8) (n := 2) [.int (nI t), .int (nI i)] rFr_tr rfl rfl (by decide) rfl r_this rfl (Nat.le_of_ble_eq_true rfl) (Nat.le_refl _) (Nat.le_refl _) (r_callAt t i ht (by omega) ⟨_, rfl, ?_⟩)
      refine g_if_ne rfl (fun c2 => ?_) (fun c2 => ?_)
      · have hl : last nz (cf u t) (i + 1) = some i := by simp [last, nz, c2]
        rw [hl] at hQ
        refine g_load rfl rfl rfl trivial ?_
        refine g_vret rfl trivial ⟨rfl, rfl⟩ (Nat.le_refl _) (Nat.le_refl _) ?_
        exact hQ
      · have hl : last nz (cf u t) (i + 1) = last nz (cf u t) i := by simp [last, nz, c2]
        rw [hl] at hQ
        refine g_iinc (pI i) [some (.ref 25), some (.int (nI t)), some (.int (pI i))] rfl rfl (by cases i with
      | zero => decide
      | succ i => exact pk_m1 i) rfl ?_
        refine g_goto rfl ?_
        exact ih (by omega) hQ
set_option maxRecDepth 20000 in
theorem r_latestBid_l {pr : aC} {d : Nat} {u : rS} (t : Nat) (ht : t < 10) {Q : Option Value → rS → Prop} : ∀ (i : Nat) (hi : i ≤ 340) (hQ : Q (some (.int (oI (last ge3 (cf u t) i)))) u), rB pr (d + 1) cd_179 (Option.some Jvm.ClassFile.FieldType.int) Q 7 [some (.ref 25), some (.int (nI t)), some (.int (pI i))] [] u := by
  intro i
  induction i with
  | zero =>
    intro hi hQ
    refine g_load rfl rfl rfl trivial ?_
    refine g_if_lt rfl (fun c1 => ?_) (fun c1 => ?_)
    · refine g_load rfl rfl rfl trivial ?_
      refine g_vret rfl trivial ⟨rfl, rfl⟩ (Nat.le_refl _) (Nat.le_refl _) ?_
      exact hQ
    · exact absurd (show pI 0 < 0 by decide) c1
  | succ i ih =>
    intro hi hQ
    refine g_load rfl rfl rfl trivial ?_
    refine g_if_lt rfl (fun c1 => ?_) (fun c1 => ?_)
    · exact absurd c1 (nI_pos (by omega))
    · refine g_load rfl rfl rfl trivial ?_
      refine g_load rfl rfl rfl trivial ?_
      refine g_load rfl rfl rfl trivial ?_
      refine g_virtI (a := 25) (ci := 8) (n := 2) [.int (nI t), .int (nI i)] rFr_tr rfl rfl (by decide) rfl r_this rfl (Nat.le_of_ble_eq_true rfl) (Nat.le_refl _) (Nat.le_refl _) (r_callAt t i ht (by omega) ⟨_, rfl, ?_⟩)
      refine g_iconst (nI 3) rfl (by decide) ?_
      refine g_icmp_ge rfl (fun c2 => ?_) (fun c2 => ?_)
      · have hl : last ge3 (cf u t) (i + 1) = some i := by simp [last, ge3, c2]
        rw [hl] at hQ
        refine g_load rfl rfl rfl trivial ?_
        refine g_vret rfl trivial ⟨rfl, rfl⟩ (Nat.le_refl _) (Nat.le_refl _) ?_
        exact hQ
      · have hl : last ge3 (cf u t) (i + 1) = last ge3 (cf u t) i := by simp only [last, ge3, decide_eq_true_eq, if_neg c2]
        rw [hl] at hQ
        refine g_iinc (pI i) [some (.ref 25), some (.int (nI t)), some (.int (pI i))] rfl rfl (by cases i with
      | zero => decide
      | succ i => exact pk_m1 i) rfl ?_
        refine g_goto rfl ?_
        exact ih (by omega) hQ
set_option maxRecDepth 20000 in
theorem r_latestCall {pr : aC} {d : Nat} {u : rS} (t n : Nat) (ht : t < 10) (hc : u.2 31 t = nI n) (hn : n ≤ 340) {Q : Option Value → rS → Prop} (hQ : Q (some (.int (oI (last nz (cf u t) n)))) u) : rR pr (d + 1 + 1) 178 [.ref 25, .int (nI t)] u Q := by
  refine gR_of mi_178 rFr_rf rfl (Nat.le_of_ble_eq_true rfl) ?_
  show rB pr (d + 1) cd_178 (Option.some Jvm.ClassFile.FieldType.int) Q 0 [some (.ref 25), some (.int (nI t)), none] [] u
  refine g_load rfl rfl rfl trivial ?_
  refine r_getf rfl rfl ?_
  refine g_load rfl rfl rfl trivial ?_
  refine r_ia (t) rfl ⟨by decide, by decide, rfl⟩ rfl (by show _ < 10; omega) ?_
  refine g_iconst (nI 1) rfl (by decide) ?_
  refine g_isub rfl ?_
  rw [hc, pI_eq]
  refine g_store [some (.ref 25), some (.int (nI t)), some (.int (pI n))] rfl rfl trivial (Nat.le_of_ble_eq_true rfl) rfl ?_
  exact r_latestCall_l t ht n hn hQ
set_option maxRecDepth 20000 in
theorem r_latestBid {pr : aC} {d : Nat} {u : rS} (t n : Nat) (ht : t < 10) (hc : u.2 31 t = nI n) (hn : n ≤ 340) {Q : Option Value → rS → Prop} (hQ : Q (some (.int (oI (last ge3 (cf u t) n)))) u) : rR pr (d + 1 + 1) 179 [.ref 25, .int (nI t)] u Q := by
  refine gR_of mi_179 rFr_rf rfl (Nat.le_of_ble_eq_true rfl) ?_
  show rB pr (d + 1) cd_179 (Option.some Jvm.ClassFile.FieldType.int) Q 0 [some (.ref 25), some (.int (nI t)), none] [] u
  refine g_load rfl rfl rfl trivial ?_
  refine r_getf rfl rfl ?_
  refine g_load rfl rfl rfl trivial ?_
  refine r_ia (t) rfl ⟨by decide, by decide, rfl⟩ rfl (by show _ < 10; omega) ?_
  refine g_iconst (nI 1) rfl (by decide) ?_
  refine g_isub rfl ?_
  rw [hc, pI_eq]
  refine g_store [some (.ref 25), some (.int (nI t)), some (.int (pI n))] rfl rfl trivial (Nat.le_of_ble_eq_true rfl) rfl ?_
  exact r_latestBid_l t ht n hn hQ
def dblF (f : Nat → Int32) (n : Nat) : Int32 := match last nz f n with
  | some i => if nI 2 < f i then 0 else f i
  | none => 0
theorem oI_m1 {o : Option Nat} (h : oI o = -1) (hb : ∀ i, o = some i → i < 2 ^ 31) : o = none := by
  cases o with
  | none => rfl
  | some i =>
    have h1 := congrArg Int32.toInt h
    rw [show oI (some i) = nI i from rfl, nI_toInt (hb i rfl)] at h1
    have : (-1 : Int32).toInt = -1 := by decide
    omega
theorem oI_some {o : Option Nat} (h : ¬ oI o = -1) : ∃ i, o = some i := by
  cases o with
  | none => exact absurd rfl h
  | some i => exact ⟨i, rfl⟩
set_option maxRecDepth 20000 in
theorem r_doubled {pr : aC} {d : Nat} {u : rS} (t n : Nat) (ht : t < 10) (hc : u.2 31 t = nI n) (hn : n ≤ 340) {Q : Option Value → rS → Prop} (hQ : Q (some (.int (dblF (cf u t) n))) u) : rR pr (d + 2 + 1) 180 [.ref 25, .int (nI t)] u Q := by
  refine gR_of mi_180 rFr_rf rfl (Nat.le_of_ble_eq_true rfl) ?_
  show rB pr (d + 2) cd_180 (Option.some Jvm.ClassFile.FieldType.int) Q 0 [some (.ref 25), some (.int (nI t)), none] [] u
  refine g_load rfl rfl rfl trivial ?_
  refine g_load rfl rfl rfl trivial ?_
  refine g_virtI (a := 25) (ci := 8) (n := 1) [.int (nI t)] rFr_tr rfl rfl (by decide) rfl r_this rfl (Nat.le_of_ble_eq_true rfl) (Nat.le_refl _) (Nat.le_refl _) (r_latestCall t n ht hc hn ⟨_, rfl, ?_⟩)
  refine g_store [some (.ref 25), some (.int (nI t)), some (.int (oI (last nz (cf u t) n)))] rfl rfl trivial (Nat.le_of_ble_eq_true rfl) rfl ?_
  refine g_load rfl rfl rfl trivial ?_
  refine g_iconst (-1) rfl (by decide) ?_
  refine g_icmp_eq rfl (fun c1 => ?_) (fun c1 => ?_)
  · have e1 := oI_m1 c1 (fun i hi => by have := (last_lt hi).1; omega)
    refine g_iconst (nI 0) rfl (by decide) ?_
    refine g_goto rfl ?_
    refine g_vret rfl trivial ⟨rfl, rfl⟩ (Nat.le_refl _) (Nat.le_refl _) ?_
    refine Qe ?_ hQ
    simp only [dblF, e1]
    first | rfl | (rw [if_pos (by rw [← Int32.not_le]; exact c2)]; rfl) | (rw [if_neg (by rw [Int32.not_lt]; exact c2)])
  · obtain ⟨i, e1⟩ := oI_some c1
    have hi := (last_lt e1).1
    rw [e1]
    refine g_load rfl rfl rfl trivial ?_
    refine g_load rfl rfl rfl trivial ?_
    refine g_load rfl rfl rfl trivial ?_
    refine g_virtI (a := 25) (ci := 8) (n := 2) [.int (nI t), .int (nI i)] rFr_tr rfl rfl (by decide) rfl r_this rfl (Nat.le_of_ble_eq_true rfl) (Nat.le_refl _) (Nat.le_refl _) (r_callAt t i ht (by omega) ⟨_, rfl, ?_⟩)
    refine g_iconst (nI 2) rfl (by decide) ?_
    refine g_icmp_le rfl (fun c2 => ?_) (fun c2 => ?_)
    · refine g_load rfl rfl rfl trivial ?_
      refine g_load rfl rfl rfl trivial ?_
      refine g_load rfl rfl rfl trivial ?_
      refine g_virtI (a := 25) (ci := 8) (n := 2) [.int (nI t), .int (nI i)] rFr_tr rfl rfl (by decide) rfl r_this rfl (Nat.le_of_ble_eq_true rfl) (Nat.le_refl _) (Nat.le_refl _) (r_callAt t i ht (by omega) ⟨_, rfl, ?_⟩)
      refine g_vret rfl trivial ⟨rfl, rfl⟩ (Nat.le_refl _) (Nat.le_refl _) ?_
      refine Qe ?_ hQ
      simp only [dblF, e1]
      first | rfl | (rw [if_pos (by rw [← Int32.not_le]; exact c2)]; rfl) | (rw [if_neg (by rw [Int32.not_lt]; exact c2)])
    · refine g_iconst (nI 0) rfl (by decide) ?_
      refine g_goto rfl ?_
      refine g_vret rfl trivial ⟨rfl, rfl⟩ (Nat.le_refl _) (Nat.le_refl _) ?_
      refine Qe ?_ hQ
      simp only [dblF, e1]
      first | rfl | (rw [if_pos (by rw [← Int32.not_le]; exact c2)]; rfl) | (rw [if_neg (by rw [Int32.not_lt]; exact c2)])
def lvF (f : Nat → Int32) (b : Nat) : Int32 := (f b - nI 3) / nI 5 + nI 1
def stF (f : Nat → Int32) (b : Nat) : Int32 := (f b - nI 3) - (f b - nI 3) / nI 5 * nI 5
set_option maxRecDepth 20000 in
theorem r_level {pr : aC} {d : Nat} {u : rS} (t n b : Nat) (ht : t < 10) (hc : u.2 31 t = nI n) (hn : n ≤ 340) (hb : last ge3 (cf u t) n = some b) {Q : Option Value → rS → Prop} (hQ : Q (some (.int (lvF (cf u t) b))) u) : rR pr (d + 2 + 1) 182 [.ref 25, .int (nI t)] u Q := by
  refine gR_of mi_182 rFr_rf rfl (Nat.le_of_ble_eq_true rfl) ?_
  show rB pr (d + 2) cd_182 (Option.some Jvm.ClassFile.FieldType.int) Q 0 [some (.ref 25), some (.int (nI t))] [] u
  refine g_load rfl rfl rfl trivial ?_
  refine g_load rfl rfl rfl trivial ?_
  refine g_load rfl rfl rfl trivial ?_
  refine g_load rfl rfl rfl trivial ?_
  refine g_virtI (a := 25) (ci := 8) (n := 1) [.int (nI t)] rFr_tr rfl rfl (by decide) rfl r_this rfl (Nat.le_of_ble_eq_true rfl) (Nat.le_refl _) (Nat.le_refl _) (r_latestBid t n ht hc hn ⟨_, rfl, ?_⟩)
  rw [hb]
  refine g_virtI (a := 25) (ci := 8) (n := 2) [.int (nI t), .int (nI b)] rFr_tr rfl rfl (by decide) rfl r_this rfl (Nat.le_of_ble_eq_true rfl) (Nat.le_refl _) (Nat.le_refl _) (r_callAt t b ht (by have := (last_lt hb).1; omega) ⟨_, rfl, ?_⟩)
  refine g_iconst (nI 3) rfl (by decide) ?_
  refine g_isub rfl ?_
  refine g_iconst (nI 5) rfl (by decide) ?_
  refine g_idiv rfl (by decide) ?_
  refine g_iconst (nI 1) rfl (by decide) ?_
  refine g_iadd rfl ?_
  refine g_vret rfl trivial ⟨rfl, rfl⟩ (Nat.le_refl _) (Nat.le_refl _) ?_
  exact hQ
set_option maxRecDepth 20000 in
theorem r_strain {pr : aC} {d : Nat} {u : rS} (t n b : Nat) (ht : t < 10) (hc : u.2 31 t = nI n) (hn : n ≤ 340) (hb : last ge3 (cf u t) n = some b) {Q : Option Value → rS → Prop} (hQ : Q (some (.int (stF (cf u t) b))) u) : rR pr (d + 2 + 1) 183 [.ref 25, .int (nI t)] u Q := by
  refine gR_of mi_183 rFr_rf rfl (Nat.le_of_ble_eq_true rfl) ?_
  show rB pr (d + 2) cd_183 (Option.some Jvm.ClassFile.FieldType.int) Q 0 [some (.ref 25), some (.int (nI t))] [] u
  refine g_load rfl rfl rfl trivial ?_
  refine g_load rfl rfl rfl trivial ?_
  refine g_load rfl rfl rfl trivial ?_
  refine g_load rfl rfl rfl trivial ?_
  refine g_virtI (a := 25) (ci := 8) (n := 1) [.int (nI t)] rFr_tr rfl rfl (by decide) rfl r_this rfl (Nat.le_of_ble_eq_true rfl) (Nat.le_refl _) (Nat.le_refl _) (r_latestBid t n ht hc hn ⟨_, rfl, ?_⟩)
  rw [hb]
  refine g_virtI (a := 25) (ci := 8) (n := 2) [.int (nI t), .int (nI b)] rFr_tr rfl rfl (by decide) rfl r_this rfl (Nat.le_of_ble_eq_true rfl) (Nat.le_refl _) (Nat.le_refl _) (r_callAt t b ht (by have := (last_lt hb).1; omega) ⟨_, rfl, ?_⟩)
  refine g_iconst (nI 3) rfl (by decide) ?_
  refine g_isub rfl ?_
  refine g_iconst (nI 5) rfl (by decide) ?_
  refine g_irem rfl (by decide) ?_
  refine g_vret rfl trivial ⟨rfl, rfl⟩ (Nat.le_refl _) (Nat.le_refl _) ?_
  exact hQ
def dcP (f : Nat → Int32) (b : Nat) (i : Nat) : Bool := decide (nI 2 < f i ∧ (f i - nI 3) - (f i - nI 3) / nI 5 * nI 5 = stF f b ∧ i % 2 = b % 2)
/-- the declarer: dl the dealer, b the place of the latest bid -/
def dcF (f : Nat → Int32) (dl b : Nat) : Int32 := match first (dcP f b) 0 (b + 1) with
  | some i => nI ((dl + i) % 4)
  | none => -1
set_option maxRecDepth 20000 in
theorem r_declarer_l {pr : aC} {d : Nat} {u : rS} (t n b bd : Nat) (ht : t < 10) (hc : u.2 31 t = nI n) (hn : n ≤ 340) (hb : last ge3 (cf u t) n = some b) (hbd : u.2 29 t = nI (bd + 1)) (hbd2 : bd < 36) {Q : Option Value → rS → Prop} (hQ : Q (some (.int (dcF (cf u t) (bd % 4) b))) u) : ∀ (zz : Nat) (i : Nat) (hm : (b + 1) - i < zz) (hle : i ≤ (b + 1)) (hinv : ∀ x, x < i → dcP (cf u t) b x = false), rB pr (d + 3) cd_184 (Option.some Jvm.ClassFile.FieldType.int) Q 6 [some (.ref 25), some (.int (nI t)), some (.int (nI b)), some (.int (nI i))] [] u := by
  intro zz
  induction zz with
  | zero => intro i hm hle hinv; exact absurd hm (by omega)
  | succ zz ih =>
    intro i hm hle hinv
    have hbn := (last_lt hb).1
    refine g_load rfl rfl rfl trivial ?_
    refine g_load rfl rfl rfl trivial ?_
    refine g_icmp_gt rfl (fun c1 => ?_) (fun c1 => ?_)
    · rw [nI_ltI (by omega) (by omega)] at c1
      rw [dcF, first_miss (fun x _ h => hinv x (by omega))] at hQ
      refine g_iconst (-1) rfl (by decide) ?_
      refine g_vret rfl trivial ⟨rfl, rfl⟩ (Nat.le_refl _) (Nat.le_refl _) ?_
      exact hQ
    · rw [nI_ltI (by omega) (by omega)] at c1
      refine g_load rfl rfl rfl trivial ?_
      refine g_load rfl rfl rfl trivial ?_
      refine g_load rfl rfl rfl trivial ?_
      refine g_virtI (a := 25) (ci := 8) (n := 2) [.int (nI t), .int (nI i)] rFr_tr rfl rfl (by decide) rfl r_this rfl (Nat.le_of_ble_eq_true rfl) (Nat.le_refl _) (Nat.le_refl _) (r_callAt t i ht (by omega) ⟨_, rfl, ?_⟩)
      refine g_iconst (nI 2) rfl (by decide) ?_
      refine g_icmp_le rfl (fun c2 => ?_) (fun c2 => ?_)
      · have hf : dcP (cf u t) b i = false := by simp only [dcP, decide_eq_false_iff_not]; intro q; exact absurd q.1 (by rw [Int32.not_lt]; exact c2)
        refine g_iinc (nI (i + 1)) [some (.ref 25), some (.int (nI t)), some (.int (nI b)), some (.int (nI (i + 1)))] rfl rfl (nI_1 i) rfl ?_
        refine g_goto rfl ?_
        exact ih (i + 1) (by omega) (by omega) (fun x hx => by
          rcases Nat.lt_succ_iff_lt_or_eq.mp hx with h | h
          · exact hinv x h
          · exact h ▸ hf)
      · rw [Int32.not_le] at c2
        refine g_load rfl rfl rfl trivial ?_
        refine g_load rfl rfl rfl trivial ?_
        refine g_load rfl rfl rfl trivial ?_
        refine g_virtI (a := 25) (ci := 8) (n := 2) [.int (nI t), .int (nI i)] rFr_tr rfl rfl (by decide) rfl r_this rfl (Nat.le_of_ble_eq_true rfl) (Nat.le_refl _) (Nat.le_refl _) (r_callAt t i ht (by omega) ⟨_, rfl, ?_⟩)
        refine g_iconst (nI 3) rfl (by decide) ?_
        refine g_isub rfl ?_
        refine g_iconst (nI 5) rfl (by decide) ?_
        refine g_irem rfl (by decide) ?_
        refine g_load rfl rfl rfl trivial ?_
        refine g_load rfl rfl rfl trivial ?_
        refine g_virtI (a := 25) (ci := 8) (n := 1) [.int (nI t)] rFr_tr rfl rfl (by decide) rfl r_this rfl (Nat.le_of_ble_eq_true rfl) (Nat.le_refl _) (Nat.le_refl _) (r_strain t n b ht hc hn hb ⟨_, rfl, ?_⟩)
        refine g_icmp_ne rfl (fun c3 => ?_) (fun c3 => ?_)
        · have hf : dcP (cf u t) b i = false := by simp only [dcP, decide_eq_false_iff_not]; intro q; exact c3 q.2.1
          refine g_iinc (nI (i + 1)) [some (.ref 25), some (.int (nI t)), some (.int (nI b)), some (.int (nI (i + 1)))] rfl rfl (nI_1 i) rfl ?_
          refine g_goto rfl ?_
          exact ih (i + 1) (by omega) (by omega) (fun x hx => by
            rcases Nat.lt_succ_iff_lt_or_eq.mp hx with h | h
            · exact hinv x h
            · exact h ▸ hf)
        · refine g_load rfl rfl rfl trivial ?_
          refine g_load rfl rfl rfl trivial ?_
          refine g_load rfl rfl rfl trivial ?_
          refine g_virtI (a := 25) (ci := 8) (n := 2) [.int (nI t), .int (nI i)] rFr_tr rfl rfl (by decide) rfl r_this rfl (Nat.le_of_ble_eq_true rfl) (Nat.le_refl _) (Nat.le_refl _) (r_callerOf t i bd ht (by omega) hbd hbd2 ⟨_, rfl, ?_⟩)
          refine g_load rfl rfl rfl trivial ?_
          refine g_load rfl rfl rfl trivial ?_
          refine g_load rfl rfl rfl trivial ?_
          refine g_virtI (a := 25) (ci := 8) (n := 2) [.int (nI t), .int (nI b)] rFr_tr rfl rfl (by decide) rfl r_this rfl (Nat.le_of_ble_eq_true rfl) (Nat.le_refl _) (Nat.le_refl _) (r_callerOf t b bd ht (by omega) hbd hbd2 ⟨_, rfl, ?_⟩)
          refine g_iadd rfl ?_
          rw [nI_add]
          refine g_iconst (nI 2) rfl (by decide) ?_
          refine g_irem rfl (by decide) ?_
          rw [pk_rem (by omega) (by omega) (by omega)]
          refine g_if_ne rfl (fun c4 => ?_) (fun c4 => ?_)
          · rw [← nI_0, nI_eq (by omega) (by omega)] at c4
            have hf : dcP (cf u t) b i = false := by simp only [dcP, decide_eq_false_iff_not]; intro q; have := q.2.2; omega
            refine g_iinc (nI (i + 1)) [some (.ref 25), some (.int (nI t)), some (.int (nI b)), some (.int (nI (i + 1)))] rfl rfl (nI_1 i) rfl ?_
            refine g_goto rfl ?_
            exact ih (i + 1) (by omega) (by omega) (fun x hx => by
              rcases Nat.lt_succ_iff_lt_or_eq.mp hx with h | h
              · exact hinv x h
              · exact h ▸ hf)
          · rw [← nI_0, nI_eq (by omega) (by omega)] at c4
            rw [dcF, first_hit (t := i) (by omega) (by omega) (by simp only [dcP, decide_eq_true_eq]; exact ⟨c2, c3, by omega⟩) (fun x _ h => hinv x h)] at hQ
            refine g_load rfl rfl rfl trivial ?_
            refine g_load rfl rfl rfl trivial ?_
            refine g_load rfl rfl rfl trivial ?_
            refine g_virtI (a := 25) (ci := 8) (n := 2) [.int (nI t), .int (nI i)] rFr_tr rfl rfl (by decide) rfl r_this rfl (Nat.le_of_ble_eq_true rfl) (Nat.le_refl _) (Nat.le_refl _) (r_callerOf t i bd ht (by omega) hbd hbd2 ⟨_, rfl, ?_⟩)
            refine g_vret rfl trivial ⟨rfl, rfl⟩ (Nat.le_refl _) (Nat.le_refl _) ?_
            exact hQ
set_option maxRecDepth 20000 in
theorem r_declarer {pr : aC} {d : Nat} {u : rS} (t n b bd : Nat) (ht : t < 10) (hc : u.2 31 t = nI n) (hn : n ≤ 340) (hb : last ge3 (cf u t) n = some b) (hbd : u.2 29 t = nI (bd + 1)) (hbd2 : bd < 36) {Q : Option Value → rS → Prop} (hQ : Q (some (.int (dcF (cf u t) (bd % 4) b))) u) : rR pr (d + 3 + 1) 184 [.ref 25, .int (nI t)] u Q := by
  refine gR_of mi_184 rFr_rf rfl (Nat.le_of_ble_eq_true rfl) ?_
  show rB pr (d + 3) cd_184 (Option.some Jvm.ClassFile.FieldType.int) Q 0 [some (.ref 25), some (.int (nI t)), none, none] [] u
  refine g_load rfl rfl rfl trivial ?_
  refine g_load rfl rfl rfl trivial ?_
  refine g_virtI (a := 25) (ci := 8) (n := 1) [.int (nI t)] rFr_tr rfl rfl (by decide) rfl r_this rfl (Nat.le_of_ble_eq_true rfl) (Nat.le_refl _) (Nat.le_refl _) (r_latestBid t n ht hc hn ⟨_, rfl, ?_⟩)
  rw [hb]
  refine g_store [some (.ref 25), some (.int (nI t)), some (.int (nI b)), none] rfl rfl trivial (Nat.le_of_ble_eq_true rfl) rfl ?_
  refine g_iconst (nI 0) rfl (by decide) ?_
  refine g_store [some (.ref 25), some (.int (nI t)), some (.int (nI b)), some (.int (nI 0))] rfl rfl trivial (Nat.le_of_ble_eq_true rfl) rfl ?_
  exact r_declarer_l t n b bd ht hc hn hb hbd hbd2 hQ (b + 2) 0 (by omega) (by omega) (fun x h => absurd h (by omega))
/-- whether a call may be made behind the n calls f -/
def mcF (f : Nat → Int32) (n : Nat) (c : Int32) : Bool := inF c 0 37 && (decide (c = 0) || (if c = 1 then (match last nz f n with
    | some i => decide ((i + n) % 2 = 1) && decide (nI 2 < f i)
    | none => false) else if c = 2 then (match last nz f n with
    | some i => decide ((i + n) % 2 = 1) && decide (f i = 1)
    | none => false) else match last ge3 f n with
    | some b => decide (f b < c)
    | none => true))
def otF (f : Nat → Int32) (n : Nat) : Bool := match last nz f n with
  | some i => decide ((i + n) % 2 = 1)
  | none => false
theorem otF_t {f : Nat → Int32} {n : Nat} (h : otF f n = true) : ∃ i, last nz f n = some i ∧ i < n := by
  unfold otF at h
  split at h
  · rename_i i hi; exact ⟨i, hi, (last_lt hi).1⟩
  · cases h
set_option maxRecDepth 20000 in
theorem r_mayCall_2 {pr : aC} {d : Nat} {u : rS} (t n bd : Nat) (c : Int32) (hc37 : inF c 0 37 = true) (hc0 : ¬ c = 0) (ht : t < 10) (hc : u.2 31 t = nI n) (hn : n < 340) {Q : Option Value → rS → Prop} (hQ : Q (some (.int (bI (mcF (cf u t) n c)))) u) : rB pr (d + 2) cd_181 (Option.some Jvm.ClassFile.FieldType.boolean) Q 41 [some (.ref 25), some (.int (nI t)), some (.int c), some (.int (oI (last nz (cf u t) n))), some (.int (bI (otF (cf u t) n))), none] [] u := by
  refine g_load rfl rfl rfl trivial ?_
  refine g_iconst (nI 1) rfl (by decide) ?_
  refine g_icmp_ne rfl (fun c1 => ?_) (fun c1 => ?_)
  · refine g_load rfl rfl rfl trivial ?_
    refine g_iconst (nI 2) rfl (by decide) ?_
    refine g_icmp_ne rfl (fun c2 => ?_) (fun c2 => ?_)
    · refine g_load rfl rfl rfl trivial ?_
      refine g_load rfl rfl rfl trivial ?_
      refine g_virtI (a := 25) (ci := 8) (n := 1) [.int (nI t)] rFr_tr rfl rfl (by decide) rfl r_this rfl (Nat.le_of_ble_eq_true rfl) (Nat.le_refl _) (Nat.le_refl _) (r_latestBid t n ht hc (by omega) ⟨_, rfl, ?_⟩)
      refine g_store [some (.ref 25), some (.int (nI t)), some (.int c), some (.int (oI (last nz (cf u t) n))), some (.int (bI (otF (cf u t) n))), some (.int (oI (last ge3 (cf u t) n)))] rfl rfl trivial (Nat.le_of_ble_eq_true rfl) rfl ?_
      refine g_load rfl rfl rfl trivial ?_
      refine g_iconst (-1) rfl (by decide) ?_
      refine g_icmp_eq rfl (fun c3 => ?_) (fun c3 => ?_)
      · have e2 := oI_m1 c3 (fun i hi => by have := (last_lt hi).1; omega)
        refine g_iconst (nI 1) rfl (by decide) ?_
        refine g_goto rfl ?_
        refine g_vret rfl trivial (by first | exact ⟨by decide, by decide⟩ | trivial) (Nat.le_refl _) (Nat.le_refl _) ?_
        refine Qe ?_ hQ
        have h10 : ¬ nI 1 = 0 := by decide
        have h20 : ¬ nI 2 = 0 := by decide
        have h1 : nI 1 = 1 := by decide
        have h2 : nI 2 = 2 := by decide
        have h21 : ¬ (2 : Int32) = 1 := by decide
        unfold otF at *
        cases hl : last nz (cf u t) n <;> simp_all [mcF, bI, Int32.not_le, Int32.not_lt, nI_0]
        all_goals (intro q; exact absurd q (by rw [Int32.not_lt]; assumption))
      · obtain ⟨b, e2⟩ := oI_some c3
        have hb := (last_lt e2).1
        rw [e2]
        refine g_load rfl rfl rfl trivial ?_
        refine g_load rfl rfl rfl trivial ?_
        refine g_load rfl rfl rfl trivial ?_
        refine g_load rfl rfl rfl trivial ?_
        refine g_virtI (a := 25) (ci := 8) (n := 2) [.int (nI t), .int (nI b)] rFr_tr rfl rfl (by decide) rfl r_this rfl (Nat.le_of_ble_eq_true rfl) (Nat.le_refl _) (Nat.le_refl _) (r_callAt t b ht (by omega) ⟨_, rfl, ?_⟩)
        refine g_icmp_le rfl (fun c4 => ?_) (fun c4 => ?_)
        · refine g_iconst (nI 0) rfl (by decide) ?_
          refine g_vret rfl trivial (by first | exact ⟨by decide, by decide⟩ | trivial) (Nat.le_refl _) (Nat.le_refl _) ?_
          refine Qe ?_ hQ
          have h10 : ¬ nI 1 = 0 := by decide
          have h20 : ¬ nI 2 = 0 := by decide
          have h1 : nI 1 = 1 := by decide
          have h2 : nI 2 = 2 := by decide
          have h21 : ¬ (2 : Int32) = 1 := by decide
          unfold otF at *
          cases hl : last nz (cf u t) n <;> simp_all [mcF, bI, Int32.not_le, Int32.not_lt, nI_0]
          all_goals (intro q; exact absurd q (by rw [Int32.not_lt]; assumption))
        · refine g_iconst (nI 1) rfl (by decide) ?_
          refine g_goto rfl ?_
          refine g_vret rfl trivial (by first | exact ⟨by decide, by decide⟩ | trivial) (Nat.le_refl _) (Nat.le_refl _) ?_
          refine Qe ?_ hQ
          have h10 : ¬ nI 1 = 0 := by decide
          have h20 : ¬ nI 2 = 0 := by decide
          have h1 : nI 1 = 1 := by decide
          have h2 : nI 2 = 2 := by decide
          have h21 : ¬ (2 : Int32) = 1 := by decide
          unfold otF at *
          cases hl : last nz (cf u t) n <;> simp_all [mcF, bI, Int32.not_le, Int32.not_lt, nI_0]
          all_goals (intro q; exact absurd q (by rw [Int32.not_lt]; assumption))
    · subst c2
      refine g_load rfl rfl rfl trivial ?_
      refine g_if_eq rfl (fun c5 => ?_) (fun c5 => ?_)
      · rw [bI_eq] at c5
        refine g_iconst (nI 0) rfl (by decide) ?_
        refine g_vret rfl trivial (by first | exact ⟨by decide, by decide⟩ | trivial) (Nat.le_refl _) (Nat.le_refl _) ?_
        refine Qe ?_ hQ
        have h10 : ¬ nI 1 = 0 := by decide
        have h20 : ¬ nI 2 = 0 := by decide
        have h1 : nI 1 = 1 := by decide
        have h2 : nI 2 = 2 := by decide
        have h21 : ¬ (2 : Int32) = 1 := by decide
        unfold otF at *
        cases hl : last nz (cf u t) n <;> simp_all [mcF, bI, Int32.not_le, Int32.not_lt, nI_0]
        all_goals (intro q; exact absurd q (by rw [Int32.not_lt]; assumption))
      · rw [bI_ne] at c5
        obtain ⟨i, e1, hi⟩ := otF_t c5
        rw [e1]
        refine g_load rfl rfl rfl trivial ?_
        refine g_load rfl rfl rfl trivial ?_
        refine g_load rfl rfl rfl trivial ?_
        refine g_virtI (a := 25) (ci := 8) (n := 2) [.int (nI t), .int (nI i)] rFr_tr rfl rfl (by decide) rfl r_this rfl (Nat.le_of_ble_eq_true rfl) (Nat.le_refl _) (Nat.le_refl _) (r_callAt t i ht (by omega) ⟨_, rfl, ?_⟩)
        refine g_iconst (nI 1) rfl (by decide) ?_
        refine g_icmp_ne rfl (fun c6 => ?_) (fun c6 => ?_)
        · refine g_iconst (nI 0) rfl (by decide) ?_
          refine g_vret rfl trivial (by first | exact ⟨by decide, by decide⟩ | trivial) (Nat.le_refl _) (Nat.le_refl _) ?_
          refine Qe ?_ hQ
          have h10 : ¬ nI 1 = 0 := by decide
          have h20 : ¬ nI 2 = 0 := by decide
          have h1 : nI 1 = 1 := by decide
          have h2 : nI 2 = 2 := by decide
          have h21 : ¬ (2 : Int32) = 1 := by decide
          unfold otF at *
          cases hl : last nz (cf u t) n <;> simp_all [mcF, bI, Int32.not_le, Int32.not_lt, nI_0]
          all_goals (intro q; exact absurd q (by rw [Int32.not_lt]; assumption))
        · refine g_iconst (nI 1) rfl (by decide) ?_
          refine g_goto rfl ?_
          refine g_vret rfl trivial (by first | exact ⟨by decide, by decide⟩ | trivial) (Nat.le_refl _) (Nat.le_refl _) ?_
          refine Qe ?_ hQ
          have h10 : ¬ nI 1 = 0 := by decide
          have h20 : ¬ nI 2 = 0 := by decide
          have h1 : nI 1 = 1 := by decide
          have h2 : nI 2 = 2 := by decide
          have h21 : ¬ (2 : Int32) = 1 := by decide
          unfold otF at *
          cases hl : last nz (cf u t) n <;> simp_all [mcF, bI, Int32.not_le, Int32.not_lt, nI_0]
          all_goals (intro q; exact absurd q (by rw [Int32.not_lt]; assumption))
  · subst c1
    refine g_load rfl rfl rfl trivial ?_
    refine g_if_eq rfl (fun c7 => ?_) (fun c7 => ?_)
    · rw [bI_eq] at c7
      refine g_iconst (nI 0) rfl (by decide) ?_
      refine g_vret rfl trivial (by first | exact ⟨by decide, by decide⟩ | trivial) (Nat.le_refl _) (Nat.le_refl _) ?_
      refine Qe ?_ hQ
      have h10 : ¬ nI 1 = 0 := by decide
      have h20 : ¬ nI 2 = 0 := by decide
      have h1 : nI 1 = 1 := by decide
      have h2 : nI 2 = 2 := by decide
      have h21 : ¬ (2 : Int32) = 1 := by decide
      unfold otF at *
      cases hl : last nz (cf u t) n <;> simp_all [mcF, bI, Int32.not_le, Int32.not_lt, nI_0]
      all_goals (intro q; exact absurd q (by rw [Int32.not_lt]; assumption))
    · rw [bI_ne] at c7
      obtain ⟨i, e1, hi⟩ := otF_t c7
      rw [e1]
      refine g_load rfl rfl rfl trivial ?_
      refine g_load rfl rfl rfl trivial ?_
      refine g_load rfl rfl rfl trivial ?_
      refine g_virtI (a := 25) (ci := 8) (n := 2) [.int (nI t), .int (nI i)] rFr_tr rfl rfl (by decide) rfl r_this rfl (Nat.le_of_ble_eq_true rfl) (Nat.le_refl _) (Nat.le_refl _) (r_callAt t i ht (by omega) ⟨_, rfl, ?_⟩)
      refine g_iconst (nI 2) rfl (by decide) ?_
      refine g_icmp_le rfl (fun c8 => ?_) (fun c8 => ?_)
      · refine g_iconst (nI 0) rfl (by decide) ?_
        refine g_vret rfl trivial (by first | exact ⟨by decide, by decide⟩ | trivial) (Nat.le_refl _) (Nat.le_refl _) ?_
        refine Qe ?_ hQ
        have h10 : ¬ nI 1 = 0 := by decide
        have h20 : ¬ nI 2 = 0 := by decide
        have h1 : nI 1 = 1 := by decide
        have h2 : nI 2 = 2 := by decide
        have h21 : ¬ (2 : Int32) = 1 := by decide
        unfold otF at *
        cases hl : last nz (cf u t) n <;> simp_all [mcF, bI, Int32.not_le, Int32.not_lt, nI_0]
        all_goals (intro q; exact absurd q (by rw [Int32.not_lt]; assumption))
      · refine g_iconst (nI 1) rfl (by decide) ?_
        refine g_goto rfl ?_
        refine g_vret rfl trivial (by first | exact ⟨by decide, by decide⟩ | trivial) (Nat.le_refl _) (Nat.le_refl _) ?_
        refine Qe ?_ hQ
        have h10 : ¬ nI 1 = 0 := by decide
        have h20 : ¬ nI 2 = 0 := by decide
        have h1 : nI 1 = 1 := by decide
        have h2 : nI 2 = 2 := by decide
        have h21 : ¬ (2 : Int32) = 1 := by decide
        unfold otF at *
        cases hl : last nz (cf u t) n <;> simp_all [mcF, bI, Int32.not_le, Int32.not_lt, nI_0]
        all_goals (intro q; exact absurd q (by rw [Int32.not_lt]; assumption))
set_option maxRecDepth 20000 in
theorem r_mayCall {pr : aC} {d : Nat} {u : rS} (t n bd : Nat) (c : Int32) (ht : t < 10) (hc : u.2 31 t = nI n) (hn : n < 340) (hbd : u.2 29 t = nI (bd + 1)) (hbd2 : bd < 36) {Q : Option Value → rS → Prop} (hQ : Q (some (.int (bI (mcF (cf u t) n c)))) u) : rR pr (d + 2 + 1) 181 [.ref 25, .int (nI t), .int c] u Q := by
  refine gR_of mi_181 rFr_rf rfl (Nat.le_of_ble_eq_true rfl) ?_
  show rB pr (d + 2) cd_181 (Option.some Jvm.ClassFile.FieldType.boolean) Q 0 [some (.ref 25), some (.int (nI t)), some (.int c), none, none, none] [] u
  refine g_load rfl rfl rfl trivial ?_
  refine g_iconst (nI 0) rfl (by decide) ?_
  refine g_bipush (nI 37) rfl (by decide) ?_
  refine g_statI [.int c, .int (nI 0), .int (nI 37)] rFr_tr rfl rfl rfl (Nat.le_of_ble_eq_true rfl) (Nat.le_refl _) (Nat.le_refl _) (r_in c 0 37 ⟨_, rfl, ?_⟩)
  refine g_if_ne rfl (fun c1 => ?_) (fun c1 => ?_)
  · rw [bI_ne] at c1
    refine g_load rfl rfl rfl trivial ?_
    refine g_if_ne rfl (fun c2 => ?_) (fun c2 => ?_)
    · refine g_load rfl rfl rfl trivial ?_
      refine g_load rfl rfl rfl trivial ?_
      refine g_virtI (a := 25) (ci := 8) (n := 1) [.int (nI t)] rFr_tr rfl rfl (by decide) rfl r_this rfl (Nat.le_of_ble_eq_true rfl) (Nat.le_refl _) (Nat.le_refl _) (r_latestCall t n ht hc (by omega) ⟨_, rfl, ?_⟩)
      refine g_store [some (.ref 25), some (.int (nI t)), some (.int c), some (.int (oI (last nz (cf u t) n))), none, none] rfl rfl trivial (Nat.le_of_ble_eq_true rfl) rfl ?_
      refine g_load rfl rfl rfl trivial ?_
      refine g_iconst (-1) rfl (by decide) ?_
      refine g_icmp_eq rfl (fun c3 => ?_) (fun c3 => ?_)
      · have e1 := oI_m1 c3 (fun i hi => by have := (last_lt hi).1; omega)
        have ho : nI 0 = bI (otF (cf u t) n) := by unfold otF; rw [e1]; rfl
        refine g_iconst (nI 0) rfl (by decide) ?_
        rw [ho]
        try rw [← e1]
        refine g_store [some (.ref 25), some (.int (nI t)), some (.int c), some (.int (oI (last nz (cf u t) n))), some (.int (bI (otF (cf u t) n))), none] rfl rfl trivial (Nat.le_of_ble_eq_true rfl) rfl ?_
        exact r_mayCall_2 t n bd c c1 c2 ht hc hn hQ
      · obtain ⟨i, e1⟩ := oI_some c3
        have hi := (last_lt e1).1
        rw [e1]
        refine g_load rfl rfl rfl trivial ?_
        refine g_load rfl rfl rfl trivial ?_
        refine g_load rfl rfl rfl trivial ?_
        refine g_virtI (a := 25) (ci := 8) (n := 2) [.int (nI t), .int (nI i)] rFr_tr rfl rfl (by decide) rfl r_this rfl (Nat.le_of_ble_eq_true rfl) (Nat.le_refl _) (Nat.le_refl _) (r_callerOf t i bd ht (by omega) hbd hbd2 ⟨_, rfl, ?_⟩)
        refine g_load rfl rfl rfl trivial ?_
        refine r_getf rfl rfl ?_
        refine g_load rfl rfl rfl trivial ?_
        refine r_ia (t) rfl ⟨by decide, by decide, rfl⟩ rfl (by show _ < 10; omega) ?_
        rw [hc]
        refine g_iadd rfl ?_
        rw [nI_add]
        refine g_load rfl rfl rfl trivial ?_
        refine r_getf rfl rfl ?_
        refine g_load rfl rfl rfl trivial ?_
        refine r_ia (t) rfl ⟨by decide, by decide, rfl⟩ rfl (by show _ < 10; omega) ?_
        rw [hbd]
        refine g_statI [.int (nI (bd + 1))] rFr_tr rfl rfl rfl (Nat.le_of_ble_eq_true rfl) (Nat.le_refl _) (Nat.le_refl _) (r_dealer bd (by omega) ⟨_, rfl, ?_⟩)
        refine g_iadd rfl ?_
        rw [nI_add]
        refine g_iconst (nI 2) rfl (by decide) ?_
        refine g_irem rfl (by decide) ?_
        rw [pk_rem (by omega) (by omega) (by omega)]
        refine g_iconst (nI 1) rfl (by decide) ?_
        refine g_icmp_ne rfl (fun c4 => ?_) (fun c4 => ?_)
        · rw [nI_eq (by omega) (by omega)] at c4
          have ho : nI 0 = bI (otF (cf u t) n) := by
            have : ¬ (i + n) % 2 = 1 := by omega
            unfold otF; rw [e1]; simp [bI, this, nI_0]
          refine g_iconst (nI 0) rfl (by decide) ?_
          rw [ho]
          try rw [← e1]
          refine g_store [some (.ref 25), some (.int (nI t)), some (.int c), some (.int (oI (last nz (cf u t) n))), some (.int (bI (otF (cf u t) n))), none] rfl rfl trivial (Nat.le_of_ble_eq_true rfl) rfl ?_
          exact r_mayCall_2 t n bd c c1 c2 ht hc hn hQ
        · rw [nI_eq (by omega) (by omega)] at c4
          have ho : nI 1 = bI (otF (cf u t) n) := by
            have : (i + n) % 2 = 1 := by omega
            unfold otF; rw [e1]; simp [bI, this, nI1]
          refine g_iconst (nI 1) rfl (by decide) ?_
          refine g_goto rfl ?_
          rw [ho]
          try rw [← e1]
          refine g_store [some (.ref 25), some (.int (nI t)), some (.int c), some (.int (oI (last nz (cf u t) n))), some (.int (bI (otF (cf u t) n))), none] rfl rfl trivial (Nat.le_of_ble_eq_true rfl) rfl ?_
          exact r_mayCall_2 t n bd c c1 c2 ht hc hn hQ
    · refine g_iconst (nI 1) rfl (by decide) ?_
      refine g_vret rfl trivial (by first | exact ⟨by decide, by decide⟩ | trivial) (Nat.le_refl _) (Nat.le_refl _) ?_
      refine Qe ?_ hQ
      simp [mcF, *]
      try rfl
  · rw [bI_eq] at c1
    refine g_iconst (nI 0) rfl (by decide) ?_
    refine g_vret rfl trivial (by first | exact ⟨by decide, by decide⟩ | trivial) (Nat.le_refl _) (Nat.le_refl _) ?_
    refine Qe ?_ hQ
    simp [mcF, *]
    try rfl
