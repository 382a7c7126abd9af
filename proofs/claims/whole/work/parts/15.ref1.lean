/-! ===== the reference: small methods ===== -/
def bI (b : Bool) : Int32 := if b then 1 else 0
theorem nI1 : nI 1 = 1 := by decide
theorem bI_t : bI true = 1 := rfl
theorem bI_f : bI false = 0 := rfl
theorem bI_ne {b : Bool} : ¬ bI b = 0 ↔ b = true := by cases b <;> decide
theorem bI_eq {b : Bool} : bI b = 0 ↔ b = false := by cases b <;> decide
theorem bI_rt (b : Bool) : aRT (some .boolean) (some (.int (bI b))) := by cases b <;> exact ⟨by decide, by decide⟩
def oI (o : Option Nat) : Int32 := match o with
  | some n => nI n
  | none => -1
def pI : Nat → Int32
  | 0 => -1
  | n + 1 => nI n
theorem pI_eq (n : Nat) : nI n - nI 1 = pI n := by
  cases n with
  | zero => decide
  | succ n => exact nI_pred n
theorem Qe {Q : Option Value → rS → Prop} {u : rS} {a b : Value} (h : a = b) (hQ : Q (some a) u) : Q (some b) u := h ▸ hQ
def inF (v lo hi : Int32) : Bool := decide (lo ≤ v) && decide (v ≤ hi)
set_option maxRecDepth 20000 in
theorem r_in {pr : aC} {d : Nat} {u : rS} (v lo hi : Int32) {Q : Option Value → rS → Prop} (hQ : Q (some (.int (bI (inF v lo hi)))) u) : rR pr (d + 1) 159 [.int v, .int lo, .int hi] u Q := by
  refine gR_of mi_159 rFr_rf rfl (Nat.le_of_ble_eq_true rfl) ?_
  show rB pr (d) cd_159 (Option.some Jvm.ClassFile.FieldType.boolean) Q 0 [some (.int v), some (.int lo), some (.int hi)] [] u
  refine g_load rfl rfl rfl trivial ?_
  refine g_load rfl rfl rfl trivial ?_
  refine g_icmp_lt rfl (fun c1 => ?_) (fun c1 => ?_)
  · refine g_iconst (nI 0) rfl (by decide) ?_
    refine g_vret rfl trivial (by first | exact ⟨by decide, by decide⟩ | trivial) (Nat.le_refl _) (Nat.le_refl _) ?_
    refine Qe ?_ hQ
    simp only [inF, bI, Bool.and_eq_true, decide_eq_true_eq, Int32.le_iff_toInt_le, Int32.lt_iff_toInt_lt] at *
    split <;> first | rfl | omega
  · refine g_load rfl rfl rfl trivial ?_
    refine g_load rfl rfl rfl trivial ?_
    refine g_icmp_gt rfl (fun c2 => ?_) (fun c2 => ?_)
    · refine g_iconst (nI 0) rfl (by decide) ?_
      refine g_vret rfl trivial (by first | exact ⟨by decide, by decide⟩ | trivial) (Nat.le_refl _) (Nat.le_refl _) ?_
      refine Qe ?_ hQ
      simp only [inF, bI, Bool.and_eq_true, decide_eq_true_eq, Int32.le_iff_toInt_le, Int32.lt_iff_toInt_lt] at *
      split <;> first | rfl | omega
    · refine g_iconst (nI 1) rfl (by decide) ?_
      refine g_goto rfl ?_
      refine g_vret rfl trivial (by first | exact ⟨by decide, by decide⟩ | trivial) (Nat.le_refl _) (Nat.le_refl _) ?_
      refine Qe ?_ hQ
      simp only [inF, bI, Bool.and_eq_true, decide_eq_true_eq, Int32.le_iff_toInt_le, Int32.lt_iff_toInt_lt] at *
      split <;> first | rfl | omega
set_option maxRecDepth 20000 in
theorem r_modulo {pr : aC} {d : Nat} {u : rS} (a n : Int32) (hn : ¬ n = 0) {Q : Option Value → rS → Prop} (hQ : Q (some (.int (if a - a / n * n < 0 then a - a / n * n + n else a - a / n * n))) u) : rR pr (d + 1) 160 [.int a, .int n] u Q := by
  refine gR_of mi_160 rFr_rf rfl (Nat.le_of_ble_eq_true rfl) ?_
  show rB pr (d) cd_160 (Option.some Jvm.ClassFile.FieldType.int) Q 0 [some (.int a), some (.int n), none] [] u
  refine g_load rfl rfl rfl trivial ?_
  refine g_load rfl rfl rfl trivial ?_
  refine g_irem rfl hn ?_
  refine g_store [some (.int a), some (.int n), some (.int (a - a / n * n))] rfl rfl trivial (Nat.le_of_ble_eq_true rfl) rfl ?_
  refine g_load rfl rfl rfl trivial ?_
  refine g_if_ge rfl (fun c1 => ?_) (fun c1 => ?_)
  · refine g_load rfl rfl rfl trivial ?_
    refine g_vret rfl trivial ⟨rfl, rfl⟩ (Nat.le_refl _) (Nat.le_refl _) ?_
    refine Qe ?_ hQ
    simp only [Int32.le_iff_toInt_le, Int32.lt_iff_toInt_lt] at *
    split <;> first | rfl | omega
  · refine g_load rfl rfl rfl trivial ?_
    refine g_load rfl rfl rfl trivial ?_
    refine g_iadd rfl ?_
    refine g_goto rfl ?_
    refine g_vret rfl trivial ⟨rfl, rfl⟩ (Nat.le_refl _) (Nat.le_refl _) ?_
    refine Qe ?_ hQ
    simp only [Int32.le_iff_toInt_le, Int32.lt_iff_toInt_lt] at *
    split <;> first | rfl | omega
def isBd (u : rS) (b : Int32) : Bool := inF b 1 (u.1 0)
set_option maxRecDepth 20000 in
theorem r_isBoard {pr : aC} {d : Nat} {u : rS} (b : Int32) {Q : Option Value → rS → Prop} (hQ : Q (some (.int (bI (isBd u b)))) u) : rR pr ((d + 1) + 1) 162 [.ref 25, .int b] u Q := by
  refine gR_of mi_162 rFr_rf rfl (Nat.le_of_ble_eq_true rfl) ?_
  show rB pr ((d + 1)) cd_162 (Option.some Jvm.ClassFile.FieldType.boolean) Q 0 [some (.ref 25), some (.int b)] [] u
  refine g_load rfl rfl rfl trivial ?_
  refine g_iconst (nI 1) rfl (by decide) ?_
  refine g_load rfl rfl rfl trivial ?_
  refine r_getf rfl rfl ?_
  refine g_statI [.int b, .int (nI 1), .int (u.1 0)] rFr_tr rfl rfl rfl (Nat.le_of_ble_eq_true rfl) (Nat.le_refl _) (Nat.le_refl _) (r_in _ _ _ ⟨_, rfl, ?_⟩)
  exact g_vret rfl trivial (bI_rt _) (Nat.le_refl _) (Nat.le_refl _) hQ
def isCd (b : Int32) : Bool := inF b 0 51
set_option maxRecDepth 20000 in
theorem r_isCard {pr : aC} {d : Nat} {u : rS} (b : Int32) {Q : Option Value → rS → Prop} (hQ : Q (some (.int (bI (isCd b)))) u) : rR pr ((d + 1) + 1) 163 [.int b] u Q := by
  refine gR_of mi_163 rFr_rf rfl (Nat.le_of_ble_eq_true rfl) ?_
  show rB pr ((d + 1)) cd_163 (Option.some Jvm.ClassFile.FieldType.boolean) Q 0 [some (.int b)] [] u
  refine g_load rfl rfl rfl trivial ?_
  refine g_iconst (nI 0) rfl (by decide) ?_
  refine g_bipush (nI 51) rfl (by decide) ?_
  refine g_statI [.int b, .int (nI 0), .int (nI 51)] rFr_tr rfl rfl rfl (Nat.le_of_ble_eq_true rfl) (Nat.le_refl _) (Nat.le_refl _) (r_in _ _ _ ⟨_, rfl, ?_⟩)
  exact g_vret rfl trivial (bI_rt _) (Nat.le_refl _) (Nat.le_refl _) hQ
