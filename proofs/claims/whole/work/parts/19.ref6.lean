/-! ===== the reference: scores ===== -/
def lsK (v : Bool) (k : Nat) : Nat := if k = 1 then (if v then 200 else 100) else if v || decide (3 < k) then 300 else 200
def lsS (v : Bool) : Nat → Nat
  | 0 => 0
  | k + 1 => lsS v k + lsK v (k + 1)
theorem lsS_le (v : Bool) : ∀ k, lsS v k ≤ 300 * k
  | 0 => Nat.le_refl 0
  | k + 1 => by
    have := lsS_le v k
    have h : lsK v (k + 1) ≤ 300 := by unfold lsK; split <;> split <;> omega
    unfold lsS; omega
def lsF (n db : Nat) (v : Bool) : Nat := if db = 0 then n * (if v then 100 else 50) else lsS v n * db
set_option maxRecDepth 20000 in
theorem r_lost_l {pr : aC} {d : Nat} {u : rS} (n db : Nat) (v : Bool) (hn : n ≤ 13) (hdb : db ≤ 2) {Q : Option Value → rS → Prop} (hQ : Q (some (.int (nI (lsS v n * db)))) u) : ∀ (zz : Nat) (i : Nat) (hm : n - i < zz) (hle : i ≤ n), rB pr (d) cd_210 (Option.some Jvm.ClassFile.FieldType.int) Q 14 [some (.int (nI n)), some (.int (nI db)), some (.int (bI v)), some (.int (nI (lsS v i))), some (.int (nI (i + 1)))] [] u := by
  intro zz
  induction zz with
  | zero => intro i hm hle; exact absurd hm (by omega)
  | succ zz ih =>
    intro i hm hle
    refine g_load rfl rfl rfl trivial ?_
    refine g_load rfl rfl rfl trivial ?_
    refine g_icmp_gt rfl (fun c1 => ?_) (fun c1 => ?_)
    · rw [nI_ltI (by omega) (by omega)] at c1
      have hi : i = n := by omega
      subst hi
      refine g_load rfl rfl rfl trivial ?_
      refine g_load rfl rfl rfl trivial ?_
      refine g_imul rfl ?_
      rw [pk_mul]
      exact g_vret rfl trivial ⟨rfl, rfl⟩ (Nat.le_refl _) (Nat.le_refl _) hQ
    · rw [nI_ltI (by omega) (by omega)] at c1
      refine g_load rfl rfl rfl trivial ?_
      refine g_load rfl rfl rfl trivial ?_
      refine g_iconst (nI 1) rfl (by decide) ?_
      have K2 : ∀ e2 : Int32, e2 = nI (lsK v (i + 1)) → rB pr (d) cd_210 (Option.some Jvm.ClassFile.FieldType.int) Q 35 [some (.int (nI n)), some (.int (nI db)), some (.int (bI v)), some (.int (nI (lsS v i))), some (.int (nI (i + 1)))] [.int e2, .int (nI (lsS v i))] u := by
        intro e2 he2
        subst he2
        refine g_iadd rfl ?_
        rw [nI_add]
        refine g_store [some (.int (nI n)), some (.int (nI db)), some (.int (bI v)), some (.int (nI (lsS v (i + 1)))), some (.int (nI (i + 1)))] rfl rfl trivial (Nat.le_of_ble_eq_true rfl) rfl ?_
        refine g_iinc (nI (i + 1 + 1)) [some (.int (nI n)), some (.int (nI db)), some (.int (bI v)), some (.int (nI (lsS v (i + 1)))), some (.int (nI (i + 1 + 1)))] rfl rfl (nI_1 (i + 1)) rfl ?_
        refine g_goto rfl ?_
        exact ih (i + 1) (by omega) (by omega)
      refine g_icmp_ne rfl (fun c2 => ?_) (fun c2 => ?_)
      · rw [nI_eq (by omega) (by omega)] at c2
        have hk1 : ¬ i = 0 := by omega
        refine g_load rfl rfl rfl trivial ?_
        refine g_if_ne rfl (fun c3 => ?_) (fun c3 => ?_)
        · rw [bI_ne] at c3
          subst c3
          refine g_sipush (nI 300) rfl (by decide) ?_
          refine g_goto rfl ?_
          exact K2 _ (by simp [lsK, *])
        · rw [bI_eq] at c3
          subst c3
          refine g_load rfl rfl rfl trivial ?_
          refine g_iconst (nI 3) rfl (by decide) ?_
          refine g_icmp_le rfl (fun c4 => ?_) (fun c4 => ?_)
          · rw [nI_leI (by omega) (by omega)] at c4
            have h3 : ¬ 3 < i + 1 := by omega
            refine g_sipush (nI 200) rfl (by decide) ?_
            exact K2 _ (by simp [lsK, *])
          · rw [nI_leI (by omega) (by omega)] at c4
            have h3 : 3 < i + 1 := by omega
            refine g_sipush (nI 300) rfl (by decide) ?_
            refine g_goto rfl ?_
            exact K2 _ (by simp [lsK, *])
      · rw [nI_eq (by omega) (by omega)] at c2
        have hk1 : i = 0 := by omega
        refine g_load rfl rfl rfl trivial ?_
        refine g_if_eq rfl (fun c5 => ?_) (fun c5 => ?_)
        · rw [bI_eq] at c5
          subst c5
          refine g_bipush (nI 100) rfl (by decide) ?_
          refine g_goto rfl ?_
          exact K2 _ (by simp [lsK, *])
        · rw [bI_ne] at c5
          subst c5
          refine g_sipush (nI 200) rfl (by decide) ?_
          refine g_goto rfl ?_
          exact K2 _ (by simp [lsK, *])
set_option maxRecDepth 20000 in
theorem r_lost {pr : aC} {d : Nat} {u : rS} (n db : Nat) (v : Bool) (hn : n ≤ 13) (hdb : db ≤ 2) {Q : Option Value → rS → Prop} (hQ : Q (some (.int (nI (lsF n db v)))) u) : rR pr (d + 1) 210 [.int (nI n), .int (nI db), .int (bI v)] u Q := by
  refine gR_of mi_210 rFr_rf rfl (Nat.le_of_ble_eq_true rfl) ?_
  show rB pr (d) cd_210 (Option.some Jvm.ClassFile.FieldType.int) Q 0 [some (.int (nI n)), some (.int (nI db)), some (.int (bI v)), none, none] [] u
  refine g_load rfl rfl rfl trivial ?_
  refine g_if_ne rfl (fun c1 => ?_) (fun c1 => ?_)
  · rw [← nI_0, nI_eq (by omega) (by omega)] at c1
    rw [show lsF n db v = lsS v n * db by unfold lsF; rw [if_neg c1]] at hQ
    refine g_iconst (nI 0) rfl (by decide) ?_
    refine g_store [some (.int (nI n)), some (.int (nI db)), some (.int (bI v)), some (.int (nI 0)), none] rfl rfl trivial (Nat.le_of_ble_eq_true rfl) rfl ?_
    refine g_iconst (nI 1) rfl (by decide) ?_
    refine g_store [some (.int (nI n)), some (.int (nI db)), some (.int (bI v)), some (.int (nI 0)), some (.int (nI 1))] rfl rfl trivial (Nat.le_of_ble_eq_true rfl) rfl ?_
    exact r_lost_l n db v hn hdb hQ (n + 1) 0 (by omega) (by omega)
  · rw [← nI_0, nI_eq (by omega) (by omega)] at c1
    rw [show lsF n db v = n * (if v then 100 else 50) by unfold lsF; rw [if_pos c1]] at hQ
    refine g_load rfl rfl rfl trivial ?_
    refine g_load rfl rfl rfl trivial ?_
    refine g_if_eq rfl (fun c2 => ?_) (fun c2 => ?_)
    · rw [bI_eq] at c2
      subst c2
      refine g_bipush (nI 50) rfl (by decide) ?_
      refine g_imul rfl ?_
      rw [pk_mul]
      exact g_vret rfl trivial ⟨rfl, rfl⟩ (Nat.le_refl _) (Nat.le_refl _) hQ
    · rw [bI_ne] at c2
      subst c2
      refine g_bipush (nI 100) rfl (by decide) ?_
      refine g_goto rfl ?_
      refine g_imul rfl ?_
      rw [pk_mul]
      exact g_vret rfl trivial ⟨rfl, rfl⟩ (Nat.le_refl _) (Nat.le_refl _) hQ
/-- a contract's score: level lv (1 .. 7), strain sr (0 .. 4), db 0 .. 2, tricks tk (0 .. 13) -/
def scE (sr : Nat) : Nat := if sr < 2 then 20 else 30
def sc1 (lv sr db : Nat) : Nat := (lv * scE sr + (if sr = 4 then 10 else 0)) * (if db = 0 then 1 else 2 * db)
def sc2 (lv sr db : Nat) (v : Bool) : Nat := sc1 lv sr db + (if sc1 lv sr db < 100 then 50 else if v then 500 else 300)
def sc3 (lv sr db : Nat) (v : Bool) : Nat := sc2 lv sr db v + (if lv = 6 then (if v then 750 else 500) else 0)
def sc4 (lv sr db : Nat) (v : Bool) : Nat := sc3 lv sr db v + (if lv = 7 then (if v then 1500 else 1000) else 0)
def scM (sr db : Nat) (v : Bool) : Nat := if db = 0 then scE sr else (if v then 200 else 100) * db
def scF (lv sr db : Nat) (v : Bool) (tk : Nat) : Int32 := if tk < lv + 6 then -nI (lsF (lv + 6 - tk) db v) else nI (sc4 lv sr db v + 50 * db + (tk - lv - 6) * scM sr db v)
theorem scE_le (sr : Nat) : scE sr ≤ 30 := by unfold scE; split <;> omega
theorem sc1_le {lv sr db : Nat} (h1 : lv ≤ 7) (h3 : db ≤ 2) : sc1 lv sr db ≤ 880 := by
  have := scE_le sr
  have h : lv * scE sr ≤ 7 * 30 := Nat.mul_le_mul h1 this
  unfold sc1
  rcases (show db = 0 ∨ db = 1 ∨ db = 2 by omega) with rfl | rfl | rfl <;> split <;> simp <;> omega
theorem sc2_le {lv sr db : Nat} {v : Bool} (h1 : lv ≤ 7) (h3 : db ≤ 2) : sc2 lv sr db v ≤ 1400 := by
  have := sc1_le (sr := sr) h1 h3
  unfold sc2; split <;> (try split) <;> omega
set_option maxRecDepth 20000 in
theorem r_score_d {pr : aC} {d : Nat} {u : rS} (lv sr db tk : Nat) (v : Bool) (h1 : 1 ≤ lv ∧ lv ≤ 7) (h2 : sr ≤ 4) (h3 : db ≤ 2) (h5 : tk ≤ 13) (hov : lv + 6 ≤ tk) {Q : Option Value → rS → Prop} (hQ : Q (some (.int (nI (sc4 lv sr db v + 50 * db + (tk - lv - 6) * scM sr db v)))) u) : rB pr (d) cd_209 (Option.some Jvm.ClassFile.FieldType.int) Q 98 [some (.ref 25), some (.int (nI lv)), some (.int (nI sr)), some (.int (nI db)), some (.int (bI v)), some (.int (nI tk)), some (.int (nI (tk - lv - 6))), some (.int (nI (scE sr))), some (.int (nI (sc4 lv sr db v))), none] [] u := by
  refine g_load rfl rfl rfl trivial ?_
  refine g_bipush (nI 50) rfl (by decide) ?_
  refine g_load rfl rfl rfl trivial ?_
  refine g_imul rfl ?_
  refine g_iadd rfl ?_
  rw [pk_mul, nI_add]
  refine g_store [some (.ref 25), some (.int (nI lv)), some (.int (nI sr)), some (.int (nI db)), some (.int (bI v)), some (.int (nI tk)), some (.int (nI (tk - lv - 6))), some (.int (nI (scE sr))), some (.int (nI (sc4 lv sr db v + 50 * db))), none] rfl rfl trivial (Nat.le_of_ble_eq_true rfl) rfl ?_
  refine g_load rfl rfl rfl trivial ?_
  have K1 : ∀ e1 : Int32, e1 = nI (scM sr db v) → rB pr (d) cd_209 (Option.some Jvm.ClassFile.FieldType.int) Q 115 [some (.ref 25), some (.int (nI lv)), some (.int (nI sr)), some (.int (nI db)), some (.int (bI v)), some (.int (nI tk)), some (.int (nI (tk - lv - 6))), some (.int (nI (scE sr))), some (.int (nI (sc4 lv sr db v + 50 * db))), none] [.int e1] u := by
    intro e1 he1
    subst he1
    refine g_store [some (.ref 25), some (.int (nI lv)), some (.int (nI sr)), some (.int (nI db)), some (.int (bI v)), some (.int (nI tk)), some (.int (nI (tk - lv - 6))), some (.int (nI (scE sr))), some (.int (nI (sc4 lv sr db v + 50 * db))), some (.int (nI (scM sr db v)))] rfl rfl trivial (Nat.le_of_ble_eq_true rfl) rfl ?_
    refine g_load rfl rfl rfl trivial ?_
    refine g_load rfl rfl rfl trivial ?_
    refine g_load rfl rfl rfl trivial ?_
    refine g_imul rfl ?_
    refine g_iadd rfl ?_
    rw [pk_mul, nI_add]
    exact g_vret rfl trivial ⟨rfl, rfl⟩ (Nat.le_refl _) (Nat.le_refl _) hQ
  refine g_if_ne rfl (fun c1 => ?_) (fun c1 => ?_)
  · rw [← nI_0, nI_eq (by omega) (by omega)] at c1
    refine g_load rfl rfl rfl trivial ?_
    refine g_if_eq rfl (fun c2 => ?_) (fun c2 => ?_)
    · rw [bI_eq] at c2
      subst c2
      refine g_bipush (nI 100) rfl (by decide) ?_
      refine g_load rfl rfl rfl trivial ?_
      refine g_imul rfl ?_
      exact K1 _ (by simp [scM, *, pk_mul])
    · rw [bI_ne] at c2
      subst c2
      refine g_sipush (nI 200) rfl (by decide) ?_
      refine g_goto rfl ?_
      refine g_load rfl rfl rfl trivial ?_
      refine g_imul rfl ?_
      exact K1 _ (by simp [scM, *, pk_mul])
  · rw [← nI_0, nI_eq (by omega) (by omega)] at c1
    refine g_load rfl rfl rfl trivial ?_
    refine g_goto rfl ?_
    exact K1 _ (by simp [scM, *, pk_mul])
set_option maxRecDepth 20000 in
theorem r_score_c {pr : aC} {d : Nat} {u : rS} (lv sr db tk : Nat) (v : Bool) (h1 : 1 ≤ lv ∧ lv ≤ 7) (h2 : sr ≤ 4) (h3 : db ≤ 2) (h5 : tk ≤ 13) (hov : lv + 6 ≤ tk) {Q : Option Value → rS → Prop} (hQ : Q (some (.int (nI (sc4 lv sr db v + 50 * db + (tk - lv - 6) * scM sr db v)))) u) : rB pr (d) cd_209 (Option.some Jvm.ClassFile.FieldType.int) Q 87 [some (.ref 25), some (.int (nI lv)), some (.int (nI sr)), some (.int (nI db)), some (.int (bI v)), some (.int (nI tk)), some (.int (nI (tk - lv - 6))), some (.int (nI (scE sr))), some (.int (nI (sc3 lv sr db v))), none] [] u := by
  refine g_load rfl rfl rfl trivial ?_
  refine g_bipush (nI 7) rfl (by decide) ?_
  refine g_icmp_ne rfl (fun c1 => ?_) (fun c1 => ?_)
  · rw [nI_eq (by omega) (by omega)] at c1
    rw [show sc3 lv sr db v = sc4 lv sr db v by simp [sc4, c1]]
    exact r_score_d lv sr db tk v h1 h2 h3 h5 hov hQ
  · rw [nI_eq (by omega) (by omega)] at c1
    refine g_load rfl rfl rfl trivial ?_
    refine g_load rfl rfl rfl trivial ?_
    have K2 : ∀ e2 : Int32, e2 = nI (if v then 1500 else 1000) → rB pr (d) cd_209 (Option.some Jvm.ClassFile.FieldType.int) Q 96 [some (.ref 25), some (.int (nI lv)), some (.int (nI sr)), some (.int (nI db)), some (.int (bI v)), some (.int (nI tk)), some (.int (nI (tk - lv - 6))), some (.int (nI (scE sr))), some (.int (nI (sc3 lv sr db v))), none] [.int e2, .int (nI (sc3 lv sr db v))] u := by
      intro e2 he2
      subst he2
      refine g_iadd rfl ?_
      rw [nI_add, show sc3 lv sr db v + (if v then 1500 else 1000) = sc4 lv sr db v by simp [sc4, c1]]
      refine g_store [some (.ref 25), some (.int (nI lv)), some (.int (nI sr)), some (.int (nI db)), some (.int (bI v)), some (.int (nI tk)), some (.int (nI (tk - lv - 6))), some (.int (nI (scE sr))), some (.int (nI (sc4 lv sr db v))), none] rfl rfl trivial (Nat.le_of_ble_eq_true rfl) rfl ?_
      exact r_score_d lv sr db tk v h1 h2 h3 h5 hov hQ
    refine g_if_eq rfl (fun c2 => ?_) (fun c2 => ?_)
    · rw [bI_eq] at c2
      subst c2
      refine g_sipush (nI 1000) rfl (by decide) ?_
      exact K2 _ (by simp [*])
    · rw [bI_ne] at c2
      subst c2
      refine g_sipush (nI 1500) rfl (by decide) ?_
      refine g_goto rfl ?_
      exact K2 _ (by simp [*])
set_option maxRecDepth 20000 in
theorem r_score_b {pr : aC} {d : Nat} {u : rS} (lv sr db tk : Nat) (v : Bool) (h1 : 1 ≤ lv ∧ lv ≤ 7) (h2 : sr ≤ 4) (h3 : db ≤ 2) (h5 : tk ≤ 13) (hov : lv + 6 ≤ tk) {Q : Option Value → rS → Prop} (hQ : Q (some (.int (nI (sc4 lv sr db v + 50 * db + (tk - lv - 6) * scM sr db v)))) u) : rB pr (d) cd_209 (Option.some Jvm.ClassFile.FieldType.int) Q 37 [some (.ref 25), some (.int (nI lv)), some (.int (nI sr)), some (.int (nI db)), some (.int (bI v)), some (.int (nI tk)), some (.int (nI (tk - lv - 6))), none, none, none] [] u := by
  refine g_load rfl rfl rfl trivial ?_
  refine g_iconst (nI 2) rfl (by decide) ?_
  have K1 : ∀ e1 : Int32, e1 = nI (scE sr) → rB pr (d) cd_209 (Option.some Jvm.ClassFile.FieldType.int) Q 43 [some (.ref 25), some (.int (nI lv)), some (.int (nI sr)), some (.int (nI db)), some (.int (bI v)), some (.int (nI tk)), some (.int (nI (tk - lv - 6))), none, none, none] [.int e1] u := by
    intro e1 he1
    subst he1
    refine g_store [some (.ref 25), some (.int (nI lv)), some (.int (nI sr)), some (.int (nI db)), some (.int (bI v)), some (.int (nI tk)), some (.int (nI (tk - lv - 6))), some (.int (nI (scE sr))), none, none] rfl rfl trivial (Nat.le_of_ble_eq_true rfl) rfl ?_
    refine g_load rfl rfl rfl trivial ?_
    refine g_load rfl rfl rfl trivial ?_
    refine g_imul rfl ?_
    refine g_load rfl rfl rfl trivial ?_
    refine g_iconst (nI 4) rfl (by decide) ?_
    have K2 : ∀ e2 : Int32, e2 = nI (if sr = 4 then 10 else 0) → rB pr (d) cd_209 (Option.some Jvm.ClassFile.FieldType.int) Q 53 [some (.ref 25), some (.int (nI lv)), some (.int (nI sr)), some (.int (nI db)), some (.int (bI v)), some (.int (nI tk)), some (.int (nI (tk - lv - 6))), some (.int (nI (scE sr))), none, none] [.int e2, .int ((nI lv) * (nI (scE sr)))] u := by
      intro e2 he2
      subst he2
      refine g_iadd rfl ?_
      refine g_load rfl rfl rfl trivial ?_
      have K3 : ∀ e3 : Int32, e3 = nI (if db = 0 then 1 else 2 * db) → rB pr (d) cd_209 (Option.some Jvm.ClassFile.FieldType.int) Q 61 [some (.ref 25), some (.int (nI lv)), some (.int (nI sr)), some (.int (nI db)), some (.int (bI v)), some (.int (nI tk)), some (.int (nI (tk - lv - 6))), some (.int (nI (scE sr))), none, none] [.int e3, .int (((nI lv) * (nI (scE sr))) + (nI (if sr = 4 then 10 else 0)))] u := by
        intro e3 he3
        subst he3
        refine g_imul rfl ?_
        rw [pk_mul, nI_add, pk_mul]
        refine g_store [some (.ref 25), some (.int (nI lv)), some (.int (nI sr)), some (.int (nI db)), some (.int (bI v)), some (.int (nI tk)), some (.int (nI (tk - lv - 6))), some (.int (nI (scE sr))), some (.int (nI (sc1 lv sr db))), none] rfl rfl trivial (Nat.le_of_ble_eq_true rfl) rfl ?_
        refine g_load rfl rfl rfl trivial ?_
        refine g_load rfl rfl rfl trivial ?_
        refine g_bipush (nI 100) rfl (by decide) ?_
        have K4 : ∀ e4 : Int32, e4 = nI (if sc1 lv sr db < 100 then 50 else if v then 500 else 300) → rB pr (d) cd_209 (Option.some Jvm.ClassFile.FieldType.int) Q 74 [some (.ref 25), some (.int (nI lv)), some (.int (nI sr)), some (.int (nI db)), some (.int (bI v)), some (.int (nI tk)), some (.int (nI (tk - lv - 6))), some (.int (nI (scE sr))), some (.int (nI (sc1 lv sr db))), none] [.int e4, .int (nI (sc1 lv sr db))] u := by
          intro e4 he4
          subst he4
          refine g_iadd rfl ?_
          rw [nI_add]
          refine g_store [some (.ref 25), some (.int (nI lv)), some (.int (nI sr)), some (.int (nI db)), some (.int (bI v)), some (.int (nI tk)), some (.int (nI (tk - lv - 6))), some (.int (nI (scE sr))), some (.int (nI (sc2 lv sr db v))), none] rfl rfl trivial (Nat.le_of_ble_eq_true rfl) rfl ?_
          refine g_load rfl rfl rfl trivial ?_
          refine g_bipush (nI 6) rfl (by decide) ?_
          refine g_icmp_ne rfl (fun c5 => ?_) (fun c5 => ?_)
          · rw [nI_eq (by omega) (by omega)] at c5
            rw [show sc2 lv sr db v = sc3 lv sr db v by simp [sc3, c5]]
            exact r_score_c lv sr db tk v h1 h2 h3 h5 hov hQ
          · rw [nI_eq (by omega) (by omega)] at c5
            refine g_load rfl rfl rfl trivial ?_
            refine g_load rfl rfl rfl trivial ?_
            have K6 : ∀ e6 : Int32, e6 = nI (if v then 750 else 500) → rB pr (d) cd_209 (Option.some Jvm.ClassFile.FieldType.int) Q 85 [some (.ref 25), some (.int (nI lv)), some (.int (nI sr)), some (.int (nI db)), some (.int (bI v)), some (.int (nI tk)), some (.int (nI (tk - lv - 6))), some (.int (nI (scE sr))), some (.int (nI (sc2 lv sr db v))), none] [.int e6, .int (nI (sc2 lv sr db v))] u := by
              intro e6 he6
              subst he6
              refine g_iadd rfl ?_
              rw [nI_add, show sc2 lv sr db v + (if v then 750 else 500) = sc3 lv sr db v by simp [sc3, *]]
              refine g_store [some (.ref 25), some (.int (nI lv)), some (.int (nI sr)), some (.int (nI db)), some (.int (bI v)), some (.int (nI tk)), some (.int (nI (tk - lv - 6))), some (.int (nI (scE sr))), some (.int (nI (sc3 lv sr db v))), none] rfl rfl trivial (Nat.le_of_ble_eq_true rfl) rfl ?_
              exact r_score_c lv sr db tk v h1 h2 h3 h5 hov hQ
            refine g_if_eq rfl (fun c6 => ?_) (fun c6 => ?_)
            · rw [bI_eq] at c6
              subst c6
              refine g_sipush (nI 500) rfl (by decide) ?_
              exact K6 _ (by simp [*])
            · rw [bI_ne] at c6
              subst c6
              refine g_sipush (nI 750) rfl (by decide) ?_
              refine g_goto rfl ?_
              exact K6 _ (by simp [*])
        refine g_icmp_ge rfl (fun c4 => ?_) (fun c4 => ?_)
        · have hs1 := sc1_le (sr := sr) h1.2 h3
          rw [nI_leI (by omega) (by omega)] at c4
          refine g_load rfl rfl rfl trivial ?_
          refine g_if_eq rfl (fun c7 => ?_) (fun c7 => ?_)
          · rw [bI_eq] at c7
            subst c7
            refine g_sipush (nI 300) rfl (by decide) ?_
            exact K4 _ (by first | (rw [if_neg (by omega)]; simp [*]; done) | (rw [if_pos (by omega)]))
          · rw [bI_ne] at c7
            subst c7
            refine g_sipush (nI 500) rfl (by decide) ?_
            refine g_goto rfl ?_
            exact K4 _ (by first | (rw [if_neg (by omega)]; simp [*]; done) | (rw [if_pos (by omega)]))
        · have hs1 := sc1_le (sr := sr) h1.2 h3
          rw [nI_leI (by omega) (by omega)] at c4
          refine g_bipush (nI 50) rfl (by decide) ?_
          refine g_goto rfl ?_
          exact K4 _ (by first | (rw [if_neg (by omega)]; simp [*]; done) | (rw [if_pos (by omega)]))
      refine g_if_ne rfl (fun c3 => ?_) (fun c3 => ?_)
      · rw [← nI_0, nI_eq (by omega) (by omega)] at c3
        refine g_iconst (nI 2) rfl (by decide) ?_
        refine g_load rfl rfl rfl trivial ?_
        refine g_imul rfl ?_
        exact K3 _ (by simp [*, pk_mul])
      · rw [← nI_0, nI_eq (by omega) (by omega)] at c3
        refine g_iconst (nI 1) rfl (by decide) ?_
        refine g_goto rfl ?_
        exact K3 _ (by simp [*, pk_mul])
    refine g_icmp_ne rfl (fun c2 => ?_) (fun c2 => ?_)
    · rw [nI_eq (by omega) (by omega)] at c2
      refine g_iconst (nI 0) rfl (by decide) ?_
      exact K2 _ (by simp [*])
    · rw [nI_eq (by omega) (by omega)] at c2
      refine g_bipush (nI 10) rfl (by decide) ?_
      refine g_goto rfl ?_
      exact K2 _ (by simp [*])
  refine g_icmp_ge rfl (fun c1 => ?_) (fun c1 => ?_)
  · rw [nI_leI (by omega) (by omega)] at c1
    refine g_bipush (nI 30) rfl (by decide) ?_
    exact K1 _ (by unfold scE; first | rw [if_neg (by omega)] | rw [if_pos (by omega)])
  · rw [nI_leI (by omega) (by omega)] at c1
    refine g_bipush (nI 20) rfl (by decide) ?_
    refine g_goto rfl ?_
    exact K1 _ (by unfold scE; first | rw [if_neg (by omega)] | rw [if_pos (by omega)])
def scOk (lv sr db tk : Int32) : Bool := inF lv 1 7 && (inF sr 0 4 && (inF db 0 2 && inF tk 0 13))
def scG (lv sr db : Int32) (v : Bool) (tk : Int32) : Int32 := if scOk lv sr db tk then scF lv.toNatClampNeg sr.toNatClampNeg db.toNatClampNeg v tk.toNatClampNeg else -2147483648
theorem in_of {x a b : Int32} {n m : Nat} (h : inF x a b = true) (ha : a = nI n) (hb : b = nI m) (hm : m < 2 ^ 31) (hn : n < 2 ^ 31) : ∃ y, n ≤ y ∧ y ≤ m ∧ x = nI y := by
  subst ha; subst hb
  simp only [inF, Bool.and_eq_true, decide_eq_true_eq, Int32.le_iff_toInt_le, nI_toInt hm, nI_toInt hn] at h
  obtain ⟨j, hj, rfl⟩ := nI_of (x := x) (by rw [Int32.lt_iff_toInt_lt, show (0 : Int32).toInt = 0 by decide]; omega)
  rw [nI_toInt hj] at h
  exact ⟨j, by omega, by omega, rfl⟩

set_option maxRecDepth 20000 in
theorem r_score {pr : aC} {d : Nat} {u : rS} (lv sr db tk : Int32) (v : Bool) {Q : Option Value → rS → Prop} (hQ : Q (some (.int (scG lv sr db v tk))) u) : rR pr (d + 1 + 1) 209 [.ref 25, .int lv, .int sr, .int db, .int (bI v), .int tk] u Q := by
  refine gR_of mi_209 rFr_rf rfl (Nat.le_of_ble_eq_true rfl) ?_
  show rB pr (d + 1) cd_209 (Option.some Jvm.ClassFile.FieldType.int) Q 0 [some (.ref 25), some (.int lv), some (.int sr), some (.int db), some (.int (bI v)), some (.int tk), none, none, none, none] [] u
  refine g_load rfl rfl rfl trivial ?_
  refine g_iconst (nI 1) rfl (by decide) ?_
  refine g_bipush (nI 7) rfl (by decide) ?_
  refine g_statI [.int lv, .int (nI 1), .int (nI 7)] rFr_tr rfl rfl rfl (Nat.le_of_ble_eq_true rfl) (Nat.le_refl _) (Nat.le_refl _) (r_in lv 1 7 ⟨_, rfl, ?_⟩)
  refine g_if_eq rfl (fun c1 => ?_) (fun c1 => ?_)
  · rw [bI_eq] at c1
    rw [show scG lv sr db v tk = -2147483648 by simp [scG, scOk, *]] at hQ
    refine g_ldc (-2147483648) rfl ⟨_, Or.inl rfl⟩ (by decide) ?_
    refine g_vret rfl trivial ⟨rfl, rfl⟩ (Nat.le_refl _) (Nat.le_refl _) ?_
    exact hQ
  · rw [bI_ne] at c1
    refine g_load rfl rfl rfl trivial ?_
    refine g_iconst (nI 0) rfl (by decide) ?_
    refine g_iconst (nI 4) rfl (by decide) ?_
    refine g_statI [.int sr, .int (nI 0), .int (nI 4)] rFr_tr rfl rfl rfl (Nat.le_of_ble_eq_true rfl) (Nat.le_refl _) (Nat.le_refl _) (r_in sr 0 4 ⟨_, rfl, ?_⟩)
    refine g_if_eq rfl (fun c2 => ?_) (fun c2 => ?_)
    · rw [bI_eq] at c2
      rw [show scG lv sr db v tk = -2147483648 by simp [scG, scOk, *]] at hQ
      refine g_ldc (-2147483648) rfl ⟨_, Or.inl rfl⟩ (by decide) ?_
      refine g_vret rfl trivial ⟨rfl, rfl⟩ (Nat.le_refl _) (Nat.le_refl _) ?_
      exact hQ
    · rw [bI_ne] at c2
      refine g_load rfl rfl rfl trivial ?_
      refine g_iconst (nI 0) rfl (by decide) ?_
      refine g_iconst (nI 2) rfl (by decide) ?_
      refine g_statI [.int db, .int (nI 0), .int (nI 2)] rFr_tr rfl rfl rfl (Nat.le_of_ble_eq_true rfl) (Nat.le_refl _) (Nat.le_refl _) (r_in db 0 2 ⟨_, rfl, ?_⟩)
      refine g_if_eq rfl (fun c3 => ?_) (fun c3 => ?_)
      · rw [bI_eq] at c3
        rw [show scG lv sr db v tk = -2147483648 by simp [scG, scOk, *]] at hQ
        refine g_ldc (-2147483648) rfl ⟨_, Or.inl rfl⟩ (by decide) ?_
        refine g_vret rfl trivial ⟨rfl, rfl⟩ (Nat.le_refl _) (Nat.le_refl _) ?_
        exact hQ
      · rw [bI_ne] at c3
        refine g_load rfl rfl rfl trivial ?_
        refine g_iconst (nI 0) rfl (by decide) ?_
        refine g_bipush (nI 13) rfl (by decide) ?_
        refine g_statI [.int tk, .int (nI 0), .int (nI 13)] rFr_tr rfl rfl rfl (Nat.le_of_ble_eq_true rfl) (Nat.le_refl _) (Nat.le_refl _) (r_in tk 0 13 ⟨_, rfl, ?_⟩)
        refine g_if_ne rfl (fun c4 => ?_) (fun c4 => ?_)
        · rw [bI_ne] at c4
          rw [show scG lv sr db v tk = scF lv.toNatClampNeg sr.toNatClampNeg db.toNatClampNeg v tk.toNatClampNeg by simp [scG, scOk, *]] at hQ
          obtain ⟨lv', l1, l2, rfl⟩ := in_of (n := 1) (m := 7) c1 (by decide) (by decide) (by decide) (by decide)
          obtain ⟨sr', s1, s2, rfl⟩ := in_of (n := 0) (m := 4) c2 (by decide) (by decide) (by decide) (by decide)
          obtain ⟨db', d1, d2, rfl⟩ := in_of (n := 0) (m := 2) c3 (by decide) (by decide) (by decide) (by decide)
          obtain ⟨tk', t1, t2, rfl⟩ := in_of (n := 0) (m := 13) c4 (by decide) (by decide) (by decide) (by decide)
          rw [nI_clamp (by omega), nI_clamp (by omega), nI_clamp (by omega), nI_clamp (by omega)] at hQ
          by_cases hov : lv' + 6 ≤ tk'
          · refine g_load rfl rfl rfl trivial ?_
            refine g_load rfl rfl rfl trivial ?_
            refine g_isub rfl ?_
            refine g_bipush (nI 6) rfl (by decide) ?_
            refine g_isub rfl ?_
            rw [pk_sub (by omega), pk_sub (by omega)]
            refine g_store [some (.ref 25), some (.int (nI lv')), some (.int (nI sr')), some (.int (nI db')), some (.int (bI v)), some (.int (nI tk')), some (.int (nI (tk' - lv' - 6))), none, none, none] rfl rfl trivial (Nat.le_of_ble_eq_true rfl) rfl ?_
            refine g_load rfl rfl rfl trivial ?_
            refine g_if_ge rfl (fun c5 => ?_) (fun c5 => absurd (nI_pos' (by omega)) c5)
            rw [show scF lv' sr' db' v tk' = nI (sc4 lv' sr' db' v + 50 * db' + (tk' - lv' - 6) * scM sr' db' v) by unfold scF; rw [if_neg (by omega)]] at hQ
            exact r_score_b lv' sr' db' tk' v ⟨l1, l2⟩ s2 d2 t2 hov hQ
          · have hx : nI tk' - nI lv' - nI 6 = -nI (lv' + 6 - tk') := (by decide +kernel : ∀ a, a < 14 → ∀ b, b < 8 → ¬ b + 6 ≤ a → nI a - nI b - nI 6 = -nI (b + 6 - a)) tk' (by omega) lv' (by omega) hov
            refine g_load rfl rfl rfl trivial ?_
            refine g_load rfl rfl rfl trivial ?_
            refine g_isub rfl ?_
            refine g_bipush (nI 6) rfl (by decide) ?_
            refine g_isub rfl ?_
            rw [hx]
            refine g_store [some (.ref 25), some (.int (nI lv')), some (.int (nI sr')), some (.int (nI db')), some (.int (bI v)), some (.int (nI tk')), some (.int (-nI (lv' + 6 - tk'))), none, none, none] rfl rfl trivial (Nat.le_of_ble_eq_true rfl) rfl ?_
            refine g_load rfl rfl rfl trivial ?_
            refine g_if_ge rfl (fun c5 => ?_) (fun c5 => ?_)
            · exfalso
              rw [Int32.le_iff_toInt_le, sb_negT (by omega), show (0 : Int32).toInt = 0 by decide] at c5
              omega
            · refine g_load rfl rfl rfl trivial ?_
              refine g_ineg rfl ?_
              rw [Int32.neg_neg]
              refine g_load rfl rfl rfl trivial ?_
              refine g_load rfl rfl rfl trivial ?_
              refine g_statI [.int (nI (lv' + 6 - tk')), .int (nI db'), .int (bI v)] rFr_tr rfl rfl rfl (Nat.le_of_ble_eq_true rfl) (Nat.le_refl _) (Nat.le_refl _) (r_lost (lv' + 6 - tk') db' v (by omega) d2 ⟨_, rfl, ?_⟩)
              refine g_ineg rfl ?_
              rw [show scF lv' sr' db' v tk' = -nI (lsF (lv' + 6 - tk') db' v) by unfold scF; rw [if_pos (by omega)]] at hQ
              exact g_vret rfl trivial ⟨rfl, rfl⟩ (Nat.le_refl _) (Nat.le_refl _) hQ
        · rw [bI_eq] at c4
          rw [show scG lv sr db v tk = -2147483648 by simp [scG, scOk, *]] at hQ
          refine g_ldc (-2147483648) rfl ⟨_, Or.inl rfl⟩ (by decide) ?_
          refine g_vret rfl trivial ⟨rfl, rfl⟩ (Nat.le_refl _) (Nat.le_refl _) ?_
          exact hQ
