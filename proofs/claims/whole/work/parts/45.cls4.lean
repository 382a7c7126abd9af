/-! ===== the class: Scoring; the JDK: Math, Long ===== -/
def ptS (s : Int32) : Int32 := if nI 1 < s then nI 30 else nI 20
def tsF (l s d : Int32) : Int32 := if d = 0 then l * ptS s + (if s = nI 4 then nI 10 else nI 0) else (l * ptS s + (if s = nI 4 then nI 10 else nI 0)) * nI 2 * d
def slF (l : Int32) (v : Bool) : Int32 := if l < nI 6 then nI 0 else (if l = nI 6 then nI 500 else nI 1000) * (if v then nI 3 else nI 2) / nI 2
def otS (s d : Int32) (v : Bool) : Int32 := if d = 0 then ptS s else nI 100 * d * (if v then nI 2 else nI 1)
def ldD (m : Int32) : Int32 := if nI 3 < m then nI 300 * m - nI 400 else nI 200 * m - nI 100
def loS (m d : Int32) (v : Bool) : Int32 := if d = 0 then m * (if v then nI 100 else nI 50) else if d = nI 1 then (if v then nI 300 * m - nI 100 else ldD m) else nI 2 * (if v then nI 300 * m - nI 100 else ldD m)
def ofS (l s d : Int32) (v : Bool) (t : Int32) : Int32 := if t - (l + nI 6) < 0 then -(loS (-(t - (l + nI 6))) d v) else tsF l s d + (if tsF l s d < nI 100 then nI 50 else if v then nI 500 else nI 300) + slF l v + nI 50 * d + (t - (l + nI 6)) * otS s d v
set_option maxRecDepth 20000 in
theorem p_perTrick {pr : aC} {d : Nat} {σ : Type} {Rp : σ → aH → Prop} {Fr : aH → aH → Prop} (hrf : ∀ h, Fr h h) (htr : ∀ a b d, Fr a b → Fr b d → Fr a d) {u : σ} (s : Int32) {Q : Option Value → σ → Prop} (hQ : Q (some (.int (ptS s))) u) : pR Rp Fr pr (d + 1) 75 [.int s] u Q := by
  refine gR_of mi_75 hrf rfl (Nat.le_of_ble_eq_true rfl) ?_
  show pB Rp Fr pr (d) cd_75 (Option.some Jvm.ClassFile.FieldType.int) Q 0 [some (.int s)] [] u
  refine g_load rfl rfl rfl trivial ?_
  refine g_iconst (nI 1) rfl (by decide) ?_
  refine g_icmp_gt rfl (fun c1 => ?_) (fun c1 => ?_)
  · rw [show ptS s = nI 30 from if_pos c1] at hQ
    refine g_bipush (nI 30) rfl (by decide) ?_
    refine g_vret rfl trivial ⟨rfl, rfl⟩ (Nat.le_refl _) (Nat.le_refl _) ?_
    exact hQ
  · rw [show ptS s = nI 20 from if_neg c1] at hQ
    refine g_bipush (nI 20) rfl (by decide) ?_
    refine g_goto rfl ?_
    refine g_vret rfl trivial ⟨rfl, rfl⟩ (Nat.le_refl _) (Nat.le_refl _) ?_
    exact hQ
set_option maxRecDepth 20000 in
theorem p_trickScore {pr : aC} {d : Nat} {σ : Type} {Rp : σ → aH → Prop} {Fr : aH → aH → Prop} (hrf : ∀ h, Fr h h) (htr : ∀ a b d, Fr a b → Fr b d → Fr a d) {u : σ} (l s e : Int32) {Q : Option Value → σ → Prop} (hQ : Q (some (.int (tsF l s e))) u) : pR Rp Fr pr (d + 1 + 1) 76 [.int l, .int s, .int e] u Q := by
  refine gR_of mi_76 hrf rfl (Nat.le_of_ble_eq_true rfl) ?_
  show pB Rp Fr pr (d + 1) cd_76 (Option.some Jvm.ClassFile.FieldType.int) Q 0 [some (.int l), some (.int s), some (.int e), none] [] u
  refine g_load rfl rfl rfl trivial ?_
  refine g_load rfl rfl rfl trivial ?_
  refine g_statI [.int s] htr rfl rfl rfl (Nat.le_of_ble_eq_true rfl) (Nat.le_refl _) (Nat.le_refl _) (p_perTrick hrf htr s ⟨_, rfl, ?_⟩)
  refine g_imul rfl ?_
  refine g_load rfl rfl rfl trivial ?_
  refine g_iconst (nI 4) rfl (by decide) ?_
  have K1 : ∀ e1 : Int32, e1 = (if s = nI 4 then nI 10 else nI 0) → pB Rp Fr pr (d + 1) cd_76 (Option.some Jvm.ClassFile.FieldType.int) Q 10 [some (.int l), some (.int s), some (.int e), none] [.int e1, .int (l * (ptS s))] u := by
    intro e1 he1
    subst he1
    refine g_iadd rfl ?_
    refine g_store [some (.int l), some (.int s), some (.int e), some (.int (l * ptS s + (if s = nI 4 then nI 10 else nI 0)))] rfl rfl trivial (Nat.le_of_ble_eq_true rfl) rfl ?_
    refine g_load rfl rfl rfl trivial ?_
    refine g_if_ne rfl (fun c2 => ?_) (fun c2 => ?_)
    · rw [show tsF l s e = _ from if_neg c2] at hQ
      refine g_load rfl rfl rfl trivial ?_
      refine g_iconst (nI 2) rfl (by decide) ?_
      refine g_imul rfl ?_
      refine g_load rfl rfl rfl trivial ?_
      refine g_imul rfl ?_
      refine g_vret rfl trivial ⟨rfl, rfl⟩ (Nat.le_refl _) (Nat.le_refl _) ?_
      exact hQ
    · rw [show tsF l s e = _ from if_pos c2] at hQ
      refine g_load rfl rfl rfl trivial ?_
      refine g_goto rfl ?_
      refine g_vret rfl trivial ⟨rfl, rfl⟩ (Nat.le_refl _) (Nat.le_refl _) ?_
      exact hQ
  refine g_icmp_ne rfl (fun c1 => ?_) (fun c1 => ?_)
  · refine g_iconst (nI 0) rfl (by decide) ?_
    exact K1 _ (by simp [*])
  · refine g_bipush (nI 10) rfl (by decide) ?_
    refine g_goto rfl ?_
    exact K1 _ (by simp [*])
set_option maxRecDepth 20000 in
theorem p_slam {pr : aC} {d : Nat} {σ : Type} {Rp : σ → aH → Prop} {Fr : aH → aH → Prop} (hrf : ∀ h, Fr h h) (htr : ∀ a b d, Fr a b → Fr b d → Fr a d) {u : σ} (l : Int32) (v : Bool) {Q : Option Value → σ → Prop} (hQ : Q (some (.int (slF l v))) u) : pR Rp Fr pr (d + 1) 77 [.int l, .int (bI v)] u Q := by
  refine gR_of mi_77 hrf rfl (Nat.le_of_ble_eq_true rfl) ?_
  show pB Rp Fr pr (d) cd_77 (Option.some Jvm.ClassFile.FieldType.int) Q 0 [some (.int l), some (.int (bI v))] [] u
  refine g_load rfl rfl rfl trivial ?_
  refine g_bipush (nI 6) rfl (by decide) ?_
  refine g_icmp_ge rfl (fun c1 => ?_) (fun c1 => ?_)
  · rw [show slF l v = _ from if_neg (Int32.not_lt.mpr c1)] at hQ
    refine g_load rfl rfl rfl trivial ?_
    refine g_bipush (nI 6) rfl (by decide) ?_
    have K2 : ∀ e2 : Int32, e2 = (if l = nI 6 then nI 500 else nI 1000) → pB Rp Fr pr (d) cd_77 (Option.some Jvm.ClassFile.FieldType.int) Q 11 [some (.int l), some (.int (bI v))] [.int e2] u := by
      intro e2 he2
      subst he2
      refine g_load rfl rfl rfl trivial ?_
      have K3 : ∀ e3 : Int32, e3 = (if v then nI 3 else nI 2) → pB Rp Fr pr (d) cd_77 (Option.some Jvm.ClassFile.FieldType.int) Q 16 [some (.int l), some (.int (bI v))] [.int e3, .int ((if l = nI 6 then nI 500 else nI 1000))] u := by
        intro e3 he3
        subst he3
        refine g_imul rfl ?_
        refine g_iconst (nI 2) rfl (by decide) ?_
        refine g_idiv rfl (by decide) ?_
        refine g_vret rfl trivial ⟨rfl, rfl⟩ (Nat.le_refl _) (Nat.le_refl _) ?_
        exact hQ
      refine g_if_eq rfl (fun c3 => ?_) (fun c3 => ?_)
      · rw [bI_eq] at c3
        refine g_iconst (nI 2) rfl (by decide) ?_
        exact K3 _ (by simp [*])
      · rw [bI_ne] at c3
        refine g_iconst (nI 3) rfl (by decide) ?_
        refine g_goto rfl ?_
        exact K3 _ (by simp [*])
    refine g_icmp_ne rfl (fun c2 => ?_) (fun c2 => ?_)
    · refine g_sipush (nI 1000) rfl (by decide) ?_
      exact K2 _ (by simp [*])
    · refine g_sipush (nI 500) rfl (by decide) ?_
      refine g_goto rfl ?_
      exact K2 _ (by simp [*])
  · rw [show slF l v = _ from if_pos (Int32.not_le.mp c1)] at hQ
    refine g_iconst (nI 0) rfl (by decide) ?_
    refine g_vret rfl trivial ⟨rfl, rfl⟩ (Nat.le_refl _) (Nat.le_refl _) ?_
    exact hQ
set_option maxRecDepth 20000 in
theorem p_overtrick {pr : aC} {d : Nat} {σ : Type} {Rp : σ → aH → Prop} {Fr : aH → aH → Prop} (hrf : ∀ h, Fr h h) (htr : ∀ a b d, Fr a b → Fr b d → Fr a d) {u : σ} (s e : Int32) (v : Bool) {Q : Option Value → σ → Prop} (hQ : Q (some (.int (otS s e v))) u) : pR Rp Fr pr (d + 1 + 1) 78 [.int s, .int e, .int (bI v)] u Q := by
  refine gR_of mi_78 hrf rfl (Nat.le_of_ble_eq_true rfl) ?_
  show pB Rp Fr pr (d + 1) cd_78 (Option.some Jvm.ClassFile.FieldType.int) Q 0 [some (.int s), some (.int e), some (.int (bI v))] [] u
  refine g_load rfl rfl rfl trivial ?_
  refine g_if_ne rfl (fun c1 => ?_) (fun c1 => ?_)
  · rw [show otS s e v = _ from if_neg c1] at hQ
    refine g_bipush (nI 100) rfl (by decide) ?_
    refine g_load rfl rfl rfl trivial ?_
    refine g_imul rfl ?_
    refine g_load rfl rfl rfl trivial ?_
    have K2 : ∀ e2 : Int32, e2 = (if v then nI 2 else nI 1) → pB Rp Fr pr (d + 1) cd_78 (Option.some Jvm.ClassFile.FieldType.int) Q 13 [some (.int s), some (.int e), some (.int (bI v))] [.int e2, .int ((nI 100) * e)] u := by
      intro e2 he2
      subst he2
      refine g_imul rfl ?_
      refine g_vret rfl trivial ⟨rfl, rfl⟩ (Nat.le_refl _) (Nat.le_refl _) ?_
      exact hQ
    refine g_if_eq rfl (fun c2 => ?_) (fun c2 => ?_)
    · rw [bI_eq] at c2
      refine g_iconst (nI 1) rfl (by decide) ?_
      exact K2 _ (by simp [*])
    · rw [bI_ne] at c2
      refine g_iconst (nI 2) rfl (by decide) ?_
      refine g_goto rfl ?_
      exact K2 _ (by simp [*])
  · rw [show otS s e v = _ from if_pos c1] at hQ
    refine g_load rfl rfl rfl trivial ?_
    refine g_statI [.int s] htr rfl rfl rfl (Nat.le_of_ble_eq_true rfl) (Nat.le_refl _) (Nat.le_refl _) (p_perTrick hrf htr s ⟨_, rfl, ?_⟩)
    refine g_vret rfl trivial ⟨rfl, rfl⟩ (Nat.le_refl _) (Nat.le_refl _) ?_
    exact hQ
set_option maxRecDepth 20000 in
theorem p_lostDoubled {pr : aC} {d : Nat} {σ : Type} {Rp : σ → aH → Prop} {Fr : aH → aH → Prop} (hrf : ∀ h, Fr h h) (htr : ∀ a b d, Fr a b → Fr b d → Fr a d) {u : σ} (m : Int32) {Q : Option Value → σ → Prop} (hQ : Q (some (.int (ldD m))) u) : pR Rp Fr pr (d + 1) 80 [.int m] u Q := by
  refine gR_of mi_80 hrf rfl (Nat.le_of_ble_eq_true rfl) ?_
  show pB Rp Fr pr (d) cd_80 (Option.some Jvm.ClassFile.FieldType.int) Q 0 [some (.int m)] [] u
  refine g_load rfl rfl rfl trivial ?_
  refine g_iconst (nI 3) rfl (by decide) ?_
  refine g_icmp_gt rfl (fun c1 => ?_) (fun c1 => ?_)
  · rw [show ldD m = _ from if_pos c1] at hQ
    refine g_sipush (nI 300) rfl (by decide) ?_
    refine g_load rfl rfl rfl trivial ?_
    refine g_imul rfl ?_
    refine g_sipush (nI 400) rfl (by decide) ?_
    refine g_isub rfl ?_
    refine g_vret rfl trivial ⟨rfl, rfl⟩ (Nat.le_refl _) (Nat.le_refl _) ?_
    exact hQ
  · rw [show ldD m = _ from if_neg c1] at hQ
    refine g_sipush (nI 200) rfl (by decide) ?_
    refine g_load rfl rfl rfl trivial ?_
    refine g_imul rfl ?_
    refine g_bipush (nI 100) rfl (by decide) ?_
    refine g_isub rfl ?_
    refine g_goto rfl ?_
    refine g_vret rfl trivial ⟨rfl, rfl⟩ (Nat.le_refl _) (Nat.le_refl _) ?_
    exact hQ
set_option maxRecDepth 20000 in
theorem p_lost {pr : aC} {d : Nat} {σ : Type} {Rp : σ → aH → Prop} {Fr : aH → aH → Prop} (hrf : ∀ h, Fr h h) (htr : ∀ a b d, Fr a b → Fr b d → Fr a d) {u : σ} (m e : Int32) (v : Bool) {Q : Option Value → σ → Prop} (hQ : Q (some (.int (loS m e v))) u) : pR Rp Fr pr (d + 1 + 1) 79 [.int m, .int e, .int (bI v)] u Q := by
  refine gR_of mi_79 hrf rfl (Nat.le_of_ble_eq_true rfl) ?_
  show pB Rp Fr pr (d + 1) cd_79 (Option.some Jvm.ClassFile.FieldType.int) Q 0 [some (.int m), some (.int e), some (.int (bI v)), none] [] u
  refine g_load rfl rfl rfl trivial ?_
  refine g_if_ne rfl (fun c1 => ?_) (fun c1 => ?_)
  · rw [show loS m e v = _ from if_neg c1] at hQ
    refine g_load rfl rfl rfl trivial ?_
    have K2 : ∀ e2 : Int32, e2 = (if v then nI 300 * m - nI 100 else ldD m) → pB Rp Fr pr (d + 1) cd_79 (Option.some Jvm.ClassFile.FieldType.int) Q 20 [some (.int m), some (.int e), some (.int (bI v)), none] [.int e2] u := by
      intro e2 he2
      subst he2
      refine g_store [some (.int m), some (.int e), some (.int (bI v)), some (.int (if v then nI 300 * m - nI 100 else ldD m))] rfl rfl trivial (Nat.le_of_ble_eq_true rfl) rfl ?_
      refine g_load rfl rfl rfl trivial ?_
      refine g_iconst (nI 1) rfl (by decide) ?_
      refine g_icmp_ne rfl (fun c3 => ?_) (fun c3 => ?_)
      · rw [if_neg c3] at hQ
        refine g_iconst (nI 2) rfl (by decide) ?_
        refine g_load rfl rfl rfl trivial ?_
        refine g_imul rfl ?_
        refine g_vret rfl trivial ⟨rfl, rfl⟩ (Nat.le_refl _) (Nat.le_refl _) ?_
        exact hQ
      · rw [if_pos c3] at hQ
        refine g_load rfl rfl rfl trivial ?_
        refine g_goto rfl ?_
        refine g_vret rfl trivial ⟨rfl, rfl⟩ (Nat.le_refl _) (Nat.le_refl _) ?_
        exact hQ
    refine g_if_eq rfl (fun c2 => ?_) (fun c2 => ?_)
    · rw [bI_eq] at c2
      refine g_load rfl rfl rfl trivial ?_
      refine g_statI [.int m] htr rfl rfl rfl (Nat.le_of_ble_eq_true rfl) (Nat.le_refl _) (Nat.le_refl _) (p_lostDoubled hrf htr m ⟨_, rfl, ?_⟩)
      exact K2 _ (by simp [*])
    · rw [bI_ne] at c2
      refine g_sipush (nI 300) rfl (by decide) ?_
      refine g_load rfl rfl rfl trivial ?_
      refine g_imul rfl ?_
      refine g_bipush (nI 100) rfl (by decide) ?_
      refine g_isub rfl ?_
      refine g_goto rfl ?_
      exact K2 _ (by simp [*])
  · rw [show loS m e v = _ from if_pos c1] at hQ
    refine g_load rfl rfl rfl trivial ?_
    refine g_load rfl rfl rfl trivial ?_
    have K4 : ∀ e4 : Int32, e4 = (if v then nI 100 else nI 50) → pB Rp Fr pr (d + 1) cd_79 (Option.some Jvm.ClassFile.FieldType.int) Q 8 [some (.int m), some (.int e), some (.int (bI v)), none] [.int e4, .int m] u := by
      intro e4 he4
      subst he4
      refine g_imul rfl ?_
      refine g_vret rfl trivial ⟨rfl, rfl⟩ (Nat.le_refl _) (Nat.le_refl _) ?_
      exact hQ
    refine g_if_eq rfl (fun c4 => ?_) (fun c4 => ?_)
    · rw [bI_eq] at c4
      refine g_bipush (nI 50) rfl (by decide) ?_
      exact K4 _ (by simp [*])
    · rw [bI_ne] at c4
      refine g_bipush (nI 100) rfl (by decide) ?_
      refine g_goto rfl ?_
      exact K4 _ (by simp [*])
theorem p_ofContract_t {pr : aC} {d : Nat} {σ : Type} {Rp : σ → aH → Prop} {Fr : aH → aH → Prop} (hrf : ∀ h, Fr h h) (htr : ∀ a b d, Fr a b → Fr b d → Fr a d) {u : σ} (l s e t x : Int32) (v : Bool) {Q : Option Value → σ → Prop} (hQ : Q (some (.int (tsF l s e + x + slF l v + nI 50 * e + (t - (l + nI 6)) * otS s e v))) u) : pB Rp Fr pr (d + 2) cd_74 (some .int) Q 31 [some (.int l), some (.int s), some (.int e), some (.int (bI v)), some (.int t), some (.int (t - (l + nI 6))), some (.int (tsF l s e))] [.int x, .int (tsF l s e)] u := by
  refine g_iadd rfl ?_
  refine g_store [some (.int l), some (.int s), some (.int e), some (.int (bI v)), some (.int t), some (.int (t - (l + nI 6))), some (.int (tsF l s e + x))] rfl rfl trivial (Nat.le_of_ble_eq_true rfl) rfl ?_
  refine g_load rfl rfl rfl trivial ?_
  refine g_load rfl rfl rfl trivial ?_
  refine g_load rfl rfl rfl trivial ?_
  refine g_statI [.int l, .int (bI v)] htr rfl rfl rfl (Nat.le_of_ble_eq_true rfl) (Nat.le_refl _) (Nat.le_refl _) (p_slam hrf htr l v ⟨_, rfl, ?_⟩)
  refine g_iadd rfl ?_
  refine g_store [some (.int l), some (.int s), some (.int e), some (.int (bI v)), some (.int t), some (.int (t - (l + nI 6))), some (.int (tsF l s e + x + slF l v))] rfl rfl trivial (Nat.le_of_ble_eq_true rfl) rfl ?_
  refine g_load rfl rfl rfl trivial ?_
  refine g_bipush (nI 50) rfl (by decide) ?_
  refine g_load rfl rfl rfl trivial ?_
  refine g_imul rfl ?_
  refine g_iadd rfl ?_
  refine g_store [some (.int l), some (.int s), some (.int e), some (.int (bI v)), some (.int t), some (.int (t - (l + nI 6))), some (.int (tsF l s e + x + slF l v + nI 50 * e))] rfl rfl trivial (Nat.le_of_ble_eq_true rfl) rfl ?_
  refine g_load rfl rfl rfl trivial ?_
  refine g_load rfl rfl rfl trivial ?_
  refine g_load rfl rfl rfl trivial ?_
  refine g_load rfl rfl rfl trivial ?_
  refine g_load rfl rfl rfl trivial ?_
  refine g_statI [.int s, .int e, .int (bI v)] htr rfl rfl rfl (Nat.le_of_ble_eq_true rfl) (Nat.le_refl _) (Nat.le_refl _) (p_overtrick hrf htr s e v ⟨_, rfl, ?_⟩)
  refine g_imul rfl ?_
  refine g_iadd rfl ?_
  exact g_vret rfl trivial ⟨rfl, rfl⟩ (Nat.le_refl _) (Nat.le_refl _) hQ
set_option maxRecDepth 20000 in
theorem p_ofContract {pr : aC} {d : Nat} {σ : Type} {Rp : σ → aH → Prop} {Fr : aH → aH → Prop} (hrf : ∀ h, Fr h h) (htr : ∀ a b d, Fr a b → Fr b d → Fr a d) {u : σ} (l s e t : Int32) (v : Bool) {Q : Option Value → σ → Prop} (hQ : Q (some (.int (ofS l s e v t))) u) : pR Rp Fr pr (d + 2 + 1) 74 [.int l, .int s, .int e, .int (bI v), .int t] u Q := by
  refine gR_of mi_74 hrf rfl (Nat.le_of_ble_eq_true rfl) ?_
  show pB Rp Fr pr (d + 2) cd_74 (Option.some Jvm.ClassFile.FieldType.int) Q 0 [some (.int l), some (.int s), some (.int e), some (.int (bI v)), some (.int t), none, none] [] u
  refine g_load rfl rfl rfl trivial ?_
  refine g_load rfl rfl rfl trivial ?_
  refine g_bipush (nI 6) rfl (by decide) ?_
  refine g_iadd rfl ?_
  refine g_isub rfl ?_
  refine g_store [some (.int l), some (.int s), some (.int e), some (.int (bI v)), some (.int t), some (.int (t - (l + nI 6))), none] rfl rfl trivial (Nat.le_of_ble_eq_true rfl) rfl ?_
  refine g_load rfl rfl rfl trivial ?_
  refine g_if_ge rfl (fun c1 => ?_) (fun c1 => ?_)
  · rw [show ofS l s e v t = _ from if_neg (Int32.not_lt.mpr c1)] at hQ
    refine g_load rfl rfl rfl trivial ?_
    refine g_load rfl rfl rfl trivial ?_
    refine g_load rfl rfl rfl trivial ?_
    refine g_statI [.int l, .int s, .int e] htr rfl rfl rfl (Nat.le_of_ble_eq_true rfl) (Nat.le_refl _) (Nat.le_refl _) (p_trickScore hrf htr l s e ⟨_, rfl, ?_⟩)
    refine g_store [some (.int l), some (.int s), some (.int e), some (.int (bI v)), some (.int t), some (.int (t - (l + nI 6))), some (.int (tsF l s e))] rfl rfl trivial (Nat.le_of_ble_eq_true rfl) rfl ?_
    refine g_load rfl rfl rfl trivial ?_
    refine g_load rfl rfl rfl trivial ?_
    refine g_bipush (nI 100) rfl (by decide) ?_
    refine g_icmp_lt rfl (fun c2 => ?_) (fun c2 => ?_)
    · rw [if_pos c2] at hQ
      refine g_bipush (nI 50) rfl (by decide) ?_
      exact p_ofContract_t hrf htr l s e t _ v hQ
    · rw [if_neg c2] at hQ
      refine g_load rfl rfl rfl trivial ?_
      refine g_if_eq rfl (fun c3 => ?_) (fun c3 => ?_)
      · rw [bI_eq] at c3
        rw [if_neg (by rw [c3]; decide)] at hQ
        refine g_sipush (nI 300) rfl (by decide) ?_
        refine g_goto rfl ?_
        exact p_ofContract_t hrf htr l s e t _ v hQ
      · rw [bI_ne] at c3
        rw [if_pos c3] at hQ
        refine g_sipush (nI 500) rfl (by decide) ?_
        refine g_goto rfl ?_
        exact p_ofContract_t hrf htr l s e t _ v hQ
  · rw [show ofS l s e v t = _ from if_pos (Int32.not_le.mp c1)] at hQ
    refine g_load rfl rfl rfl trivial ?_
    refine g_ineg rfl ?_
    refine g_load rfl rfl rfl trivial ?_
    refine g_load rfl rfl rfl trivial ?_
    refine g_statI [.int (-(t - (l + nI 6))), .int e, .int (bI v)] htr rfl rfl rfl (Nat.le_of_ble_eq_true rfl) (Nat.le_refl _) (Nat.le_refl _) (p_lost hrf htr (-(t - (l + nI 6))) e v ⟨_, rfl, ?_⟩)
    refine g_ineg rfl ?_
    refine g_vret rfl trivial ⟨rfl, rfl⟩ (Nat.le_refl _) (Nat.le_refl _) ?_
    exact hQ
theorem of_sc : ∀ l, l < 8 → 1 ≤ l → ∀ s, s < 5 → ∀ e, e < 3 → ∀ t, t < 14 → ∀ v, ofS (nI l) (nI s) (nI e) v (nI t) = scG (nI l) (nI s) (nI e) v (nI t) := by decide +kernel
set_option maxRecDepth 20000 in
theorem p_abs {pr : aC} {d : Nat} {σ : Type} {Rp : σ → aH → Prop} {Fr : aH → aH → Prop} (hrf : ∀ h, Fr h h) (htr : ∀ a b d, Fr a b → Fr b d → Fr a d) {u : σ} (x : Int32) {Q : Option Value → σ → Prop} (hQ : Q (some (.int (if x < 0 then -x else x))) u) : pR Rp Fr pr (d + 1) 228 [.int x] u Q := by
  refine gR_of mi_228 hrf rfl (Nat.le_of_ble_eq_true rfl) ?_
  show pB Rp Fr pr (d) cd_228 (Option.some Jvm.ClassFile.FieldType.int) Q 0 [some (.int x)] [] u
  refine g_load rfl rfl rfl trivial ?_
  refine g_if_ge rfl (fun c1 => ?_) (fun c1 => ?_)
  · rw [if_neg (Int32.not_lt.mpr c1)] at hQ
    refine g_load rfl rfl rfl trivial ?_
    refine g_vret rfl trivial ⟨rfl, rfl⟩ (Nat.le_refl _) (Nat.le_refl _) ?_
    exact hQ
  · rw [if_pos (Int32.not_le.mp c1)] at hQ
    refine g_load rfl rfl rfl trivial ?_
    refine g_ineg rfl ?_
    refine g_goto rfl ?_
    refine g_vret rfl trivial ⟨rfl, rfl⟩ (Nat.le_refl _) (Nat.le_refl _) ?_
    exact hQ
set_option maxRecDepth 20000 in
theorem p_min {pr : aC} {d : Nat} {σ : Type} {Rp : σ → aH → Prop} {Fr : aH → aH → Prop} (hrf : ∀ h, Fr h h) (htr : ∀ a b d, Fr a b → Fr b d → Fr a d) {u : σ} (x y : Int32) {Q : Option Value → σ → Prop} (hQ : Q (some (.int (if x ≤ y then x else y))) u) : pR Rp Fr pr (d + 1) 229 [.int x, .int y] u Q := by
  refine gR_of mi_229 hrf rfl (Nat.le_of_ble_eq_true rfl) ?_
  show pB Rp Fr pr (d) cd_229 (Option.some Jvm.ClassFile.FieldType.int) Q 0 [some (.int x), some (.int y)] [] u
  refine g_load rfl rfl rfl trivial ?_
  refine g_load rfl rfl rfl trivial ?_
  refine g_icmp_gt rfl (fun c1 => ?_) (fun c1 => ?_)
  · rw [if_neg (Int32.not_le.mpr c1)] at hQ
    refine g_load rfl rfl rfl trivial ?_
    refine g_vret rfl trivial ⟨rfl, rfl⟩ (Nat.le_refl _) (Nat.le_refl _) ?_
    exact hQ
  · rw [if_pos (Int32.not_lt.mp c1)] at hQ
    refine g_load rfl rfl rfl trivial ?_
    refine g_goto rfl ?_
    refine g_vret rfl trivial ⟨rfl, rfl⟩ (Nat.le_refl _) (Nat.le_refl _) ?_
    exact hQ
set_option maxRecDepth 20000 in
theorem p_floorMod {pr : aC} {d : Nat} {σ : Type} {Rp : σ → aH → Prop} {Fr : aH → aH → Prop} (hrf : ∀ h, Fr h h) (htr : ∀ a b d, Fr a b → Fr b d → Fr a d) {u : σ} (x : Int32) (t : Nat) (h0 : 0 < t) (ht : t < 100) {Q : Option Value → σ → Prop} (hQ : Q (some (.int (if x ^^^ nI t < 0 then (if x - x / nI t * nI t = 0 then 0 else x - x / nI t * nI t + nI t) else x - x / nI t * nI t))) u) : pR Rp Fr pr (d + 1) 227 [.int x, .int (nI t)] u Q := by
  refine gR_of mi_227 hrf rfl (Nat.le_of_ble_eq_true rfl) ?_
  show pB Rp Fr pr (d) cd_227 (Option.some Jvm.ClassFile.FieldType.int) Q 0 [some (.int x), some (.int (nI t)), none] [] u
  refine g_load rfl rfl rfl trivial ?_
  refine g_load rfl rfl rfl trivial ?_
  refine g_irem rfl (nI_ne0 h0 (by omega)) ?_
  refine g_store [some (.int x), some (.int (nI t)), some (.int (x - x / nI t * nI t))] rfl rfl trivial (Nat.le_of_ble_eq_true rfl) rfl ?_
  refine g_load rfl rfl rfl trivial ?_
  refine g_load rfl rfl rfl trivial ?_
  refine g_ixor rfl ?_
  refine g_if_ge rfl (fun c1 => ?_) (fun c1 => ?_)
  · rw [if_neg (Int32.not_lt.mpr c1)] at hQ
    refine g_load rfl rfl rfl trivial ?_
    refine g_vret rfl trivial ⟨rfl, rfl⟩ (Nat.le_refl _) (Nat.le_refl _) ?_
    exact hQ
  · rw [if_pos (Int32.not_le.mp c1)] at hQ
    refine g_load rfl rfl rfl trivial ?_
    refine g_if_eq rfl (fun c2 => ?_) (fun c2 => ?_)
    · rw [if_pos c2, ← c2] at hQ
      refine g_load rfl rfl rfl trivial ?_
      refine g_vret rfl trivial ⟨rfl, rfl⟩ (Nat.le_refl _) (Nat.le_refl _) ?_
      exact hQ
    · rw [if_neg c2] at hQ
      refine g_load rfl rfl rfl trivial ?_
      refine g_load rfl rfl rfl trivial ?_
      refine g_iadd rfl ?_
      refine g_vret rfl trivial ⟨rfl, rfl⟩ (Nat.le_refl _) (Nat.le_refl _) ?_
      exact hQ
/-- Long.bitCount as its code counts -/
def bc1 (x : Int64) : Int64 := x - ((x.toUInt64 >>> ((nI 1).toInt64.toUInt64 &&& Int64.toUInt64 63)).toInt64 &&& 6148914691236517205)
def bc2 (x : Int64) : Int64 := (x &&& 3689348814741910323) + ((x.toUInt64 >>> ((nI 2).toInt64.toUInt64 &&& Int64.toUInt64 63)).toInt64 &&& 3689348814741910323)
def bc3 (x : Int64) : Int64 := (x + (x.toUInt64 >>> ((nI 4).toInt64.toUInt64 &&& Int64.toUInt64 63)).toInt64) &&& 1085102592571150095
def bcK (n : Nat) (x : Int64) : Int64 := x + (x.toUInt64 >>> ((nI n).toInt64.toUInt64 &&& Int64.toUInt64 63)).toInt64
def bcG (x : Int64) : Int32 := (bcK 32 (bcK 16 (bcK 8 (bc3 (bc2 (bc1 x)))))).toInt32 &&& nI 127
theorem bcG_bt : ∀ c, c < 64 → bcG (bt1 c - lN 1) = nI c := by decide +kernel
set_option maxRecDepth 20000 in
theorem p_bitCount {pr : aC} {d : Nat} {σ : Type} {Rp : σ → aH → Prop} {Fr : aH → aH → Prop} (hrf : ∀ h, Fr h h) (htr : ∀ a b d, Fr a b → Fr b d → Fr a d) {u : σ} (x : Int64) {Q : Option Value → σ → Prop} (hQ : Q (some (.int (bcG x))) u) : pR Rp Fr pr (d + 1) 226 [.long x] u Q := by
  refine gR_of mi_226 hrf rfl (Nat.le_of_ble_eq_true rfl) ?_
  show pB Rp Fr pr (d) cd_226 (Option.some Jvm.ClassFile.FieldType.int) Q 0 [some (.long x), none] [] u
  refine g_load rfl rfl rfl trivial ?_
  refine g_load rfl rfl rfl trivial ?_
  refine g_iconst (nI 1) rfl (by decide) ?_
  refine g_lushr rfl ?_
  refine g_ldc2 (6148914691236517205) rfl (by decide) ?_
  refine g_land rfl ?_
  refine g_lsub rfl ?_
  refine g_store [some (.long (bc1 x)), none] rfl rfl trivial (Nat.le_of_ble_eq_true rfl) rfl ?_
  refine g_load rfl rfl rfl trivial ?_
  refine g_ldc2 (3689348814741910323) rfl (by decide) ?_
  refine g_land rfl ?_
  refine g_load rfl rfl rfl trivial ?_
  refine g_iconst (nI 2) rfl (by decide) ?_
  refine g_lushr rfl ?_
  refine g_ldc2 (3689348814741910323) rfl (by decide) ?_
  refine g_land rfl ?_
  refine g_ladd rfl ?_
  refine g_store [some (.long (bc2 (bc1 x))), none] rfl rfl trivial (Nat.le_of_ble_eq_true rfl) rfl ?_
  refine g_load rfl rfl rfl trivial ?_
  refine g_load rfl rfl rfl trivial ?_
  refine g_iconst (nI 4) rfl (by decide) ?_
  refine g_lushr rfl ?_
  refine g_ladd rfl ?_
  refine g_ldc2 (1085102592571150095) rfl (by decide) ?_
  refine g_land rfl ?_
  refine g_store [some (.long (bc3 (bc2 (bc1 x)))), none] rfl rfl trivial (Nat.le_of_ble_eq_true rfl) rfl ?_
  refine g_load rfl rfl rfl trivial ?_
  refine g_load rfl rfl rfl trivial ?_
  refine g_bipush (nI 8) rfl (by decide) ?_
  refine g_lushr rfl ?_
  refine g_ladd rfl ?_
  refine g_store [some (.long (bcK 8 (bc3 (bc2 (bc1 x))))), none] rfl rfl trivial (Nat.le_of_ble_eq_true rfl) rfl ?_
  refine g_load rfl rfl rfl trivial ?_
  refine g_load rfl rfl rfl trivial ?_
  refine g_bipush (nI 16) rfl (by decide) ?_
  refine g_lushr rfl ?_
  refine g_ladd rfl ?_
  refine g_store [some (.long (bcK 16 (bcK 8 (bc3 (bc2 (bc1 x)))))), none] rfl rfl trivial (Nat.le_of_ble_eq_true rfl) rfl ?_
  refine g_load rfl rfl rfl trivial ?_
  refine g_load rfl rfl rfl trivial ?_
  refine g_bipush (nI 32) rfl (by decide) ?_
  refine g_lushr rfl ?_
  refine g_ladd rfl ?_
  refine g_store [some (.long (bcK 32 (bcK 16 (bcK 8 (bc3 (bc2 (bc1 x))))))), none] rfl rfl trivial (Nat.le_of_ble_eq_true rfl) rfl ?_
  refine g_load rfl rfl rfl trivial ?_
  refine g_l2i rfl ?_
  refine g_bipush (nI 127) rfl (by decide) ?_
  refine g_iand rfl ?_
  refine g_vret rfl trivial ⟨rfl, rfl⟩ (Nat.le_refl _) (Nat.le_refl _) ?_
  exact hQ
