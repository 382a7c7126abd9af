/-! ===== the class: Ending ===== -/
theorem bt_tk {c t tr : Nat} (hc : c < 52) (ht : t < 52) (htr : tr < 5) : btF (nI c) (nI t) (nI tr) = gTk 1 c t tr := by
  unfold btF gTk
  rw [pk_div (by omega) (by omega) (by omega), pk_div (by omega) (by omega) (by omega)]
  simp only [nI_eq (show c / 13 < 2 ^ 31 by omega) (show t / 13 < 2 ^ 31 by omega), nI_eq (show c / 13 < 2 ^ 31 by omega) (show tr < 2 ^ 31 by omega), nI_ltI (show t < 2 ^ 31 by omega) (show c < 2 ^ 31 by omega)]
  simp
theorem hb_btw {a b : Nat} (hb0 : b < 52) (hab : a < b) (c : Nat) : hb (bt1 b - bt1 a) c = decide (a ≤ c ∧ c < b) := by
  have h : ∀ b, b < 52 → ∀ a, a < b → (bt1 b - bt1 a).toBitVec = (BitVec.allOnes 64 <<< a) &&& ~~~(BitVec.allOnes 64 <<< b) := by decide +kernel
  unfold hb
  rw [h b hb0 a hab]
  by_cases hc : c < 64
  · simp only [BitVec.getLsbD_and, BitVec.getLsbD_not, BitVec.getLsbD_shiftLeft, BitVec.getLsbD_allOnes, hc, decide_true, Bool.true_and]
    by_cases h1 : c < a
    · simp [h1, show ¬ a ≤ c by omega]
    · by_cases h2 : c < b
      · simp [h1, h2, show a ≤ c by omega, show c - a < 64 by omega]
      · simp [h1, h2, show c - a < 64 by omega, show c - b < 64 by omega]
  · rw [BitVec.getLsbD_of_ge _ _ (by omega)]
    exact (decide_eq_false (by omega)).symm
/-- whether two cards of one hand are equal: the class's test -/
def eqF (a b : Nat) (w : Int64) : Bool := decide (a / 13 = b / 13) && decide (w &&& (bt1 b - bt1 a) = 0)
set_option maxRecDepth 20000 in
theorem p_areEqual {pr : aC} {d : Nat} {σ : Type} {Rp : σ → aH → Prop} {Fr : aH → aH → Prop} (hrf : ∀ h, Fr h h) (htr : ∀ a b d, Fr a b → Fr b d → Fr a d) {u : σ} (a b : Nat) (ha : a < 52) (hb : b < 52) (w : Int64) {Q : Option Value → σ → Prop} (hQ : Q (some (.int (bI (eqF a b w)))) u) : pR Rp Fr pr (d + 1 + 1) 42 [.int (nI a), .int (nI b), .long w] u Q := by
  refine gR_of mi_42 hrf rfl (Nat.le_of_ble_eq_true rfl) ?_
  show pB Rp Fr pr (d + 1) cd_42 (Option.some Jvm.ClassFile.FieldType.boolean) Q 0 [some (.int (nI a)), some (.int (nI b)), some (.long w), none, none, none] [] u
  refine g_load rfl rfl rfl trivial ?_
  refine g_statI [.int (nI b)] htr rfl rfl rfl (Nat.le_of_ble_eq_true rfl) (Nat.le_refl _) (Nat.le_refl _) (p_bitOf hrf htr b ⟨_, rfl, ?_⟩)
  refine g_load rfl rfl rfl trivial ?_
  refine g_statI [.int (nI a)] htr rfl rfl rfl (Nat.le_of_ble_eq_true rfl) (Nat.le_refl _) (Nat.le_refl _) (p_bitOf hrf htr a ⟨_, rfl, ?_⟩)
  refine g_lsub rfl ?_
  refine g_store [some (.int (nI a)), some (.int (nI b)), some (.long w), none, some (.long (bt1 b - bt1 a)), none] rfl rfl trivial (Nat.le_of_ble_eq_true rfl) rfl ?_
  refine g_load rfl rfl rfl trivial ?_
  refine g_statI [.int (nI a)] htr rfl rfl rfl (Nat.le_of_ble_eq_true rfl) (Nat.le_refl _) (Nat.le_refl _) (p_suitOf hrf htr (nI a) ⟨_, rfl, ?_⟩)
  rw [pk_div (by omega) (by omega) (by omega)]
  refine g_load rfl rfl rfl trivial ?_
  refine g_statI [.int (nI b)] htr rfl rfl rfl (Nat.le_of_ble_eq_true rfl) (Nat.le_refl _) (Nat.le_refl _) (p_suitOf hrf htr (nI b) ⟨_, rfl, ?_⟩)
  rw [pk_div (by omega) (by omega) (by omega)]
  refine g_icmp_ne rfl (fun c1 => ?_) (fun c1 => ?_)
  · rw [nI_eq (by omega) (by omega)] at c1
    rw [show eqF a b w = false by unfold eqF; simp [c1]] at hQ
    refine g_iconst (nI 0) rfl (by decide) ?_
    refine g_vret rfl trivial (by first | exact ⟨by decide, by decide⟩ | trivial) (Nat.le_refl _) (Nat.le_refl _) ?_
    exact hQ
  · rw [nI_eq (by omega) (by omega)] at c1
    unfold eqF at hQ
    rw [decide_eq_true c1, Bool.true_and] at hQ
    refine g_load rfl rfl rfl trivial ?_
    refine g_load rfl rfl rfl trivial ?_
    refine g_land rfl ?_
    refine g_lconst (lN 0) rfl rfl ?_
    refine g_lcmp rfl ?_
    refine g_if_ne rfl (fun c2 => ?_) (fun c2 => ?_)
    · rw [lg_0] at c2
      rw [decide_eq_false c2] at hQ
      refine g_iconst (nI 0) rfl (by decide) ?_
      refine g_vret rfl trivial (by first | exact ⟨by decide, by decide⟩ | trivial) (Nat.le_refl _) (Nat.le_refl _) ?_
      exact hQ
    · rw [lg_0] at c2
      rw [decide_eq_true c2] at hQ
      refine g_iconst (nI 1) rfl (by decide) ?_
      refine g_goto rfl ?_
      refine g_vret rfl trivial (by first | exact ⟨by decide, by decide⟩ | trivial) (Nat.le_refl _) (Nat.le_refl _) ?_
      exact hQ
/-- all cards that the seats below i hold, but s -/
def otL (L : Nat → Int64) (s : Nat) : Nat → Int64
  | 0 => lN 0
  | i + 1 => if i = s then otL L s i else otL L s i ||| L i
theorem hb_ot {L : Nat → Int64} {s c : Nat} : ∀ {i x : Nat}, x < i → x ≠ s → hb (L x) c = true → hb (otL L s i) c = true
  | i + 1, x, hx, hs, h => by
    unfold otL
    by_cases e : x = i
    · subst e; rw [if_neg hs, hb_or, h]; simp
    · have := hb_ot (i := i) (x := x) (by omega) hs h
      split
      · exact this
      · rw [hb_or, this]; rfl
set_option maxRecDepth 20000 in
theorem c_othersThan_l {pr : aC} {d : Nat} {u : cS} (k1 : u.kd 21 = 14) (k2 : u.kd 22 = 2) (s : Nat) (hs : s < 4) {Q : Option Value → cS → Prop} (hQ : Q (some (.long (otL (u.rL 22) s 4))) u) : ∀ (zz : Nat) (i : Nat) (hm : 4 - i < zz) (hle : i ≤ 4), cB pr (d) cd_41 (Option.some Jvm.ClassFile.FieldType.long) Q 4 [some (.ref 21), some (.int (nI s)), some (.long (otL (u.rL 22) s i)), none, some (.int (nI i))] [] u := by
  intro zz
  induction zz with
  | zero => intro i hm hle; exact absurd hm (by omega)
  | succ zz ih =>
    intro i hm hle
    refine g_load rfl rfl rfl trivial ?_
    refine g_load rfl rfl rfl trivial ?_
    refine c_getf rfl (by assumption) (by decide) (by rfl) (by rfl) ?_
    refine c_len rfl (by assumption) (by decide) (by rfl) (by decide) ?_
    refine g_icmp_ge rfl (fun c1 => ?_) (fun c1 => ?_)
    · rw [nI_leI (by omega) (by omega)] at c1
      have e : i = 4 := by omega
      subst e
      refine g_load rfl rfl rfl trivial ?_
      refine g_vret rfl trivial (by first | exact ⟨by decide, by decide⟩ | trivial) (Nat.le_refl _) (Nat.le_refl _) ?_
      exact hQ
    · rw [nI_leI (by omega) (by omega)] at c1
      refine g_load rfl rfl rfl trivial ?_
      refine g_load rfl rfl rfl trivial ?_
      refine g_icmp_eq rfl (fun c2 => ?_) (fun c2 => ?_)
      · rw [nI_eq (by omega) (by omega)] at c2
        have ho : otL (u.rL 22) s (i + 1) = otL (u.rL 22) s i := if_pos c2
        refine g_iinc (nI (i + 1)) [some (.ref 21), some (.int (nI s)), some (.long (otL (u.rL 22) s i)), none, some (.int (nI (i + 1)))] rfl rfl (nI_1 i) rfl ?_
        refine g_goto rfl ?_
        rw [← ho]
        exact ih (i + 1) (by omega) (by omega)
      · rw [nI_eq (by omega) (by omega)] at c2
        have ho : otL (u.rL 22) s (i + 1) = otL (u.rL 22) s i ||| u.rL 22 i := if_neg c2
        refine g_load rfl rfl rfl trivial ?_
        refine g_load rfl rfl rfl trivial ?_
        refine c_getf rfl (by assumption) (by decide) (by rfl) (by rfl) ?_
        refine g_load rfl rfl rfl trivial ?_
        refine c_la i rfl (by assumption) (by decide) (by rfl) rfl (by omega) (by decide) ?_
        refine g_lor rfl ?_
        refine g_store [some (.ref 21), some (.int (nI s)), some (.long (otL (u.rL 22) s i ||| u.rL 22 i)), none, some (.int (nI i))] rfl rfl trivial (Nat.le_of_ble_eq_true rfl) rfl ?_
        refine g_iinc (nI (i + 1)) [some (.ref 21), some (.int (nI s)), some (.long (otL (u.rL 22) s i ||| u.rL 22 i)), none, some (.int (nI (i + 1)))] rfl rfl (nI_1 i) rfl ?_
        refine g_goto rfl ?_
        rw [← ho]
        exact ih (i + 1) (by omega) (by omega)
set_option maxRecDepth 20000 in
theorem c_othersThan {pr : aC} {d : Nat} {u : cS} (k1 : u.kd 21 = 14) (k2 : u.kd 22 = 2) (s : Nat) (hs : s < 4) {Q : Option Value → cS → Prop} (hQ : Q (some (.long (otL (u.rL 22) s 4))) u) : cR pr (d + 1) 41 [.ref 21, .int (nI s)] u Q := by
  refine gR_of mi_41 eF_rf rfl (Nat.le_of_ble_eq_true rfl) ?_
  show cB pr (d) cd_41 (Option.some Jvm.ClassFile.FieldType.long) Q 0 [some (.ref 21), some (.int (nI s)), none, none, none] [] u
  refine g_lconst (lN 0) rfl rfl ?_
  refine g_store [some (.ref 21), some (.int (nI s)), some (.long (otL (u.rL 22) s 0)), none, none] rfl rfl trivial (Nat.le_of_ble_eq_true rfl) rfl ?_
  refine g_iconst (nI 0) rfl (by decide) ?_
  refine g_store [some (.ref 21), some (.int (nI s)), some (.long (otL (u.rL 22) s 0)), none, some (.int (nI 0))] rfl rfl trivial (Nat.le_of_ble_eq_true rfl) rfl ?_
  exact c_othersThan_l k1 k2 s hs hQ 5 0 (by omega) (by omega)
theorem lsT_lt {tr : Nat} {c : Nat → Nat} (h : ∀ i, i < 4 → c i < 52) : ∀ i, i < 4 → lsT tr c i < 52
  | 0, _ => h 0 (by omega)
  | i + 1, hi => by
    unfold lsT
    have := lsT_lt (tr := tr) h i (by omega)
    have := h (i + 1) hi
    split <;> omega
theorem lsW_lt {tr s : Nat} {c : Nat → Nat} (hs : s < 4) : ∀ i, lsW tr s c i < 4
  | 0 => hs
  | i + 1 => by
    unfold lsW
    have := lsW_lt (tr := tr) (c := c) hs i
    split <;> omega
/-- the best card and its player before the i-th -/
def lsI (tr : Nat) (c : Nat → Nat) : Nat → Int32
  | 0 => -1
  | i + 1 => nI (lsT tr c i)
def lsJ (tr s : Nat) (c : Nat → Nat) : Nat → Nat
  | 0 => s
  | i + 1 => lsW tr s c i
set_option maxRecDepth 20000 in
theorem c_winsLast_l {pr : aC} {d : Nat} {u : cS} (k1 : u.kd 21 = 14) (k2 : u.kd 22 = 2) (tr sd s : Nat) (c : Nat → Nat) (ht : u.oI 21 1 = nI tr) (htr : tr < 5) (hsd : u.oI 21 2 = nI sd) (hsd2 : sd < 2) (hs : s < 4) (hc : ∀ i, i < 4 → c i < 52 ∧ u.rL 22 ((s + i) % 4) = bt1 (c i)) {Q : Option Value → cS → Prop} (hQ : Q (some (.int (bI (decide (lsW tr s c 3 % 2 = sd))))) u) : ∀ (zz : Nat) (i : Nat) (l5 l6 l8 : Option Value) (hm : 4 - i < zz) (hle : i ≤ 4), cB pr (d + 1) cd_40 (Option.some Jvm.ClassFile.FieldType.boolean) Q 6 [some (.ref 21), some (.int (nI s)), some (.int (lsI tr c i)), some (.int (nI (lsJ tr s c i))), some (.int (nI i)), l5, l6, none, l8] [] u := by
  intro zz
  induction zz with
  | zero => intro i l5 l6 l8 hm hle; exact absurd hm (by omega)
  | succ zz ih =>
    intro i l5 l6 l8 hm hle
    have hc4 : ∀ i, i < 4 → c i < 52 := fun i hi => (hc i hi).1
    refine g_load rfl rfl rfl trivial ?_
    refine g_iconst (nI 4) rfl (by decide) ?_
    refine g_icmp_ge rfl (fun c1 => ?_) (fun c1 => ?_)
    · rw [nI_leI (by omega) (by omega)] at c1
      have e : i = 4 := by omega
      subst e
      have hw : lsJ tr s c 4 < 4 := lsW_lt (tr := tr) (c := c) hs 3
      rw [show lsW tr s c 3 = lsJ tr s c 4 from rfl] at hQ
      refine g_load rfl rfl rfl trivial ?_
      refine g_iconst (nI 2) rfl (by decide) ?_
      refine g_irem rfl (by decide) ?_
      rw [pk_rem (by omega) (by omega) (by omega)]
      refine g_load rfl rfl rfl trivial ?_
      refine c_getf rfl (by assumption) (by decide) (by rfl) (by rfl) ?_
      rw [hsd]
      refine g_icmp_ne rfl (fun c2 => ?_) (fun c2 => ?_)
      · rw [nI_eq (by omega) (by omega)] at c2
        rw [decide_eq_false c2] at hQ
        refine g_iconst (nI 0) rfl (by decide) ?_
        refine g_vret rfl trivial (by first | exact ⟨by decide, by decide⟩ | trivial) (Nat.le_refl _) (Nat.le_refl _) ?_
        exact hQ
      · rw [nI_eq (by omega) (by omega)] at c2
        rw [decide_eq_true c2] at hQ
        refine g_iconst (nI 1) rfl (by decide) ?_
        refine g_goto rfl ?_
        refine g_vret rfl trivial (by first | exact ⟨by decide, by decide⟩ | trivial) (Nat.le_refl _) (Nat.le_refl _) ?_
        exact hQ
    · rw [nI_leI (by omega) (by omega)] at c1
      have hci := hc i (by omega)
      refine g_load rfl rfl rfl trivial ?_
      refine g_load rfl rfl rfl trivial ?_
      refine g_iadd rfl ?_
      rw [nI_add]
      refine g_iconst (nI 4) rfl (by decide) ?_
      refine g_irem rfl (by decide) ?_
      rw [pk_rem (by omega) (by omega) (by omega)]
      refine g_store [some (.ref 21), some (.int (nI s)), some (.int (lsI tr c i)), some (.int (nI (lsJ tr s c i))), some (.int (nI i)), some (.int (nI ((s + i) % 4))), l6, none, l8] rfl rfl trivial (Nat.le_of_ble_eq_true rfl) rfl ?_
      refine g_load rfl rfl rfl trivial ?_
      refine g_if_lt rfl (fun c3 => ?_) (fun c3 => ?_)
      · exact absurd c3 (nI_pos (by omega))
      · refine g_load rfl rfl rfl trivial ?_
        refine g_load rfl rfl rfl trivial ?_
        refine c_getf rfl (by assumption) (by decide) (by rfl) (by rfl) ?_
        refine c_len rfl (by assumption) (by decide) (by rfl) (by decide) ?_
        refine g_icmp_ge rfl (fun c4 => ?_) (fun c4 => ?_)
        · rw [nI_leI (by omega) (by omega)] at c4
          exact absurd c4 (by omega)
        · refine g_load rfl rfl rfl trivial ?_
          refine c_getf rfl (by assumption) (by decide) (by rfl) (by rfl) ?_
          refine g_load rfl rfl rfl trivial ?_
          refine c_la ((s + i) % 4) rfl (by assumption) (by decide) (by rfl) rfl (by omega) (by decide) ?_
          rw [hci.2]
          refine g_goto rfl ?_
          refine g_store [some (.ref 21), some (.int (nI s)), some (.int (lsI tr c i)), some (.int (nI (lsJ tr s c i))), some (.int (nI i)), some (.int (nI ((s + i) % 4))), some (.long (bt1 (c i))), none, l8] rfl rfl trivial (Nat.le_of_ble_eq_true rfl) rfl ?_
          refine g_load rfl rfl rfl trivial ?_
          refine g_lconst (lN 1) rfl rfl ?_
          refine g_lsub rfl ?_
          refine g_statI [.long (bt1 (c i) - lN 1)] eF_tr rfl rfl rfl (Nat.le_of_ble_eq_true rfl) (Nat.le_refl _) (Nat.le_refl _) (p_bitCount eF_rf eF_tr (bt1 (c i) - lN 1) ⟨_, rfl, ?_⟩)
          rw [bcG_bt (c i) (by omega)]
          refine g_store [some (.ref 21), some (.int (nI s)), some (.int (lsI tr c i)), some (.int (nI (lsJ tr s c i))), some (.int (nI i)), some (.int (nI ((s + i) % 4))), some (.long (bt1 (c i))), none, some (.int (nI (c i)))] rfl rfl trivial (Nat.le_of_ble_eq_true rfl) rfl ?_
          cases i with
          | zero =>
            rw [show (s + 0) % 4 = s by omega]
            refine g_load rfl rfl rfl trivial ?_
            refine g_iconst (-1) rfl (by decide) ?_
            refine g_icmp_eq rfl (fun _ => ?_) (fun c9 => absurd rfl c9)
            refine g_load rfl rfl rfl trivial ?_
            refine g_store [some (.ref 21), some (.int (nI s)), some (.int (lsI tr c 1)), some (.int (nI (lsJ tr s c 0))), some (.int (nI 0)), some (.int (nI s)), some (.long (bt1 (c 0))), none, some (.int (nI (c 0)))] rfl rfl trivial (Nat.le_of_ble_eq_true rfl) rfl ?_
            refine g_load rfl rfl rfl trivial ?_
            refine g_store [some (.ref 21), some (.int (nI s)), some (.int (lsI tr c 1)), some (.int (nI (lsJ tr s c 1))), some (.int (nI 0)), some (.int (nI s)), some (.long (bt1 (c 0))), none, some (.int (nI (c 0)))] rfl rfl trivial (Nat.le_of_ble_eq_true rfl) rfl ?_
            refine g_iinc (nI (0 + 1)) [some (.ref 21), some (.int (nI s)), some (.int (lsI tr c 1)), some (.int (nI (lsJ tr s c 1))), some (.int (nI (0 + 1))), some (.int (nI s)), some (.long (bt1 (c 0))), none, some (.int (nI (c 0)))] rfl rfl (nI_1 0) rfl ?_
            refine g_goto rfl ?_
            exact ih (0 + 1) _ _ _ (by omega) (by omega)
          | succ i =>
            have htl := lsT_lt (tr := tr) hc4 i (by omega)
            show cB _ _ _ _ _ _ [some (.ref 21), some (.int (nI s)), some (.int (nI (lsT tr c i))), some (.int (nI (lsW tr s c i))), some (.int (nI (i + 1))), some (.int (nI ((s + (i + 1)) % 4))), some (.long (bt1 (c (i + 1)))), none, some (.int (nI (c (i + 1))))] _ _
            refine g_load rfl rfl rfl trivial ?_
            refine g_iconst (-1) rfl (by decide) ?_
            refine g_icmp_eq rfl (fun c5 => ?_) (fun c5 => ?_)
            · exact absurd c5 (nI_m1 (by omega))
            · refine g_load rfl rfl rfl trivial ?_
              refine g_load rfl rfl rfl trivial ?_
              refine g_load rfl rfl rfl trivial ?_
              refine c_getf rfl (by assumption) (by decide) (by rfl) (by rfl) ?_
              rw [ht]
              refine g_statI [.int (nI (c (i + 1))), .int (nI (lsT tr c i)), .int (nI tr)] eF_tr rfl rfl rfl (Nat.le_of_ble_eq_true rfl) (Nat.le_refl _) (Nat.le_refl _) (p_beats eF_rf eF_tr (nI (c (i + 1))) (nI (lsT tr c i)) (nI tr) ⟨_, rfl, ?_⟩)
              rw [bt_tk hci.1 htl htr]
              refine g_if_eq rfl (fun c6 => ?_) (fun c6 => ?_)
              · rw [bI_eq] at c6
                have e1 : lsI tr c (i + 1 + 1) = nI (lsT tr c i) := by show nI (if gTk 1 (c (i + 1)) (lsT tr c i) tr then c (i + 1) else lsT tr c i) = _; rw [if_neg (by rw [c6]; decide)]
                have e2 : lsJ tr s c (i + 1 + 1) = lsW tr s c i := by show (if gTk 1 (c (i + 1)) (lsT tr c i) tr then (s + (i + 1)) % 4 else lsW tr s c i) = _; rw [if_neg (by rw [c6]; decide)]
                refine g_iinc (nI (i + 1 + 1)) [some (.ref 21), some (.int (nI s)), some (.int (nI (lsT tr c i))), some (.int (nI (lsW tr s c i))), some (.int (nI (i + 1 + 1))), some (.int (nI ((s + (i + 1)) % 4))), some (.long (bt1 (c (i + 1)))), none, some (.int (nI (c (i + 1))))] rfl rfl (nI_1 _) rfl ?_
                refine g_goto rfl ?_
                have z := ih (i + 1 + 1) (some (.int (nI ((s + (i + 1)) % 4)))) (some (.long (bt1 (c (i + 1))))) (some (.int (nI (c (i + 1))))) (by omega) (by omega)
                rw [e1, e2] at z
                exact z
              · rw [bI_ne] at c6
                have e1 : lsI tr c (i + 1 + 1) = nI (c (i + 1)) := by show nI (if gTk 1 (c (i + 1)) (lsT tr c i) tr then c (i + 1) else lsT tr c i) = _; rw [if_pos c6]
                have e2 : lsJ tr s c (i + 1 + 1) = (s + (i + 1)) % 4 := by show (if gTk 1 (c (i + 1)) (lsT tr c i) tr then (s + (i + 1)) % 4 else lsW tr s c i) = _; rw [if_pos c6]
                refine g_load rfl rfl rfl trivial ?_
                refine g_store [some (.ref 21), some (.int (nI s)), some (.int (nI (c (i + 1)))), some (.int (nI (lsW tr s c i))), some (.int (nI (i + 1))), some (.int (nI ((s + (i + 1)) % 4))), some (.long (bt1 (c (i + 1)))), none, some (.int (nI (c (i + 1))))] rfl rfl trivial (Nat.le_of_ble_eq_true rfl) rfl ?_
                refine g_load rfl rfl rfl trivial ?_
                refine g_store [some (.ref 21), some (.int (nI s)), some (.int (nI (c (i + 1)))), some (.int (nI ((s + (i + 1)) % 4))), some (.int (nI (i + 1))), some (.int (nI ((s + (i + 1)) % 4))), some (.long (bt1 (c (i + 1)))), none, some (.int (nI (c (i + 1))))] rfl rfl trivial (Nat.le_of_ble_eq_true rfl) rfl ?_
                refine g_iinc (nI (i + 1 + 1)) [some (.ref 21), some (.int (nI s)), some (.int (nI (c (i + 1)))), some (.int (nI ((s + (i + 1)) % 4))), some (.int (nI (i + 1 + 1))), some (.int (nI ((s + (i + 1)) % 4))), some (.long (bt1 (c (i + 1)))), none, some (.int (nI (c (i + 1))))] rfl rfl (nI_1 _) rfl ?_
                refine g_goto rfl ?_
                have z := ih (i + 1 + 1) (some (.int (nI ((s + (i + 1)) % 4)))) (some (.long (bt1 (c (i + 1))))) (some (.int (nI (c (i + 1))))) (by omega) (by omega)
                rw [e1, e2] at z
                exact z
set_option maxRecDepth 20000 in
theorem c_winsLast {pr : aC} {d : Nat} {u : cS} (k1 : u.kd 21 = 14) (k2 : u.kd 22 = 2) (tr sd s : Nat) (c : Nat → Nat) (ht : u.oI 21 1 = nI tr) (htr : tr < 5) (hsd : u.oI 21 2 = nI sd) (hsd2 : sd < 2) (hs : s < 4) (hc : ∀ i, i < 4 → c i < 52 ∧ u.rL 22 ((s + i) % 4) = bt1 (c i)) {Q : Option Value → cS → Prop} (hQ : Q (some (.int (bI (decide (lsW tr s c 3 % 2 = sd))))) u) : cR pr (d + 1 + 1) 40 [.ref 21, .int (nI s)] u Q := by
  refine gR_of mi_40 eF_rf rfl (Nat.le_of_ble_eq_true rfl) ?_
  show cB pr (d + 1) cd_40 (Option.some Jvm.ClassFile.FieldType.boolean) Q 0 [some (.ref 21), some (.int (nI s)), none, none, none, none, none, none, none] [] u
  refine g_iconst (-1) rfl (by decide) ?_
  refine g_store [some (.ref 21), some (.int (nI s)), some (.int (lsI tr c 0)), none, none, none, none, none, none] rfl rfl trivial (Nat.le_of_ble_eq_true rfl) rfl ?_
  refine g_load rfl rfl rfl trivial ?_
  refine g_store [some (.ref 21), some (.int (nI s)), some (.int (lsI tr c 0)), some (.int (nI (lsJ tr s c 0))), none, none, none, none, none] rfl rfl trivial (Nat.le_of_ble_eq_true rfl) rfl ?_
  refine g_iconst (nI 0) rfl (by decide) ?_
  refine g_store [some (.ref 21), some (.int (nI s)), some (.int (lsI tr c 0)), some (.int (nI (lsJ tr s c 0))), some (.int (nI 0)), none, none, none, none] rfl rfl trivial (Nat.le_of_ble_eq_true rfl) rfl ?_
  exact c_winsLast_l k1 k2 tr sd s c ht htr hsd hsd2 hs hc hQ 5 0 none none none (by omega) (by omega)
