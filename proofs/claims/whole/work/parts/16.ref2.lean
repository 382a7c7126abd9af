/-! ===== the reference: boards, tables, auctions read ===== -/
def first (p : Nat → Bool) : Nat → Nat → Option Nat
  | _, 0 => none
  | i, n + 1 => if p i then some i else first p (i + 1) n
def cnt (p : Nat → Bool) : Nat → Nat
  | 0 => 0
  | n + 1 => cnt p n + (if p n then 1 else 0)
def anyN (p : Nat → Bool) : Nat → Bool
  | 0 => false
  | n + 1 => anyN p n || p n
theorem anyN_t {p : Nat → Bool} : ∀ {n i : Nat}, i < n → p i = true → anyN p n = true
  | n + 1, i, h, hp => by
    unfold anyN
    by_cases hi : i = n
    · subst hi; simp [hp]
    · simp [anyN_t (show i < n by omega) hp]
theorem anyN_f {p : Nat → Bool} : ∀ {n : Nat}, (∀ i, i < n → p i = false) → anyN p n = false
  | 0, _ => rfl
  | n + 1, h => by
    show (anyN p n || p n) = false
    rw [anyN_f (fun i hi => h i (by omega)), h n (by omega)]; rfl
theorem anyN_iff {p : Nat → Bool} {n : Nat} : anyN p n = true ↔ ∃ i, i < n ∧ p i = true := by
  constructor
  · intro h
    apply Classical.byContradiction
    intro hn
    have : anyN p n = false := anyN_f (fun i hi => by
      cases hp : p i
      · rfl
      · exact absurd ⟨i, hi, hp⟩ hn)
    rw [this] at h; cases h
  · rintro ⟨i, h1, h2⟩; exact anyN_t h1 h2
def last (p : Int32 → Bool) (f : Nat → Int32) : Nat → Option Nat
  | 0 => none
  | n + 1 => if p (f n) then some n else last p f n
theorem cnt_le (p : Nat → Bool) : ∀ n, cnt p n ≤ n
  | 0 => Nat.le_refl 0
  | n + 1 => by
    unfold cnt
    have := cnt_le p n
    split <;> omega
theorem bd_of {u : rS} {b : Int32} {nb : Nat} (h : isBd u b = true) (h0 : u.1 0 = nI nb) (hn : nb < 2 ^ 31) : ∃ b', b' < nb ∧ b = nI (b' + 1) := by
  simp only [isBd, inF, Bool.and_eq_true, decide_eq_true_eq, h0, Int32.le_iff_toInt_le, nI_toInt hn] at h
  have h1 : (1 : Int32).toInt = 1 := by decide
  rw [h1] at h
  have h2 : (0 : Int32).toInt = 0 := by decide
  obtain ⟨j, hj, rfl⟩ := nI_of (x := b) (by rw [Int32.lt_iff_toInt_lt, h2]; omega)
  rw [nI_toInt hj] at h
  exact ⟨j - 1, by omega, by congr 1; omega⟩
theorem bd_t {u : rS} {b nb : Nat} (h0 : u.1 0 = nI nb) (hn : nb < 2 ^ 31) (hb : b < nb) : isBd u (nI (b + 1)) = true := by
  simp only [isBd, inF, Bool.and_eq_true, decide_eq_true_eq, h0]
  exact ⟨by rw [← nI1]; exact nI_le (by omega) (by omega), nI_le (by omega) hn⟩
theorem cd_of {c : Int32} (h : isCd c = true) : ∃ c', c' < 52 ∧ c = nI c' := by
  simp only [isCd, inF, Bool.and_eq_true, decide_eq_true_eq, Int32.le_iff_toInt_le] at h
  have h1 : (0 : Int32).toInt = 0 := by decide
  have h2 : (51 : Int32).toInt = 51 := by decide
  rw [h1, h2] at h
  obtain ⟨j, hj, rfl⟩ := nI_of (x := c) (by rw [Int32.lt_iff_toInt_lt]; omega)
  rw [nI_toInt hj] at h
  exact ⟨j, by omega, rfl⟩
theorem cd_t {c : Nat} (h : c < 52) : isCd (nI c) = true := by
  simp only [isCd, inF, Bool.and_eq_true, decide_eq_true_eq]
  exact ⟨by rw [← nI_0]; exact nI_le (by omega) (by omega), by rw [show (51 : Int32) = nI 51 by decide]; exact nI_le (by omega) (by omega)⟩
def handF (u : rS) (b c : Int32) : Int32 := if isBd u b && isCd c then u.2 26 (52 * (b.toNatClampNeg - 1) + c.toNatClampNeg) else -1
set_option maxRecDepth 20000 in
theorem r_dealer {pr : aC} {d : Nat} {u : rS} (b : Nat) (hb : b < 1000) {Q : Option Value → rS → Prop} (hQ : Q (some (.int (nI (b % 4)))) u) : rR pr (d + 1) 166 [.int (nI (b + 1))] u Q := by
  refine gR_of mi_166 rFr_rf rfl (Nat.le_of_ble_eq_true rfl) ?_
  show rB pr (d) cd_166 (Option.some Jvm.ClassFile.FieldType.int) Q 0 [some (.int (nI (b + 1)))] [] u
  refine g_load rfl rfl rfl trivial ?_
  refine g_iconst (nI 1) rfl (by decide) ?_
  refine g_isub rfl ?_
  refine g_iconst (nI 4) rfl (by decide) ?_
  refine g_irem rfl (by decide) ?_
  refine g_vret rfl trivial ⟨rfl, rfl⟩ (Nat.le_refl _) (Nat.le_refl _) ?_
  rw [pk_sub (by omega), show b + 1 - 1 = b by omega, pk_rem (by omega) (by omega) (by omega)]
  exact hQ
set_option maxRecDepth 20000 in
theorem r_vulnerable {pr : aC} {d : Nat} {u : rS} (b : Nat) (hb : b < 1000) {Q : Option Value → rS → Prop} (hQ : Q (some (.int (nI ((b % 16 + b % 16 / 4) % 4)))) u) : rR pr (d + 1) 167 [.int (nI (b + 1))] u Q := by
  refine gR_of mi_167 rFr_rf rfl (Nat.le_of_ble_eq_true rfl) ?_
  show rB pr (d) cd_167 (Option.some Jvm.ClassFile.FieldType.int) Q 0 [some (.int (nI (b + 1))), none] [] u
  refine g_load rfl rfl rfl trivial ?_
  refine g_iconst (nI 1) rfl (by decide) ?_
  refine g_isub rfl ?_
  refine g_bipush (nI 16) rfl (by decide) ?_
  refine g_irem rfl (by decide) ?_
  rw [pk_sub (by omega), show b + 1 - 1 = b by omega, pk_rem (by omega) (by omega) (by omega)]
  refine g_store [some (.int (nI (b + 1))), some (.int (nI (b % 16)))] rfl rfl trivial (Nat.le_of_ble_eq_true rfl) rfl ?_
  refine g_load rfl rfl rfl trivial ?_
  refine g_load rfl rfl rfl trivial ?_
  refine g_iconst (nI 4) rfl (by decide) ?_
  refine g_idiv rfl (by decide) ?_
  refine g_iadd rfl ?_
  refine g_iconst (nI 4) rfl (by decide) ?_
  refine g_irem rfl (by decide) ?_
  refine g_vret rfl trivial ⟨rfl, rfl⟩ (Nat.le_refl _) (Nat.le_refl _) ?_
  rw [pk_div (by omega) (by omega) (by omega), nI_add, pk_rem (by omega) (by omega) (by omega)]
  exact hQ
def vulF (b s : Nat) : Bool := decide ((b % 16 + b % 16 / 4) % 4 = 3 ∨ (b % 16 + b % 16 / 4) % 4 = s + 1)
set_option maxRecDepth 20000 in
theorem r_isVulnerable {pr : aC} {d : Nat} {u : rS} (b s : Nat) (hb : b < 1000) (hs : s < 2) {Q : Option Value → rS → Prop} (hQ : Q (some (.int (bI (vulF b s)))) u) : rR pr (d + 1 + 1) 168 [.int (nI (b + 1)), .int (nI s)] u Q := by
  refine gR_of mi_168 rFr_rf rfl (Nat.le_of_ble_eq_true rfl) ?_
  show rB pr (d + 1) cd_168 (Option.some Jvm.ClassFile.FieldType.boolean) Q 0 [some (.int (nI (b + 1))), some (.int (nI s)), none] [] u
  refine g_load rfl rfl rfl trivial ?_
  refine g_statI [.int (nI (b + 1))] rFr_tr rfl rfl rfl (Nat.le_of_ble_eq_true rfl) (Nat.le_refl _) (Nat.le_refl _) (r_vulnerable b hb ⟨_, rfl, ?_⟩)
  refine g_store [some (.int (nI (b + 1))), some (.int (nI s)), some (.int (nI ((b % 16 + b % 16 / 4) % 4)))] rfl rfl trivial (Nat.le_of_ble_eq_true rfl) rfl ?_
  refine g_load rfl rfl rfl trivial ?_
  refine g_iconst (nI 3) rfl (by decide) ?_
  refine g_icmp_eq rfl (fun c1 => ?_) (fun c1 => ?_)
  · rw [nI_eq (by omega) (by omega)] at c1
    refine g_iconst (nI 1) rfl (by decide) ?_
    refine g_goto rfl ?_
    refine g_vret rfl trivial (by first | exact ⟨by decide, by decide⟩ | trivial) (Nat.le_refl _) (Nat.le_refl _) ?_
    refine Qe ?_ hQ
    simp only [vulF, bI, decide_eq_true_eq]
    split <;> first | rfl | omega
  · rw [nI_eq (by omega) (by omega)] at c1
    refine g_load rfl rfl rfl trivial ?_
    refine g_load rfl rfl rfl trivial ?_
    refine g_iconst (nI 1) rfl (by decide) ?_
    refine g_iadd rfl ?_
    refine g_icmp_ne rfl (fun c2 => ?_) (fun c2 => ?_)
    · rw [nI_add, nI_eq (by omega) (by omega)] at c2
      refine g_iconst (nI 0) rfl (by decide) ?_
      refine g_vret rfl trivial (by first | exact ⟨by decide, by decide⟩ | trivial) (Nat.le_refl _) (Nat.le_refl _) ?_
      refine Qe ?_ hQ
      simp only [vulF, bI, decide_eq_true_eq]
      split <;> first | rfl | omega
    · rw [nI_add, nI_eq (by omega) (by omega)] at c2
      refine g_iconst (nI 1) rfl (by decide) ?_
      refine g_goto rfl ?_
      refine g_vret rfl trivial (by first | exact ⟨by decide, by decide⟩ | trivial) (Nat.le_refl _) (Nat.le_refl _) ?_
      refine Qe ?_ hQ
      simp only [vulF, bI, decide_eq_true_eq]
      split <;> first | rfl | omega
set_option maxRecDepth 20000 in
theorem r_hand {pr : aC} {d : Nat} {u : rS} (b c : Int32) (nb : Nat) (h0 : u.1 0 = nI nb) (hn : nb ≤ 36) {Q : Option Value → rS → Prop} (hQ : Q (some (.int (handF u b c))) u) : rR pr (d + 2 + 1) 165 [.ref 25, .int b, .int c] u Q := by
  refine gR_of mi_165 rFr_rf rfl (Nat.le_of_ble_eq_true rfl) ?_
  show rB pr (d + 2) cd_165 (Option.some Jvm.ClassFile.FieldType.int) Q 0 [some (.ref 25), some (.int b), some (.int c)] [] u
  refine g_load rfl rfl rfl trivial ?_
  refine g_load rfl rfl rfl trivial ?_
  refine g_virtI (a := 25) (ci := 8) (n := 1) [.int b] rFr_tr rfl rfl (by decide) rfl r_this rfl (Nat.le_of_ble_eq_true rfl) (Nat.le_refl _) (Nat.le_refl _) (r_isBoard b ⟨_, rfl, ?_⟩)
  refine g_if_eq rfl (fun c1 => ?_) (fun c1 => ?_)
  · rw [bI_eq] at c1
    refine g_iconst (-1) rfl (by decide) ?_
    refine g_vret rfl trivial ⟨rfl, rfl⟩ (Nat.le_refl _) (Nat.le_refl _) ?_
    refine Qe ?_ hQ
    simp only [handF, *, Bool.and_false, Bool.false_and, Bool.and_true, if_true, Bool.false_eq_true, if_false]
    try rw [nI_clamp (by omega), nI_clamp (by omega)]
    try rfl
  · rw [bI_ne] at c1
    obtain ⟨b', hb, rfl⟩ := bd_of c1 h0 (by omega)
    refine g_load rfl rfl rfl trivial ?_
    refine g_statI [.int c] rFr_tr rfl rfl rfl (Nat.le_of_ble_eq_true rfl) (Nat.le_refl _) (Nat.le_refl _) (r_isCard c ⟨_, rfl, ?_⟩)
    refine g_if_eq rfl (fun c2 => ?_) (fun c2 => ?_)
    · rw [bI_eq] at c2
      refine g_iconst (-1) rfl (by decide) ?_
      refine g_vret rfl trivial ⟨rfl, rfl⟩ (Nat.le_refl _) (Nat.le_refl _) ?_
      refine Qe ?_ hQ
      simp only [handF, *, Bool.and_false, Bool.false_and, Bool.and_true, if_true, Bool.false_eq_true, if_false]
      try rw [nI_clamp (by omega), nI_clamp (by omega)]
      try rfl
    · rw [bI_ne] at c2
      obtain ⟨c', hc, rfl⟩ := cd_of c2
      refine g_load rfl rfl rfl trivial ?_
      refine r_getf rfl rfl ?_
      refine g_bipush (nI 52) rfl (by decide) ?_
      refine g_load rfl rfl rfl trivial ?_
      refine g_iconst (nI 1) rfl (by decide) ?_
      refine g_isub rfl ?_
      refine g_imul rfl ?_
      refine g_load rfl rfl rfl trivial ?_
      refine g_iadd rfl ?_
      refine r_ia (52 * b' + c') rfl ⟨by decide, by decide, rfl⟩ (by rw [pk_sub (by omega), pk_mul, nI_add]; rfl) (by show _ < 1872; omega) ?_
      refine g_goto rfl ?_
      refine g_vret rfl trivial ⟨rfl, rfl⟩ (Nat.le_refl _) (Nat.le_refl _) ?_
      refine Qe ?_ hQ
      simp only [handF, *, Bool.and_false, Bool.false_and, Bool.and_true, if_true, Bool.false_eq_true, if_false]
      try rw [nI_clamp (by omega), nI_clamp (by omega)]
      try rfl
def tabF (u : rS) (b : Int32) (t : Nat) : Bool := decide (¬ u.2 28 t = 0 ∧ u.2 29 t = b)
theorem first_hit {p : Nat → Bool} : ∀ {n i t : Nat}, i ≤ t → t < i + n → p t = true → (∀ x, i ≤ x → x < t → p x = false) → first p i n = some t
  | 0, i, t, h1, h2, _, _ => by omega
  | n + 1, i, t, h1, h2, hp, hx => by
    unfold first
    by_cases hi : i = t
    · subst hi; rw [if_pos hp]
    · rw [if_neg (by rw [hx i (Nat.le_refl _) (by omega)]; decide)]
      exact first_hit (by omega) (by omega) hp (fun x h3 h4 => hx x (by omega) h4)
theorem first_miss {p : Nat → Bool} : ∀ {n i : Nat}, (∀ x, i ≤ x → x < i + n → p x = false) → first p i n = none
  | 0, i, _ => rfl
  | n + 1, i, hx => by
    unfold first
    rw [if_neg (by rw [hx i (Nat.le_refl _) (by omega)]; decide)]
    exact first_miss (fun x h3 h4 => hx x (by omega) (by omega))
set_option maxRecDepth 20000 in
theorem r_tableOf_l {pr : aC} {d : Nat} {u : rS} (b : Int32) {Q : Option Value → rS → Prop} (hQ : Q (some (.int (oI (first (tabF u b) 0 10)))) u) : ∀ (zz : Nat) (i : Nat) (hm : 10 - i < zz) (hle : i ≤ 10) (hinv : ∀ x, x < i → tabF u b x = false), rB pr (d) cd_169 (Option.some Jvm.ClassFile.FieldType.int) Q 2 [some (.ref 25), some (.int b), some (.int (nI i))] [] u := by
  intro zz
  induction zz with
  | zero => intro i hm hle hinv; exact absurd hm (by omega)
  | succ zz ih =>
    intro i hm hle hinv
    refine g_load rfl rfl rfl trivial ?_
    refine g_bipush (nI 10) rfl (by decide) ?_
    refine g_icmp_ge rfl (fun c1 => ?_) (fun c1 => ?_)
    · rw [nI_leI (by omega) (by omega)] at c1
      have hi : i = 10 := by omega
      subst hi
      rw [first_miss (fun x _ h => hinv x (by omega))] at hQ
      refine g_iconst (-1) rfl (by decide) ?_
      refine g_vret rfl trivial ⟨rfl, rfl⟩ (Nat.le_refl _) (Nat.le_refl _) ?_
      exact hQ
    · rw [nI_leI (by omega) (by omega)] at c1
      refine g_load rfl rfl rfl trivial ?_
      refine r_getf rfl rfl ?_
      refine g_load rfl rfl rfl trivial ?_
      refine r_ia (i) rfl ⟨by decide, by decide, rfl⟩ rfl (by show i < 10; omega) ?_
      refine g_if_eq rfl (fun c2 => ?_) (fun c2 => ?_)
      · have hf : tabF u b i = false := by simp [tabF, c2]
        refine g_iinc (nI (i + 1)) [some (.ref 25), some (.int b), some (.int (nI (i + 1)))] rfl rfl (nI_1 i) rfl ?_
        refine g_goto rfl ?_
        exact ih (i + 1) (by omega) (by omega) (fun x hx => by
          rcases Nat.lt_succ_iff_lt_or_eq.mp hx with h | h
          · exact hinv x h
          · exact h ▸ hf)
      · refine g_load rfl rfl rfl trivial ?_
        refine r_getf rfl rfl ?_
        refine g_load rfl rfl rfl trivial ?_
        refine r_ia (i) rfl ⟨by decide, by decide, rfl⟩ rfl (by show i < 10; omega) ?_
        refine g_load rfl rfl rfl trivial ?_
        refine g_icmp_ne rfl (fun c3 => ?_) (fun c3 => ?_)
        · have hf : tabF u b i = false := by simp [tabF, c3]
          refine g_iinc (nI (i + 1)) [some (.ref 25), some (.int b), some (.int (nI (i + 1)))] rfl rfl (nI_1 i) rfl ?_
          refine g_goto rfl ?_
          exact ih (i + 1) (by omega) (by omega) (fun x hx => by
            rcases Nat.lt_succ_iff_lt_or_eq.mp hx with h | h
            · exact hinv x h
            · exact h ▸ hf)
        · rw [first_hit (t := i) (by omega) (by omega) (by simp [tabF, *]) (fun x _ h => hinv x h)] at hQ
          refine g_load rfl rfl rfl trivial ?_
          refine g_vret rfl trivial ⟨rfl, rfl⟩ (Nat.le_refl _) (Nat.le_refl _) ?_
          exact hQ
set_option maxRecDepth 20000 in
theorem r_tableOf {pr : aC} {d : Nat} {u : rS} (b : Int32) {Q : Option Value → rS → Prop} (hQ : Q (some (.int (oI (first (tabF u b) 0 10)))) u) : rR pr (d + 1) 169 [.ref 25, .int b] u Q := by
  refine gR_of mi_169 rFr_rf rfl (Nat.le_of_ble_eq_true rfl) ?_
  show rB pr (d) cd_169 (Option.some Jvm.ClassFile.FieldType.int) Q 0 [some (.ref 25), some (.int b), none] [] u
  refine g_iconst (nI 0) rfl (by decide) ?_
  refine g_store [some (.ref 25), some (.int b), some (.int (nI 0))] rfl rfl trivial (Nat.le_of_ble_eq_true rfl) rfl ?_
  exact r_tableOf_l b hQ 11 0 (by omega) (by omega) (fun x h => absurd h (by omega))
set_option maxRecDepth 20000 in
theorem r_resultsOf_l {pr : aC} {d : Nat} {u : rS} (b : Int32) (nr : Nat) (h1 : u.1 1 = nI nr) (hn : nr ≤ 220) {Q : Option Value → rS → Prop} (hQ : Q (some (.int (nI (cnt (fun i => decide (u.2 35 i = b)) nr)))) u) : ∀ (zz : Nat) (i : Nat) (hm : nr - i < zz) (hle : i ≤ nr) (hinv : True), rB pr (d) cd_170 (Option.some Jvm.ClassFile.FieldType.int) Q 4 [some (.ref 25), some (.int b), some (.int (nI (cnt (fun i => decide (u.2 35 i = b)) i))), some (.int (nI i))] [] u := by
  intro zz
  induction zz with
  | zero => intro i hm hle hinv; exact absurd hm (by omega)
  | succ zz ih =>
    intro i hm hle hinv
    refine g_load rfl rfl rfl trivial ?_
    refine g_load rfl rfl rfl trivial ?_
    refine r_getf rfl rfl ?_
    rw [h1]
    refine g_icmp_ge rfl (fun c1 => ?_) (fun c1 => ?_)
    · rw [nI_leI (by omega) (by omega)] at c1
      have hi : i = nr := by omega
      subst hi
      refine g_load rfl rfl rfl trivial ?_
      exact g_vret rfl trivial ⟨rfl, rfl⟩ (Nat.le_refl _) (Nat.le_refl _) hQ
    rw [nI_leI (by omega) (by omega)] at c1
    refine g_load rfl rfl rfl trivial ?_
    refine g_load rfl rfl rfl trivial ?_
    refine r_getf rfl rfl ?_
    refine g_load rfl rfl rfl trivial ?_
    refine r_ia (i) rfl ⟨by decide, by decide, rfl⟩ rfl (by show i < 220; omega) ?_
    refine g_load rfl rfl rfl trivial ?_
    refine g_icmp_ne rfl (fun c1 => ?_) (fun c1 => ?_)
    · have hc : cnt (fun i => decide (u.2 35 i = b)) (i + 1) = cnt (fun i => decide (u.2 35 i = b)) i + 0 := by simp [cnt, c1]
      refine g_iconst (nI 0) rfl (by decide) ?_
      refine g_iadd rfl ?_
      rw [nI_add, ← hc]
      refine g_store [some (.ref 25), some (.int b), some (.int (nI (cnt (fun i => decide (u.2 35 i = b)) (i + 1)))), some (.int (nI i))] rfl rfl trivial (Nat.le_of_ble_eq_true rfl) rfl ?_
      refine g_iinc (nI (i + 1)) [some (.ref 25), some (.int b), some (.int (nI (cnt (fun i => decide (u.2 35 i = b)) (i + 1)))), some (.int (nI (i + 1)))] rfl rfl (nI_1 i) rfl ?_
      refine g_goto rfl ?_
      exact ih (i + 1) (by omega) (by omega) trivial
    · have hc : cnt (fun i => decide (u.2 35 i = b)) (i + 1) = cnt (fun i => decide (u.2 35 i = b)) i + 1 := by simp [cnt, c1]
      refine g_iconst (nI 1) rfl (by decide) ?_
      refine g_goto rfl ?_
      refine g_iadd rfl ?_
      rw [nI_add, ← hc]
      refine g_store [some (.ref 25), some (.int b), some (.int (nI (cnt (fun i => decide (u.2 35 i = b)) (i + 1)))), some (.int (nI i))] rfl rfl trivial (Nat.le_of_ble_eq_true rfl) rfl ?_
      refine g_iinc (nI (i + 1)) [some (.ref 25), some (.int b), some (.int (nI (cnt (fun i => decide (u.2 35 i = b)) (i + 1)))), some (.int (nI (i + 1)))] rfl rfl (nI_1 i) rfl ?_
      refine g_goto rfl ?_
      exact ih (i + 1) (by omega) (by omega) trivial
set_option maxRecDepth 20000 in
theorem r_resultsOf {pr : aC} {d : Nat} {u : rS} (b : Int32) (nr : Nat) (h1 : u.1 1 = nI nr) (hn : nr ≤ 220) {Q : Option Value → rS → Prop} (hQ : Q (some (.int (nI (cnt (fun i => decide (u.2 35 i = b)) nr)))) u) : rR pr (d + 1) 170 [.ref 25, .int b] u Q := by
  refine gR_of mi_170 rFr_rf rfl (Nat.le_of_ble_eq_true rfl) ?_
  show rB pr (d) cd_170 (Option.some Jvm.ClassFile.FieldType.int) Q 0 [some (.ref 25), some (.int b), none, none] [] u
  refine g_iconst (nI 0) rfl (by decide) ?_
  refine g_store [some (.ref 25), some (.int b), some (.int (nI 0)), none] rfl rfl trivial (Nat.le_of_ble_eq_true rfl) rfl ?_
  refine g_iconst (nI 0) rfl (by decide) ?_
  refine g_store [some (.ref 25), some (.int b), some (.int (nI 0)), some (.int (nI 0))] rfl rfl trivial (Nat.le_of_ble_eq_true rfl) rfl ?_
  exact r_resultsOf_l b nr h1 hn hQ (nr + 1) 0 (by omega) (by omega) trivial
def playF (u : rS) (p : Int32) (t : Nat) : Bool := decide (¬ u.2 28 t = 0 ∧ (u.2 30 (2 * t) = p ∨ u.2 30 (2 * t + 1) = p))
set_option maxRecDepth 20000 in
theorem r_isPlaying_l {pr : aC} {d : Nat} {u : rS} (p : Int32) {Q : Option Value → rS → Prop} (hQ : Q (some (.int (bI (anyN (playF u p) 10)))) u) : ∀ (zz : Nat) (i : Nat) (hm : 10 - i < zz) (hle : i ≤ 10) (hinv : ∀ x, x < i → playF u p x = false), rB pr (d) cd_172 (Option.some Jvm.ClassFile.FieldType.boolean) Q 2 [some (.ref 25), some (.int p), some (.int (nI i))] [] u := by
  intro zz
  induction zz with
  | zero => intro i hm hle hinv; exact absurd hm (by omega)
  | succ zz ih =>
    intro i hm hle hinv
    refine g_load rfl rfl rfl trivial ?_
    refine g_bipush (nI 10) rfl (by decide) ?_
    refine g_icmp_ge rfl (fun c1 => ?_) (fun c1 => ?_)
    · rw [nI_leI (by omega) (by omega)] at c1
      have hi : i = 10 := by omega
      subst hi
      rw [anyN_f (fun x h => hinv x (by omega))] at hQ
      refine g_iconst (nI 0) rfl (by decide) ?_
      refine g_vret rfl trivial (by first | exact ⟨by decide, by decide⟩ | trivial) (Nat.le_refl _) (Nat.le_refl _) ?_
      exact hQ
    · rw [nI_leI (by omega) (by omega)] at c1
      refine g_load rfl rfl rfl trivial ?_
      refine r_getf rfl rfl ?_
      refine g_load rfl rfl rfl trivial ?_
      refine r_ia (i) rfl ⟨by decide, by decide, rfl⟩ rfl (by show i < 10; omega) ?_
      refine g_if_eq rfl (fun c2 => ?_) (fun c2 => ?_)
      · have hf : playF u p i = false := by simp [playF, c2]
        refine g_iinc (nI (i + 1)) [some (.ref 25), some (.int p), some (.int (nI (i + 1)))] rfl rfl (nI_1 i) rfl ?_
        refine g_goto rfl ?_
        exact ih (i + 1) (by omega) (by omega) (fun x hx => by
          rcases Nat.lt_succ_iff_lt_or_eq.mp hx with h | h
          · exact hinv x h
          · exact h ▸ hf)
      · refine g_load rfl rfl rfl trivial ?_
        refine r_getf rfl rfl ?_
        refine g_iconst (nI 2) rfl (by decide) ?_
        refine g_load rfl rfl rfl trivial ?_
        refine g_imul rfl ?_
        refine r_ia (2 * i) rfl ⟨by decide, by decide, rfl⟩ (pk_mul 2 i) (by show _ < 20; omega) ?_
        refine g_load rfl rfl rfl trivial ?_
        refine g_icmp_eq rfl (fun c3 => ?_) (fun c3 => ?_)
        · rw [anyN_t (i := i) (by omega) (by simp [playF, *])] at hQ
          refine g_iconst (nI 1) rfl (by decide) ?_
          refine g_vret rfl trivial (by first | exact ⟨by decide, by decide⟩ | trivial) (Nat.le_refl _) (Nat.le_refl _) ?_
          exact hQ
        · refine g_load rfl rfl rfl trivial ?_
          refine r_getf rfl rfl ?_
          refine g_iconst (nI 2) rfl (by decide) ?_
          refine g_load rfl rfl rfl trivial ?_
          refine g_imul rfl ?_
          refine g_iconst (nI 1) rfl (by decide) ?_
          refine g_iadd rfl ?_
          refine r_ia (2 * i + 1) rfl ⟨by decide, by decide, rfl⟩ (by rw [pk_mul, nI_add]) (by show _ < 20; omega) ?_
          refine g_load rfl rfl rfl trivial ?_
          refine g_icmp_ne rfl (fun c4 => ?_) (fun c4 => ?_)
          · have hf : playF u p i = false := by simp [playF, *]
            refine g_iinc (nI (i + 1)) [some (.ref 25), some (.int p), some (.int (nI (i + 1)))] rfl rfl (nI_1 i) rfl ?_
            refine g_goto rfl ?_
            exact ih (i + 1) (by omega) (by omega) (fun x hx => by
              rcases Nat.lt_succ_iff_lt_or_eq.mp hx with h | h
              · exact hinv x h
              · exact h ▸ hf)
          · rw [anyN_t (i := i) (by omega) (by simp [playF, *])] at hQ
            refine g_iconst (nI 1) rfl (by decide) ?_
            refine g_vret rfl trivial (by first | exact ⟨by decide, by decide⟩ | trivial) (Nat.le_refl _) (Nat.le_refl _) ?_
            exact hQ
set_option maxRecDepth 20000 in
theorem r_isPlaying {pr : aC} {d : Nat} {u : rS} (p : Int32) {Q : Option Value → rS → Prop} (hQ : Q (some (.int (bI (anyN (playF u p) 10)))) u) : rR pr (d + 1) 172 [.ref 25, .int p] u Q := by
  refine gR_of mi_172 rFr_rf rfl (Nat.le_of_ble_eq_true rfl) ?_
  show rB pr (d) cd_172 (Option.some Jvm.ClassFile.FieldType.boolean) Q 0 [some (.ref 25), some (.int p), none] [] u
  refine g_iconst (nI 0) rfl (by decide) ?_
  refine g_store [some (.ref 25), some (.int p), some (.int (nI 0))] rfl rfl trivial (Nat.le_of_ble_eq_true rfl) rfl ?_
  exact r_isPlaying_l p hQ 11 0 (by omega) (by omega) (fun x h => absurd h (by omega))
def hasF (u : rS) (p b : Int32) (i : Nat) : Bool := decide (u.2 35 i = b ∧ (u.2 36 (2 * i) = p ∨ u.2 36 (2 * i + 1) = p))
set_option maxRecDepth 20000 in
theorem r_hasPlayed_l {pr : aC} {d : Nat} {u : rS} (p b : Int32) (nr : Nat) (h1 : u.1 1 = nI nr) (hn : nr ≤ 220) {Q : Option Value → rS → Prop} (hQ : Q (some (.int (bI (anyN (hasF u p b) nr)))) u) : ∀ (zz : Nat) (i : Nat) (hm : nr - i < zz) (hle : i ≤ nr) (hinv : ∀ x, x < i → hasF u p b x = false), rB pr (d) cd_173 (Option.some Jvm.ClassFile.FieldType.boolean) Q 2 [some (.ref 25), some (.int p), some (.int b), some (.int (nI i))] [] u := by
  intro zz
  induction zz with
  | zero => intro i hm hle hinv; exact absurd hm (by omega)
  | succ zz ih =>
    intro i hm hle hinv
    refine g_load rfl rfl rfl trivial ?_
    refine g_load rfl rfl rfl trivial ?_
    refine r_getf rfl rfl ?_
    rw [h1]
    refine g_icmp_ge rfl (fun c1 => ?_) (fun c1 => ?_)
    · rw [nI_leI (by omega) (by omega)] at c1
      have hi : i = nr := by omega
      subst hi
      rw [anyN_f (fun x h => hinv x (by omega))] at hQ
      refine g_iconst (nI 0) rfl (by decide) ?_
      exact g_vret rfl trivial ⟨by decide, by decide⟩ (Nat.le_refl _) (Nat.le_refl _) hQ
    rw [nI_leI (by omega) (by omega)] at c1
    refine g_load rfl rfl rfl trivial ?_
    refine r_getf rfl rfl ?_
    refine g_load rfl rfl rfl trivial ?_
    refine r_ia (i) rfl ⟨by decide, by decide, rfl⟩ rfl (by show i < 220; omega) ?_
    refine g_load rfl rfl rfl trivial ?_
    refine g_icmp_ne rfl (fun c1 => ?_) (fun c1 => ?_)
    · have hf : hasF u p b i = false := by simp [hasF, c1]
      refine g_iinc (nI (i + 1)) [some (.ref 25), some (.int p), some (.int b), some (.int (nI (i + 1)))] rfl rfl (nI_1 i) rfl ?_
      refine g_goto rfl ?_
      exact ih (i + 1) (by omega) (by omega) (fun x hx => by
        rcases Nat.lt_succ_iff_lt_or_eq.mp hx with h | h
        · exact hinv x h
        · exact h ▸ hf)
    · refine g_load rfl rfl rfl trivial ?_
      refine r_getf rfl rfl ?_
      refine g_iconst (nI 2) rfl (by decide) ?_
      refine g_load rfl rfl rfl trivial ?_
      refine g_imul rfl ?_
      refine r_ia (2 * i) rfl ⟨by decide, by decide, rfl⟩ (pk_mul 2 i) (by show _ < 440; omega) ?_
      refine g_load rfl rfl rfl trivial ?_
      refine g_icmp_eq rfl (fun c2 => ?_) (fun c2 => ?_)
      · rw [anyN_t (i := i) (by omega) (by simp [hasF, *])] at hQ
        refine g_iconst (nI 1) rfl (by decide) ?_
        refine g_vret rfl trivial (by first | exact ⟨by decide, by decide⟩ | trivial) (Nat.le_refl _) (Nat.le_refl _) ?_
        exact hQ
      · refine g_load rfl rfl rfl trivial ?_
        refine r_getf rfl rfl ?_
        refine g_iconst (nI 2) rfl (by decide) ?_
        refine g_load rfl rfl rfl trivial ?_
        refine g_imul rfl ?_
        refine g_iconst (nI 1) rfl (by decide) ?_
        refine g_iadd rfl ?_
        refine r_ia (2 * i + 1) rfl ⟨by decide, by decide, rfl⟩ (by rw [pk_mul, nI_add]) (by show _ < 440; omega) ?_
        refine g_load rfl rfl rfl trivial ?_
        refine g_icmp_ne rfl (fun c3 => ?_) (fun c3 => ?_)
        · have hf : hasF u p b i = false := by simp [hasF, *]
          refine g_iinc (nI (i + 1)) [some (.ref 25), some (.int p), some (.int b), some (.int (nI (i + 1)))] rfl rfl (nI_1 i) rfl ?_
          refine g_goto rfl ?_
          exact ih (i + 1) (by omega) (by omega) (fun x hx => by
            rcases Nat.lt_succ_iff_lt_or_eq.mp hx with h | h
            · exact hinv x h
            · exact h ▸ hf)
        · rw [anyN_t (i := i) (by omega) (by simp [hasF, *])] at hQ
          refine g_iconst (nI 1) rfl (by decide) ?_
          refine g_vret rfl trivial (by first | exact ⟨by decide, by decide⟩ | trivial) (Nat.le_refl _) (Nat.le_refl _) ?_
          exact hQ
set_option maxRecDepth 20000 in
theorem r_hasPlayed {pr : aC} {d : Nat} {u : rS} (p b : Int32) (nr : Nat) (h1 : u.1 1 = nI nr) (hn : nr ≤ 220) {Q : Option Value → rS → Prop} (hQ : Q (some (.int (bI (anyN (hasF u p b) nr)))) u) : rR pr (d + 1) 173 [.ref 25, .int p, .int b] u Q := by
  refine gR_of mi_173 rFr_rf rfl (Nat.le_of_ble_eq_true rfl) ?_
  show rB pr (d) cd_173 (Option.some Jvm.ClassFile.FieldType.boolean) Q 0 [some (.ref 25), some (.int p), some (.int b), none] [] u
  refine g_iconst (nI 0) rfl (by decide) ?_
  refine g_store [some (.ref 25), some (.int p), some (.int b), some (.int (nI 0))] rfl rfl trivial (Nat.le_of_ble_eq_true rfl) rfl ?_
  exact r_hasPlayed_l p b nr h1 hn hQ (nr + 1) 0 (by omega) (by omega) (fun x h => absurd h (by omega))
