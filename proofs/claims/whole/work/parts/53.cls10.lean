/-! ===== the class: Ending, the search ===== -/
/-- the hands that the longs hold -/
def eH (L : Nat → Int64) : Nat → Nat → Bool := fun s c => hb (L s) c
theorem eH_rm {L : Nat → Int64} {s c : Nat} (hc : c < 64) (h : hb (L s) c = true) : eH (vp_updL L s (L s ^^^ bt1 c)) = gRm (eH L) s c := by
  funext x y
  unfold eH gRm vp_updL
  by_cases e : x = s
  · subst e
    rw [if_pos rfl, hb_xor, hb_bt hc]
    by_cases e2 : y = c
    · subst e2; rw [if_pos ⟨rfl, rfl⟩, h]; simp
    · rw [if_neg (fun z => e2 z.2), decide_eq_false e2, Bool.xor_false]
  · rw [if_neg e, if_neg (fun z => e z.1)]
theorem upL_back (u : cS) (a k : Nat) (v : Int64) : upL (upL u a k v) a k (u.rL a k) = u := by
  have : u2 (u2 u.rL a k v) a k (u.rL a k) = u.rL := by
    funext b j
    unfold u2
    by_cases e : b = a
    · subst e
      by_cases e2 : j = k
      · subst e2; simp
      · simp [e2]
    · simp [e]
  show (u.1, u.2.1, u.2.2.1, u2 (u2 u.rL a k v) a k (u.rL a k), u.2.2.2.2.1, u.2.2.2.2.2) = u
  rw [this]
theorem xor_back (a b : Int64) : a ^^^ b ^^^ b = a := by
  refine hb_ext fun c _ => ?_
  rw [hb_xor, hb_xor]
  cases hb a c <;> cases hb b c <;> rfl
/-- what may be played, told by the bits -/
theorem lg_W {w : Int64} {H : Nat → Nat → Bool} {s c : Nat} {led : Option Nat} {lI : Int32} (hw : cdS w) (hH : ∀ c, H s c = hb w c) (hl : (led = none ∧ lI = -1) ∨ ∃ q, q < 4 ∧ led = some q ∧ lI = nI q) : hb (chS w lI) c = true ↔ gLg H s led c := by
  have hcd : hb (chS w lI) c = true → c < 52 := by
    intro h
    apply Nat.lt_of_not_le
    intro z
    have : hb (chS w lI) c = false := by
      unfold chS
      split
      · exact hw c z
      · split
        · exact hw c z
        · unfold suS; rw [hb_and, hw c z]; rfl
    rw [this] at h; cases h
  constructor
  · intro h
    have hc := hcd h
    rcases hl with ⟨rfl, rfl⟩ | ⟨q, hq, rfl, rfl⟩
    · exact ⟨hc, by rw [hH]; unfold chS at h; rw [if_pos rfl] at h; exact h, fun q hq => by cases hq⟩
    · rw [hb_ch hq hc hw] at h
      simp only [Bool.and_eq_true, Bool.or_eq_true, decide_eq_true_eq, Bool.not_eq_true'] at h
      refine ⟨hc, by rw [hH]; exact h.1, fun q' hq' => ?_⟩
      cases hq'
      refine h.2.imp id (fun z c' h1 h2 h3 => ?_)
      have := anyN_t (p := fun c => hb w c && decide (c / 13 = q)) h1 (by show (hb w c' && decide (c' / 13 = q)) = true; rw [← hH, h2, decide_eq_true h3]; rfl)
      rw [z] at this; cases this
  · rintro ⟨hc, h1, h2⟩
    rw [hH] at h1
    rcases hl with ⟨rfl, rfl⟩ | ⟨q, hq, rfl, rfl⟩
    · unfold chS; rw [if_pos rfl]; exact h1
    · rw [hb_ch hq hc hw, h1, Bool.true_and]
      rcases h2 q rfl with z | z
      · rw [decide_eq_true z]; rfl
      · rw [show anyN (fun c => hb w c && decide (c / 13 = q)) 52 = false from anyN_f (fun c' hc' => by
          show (hb w c' && decide (c' / 13 = q)) = false
          cases e : hb w c'
          · rfl
          · rw [decide_eq_false (z c' hc' (by rw [hH]; exact e))]; rfl)]
        simp
def bfL (bf : Option Nat) (x : Nat) : Bool := match bf with
  | none => true
  | some b => decide (b < x)
/-- the search at a place: W what may be played, R what is left of it, bf the latest tried -/
def wLp (W R : Int64) (bf : Option Nat) (P : Nat → Prop) (ours : Bool) (i : Nat) : Prop := (∀ x, hb R x = (hb W x && bfL bf x)) ∧ (∀ x, hb W x = true → bfL bf x = false → (P x ↔ ours = false)) ∧ cnt (hb R) 52 + i ≤ 4 ∧ cdS W ∧ ∀ b, bf = some b → hb W b = true
theorem wLp.lt {W R : Int64} {bf : Option Nat} {P : Nat → Prop} {ours : Bool} {i c : Nat} (h : wLp W R bf P ours i) (hc : hb R c = true) : c < 52 := by
  apply Nat.lt_of_not_le
  intro z
  rw [h.1, h.2.2.2.1 c z] at hc; cases hc
theorem wLp.low {W R : Int64} {bf : Option Nat} {P : Nat → Prop} {ours : Bool} {i : Nat} (h : wLp W R bf P ours i) (hr : ¬ R = 0) : ∃ c, c < 52 ∧ hb R c = true ∧ ∀ k, k < c → hb R k = false := by
  obtain ⟨c, hc, h1⟩ := hb_nz hr
  have key : ∀ n, (∃ c, c < n ∧ hb R c = true) → ∃ c, hb R c = true ∧ ∀ k, k < c → hb R k = false := by
    intro n
    induction n with
    | zero => rintro ⟨c, hc, _⟩; omega
    | succ n ih =>
      rintro ⟨c, hc, hc2⟩
      by_cases e : ∃ c, c < n ∧ hb R c = true
      · exact ih e
      · have : c = n := by
          apply Nat.le_antisymm (by omega)
          apply Nat.le_of_not_lt
          intro z; exact e ⟨c, z, hc2⟩
        subst this
        refine ⟨c, hc2, fun k hk => ?_⟩
        cases q : hb R k
        · rfl
        · exact absurd ⟨k, hk, q⟩ e
  obtain ⟨x, h2, h3⟩ := key 64 ⟨c, hc, h1⟩
  exact ⟨x, h.lt h2, h2, h3⟩
theorem wLp.step {W R : Int64} {bf : Option Nat} {P : Nat → Prop} {ours : Bool} {i c : Nat} (h : wLp W R bf P ours i) (hc : hb R c = true) (hm : ∀ k, k < c → hb R k = false) (hP : P c ↔ ours = false) : wLp W (R ^^^ bt1 c) (some c) P ours (i + 1) := by
  have hlt := h.lt hc
  obtain ⟨h1, h2, h3, h4, h5⟩ := h
  have hcW : hb W c = true ∧ bfL bf c = true := by
    rw [h1] at hc
    simpa using hc
  refine ⟨fun x => ?_, fun x hx hl => ?_, ?_, h4, fun b hb => by cases hb; exact hcW.1⟩
  · rw [hb_xor, hb_bt (by omega)]
    by_cases e : x = c
    · subst e; rw [hc]; simp [bfL]
    · rw [decide_eq_false e, Bool.xor_false]
      by_cases e2 : x < c
      · rw [hm x e2]; simp [bfL, show ¬ c < x by omega]
      · rw [h1]
        congr 1
        show bfL bf x = decide (c < x)
        rw [decide_eq_true (show c < x by omega)]
        cases bf with
        | none => rfl
        | some b =>
          have : b < c := by have := hcW.2; unfold bfL at this; simpa using this
          exact decide_eq_true (by omega)
  · by_cases e : x = c
    · subst e; exact hP
    · have hxc : x < c := by
        have : ¬ c < x := by unfold bfL at hl; simpa using hl
        omega
      have := hm x hxc
      rw [h1, hx, Bool.true_and] at this
      exact h2 x hx this
  · have := cnt_rm (p := hb R) (q := hb (R ^^^ bt1 c)) hlt hc (fun x hx => by
      rw [hb_xor, hb_bt (by omega)]
      by_cases e : x = c
      · subst e; rw [hc, if_pos rfl]; simp
      · rw [if_neg e, decide_eq_false e, Bool.xor_false])
    omega
theorem wLp.done {W R : Int64} {bf : Option Nat} {P : Nat → Prop} {ours : Bool} {i : Nat} (h : wLp W R bf P ours i) (he : i = 4 ∨ R = 0) (x : Nat) (hx : hb W x = true) : P x ↔ ours = false := by
  have hR : hb R x = false := by
    rcases he with rfl | rfl
    · cases q : hb R x
      · rfl
      · have hl := h.lt q
        have := cnt_rm (p := hb R) (q := fun y => if y = x then false else hb R y) hl q (fun y _ => rfl)
        have := h.2.2.1
        omega
    · exact hb_0 x
  rw [h.1, hx, Bool.true_and] at hR
  exact h.2.1 x hx hR
/-- the class's test of equal cards is right -/
theorem eq_ok {tr sd n need : Nat} {L : Nat → Int64} {s k : Nat} {led : Option Nat} {top w a b : Nat} {lI : Int32} {R : Int64} {z : Int64} {bf : Option Nat} {P : Nat → Prop} {ours : Bool} {i : Nat} (hs : s < 4) (hk : k < 4) (hw : w < 4) (hcd : cdS (L s)) (hl : (led = none ∧ lI = -1) ∨ ∃ q, q < 4 ∧ led = some q ∧ lI = nI q) (hD : gDj (eH L) k top) (hz : 0 < k → z = bt1 top ∧ top < 52) (hI : wLp (chS (L s) lI) R bf P ours i) (hbf : bf = some a) (hb0 : hb R b = true) (hm : ∀ k, k < b → hb R k = false) (he : eqF a b (otL L s 4 ||| z) = true) : gCh tr sd n need (eH L) s k led top w a ↔ gCh tr sd n need (eH L) s k led top w b := by
  have hb52 := hI.lt hb0
  have hW := hI.1 b
  rw [hb0, hbf] at hW
  have hW : hb (chS (L s) lI) b = true ∧ a < b := by simpa [bfL] using hW.symm
  have hWa := hI.2.2.2.2 a hbf
  unfold eqF at he
  simp only [Bool.and_eq_true, decide_eq_true_eq] at he
  obtain ⟨hsu, hand⟩ := he
  have ga := (lg_W (H := eH L) hcd (fun _ => rfl) hl).mp hWa
  have gb := (lg_W (H := eH L) hcd (fun _ => rfl) hl).mp hW.1
  have hno : ∀ c, a ≤ c → c < b → hb (otL L s 4 ||| z) c = false := by
    intro c h1 h2
    have := congrArg (fun y => hb y c) hand
    simp only [hb_and, hb_btw hb52 hW.2, hb_0, decide_eq_true (show a ≤ c ∧ c < b from ⟨h1, h2⟩), Bool.and_true] at this
    exact this
  refine gCh_eq tr sd n need hW.2 hb52 hsu hs hk hw hD ga.2.1 gb.2.1 (fun x c hx h1 h2 => ?_) (fun hk0 => ?_)
  · cases q : eH L x c
    · rfl
    · exfalso
      by_cases e : x = s
      · subst e
        have gc : gLg (eH L) x led c := by
          refine ⟨by omega, q, fun q' hq' => ?_⟩
          rcases ga.2.2 q' hq' with z1 | z1
          · left; omega
          · exact Or.inr z1
        have h3 := (lg_W (H := eH L) hcd (fun _ => rfl) hl).mpr gc
        have h4 := hI.1 c
        rw [h3, hbf, hm c h2] at h4
        simp [bfL, h1] at h4
      · have := hb_ot (L := L) (s := s) (c := c) (i := 4) hx e q
        have h5 := hno c (by omega) h2
        rw [hb_or, this] at h5; cases h5
  · rintro ⟨h1, h2⟩
    obtain ⟨e, ht⟩ := hz hk0
    have := hno top h1 h2
    rw [hb_or, e, hb_bt (by omega)] at this
    simp at this
/-- what is asked of the search: n cards are left, k lie in the trick under way -/
def wPre (u : cS) (tr sd n s k : Nat) (led : Option Nat) (top w : Nat) (lI tI wI : Int32) : Prop := u.kd 21 = 14 ∧ u.kd 22 = 2 ∧ u.oI 21 1 = nI tr ∧ tr < 5 ∧ u.oI 21 2 = nI sd ∧ sd < 2 ∧ s < 4 ∧ k < 4 ∧ w < 4 ∧ (∀ x, x < 4 → cdS (u.rL 22 x)) ∧ gDj (eH (u.rL 22)) k top ∧ ((k = 0 ∧ led = none ∧ lI = -1 ∧ tI = -1) ∨ (0 < k ∧ (∃ q, q < 4 ∧ led = some q ∧ lI = nI q) ∧ tI = nI top ∧ top < 52 ∧ wI = nI w)) ∧ ((n = 0 ∧ k = 0) ∨ ∃ t, 1 ≤ t ∧ t ≤ 4 ∧ n + k = 4 * t ∧ gOk (eH (u.rL 22)) s k t)
def wIH (pr : aC) (D n : Nat) : Prop := ∀ (u : cS) (tr sd s k : Nat) (led : Option Nat) (top w need : Nat) (lI tI wI nd : Int32), wPre u tr sd n s k led top w lI tI wI → need ≤ 20 → (nd = nI need ∨ (need = 0 ∧ nd = -1)) → ∀ Q : Option Value → cS → Prop, (∀ b : Bool, (b = true ↔ gw tr sd n need (eH (u.rL 22)) s k led top w) → Q (some (.int (bI b))) u) → wR pr D 38 [.ref 21, .int (nI s), .int lI, .int tI, .int wI, .int nd, .int (nI n)] u Q
theorem wv_rL (u : cS) (s : Nat) (x : Int64) : (upL u 22 s x).rL 22 = vp_updL (u.rL 22) s x := u2_rowL u.rL 22 s x
theorem wv_eH {u : cS} {s c : Nat} (hc : c < 64) (h : eH (u.rL 22) s c = true) : eH ((upL u 22 s (u.rL 22 s ^^^ bt1 c)).rL 22) = gRm (eH (u.rL 22)) s c := by
  rw [wv_rL]; exact eH_rm hc h
theorem wv_cd {u : cS} {s c : Nat} (hc : c < 52) (h : ∀ x, x < 4 → cdS (u.rL 22 x)) : ∀ x, x < 4 → cdS ((upL u 22 s (u.rL 22 s ^^^ bt1 c)).rL 22 x) := by
  intro x hx k hk
  rw [wv_rL]
  unfold vp_updL
  by_cases e : x = s
  · subst e
    rw [if_pos rfl, hb_xor, hb_bt (by omega), h x hx k hk, decide_eq_false (by omega)]; rfl
  · rw [if_neg e]; exact h x hx k hk
theorem gTk_f {k c top tr : Nat} (h : gTk k c top tr = false) : 0 < k := by
  apply Nat.pos_of_ne_zero
  intro e; rw [e] at h; simp [gTk] at h
theorem wPre.next {u : cS} {tr sd n s k : Nat} {led : Option Nat} {top w c : Nat} {lI tI wI : Int32} (hp : wPre u tr sd (n + 1) s k led top w lI tI wI) (hk : k < 3) (hc : gLg (eH (u.rL 22)) s led c) : wPre (upL u 22 s (u.rL 22 s ^^^ bt1 c)) tr sd n ((s + 1) % 4) (k + 1) (some (led.getD (c / 13))) (if gTk k c top tr then c else top) (if gTk k c top tr then s else w) (nI (led.getD (c / 13))) (nI (if gTk k c top tr then c else top)) (nI (if gTk k c top tr then s else w)) := by
  obtain ⟨p1, p2, p3, p4, p5, p6, p7, p8, p9, p10, p11, p12, p13⟩ := hp
  have hlt : (if gTk k c top tr then s else w) < 4 := by split <;> omega
  have ht52 : (if gTk k c top tr then c else top) < 52 := by
    cases e : gTk k c top tr
    · rw [if_neg (by simp)]
      have hk0 := gTk_f e
      rcases p12 with ⟨q, _⟩ | ⟨_, _, _, q, _⟩
      · omega
      · exact q
    · rw [if_pos rfl]; exact hc.1
  refine ⟨p1, p2, p3, p4, p5, p6, Nat.mod_lt _ (by omega), by omega, hlt, wv_cd hc.1 p10, ?_, Or.inr ⟨by omega, ⟨_, ?_, rfl, rfl⟩, rfl, ht52, rfl⟩, ?_⟩
  · rw [wv_eH (by have := hc.1; omega) hc.2.1]
    exact p11.next p7 (fun e => gTk_f e) hc.2.1 (k + 1)
  · rcases p12 with ⟨_, e, _⟩ | ⟨_, ⟨q, hq, e, _⟩, _⟩
    · rw [e]; show c / 13 < 4; have := hc.1; omega
    · rw [e]; exact hq
  · rw [wv_eH (by have := hc.1; omega) hc.2.1]
    rcases p13 with ⟨q, _⟩ | ⟨t, t1, t2, t3, t4⟩
    · omega
    · exact Or.inr ⟨t, t1, t2, by omega, t4.next hk hc.1 hc.2.1⟩
theorem wPre.trick {u : cS} {tr sd n s : Nat} {led : Option Nat} {top w c x : Nat} {lI tI wI : Int32} (hp : wPre u tr sd (n + 1) s 3 led top w lI tI wI) (hx : x < 4) (hc : gLg (eH (u.rL 22)) s led c) : wPre (upL u 22 s (u.rL 22 s ^^^ bt1 c)) tr sd n x 0 none 0 0 (-1) (-1) (-1) := by
  obtain ⟨p1, p2, p3, p4, p5, p6, p7, p8, p9, p10, p11, p12, p13⟩ := hp
  refine ⟨p1, p2, p3, p4, p5, p6, hx, by omega, by omega, wv_cd hc.1 p10, ?_, Or.inl ⟨rfl, rfl, rfl, rfl⟩, ?_⟩
  · rw [wv_eH (by have := hc.1; omega) hc.2.1]
    exact p11.trick
  · rw [wv_eH (by have := hc.1; omega) hc.2.1]
    rcases p13 with ⟨q, _⟩ | ⟨t, t1, t2, t3, t4⟩
    · omega
    · by_cases e : t = 1
      · exact Or.inl ⟨by omega, rfl⟩
      · exact Or.inr ⟨t - 1, by omega, by omega, by omega, t4.trick (by omega) hx hc.1 hc.2.1⟩
set_option maxRecDepth 20000 in
theorem w_ww_3 {pr : aC} {d : Nat} {u : cS} (tr sd n s k : Nat) (led : Option Nat) (top w need c : Nat) (lI tI wI : Int32) (hp : wPre u tr sd (n + 1) s k led top w lI tI wI) (hnd : need ≤ 20) (hc : gLg (eH (u.rL 22)) s led c) (b : Bool) (l11 : Option Value) {Q : Option Value → cS → Prop} (hb : b = true ↔ gCh tr sd n need (eH (u.rL 22)) s k led top w c) (hQ : ∀ b : Bool, (b = true ↔ gCh tr sd n need (eH (u.rL 22)) s k led top w c) → Q (some (.int (bI b))) u) : wB pr (d + 1) cd_39 (Option.some Jvm.ClassFile.FieldType.boolean) Q 93 [some (.ref 21), some (.int (nI c)), some (.int (nI s)), some (.int lI), some (.int tI), some (.int wI), some (.int (nI need)), some (.int (nI (n + 1))), some (.int (bI (gTk k c top tr))), some (.int (nI (if gTk k c top tr then s else w))), some (.int (bI b)), l11] [] (upL u 22 s (u.rL 22 s ^^^ bt1 c)) := by
  obtain ⟨p1, p2, p3, p4, p5, p6, p7, p8, p9, p10, p11, p12, p13⟩ := hp
  refine g_load rfl rfl rfl trivial ?_
  refine c_getf rfl (κ := 14) (by exact p1) (by decide) (by rfl) (by rfl) ?_
  refine g_load rfl rfl rfl trivial ?_
  refine g_dup2 rfl rfl rfl ?_
  refine c_la s rfl (κ := 2) (by exact p2) (by decide) (by rfl) rfl (by omega) (by decide) ?_
  rw [show (upL u 22 s (u.rL 22 s ^^^ bt1 c)).rL 22 s = u.rL 22 s ^^^ bt1 c from u2_s u.rL 22 s _]
  refine g_load rfl rfl rfl trivial ?_
  refine g_statI [.int (nI c)] cFr_tr rfl rfl rfl (Nat.le_of_ble_eq_true rfl) (Nat.le_refl _) (Nat.le_refl _) (p_bitOf cFr_rf cFr_tr c ⟨_, rfl, ?_⟩)
  refine g_lxor rfl ?_
  refine c_las s rfl (κ := 2) (by exact p2) (by decide) (by rfl) rfl (by omega) (by decide) (by rfl) ?_
  rw [xor_back, upL_back]
  refine g_load rfl rfl rfl trivial ?_
  exact g_vret rfl trivial (bI_rt _) (Nat.le_refl _) (Nat.le_refl _) (hQ b hb)
set_option maxRecDepth 20000 in
theorem w_ww_2 {pr : aC} {d : Nat} {u : cS} (tr sd n s k : Nat) (led : Option Nat) (top w need c : Nat) (lI tI wI : Int32) (hp : wPre u tr sd (n + 1) s k led top w lI tI wI) (hnd : need ≤ 20) (hc : gLg (eH (u.rL 22)) s led c) (hI : wIH pr (d + 1) n) {Q : Option Value → cS → Prop} (hQ : ∀ b : Bool, (b = true ↔ gCh tr sd n need (eH (u.rL 22)) s k led top w c) → Q (some (.int (bI b))) u) : wB pr (d + 1) cd_39 (Option.some Jvm.ClassFile.FieldType.boolean) Q 37 [some (.ref 21), some (.int (nI c)), some (.int (nI s)), some (.int lI), some (.int tI), some (.int wI), some (.int (nI need)), some (.int (nI (n + 1))), some (.int (bI (gTk k c top tr))), some (.int (nI (if gTk k c top tr then s else w))), none, none] [] (upL u 22 s (u.rL 22 s ^^^ bt1 c)) := by
  have hp0 := hp
  obtain ⟨p1, p2, p3, p4, p5, p6, p7, p8, p9, p10, p11, p12, p13⟩ := hp
  have hah : (if gTk k c top tr then s else w) < 4 := by split <;> omega
  have hn16 : n < 16 := by
    rcases p13 with ⟨q, _⟩ | ⟨t, t1, t2, t3, t4⟩
    · omega
    · omega
  have hk3 : (n + 1) % 4 = 1 ↔ k = 3 := by
    rcases p13 with ⟨q, _⟩ | ⟨t, t1, t2, t3, t4⟩
    · omega
    · omega
  have hc52 := hc.1
  refine g_load rfl rfl rfl trivial ?_
  refine g_iconst (nI 4) rfl (by decide) ?_
  refine g_irem rfl (by decide) ?_
  rw [pk_rem (by omega) (by omega) (by omega)]
  refine g_iconst (nI 1) rfl (by decide) ?_
  refine g_icmp_ne rfl (fun c1 => ?_) (fun c1 => ?_)
  · rw [nI_eq (by omega) (by omega)] at c1
    have hk : ¬ k = 3 := fun e => c1 (hk3.mpr e)
    refine g_load rfl rfl rfl trivial ?_
    refine g_iconst (-1) rfl (by decide) ?_
    have K2 : ∀ e2 : Int32, e2 = nI (led.getD (c / 13)) → wB pr (d + 1) cd_39 (Option.some Jvm.ClassFile.FieldType.boolean) Q 73 [some (.ref 21), some (.int (nI c)), some (.int (nI s)), some (.int lI), some (.int tI), some (.int wI), some (.int (nI need)), some (.int (nI (n + 1))), some (.int (bI (gTk k c top tr))), some (.int (nI (if gTk k c top tr then s else w))), none, none] [.int e2] (upL u 22 s (u.rL 22 s ^^^ bt1 c)) := by
      intro e2 he2
      subst he2
      refine g_store [some (.ref 21), some (.int (nI c)), some (.int (nI s)), some (.int lI), some (.int tI), some (.int wI), some (.int (nI need)), some (.int (nI (n + 1))), some (.int (bI (gTk k c top tr))), some (.int (nI (if gTk k c top tr then s else w))), none, some (.int (nI (led.getD (c / 13))))] rfl rfl trivial (Nat.le_of_ble_eq_true rfl) rfl ?_
      refine g_load rfl rfl rfl trivial ?_
      refine g_load rfl rfl rfl trivial ?_
      refine g_iconst (nI 1) rfl (by decide) ?_
      refine g_iadd rfl ?_
      rw [nI_add]
      refine g_iconst (nI 4) rfl (by decide) ?_
      refine g_irem rfl (by decide) ?_
      rw [pk_rem (by omega) (by omega) (by omega)]
      refine g_load rfl rfl rfl trivial ?_
      refine g_load rfl rfl rfl trivial ?_
      have K3 : ∀ e3 : Int32, e3 = nI (if gTk k c top tr then c else top) → wB pr (d + 1) cd_39 (Option.some Jvm.ClassFile.FieldType.boolean) Q 86 [some (.ref 21), some (.int (nI c)), some (.int (nI s)), some (.int lI), some (.int tI), some (.int wI), some (.int (nI need)), some (.int (nI (n + 1))), some (.int (bI (gTk k c top tr))), some (.int (nI (if gTk k c top tr then s else w))), none, some (.int (nI (led.getD (c / 13))))] [.int e3, .int (nI (led.getD (c / 13))), .int (nI ((s + 1) % 4)), .ref 21] (upL u 22 s (u.rL 22 s ^^^ bt1 c)) := by
        intro e3 he3
        subst he3
        refine g_load rfl rfl rfl trivial ?_
        refine g_load rfl rfl rfl trivial ?_
        refine g_load rfl rfl rfl trivial ?_
        refine g_iconst (nI 1) rfl (by decide) ?_
        refine g_isub rfl ?_
        rw [pk_sub (by omega)]
        refine g_virtI (a := 21) (ci := 3) (n := 6) [.int (nI ((s + 1) % 4)), .int (nI (led.getD (c / 13))), .int (nI (if gTk k c top tr then c else top)), .int (nI (if gTk k c top tr then s else w)), .int (nI need), .int (nI (n + 1 - 1))] cFr_tr rfl rfl (by decide) rfl (c_ob (κ := 14) (by exact p1) (by decide) (by rfl)) rfl (Nat.le_of_ble_eq_true rfl) (Nat.le_refl _) (Nat.le_refl _) (hI _ tr sd _ (k + 1) _ _ _ need _ _ _ _ (hp0.next (by omega) hc) hnd (Or.inl rfl) _ (fun b hb => ⟨_, rfl, ?_⟩))
        rw [wv_eH (by omega) hc.2.1] at hb
        refine g_store [some (.ref 21), some (.int (nI c)), some (.int (nI s)), some (.int lI), some (.int tI), some (.int wI), some (.int (nI need)), some (.int (nI (n + 1))), some (.int (bI (gTk k c top tr))), some (.int (nI (if gTk k c top tr then s else w))), some (.int (bI b)), some (.int (nI (led.getD (c / 13))))] rfl rfl trivial (Nat.le_of_ble_eq_true rfl) rfl ?_
        refine w_ww_3 tr sd n s _ led top w need c lI tI wI hp0 hnd hc b _ (hb.trans ?_) hQ
        unfold gCh
        first | rw [if_pos hk] | rw [if_neg hk]
      refine g_if_eq rfl (fun c3 => ?_) (fun c3 => ?_)
      · rw [bI_eq] at c3
        have e2 : tI = nI (if gTk k c top tr then c else top) := by
          rw [if_neg (by rw [c3]; decide)]
          rcases p12 with ⟨q, _⟩ | ⟨_, _, q, _⟩
          · have := gTk_f c3; omega
          · exact q
        refine g_load rfl rfl rfl trivial ?_
        exact K3 _ (by simp [*])
      · rw [bI_ne] at c3
        have e2 : nI c = nI (if gTk k c top tr then c else top) := by rw [if_pos c3]
        refine g_load rfl rfl rfl trivial ?_
        refine g_goto rfl ?_
        exact K3 _ (by simp [*])
    refine g_icmp_ne rfl (fun c2 => ?_) (fun c2 => ?_)
    · have e1 : lI = nI (led.getD (c / 13)) := by
        rcases p12 with ⟨_, _, q, _⟩ | ⟨_, ⟨q, _, q2, q3⟩, _⟩
        · exact absurd q c2
        · rw [q2, q3]; rfl
      refine g_load rfl rfl rfl trivial ?_
      exact K2 _ (by simp [*])
    · have e1 : nI (c / 13) = nI (led.getD (c / 13)) := by
        rcases p12 with ⟨_, q, _⟩ | ⟨_, ⟨q, q1, q2, q3⟩, _⟩
        · rw [q]; rfl
        · rw [q3] at c2; exact absurd c2 (nI_m1 (by omega))
      refine g_load rfl rfl rfl trivial ?_
      refine g_statI [.int (nI c)] cFr_tr rfl rfl rfl (Nat.le_of_ble_eq_true rfl) (Nat.le_refl _) (Nat.le_refl _) (p_suitOf cFr_rf cFr_tr (nI c) ⟨_, rfl, ?_⟩)
      rw [pk_div (by omega) (by omega) (by omega)]
      refine g_goto rfl ?_
      exact K2 _ (by simp [*])
  · rw [nI_eq (by omega) (by omega)] at c1
    have hk := hk3.mp c1
    refine g_load rfl rfl rfl trivial ?_
    refine g_iconst (nI 2) rfl (by decide) ?_
    refine g_irem rfl (by decide) ?_
    rw [pk_rem (by omega) (by omega) (by omega)]
    refine g_load rfl rfl rfl trivial ?_
    refine c_getf rfl (κ := 14) (by exact p1) (by decide) (by rfl) (by rfl) ?_
    rw [show (upL u 22 s (u.rL 22 s ^^^ bt1 c)).oI 21 2 = nI sd from p5]
    have K4 : ∀ e4 : Int32, e4 = bI (decide ((if gTk k c top tr then s else w) % 2 = sd)) → wB pr (d + 1) cd_39 (Option.some Jvm.ClassFile.FieldType.boolean) Q 51 [some (.ref 21), some (.int (nI c)), some (.int (nI s)), some (.int lI), some (.int tI), some (.int wI), some (.int (nI need)), some (.int (nI (n + 1))), some (.int (bI (gTk k c top tr))), some (.int (nI (if gTk k c top tr then s else w))), none, none] [.int e4] (upL u 22 s (u.rL 22 s ^^^ bt1 c)) := by
      intro e4 he4
      subst he4
      refine g_store [some (.ref 21), some (.int (nI c)), some (.int (nI s)), some (.int lI), some (.int tI), some (.int wI), some (.int (nI need)), some (.int (nI (n + 1))), some (.int (bI (gTk k c top tr))), some (.int (nI (if gTk k c top tr then s else w))), none, some (.int (bI (decide ((if gTk k c top tr then s else w) % 2 = sd))))] rfl rfl trivial (Nat.le_of_ble_eq_true rfl) rfl ?_
      refine g_load rfl rfl rfl trivial ?_
      refine g_load rfl rfl rfl trivial ?_
      refine g_iconst (-1) rfl (by decide) ?_
      refine g_iconst (-1) rfl (by decide) ?_
      refine g_iconst (-1) rfl (by decide) ?_
      refine g_load rfl rfl rfl trivial ?_
      refine g_load rfl rfl rfl trivial ?_
      refine g_isub rfl ?_
      refine g_load rfl rfl rfl trivial ?_
      refine g_iconst (nI 1) rfl (by decide) ?_
      refine g_isub rfl ?_
      rw [pk_sub (by omega)]
      refine g_virtI (a := 21) (ci := 3) (n := 6) [.int (nI (if gTk k c top tr then s else w)), .int (-1), .int (-1), .int (-1), .int (nI need - bI (decide ((if gTk k c top tr then s else w) % 2 = sd))), .int (nI (n + 1 - 1))] cFr_tr rfl rfl (by decide) rfl (c_ob (κ := 14) (by exact p1) (by decide) (by rfl)) rfl (Nat.le_of_ble_eq_true rfl) (Nat.le_refl _) (Nat.le_refl _) (hI _ tr sd _ 0 none 0 0 (need - (if (if gTk k c top tr then s else w) % 2 = sd then 1 else 0)) (-1) (-1) (-1) _ (by have h := hp0; rw [hk] at h; exact h.trick hah hc) (by omega) (by
        by_cases e : (if gTk k c top tr then s else w) % 2 = sd
        · rw [if_pos e, decide_eq_true e]
          cases need with
          | zero => exact Or.inr ⟨rfl, by decide⟩
          | succ m => exact Or.inl (by show nI (m + 1) - nI 1 = _; rw [pk_sub (by omega)])
        · rw [if_neg e, decide_eq_false e]
          exact Or.inl (by show nI need - nI 0 = _; rw [pk_sub (by omega)])) _ (fun b hb => ⟨_, rfl, ?_⟩))
      rw [wv_eH (by omega) hc.2.1] at hb
      refine g_store [some (.ref 21), some (.int (nI c)), some (.int (nI s)), some (.int lI), some (.int tI), some (.int wI), some (.int (nI need)), some (.int (nI (n + 1))), some (.int (bI (gTk k c top tr))), some (.int (nI (if gTk k c top tr then s else w))), some (.int (bI b)), some (.int (bI (decide ((if gTk k c top tr then s else w) % 2 = sd))))] rfl rfl trivial (Nat.le_of_ble_eq_true rfl) rfl ?_
      refine g_goto rfl ?_
      refine w_ww_3 tr sd n s _ led top w need c lI tI wI hp0 hnd hc b _ (hb.trans ?_) hQ
      unfold gCh
      first | rw [if_pos hk] | rw [if_neg hk]
    refine g_icmp_ne rfl (fun c4 => ?_) (fun c4 => ?_)
    · rw [nI_eq (by omega) (by omega)] at c4
      have hce := decide_eq_false c4
      refine g_iconst (nI 0) rfl (by decide) ?_
      exact K4 _ (by rw [hce]; rfl)
    · rw [nI_eq (by omega) (by omega)] at c4
      have hce := decide_eq_true c4
      refine g_iconst (nI 1) rfl (by decide) ?_
      refine g_goto rfl ?_
      exact K4 _ (by rw [hce]; rfl)
set_option maxRecDepth 20000 in
theorem w_ww_1 {pr : aC} {d : Nat} {u : cS} (tr sd n s k : Nat) (led : Option Nat) (top w need c : Nat) (lI tI wI : Int32) (hp : wPre u tr sd (n + 1) s k led top w lI tI wI) (hnd : need ≤ 20) (hc : gLg (eH (u.rL 22)) s led c) (hI : wIH pr (d + 1) n) {Q : Option Value → cS → Prop} (hQ : ∀ b : Bool, (b = true ↔ gCh tr sd n need (eH (u.rL 22)) s k led top w c) → Q (some (.int (bI b))) u) : wB pr (d + 1) cd_39 (Option.some Jvm.ClassFile.FieldType.boolean) Q 22 [some (.ref 21), some (.int (nI c)), some (.int (nI s)), some (.int lI), some (.int tI), some (.int wI), some (.int (nI need)), some (.int (nI (n + 1))), some (.int (bI (gTk k c top tr))), none, none, none] [] u := by
  have hp0 := hp
  obtain ⟨p1, p2, p3, p4, p5, p6, p7, p8, p9, p10, p11, p12, p13⟩ := hp
  have hc52 := hc.1
  refine g_load rfl rfl rfl trivial ?_
  have K1 : ∀ e1 : Int32, e1 = nI (if gTk k c top tr then s else w) → wB pr (d + 1) cd_39 (Option.some Jvm.ClassFile.FieldType.boolean) Q 27 [some (.ref 21), some (.int (nI c)), some (.int (nI s)), some (.int lI), some (.int tI), some (.int wI), some (.int (nI need)), some (.int (nI (n + 1))), some (.int (bI (gTk k c top tr))), none, none, none] [.int e1] u := by
    intro e1 he1
    subst he1
    refine g_store [some (.ref 21), some (.int (nI c)), some (.int (nI s)), some (.int lI), some (.int tI), some (.int wI), some (.int (nI need)), some (.int (nI (n + 1))), some (.int (bI (gTk k c top tr))), some (.int (nI (if gTk k c top tr then s else w))), none, none] rfl rfl trivial (Nat.le_of_ble_eq_true rfl) rfl ?_
    refine g_load rfl rfl rfl trivial ?_
    refine c_getf rfl (κ := 14) (by exact p1) (by decide) (by rfl) (by rfl) ?_
    refine g_load rfl rfl rfl trivial ?_
    refine g_dup2 rfl rfl rfl ?_
    refine c_la s rfl (κ := 2) (by exact p2) (by decide) (by rfl) rfl (by omega) (by decide) ?_
    refine g_load rfl rfl rfl trivial ?_
    refine g_statI [.int (nI c)] cFr_tr rfl rfl rfl (Nat.le_of_ble_eq_true rfl) (Nat.le_refl _) (Nat.le_refl _) (p_bitOf cFr_rf cFr_tr c ⟨_, rfl, ?_⟩)
    refine g_lxor rfl ?_
    refine c_las s rfl (κ := 2) (by exact p2) (by decide) (by rfl) rfl (by omega) (by decide) (by rfl) ?_
    exact w_ww_2 tr sd n s k led top w need c lI tI wI hp0 hnd hc hI hQ
  refine g_if_eq rfl (fun c1 => ?_) (fun c1 => ?_)
  · rw [bI_eq] at c1
    have e1 : wI = nI (if gTk k c top tr then s else w) := by
      rw [if_neg (by rw [c1]; decide)]
      rcases p12 with ⟨q, _⟩ | ⟨_, _, _, _, q⟩
      · have := gTk_f c1; omega
      · exact q
    refine g_load rfl rfl rfl trivial ?_
    exact K1 _ (by simp [*])
  · rw [bI_ne] at c1
    have e1 : nI s = nI (if gTk k c top tr then s else w) := by rw [if_pos c1]
    refine g_load rfl rfl rfl trivial ?_
    refine g_goto rfl ?_
    exact K1 _ (by simp [*])
set_option maxRecDepth 20000 in
theorem w_winsWith {pr : aC} {d : Nat} {u : cS} (tr sd n s k : Nat) (led : Option Nat) (top w need c : Nat) (lI tI wI : Int32) (hp : wPre u tr sd (n + 1) s k led top w lI tI wI) (hnd : need ≤ 20) (hc : gLg (eH (u.rL 22)) s led c) (hI : wIH pr (d + 1) n) {Q : Option Value → cS → Prop} (hQ : ∀ b : Bool, (b = true ↔ gCh tr sd n need (eH (u.rL 22)) s k led top w c) → Q (some (.int (bI b))) u) : wR pr (d + 1 + 1) 39 [.ref 21, .int (nI c), .int (nI s), .int lI, .int tI, .int wI, .int (nI need), .int (nI (n + 1))] u Q := by
  refine gR_of mi_39 cFr_rf rfl (Nat.le_of_ble_eq_true rfl) ?_
  show wB pr (d + 1) cd_39 (Option.some Jvm.ClassFile.FieldType.boolean) Q 0 [some (.ref 21), some (.int (nI c)), some (.int (nI s)), some (.int lI), some (.int tI), some (.int wI), some (.int (nI need)), some (.int (nI (n + 1))), none, none, none, none] [] u
  have hp0 := hp
  obtain ⟨p1, p2, p3, p4, p5, p6, p7, p8, p9, p10, p11, p12, p13⟩ := hp
  have hc52 := hc.1
  refine g_load rfl rfl rfl trivial ?_
  refine g_if_lt rfl (fun c1 => ?_) (fun c1 => ?_)
  · exact absurd c1 (nI_pos (by omega))
  · refine g_load rfl rfl rfl trivial ?_
    refine g_load rfl rfl rfl trivial ?_
    refine c_getf rfl (κ := 14) (by exact p1) (by decide) (by rfl) (by rfl) ?_
    refine c_len rfl (κ := 2) (by exact p2) (by decide) (by rfl) (by decide) ?_
    refine g_icmp_lt rfl (fun c2 => ?_) (fun c2 => ?_)
    · refine g_load rfl rfl rfl trivial ?_
      refine g_iconst (-1) rfl (by decide) ?_
      refine g_icmp_eq rfl (fun c3 => ?_) (fun c3 => ?_)
      · have hk0 : k = 0 := by
          rcases p12 with ⟨q, _⟩ | ⟨_, _, q, q2, _⟩
          · exact q
          · rw [q] at c3; exact absurd c3 (nI_m1 (by omega))
        have htk : gTk k c top tr = true := by unfold gTk; simp [hk0]
        refine g_iconst (nI 1) rfl (by decide) ?_
        refine g_goto rfl ?_
        refine g_store [some (.ref 21), some (.int (nI c)), some (.int (nI s)), some (.int lI), some (.int tI), some (.int wI), some (.int (nI need)), some (.int (nI (n + 1))), some (.int (bI (gTk k c top tr))), none, none, none] rfl rfl trivial (Nat.le_of_ble_eq_true rfl) (by rw [htk]; rfl) ?_
        exact w_ww_1 tr sd n s k led top w need c lI _ wI hp0 hnd hc hI hQ
      · have hk0 : 0 < k ∧ tI = nI top ∧ top < 52 := by
          rcases p12 with ⟨_, _, _, q⟩ | ⟨q0, _, q, q2, q3⟩
          · exact absurd q c3
          · exact ⟨q0, q, q2⟩
        obtain ⟨hk0, rfl, hq2⟩ := hk0
        refine g_load rfl rfl rfl trivial ?_
        refine g_load rfl rfl rfl trivial ?_
        refine g_load rfl rfl rfl trivial ?_
        refine c_getf rfl (κ := 14) (by exact p1) (by decide) (by rfl) (by rfl) ?_
        rw [p3]
        refine g_statI [.int (nI c), .int (nI top), .int (nI tr)] cFr_tr rfl rfl rfl (Nat.le_of_ble_eq_true rfl) (Nat.le_refl _) (Nat.le_refl _) (p_beats cFr_rf cFr_tr (nI c) (nI top) (nI tr) ⟨_, rfl, ?_⟩)
        rw [bt_tk hc52 hq2 p4, ← gTk_k hk0]
        refine g_if_eq rfl (fun c4 => ?_) (fun c4 => ?_)
        · rw [bI_eq] at c4
          have htk := c4
          refine g_iconst (nI 0) rfl (by decide) ?_
          refine g_store [some (.ref 21), some (.int (nI c)), some (.int (nI s)), some (.int lI), some (.int (nI top)), some (.int wI), some (.int (nI need)), some (.int (nI (n + 1))), some (.int (bI (gTk k c top tr))), none, none, none] rfl rfl trivial (Nat.le_of_ble_eq_true rfl) (by rw [htk]; rfl) ?_
          exact w_ww_1 tr sd n s k led top w need c lI _ wI hp0 hnd hc hI hQ
        · rw [bI_ne] at c4
          have htk := c4
          refine g_iconst (nI 1) rfl (by decide) ?_
          refine g_goto rfl ?_
          refine g_store [some (.ref 21), some (.int (nI c)), some (.int (nI s)), some (.int lI), some (.int (nI top)), some (.int wI), some (.int (nI need)), some (.int (nI (n + 1))), some (.int (bI (gTk k c top tr))), none, none, none] rfl rfl trivial (Nat.le_of_ble_eq_true rfl) (by rw [htk]; rfl) ?_
          exact w_ww_1 tr sd n s k led top w need c lI _ wI hp0 hnd hc hI hQ
    · exact absurd (by rw [nI_ltI (by omega) (by omega)]; omega) c2
theorem one_bt {w : Int64} (hw : cdS w) (h : cnt (hb w) 52 = 1) : ∃ c, c < 52 ∧ w = bt1 c ∧ ∀ c', c' < 52 → hb w c' = true → c' = c := by
  obtain ⟨c, h1, h2⟩ := cnt_pos (p := hb w) (n := 52) (by omega)
  have h3 := cnt_rm (p := hb w) (q := fun y => if y = c then false else hb w y) h1 h2 (fun y _ => rfl)
  have ho : ∀ c', c' < 52 → hb w c' = true → c' = c := by
    intro c' hc' hh
    apply Classical.byContradiction
    intro e
    have := cnt_rm (p := fun y => if y = c then false else hb w y) (q := fun y => if y = c' then false else if y = c then false else hb w y) hc' (by show (if c' = c then false else hb w c') = true; rw [if_neg e]; exact hh) (fun y _ => rfl)
    omega
  refine ⟨c, h1, hb_ext fun k hk => ?_, ho⟩
  rw [hb_bt (by omega)]
  by_cases e : k = c
  · subst e; rw [h2]; simp
  · rw [decide_eq_false e]
    cases q : hb w k
    · rfl
    · by_cases k52 : k < 52
      · exact absurd (ho k k52 q) e
      · rw [hw k (by omega)] at q; cases q
theorem gOk_1 {L : Nat → Int64} {s : Nat} (hs : s < 4) (hcd : ∀ x, x < 4 → cdS (L x)) (h : gOk (eH L) s 0 1) : ∃ c : Nat → Nat, ∀ i, i < 4 → c i < 52 ∧ L ((s + i) % 4) = bt1 (c i) ∧ eH L ((s + i) % 4) (c i) = true ∧ ∀ c', c' < 52 → eH L ((s + i) % 4) c' = true → c' = c i := by
  have key : ∀ i, ∃ c, i < 4 → c < 52 ∧ L ((s + i) % 4) = bt1 c ∧ eH L ((s + i) % 4) c = true ∧ ∀ c', c' < 52 → eH L ((s + i) % 4) c' = true → c' = c := by
    intro i
    by_cases hi : i < 4
    · have h4 := h.2.2.2 i hi
      rw [if_pos (by omega)] at h4
      obtain ⟨c, c1, c2, c3⟩ := one_bt (hcd ((s + i) % 4) (Nat.mod_lt _ (by omega))) h4
      exact ⟨c, fun _ => ⟨c1, c2, by unfold eH; rw [c2, hb_bt (by omega)]; simp, c3⟩⟩
    · exact ⟨0, fun z => absurd z hi⟩
  exact ⟨fun i => (key i).choose, fun i hi => (key i).choose_spec hi⟩
/-- the search's end -/
theorem gw_dn {tr sd n need : Nat} {H : Nat → Nat → Bool} {s k : Nat} {led : Option Nat} {top w : Nat} {ours : Bool} {W : Int64} (ho : ours = decide (s % 2 = sd)) (hW : ∀ c, hb W c = true ↔ gLg H s led c) (h : ∀ x, hb W x = true → (gCh tr sd n need H s k led top w x ↔ ours = false)) : ((!ours) = true ↔ gw tr sd (n + 1) need H s k led top w) := by
  rw [gw_s]
  subst ho
  by_cases q : s % 2 = sd
  · rw [if_pos q, decide_eq_true q]
    constructor
    · intro z; cases z
    · rintro ⟨c, h1, h2⟩
      have := (h c ((hW c).mpr h1)).mp h2
      rw [decide_eq_true q] at this; cases this
  · rw [if_neg q, decide_eq_false q]
    constructor
    · intro _ c h1
      exact (h c ((hW c).mpr h1)).mpr (decide_eq_false q)
    · intro _; rfl
theorem gw_fd {tr sd n need : Nat} {H : Nat → Nat → Bool} {s k : Nat} {led : Option Nat} {top w c : Nat} {ours b : Bool} (ho : ours = decide (s % 2 = sd)) (hc : gLg H s led c) (hb : b = true ↔ gCh tr sd n need H s k led top w c) (he : b = ours) : (ours = true ↔ gw tr sd (n + 1) need H s k led top w) := by
  rw [gw_s]
  subst he
  by_cases q : s % 2 = sd
  · rw [if_pos q]
    rw [decide_eq_true q] at ho
    exact ⟨fun _ => ⟨c, hc, hb.mp ho⟩, fun _ => ho⟩
  · rw [if_neg q]
    rw [decide_eq_false q] at ho
    constructor
    · intro z; rw [ho] at z; cases z
    · intro z; exact hb.mpr (z c hc)
set_option maxRecDepth 20000 in
theorem w_wins_l {pr : aC} {d : Nat} {u : cS} (tr sd n s k : Nat) (led : Option Nat) (top w need : Nat) (lI tI wI : Int32) (hp : wPre u tr sd (n + 1) s k led top w lI tI wI) (hnd : need ≤ 20) (hI : wIH pr (d + 1) n) (ours : Bool) (ho : ours = decide (s % 2 = sd)) (z : Int64) (hz : 0 < k → z = bt1 top ∧ top < 52) {Q : Option Value → cS → Prop} (hQ : ∀ b : Bool, (b = true ↔ gw tr sd (n + 1) need (eH (u.rL 22)) s k led top w) → Q (some (.int (bI b))) u) : ∀ (zz : Nat) (i : Nat) (R : Int64) (bf : Option Nat) (l14 l16 l17 : Option Value) (hinv : wLp (chS (u.rL 22 s) lI) R bf (fun c => gCh tr sd n need (eH (u.rL 22)) s k led top w c) ours i) (hm : 4 - i < zz), wB pr (d + 2) cd_38 (Option.some Jvm.ClassFile.FieldType.boolean) Q 67 [some (.ref 21), some (.int (nI s)), some (.int lI), some (.int tI), some (.int wI), some (.int (nI need)), some (.int (nI (n + 1))), some (.int (bI ours)), some (.long (otL (u.rL 22) s 4 ||| z)), none, some (.long R), none, some (.int (oI bf)), some (.int (nI i)), l14, none, l16, l17] [] u := by
  intro zz
  induction zz with
  | zero => intro i R bf l14 l16 l17 hinv hm; exact absurd hm (by omega)
  | succ zz ih =>
    intro i R bf l14 l16 l17 hinv hm
    have hp0 := hp
    obtain ⟨p1, p2, p3, p4, p5, p6, p7, p8, p9, p10, p11, p12, p13⟩ := hp
    have hi4 : i ≤ 4 := by have := hinv.2.2.1; omega
    have hl : (led = none ∧ lI = -1) ∨ ∃ q, q < 4 ∧ led = some q ∧ lI = nI q := by
      rcases p12 with ⟨_, q1, q2, _⟩ | ⟨_, q, _⟩
      · exact Or.inl ⟨q1, q2⟩
      · exact Or.inr q
    have hW : ∀ c, hb (chS (u.rL 22 s) lI) c = true ↔ gLg (eH (u.rL 22)) s led c := fun c => lg_W (p10 s p7) (fun _ => rfl) hl
    refine g_load rfl rfl rfl trivial ?_
    refine g_iconst (nI 4) rfl (by decide) ?_
    refine g_icmp_ge rfl (fun c1 => ?_) (fun c1 => ?_)
    · rw [nI_leI (by omega) (by omega)] at c1
      have hQ := hQ _ (gw_dn ho hW (hinv.done (Or.inl (by omega))))
      refine g_load rfl rfl rfl trivial ?_
      refine g_if_ne rfl (fun c2 => ?_) (fun c2 => ?_)
      · rw [bI_ne] at c2
        rw [c2] at hQ
        refine g_iconst (nI 0) rfl (by decide) ?_
        refine g_vret rfl trivial (by first | exact ⟨by decide, by decide⟩ | trivial) (Nat.le_refl _) (Nat.le_refl _) ?_
        exact hQ
      · rw [bI_eq] at c2
        rw [c2] at hQ
        refine g_iconst (nI 1) rfl (by decide) ?_
        refine g_goto rfl ?_
        refine g_vret rfl trivial (by first | exact ⟨by decide, by decide⟩ | trivial) (Nat.le_refl _) (Nat.le_refl _) ?_
        exact hQ
    · rw [nI_leI (by omega) (by omega)] at c1
      refine g_load rfl rfl rfl trivial ?_
      refine g_lconst (lN 0) rfl rfl ?_
      refine g_lcmp rfl ?_
      refine g_if_eq rfl (fun c3 => ?_) (fun c3 => ?_)
      · rw [lg_0] at c3
        have hQ := hQ _ (gw_dn ho hW (hinv.done (Or.inr c3)))
        refine g_load rfl rfl rfl trivial ?_
        refine g_if_ne rfl (fun c4 => ?_) (fun c4 => ?_)
        · rw [bI_ne] at c4
          rw [c4] at hQ
          refine g_iconst (nI 0) rfl (by decide) ?_
          refine g_vret rfl trivial (by first | exact ⟨by decide, by decide⟩ | trivial) (Nat.le_refl _) (Nat.le_refl _) ?_
          exact hQ
        · rw [bI_eq] at c4
          rw [c4] at hQ
          refine g_iconst (nI 1) rfl (by decide) ?_
          refine g_goto rfl ?_
          refine g_vret rfl trivial (by first | exact ⟨by decide, by decide⟩ | trivial) (Nat.le_refl _) (Nat.le_refl _) ?_
          exact hQ
      · rw [lg_0] at c3
        obtain ⟨c, hc52, hcR, hcm⟩ := hinv.low c3
        have hWc : hb (chS (u.rL 22 s) lI) c = true := by
          have h9 := hinv.1 c
          rw [hcR] at h9
          cases q : hb (chS (u.rL 22 s) lI) c
          · rw [q] at h9; cases h9
          · rfl
        have hcl := (hW c).mp hWc
        refine g_load rfl rfl rfl trivial ?_
        refine g_load rfl rfl rfl trivial ?_
        refine g_lneg rfl ?_
        refine g_land rfl ?_
        rw [hb_low (by omega) hcR hcm]
        refine g_store [some (.ref 21), some (.int (nI s)), some (.int lI), some (.int tI), some (.int wI), some (.int (nI need)), some (.int (nI (n + 1))), some (.int (bI ours)), some (.long (otL (u.rL 22) s 4 ||| z)), none, some (.long R), none, some (.int (oI bf)), some (.int (nI i)), some (.long (bt1 c)), none, l16, l17] rfl rfl trivial (Nat.le_of_ble_eq_true rfl) rfl ?_
        refine g_load rfl rfl rfl trivial ?_
        refine g_load rfl rfl rfl trivial ?_
        refine g_lxor rfl ?_
        refine g_store [some (.ref 21), some (.int (nI s)), some (.int lI), some (.int tI), some (.int wI), some (.int (nI need)), some (.int (nI (n + 1))), some (.int (bI ours)), some (.long (otL (u.rL 22) s 4 ||| z)), none, some (.long (R ^^^ bt1 c)), none, some (.int (oI bf)), some (.int (nI i)), some (.long (bt1 c)), none, l16, l17] rfl rfl trivial (Nat.le_of_ble_eq_true rfl) rfl ?_
        refine g_load rfl rfl rfl trivial ?_
        refine g_lconst (lN 1) rfl rfl ?_
        refine g_lsub rfl ?_
        refine g_statI [.long (bt1 c - lN 1)] cFr_tr rfl rfl rfl (Nat.le_of_ble_eq_true rfl) (Nat.le_refl _) (Nat.le_refl _) (p_bitCount cFr_rf cFr_tr (bt1 c - lN 1) ⟨_, rfl, ?_⟩)
        rw [bcG_bt c (by omega)]
        refine g_store [some (.ref 21), some (.int (nI s)), some (.int lI), some (.int tI), some (.int wI), some (.int (nI need)), some (.int (nI (n + 1))), some (.int (bI ours)), some (.long (otL (u.rL 22) s 4 ||| z)), none, some (.long (R ^^^ bt1 c)), none, some (.int (oI bf)), some (.int (nI i)), some (.long (bt1 c)), none, some (.int (nI c)), l17] rfl rfl trivial (Nat.le_of_ble_eq_true rfl) rfl ?_
        cases bf with
        | none =>
          refine g_load rfl rfl rfl trivial ?_
          refine g_iconst (-1) rfl (by decide) ?_
          refine g_icmp_eq rfl (fun _ => ?_) (fun c9 => absurd rfl c9)
          refine g_iconst (nI 1) rfl (by decide) ?_
          refine g_goto rfl ?_
          refine g_store [some (.ref 21), some (.int (nI s)), some (.int lI), some (.int tI), some (.int wI), some (.int (nI need)), some (.int (nI (n + 1))), some (.int (bI ours)), some (.long (otL (u.rL 22) s 4 ||| z)), none, some (.long (R ^^^ bt1 c)), none, some (.int (oI none)), some (.int (nI i)), some (.long (bt1 c)), none, some (.int (nI c)), some (.int (nI 1))] rfl rfl trivial (Nat.le_of_ble_eq_true rfl) rfl ?_
          refine g_load rfl rfl rfl trivial ?_
          refine g_store [some (.ref 21), some (.int (nI s)), some (.int lI), some (.int tI), some (.int wI), some (.int (nI need)), some (.int (nI (n + 1))), some (.int (bI ours)), some (.long (otL (u.rL 22) s 4 ||| z)), none, some (.long (R ^^^ bt1 c)), none, some (.int (oI (some c))), some (.int (nI i)), some (.long (bt1 c)), none, some (.int (nI c)), some (.int (nI 1))] rfl rfl trivial (Nat.le_of_ble_eq_true rfl) rfl ?_
          refine g_load rfl rfl rfl trivial ?_
          refine g_if_eq rfl (fun c9 => absurd c9 (by decide)) (fun _ => ?_)
          refine g_load rfl rfl rfl trivial ?_
          refine g_load rfl rfl rfl trivial ?_
          refine g_load rfl rfl rfl trivial ?_
          refine g_load rfl rfl rfl trivial ?_
          refine g_load rfl rfl rfl trivial ?_
          refine g_load rfl rfl rfl trivial ?_
          refine g_load rfl rfl rfl trivial ?_
          refine g_load rfl rfl rfl trivial ?_
          refine g_virtI (a := 21) (ci := 3) (n := 7) [.int (nI c), .int (nI s), .int lI, .int tI, .int wI, .int (nI need), .int (nI (n + 1))] cFr_tr rfl rfl (by decide) rfl (c_ob (κ := 14) (by exact p1) (by decide) (by rfl)) rfl (Nat.le_of_ble_eq_true rfl) (Nat.le_refl _) (Nat.le_refl _) (w_winsWith tr sd n s k led top w need c lI tI wI hp0 hnd hcl hI (fun b hb => ⟨_, rfl, ?_⟩))
          refine g_load rfl rfl rfl trivial ?_
          refine g_icmp_ne rfl (fun c5 => ?_) (fun c5 => ?_)
          · have hPc : (gCh tr sd n need (eH (u.rL 22)) s k led top w c ↔ ours = false) := by
              rw [← hb]
              cases b <;> cases ours <;> first | exact absurd rfl c5 | simp
            refine g_iinc (nI (i + 1)) [some (.ref 21), some (.int (nI s)), some (.int lI), some (.int tI), some (.int wI), some (.int (nI need)), some (.int (nI (n + 1))), some (.int (bI ours)), some (.long (otL (u.rL 22) s 4 ||| z)), none, some (.long (R ^^^ bt1 c)), none, some (.int (oI (some c))), some (.int (nI (i + 1))), some (.long (bt1 c)), none, some (.int (nI c)), some (.int (nI 1))] rfl rfl (nI_1 i) rfl ?_
            refine g_goto rfl ?_
            exact ih (i + 1) _ (some c) _ _ _ (hinv.step hcR hcm hPc) (by omega)
          · have hbo : b = ours := by cases b <;> cases ours <;> first | rfl | exact absurd c5 (by decide)
            refine g_load rfl rfl rfl trivial ?_
            exact g_vret rfl trivial (bI_rt _) (Nat.le_refl _) (Nat.le_refl _) (hQ ours (gw_fd ho hcl hb hbo))
        | some a =>
          have ha52 : a < 52 := ((hW a).mp (hinv.2.2.2.2 a rfl)).1
          refine g_load rfl rfl rfl trivial ?_
          refine g_iconst (-1) rfl (by decide) ?_
          refine g_icmp_eq rfl (fun c6 => ?_) (fun c6 => ?_)
          · exact absurd c6 (nI_m1 (by omega))
          · refine g_load rfl rfl rfl trivial ?_
            refine g_load rfl rfl rfl trivial ?_
            refine g_load rfl rfl rfl trivial ?_
            refine g_statI [.int (nI a), .int (nI c), .long (otL (u.rL 22) s 4 ||| z)] cFr_tr rfl rfl rfl (Nat.le_of_ble_eq_true rfl) (Nat.le_refl _) (Nat.le_refl _) (p_areEqual cFr_rf cFr_tr a c ha52 hc52 _ ⟨_, rfl, ?_⟩)
            refine g_if_ne rfl (fun c7 => ?_) (fun c7 => ?_)
            · rw [bI_ne] at c7
              have hPc : (gCh tr sd n need (eH (u.rL 22)) s k led top w c ↔ ours = false) := (eq_ok p7 p8 p9 (p10 s p7) hl p11 hz hinv rfl hcR hcm c7).symm.trans (hinv.2.1 a (hinv.2.2.2.2 a rfl) (decide_eq_false (by omega)))
              refine g_iconst (nI 0) rfl (by decide) ?_
              refine g_store [some (.ref 21), some (.int (nI s)), some (.int lI), some (.int tI), some (.int wI), some (.int (nI need)), some (.int (nI (n + 1))), some (.int (bI ours)), some (.long (otL (u.rL 22) s 4 ||| z)), none, some (.long (R ^^^ bt1 c)), none, some (.int (oI (some a))), some (.int (nI i)), some (.long (bt1 c)), none, some (.int (nI c)), some (.int (nI 0))] rfl rfl trivial (Nat.le_of_ble_eq_true rfl) rfl ?_
              refine g_load rfl rfl rfl trivial ?_
              refine g_store [some (.ref 21), some (.int (nI s)), some (.int lI), some (.int tI), some (.int wI), some (.int (nI need)), some (.int (nI (n + 1))), some (.int (bI ours)), some (.long (otL (u.rL 22) s 4 ||| z)), none, some (.long (R ^^^ bt1 c)), none, some (.int (oI (some c))), some (.int (nI i)), some (.long (bt1 c)), none, some (.int (nI c)), some (.int (nI 0))] rfl rfl trivial (Nat.le_of_ble_eq_true rfl) rfl ?_
              refine g_load rfl rfl rfl trivial ?_
              refine g_if_eq rfl (fun _ => ?_) (fun c9 => absurd rfl c9)
              refine g_iinc (nI (i + 1)) [some (.ref 21), some (.int (nI s)), some (.int lI), some (.int tI), some (.int wI), some (.int (nI need)), some (.int (nI (n + 1))), some (.int (bI ours)), some (.long (otL (u.rL 22) s 4 ||| z)), none, some (.long (R ^^^ bt1 c)), none, some (.int (oI (some c))), some (.int (nI (i + 1))), some (.long (bt1 c)), none, some (.int (nI c)), some (.int (nI 0))] rfl rfl (nI_1 i) rfl ?_
              refine g_goto rfl ?_
              exact ih (i + 1) _ (some c) _ _ _ (hinv.step hcR hcm hPc) (by omega)
            · refine g_iconst (nI 1) rfl (by decide) ?_
              refine g_goto rfl ?_
              refine g_store [some (.ref 21), some (.int (nI s)), some (.int lI), some (.int tI), some (.int wI), some (.int (nI need)), some (.int (nI (n + 1))), some (.int (bI ours)), some (.long (otL (u.rL 22) s 4 ||| z)), none, some (.long (R ^^^ bt1 c)), none, some (.int (oI (some a))), some (.int (nI i)), some (.long (bt1 c)), none, some (.int (nI c)), some (.int (nI 1))] rfl rfl trivial (Nat.le_of_ble_eq_true rfl) rfl ?_
              refine g_load rfl rfl rfl trivial ?_
              refine g_store [some (.ref 21), some (.int (nI s)), some (.int lI), some (.int tI), some (.int wI), some (.int (nI need)), some (.int (nI (n + 1))), some (.int (bI ours)), some (.long (otL (u.rL 22) s 4 ||| z)), none, some (.long (R ^^^ bt1 c)), none, some (.int (oI (some c))), some (.int (nI i)), some (.long (bt1 c)), none, some (.int (nI c)), some (.int (nI 1))] rfl rfl trivial (Nat.le_of_ble_eq_true rfl) rfl ?_
              refine g_load rfl rfl rfl trivial ?_
              refine g_if_eq rfl (fun c9 => absurd c9 (by decide)) (fun _ => ?_)
              refine g_load rfl rfl rfl trivial ?_
              refine g_load rfl rfl rfl trivial ?_
              refine g_load rfl rfl rfl trivial ?_
              refine g_load rfl rfl rfl trivial ?_
              refine g_load rfl rfl rfl trivial ?_
              refine g_load rfl rfl rfl trivial ?_
              refine g_load rfl rfl rfl trivial ?_
              refine g_load rfl rfl rfl trivial ?_
              refine g_virtI (a := 21) (ci := 3) (n := 7) [.int (nI c), .int (nI s), .int lI, .int tI, .int wI, .int (nI need), .int (nI (n + 1))] cFr_tr rfl rfl (by decide) rfl (c_ob (κ := 14) (by exact p1) (by decide) (by rfl)) rfl (Nat.le_of_ble_eq_true rfl) (Nat.le_refl _) (Nat.le_refl _) (w_winsWith tr sd n s k led top w need c lI tI wI hp0 hnd hcl hI (fun b hb => ⟨_, rfl, ?_⟩))
              refine g_load rfl rfl rfl trivial ?_
              refine g_icmp_ne rfl (fun c8 => ?_) (fun c8 => ?_)
              · have hPc : (gCh tr sd n need (eH (u.rL 22)) s k led top w c ↔ ours = false) := by
                  rw [← hb]
                  cases b <;> cases ours <;> first | exact absurd rfl c8 | simp
                refine g_iinc (nI (i + 1)) [some (.ref 21), some (.int (nI s)), some (.int lI), some (.int tI), some (.int wI), some (.int (nI need)), some (.int (nI (n + 1))), some (.int (bI ours)), some (.long (otL (u.rL 22) s 4 ||| z)), none, some (.long (R ^^^ bt1 c)), none, some (.int (oI (some c))), some (.int (nI (i + 1))), some (.long (bt1 c)), none, some (.int (nI c)), some (.int (nI 1))] rfl rfl (nI_1 i) rfl ?_
                refine g_goto rfl ?_
                exact ih (i + 1) _ (some c) _ _ _ (hinv.step hcR hcm hPc) (by omega)
              · have hbo : b = ours := by cases b <;> cases ours <;> first | rfl | exact absurd c8 (by decide)
                refine g_load rfl rfl rfl trivial ?_
                exact g_vret rfl trivial (bI_rt _) (Nat.le_refl _) (Nat.le_refl _) (hQ ours (gw_fd ho hcl hb hbo))
theorem cnt_sub {p q : Nat → Bool} : ∀ {n : Nat}, (∀ x, x < n → p x = true → q x = true) → cnt p n ≤ cnt q n
  | 0, _ => Nat.le_refl 0
  | n + 1, h => by
    have h1 := cnt_sub (n := n) (fun x hx => h x (by omega))
    have h2 := h n (by omega)
    unfold cnt
    cases e : p n
    · simp; omega
    · rw [h2 e]; simp; omega
set_option maxRecDepth 20000 in
theorem w_wins_1 {pr : aC} {d : Nat} {u : cS} (tr sd n s k : Nat) (led : Option Nat) (top w need : Nat) (lI tI wI : Int32) (hp : wPre u tr sd (n + 1) s k led top w lI tI wI) (hnd : need ≤ 20) (hI : wIH pr (d + 1) n) (ours : Bool) (ho : ours = decide (s % 2 = sd)) (z : Int64) (hz : 0 < k → z = bt1 top ∧ top < 52) {Q : Option Value → cS → Prop} (hQ : ∀ b : Bool, (b = true ↔ gw tr sd (n + 1) need (eH (u.rL 22)) s k led top w) → Q (some (.int (bI b))) u) : wB pr (d + 2) cd_38 (Option.some Jvm.ClassFile.FieldType.boolean) Q 47 [some (.ref 21), some (.int (nI s)), some (.int lI), some (.int tI), some (.int wI), some (.int (nI need)), some (.int (nI (n + 1))), some (.int (bI ours)), some (.long (otL (u.rL 22) s 4 ||| z)), none, none, none, none, none, none, none, none, none] [] u := by
  have hp0 := hp
  obtain ⟨p1, p2, p3, p4, p5, p6, p7, p8, p9, p10, p11, p12, p13⟩ := hp
  have hl : (led = none ∧ lI = -1) ∨ ∃ q, q < 4 ∧ led = some q ∧ lI = nI q := by
    rcases p12 with ⟨_, q1, q2, _⟩ | ⟨_, q, _⟩
    · exact Or.inl ⟨q1, q2⟩
    · exact Or.inr q
  have hW : ∀ c, hb (chS (u.rL 22 s) lI) c = true ↔ gLg (eH (u.rL 22)) s led c := fun c => lg_W (p10 s p7) (fun _ => rfl) hl
  have hI0 : wLp (chS (u.rL 22 s) lI) (chS (u.rL 22 s) lI) none (fun c => gCh tr sd n need (eH (u.rL 22)) s k led top w c) ours 0 := by
    refine ⟨fun x => (by simp [bfL]), fun x _ h => (by cases h), ?_, ?_, fun b h => (by cases h)⟩
    · rcases p13 with ⟨q, _⟩ | ⟨t, t1, t2, t3, t4⟩
      · omega
      · have h0 := t4.2.2.2 0 (by omega)
        rw [show (s + 0) % 4 = s by omega, if_pos (by omega)] at h0
        have : cnt (hb (chS (u.rL 22 s) lI)) 52 ≤ hN (eH (u.rL 22)) s := cnt_sub (fun x _ h => ((hW x).mp h).2.1)
        omega
    · intro k hk
      cases q : hb (chS (u.rL 22 s) lI) k
      · rfl
      · have := ((hW k).mp q).1; omega
  refine g_load rfl rfl rfl trivial ?_
  refine g_if_lt rfl (fun c1 => ?_) (fun c1 => ?_)
  · exact absurd c1 (nI_pos (by omega))
  · refine g_load rfl rfl rfl trivial ?_
    refine g_load rfl rfl rfl trivial ?_
    refine c_getf rfl (κ := 14) (by exact p1) (by decide) (by rfl) (by rfl) ?_
    refine c_len rfl (κ := 2) (by exact p2) (by decide) (by rfl) (by decide) ?_
    refine g_icmp_ge rfl (fun c2 => ?_) (fun c2 => ?_)
    · rw [nI_leI (by omega) (by omega)] at c2
      exact absurd c2 (by omega)
    · refine g_load rfl rfl rfl trivial ?_
      refine c_getf rfl (κ := 14) (by exact p1) (by decide) (by rfl) (by rfl) ?_
      refine g_load rfl rfl rfl trivial ?_
      refine c_la s rfl (κ := 2) (by exact p2) (by decide) (by rfl) rfl (by omega) (by decide) ?_
      refine g_load rfl rfl rfl trivial ?_
      have K : gB CF cFr (aRun pg pr (d + 2)) cd_38 0 0 (some .boolean) Q 62 [some (.ref 21), some (.int (nI s)), some (.int lI), some (.int tI), some (.int wI), some (.int (nI need)), some (.int (nI (n + 1))), some (.int (bI ours)), some (.long (otL (u.rL 22) s 4 ||| z)), none, none, none, none, none, none, none, none, none] [.long (chS (u.rL 22 s) lI)] u 0 0 := by
        refine g_store [some (.ref 21), some (.int (nI s)), some (.int lI), some (.int tI), some (.int wI), some (.int (nI need)), some (.int (nI (n + 1))), some (.int (bI ours)), some (.long (otL (u.rL 22) s 4 ||| z)), none, some (.long (chS (u.rL 22 s) lI)), none, none, none, none, none, none, none] rfl rfl trivial (Nat.le_of_ble_eq_true rfl) rfl ?_
        refine g_iconst (-1) rfl (by decide) ?_
        refine g_store [some (.ref 21), some (.int (nI s)), some (.int lI), some (.int tI), some (.int wI), some (.int (nI need)), some (.int (nI (n + 1))), some (.int (bI ours)), some (.long (otL (u.rL 22) s 4 ||| z)), none, some (.long (chS (u.rL 22 s) lI)), none, some (.int (oI none)), none, none, none, none, none] rfl rfl trivial (Nat.le_of_ble_eq_true rfl) rfl ?_
        refine g_iconst (nI 0) rfl (by decide) ?_
        refine g_store [some (.ref 21), some (.int (nI s)), some (.int lI), some (.int tI), some (.int wI), some (.int (nI need)), some (.int (nI (n + 1))), some (.int (bI ours)), some (.long (otL (u.rL 22) s 4 ||| z)), none, some (.long (chS (u.rL 22 s) lI)), none, some (.int (oI none)), some (.int (nI 0)), none, none, none, none] rfl rfl trivial (Nat.le_of_ble_eq_true rfl) rfl ?_
        exact w_wins_l tr sd n s k led top w need lI tI wI hp0 hnd hI ours ho z hz hQ 5 0 _ none none none none hI0 (by omega)
      rcases hl with ⟨_, e1⟩ | ⟨q, q4, _, e1⟩
      · subst e1
        refine g_statI [.long (u.rL 22 s), .int (-1)] cFr_tr rfl rfl rfl (Nat.le_of_ble_eq_true rfl) (Nat.le_refl _) (Nat.le_refl _) (p_choices_n cFr_rf cFr_tr (u.rL 22 s) ⟨_, rfl, ?_⟩)
        rw [show chS (u.rL 22 s) (-1) = u.rL 22 s from if_pos rfl] at K
        exact g_goto rfl K
      · subst e1
        refine g_statI [.long (u.rL 22 s), .int (nI q)] cFr_tr rfl rfl rfl (Nat.le_of_ble_eq_true rfl) (Nat.le_refl _) (Nat.le_refl _) (p_choices cFr_rf cFr_tr (u.rL 22 s) q q4 ⟨_, rfl, ?_⟩)
        exact g_goto rfl K
set_option maxRecDepth 20000 in
theorem w_wins_s {pr : aC} {d : Nat} {u : cS} (tr sd n s k : Nat) (led : Option Nat) (top w need : Nat) (lI tI wI : Int32) (hp : wPre u tr sd (n + 1) s k led top w lI tI wI) (hnd : need ≤ 20) (hI : wIH pr (d + 1) n) {Q : Option Value → cS → Prop} (hQ : ∀ b : Bool, (b = true ↔ gw tr sd (n + 1) need (eH (u.rL 22)) s k led top w) → Q (some (.int (bI b))) u) : wR pr (d + 2 + 1) 38 [.ref 21, .int (nI s), .int lI, .int tI, .int wI, .int (nI need), .int (nI (n + 1))] u Q := by
  refine gR_of mi_38 cFr_rf rfl (Nat.le_of_ble_eq_true rfl) ?_
  show wB pr (d + 2) cd_38 (Option.some Jvm.ClassFile.FieldType.boolean) Q 0 [some (.ref 21), some (.int (nI s)), some (.int lI), some (.int tI), some (.int wI), some (.int (nI need)), some (.int (nI (n + 1))), none, none, none, none, none, none, none, none, none, none, none] [] u
  have hp0 := hp
  obtain ⟨p1, p2, p3, p4, p5, p6, p7, p8, p9, p10, p11, p12, p13⟩ := hp
  obtain ⟨t, t1, t2, t3, t4⟩ : ∃ t, 1 ≤ t ∧ t ≤ 4 ∧ n + 1 + k = 4 * t ∧ gOk (eH (u.rL 22)) s k t := by
    rcases p13 with ⟨q, _⟩ | q
    · omega
    · exact q
  refine g_load rfl rfl rfl trivial ?_
  refine g_if_gt rfl (fun c1 => ?_) (fun c1 => ?_)
  · have hne0 : 0 < need := by
      apply Nat.pos_of_ne_zero
      intro e
      subst e
      exact absurd c1 (by decide)
    refine g_load rfl rfl rfl trivial ?_
    refine g_bipush (nI 16) rfl (by decide) ?_
    refine g_icmp_gt rfl (fun c2 => ?_) (fun c2 => ?_)
    · rw [nI_ltI (by omega) (by omega)] at c2
      exact absurd c2 (by omega)
    · refine g_load rfl rfl rfl trivial ?_
      refine g_load rfl rfl rfl trivial ?_
      refine g_iconst (nI 4) rfl (by decide) ?_
      refine g_iadd rfl ?_
      rw [nI_add]
      refine g_iconst (nI 1) rfl (by decide) ?_
      refine g_isub rfl ?_
      rw [pk_sub (by omega)]
      refine g_iconst (nI 4) rfl (by decide) ?_
      refine g_idiv rfl (by decide) ?_
      rw [pk_div (by omega) (by omega) (by omega)]
      refine g_icmp_le rfl (fun c3 => ?_) (fun c3 => ?_)
      · rw [nI_leI (by omega) (by omega)] at c3
        refine g_load rfl rfl rfl trivial ?_
        refine g_iconst (nI 4) rfl (by decide) ?_
        refine g_icmp_ne rfl (fun c4 => ?_) (fun c4 => ?_)
        · rw [nI_eq (by omega) (by omega)] at c4
          refine g_load rfl rfl rfl trivial ?_
          refine g_iconst (nI 2) rfl (by decide) ?_
          refine g_irem rfl (by decide) ?_
          rw [pk_rem (by omega) (by omega) (by omega)]
          refine g_load rfl rfl rfl trivial ?_
          refine c_getf rfl (κ := 14) (by exact p1) (by decide) (by rfl) (by rfl) ?_
          rw [p5]
          have K5 : ∀ e5 : Int32, e5 = bI (decide (s % 2 = sd)) → wB pr (d + 2) cd_38 (Option.some Jvm.ClassFile.FieldType.boolean) Q 34 [some (.ref 21), some (.int (nI s)), some (.int lI), some (.int tI), some (.int wI), some (.int (nI need)), some (.int (nI (n + 1))), none, none, none, none, none, none, none, none, none, none, none] [.int e5] u := by
            intro e5 he5
            subst he5
            refine g_store [some (.ref 21), some (.int (nI s)), some (.int lI), some (.int tI), some (.int wI), some (.int (nI need)), some (.int (nI (n + 1))), some (.int (bI (decide (s % 2 = sd)))), none, none, none, none, none, none, none, none, none, none] rfl rfl trivial (Nat.le_of_ble_eq_true rfl) rfl ?_
            refine g_load rfl rfl rfl trivial ?_
            refine g_load rfl rfl rfl trivial ?_
            refine g_virtI (a := 21) (ci := 3) (n := 1) [.int (nI s)] cFr_tr rfl rfl (by decide) rfl (c_ob (κ := 14) (by exact p1) (by decide) (by rfl)) rfl (Nat.le_of_ble_eq_true rfl) (Nat.le_refl _) (Nat.le_refl _) (c_lift cFr_rf (fun _ h => h) (c_othersThan p1 p2 s p7 ⟨_, rfl, ?_⟩))
            refine g_load rfl rfl rfl trivial ?_
            refine g_iconst (-1) rfl (by decide) ?_
            refine g_icmp_ne rfl (fun c6 => ?_) (fun c6 => ?_)
            · have hk0 : 0 < k ∧ tI = nI top ∧ top < 52 := by
                rcases p12 with ⟨_, _, _, q⟩ | ⟨q0, _, q, q2, _⟩
                · exact absurd q c6
                · exact ⟨q0, q, q2⟩
              obtain ⟨hk0, rfl, hq2⟩ := hk0
              have hz : 0 < k → bt1 top = bt1 top ∧ top < 52 := fun _ => ⟨rfl, hq2⟩
              refine g_load rfl rfl rfl trivial ?_
              refine g_statI [.int (nI top)] cFr_tr rfl rfl rfl (Nat.le_of_ble_eq_true rfl) (Nat.le_refl _) (Nat.le_refl _) (p_bitOf cFr_rf cFr_tr top ⟨_, rfl, ?_⟩)
              refine g_lor rfl ?_
              refine g_store [some (.ref 21), some (.int (nI s)), some (.int lI), some (.int (nI top)), some (.int wI), some (.int (nI need)), some (.int (nI (n + 1))), some (.int (bI (decide (s % 2 = sd)))), some (.long (otL (u.rL 22) s 4 ||| bt1 top)), none, none, none, none, none, none, none, none, none] rfl rfl trivial (Nat.le_of_ble_eq_true rfl) rfl ?_
              exact w_wins_1 tr sd n s k led top w need lI _ wI hp0 hnd hI _ rfl _ hz hQ
            · have hk0 : k = 0 := by
                rcases p12 with ⟨q, _⟩ | ⟨_, _, q, q2, _⟩
                · exact q
                · rw [q] at c6; exact absurd c6 (nI_m1 (by omega))
              have hz : 0 < k → lN 0 = bt1 top ∧ top < 52 := fun z => absurd z (by omega)
              refine g_lconst (lN 0) rfl rfl ?_
              refine g_goto rfl ?_
              refine g_lor rfl ?_
              refine g_store [some (.ref 21), some (.int (nI s)), some (.int lI), some (.int tI), some (.int wI), some (.int (nI need)), some (.int (nI (n + 1))), some (.int (bI (decide (s % 2 = sd)))), some (.long (otL (u.rL 22) s 4 ||| lN 0)), none, none, none, none, none, none, none, none, none] rfl rfl trivial (Nat.le_of_ble_eq_true rfl) rfl ?_
              exact w_wins_1 tr sd n s k led top w need lI _ wI hp0 hnd hI _ rfl _ hz hQ
          refine g_icmp_ne rfl (fun c5 => ?_) (fun c5 => ?_)
          · rw [nI_eq (by omega) (by omega)] at c5
            have hce := decide_eq_false c5
            refine g_iconst (nI 0) rfl (by decide) ?_
            exact K5 _ (by rw [hce]; rfl)
          · rw [nI_eq (by omega) (by omega)] at c5
            have hce := decide_eq_true c5
            refine g_iconst (nI 1) rfl (by decide) ?_
            refine g_goto rfl ?_
            exact K5 _ (by rw [hce]; rfl)
        · rw [nI_eq (by omega) (by omega)] at c4
          have hk0 : k = 0 := by omega
          have ht1 : t = 1 := by omega
          have hn3 : n = 3 := by omega
          have hne1 : need = 1 := by omega
          subst hk0; subst ht1; subst hn3; subst hne1
          obtain ⟨c, hc⟩ := gOk_1 p7 p10 t4
          refine g_load rfl rfl rfl trivial ?_
          refine g_load rfl rfl rfl trivial ?_
          refine g_virtI (a := 21) (ci := 3) (n := 1) [.int (nI s)] cFr_tr rfl rfl (by decide) rfl (c_ob (κ := 14) (by exact p1) (by decide) (by rfl)) rfl (Nat.le_of_ble_eq_true rfl) (Nat.le_refl _) (Nat.le_refl _) (c_lift cFr_rf (fun _ h => h) (c_winsLast p1 p2 tr sd s c p3 p4 p5 p6 p7 (fun i hi => ⟨(hc i hi).1, (hc i hi).2.1⟩) ⟨_, rfl, ?_⟩))
          exact g_vret rfl trivial (bI_rt _) (Nat.le_refl _) (Nat.le_refl _) (hQ _ (by rw [decide_eq_true_eq]; exact (gw_last c p7 (fun i hi => ⟨(hc i hi).1, (hc i hi).2.2⟩)).symm))
      · rw [nI_leI (by omega) (by omega)] at c3
        have hQ := hQ false ⟨fun z => (by cases z), fun z => absurd (gw_le tr sd (n + 1) need t _ _ _ _ _ _ t3 t4 p9 z) (by omega)⟩
        refine g_iconst (nI 0) rfl (by decide) ?_
        refine g_vret rfl trivial (by first | exact ⟨by decide, by decide⟩ | trivial) (Nat.le_refl _) (Nat.le_refl _) ?_
        exact hQ
  · have hne0 : need = 0 := by
      apply Nat.eq_zero_of_not_pos
      intro e
      exact c1 (by show (0 : Int32) < nI need; rw [← show nI 0 = 0 from rfl, nI_ltI (by omega) (by omega)]; exact e)
    have hQ := hQ true ⟨fun _ => (by rw [hne0]; exact gw_0 tr sd (n + 1) t _ _ _ _ _ _ t3 t4 p9), fun _ => rfl⟩
    refine g_iconst (nI 1) rfl (by decide) ?_
    refine g_vret rfl trivial (by first | exact ⟨by decide, by decide⟩ | trivial) (Nat.le_refl _) (Nat.le_refl _) ?_
    exact hQ
set_option maxRecDepth 20000 in
theorem w_wins_z {pr : aC} {d : Nat} {u : cS} (s need : Nat) (lI tI wI : Int32) (hnd : need ≤ 20) {Q : Option Value → cS → Prop} (hQ : Q (some (.int (bI (decide (need = 0))))) u) : wR pr (d + 1) 38 [.ref 21, .int (nI s), .int lI, .int tI, .int wI, .int (nI need), .int (nI 0)] u Q := by
  refine gR_of mi_38 cFr_rf rfl (Nat.le_of_ble_eq_true rfl) ?_
  show wB pr (d) cd_38 (Option.some Jvm.ClassFile.FieldType.boolean) Q 0 [some (.ref 21), some (.int (nI s)), some (.int lI), some (.int tI), some (.int wI), some (.int (nI need)), some (.int (nI 0)), none, none, none, none, none, none, none, none, none, none, none] [] u
  refine g_load rfl rfl rfl trivial ?_
  refine g_if_gt rfl (fun c1 => ?_) (fun c1 => ?_)
  · have hne0 : 0 < need := by
      apply Nat.pos_of_ne_zero
      intro e
      subst e
      exact absurd c1 (by decide)
    rw [decide_eq_false (show ¬ need = 0 by omega)] at hQ
    refine g_load rfl rfl rfl trivial ?_
    refine g_bipush (nI 16) rfl (by decide) ?_
    refine g_icmp_gt rfl (fun c2 => ?_) (fun c2 => ?_)
    · exact absurd c2 (by decide)
    · refine g_load rfl rfl rfl trivial ?_
      refine g_load rfl rfl rfl trivial ?_
      refine g_iconst (nI 4) rfl (by decide) ?_
      refine g_iadd rfl ?_
      rw [nI_add]
      refine g_iconst (nI 1) rfl (by decide) ?_
      refine g_isub rfl ?_
      rw [pk_sub (by omega)]
      refine g_iconst (nI 4) rfl (by decide) ?_
      refine g_idiv rfl (by decide) ?_
      rw [pk_div (by omega) (by omega) (by omega)]
      refine g_icmp_le rfl (fun c3 => ?_) (fun c3 => ?_)
      · rw [nI_leI (by omega) (by omega)] at c3
        exact absurd c3 (by omega)
      · refine g_iconst (nI 0) rfl (by decide) ?_
        refine g_vret rfl trivial (by first | exact ⟨by decide, by decide⟩ | trivial) (Nat.le_refl _) (Nat.le_refl _) ?_
        exact hQ
  · have hne0 : need = 0 := by
      apply Nat.eq_zero_of_not_pos
      intro e
      exact c1 (by show (0 : Int32) < nI need; rw [← show nI 0 = 0 from rfl, nI_ltI (by omega) (by omega)]; exact e)
    rw [decide_eq_true hne0] at hQ
    refine g_iconst (nI 1) rfl (by decide) ?_
    refine g_vret rfl trivial (by first | exact ⟨by decide, by decide⟩ | trivial) (Nat.le_refl _) (Nat.le_refl _) ?_
    exact hQ
set_option maxRecDepth 20000 in
theorem w_wins_m {pr : aC} {d : Nat} {u : cS} (s n : Nat) (lI tI wI : Int32) {Q : Option Value → cS → Prop} (hQ : Q (some (.int 1)) u) : wR pr (d + 1) 38 [.ref 21, .int (nI s), .int lI, .int tI, .int wI, .int (-1), .int (nI n)] u Q := by
  refine gR_of mi_38 cFr_rf rfl (Nat.le_of_ble_eq_true rfl) ?_
  show wB pr (d) cd_38 (Option.some Jvm.ClassFile.FieldType.boolean) Q 0 [some (.ref 21), some (.int (nI s)), some (.int lI), some (.int tI), some (.int wI), some (.int (-1)), some (.int (nI n)), none, none, none, none, none, none, none, none, none, none, none] [] u
  refine g_load rfl rfl rfl trivial ?_
  refine g_if_gt rfl (fun c1 => ?_) (fun c1 => ?_)
  · exact absurd c1 (by decide)
  · refine g_iconst (nI 1) rfl (by decide) ?_
    refine g_vret rfl trivial (by first | exact ⟨by decide, by decide⟩ | trivial) (Nat.le_refl _) (Nat.le_refl _) ?_
    exact hQ
theorem w_wins {pr : aC} (d : Nat) : ∀ n, wIH pr (d + 2 * n + 1) n
  | 0 => by
    intro u tr sd s k led top w need lI tI wI nd hp hnd hn Q hQ
    rcases hn with rfl | ⟨rfl, rfl⟩
    · exact w_wins_z s need lI tI wI hnd (hQ _ (by rw [decide_eq_true_eq]; exact Iff.rfl))
    · exact w_wins_m s 0 lI tI wI (hQ true ⟨fun _ => rfl, fun _ => rfl⟩)
  | n + 1 => by
    intro u tr sd s k led top w need lI tI wI nd hp hnd hn Q hQ
    have hI := w_wins (pr := pr) d n
    rcases hn with rfl | ⟨rfl, rfl⟩
    · exact w_wins_s (d := d + 2 * n) tr sd n s k led top w need lI tI wI hp hnd hI hQ
    · refine w_wins_m s (n + 1) lI tI wI (hQ true ⟨fun _ => ?_, fun _ => rfl⟩)
      obtain ⟨p1, p2, p3, p4, p5, p6, p7, p8, p9, p10, p11, p12, p13⟩ := hp
      rcases p13 with ⟨q, _⟩ | ⟨t, t1, t2, t3, t4⟩
      · omega
      · exact gw_0 tr sd (n + 1) t _ _ _ _ _ _ t3 t4 p9
