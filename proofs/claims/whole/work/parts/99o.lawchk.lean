/-! ===== the instructions of the law checked ===== -/
def lawC (k : Nat) : Bool := match mi_225.cd[k]? with
  | some e => eChk pg mi_225 k e
  | none => true
theorem lc_0 : (List.range 40).all (fun j => lawC (0 + j)) = true := by decide +kernel
theorem lc_1 : (List.range 40).all (fun j => lawC (40 + j)) = true := by decide +kernel
theorem lc_2 : (List.range 40).all (fun j => lawC (80 + j)) = true := by decide +kernel
theorem lc_3 : (List.range 40).all (fun j => lawC (120 + j)) = true := by decide +kernel
theorem lc_4 : (List.range 40).all (fun j => lawC (160 + j)) = true := by decide +kernel
theorem lc_5 : (List.range 40).all (fun j => lawC (200 + j)) = true := by decide +kernel
theorem lc_6 : (List.range 40).all (fun j => lawC (240 + j)) = true := by decide +kernel
theorem lc_7 : (List.range 40).all (fun j => lawC (280 + j)) = true := by decide +kernel
theorem lc_8 : (List.range 40).all (fun j => lawC (320 + j)) = true := by decide +kernel
theorem lc_9 : (List.range 40).all (fun j => lawC (360 + j)) = true := by decide +kernel
theorem lc_10 : (List.range 40).all (fun j => lawC (400 + j)) = true := by decide +kernel
theorem lc_11 : (List.range 40).all (fun j => lawC (440 + j)) = true := by decide +kernel
theorem lc_12 : (List.range 40).all (fun j => lawC (480 + j)) = true := by decide +kernel
theorem lc_13 : (List.range 40).all (fun j => lawC (520 + j)) = true := by decide +kernel
theorem lc_14 : (List.range 40).all (fun j => lawC (560 + j)) = true := by decide +kernel
theorem lc_15 : (List.range 40).all (fun j => lawC (600 + j)) = true := by decide +kernel
theorem lc_16 : (List.range 40).all (fun j => lawC (640 + j)) = true := by decide +kernel
theorem lc_17 : (List.range 40).all (fun j => lawC (680 + j)) = true := by decide +kernel
theorem lc_18 : (List.range 40).all (fun j => lawC (720 + j)) = true := by decide +kernel
theorem lc_19 : (List.range 40).all (fun j => lawC (760 + j)) = true := by decide +kernel
theorem lc_20 : (List.range 40).all (fun j => lawC (800 + j)) = true := by decide +kernel
theorem lc_21 : (List.range 40).all (fun j => lawC (840 + j)) = true := by decide +kernel
theorem lc_at {a n k : Nat} (h : (List.range n).all (fun j => lawC (a + j)) = true) (h1 : a ≤ k) (h2 : k < a + n) : lawC k = true := by
  have := List.all_eq_true.mp h (k - a) (List.mem_range.mpr (by omega))
  rwa [show a + (k - a) = k by omega] at this
theorem law_len : mi_225.cd.length = 844 := by decide +kernel
theorem law_e (k : Nat) (e : aE) (hk : mi_225.cd[k]? = some e) : eChk pg mi_225 k e = true := by
  have hlt : k < 844 := by
    have := (List.getElem?_eq_some_iff.mp hk).1
    rwa [law_len] at this
  have h : lawC k = true := by
    by_cases h0 : k < 40
    · exact lc_at lc_0 (by omega) (by omega)
    by_cases h1 : k < 80
    · exact lc_at lc_1 (by omega) (by omega)
    by_cases h2 : k < 120
    · exact lc_at lc_2 (by omega) (by omega)
    by_cases h3 : k < 160
    · exact lc_at lc_3 (by omega) (by omega)
    by_cases h4 : k < 200
    · exact lc_at lc_4 (by omega) (by omega)
    by_cases h5 : k < 240
    · exact lc_at lc_5 (by omega) (by omega)
    by_cases h6 : k < 280
    · exact lc_at lc_6 (by omega) (by omega)
    by_cases h7 : k < 320
    · exact lc_at lc_7 (by omega) (by omega)
    by_cases h8 : k < 360
    · exact lc_at lc_8 (by omega) (by omega)
    by_cases h9 : k < 400
    · exact lc_at lc_9 (by omega) (by omega)
    by_cases h10 : k < 440
    · exact lc_at lc_10 (by omega) (by omega)
    by_cases h11 : k < 480
    · exact lc_at lc_11 (by omega) (by omega)
    by_cases h12 : k < 520
    · exact lc_at lc_12 (by omega) (by omega)
    by_cases h13 : k < 560
    · exact lc_at lc_13 (by omega) (by omega)
    by_cases h14 : k < 600
    · exact lc_at lc_14 (by omega) (by omega)
    by_cases h15 : k < 640
    · exact lc_at lc_15 (by omega) (by omega)
    by_cases h16 : k < 680
    · exact lc_at lc_16 (by omega) (by omega)
    by_cases h17 : k < 720
    · exact lc_at lc_17 (by omega) (by omega)
    by_cases h18 : k < 760
    · exact lc_at lc_18 (by omega) (by omega)
    by_cases h19 : k < 800
    · exact lc_at lc_19 (by omega) (by omega)
    by_cases h20 : k < 840
    · exact lc_at lc_20 (by omega) (by omega)
    exact lc_at lc_21 (by omega) (by omega)
  unfold lawC at h
  rw [hk] at h
  exact h
theorem law_pc : aPc mi_225.cd 0 = 0 := by decide +kernel
