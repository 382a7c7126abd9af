/-! ===== the law's own instructions checked ===== -/
theorem law_chk : (mi_225.cd.zipIdx.all fun q => eChk pg mi_225 q.2 q.1) = true := by decide +kernel
theorem law_e (k : Nat) (e : aE) (hk : mi_225.cd[k]? = some e) : eChk pg mi_225 k e = true := List.all_eq_true.mp law_chk (e, k) (List.mem_zipIdx_iff_getElem?.mpr hk)
theorem law_pc : aPc mi_225.cd 0 = 0 := by decide +kernel
