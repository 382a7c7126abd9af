/-! ===== the constants, as the start has them ===== -/
theorem n_0 : (nF.drop 6).take 26 = nT "BridgeClub$Scoring" "STEP_BOUNDS" "[I" .int 24 stpF := by decide +kernel
theorem n_0t : Cond.laysStatic "BridgeClub$Scoring" "STEP_BOUNDS" "[I" ∈ lw_tbl ∧ Cond.initialized "BridgeClub$Scoring" ∈ lw_tbl := by decide +kernel
theorem n_1 : (nF.drop 243).take 26 = nT "BridgeClubModel" "STEP" "[I" .int 24 stpF := by decide +kernel
theorem n_1t : Cond.laysStatic "BridgeClubModel" "STEP" "[I" ∈ lw_tbl ∧ Cond.initialized "BridgeClubModel" ∈ lw_tbl := by decide +kernel
theorem n_2 : (nF.drop 37).take 102 = nT "java/lang/Integer" "DigitOnes" "[B" .byte 100 (fun i => nI (48 + i % 10)) := by decide +kernel
theorem n_2t : Cond.laysStatic "java/lang/Integer" "DigitOnes" "[B" ∈ lw_tbl ∧ Cond.initialized "java/lang/Integer" ∈ lw_tbl := by decide +kernel
theorem n_3 : (nF.drop 140).take 102 = nT "java/lang/Integer" "DigitTens" "[B" .byte 100 (fun i => nI (48 + i / 10)) := by decide +kernel
theorem n_3t : Cond.laysStatic "java/lang/Integer" "DigitTens" "[B" ∈ lw_tbl ∧ Cond.initialized "java/lang/Integer" ∈ lw_tbl := by decide +kernel
theorem n_4 : (nF.drop 269).take 8 = nS "BridgeClub$Result" 55 4 (fun i => ([112, 97, 115, 115] : List Int32).getD i 0) := by decide +kernel
theorem n_4t : Cond.stringRef "BridgeClub$Result" 55 "pass" ∈ lw_tbl := by decide +kernel
theorem n_6 : (nF.drop 277).take 9 = nS "BridgeClub$Result" 66 5 (fun i => ([67, 68, 72, 83, 78] : List Int32).getD i 0) := by decide +kernel
theorem n_6t : Cond.stringRef "BridgeClub$Result" 66 "CDHSN" ∈ lw_tbl := by decide +kernel
theorem n_8 : (nF.drop 287).take 8 = nS "BridgeClub$Result" 75 4 (fun i => ([78, 69, 83, 87] : List Int32).getD i 0) := by decide +kernel
theorem n_8t : Cond.stringRef "BridgeClub$Result" 75 "NESW" ∈ lw_tbl := by decide +kernel
theorem n_10 : (nF.drop 297).take 9 = nS "BridgeClubModel" 248 5 (fun i => ([67, 68, 72, 83, 78] : List Int32).getD i 0) := by decide +kernel
theorem n_10t : Cond.stringRef "BridgeClubModel" 248 "CDHSN" ∈ lw_tbl := by decide +kernel
theorem n_12 : (nF.drop 309).take 8 = nS "BridgeClubModel" 256 4 (fun i => ([78, 69, 83, 87] : List Int32).getD i 0) := by decide +kernel
theorem n_12t : Cond.stringRef "BridgeClubModel" 256 "NESW" ∈ lw_tbl := by decide +kernel
theorem n_s : (Cond.laysStatic "java/lang/String" "COMPACT_STRINGS" "Z" ∈ lw_tbl ∧ Cond.initialized "java/lang/String" ∈ lw_tbl) ∧ Cond.laysStatic "jdk/internal/util/Preconditions" "SIOOBE_FORMATTER" "Ljava/util/function/BiFunction;" ∈ lw_tbl ∧ Cond.initialized "jdk/internal/util/Preconditions" ∈ lw_tbl := by decide +kernel
theorem n_c : Cond.eq (.static "java/lang/String" "COMPACT_STRINGS" "Z") (.int 1) ∈ nF := by decide +kernel
theorem n_p : Cond.isRef (.static "jdk/internal/util/Preconditions" "SIOOBE_FORMATTER" "Ljava/util/function/BiFunction;") ∈ nF := by decide +kernel
theorem n_w : ∀ w ∈ aNw, w ∈ lw_tbl ∧ w.onTables = true := by decide +kernel
