section
-- ===== PART A: goes FIRST, ahead of the names: the tables' words, and 'selects' of the private methods out of them =====
/-- a private method of a class that the tables say can be made, by its rows of tables_1 -/
def lw_okq (q : MethodName × Nat) : Prop := (q.1.cls ≠ "java/lang/invoke/MethodHandle" ∧ q.1.cls ≠ "java/lang/invoke/VarHandle") ∧ Cond.instantiable q.1.cls q.2 ∈ tables_1 ∧ Cond.privateMethod q.1 ∈ tables_1 ∧ Cond.instanceMethod q.1 ∈ tables_1
theorem lw_p0 : lw_okq (⟨"BridgeClub", "shuffle", "(I)V"⟩, 8) := ⟨⟨by decide +kernel, by decide +kernel⟩, List.mem_of_getElem? (i := 24) (by decide +kernel), List.mem_of_getElem? (i := 132) (by decide +kernel), List.mem_of_getElem? (i := 133) (by decide +kernel)⟩
theorem lw_p1 : lw_okq (⟨"BridgeClub", "boardNumbered", "(I)LBridgeClub$Board;"⟩, 8) := ⟨⟨by decide +kernel, by decide +kernel⟩, List.mem_of_getElem? (i := 24) (by decide +kernel), List.mem_of_getElem? (i := 167) (by decide +kernel), List.mem_of_getElem? (i := 168) (by decide +kernel)⟩
theorem lw_p2 : lw_okq (⟨"BridgeClub", "tableWithBoard", "(I)I"⟩, 8) := ⟨⟨by decide +kernel, by decide +kernel⟩, List.mem_of_getElem? (i := 24) (by decide +kernel), List.mem_of_getElem? (i := 206) (by decide +kernel), List.mem_of_getElem? (i := 207) (by decide +kernel)⟩
theorem lw_p3 : lw_okq (⟨"BridgeClub", "busyTable", "(I)LBridgeClub$Table;"⟩, 8) := ⟨⟨by decide +kernel, by decide +kernel⟩, List.mem_of_getElem? (i := 24) (by decide +kernel), List.mem_of_getElem? (i := 210) (by decide +kernel), List.mem_of_getElem? (i := 211) (by decide +kernel)⟩
theorem lw_p4 : lw_okq (⟨"BridgeClub", "isFreeFor", "(II)Z"⟩, 8) := ⟨⟨by decide +kernel, by decide +kernel⟩, List.mem_of_getElem? (i := 24) (by decide +kernel), List.mem_of_getElem? (i := 233) (by decide +kernel), List.mem_of_getElem? (i := 234) (by decide +kernel)⟩
theorem lw_p5 : lw_okq (⟨"BridgeClub", "resultAt", "(I)LBridgeClub$Result;"⟩, 8) := ⟨⟨by decide +kernel, by decide +kernel⟩, List.mem_of_getElem? (i := 24) (by decide +kernel), List.mem_of_getElem? (i := 241) (by decide +kernel), List.mem_of_getElem? (i := 242) (by decide +kernel)⟩
theorem lw_p6 : lw_okq (⟨"BridgeClub$Auction", "latestFrom", "(I)I"⟩, 3) := ⟨⟨by decide +kernel, by decide +kernel⟩, List.mem_of_getElem? (i := 258) (by decide +kernel), List.mem_of_getElem? (i := 344) (by decide +kernel), List.mem_of_getElem? (i := 345) (by decide +kernel)⟩
theorem lw_p7 : lw_okq (⟨"BridgeClub", "finish", "(LBridgeClub$Table;I)V"⟩, 8) := ⟨⟨by decide +kernel, by decide +kernel⟩, List.mem_of_getElem? (i := 24) (by decide +kernel), List.mem_of_getElem? (i := 386) (by decide +kernel), List.mem_of_getElem? (i := 387) (by decide +kernel)⟩
theorem lw_p8 : lw_okq (⟨"BridgeClub", "endingTable", "(I)LBridgeClub$Table;"⟩, 8) := ⟨⟨by decide +kernel, by decide +kernel⟩, List.mem_of_getElem? (i := 24) (by decide +kernel), List.mem_of_getElem? (i := 596) (by decide +kernel), List.mem_of_getElem? (i := 597) (by decide +kernel)⟩
theorem lw_p9 : lw_okq (⟨"BridgeClub$Ending", "load", "(LBridgeClub$Table;)V"⟩, 8) := ⟨⟨by decide +kernel, by decide +kernel⟩, List.mem_of_getElem? (i := 38) (by decide +kernel), List.mem_of_getElem? (i := 605) (by decide +kernel), List.mem_of_getElem? (i := 606) (by decide +kernel)⟩
theorem lw_p10 : lw_okq (⟨"BridgeClub$Ending", "wins", "(IIIIII)Z"⟩, 8) := ⟨⟨by decide +kernel, by decide +kernel⟩, List.mem_of_getElem? (i := 38) (by decide +kernel), List.mem_of_getElem? (i := 631) (by decide +kernel), List.mem_of_getElem? (i := 632) (by decide +kernel)⟩
theorem lw_p11 : lw_okq (⟨"BridgeClub$Ending", "winsLast", "(I)Z"⟩, 8) := ⟨⟨by decide +kernel, by decide +kernel⟩, List.mem_of_getElem? (i := 38) (by decide +kernel), List.mem_of_getElem? (i := 635) (by decide +kernel), List.mem_of_getElem? (i := 636) (by decide +kernel)⟩
theorem lw_p12 : lw_okq (⟨"BridgeClub$Ending", "othersThan", "(I)J"⟩, 8) := ⟨⟨by decide +kernel, by decide +kernel⟩, List.mem_of_getElem? (i := 38) (by decide +kernel), List.mem_of_getElem? (i := 646) (by decide +kernel), List.mem_of_getElem? (i := 647) (by decide +kernel)⟩
theorem lw_p13 : lw_okq (⟨"BridgeClub$Ending", "winsWith", "(IIIIIII)Z"⟩, 8) := ⟨⟨by decide +kernel, by decide +kernel⟩, List.mem_of_getElem? (i := 38) (by decide +kernel), List.mem_of_getElem? (i := 656) (by decide +kernel), List.mem_of_getElem? (i := 657) (by decide +kernel)⟩
theorem lw_p14 : lw_okq (⟨"BridgeClub", "pointsOf", "(LBridgeClub$Result;II)I"⟩, 8) := ⟨⟨by decide +kernel, by decide +kernel⟩, List.mem_of_getElem? (i := 24) (by decide +kernel), List.mem_of_getElem? (i := 799) (by decide +kernel), List.mem_of_getElem? (i := 800) (by decide +kernel)⟩
theorem lw_p15 : lw_okq (⟨"BridgeClub", "mostOf", "(LBridgeClub$Result;)I"⟩, 8) := ⟨⟨by decide +kernel, by decide +kernel⟩, List.mem_of_getElem? (i := 24) (by decide +kernel), List.mem_of_getElem? (i := 803) (by decide +kernel), List.mem_of_getElem? (i := 804) (by decide +kernel)⟩
def lw_privs_1 : List (MethodName × Nat) := [(⟨"BridgeClub", "shuffle", "(I)V"⟩, 8), (⟨"BridgeClub", "boardNumbered", "(I)LBridgeClub$Board;"⟩, 8), (⟨"BridgeClub", "tableWithBoard", "(I)I"⟩, 8), (⟨"BridgeClub", "busyTable", "(I)LBridgeClub$Table;"⟩, 8), (⟨"BridgeClub", "isFreeFor", "(II)Z"⟩, 8), (⟨"BridgeClub", "resultAt", "(I)LBridgeClub$Result;"⟩, 8), (⟨"BridgeClub$Auction", "latestFrom", "(I)I"⟩, 3), (⟨"BridgeClub", "finish", "(LBridgeClub$Table;I)V"⟩, 8), (⟨"BridgeClub", "endingTable", "(I)LBridgeClub$Table;"⟩, 8), (⟨"BridgeClub$Ending", "load", "(LBridgeClub$Table;)V"⟩, 8), (⟨"BridgeClub$Ending", "wins", "(IIIIII)Z"⟩, 8), (⟨"BridgeClub$Ending", "winsLast", "(I)Z"⟩, 8), (⟨"BridgeClub$Ending", "othersThan", "(I)J"⟩, 8), (⟨"BridgeClub$Ending", "winsWith", "(IIIIIII)Z"⟩, 8), (⟨"BridgeClub", "pointsOf", "(LBridgeClub$Result;II)I"⟩, 8), (⟨"BridgeClub", "mostOf", "(LBridgeClub$Result;)I"⟩, 8)]
theorem lw_r1 : ∀ q ∈ lw_privs_1, lw_okq q := List.forall_mem_cons.mpr ⟨lw_p0, List.forall_mem_cons.mpr ⟨lw_p1, List.forall_mem_cons.mpr ⟨lw_p2, List.forall_mem_cons.mpr ⟨lw_p3, List.forall_mem_cons.mpr ⟨lw_p4, List.forall_mem_cons.mpr ⟨lw_p5, List.forall_mem_cons.mpr ⟨lw_p6, List.forall_mem_cons.mpr ⟨lw_p7, List.forall_mem_cons.mpr ⟨lw_p8, List.forall_mem_cons.mpr ⟨lw_p9, List.forall_mem_cons.mpr ⟨lw_p10, List.forall_mem_cons.mpr ⟨lw_p11, List.forall_mem_cons.mpr ⟨lw_p12, List.forall_mem_cons.mpr ⟨lw_p13, List.forall_mem_cons.mpr ⟨lw_p14, List.forall_mem_cons.mpr ⟨lw_p15, fun _ h => absurd h List.not_mem_nil⟩⟩⟩⟩⟩⟩⟩⟩⟩⟩⟩⟩⟩⟩⟩⟩
theorem lw_p16 : lw_okq (⟨"BridgeClub", "hasResult", "(I)Z"⟩, 8) := ⟨⟨by decide +kernel, by decide +kernel⟩, List.mem_of_getElem? (i := 24) (by decide +kernel), List.mem_of_getElem? (i := 826) (by decide +kernel), List.mem_of_getElem? (i := 827) (by decide +kernel)⟩
theorem lw_p17 : lw_okq (⟨"BridgeClub", "pointsOfPair", "(I)I"⟩, 8) := ⟨⟨by decide +kernel, by decide +kernel⟩, List.mem_of_getElem? (i := 24) (by decide +kernel), List.mem_of_getElem? (i := 830) (by decide +kernel), List.mem_of_getElem? (i := 831) (by decide +kernel)⟩
theorem lw_p18 : lw_okq (⟨"BridgeClub", "mostOfPair", "(I)I"⟩, 8) := ⟨⟨by decide +kernel, by decide +kernel⟩, List.mem_of_getElem? (i := 24) (by decide +kernel), List.mem_of_getElem? (i := 838) (by decide +kernel), List.mem_of_getElem? (i := 839) (by decide +kernel)⟩
theorem lw_p19 : lw_okq (⟨"BridgeClub", "partOver", "(I)J"⟩, 8) := ⟨⟨by decide +kernel, by decide +kernel⟩, List.mem_of_getElem? (i := 24) (by decide +kernel), List.mem_of_getElem? (i := 846) (by decide +kernel), List.mem_of_getElem? (i := 847) (by decide +kernel)⟩
theorem lw_p20 : lw_okq (⟨"BridgeClub", "partUnder", "(I)J"⟩, 8) := ⟨⟨by decide +kernel, by decide +kernel⟩, List.mem_of_getElem? (i := 24) (by decide +kernel), List.mem_of_getElem? (i := 850) (by decide +kernel), List.mem_of_getElem? (i := 851) (by decide +kernel)⟩
theorem lw_p21 : lw_okq (⟨"BridgeClub", "busyTables", "()I"⟩, 8) := ⟨⟨by decide +kernel, by decide +kernel⟩, List.mem_of_getElem? (i := 24) (by decide +kernel), List.mem_of_getElem? (i := 1110) (by decide +kernel), List.mem_of_getElem? (i := 1111) (by decide +kernel)⟩
theorem lw_p22 : lw_okq (⟨"BridgeClub", "pairsWithResult", "()I"⟩, 8) := ⟨⟨by decide +kernel, by decide +kernel⟩, List.mem_of_getElem? (i := 24) (by decide +kernel), List.mem_of_getElem? (i := 1114) (by decide +kernel), List.mem_of_getElem? (i := 1115) (by decide +kernel)⟩
theorem lw_p23 : lw_okq (⟨"BridgeClubModel", "isBoard", "(I)Z"⟩, 31) := ⟨⟨by decide +kernel, by decide +kernel⟩, List.mem_of_getElem? (i := 1118) (by decide +kernel), List.mem_of_getElem? (i := 1228) (by decide +kernel), List.mem_of_getElem? (i := 1229) (by decide +kernel)⟩
theorem lw_p24 : lw_okq (⟨"BridgeClubModel", "resultsOf", "(I)I"⟩, 31) := ⟨⟨by decide +kernel, by decide +kernel⟩, List.mem_of_getElem? (i := 1118) (by decide +kernel), List.mem_of_getElem? (i := 1252) (by decide +kernel), List.mem_of_getElem? (i := 1253) (by decide +kernel)⟩
theorem lw_p25 : lw_okq (⟨"BridgeClubModel", "tableOf", "(I)I"⟩, 31) := ⟨⟨by decide +kernel, by decide +kernel⟩, List.mem_of_getElem? (i := 1118) (by decide +kernel), List.mem_of_getElem? (i := 1256) (by decide +kernel), List.mem_of_getElem? (i := 1257) (by decide +kernel)⟩
theorem lw_p26 : lw_okq (⟨"BridgeClubModel", "isPlaying", "(I)Z"⟩, 31) := ⟨⟨by decide +kernel, by decide +kernel⟩, List.mem_of_getElem? (i := 1118) (by decide +kernel), List.mem_of_getElem? (i := 1264) (by decide +kernel), List.mem_of_getElem? (i := 1265) (by decide +kernel)⟩
theorem lw_p27 : lw_okq (⟨"BridgeClubModel", "hasPlayed", "(II)Z"⟩, 31) := ⟨⟨by decide +kernel, by decide +kernel⟩, List.mem_of_getElem? (i := 1118) (by decide +kernel), List.mem_of_getElem? (i := 1268) (by decide +kernel), List.mem_of_getElem? (i := 1269) (by decide +kernel)⟩
theorem lw_p28 : lw_okq (⟨"BridgeClubModel", "phaseOf", "(I)I"⟩, 31) := ⟨⟨by decide +kernel, by decide +kernel⟩, List.mem_of_getElem? (i := 1118) (by decide +kernel), List.mem_of_getElem? (i := 1276) (by decide +kernel), List.mem_of_getElem? (i := 1277) (by decide +kernel)⟩
theorem lw_p29 : lw_okq (⟨"BridgeClubModel", "mayCall", "(II)Z"⟩, 31) := ⟨⟨by decide +kernel, by decide +kernel⟩, List.mem_of_getElem? (i := 1118) (by decide +kernel), List.mem_of_getElem? (i := 1280) (by decide +kernel), List.mem_of_getElem? (i := 1281) (by decide +kernel)⟩
theorem lw_p30 : lw_okq (⟨"BridgeClubModel", "latestCall", "(I)I"⟩, 31) := ⟨⟨by decide +kernel, by decide +kernel⟩, List.mem_of_getElem? (i := 1118) (by decide +kernel), List.mem_of_getElem? (i := 1284) (by decide +kernel), List.mem_of_getElem? (i := 1285) (by decide +kernel)⟩
theorem lw_p31 : lw_okq (⟨"BridgeClubModel", "callAt", "(II)I"⟩, 31) := ⟨⟨by decide +kernel, by decide +kernel⟩, List.mem_of_getElem? (i := 1118) (by decide +kernel), List.mem_of_getElem? (i := 1288) (by decide +kernel), List.mem_of_getElem? (i := 1289) (by decide +kernel)⟩
def lw_privs_2 : List (MethodName × Nat) := [(⟨"BridgeClub", "hasResult", "(I)Z"⟩, 8), (⟨"BridgeClub", "pointsOfPair", "(I)I"⟩, 8), (⟨"BridgeClub", "mostOfPair", "(I)I"⟩, 8), (⟨"BridgeClub", "partOver", "(I)J"⟩, 8), (⟨"BridgeClub", "partUnder", "(I)J"⟩, 8), (⟨"BridgeClub", "busyTables", "()I"⟩, 8), (⟨"BridgeClub", "pairsWithResult", "()I"⟩, 8), (⟨"BridgeClubModel", "isBoard", "(I)Z"⟩, 31), (⟨"BridgeClubModel", "resultsOf", "(I)I"⟩, 31), (⟨"BridgeClubModel", "tableOf", "(I)I"⟩, 31), (⟨"BridgeClubModel", "isPlaying", "(I)Z"⟩, 31), (⟨"BridgeClubModel", "hasPlayed", "(II)Z"⟩, 31), (⟨"BridgeClubModel", "phaseOf", "(I)I"⟩, 31), (⟨"BridgeClubModel", "mayCall", "(II)Z"⟩, 31), (⟨"BridgeClubModel", "latestCall", "(I)I"⟩, 31), (⟨"BridgeClubModel", "callAt", "(II)I"⟩, 31)]
theorem lw_r2 : ∀ q ∈ lw_privs_2, lw_okq q := List.forall_mem_cons.mpr ⟨lw_p16, List.forall_mem_cons.mpr ⟨lw_p17, List.forall_mem_cons.mpr ⟨lw_p18, List.forall_mem_cons.mpr ⟨lw_p19, List.forall_mem_cons.mpr ⟨lw_p20, List.forall_mem_cons.mpr ⟨lw_p21, List.forall_mem_cons.mpr ⟨lw_p22, List.forall_mem_cons.mpr ⟨lw_p23, List.forall_mem_cons.mpr ⟨lw_p24, List.forall_mem_cons.mpr ⟨lw_p25, List.forall_mem_cons.mpr ⟨lw_p26, List.forall_mem_cons.mpr ⟨lw_p27, List.forall_mem_cons.mpr ⟨lw_p28, List.forall_mem_cons.mpr ⟨lw_p29, List.forall_mem_cons.mpr ⟨lw_p30, List.forall_mem_cons.mpr ⟨lw_p31, fun _ h => absurd h List.not_mem_nil⟩⟩⟩⟩⟩⟩⟩⟩⟩⟩⟩⟩⟩⟩⟩⟩
theorem lw_p32 : lw_okq (⟨"BridgeClubModel", "callerOf", "(II)I"⟩, 31) := ⟨⟨by decide +kernel, by decide +kernel⟩, List.mem_of_getElem? (i := 1118) (by decide +kernel), List.mem_of_getElem? (i := 1292) (by decide +kernel), List.mem_of_getElem? (i := 1293) (by decide +kernel)⟩
theorem lw_p33 : lw_okq (⟨"BridgeClubModel", "latestBid", "(I)I"⟩, 31) := ⟨⟨by decide +kernel, by decide +kernel⟩, List.mem_of_getElem? (i := 1118) (by decide +kernel), List.mem_of_getElem? (i := 1296) (by decide +kernel), List.mem_of_getElem? (i := 1297) (by decide +kernel)⟩
theorem lw_p34 : lw_okq (⟨"BridgeClubModel", "ends", "(II)V"⟩, 31) := ⟨⟨by decide +kernel, by decide +kernel⟩, List.mem_of_getElem? (i := 1118) (by decide +kernel), List.mem_of_getElem? (i := 1300) (by decide +kernel), List.mem_of_getElem? (i := 1301) (by decide +kernel)⟩
theorem lw_p35 : lw_okq (⟨"BridgeClubModel", "level", "(I)I"⟩, 31) := ⟨⟨by decide +kernel, by decide +kernel⟩, List.mem_of_getElem? (i := 1118) (by decide +kernel), List.mem_of_getElem? (i := 1304) (by decide +kernel), List.mem_of_getElem? (i := 1305) (by decide +kernel)⟩
theorem lw_p36 : lw_okq (⟨"BridgeClubModel", "strain", "(I)I"⟩, 31) := ⟨⟨by decide +kernel, by decide +kernel⟩, List.mem_of_getElem? (i := 1118) (by decide +kernel), List.mem_of_getElem? (i := 1308) (by decide +kernel), List.mem_of_getElem? (i := 1309) (by decide +kernel)⟩
theorem lw_p37 : lw_okq (⟨"BridgeClubModel", "declarer", "(I)I"⟩, 31) := ⟨⟨by decide +kernel, by decide +kernel⟩, List.mem_of_getElem? (i := 1118) (by decide +kernel), List.mem_of_getElem? (i := 1312) (by decide +kernel), List.mem_of_getElem? (i := 1313) (by decide +kernel)⟩
theorem lw_p38 : lw_okq (⟨"BridgeClubModel", "doubled", "(I)I"⟩, 31) := ⟨⟨by decide +kernel, by decide +kernel⟩, List.mem_of_getElem? (i := 1118) (by decide +kernel), List.mem_of_getElem? (i := 1316) (by decide +kernel), List.mem_of_getElem? (i := 1317) (by decide +kernel)⟩
theorem lw_p39 : lw_okq (⟨"BridgeClubModel", "mayPlay", "(II)Z"⟩, 31) := ⟨⟨by decide +kernel, by decide +kernel⟩, List.mem_of_getElem? (i := 1118) (by decide +kernel), List.mem_of_getElem? (i := 1335) (by decide +kernel), List.mem_of_getElem? (i := 1336) (by decide +kernel)⟩
theorem lw_p40 : lw_okq (⟨"BridgeClubModel", "turn", "(I)I"⟩, 31) := ⟨⟨by decide +kernel, by decide +kernel⟩, List.mem_of_getElem? (i := 1118) (by decide +kernel), List.mem_of_getElem? (i := 1339) (by decide +kernel), List.mem_of_getElem? (i := 1340) (by decide +kernel)⟩
theorem lw_p41 : lw_okq (⟨"BridgeClubModel", "goThrough", "(I)V"⟩, 31) := ⟨⟨by decide +kernel, by decide +kernel⟩, List.mem_of_getElem? (i := 1118) (by decide +kernel), List.mem_of_getElem? (i := 1343) (by decide +kernel), List.mem_of_getElem? (i := 1344) (by decide +kernel)⟩
theorem lw_p42 : lw_okq (⟨"BridgeClubModel", "holds", "(III)Z"⟩, 31) := ⟨⟨by decide +kernel, by decide +kernel⟩, List.mem_of_getElem? (i := 1118) (by decide +kernel), List.mem_of_getElem? (i := 1353) (by decide +kernel), List.mem_of_getElem? (i := 1354) (by decide +kernel)⟩
theorem lw_p43 : lw_okq (⟨"BridgeClubModel", "wasPlayed", "(II)Z"⟩, 31) := ⟨⟨by decide +kernel, by decide +kernel⟩, List.mem_of_getElem? (i := 1118) (by decide +kernel), List.mem_of_getElem? (i := 1358) (by decide +kernel), List.mem_of_getElem? (i := 1359) (by decide +kernel)⟩
theorem lw_p44 : lw_okq (⟨"BridgeClubModel", "layOut", "(I)I"⟩, 31) := ⟨⟨by decide +kernel, by decide +kernel⟩, List.mem_of_getElem? (i := 1118) (by decide +kernel), List.mem_of_getElem? (i := 1370) (by decide +kernel), List.mem_of_getElem? (i := 1371) (by decide +kernel)⟩
theorem lw_p45 : lw_okq (⟨"BridgeClubModel", "search", "(III)I"⟩, 31) := ⟨⟨by decide +kernel, by decide +kernel⟩, List.mem_of_getElem? (i := 1118) (by decide +kernel), List.mem_of_getElem? (i := 1374) (by decide +kernel), List.mem_of_getElem? (i := 1375) (by decide +kernel)⟩
theorem lw_p46 : lw_okq (⟨"BridgeClubModel", "taken", "(II)I"⟩, 31) := ⟨⟨by decide +kernel, by decide +kernel⟩, List.mem_of_getElem? (i := 1118) (by decide +kernel), List.mem_of_getElem? (i := 1378) (by decide +kernel), List.mem_of_getElem? (i := 1379) (by decide +kernel)⟩
theorem lw_p47 : lw_okq (⟨"BridgeClubModel", "isResult", "(I)Z"⟩, 31) := ⟨⟨by decide +kernel, by decide +kernel⟩, List.mem_of_getElem? (i := 1118) (by decide +kernel), List.mem_of_getElem? (i := 1430) (by decide +kernel), List.mem_of_getElem? (i := 1431) (by decide +kernel)⟩
def lw_privs_3 : List (MethodName × Nat) := [(⟨"BridgeClubModel", "callerOf", "(II)I"⟩, 31), (⟨"BridgeClubModel", "latestBid", "(I)I"⟩, 31), (⟨"BridgeClubModel", "ends", "(II)V"⟩, 31), (⟨"BridgeClubModel", "level", "(I)I"⟩, 31), (⟨"BridgeClubModel", "strain", "(I)I"⟩, 31), (⟨"BridgeClubModel", "declarer", "(I)I"⟩, 31), (⟨"BridgeClubModel", "doubled", "(I)I"⟩, 31), (⟨"BridgeClubModel", "mayPlay", "(II)Z"⟩, 31), (⟨"BridgeClubModel", "turn", "(I)I"⟩, 31), (⟨"BridgeClubModel", "goThrough", "(I)V"⟩, 31), (⟨"BridgeClubModel", "holds", "(III)Z"⟩, 31), (⟨"BridgeClubModel", "wasPlayed", "(II)Z"⟩, 31), (⟨"BridgeClubModel", "layOut", "(I)I"⟩, 31), (⟨"BridgeClubModel", "search", "(III)I"⟩, 31), (⟨"BridgeClubModel", "taken", "(II)I"⟩, 31), (⟨"BridgeClubModel", "isResult", "(I)Z"⟩, 31)]
theorem lw_r3 : ∀ q ∈ lw_privs_3, lw_okq q := List.forall_mem_cons.mpr ⟨lw_p32, List.forall_mem_cons.mpr ⟨lw_p33, List.forall_mem_cons.mpr ⟨lw_p34, List.forall_mem_cons.mpr ⟨lw_p35, List.forall_mem_cons.mpr ⟨lw_p36, List.forall_mem_cons.mpr ⟨lw_p37, List.forall_mem_cons.mpr ⟨lw_p38, List.forall_mem_cons.mpr ⟨lw_p39, List.forall_mem_cons.mpr ⟨lw_p40, List.forall_mem_cons.mpr ⟨lw_p41, List.forall_mem_cons.mpr ⟨lw_p42, List.forall_mem_cons.mpr ⟨lw_p43, List.forall_mem_cons.mpr ⟨lw_p44, List.forall_mem_cons.mpr ⟨lw_p45, List.forall_mem_cons.mpr ⟨lw_p46, List.forall_mem_cons.mpr ⟨lw_p47, fun _ h => absurd h List.not_mem_nil⟩⟩⟩⟩⟩⟩⟩⟩⟩⟩⟩⟩⟩⟩⟩⟩
theorem lw_p48 : lw_okq (⟨"BridgeClubModel", "hasResult", "(I)Z"⟩, 31) := ⟨⟨by decide +kernel, by decide +kernel⟩, List.mem_of_getElem? (i := 1118) (by decide +kernel), List.mem_of_getElem? (i := 1446) (by decide +kernel), List.mem_of_getElem? (i := 1447) (by decide +kernel)⟩
theorem lw_p49 : lw_okq (⟨"BridgeClubModel", "puts", "(I)V"⟩, 31) := ⟨⟨by decide +kernel, by decide +kernel⟩, List.mem_of_getElem? (i := 1118) (by decide +kernel), List.mem_of_getElem? (i := 1473) (by decide +kernel), List.mem_of_getElem? (i := 1474) (by decide +kernel)⟩
def lw_privs_4 : List (MethodName × Nat) := [(⟨"BridgeClubModel", "hasResult", "(I)Z"⟩, 31), (⟨"BridgeClubModel", "puts", "(I)V"⟩, 31)]
theorem lw_r4 : ∀ q ∈ lw_privs_4, lw_okq q := List.forall_mem_cons.mpr ⟨lw_p48, List.forall_mem_cons.mpr ⟨lw_p49, fun _ h => absurd h List.not_mem_nil⟩⟩
def lw_privs : List (MethodName × Nat) := lw_privs_1 ++ (lw_privs_2 ++ (lw_privs_3 ++ (lw_privs_4)))
def lw_tbl : List Cond := k2_sels lw_privs ++ tables_1
theorem lw_privs_ok : ∀ q ∈ lw_privs, lw_okq q := by
  show ∀ q ∈ lw_privs_1 ++ (lw_privs_2 ++ (lw_privs_3 ++ (lw_privs_4))), lw_okq q
  exact List.forall_mem_append.mpr ⟨lw_r1, List.forall_mem_append.mpr ⟨lw_r2, List.forall_mem_append.mpr ⟨lw_r3, lw_r4⟩⟩⟩
end
section
def RX0 : String := "BridgeClub$Auction"
def TX0 : u_T := fun k => match k with
  | 0 => ("BridgeClub$Auction", "calls", "[I", true)
  | 1 => ("BridgeClub$Auction", "size", "I", false)
  | _ => ("BridgeClub$Auction", "dealer", "I", false)
def tyX0 : Nat → FieldType := fun k => match k with
  | 0 => .array .int
  | 1 => .int
  | _ => .int
abbrev wsX00 : List Cond := u_ws RX0 TX0 3
theorem nmX0 : ∀ a, a < 3 → ∀ b, b < 3 → a ≠ b → (TX0 a).2.1 ≠ (TX0 b).2.1 := by decide +kernel
theorem tyX0_ok : ∀ k, k < 3 → parseFieldDescriptor (TX0 k).2.2.1 = some (tyX0 k) := by decide +kernel
abbrev cX0_init : ByteArray := prog_2_method_1_code
def yX0_init : MethodName := ⟨RX0, "<init>", "()V"⟩
abbrev cX0_open : ByteArray := prog_2_method_2_code
def yX0_open : MethodName := ⟨RX0, "open", "(I)V"⟩
abbrev cX0_length : ByteArray := prog_2_method_3_code
def yX0_length : MethodName := ⟨RX0, "length", "()I"⟩
abbrev cX0_callAt : ByteArray := prog_2_method_4_code
def yX0_callAt : MethodName := ⟨RX0, "callAt", "(I)I"⟩
abbrev cX0_turn : ByteArray := prog_2_method_5_code
def yX0_turn : MethodName := ⟨RX0, "turn", "()I"⟩
abbrev cX0_admits : ByteArray := prog_2_method_6_code
def yX0_admits : MethodName := ⟨RX0, "admits", "(I)Z"⟩
abbrev cX0_add : ByteArray := prog_2_method_7_code
def yX0_add : MethodName := ⟨RX0, "add", "(I)V"⟩
abbrev cX0_dropLatest : ByteArray := prog_2_method_8_code
def yX0_dropLatest : MethodName := ⟨RX0, "dropLatest", "()Z"⟩
abbrev cX0_isOver : ByteArray := prog_2_method_9_code
def yX0_isOver : MethodName := ⟨RX0, "isOver", "()Z"⟩
abbrev cX0_latestFrom : ByteArray := prog_2_method_10_code
def yX0_latestFrom : MethodName := ⟨RX0, "latestFrom", "(I)I"⟩
abbrev cX0_latestBid : ByteArray := prog_2_method_11_code
def yX0_latestBid : MethodName := ⟨RX0, "latestBid", "()I"⟩
abbrev cX0_level : ByteArray := prog_2_method_12_code
def yX0_level : MethodName := ⟨RX0, "level", "()I"⟩
abbrev cX0_strain : ByteArray := prog_2_method_13_code
def yX0_strain : MethodName := ⟨RX0, "strain", "()I"⟩
abbrev cX0_doubling : ByteArray := prog_2_method_14_code
def yX0_doubling : MethodName := ⟨RX0, "doubling", "()I"⟩
abbrev cX0_declarer : ByteArray := prog_2_method_15_code
def yX0_declarer : MethodName := ⟨RX0, "declarer", "()I"⟩
def RX1 : String := "BridgeClub$Board"
def TX1 : u_T := fun k => match k with
  | 0 => ("BridgeClub$Board", "number", "I", true)
  | 1 => ("BridgeClub$Board", "hands", "[J", true)
  | 2 => ("BridgeClub$Board", "begun", "Z", false)
  | _ => ("BridgeClub$Board", "resultsOfIt", "I", false)
def tyX1 : Nat → FieldType := fun k => match k with
  | 0 => .int
  | 1 => .array .long
  | 2 => .boolean
  | _ => .int
abbrev wsX10 : List Cond := u_ws RX1 TX1 4
theorem nmX1 : ∀ a, a < 4 → ∀ b, b < 4 → a ≠ b → (TX1 a).2.1 ≠ (TX1 b).2.1 := by decide +kernel
theorem tyX1_ok : ∀ k, k < 4 → parseFieldDescriptor (TX1 k).2.2.1 = some (tyX1 k) := by decide +kernel
abbrev cX1_init : ByteArray := prog_3_method_1_code
def yX1_init : MethodName := ⟨RX1, "<init>", "(I)V"⟩
abbrev cX1_give : ByteArray := prog_3_method_2_code
def yX1_give : MethodName := ⟨RX1, "give", "(II)V"⟩
abbrev cX1_cardsOf : ByteArray := prog_3_method_3_code
def yX1_cardsOf : MethodName := ⟨RX1, "cardsOf", "(I)J"⟩
abbrev cX1_holder : ByteArray := prog_3_method_4_code
def yX1_holder : MethodName := ⟨RX1, "holder", "(I)I"⟩
abbrev cX1_number : ByteArray := prog_3_method_5_code
def yX1_number : MethodName := ⟨RX1, "number", "()I"⟩
abbrev cX1_dealer : ByteArray := prog_3_method_6_code
def yX1_dealer : MethodName := ⟨RX1, "dealer", "()I"⟩
abbrev cX1_vulnerability : ByteArray := prog_3_method_7_code
def yX1_vulnerability : MethodName := ⟨RX1, "vulnerability", "()I"⟩
abbrev cX1_isVulnerable : ByteArray := prog_3_method_8_code
def yX1_isVulnerable : MethodName := ⟨RX1, "isVulnerable", "(I)Z"⟩
abbrev cX1_markBegun : ByteArray := prog_3_method_9_code
def yX1_markBegun : MethodName := ⟨RX1, "markBegun", "()V"⟩
abbrev cX1_wasBegun : ByteArray := prog_3_method_10_code
def yX1_wasBegun : MethodName := ⟨RX1, "wasBegun", "()Z"⟩
abbrev cX1_addResult : ByteArray := prog_3_method_11_code
def yX1_addResult : MethodName := ⟨RX1, "addResult", "()V"⟩
abbrev cX1_resultsSoFar : ByteArray := prog_3_method_12_code
def yX1_resultsSoFar : MethodName := ⟨RX1, "resultsSoFar", "()I"⟩
def RX2 : String := "BridgeClub$Cards"
def TX2 : u_T := fun k => match k with
  | _ => ("", "", "", false)
def tyX2 : Nat → FieldType := fun k => match k with
  | _ => .int
abbrev wsX20 : List Cond := u_ws RX2 TX2 0
theorem nmX2 : ∀ a, a < 0 → ∀ b, b < 0 → a ≠ b → (TX2 a).2.1 ≠ (TX2 b).2.1 := by decide +kernel
theorem tyX2_ok : ∀ k, k < 0 → parseFieldDescriptor (TX2 k).2.2.1 = some (tyX2 k) := by decide +kernel
abbrev cX2_exists : ByteArray := prog_4_method_2_code
def yX2_exists : MethodName := ⟨RX2, "exists", "(I)Z"⟩
abbrev cX2_suitOf : ByteArray := prog_4_method_3_code
def yX2_suitOf : MethodName := ⟨RX2, "suitOf", "(I)I"⟩
abbrev cX2_bitOf : ByteArray := prog_4_method_4_code
def yX2_bitOf : MethodName := ⟨RX2, "bitOf", "(I)J"⟩
abbrev cX2_has : ByteArray := prog_4_method_5_code
def yX2_has : MethodName := ⟨RX2, "has", "(JI)Z"⟩
abbrev cX2_onlySuit : ByteArray := prog_4_method_6_code
def yX2_onlySuit : MethodName := ⟨RX2, "onlySuit", "(JI)J"⟩
abbrev cX2_choices : ByteArray := prog_4_method_7_code
def yX2_choices : MethodName := ⟨RX2, "choices", "(JI)J"⟩
abbrev cX2_beats : ByteArray := prog_4_method_8_code
def yX2_beats : MethodName := ⟨RX2, "beats", "(III)Z"⟩
def RX3 : String := "BridgeClub$Ending"
def TX3 : u_T := fun k => match k with
  | 0 => ("BridgeClub$Ending", "hands", "[J", true)
  | 1 => ("BridgeClub$Ending", "trump", "I", false)
  | 2 => ("BridgeClub$Ending", "side", "I", false)
  | 3 => ("BridgeClub$Ending", "left", "I", false)
  | 4 => ("BridgeClub$Ending", "turn", "I", false)
  | 5 => ("BridgeClub$Ending", "led", "I", false)
  | 6 => ("BridgeClub$Ending", "high", "I", false)
  | _ => ("BridgeClub$Ending", "winner", "I", false)
def tyX3 : Nat → FieldType := fun k => match k with
  | 0 => .array .long
  | 1 => .int
  | 2 => .int
  | 3 => .int
  | 4 => .int
  | 5 => .int
  | 6 => .int
  | _ => .int
abbrev wsX30 : List Cond := u_ws RX3 TX3 8
theorem nmX3 : ∀ a, a < 8 → ∀ b, b < 8 → a ≠ b → (TX3 a).2.1 ≠ (TX3 b).2.1 := by decide +kernel
theorem tyX3_ok : ∀ k, k < 8 → parseFieldDescriptor (TX3 k).2.2.1 = some (tyX3 k) := by decide +kernel
abbrev cX3_init : ByteArray := prog_5_method_1_code
def yX3_init : MethodName := ⟨RX3, "<init>", "()V"⟩
abbrev cX3_load : ByteArray := prog_5_method_2_code
def yX3_load : MethodName := ⟨RX3, "load", "(LBridgeClub$Table;)V"⟩
abbrev cX3_most : ByteArray := prog_5_method_3_code
def yX3_most : MethodName := ⟨RX3, "most", "(LBridgeClub$Table;)I"⟩
abbrev cX3_leastBestCard : ByteArray := prog_5_method_4_code
def yX3_leastBestCard : MethodName := ⟨RX3, "leastBestCard", "(LBridgeClub$Table;)I"⟩
abbrev cX3_wins : ByteArray := prog_5_method_5_code
def yX3_wins : MethodName := ⟨RX3, "wins", "(IIIIII)Z"⟩
abbrev cX3_winsWith : ByteArray := prog_5_method_6_code
def yX3_winsWith : MethodName := ⟨RX3, "winsWith", "(IIIIIII)Z"⟩
abbrev cX3_winsLast : ByteArray := prog_5_method_7_code
def yX3_winsLast : MethodName := ⟨RX3, "winsLast", "(I)Z"⟩
abbrev cX3_othersThan : ByteArray := prog_5_method_8_code
def yX3_othersThan : MethodName := ⟨RX3, "othersThan", "(I)J"⟩
abbrev cX3_areEqual : ByteArray := prog_5_method_9_code
def yX3_areEqual : MethodName := ⟨RX3, "areEqual", "(IIJ)Z"⟩
def RX4 : String := "BridgeClub$Play"
def TX4 : u_T := fun k => match k with
  | 0 => ("BridgeClub$Play", "cards", "[I", true)
  | 1 => ("BridgeClub$Play", "leaders", "[I", true)
  | 2 => ("BridgeClub$Play", "size", "I", false)
  | 3 => ("BridgeClub$Play", "gone", "J", false)
  | 4 => ("BridgeClub$Play", "declarer", "I", false)
  | _ => ("BridgeClub$Play", "trump", "I", false)
def tyX4 : Nat → FieldType := fun k => match k with
  | 0 => .array .int
  | 1 => .array .int
  | 2 => .int
  | 3 => .long
  | 4 => .int
  | _ => .int
abbrev wsX40 : List Cond := u_ws RX4 TX4 6
theorem nmX4 : ∀ a, a < 6 → ∀ b, b < 6 → a ≠ b → (TX4 a).2.1 ≠ (TX4 b).2.1 := by decide +kernel
theorem tyX4_ok : ∀ k, k < 6 → parseFieldDescriptor (TX4 k).2.2.1 = some (tyX4 k) := by decide +kernel
abbrev cX4_init : ByteArray := prog_6_method_1_code
def yX4_init : MethodName := ⟨RX4, "<init>", "()V"⟩
abbrev cX4_open : ByteArray := prog_6_method_2_code
def yX4_open : MethodName := ⟨RX4, "open", "(II)V"⟩
abbrev cX4_length : ByteArray := prog_6_method_3_code
def yX4_length : MethodName := ⟨RX4, "length", "()I"⟩
abbrev cX4_cardAt : ByteArray := prog_6_method_4_code
def yX4_cardAt : MethodName := ⟨RX4, "cardAt", "(I)I"⟩
abbrev cX4_declarer : ByteArray := prog_6_method_5_code
def yX4_declarer : MethodName := ⟨RX4, "declarer", "()I"⟩
abbrev cX4_dummy : ByteArray := prog_6_method_6_code
def yX4_dummy : MethodName := ⟨RX4, "dummy", "()I"⟩
abbrev cX4_trump : ByteArray := prog_6_method_7_code
def yX4_trump : MethodName := ⟨RX4, "trump", "()I"⟩
abbrev cX4_gone : ByteArray := prog_6_method_8_code
def yX4_gone : MethodName := ⟨RX4, "gone", "()J"⟩
abbrev cX4_inTrick : ByteArray := prog_6_method_9_code
def yX4_inTrick : MethodName := ⟨RX4, "inTrick", "()I"⟩
abbrev cX4_tricksDone : ByteArray := prog_6_method_10_code
def yX4_tricksDone : MethodName := ⟨RX4, "tricksDone", "()I"⟩
abbrev cX4_leaderOf : ByteArray := prog_6_method_11_code
def yX4_leaderOf : MethodName := ⟨RX4, "leaderOf", "(I)I"⟩
abbrev cX4_turn : ByteArray := prog_6_method_12_code
def yX4_turn : MethodName := ⟨RX4, "turn", "()I"⟩
abbrev cX4_led : ByteArray := prog_6_method_13_code
def yX4_led : MethodName := ⟨RX4, "led", "()I"⟩
abbrev cX4_add : ByteArray := prog_6_method_14_code
def yX4_add : MethodName := ⟨RX4, "add", "(I)V"⟩
abbrev cX4_dropLatest : ByteArray := prog_6_method_15_code
def yX4_dropLatest : MethodName := ⟨RX4, "dropLatest", "()Z"⟩
abbrev cX4_winningCard : ByteArray := prog_6_method_16_code
def yX4_winningCard : MethodName := ⟨RX4, "winningCard", "(II)I"⟩
abbrev cX4_winnerFrom : ByteArray := prog_6_method_17_code
def yX4_winnerFrom : MethodName := ⟨RX4, "winnerFrom", "(III)I"⟩
abbrev cX4_tricksOf : ByteArray := prog_6_method_18_code
def yX4_tricksOf : MethodName := ⟨RX4, "tricksOf", "(I)I"⟩
abbrev cX4_hasShownOut : ByteArray := prog_6_method_19_code
def yX4_hasShownOut : MethodName := ⟨RX4, "hasShownOut", "(II)Z"⟩
def RX5 : String := "BridgeClub$Result"
def TX5 : u_T := fun k => match k with
  | 0 => ("BridgeClub$Result", "board", "I", true)
  | 1 => ("BridgeClub$Result", "north", "I", true)
  | 2 => ("BridgeClub$Result", "east", "I", true)
  | 3 => ("BridgeClub$Result", "level", "I", false)
  | 4 => ("BridgeClub$Result", "strain", "I", false)
  | 5 => ("BridgeClub$Result", "declarer", "I", false)
  | 6 => ("BridgeClub$Result", "doubled", "I", false)
  | 7 => ("BridgeClub$Result", "tricks", "I", false)
  | 8 => ("BridgeClub$Result", "score", "I", false)
  | 9 => ("BridgeClub$Result", "adjusted", "Z", false)
  | 10 => ("BridgeClub$Result", "partNorth", "I", false)
  | _ => ("BridgeClub$Result", "partEast", "I", false)
def tyX5 : Nat → FieldType := fun k => match k with
  | 0 => .int
  | 1 => .int
  | 2 => .int
  | 3 => .int
  | 4 => .int
  | 5 => .int
  | 6 => .int
  | 7 => .int
  | 8 => .int
  | 9 => .boolean
  | 10 => .int
  | _ => .int
abbrev wsX50 : List Cond := u_ws RX5 TX5 12
theorem nmX5 : ∀ a, a < 12 → ∀ b, b < 12 → a ≠ b → (TX5 a).2.1 ≠ (TX5 b).2.1 := by decide +kernel
theorem tyX5_ok : ∀ k, k < 12 → parseFieldDescriptor (TX5 k).2.2.1 = some (tyX5 k) := by decide +kernel
abbrev cX5_init : ByteArray := prog_7_method_1_code
def yX5_init : MethodName := ⟨RX5, "<init>", "(III)V"⟩
abbrev cX5_setContract : ByteArray := prog_7_method_2_code
def yX5_setContract : MethodName := ⟨RX5, "setContract", "(III)V"⟩
abbrev cX5_setOutcome : ByteArray := prog_7_method_3_code
def yX5_setOutcome : MethodName := ⟨RX5, "setOutcome", "(IIZ)V"⟩
abbrev cX5_setParts : ByteArray := prog_7_method_4_code
def yX5_setParts : MethodName := ⟨RX5, "setParts", "(II)V"⟩
abbrev cX5_boardNumber : ByteArray := prog_7_method_5_code
def yX5_boardNumber : MethodName := ⟨RX5, "boardNumber", "()I"⟩
abbrev cX5_sideOf : ByteArray := prog_7_method_6_code
def yX5_sideOf : MethodName := ⟨RX5, "sideOf", "(I)I"⟩
abbrev cX5_scoreOfNorth : ByteArray := prog_7_method_7_code
def yX5_scoreOfNorth : MethodName := ⟨RX5, "scoreOfNorth", "()I"⟩
abbrev cX5_isAdjusted : ByteArray := prog_7_method_8_code
def yX5_isAdjusted : MethodName := ⟨RX5, "isAdjusted", "()Z"⟩
abbrev cX5_partOf : ByteArray := prog_7_method_9_code
def yX5_partOf : MethodName := ⟨RX5, "partOf", "(I)I"⟩
abbrev cX5_tell : ByteArray := prog_7_method_10_code
def yX5_tell : MethodName := ⟨RX5, "tell", "(I)I"⟩
abbrev cX5_appendTo : ByteArray := prog_7_method_11_code
def yX5_appendTo : MethodName := ⟨RX5, "appendTo", "(Ljava/lang/StringBuilder;)V"⟩
abbrev cX5_signOf : ByteArray := prog_7_method_12_code
def yX5_signOf : MethodName := ⟨RX5, "signOf", "(Ljava/lang/String;I)C"⟩
def RX6 : String := "BridgeClub$Scoring"
def TX6 : u_T := fun k => match k with
  | _ => ("", "", "", false)
def tyX6 : Nat → FieldType := fun k => match k with
  | _ => .int
abbrev wsX60 : List Cond := u_ws RX6 TX6 0
theorem nmX6 : ∀ a, a < 0 → ∀ b, b < 0 → a ≠ b → (TX6 a).2.1 ≠ (TX6 b).2.1 := by decide +kernel
theorem tyX6_ok : ∀ k, k < 0 → parseFieldDescriptor (TX6 k).2.2.1 = some (tyX6 k) := by decide +kernel
abbrev cX6_ofContract : ByteArray := prog_8_method_2_code
def yX6_ofContract : MethodName := ⟨RX6, "ofContract", "(IIIZI)I"⟩
abbrev cX6_perTrick : ByteArray := prog_8_method_3_code
def yX6_perTrick : MethodName := ⟨RX6, "perTrick", "(I)I"⟩
abbrev cX6_trickScore : ByteArray := prog_8_method_4_code
def yX6_trickScore : MethodName := ⟨RX6, "trickScore", "(III)I"⟩
abbrev cX6_slam : ByteArray := prog_8_method_5_code
def yX6_slam : MethodName := ⟨RX6, "slam", "(IZ)I"⟩
abbrev cX6_overtrick : ByteArray := prog_8_method_6_code
def yX6_overtrick : MethodName := ⟨RX6, "overtrick", "(IIZ)I"⟩
abbrev cX6_lost : ByteArray := prog_8_method_7_code
def yX6_lost : MethodName := ⟨RX6, "lost", "(IIZ)I"⟩
abbrev cX6_lostDoubled : ByteArray := prog_8_method_8_code
def yX6_lostDoubled : MethodName := ⟨RX6, "lostDoubled", "(I)I"⟩
abbrev cX6_stepsOf : ByteArray := prog_8_method_9_code
def yX6_stepsOf : MethodName := ⟨RX6, "stepsOf", "(J)I"⟩
def RX7 : String := "BridgeClub$Table"
def TX7 : u_T := fun k => match k with
  | 0 => ("BridgeClub$Table", "on", "LBridgeClub$Board;", false)
  | 1 => ("BridgeClub$Table", "north", "I", false)
  | 2 => ("BridgeClub$Table", "east", "I", false)
  | 3 => ("BridgeClub$Table", "auction", "LBridgeClub$Auction;", true)
  | _ => ("BridgeClub$Table", "tricks", "LBridgeClub$Play;", true)
def tyX7 : Nat → FieldType := fun k => match k with
  | 0 => .object "BridgeClub$Board"
  | 1 => .int
  | 2 => .int
  | 3 => .object "BridgeClub$Auction"
  | _ => .object "BridgeClub$Play"
abbrev wsX70 : List Cond := u_ws RX7 TX7 5
theorem nmX7 : ∀ a, a < 5 → ∀ b, b < 5 → a ≠ b → (TX7 a).2.1 ≠ (TX7 b).2.1 := by decide +kernel
theorem tyX7_ok : ∀ k, k < 5 → parseFieldDescriptor (TX7 k).2.2.1 = some (tyX7 k) := by decide +kernel
abbrev cX7_init : ByteArray := prog_9_method_1_code
def yX7_init : MethodName := ⟨RX7, "<init>", "()V"⟩
abbrev cX7_start : ByteArray := prog_9_method_2_code
def yX7_start : MethodName := ⟨RX7, "start", "(LBridgeClub$Board;II)V"⟩
abbrev cX7_stop : ByteArray := prog_9_method_3_code
def yX7_stop : MethodName := ⟨RX7, "stop", "()V"⟩
abbrev cX7_isBusy : ByteArray := prog_9_method_4_code
def yX7_isBusy : MethodName := ⟨RX7, "isBusy", "()Z"⟩
abbrev cX7_boardNumber : ByteArray := prog_9_method_5_code
def yX7_boardNumber : MethodName := ⟨RX7, "boardNumber", "()I"⟩
abbrev cX7_sideOf : ByteArray := prog_9_method_6_code
def yX7_sideOf : MethodName := ⟨RX7, "sideOf", "(I)I"⟩
abbrev cX7_auctionIsOver : ByteArray := prog_9_method_7_code
def yX7_auctionIsOver : MethodName := ⟨RX7, "auctionIsOver", "()Z"⟩
abbrev cX7_hasContract : ByteArray := prog_9_method_8_code
def yX7_hasContract : MethodName := ⟨RX7, "hasContract", "()Z"⟩
abbrev cX7_isInPlay : ByteArray := prog_9_method_9_code
def yX7_isInPlay : MethodName := ⟨RX7, "isInPlay", "()Z"⟩
abbrev cX7_admitsCall : ByteArray := prog_9_method_10_code
def yX7_admitsCall : MethodName := ⟨RX7, "admitsCall", "(I)Z"⟩
abbrev cX7_addCall : ByteArray := prog_9_method_11_code
def yX7_addCall : MethodName := ⟨RX7, "addCall", "(I)V"⟩
abbrev cX7_choices : ByteArray := prog_9_method_12_code
def yX7_choices : MethodName := ⟨RX7, "choices", "()J"⟩
abbrev cX7_admitsCard : ByteArray := prog_9_method_13_code
def yX7_admitsCard : MethodName := ⟨RX7, "admitsCard", "(I)Z"⟩
abbrev cX7_addCard : ByteArray := prog_9_method_14_code
def yX7_addCard : MethodName := ⟨RX7, "addCard", "(I)V"⟩
abbrev cX7_dropLatest : ByteArray := prog_9_method_15_code
def yX7_dropLatest : MethodName := ⟨RX7, "dropLatest", "()Z"⟩
abbrev cX7_callAt : ByteArray := prog_9_method_16_code
def yX7_callAt : MethodName := ⟨RX7, "callAt", "(I)I"⟩
abbrev cX7_cardAt : ByteArray := prog_9_method_17_code
def yX7_cardAt : MethodName := ⟨RX7, "cardAt", "(I)I"⟩
abbrev cX7_cardsInTrick : ByteArray := prog_9_method_18_code
def yX7_cardsInTrick : MethodName := ⟨RX7, "cardsInTrick", "()I"⟩
abbrev cX7_tricksLeft : ByteArray := prog_9_method_19_code
def yX7_tricksLeft : MethodName := ⟨RX7, "tricksLeft", "()I"⟩
abbrev cX7_heldBy : ByteArray := prog_9_method_20_code
def yX7_heldBy : MethodName := ⟨RX7, "heldBy", "(I)J"⟩
abbrev cX7_tricks : ByteArray := prog_9_method_21_code
def yX7_tricks : MethodName := ⟨RX7, "tricks", "()LBridgeClub$Play;"⟩
abbrev cX7_isSeenBy : ByteArray := prog_9_method_22_code
def yX7_isSeenBy : MethodName := ⟨RX7, "isSeenBy", "(II)Z"⟩
abbrev cX7_hasShownOut : ByteArray := prog_9_method_23_code
def yX7_hasShownOut : MethodName := ⟨RX7, "hasShownOut", "(II)Z"⟩
abbrev cX7_tell : ByteArray := prog_9_method_24_code
def yX7_tell : MethodName := ⟨RX7, "tell", "(I)I"⟩
abbrev cX7_toResult : ByteArray := prog_9_method_25_code
def yX7_toResult : MethodName := ⟨RX7, "toResult", "(I)LBridgeClub$Result;"⟩
def RX8 : String := "BridgeClub"
def TX8 : u_T := fun k => match k with
  | 0 => ("BridgeClub", "boards", "[LBridgeClub$Board;", true)
  | 1 => ("BridgeClub", "boardCount", "I", false)
  | 2 => ("BridgeClub", "tables", "[LBridgeClub$Table;", true)
  | 3 => ("BridgeClub", "results", "[LBridgeClub$Result;", true)
  | 4 => ("BridgeClub", "resultCount", "I", false)
  | 5 => ("BridgeClub", "pack", "[I", true)
  | 6 => ("BridgeClub", "ending", "LBridgeClub$Ending;", true)
  | _ => ("BridgeClub", "text", "Ljava/lang/StringBuilder;", true)
def tyX8 : Nat → FieldType := fun k => match k with
  | 0 => .array (.object "BridgeClub$Board")
  | 1 => .int
  | 2 => .array (.object "BridgeClub$Table")
  | 3 => .array (.object "BridgeClub$Result")
  | 4 => .int
  | 5 => .array .int
  | 6 => .object "BridgeClub$Ending"
  | _ => .object "java/lang/StringBuilder"
abbrev wsX80 : List Cond := u_ws RX8 TX8 8
theorem nmX8 : ∀ a, a < 8 → ∀ b, b < 8 → a ≠ b → (TX8 a).2.1 ≠ (TX8 b).2.1 := by decide +kernel
theorem tyX8_ok : ∀ k, k < 8 → parseFieldDescriptor (TX8 k).2.2.1 = some (tyX8 k) := by decide +kernel
abbrev cX8_init : ByteArray := prog_1_method_1_code
def yX8_init : MethodName := ⟨RX8, "<init>", "()V"⟩
abbrev cX8_deal : ByteArray := prog_1_method_2_code
def yX8_deal : MethodName := ⟨RX8, "deal", "(I)I"⟩
abbrev cX8_swap : ByteArray := prog_1_method_3_code
def yX8_swap : MethodName := ⟨RX8, "swap", "(III)Z"⟩
abbrev cX8_hand : ByteArray := prog_1_method_4_code
def yX8_hand : MethodName := ⟨RX8, "hand", "(II)I"⟩
abbrev cX8_board : ByteArray := prog_1_method_5_code
def yX8_board : MethodName := ⟨RX8, "board", "(II)I"⟩
abbrev cX8_begin : ByteArray := prog_1_method_6_code
def yX8_begin : MethodName := ⟨RX8, "begin", "(IIII)Z"⟩
abbrev cX8_call : ByteArray := prog_1_method_7_code
def yX8_call : MethodName := ⟨RX8, "call", "(II)I"⟩
abbrev cX8_play : ByteArray := prog_1_method_8_code
def yX8_play : MethodName := ⟨RX8, "play", "(II)I"⟩
abbrev cX8_claim : ByteArray := prog_1_method_9_code
def yX8_claim : MethodName := ⟨RX8, "claim", "(II)Z"⟩
abbrev cX8_back : ByteArray := prog_1_method_10_code
def yX8_back : MethodName := ⟨RX8, "back", "(I)Z"⟩
abbrev cX8_leave : ByteArray := prog_1_method_11_code
def yX8_leave : MethodName := ⟨RX8, "leave", "(I)Z"⟩
abbrev cX8_table : ByteArray := prog_1_method_12_code
def yX8_table : MethodName := ⟨RX8, "table", "(II)I"⟩
abbrev cX8_called : ByteArray := prog_1_method_13_code
def yX8_called : MethodName := ⟨RX8, "called", "(II)I"⟩
abbrev cX8_played : ByteArray := prog_1_method_14_code
def yX8_played : MethodName := ⟨RX8, "played", "(II)I"⟩
abbrev cX8_allowed : ByteArray := prog_1_method_15_code
def yX8_allowed : MethodName := ⟨RX8, "allowed", "(II)Z"⟩
abbrev cX8_sees : ByteArray := prog_1_method_16_code
def yX8_sees : MethodName := ⟨RX8, "sees", "(III)Z"⟩
abbrev cX8_lacks : ByteArray := prog_1_method_17_code
def yX8_lacks : MethodName := ⟨RX8, "lacks", "(III)Z"⟩
abbrev cX8_best : ByteArray := prog_1_method_18_code
def yX8_best : MethodName := ⟨RX8, "best", "(I)I"⟩
abbrev cX8_bestCard : ByteArray := prog_1_method_19_code
def yX8_bestCard : MethodName := ⟨RX8, "bestCard", "(I)I"⟩
abbrev cX8_result : ByteArray := prog_1_method_20_code
def yX8_result : MethodName := ⟨RX8, "result", "(II)I"⟩
abbrev cX8_adjust : ByteArray := prog_1_method_21_code
def yX8_adjust : MethodName := ⟨RX8, "adjust", "(III)Z"⟩
abbrev cX8_score : ByteArray := prog_1_method_22_code
def yX8_score : MethodName := ⟨RX8, "score", "(IIIZI)I"⟩
abbrev cX8_steps : ByteArray := prog_1_method_23_code
def yX8_steps : MethodName := ⟨RX8, "steps", "(II)I"⟩
abbrev cX8_points : ByteArray := prog_1_method_24_code
def yX8_points : MethodName := ⟨RX8, "points", "(II)I"⟩
abbrev cX8_total : ByteArray := prog_1_method_25_code
def yX8_total : MethodName := ⟨RX8, "total", "(I)I"⟩
abbrev cX8_top : ByteArray := prog_1_method_26_code
def yX8_top : MethodName := ⟨RX8, "top", "(I)I"⟩
abbrev cX8_place : ByteArray := prog_1_method_27_code
def yX8_place : MethodName := ⟨RX8, "place", "(I)I"⟩
abbrev cX8_plan : ByteArray := prog_1_method_28_code
def yX8_plan : MethodName := ⟨RX8, "plan", "(IIII)I"⟩
abbrev cX8_write : ByteArray := prog_1_method_29_code
def yX8_write : MethodName := ⟨RX8, "write", "(I)I"⟩
abbrev cX8_out : ByteArray := prog_1_method_30_code
def yX8_out : MethodName := ⟨RX8, "out", "(I)I"⟩
abbrev cX8_count : ByteArray := prog_1_method_31_code
def yX8_count : MethodName := ⟨RX8, "count", "(I)I"⟩
abbrev cX8_shuffle : ByteArray := prog_1_method_32_code
def yX8_shuffle : MethodName := ⟨RX8, "shuffle", "(I)V"⟩
abbrev cX8_boardNumbered : ByteArray := prog_1_method_33_code
def yX8_boardNumbered : MethodName := ⟨RX8, "boardNumbered", "(I)LBridgeClub$Board;"⟩
abbrev cX8_resultAt : ByteArray := prog_1_method_34_code
def yX8_resultAt : MethodName := ⟨RX8, "resultAt", "(I)LBridgeClub$Result;"⟩
abbrev cX8_busyTable : ByteArray := prog_1_method_35_code
def yX8_busyTable : MethodName := ⟨RX8, "busyTable", "(I)LBridgeClub$Table;"⟩
abbrev cX8_endingTable : ByteArray := prog_1_method_36_code
def yX8_endingTable : MethodName := ⟨RX8, "endingTable", "(I)LBridgeClub$Table;"⟩
abbrev cX8_tableWithBoard : ByteArray := prog_1_method_37_code
def yX8_tableWithBoard : MethodName := ⟨RX8, "tableWithBoard", "(I)I"⟩
abbrev cX8_busyTables : ByteArray := prog_1_method_38_code
def yX8_busyTables : MethodName := ⟨RX8, "busyTables", "()I"⟩
abbrev cX8_isPair : ByteArray := prog_1_method_39_code
def yX8_isPair : MethodName := ⟨RX8, "isPair", "(I)Z"⟩
abbrev cX8_isPart : ByteArray := prog_1_method_40_code
def yX8_isPart : MethodName := ⟨RX8, "isPart", "(I)Z"⟩
abbrev cX8_isFreeFor : ByteArray := prog_1_method_41_code
def yX8_isFreeFor : MethodName := ⟨RX8, "isFreeFor", "(II)Z"⟩
abbrev cX8_finish : ByteArray := prog_1_method_42_code
def yX8_finish : MethodName := ⟨RX8, "finish", "(LBridgeClub$Table;I)V"⟩
abbrev cX8_mostOf : ByteArray := prog_1_method_43_code
def yX8_mostOf : MethodName := ⟨RX8, "mostOf", "(LBridgeClub$Result;)I"⟩
abbrev cX8_pointsOf : ByteArray := prog_1_method_44_code
def yX8_pointsOf : MethodName := ⟨RX8, "pointsOf", "(LBridgeClub$Result;II)I"⟩
abbrev cX8_pointsAgainst : ByteArray := prog_1_method_45_code
def yX8_pointsAgainst : MethodName := ⟨RX8, "pointsAgainst", "(LBridgeClub$Result;LBridgeClub$Result;)I"⟩
abbrev cX8_hasResult : ByteArray := prog_1_method_46_code
def yX8_hasResult : MethodName := ⟨RX8, "hasResult", "(I)Z"⟩
abbrev cX8_pairsWithResult : ByteArray := prog_1_method_47_code
def yX8_pairsWithResult : MethodName := ⟨RX8, "pairsWithResult", "()I"⟩
abbrev cX8_pointsOfPair : ByteArray := prog_1_method_48_code
def yX8_pointsOfPair : MethodName := ⟨RX8, "pointsOfPair", "(I)I"⟩
abbrev cX8_mostOfPair : ByteArray := prog_1_method_49_code
def yX8_mostOfPair : MethodName := ⟨RX8, "mostOfPair", "(I)I"⟩
abbrev cX8_partOver : ByteArray := prog_1_method_50_code
def yX8_partOver : MethodName := ⟨RX8, "partOver", "(I)J"⟩
abbrev cX8_partUnder : ByteArray := prog_1_method_51_code
def yX8_partUnder : MethodName := ⟨RX8, "partUnder", "(I)J"⟩
def RX9 : String := "BridgeClubModel"
def TX9 : u_T := fun k => match k with
  | 0 => ("BridgeClubModel", "boards", "I", false)
  | 1 => ("BridgeClubModel", "results", "I", false)
  | 2 => ("BridgeClubModel", "hands", "[I", true)
  | 3 => ("BridgeClubModel", "begun", "[Z", true)
  | 4 => ("BridgeClubModel", "phase", "[I", true)
  | 5 => ("BridgeClubModel", "boardOf", "[I", true)
  | 6 => ("BridgeClubModel", "pairs", "[I", true)
  | 7 => ("BridgeClubModel", "callsMany", "[I", true)
  | 8 => ("BridgeClubModel", "cardsMany", "[I", true)
  | 9 => ("BridgeClubModel", "calls", "[I", true)
  | 10 => ("BridgeClubModel", "cards", "[I", true)
  | 11 => ("BridgeClubModel", "rBoard", "[I", true)
  | 12 => ("BridgeClubModel", "rPairs", "[I", true)
  | 13 => ("BridgeClubModel", "rLevel", "[I", true)
  | 14 => ("BridgeClubModel", "rStrain", "[I", true)
  | 15 => ("BridgeClubModel", "rDeclarer", "[I", true)
  | 16 => ("BridgeClubModel", "rDoubled", "[I", true)
  | 17 => ("BridgeClubModel", "rTricks", "[I", true)
  | 18 => ("BridgeClubModel", "rScore", "[I", true)
  | 19 => ("BridgeClubModel", "rParts", "[I", true)
  | 20 => ("BridgeClubModel", "isAdjusted", "[Z", true)
  | 21 => ("BridgeClubModel", "out", "[I", true)
  | 22 => ("BridgeClubModel", "outMany", "I", false)
  | 23 => ("BridgeClubModel", "freeRow", "[I", true)
  | 24 => ("BridgeClubModel", "won", "[I", true)
  | 25 => ("BridgeClubModel", "leader", "I", false)
  | 26 => ("BridgeClubModel", "start", "I", false)
  | 27 => ("BridgeClubModel", "left", "[I", true)
  | 28 => ("BridgeClubModel", "trick", "[I", true)
  | 29 => ("BridgeClubModel", "trumpNow", "I", false)
  | _ => ("BridgeClubModel", "sideNow", "I", false)
def tyX9 : Nat → FieldType := fun k => match k with
  | 0 => .int
  | 1 => .int
  | 2 => .array .int
  | 3 => .array .boolean
  | 4 => .array .int
  | 5 => .array .int
  | 6 => .array .int
  | 7 => .array .int
  | 8 => .array .int
  | 9 => .array .int
  | 10 => .array .int
  | 11 => .array .int
  | 12 => .array .int
  | 13 => .array .int
  | 14 => .array .int
  | 15 => .array .int
  | 16 => .array .int
  | 17 => .array .int
  | 18 => .array .int
  | 19 => .array .int
  | 20 => .array .boolean
  | 21 => .array .int
  | 22 => .int
  | 23 => .array .int
  | 24 => .array .int
  | 25 => .int
  | 26 => .int
  | 27 => .array .int
  | 28 => .array .int
  | 29 => .int
  | _ => .int
abbrev wsX90 : List Cond := u_ws RX9 TX9 31
theorem nmX9 : ∀ a, a < 31 → ∀ b, b < 31 → a ≠ b → (TX9 a).2.1 ≠ (TX9 b).2.1 := by decide +kernel
theorem tyX9_ok : ∀ k, k < 31 → parseFieldDescriptor (TX9 k).2.2.1 = some (tyX9 k) := by decide +kernel
abbrev cX9_init : ByteArray := prog_11_method_1_code
def yX9_init : MethodName := ⟨RX9, "<init>", "()V"⟩
abbrev cX9_in : ByteArray := prog_11_method_2_code
def yX9_in : MethodName := ⟨RX9, "in", "(III)Z"⟩
abbrev cX9_modulo : ByteArray := prog_11_method_3_code
def yX9_modulo : MethodName := ⟨RX9, "modulo", "(II)I"⟩
abbrev cX9_deal : ByteArray := prog_11_method_4_code
def yX9_deal : MethodName := ⟨RX9, "deal", "(I)I"⟩
abbrev cX9_isBoard : ByteArray := prog_11_method_5_code
def yX9_isBoard : MethodName := ⟨RX9, "isBoard", "(I)Z"⟩
abbrev cX9_isCard : ByteArray := prog_11_method_6_code
def yX9_isCard : MethodName := ⟨RX9, "isCard", "(I)Z"⟩
abbrev cX9_swap : ByteArray := prog_11_method_7_code
def yX9_swap : MethodName := ⟨RX9, "swap", "(III)Z"⟩
abbrev cX9_hand : ByteArray := prog_11_method_8_code
def yX9_hand : MethodName := ⟨RX9, "hand", "(II)I"⟩
abbrev cX9_dealer : ByteArray := prog_11_method_9_code
def yX9_dealer : MethodName := ⟨RX9, "dealer", "(I)I"⟩
abbrev cX9_vulnerable : ByteArray := prog_11_method_10_code
def yX9_vulnerable : MethodName := ⟨RX9, "vulnerable", "(I)I"⟩
abbrev cX9_isVulnerable : ByteArray := prog_11_method_11_code
def yX9_isVulnerable : MethodName := ⟨RX9, "isVulnerable", "(II)Z"⟩
abbrev cX9_tableOf : ByteArray := prog_11_method_12_code
def yX9_tableOf : MethodName := ⟨RX9, "tableOf", "(I)I"⟩
abbrev cX9_resultsOf : ByteArray := prog_11_method_13_code
def yX9_resultsOf : MethodName := ⟨RX9, "resultsOf", "(I)I"⟩
abbrev cX9_board : ByteArray := prog_11_method_14_code
def yX9_board : MethodName := ⟨RX9, "board", "(II)I"⟩
abbrev cX9_isPlaying : ByteArray := prog_11_method_15_code
def yX9_isPlaying : MethodName := ⟨RX9, "isPlaying", "(I)Z"⟩
abbrev cX9_hasPlayed : ByteArray := prog_11_method_16_code
def yX9_hasPlayed : MethodName := ⟨RX9, "hasPlayed", "(II)Z"⟩
abbrev cX9_begin : ByteArray := prog_11_method_17_code
def yX9_begin : MethodName := ⟨RX9, "begin", "(IIII)Z"⟩
abbrev cX9_phaseOf : ByteArray := prog_11_method_18_code
def yX9_phaseOf : MethodName := ⟨RX9, "phaseOf", "(I)I"⟩
abbrev cX9_callAt : ByteArray := prog_11_method_19_code
def yX9_callAt : MethodName := ⟨RX9, "callAt", "(II)I"⟩
abbrev cX9_callerOf : ByteArray := prog_11_method_20_code
def yX9_callerOf : MethodName := ⟨RX9, "callerOf", "(II)I"⟩
abbrev cX9_latestCall : ByteArray := prog_11_method_21_code
def yX9_latestCall : MethodName := ⟨RX9, "latestCall", "(I)I"⟩
abbrev cX9_latestBid : ByteArray := prog_11_method_22_code
def yX9_latestBid : MethodName := ⟨RX9, "latestBid", "(I)I"⟩
abbrev cX9_doubled : ByteArray := prog_11_method_23_code
def yX9_doubled : MethodName := ⟨RX9, "doubled", "(I)I"⟩
abbrev cX9_mayCall : ByteArray := prog_11_method_24_code
def yX9_mayCall : MethodName := ⟨RX9, "mayCall", "(II)Z"⟩
abbrev cX9_level : ByteArray := prog_11_method_25_code
def yX9_level : MethodName := ⟨RX9, "level", "(I)I"⟩
abbrev cX9_strain : ByteArray := prog_11_method_26_code
def yX9_strain : MethodName := ⟨RX9, "strain", "(I)I"⟩
abbrev cX9_declarer : ByteArray := prog_11_method_27_code
def yX9_declarer : MethodName := ⟨RX9, "declarer", "(I)I"⟩
abbrev cX9_call : ByteArray := prog_11_method_28_code
def yX9_call : MethodName := ⟨RX9, "call", "(II)I"⟩
abbrev cX9_suit : ByteArray := prog_11_method_29_code
def yX9_suit : MethodName := ⟨RX9, "suit", "(I)I"⟩
abbrev cX9_beats : ByteArray := prog_11_method_30_code
def yX9_beats : MethodName := ⟨RX9, "beats", "(III)Z"⟩
abbrev cX9_goThrough : ByteArray := prog_11_method_31_code
def yX9_goThrough : MethodName := ⟨RX9, "goThrough", "(I)V"⟩
abbrev cX9_turn : ByteArray := prog_11_method_32_code
def yX9_turn : MethodName := ⟨RX9, "turn", "(I)I"⟩
abbrev cX9_wasPlayed : ByteArray := prog_11_method_33_code
def yX9_wasPlayed : MethodName := ⟨RX9, "wasPlayed", "(II)Z"⟩
abbrev cX9_holds : ByteArray := prog_11_method_34_code
def yX9_holds : MethodName := ⟨RX9, "holds", "(III)Z"⟩
abbrev cX9_mayPlay : ByteArray := prog_11_method_35_code
def yX9_mayPlay : MethodName := ⟨RX9, "mayPlay", "(II)Z"⟩
abbrev cX9_play : ByteArray := prog_11_method_36_code
def yX9_play : MethodName := ⟨RX9, "play", "(II)I"⟩
abbrev cX9_claim : ByteArray := prog_11_method_37_code
def yX9_claim : MethodName := ⟨RX9, "claim", "(II)Z"⟩
abbrev cX9_back : ByteArray := prog_11_method_38_code
def yX9_back : MethodName := ⟨RX9, "back", "(I)Z"⟩
abbrev cX9_leave : ByteArray := prog_11_method_39_code
def yX9_leave : MethodName := ⟨RX9, "leave", "(I)Z"⟩
abbrev cX9_ends : ByteArray := prog_11_method_40_code
def yX9_ends : MethodName := ⟨RX9, "ends", "(II)V"⟩
abbrev cX9_table : ByteArray := prog_11_method_41_code
def yX9_table : MethodName := ⟨RX9, "table", "(II)I"⟩
abbrev cX9_called : ByteArray := prog_11_method_42_code
def yX9_called : MethodName := ⟨RX9, "called", "(II)I"⟩
abbrev cX9_played : ByteArray := prog_11_method_43_code
def yX9_played : MethodName := ⟨RX9, "played", "(II)I"⟩
abbrev cX9_allowed : ByteArray := prog_11_method_44_code
def yX9_allowed : MethodName := ⟨RX9, "allowed", "(II)Z"⟩
abbrev cX9_sees : ByteArray := prog_11_method_45_code
def yX9_sees : MethodName := ⟨RX9, "sees", "(III)Z"⟩
abbrev cX9_lacks : ByteArray := prog_11_method_46_code
def yX9_lacks : MethodName := ⟨RX9, "lacks", "(III)Z"⟩
abbrev cX9_taken : ByteArray := prog_11_method_47_code
def yX9_taken : MethodName := ⟨RX9, "taken", "(II)I"⟩
abbrev cX9_search : ByteArray := prog_11_method_48_code
def yX9_search : MethodName := ⟨RX9, "search", "(III)I"⟩
abbrev cX9_layOut : ByteArray := prog_11_method_49_code
def yX9_layOut : MethodName := ⟨RX9, "layOut", "(I)I"⟩
abbrev cX9_best : ByteArray := prog_11_method_50_code
def yX9_best : MethodName := ⟨RX9, "best", "(I)I"⟩
abbrev cX9_bestCard : ByteArray := prog_11_method_51_code
def yX9_bestCard : MethodName := ⟨RX9, "bestCard", "(I)I"⟩
abbrev cX9_score : ByteArray := prog_11_method_52_code
def yX9_score : MethodName := ⟨RX9, "score", "(IIIZI)I"⟩
abbrev cX9_lost : ByteArray := prog_11_method_53_code
def yX9_lost : MethodName := ⟨RX9, "lost", "(IIZ)I"⟩
abbrev cX9_steps : ByteArray := prog_11_method_54_code
def yX9_steps : MethodName := ⟨RX9, "steps", "(II)I"⟩
abbrev cX9_isResult : ByteArray := prog_11_method_55_code
def yX9_isResult : MethodName := ⟨RX9, "isResult", "(I)Z"⟩
abbrev cX9_result : ByteArray := prog_11_method_56_code
def yX9_result : MethodName := ⟨RX9, "result", "(II)I"⟩
abbrev cX9_adjust : ByteArray := prog_11_method_57_code
def yX9_adjust : MethodName := ⟨RX9, "adjust", "(III)Z"⟩
abbrev cX9_points : ByteArray := prog_11_method_58_code
def yX9_points : MethodName := ⟨RX9, "points", "(II)I"⟩
abbrev cX9_hasResult : ByteArray := prog_11_method_59_code
def yX9_hasResult : MethodName := ⟨RX9, "hasResult", "(I)Z"⟩
abbrev cX9_total : ByteArray := prog_11_method_60_code
def yX9_total : MethodName := ⟨RX9, "total", "(I)I"⟩
abbrev cX9_top : ByteArray := prog_11_method_61_code
def yX9_top : MethodName := ⟨RX9, "top", "(I)I"⟩
abbrev cX9_place : ByteArray := prog_11_method_62_code
def yX9_place : MethodName := ⟨RX9, "place", "(I)I"⟩
abbrev cX9_plan : ByteArray := prog_11_method_63_code
def yX9_plan : MethodName := ⟨RX9, "plan", "(IIII)I"⟩
abbrev cX9_puts : ByteArray := prog_11_method_64_code
def yX9_puts : MethodName := ⟨RX9, "puts", "(I)V"⟩
abbrev cX9_write : ByteArray := prog_11_method_65_code
def yX9_write : MethodName := ⟨RX9, "write", "(I)I"⟩
abbrev cX9_out : ByteArray := prog_11_method_66_code
def yX9_out : MethodName := ⟨RX9, "out", "(I)I"⟩
abbrev cX9_count : ByteArray := prog_11_method_67_code
def yX9_count : MethodName := ⟨RX9, "count", "(I)I"⟩
def RJ5 : String := "java/lang/AbstractStringBuilder"
def TJ5 : u_T := fun k => match k with
  | _ => ("", "", "", false)
def tyJ5 : Nat → FieldType := fun k => match k with
  | _ => .int
abbrev wsJ50 : List Cond := u_ws RJ5 TJ5 0
theorem nmJ5 : ∀ a, a < 0 → ∀ b, b < 0 → a ≠ b → (TJ5 a).2.1 ≠ (TJ5 b).2.1 := by decide +kernel
theorem tyJ5_ok : ∀ k, k < 0 → parseFieldDescriptor (TJ5 k).2.2.1 = some (tyJ5 k) := by decide +kernel
abbrev cJ5_init_d00df : ByteArray := prog_12_method_2_code
def yJ5_init_d00df : MethodName := ⟨RJ5, "<init>", "(I)V"⟩
abbrev cJ5_length_8abf5 : ByteArray := prog_12_method_6_code
def yJ5_length_8abf5 : MethodName := ⟨RJ5, "length", "()I"⟩
abbrev cJ5_ensureCapacityInternal_d00df : ByteArray := prog_12_method_9_code
def yJ5_ensureCapacityInternal_d00df : MethodName := ⟨RJ5, "ensureCapacityInternal", "(I)V"⟩
abbrev cJ5_newCapacity_0f7a4 : ByteArray := prog_12_method_10_code
def yJ5_newCapacity_0f7a4 : MethodName := ⟨RJ5, "newCapacity", "(I)I"⟩
abbrev cJ5_inflate_da8c8 : ByteArray := prog_12_method_11_code
def yJ5_inflate_da8c8 : MethodName := ⟨RJ5, "inflate", "()V"⟩
abbrev cJ5_setLength_d00df : ByteArray := prog_12_method_13_code
def yJ5_setLength_d00df : MethodName := ⟨RJ5, "setLength", "(I)V"⟩
abbrev cJ5_charAt_5068e : ByteArray := prog_12_method_14_code
def yJ5_charAt_5068e : MethodName := ⟨RJ5, "charAt", "(I)C"⟩
abbrev cJ5_append_cf1ce : ByteArray := prog_12_method_22_code
def yJ5_append_cf1ce : MethodName := ⟨RJ5, "append", "(Ljava/lang/String;)Ljava/lang/AbstractStringBuilder;"⟩
abbrev cJ5_appendNull_278bc : ByteArray := prog_12_method_26_code
def yJ5_appendNull_278bc : MethodName := ⟨RJ5, "appendNull", "()Ljava/lang/AbstractStringBuilder;"⟩
abbrev cJ5_append_3fe6f : ByteArray := prog_12_method_31_code
def yJ5_append_3fe6f : MethodName := ⟨RJ5, "append", "(C)Ljava/lang/AbstractStringBuilder;"⟩
abbrev cJ5_append_c97b9 : ByteArray := prog_12_method_32_code
def yJ5_append_c97b9 : MethodName := ⟨RJ5, "append", "(I)Ljava/lang/AbstractStringBuilder;"⟩
abbrev cJ5_isLatin1_aae02 : ByteArray := prog_12_method_68_code
def yJ5_isLatin1_aae02 : MethodName := ⟨RJ5, "isLatin1", "()Z"⟩
abbrev cJ5_inflateIfNeededFor_a7421 : ByteArray := prog_12_method_71_code
def yJ5_inflateIfNeededFor_a7421 : MethodName := ⟨RJ5, "inflateIfNeededFor", "(Ljava/lang/String;)V"⟩
abbrev cJ5_putStringAt_47b60 : ByteArray := prog_12_method_73_code
def yJ5_putStringAt_47b60 : MethodName := ⟨RJ5, "putStringAt", "(ILjava/lang/String;)V"⟩
def RJ6 : String := "java/lang/Integer"
def TJ6 : u_T := fun k => match k with
  | _ => ("", "", "", false)
def tyJ6 : Nat → FieldType := fun k => match k with
  | _ => .int
abbrev wsJ60 : List Cond := u_ws RJ6 TJ6 0
theorem nmJ6 : ∀ a, a < 0 → ∀ b, b < 0 → a ≠ b → (TJ6 a).2.1 ≠ (TJ6 b).2.1 := by decide +kernel
theorem tyJ6_ok : ∀ k, k < 0 → parseFieldDescriptor (TJ6 k).2.2.1 = some (tyJ6 k) := by decide +kernel
abbrev cJ6_getChars_ba4f3 : ByteArray := prog_14_method_12_code
def yJ6_getChars_ba4f3 : MethodName := ⟨RJ6, "getChars", "(II[B)I"⟩
abbrev cJ6_stringSize_0f7a4 : ByteArray := prog_14_method_13_code
def yJ6_stringSize_0f7a4 : MethodName := ⟨RJ6, "stringSize", "(I)I"⟩
def RJ13 : String := "java/lang/Long"
def TJ13 : u_T := fun k => match k with
  | _ => ("", "", "", false)
def tyJ13 : Nat → FieldType := fun k => match k with
  | _ => .int
abbrev wsJ130 : List Cond := u_ws RJ13 TJ13 0
theorem nmJ13 : ∀ a, a < 0 → ∀ b, b < 0 → a ≠ b → (TJ13 a).2.1 ≠ (TJ13 b).2.1 := by decide +kernel
theorem tyJ13_ok : ∀ k, k < 0 → parseFieldDescriptor (TJ13 k).2.2.1 = some (tyJ13 k) := by decide +kernel
abbrev cJ13_bitCount_95d88 : ByteArray := prog_15_method_50_code
def yJ13_bitCount_95d88 : MethodName := ⟨RJ13, "bitCount", "(J)I"⟩
def RJ9 : String := "java/lang/Math"
def TJ9 : u_T := fun k => match k with
  | _ => ("", "", "", false)
def tyJ9 : Nat → FieldType := fun k => match k with
  | _ => .int
abbrev wsJ90 : List Cond := u_ws RJ9 TJ9 0
theorem nmJ9 : ∀ a, a < 0 → ∀ b, b < 0 → a ≠ b → (TJ9 a).2.1 ≠ (TJ9 b).2.1 := by decide +kernel
theorem tyJ9_ok : ∀ k, k < 0 → parseFieldDescriptor (TJ9 k).2.2.1 = some (tyJ9 k) := by decide +kernel
abbrev cJ9_floorMod_7cf53 : ByteArray := prog_16_method_50_code
def yJ9_floorMod_7cf53 : MethodName := ⟨RJ9, "floorMod", "(II)I"⟩
abbrev cJ9_abs_0f7a4 : ByteArray := prog_16_method_59_code
def yJ9_abs_0f7a4 : MethodName := ⟨RJ9, "abs", "(I)I"⟩
abbrev cJ9_max_7cf53 : ByteArray := prog_16_method_65_code
def yJ9_max_7cf53 : MethodName := ⟨RJ9, "max", "(II)I"⟩
abbrev cJ9_min_7cf53 : ByteArray := prog_16_method_69_code
def yJ9_min_7cf53 : MethodName := ⟨RJ9, "min", "(II)I"⟩
def RJ0 : String := "java/lang/String"
def TJ0 : u_T := fun k => match k with
  | _ => ("", "", "", false)
def tyJ0 : Nat → FieldType := fun k => match k with
  | _ => .int
abbrev wsJ00 : List Cond := u_ws RJ0 TJ0 0
theorem nmJ0 : ∀ a, a < 0 → ∀ b, b < 0 → a ≠ b → (TJ0 a).2.1 ≠ (TJ0 b).2.1 := by decide +kernel
theorem tyJ0_ok : ∀ k, k < 0 → parseFieldDescriptor (TJ0 k).2.2.1 = some (tyJ0 k) := by decide +kernel
abbrev cJ0_length_8abf5 : ByteArray := prog_17_method_54_code
def yJ0_length_8abf5 : MethodName := ⟨RJ0, "length", "()I"⟩
abbrev cJ0_charAt_5068e : ByteArray := prog_17_method_56_code
def yJ0_charAt_5068e : MethodName := ⟨RJ0, "charAt", "(I)C"⟩
abbrev cJ0_getBytes_840e7 : ByteArray := prog_17_method_147_code
def yJ0_getBytes_840e7 : MethodName := ⟨RJ0, "getBytes", "([BIB)V"⟩
abbrev cJ0_coder_7d493 : ByteArray := prog_17_method_152_code
def yJ0_coder_7d493 : MethodName := ⟨RJ0, "coder", "()B"⟩
abbrev cJ0_isLatin1_aae02 : ByteArray := prog_17_method_154_code
def yJ0_isLatin1_aae02 : MethodName := ⟨RJ0, "isLatin1", "()Z"⟩
abbrev cJ0_checkIndex_df160 : ByteArray := prog_17_method_155_code
def yJ0_checkIndex_df160 : MethodName := ⟨RJ0, "checkIndex", "(II)V"⟩
abbrev cJ0_checkBoundsOffCount_cabcc : ByteArray := prog_17_method_157_code
def yJ0_checkBoundsOffCount_cabcc : MethodName := ⟨RJ0, "checkBoundsOffCount", "(III)I"⟩
abbrev cJ0_checkBoundsBeginEnd_23922 : ByteArray := prog_17_method_158_code
def yJ0_checkBoundsBeginEnd_23922 : MethodName := ⟨RJ0, "checkBoundsBeginEnd", "(III)V"⟩
def RJ4 : String := "java/lang/StringBuilder"
def TJ4 : u_T := fun k => match k with
  | 0 => ("java/lang/AbstractStringBuilder", "value", "[B", false)
  | 1 => ("java/lang/AbstractStringBuilder", "coder", "B", false)
  | 2 => ("java/lang/AbstractStringBuilder", "maybeLatin1", "Z", false)
  | _ => ("java/lang/AbstractStringBuilder", "count", "I", false)
def tyJ4 : Nat → FieldType := fun k => match k with
  | 0 => .array .byte
  | 1 => .byte
  | 2 => .boolean
  | _ => .int
abbrev wsJ40 : List Cond := u_ws RJ4 TJ4 4
theorem nmJ4 : ∀ a, a < 4 → ∀ b, b < 4 → a ≠ b → (TJ4 a).2.1 ≠ (TJ4 b).2.1 := by decide +kernel
theorem tyJ4_ok : ∀ k, k < 4 → parseFieldDescriptor (TJ4 k).2.2.1 = some (tyJ4 k) := by decide +kernel
abbrev cJ4_init_da8c8 : ByteArray := prog_18_method_1_code
def yJ4_init_da8c8 : MethodName := ⟨RJ4, "<init>", "()V"⟩
abbrev cJ4_append_15ec4 : ByteArray := prog_18_method_7_code
def yJ4_append_15ec4 : MethodName := ⟨RJ4, "append", "(Ljava/lang/String;)Ljava/lang/StringBuilder;"⟩
abbrev cJ4_append_cf468 : ByteArray := prog_18_method_14_code
def yJ4_append_cf468 : MethodName := ⟨RJ4, "append", "(C)Ljava/lang/StringBuilder;"⟩
abbrev cJ4_append_bf812 : ByteArray := prog_18_method_15_code
def yJ4_append_bf812 : MethodName := ⟨RJ4, "append", "(I)Ljava/lang/StringBuilder;"⟩
abbrev cJ4_charAt_5068e : ByteArray := prog_18_method_88_code
def yJ4_charAt_5068e : MethodName := ⟨RJ4, "charAt", "(I)C"⟩
abbrev cJ4_setLength_d00df : ByteArray := prog_18_method_89_code
def yJ4_setLength_d00df : MethodName := ⟨RJ4, "setLength", "(I)V"⟩
abbrev cJ4_length_8abf5 : ByteArray := prog_18_method_93_code
def yJ4_length_8abf5 : MethodName := ⟨RJ4, "length", "()I"⟩
def RJ1 : String := "java/lang/StringLatin1"
def TJ1 : u_T := fun k => match k with
  | _ => ("", "", "", false)
def tyJ1 : Nat → FieldType := fun k => match k with
  | _ => .int
abbrev wsJ10 : List Cond := u_ws RJ1 TJ1 0
theorem nmJ1 : ∀ a, a < 0 → ∀ b, b < 0 → a ≠ b → (TJ1 a).2.1 ≠ (TJ1 b).2.1 := by decide +kernel
theorem tyJ1_ok : ∀ k, k < 0 → parseFieldDescriptor (TJ1 k).2.2.1 = some (tyJ1 k) := by decide +kernel
abbrev cJ1_charAt_3b067 : ByteArray := prog_19_method_2_code
def yJ1_charAt_3b067 : MethodName := ⟨RJ1, "charAt", "([BI)C"⟩
abbrev cJ1_canEncode_fc78d : ByteArray := prog_19_method_3_code
def yJ1_canEncode_fc78d : MethodName := ⟨RJ1, "canEncode", "(C)Z"⟩
abbrev cJ1_fillNull_b72d1 : ByteArray := prog_19_method_48_code
def yJ1_fillNull_b72d1 : MethodName := ⟨RJ1, "fillNull", "([BII)V"⟩
abbrev cJ1_inflate_0e8fd : ByteArray := prog_19_method_50_code
def yJ1_inflate_0e8fd : MethodName := ⟨RJ1, "inflate", "([BI[BII)V"⟩
def RJ2 : String := "java/lang/StringUTF16"
def TJ2 : u_T := fun k => match k with
  | _ => ("", "", "", false)
def tyJ2 : Nat → FieldType := fun k => match k with
  | _ => .int
abbrev wsJ20 : List Cond := u_ws RJ2 TJ2 0
theorem nmJ2 : ∀ a, a < 0 → ∀ b, b < 0 → a ≠ b → (TJ2 a).2.1 ≠ (TJ2 b).2.1 := by decide +kernel
theorem tyJ2_ok : ∀ k, k < 0 → parseFieldDescriptor (TJ2 k).2.2.1 = some (tyJ2 k) := by decide +kernel
abbrev cJ2_newBytesFor_77867 : ByteArray := prog_20_method_2_code
def yJ2_newBytesFor_77867 : MethodName := ⟨RJ2, "newBytesFor", "(I)[B"⟩
abbrev cJ2_newBytesLength_0f7a4 : ByteArray := prog_20_method_3_code
def yJ2_newBytesLength_0f7a4 : MethodName := ⟨RJ2, "newBytesLength", "(I)I"⟩
abbrev cJ2_putChar_b72d1 : ByteArray := prog_20_method_4_code
def yJ2_putChar_b72d1 : MethodName := ⟨RJ2, "putChar", "([BII)V"⟩
abbrev cJ2_getChar_3b067 : ByteArray := prog_20_method_5_code
def yJ2_getChar_3b067 : MethodName := ⟨RJ2, "getChar", "([BI)C"⟩
abbrev cJ2_length_9d52b : ByteArray := prog_20_method_6_code
def yJ2_length_9d52b : MethodName := ⟨RJ2, "length", "([B)I"⟩
abbrev cJ2_fillNull_b72d1 : ByteArray := prog_20_method_70_code
def yJ2_fillNull_b72d1 : MethodName := ⟨RJ2, "fillNull", "([BII)V"⟩
abbrev cJ2_putCharSB_b72d1 : ByteArray := prog_20_method_71_code
def yJ2_putCharSB_b72d1 : MethodName := ⟨RJ2, "putCharSB", "([BII)V"⟩
abbrev cJ2_getChars_46870 : ByteArray := prog_20_method_77_code
def yJ2_getChars_46870 : MethodName := ⟨RJ2, "getChars", "(III[B)I"⟩
abbrev cJ2_putCharsAt_cd4e5 : ByteArray := prog_20_method_81_code
def yJ2_putCharsAt_cd4e5 : MethodName := ⟨RJ2, "putCharsAt", "([BICCCC)I"⟩
abbrev cJ2_charAt_3b067 : ByteArray := prog_20_method_83_code
def yJ2_charAt_3b067 : MethodName := ⟨RJ2, "charAt", "([BI)C"⟩
abbrev cJ2_inflate_0e8fd : ByteArray := prog_20_method_86_code
def yJ2_inflate_0e8fd : MethodName := ⟨RJ2, "inflate", "([BI[BII)V"⟩
abbrev cJ2_getChars_ba4f3 : ByteArray := prog_20_method_89_code
def yJ2_getChars_ba4f3 : MethodName := ⟨RJ2, "getChars", "(II[B)I"⟩
abbrev cJ2_checkIndex_2214a : ByteArray := prog_20_method_91_code
def yJ2_checkIndex_2214a : MethodName := ⟨RJ2, "checkIndex", "(I[B)V"⟩
abbrev cJ2_checkBoundsBeginEnd_d044e : ByteArray := prog_20_method_93_code
def yJ2_checkBoundsBeginEnd_d044e : MethodName := ⟨RJ2, "checkBoundsBeginEnd", "(II[B)V"⟩
abbrev cJ2_checkBoundsOffCount_d044e : ByteArray := prog_20_method_94_code
def yJ2_checkBoundsOffCount_d044e : MethodName := ⟨RJ2, "checkBoundsOffCount", "(II[B)V"⟩
def RJ10 : String := "java/lang/System"
def TJ10 : u_T := fun k => match k with
  | _ => ("", "", "", false)
def tyJ10 : Nat → FieldType := fun k => match k with
  | _ => .int
abbrev wsJ100 : List Cond := u_ws RJ10 TJ10 0
theorem nmJ10 : ∀ a, a < 0 → ∀ b, b < 0 → a ≠ b → (TJ10 a).2.1 ≠ (TJ10 b).2.1 := by decide +kernel
theorem tyJ10_ok : ∀ k, k < 0 → parseFieldDescriptor (TJ10 k).2.2.1 = some (tyJ10 k) := by decide +kernel
def RJ7 : String := "java/util/Arrays"
def TJ7 : u_T := fun k => match k with
  | _ => ("", "", "", false)
def tyJ7 : Nat → FieldType := fun k => match k with
  | _ => .int
abbrev wsJ70 : List Cond := u_ws RJ7 TJ7 0
theorem nmJ7 : ∀ a, a < 0 → ∀ b, b < 0 → a ≠ b → (TJ7 a).2.1 ≠ (TJ7 b).2.1 := by decide +kernel
theorem tyJ7_ok : ∀ k, k < 0 → parseFieldDescriptor (TJ7 k).2.2.1 = some (tyJ7 k) := by decide +kernel
abbrev cJ7_rangeCheck_23922 : ByteArray := prog_22_method_30_code
def yJ7_rangeCheck_23922 : MethodName := ⟨RJ7, "rangeCheck", "(III)V"⟩
abbrev cJ7_fill_eb02e : ByteArray := prog_22_method_110_code
def yJ7_fill_eb02e : MethodName := ⟨RJ7, "fill", "([BIIB)V"⟩
abbrev cJ7_copyOf_9075b : ByteArray := prog_22_method_121_code
def yJ7_copyOf_9075b : MethodName := ⟨RJ7, "copyOf", "([BI)[B"⟩
def RJ8 : String := "jdk/internal/util/ArraysSupport"
def TJ8 : u_T := fun k => match k with
  | _ => ("", "", "", false)
def tyJ8 : Nat → FieldType := fun k => match k with
  | _ => .int
abbrev wsJ80 : List Cond := u_ws RJ8 TJ8 0
theorem nmJ8 : ∀ a, a < 0 → ∀ b, b < 0 → a ≠ b → (TJ8 a).2.1 ≠ (TJ8 b).2.1 := by decide +kernel
theorem tyJ8_ok : ∀ k, k < 0 → parseFieldDescriptor (TJ8 k).2.2.1 = some (tyJ8 k) := by decide +kernel
abbrev cJ8_newLength_cabcc : ByteArray := prog_23_method_27_code
def yJ8_newLength_cabcc : MethodName := ⟨RJ8, "newLength", "(III)I"⟩
abbrev cJ8_hugeLength_7cf53 : ByteArray := prog_23_method_28_code
def yJ8_hugeLength_7cf53 : MethodName := ⟨RJ8, "hugeLength", "(II)I"⟩
def RJ3 : String := "jdk/internal/util/Preconditions"
def TJ3 : u_T := fun k => match k with
  | _ => ("", "", "", false)
def tyJ3 : Nat → FieldType := fun k => match k with
  | _ => .int
abbrev wsJ30 : List Cond := u_ws RJ3 TJ3 0
theorem nmJ3 : ∀ a, a < 0 → ∀ b, b < 0 → a ≠ b → (TJ3 a).2.1 ≠ (TJ3 b).2.1 := by decide +kernel
theorem tyJ3_ok : ∀ k, k < 0 → parseFieldDescriptor (TJ3 k).2.2.1 = some (tyJ3 k) := by decide +kernel
abbrev cJ3_checkIndex_8e157 : ByteArray := prog_24_method_11_code
def yJ3_checkIndex_8e157 : MethodName := ⟨RJ3, "checkIndex", "(IILjava/util/function/BiFunction;)I"⟩
abbrev cJ3_checkFromToIndex_8c36e : ByteArray := prog_24_method_12_code
def yJ3_checkFromToIndex_8c36e : MethodName := ⟨RJ3, "checkFromToIndex", "(IIILjava/util/function/BiFunction;)I"⟩
abbrev cJ3_checkFromIndexSize_8c36e : ByteArray := prog_24_method_13_code
def yJ3_checkFromIndexSize_8c36e : MethodName := ⟨RJ3, "checkFromIndexSize", "(IIILjava/util/function/BiFunction;)I"⟩
def RL : String := "BridgeClubLaw"
abbrev cL_law : ByteArray := code
def yL_law : MethodName := ⟨RL, "law", "([I)Z"⟩
abbrev vwCl : List vw_C := [(RJ4, TJ4, 4), (RX0, TX0, 3), (RX1, TX1, 4), (RX3, TX3, 8), (RX4, TX4, 6), (RX5, TX5, 12), (RX7, TX7, 5), (RX8, TX8, 8), (RX9, TX9, 31)]
end
section
/-! ===== AM: a small machine over relative addresses (0..15 constants, 16.. made cells); its runs are proved to be the machine's in the parts behind ===== -/
abbrev aH : Type := (Nat → va_E) × Nat
abbrev aE : Type := Nat × Instr × Nat × Nat × Nat × Nat
abbrev aL : Type := List (Option Value)
abbrev aQ : Type := Option Value → aH → Prop
abbrev aC : Type := Nat → List Value → aH → Nat → Nat → aQ → Prop
abbrev aP : Type := Nat → aL → List Value → aH → Nat → Nat → Prop
/-- own class, name, bytes, locals, return type, is static, code -/
abbrev aM : Type := String × MethodName × ByteArray × Nat × Option FieldType × Bool × List aE
/-- the instruction at a place, with its two operands -/
def aGet (cd : List aE) (k : Nat) : Option (Instr × Nat × Nat) := match cd[k]? with
  | some (_, i, _, x, y, _) => some (i, x, y)
  | none => none
def aPc (cd : List aE) (k : Nat) : Nat := match cd[k]? with
  | some (pc, _) => pc
  | none => 0
def kConst : Instr → Option Value
  | .iconst n => some (.int (Int32.ofInt n))
  | .bipush n => some (.int (Int8.ofInt n).toInt32)
  | .sipush n => some (.int (Int16.ofInt n).toInt32)
  | .lconst n => some (.long (Int64.ofNat (n : Nat)))
  | .aconst_null => some .null
  | _ => none
/-- place, and 0 int, 1 long, 2 reference -/
def kLoad : Instr → Option (Nat × Nat)
  | .iload i => some (i, 0)
  | .iload_n i => some (i, 0)
  | .lload i => some (i, 1)
  | .lload_n i => some (i, 1)
  | .aload i => some (i, 2)
  | .aload_n i => some (i, 2)
  | _ => none
def kStore : Instr → Option (Nat × Nat)
  | .istore i => some (i, 0)
  | .istore_n i => some (i, 0)
  | .lstore i => some (i, 1)
  | .lstore_n i => some (i, 1)
  | .astore i => some (i, 2)
  | .astore_n i => some (i, 2)
  | _ => none
def kTy : Nat → Value → Prop
  | 0, .int _ => True
  | 1, .long _ => True
  | 2, .ref _ => True
  | 2, .null => True
  | _, _ => False
def kBin : Instr → Option (Int32 → Int32 → Int32)
  | .iadd => some (fun x y => x + y)
  | .isub => some (fun x y => x - y)
  | .imul => some (fun x y => x * y)
  | .iand => some (fun x y => x &&& y)
  | .ior => some (fun x y => x ||| y)
  | .ixor => some (fun x y => x ^^^ y)
  | .ishl => some (fun x y => x <<< (y &&& 31))
  | .ishr => some (fun x y => x >>> (y &&& 31))
  | .iushr => some (fun x y => (x.toUInt32 >>> (y.toUInt32 &&& Int32.toUInt32 31)).toInt32)
  | _ => none
def kDiv : Instr → Option (Int32 → Int32 → Int32)
  | .idiv => some (fun x y => x / y)
  | .irem => some (fun x y => x - x / y * y)
  | _ => none
def kBinL : Instr → Option (Int64 → Int64 → Int64)
  | .ladd => some (fun x y => x + y)
  | .lsub => some (fun x y => x - y)
  | .lmul => some (fun x y => x * y)
  | .land => some (fun x y => x &&& y)
  | .lor => some (fun x y => x ||| y)
  | .lxor => some (fun x y => x ^^^ y)
  | _ => none
def kShL : Instr → Option (Int64 → Int32 → Int64)
  | .lshl => some (fun x y => x <<< (y.toInt64 &&& 63))
  | .lshr => some (fun x y => x >>> (y.toInt64 &&& 63))
  | .lushr => some (fun x y => (x.toUInt64 >>> (y.toInt64.toUInt64 &&& Int64.toUInt64 63)).toInt64)
  | _ => none
def kUn : Instr → Option (Int32 → Int32)
  | .ineg => some (fun x => -x)
  | .i2b => some (fun x => x.toInt8.toInt32)
  | .i2c => some (fun x => (x.toUInt32 % 65536).toInt32)
  | _ => none
def kC : Jvm.ClassFile.Cond → Int32 → Int32 → Prop
  | .eq, x, y => x = y
  | .ne, x, y => ¬ x = y
  | .lt, x, y => x < y
  | .ge, x, y => y ≤ x
  | .gt, x, y => y < x
  | .le, x, y => x ≤ y
/-- a store to a local -/
def aClr (l : aL) : Nat → aL
  | 0 => l
  | i + 1 => match l[i]? with
    | some (some (.long _)) => l.set i none
    | some (some (.double _)) => l.set i none
    | _ => l
def aSet (l : aL) (i : Nat) (v : Value) : aL := match v with
  | .long _ => ((aClr l i).set i (some v)).set (i + 1) none
  | _ => (aClr l i).set i (some v)
def aUp (h : aH) (a : Nat) (e : va_E) : aH := (va_up h.1 a e, h.2)
def aNew (h : aH) (e : va_E) : aH := (va_up h.1 h.2 e, h.2 + 1)
abbrev aCls : List vw_C := vwCl
/-- the kinds of arrays -/
def aTy : Nat → FieldType
  | 0 => .int
  | 1 => .boolean
  | 2 => .byte
  | 3 => .long
  | 4 => .object RX1
  | 5 => .object RX7
  | _ => .object RX5
def aFT (ci k : Nat) : Option (String × String × String × Bool) := match aCls[ci]? with
  | some q => if k < q.2.2 then some (q.2.1 k) else none
  | none => none
/-- a value that a field's type takes as it is -/
def aFit (ci k : Nat) (v : Value) : Prop := ∃ q ty, aFT ci k = some q ∧ parseFieldDescriptor q.2.2.1 = some ty ∧ narrow ty v = v ∧ fits ty v = true
def aDef (ci : Nat) : List Value := match aCls[ci]? with
  | some q => (List.range q.2.2).map (fun k => match parseFieldDescriptor (q.2.1 k).2.2.1 with
    | some ty => defaultValue ty
    | none => .null)
  | none => []
def aN (ci : Nat) : Nat := match aCls[ci]? with
  | some q => q.2.2
  | none => 0
/-- a new array's contents: kind, length -/
def aArr0 (t n : Nat) : va_E := match t with
  | 0 => .inl (0, n, .inl (fun _ => 0))
  | 1 => .inl (1, n, .inl (fun _ => 0))
  | 2 => .inl (2, n, .inl (fun _ => 0))
  | 3 => .inl (3, n, .inr (.inl (fun _ => 0)))
  | t => .inl (t, n, .inr (.inr (.inr (.inr (fun _ => none)))))
def aCat (vs : List Value) : Nat := (vs.map fun v => v.category).sum
def aRef (r : Option Nat) : Value := va_rf r
def aRT (rt : Option FieldType) (v : Option Value) : Prop := match rt, v with
  | none, none => True
  | some ty, some (.int x) => narrow ty (.int x) = .int x ∧ fits ty (.int x) = true
  | some .long, some (.long _) => True
  | some (.object _), some (.ref _) => True
  | some (.object _), some .null => True
  | some (.array _), some (.ref _) => True
  | some (.array _), some .null => True
  | _, _ => False
def kRet : Instr → Value → Prop
  | .ireturn, .int _ => True
  | .lreturn, .long _ => True
  | .areturn, .ref _ => True
  | .areturn, .null => True
  | _, _ => False
def aRul (cl : aC) (cd : List aE) (C S : Nat) (rt : Option FieldType) (ini : Bool) (Q : aQ) (P : aP) (n : Nat) : Prop := match n with
  | 0 => ∀ k i x y v l st h c s, aGet cd k = some (i, x, y) → kConst i = some v → P (k + 1) l (v :: st) h c s → P k l st h c s
  | 1 => ∀ k i x y j t v l st h c s, aGet cd k = some (i, x, y) → kLoad i = some (j, t) → l[j]? = some (some v) → kTy t v → P (k + 1) l (v :: st) h c s → P k l st h c s
  | 2 => ∀ k i x y j t v l st h c s, aGet cd k = some (i, x, y) → kStore i = some (j, t) → kTy t v → j + t % 2 < l.length → P (k + 1) (aSet l j v) st h c s → P k l (v :: st) h c s
  | 3 => ∀ k i x y f a b l st h c s, aGet cd k = some (i, x, y) → kBin i = some f → P (k + 1) l (.int (f a b) :: st) h c s → P k l (.int b :: .int a :: st) h c s
  | 4 => ∀ k i x y f a b l st h c s, aGet cd k = some (i, x, y) → kDiv i = some f → ¬ b = 0 → P (k + 1) l (.int (f a b) :: st) h c s → P k l (.int b :: .int a :: st) h c s
  | 5 => ∀ k i x y f a b l st h c s, aGet cd k = some (i, x, y) → kBinL i = some f → P (k + 1) l (.long (f a b) :: st) h c s → P k l (.long b :: .long a :: st) h c s
  | 6 => ∀ k i x y f a b l st h c s, aGet cd k = some (i, x, y) → kShL i = some f → P (k + 1) l (.long (f a b) :: st) h c s → P k l (.int b :: .long a :: st) h c s
  | 7 => ∀ k i x y f a l st h c s, aGet cd k = some (i, x, y) → kUn i = some f → P (k + 1) l (.int (f a) :: st) h c s → P k l (.int a :: st) h c s
  | 8 => ∀ k x y a l st h c s, aGet cd k = some (.lneg, x, y) → P (k + 1) l (.long (-a) :: st) h c s → P k l (.long a :: st) h c s
  | 9 => ∀ k x y a l st h c s, aGet cd k = some (.i2l, x, y) → P (k + 1) l (.long (Int32.toInt64 a) :: st) h c s → P k l (.int a :: st) h c s
  | 10 => ∀ k x y a l st h c s, aGet cd k = some (.l2i, x, y) → P (k + 1) l (.int (Int64.toInt32 a) :: st) h c s → P k l (.long a :: st) h c s
  | 11 => ∀ k x y a b l st h c s, aGet cd k = some (.lcmp, x, y) → P (k + 1) l (.int (lg_cmp a b) :: st) h c s → P k l (.long b :: .long a :: st) h c s
  | 12 => ∀ k j n x y a l st h c s, aGet cd k = some (.iinc j n, x, y) → l[j]? = some (some (.int a)) → P (k + 1) (l.set j (some (.int (a + Int32.ofInt n)))) st h c s → P k l st h c s
  | 13 => ∀ k x y v l st h c s, aGet cd k = some (.dup, x, y) → Value.category v = 1 → P (k + 1) l (v :: v :: st) h c s → P k l (v :: st) h c s
  | 14 => ∀ k x y v l st h c s, aGet cd k = some (.pop, x, y) → Value.category v = 1 → P (k + 1) l st h c s → P k l (v :: st) h c s
  | 15 => ∀ k x y v w l st h c s, aGet cd k = some (.dup2, x, y) → Value.category v = 1 → Value.category w = 1 → P (k + 1) l (v :: w :: v :: w :: st) h c s → P k l (v :: w :: st) h c s
  | 16 => ∀ k x y v w l st h c s, aGet cd k = some (.dup_x1, x, y) → Value.category v = 1 → Value.category w = 1 → P (k + 1) l (v :: w :: v :: st) h c s → P k l (v :: w :: st) h c s
  | 17 => ∀ k co off x y a l st h c s, aGet cd k = some (.ifCond co off, x, y) → (kC co a 0 → P x l st h c s) → (¬ kC co a 0 → P (k + 1) l st h c s) → P k l (.int a :: st) h c s
  | 18 => ∀ k co off x y a b l st h c s, aGet cd k = some (.if_icmp co off, x, y) → (kC co a b → P x l st h c s) → (¬ kC co a b → P (k + 1) l st h c s) → P k l (.int b :: .int a :: st) h c s
  | 19 => ∀ k off x y l st h c s, aGet cd k = some (.goto off, x, y) → P x l st h c s → P k l st h c s
  | 20 => ∀ k off x y a l st h c s, aGet cd k = some (.ifnull off, x, y) → P (k + 1) l st h c s → P k l (.ref a :: st) h c s
  | 21 => ∀ k off x y l st h c s, aGet cd k = some (.ifnull off, x, y) → P x l st h c s → P k l (.null :: st) h c s
  | 22 => ∀ k off x y a l st h c s, aGet cd k = some (.ifnonnull off, x, y) → P x l st h c s → P k l (.ref a :: st) h c s
  | 23 => ∀ k off x y l st h c s, aGet cd k = some (.ifnonnull off, x, y) → P (k + 1) l st h c s → P k l (.null :: st) h c s
  | 24 => ∀ k d lo hi offs x y a t l st h c s, aGet cd k = some (.tableswitch d lo hi offs, x, y) → (Int32.toInt a < lo ∨ hi < Int32.toInt a) → (aPc cd k : Int) + d = (aPc cd t : Int) → P t l st h c s → P k l (.int a :: st) h c s
  | 25 => ∀ k d lo hi offs x y a o t l st h c s, aGet cd k = some (.tableswitch d lo hi offs, x, y) → ¬ Int32.toInt a < lo → ¬ hi < Int32.toInt a → (offs : Array Int)[(Int32.toInt a - lo).toNat]? = some o → (aPc cd k : Int) + o = (aPc cd t : Int) → P t l st h c s → P k l (.int a :: st) h c s
  | 26 => ∀ k j ci f a fs v l st h c s, aGet cd k = some (.getfield j, ci, f) → 16 ≤ a → a < h.2 → (h : aH).1 a = .inr (ci, fs) → fs[f]? = some v → P (k + 1) l (v :: st) h c s → P k l (.ref a :: st) h c s
  | 27 => ∀ k j ci f a fs v l st h c s, aGet cd k = some (.putfield j, ci, f) → 16 ≤ a → a < h.2 → (h : aH).1 a = .inr (ci, fs) → f < fs.length → aFit ci f v → P (k + 1) l st (aUp h a (.inr (ci, fs.set f v))) c s → P k l (v :: .ref a :: st) h c s
  | 28 => ∀ k x y a t u l st h c s, aGet cd k = some (.arraylength, x, y) → a < h.2 → (h : aH).1 a = .inl (t, u) → t < 7 → P (k + 1) l (.int (Int32.ofNat u.1) :: st) h c s → P k l (.ref a :: st) h c s
  | 29 => ∀ k x y a n f i l st h c s, aGet cd k = some (.iaload, x, y) → a < h.2 → (h : aH).1 a = .inl (0, n, .inl f) → vp_in i n → P (k + 1) l (.int (f i.toNatClampNeg) :: st) h c s → P k l (.int i :: .ref a :: st) h c s
  | 30 => ∀ k x y a t n f i l st h c s, aGet cd k = some (.baload, x, y) → a < h.2 → (t = 1 ∨ t = 2) → (h : aH).1 a = .inl (t, n, .inl f) → vp_in i n → P (k + 1) l (.int (f i.toNatClampNeg) :: st) h c s → P k l (.int i :: .ref a :: st) h c s
  | 31 => ∀ k x y a n f i l st h c s, aGet cd k = some (.laload, x, y) → 16 ≤ a → a < h.2 → (h : aH).1 a = .inl (3, n, .inr (.inl f)) → vp_in i n → P (k + 1) l (.long (f i.toNatClampNeg) :: st) h c s → P k l (.int i :: .ref a :: st) h c s
  | 32 => ∀ k x y a t n f i l st h c s, aGet cd k = some (.aaload, x, y) → 16 ≤ a → a < h.2 → 4 ≤ t → t < 7 → (h : aH).1 a = .inl (t, n, .inr (.inr (.inr (.inr f)))) → vp_in i n → P (k + 1) l (aRef (f i.toNatClampNeg) :: st) h c s → P k l (.int i :: .ref a :: st) h c s
  | 33 => ∀ k x y a n f i v l st h c s, aGet cd k = some (.iastore, x, y) → 16 ≤ a → a < h.2 → (h : aH).1 a = .inl (0, n, .inl f) → vp_in i n → P (k + 1) l st (aUp h a (.inl (0, n, .inl (upd f i.toNatClampNeg v)))) c s → P k l (.int v :: .int i :: .ref a :: st) h c s
  | 34 => ∀ k x y a n f i v l st h c s, aGet cd k = some (.bastore, x, y) → 16 ≤ a → a < h.2 → (h : aH).1 a = .inl (1, n, .inl f) → vp_in i n → P (k + 1) l st (aUp h a (.inl (1, n, .inl (upd f i.toNatClampNeg (vp_nar .boolean v))))) c s → P k l (.int v :: .int i :: .ref a :: st) h c s
  | 35 => ∀ k x y a n f i v l st h c s, aGet cd k = some (.bastore, x, y) → 16 ≤ a → a < h.2 → (h : aH).1 a = .inl (2, n, .inl f) → vp_in i n → P (k + 1) l st (aUp h a (.inl (2, n, .inl (upd f i.toNatClampNeg (vp_nar .byte v))))) c s → P k l (.int v :: .int i :: .ref a :: st) h c s
  | 36 => ∀ k x y a n f i v l st h c s, aGet cd k = some (.lastore, x, y) → 16 ≤ a → a < h.2 → (h : aH).1 a = .inl (3, n, .inr (.inl f)) → vp_in i n → P (k + 1) l st (aUp h a (.inl (3, n, .inr (.inl (vp_updL f i.toNatClampNeg v))))) c s → P k l (.long v :: .int i :: .ref a :: st) h c s
  | 37 => ∀ k x y a t n f i b ci fs q l st h c s, aGet cd k = some (.aastore, x, y) → 16 ≤ a → a < h.2 → 4 ≤ t → t < 7 → (h : aH).1 a = .inl (t, n, .inr (.inr (.inr (.inr f)))) → vp_in i n → 16 ≤ b → b < h.2 → (h : aH).1 b = .inr (ci, fs) → aCls[ci]? = some q → aTy t = .object q.1 → P (k + 1) l st (aUp h a (.inl (t, n, .inr (.inr (.inr (.inr (va_up f i.toNatClampNeg (some b)))))))) c s → P k l (.ref b :: .int i :: .ref a :: st) h c s
  | 38 => ∀ k at' t y n l st h c s, aGet cd k = some (.newarray at', t, y) → t < 4 → ¬ n < 0 → n.toNatClampNeg ≤ 100000 → c + 1 ≤ C → s + n.toNatClampNeg ≤ S → P (k + 1) l (.ref h.2 :: st) (aNew h (aArr0 t n.toNatClampNeg)) (c + 1) (s + n.toNatClampNeg) → P k l (.int n :: st) h c s
  | 39 => ∀ k j t y n l st h c s, aGet cd k = some (.anewarray j, t, y) → 4 ≤ t → t < 7 → ¬ n < 0 → n.toNatClampNeg ≤ 100000 → c + 1 ≤ C → s + n.toNatClampNeg ≤ S → P (k + 1) l (.ref h.2 :: st) (aNew h (aArr0 t n.toNatClampNeg)) (c + 1) (s + n.toNatClampNeg) → P k l (.int n :: st) h c s
  | 40 => ∀ k j ci y l st h c s, aGet cd k = some (.new j, ci, y) → c + 1 ≤ C → s + aN ci ≤ S → P (k + 1) l (.ref h.2 :: st) (aNew h (.inr (ci, aDef ci))) (c + 1) (s + aN ci) → P k l st h c s
  | 41 => ∀ k j a y l st h c s, aGet cd k = some (.getstatic j, a, y) → y < 2 → P (k + 1) l ((if y = 0 then .ref a else .int (Int32.ofNat a)) :: st) h c s → P k l st h c s
  | 42 => ∀ k i x y l st h c s, aGet cd k = some (i, x, y) → (∃ j, i = .ldc j ∨ i = .ldc_w j) → P (k + 1) l ((if y = 0 then .int (Int32.ofNat x) else .ref x) :: st) h c s → P k l st h c s
  | 43 => ∀ k j x y l st h c s, aGet cd k = some (.ldc2_w j, x, y) → P (k + 1) l (.long (Int64.ofNat x) :: st) h c s → P k l st h c s
  | 44 => ∀ k i x n as st mc ms l h c s, aGet cd k = some (i, x, n) → (∃ j, i = .invokestatic j) → as.length = n → aCat st ≤ 8 → c + mc ≤ C → s + ms ≤ S → cl x as h mc ms (fun r h' => P (k + 1) l (r.toList ++ st) h' (c + mc) (s + ms)) → P k l (as.reverse ++ st) h c s
  | 45 => ∀ k i x n a as st mc ms ci fs l h c s, aGet cd k = some (i, x, n + 16 * ci) → (∃ j, i = .invokevirtual j) → n < 16 → as.length = n → 16 ≤ a → a < h.2 → (h : aH).1 a = .inr (ci, fs) → aCat st ≤ 8 → c + mc ≤ C → s + ms ≤ S → cl x (.ref a :: as) h mc ms (fun r h' => P (k + 1) l (r.toList ++ st) h' (c + mc) (s + ms)) → P k l (as.reverse ++ .ref a :: st) h c s
  | 46 => ∀ k i x n a as st mc ms l h c s, aGet cd k = some (i, x, n) → (∃ j, i = .invokespecial j) → x < 1000 → n < 16 → as.length = n → aCat st ≤ 8 → c + mc ≤ C → s + ms ≤ S → cl x (.ref a :: as) h mc ms (fun r h' => P (k + 1) l (r.toList ++ st) h' (c + mc) (s + ms)) → P k l (as.reverse ++ .ref a :: st) h c s
  | 47 => ∀ k j n a st l h c s, aGet cd k = some (.invokespecial j, 1000, n) → aCat st ≤ 8 → P (k + 1) l st h c s → P k l (.ref a :: st) h c s
  | 48 => ∀ k x y l h c s, aGet cd k = some (.return_, x, y) → rt = none → c ≤ C → s ≤ S → Q none h → P k l [] h c s
  | 49 => ∀ k i x y v l h c s, aGet cd k = some (i, x, y) → kRet i v → aRT rt (some v) → c ≤ C → s ≤ S → Q (some v) h → P k l [v] h c s
  | 50 => ∀ k j f a fs v l st h c s, aGet cd k = some (.getfield j, 9, f) → a < 16 → (h : aH).1 a = .inr (9, fs) → fs[f]? = some v → P (k + 1) l (v :: st) h c s → P k l (.ref a :: st) h c s
  | 51 => ∀ k i x n a as st mc ms fs l h c s, aGet cd k = some (i, x, n + 16 * 9) → (∃ j, i = .invokevirtual j) → n < 16 → as.length = n → a < 16 → (h : aH).1 a = .inr (9, fs) → aCat st ≤ 8 → c + mc ≤ C → s + ms ≤ S → cl x (.ref a :: as) h mc ms (fun r h' => P (k + 1) l (r.toList ++ st) h' (c + mc) (s + ms)) → P k l (as.reverse ++ .ref a :: st) h c s
  | 52 => ∀ k i x n a as st mc ms fs l h c s, aGet cd k = some (i, x, n + 1000) → (∃ j, i = .invokespecial j) → x < 1000 → as.length = n → 16 ≤ a → a < h.2 → (h : aH).1 a = .inr (0, fs) → aCat st ≤ 8 → c + mc ≤ C → s + ms ≤ S → cl x (.ref a :: as) h mc ms (fun r h' => P (k + 1) l (r.toList ++ st) h' (c + mc) (s + ms)) → P k l (as.reverse ++ .ref a :: st) h c s
  | 53 => ∀ k x y a b na nb f g n l st h c s, aGet cd k = some (.monitorenter, x, y) → b < 16 → (h : aH).1 b = .inl (2, nb, .inl f) → 16 ≤ a → a < h.2 → (h : aH).1 a = .inl (2, na, .inl g) → aCat st ≤ 8 → n ≤ nb → ∀ dp : Nat, dp + n ≤ na → na < 100000 → nb < 100000 → (∀ i, i < n → fits .byte (.int (f i)) = true) → P (k + 1) l st (aUp h a (.inl (2, na, .inl (va_cpy f g 0 dp n)))) c s → P k l (.int (nI n) :: .int (nI dp) :: .ref a :: .int 0 :: .ref b :: st) h c s
  | 54 => ∀ k j a l st h c s, aGet cd k = some (.getstatic j, a, 2) → P (k + 1) l (.null :: st) h c s → P (k + 1) l (.ref a :: st) h c s → P k l st h c s
  | _ => True
def aB (cl : aC) (cd : List aE) (C S : Nat) (rt : Option FieldType) (ini : Bool) (Q : aQ) : aP := fun k l st h c s => ∀ P : aP, (∀ n, aRul cl cd C S rt ini Q P n) → P k l st h c s
/-- the arguments in the locals -/
def aArg (vs : List Value) : aL := vs.flatMap fun v => if v.category = 2 then [some v, none] else [some v]
def aEnt (n : Nat) (vs : List Value) : aL := aArg vs ++ List.replicate (n - (aArg vs).length) none
def aRun (pg : Nat → Option aM) (pr : aC) : Nat → aC
  | 0 => fun _ _ _ _ _ _ => False
  | d + 1 => fun j as h mc ms Q => pr j as h mc ms Q ∨ ∃ mi : aM, pg j = some mi ∧ (aArg as).length ≤ mi.2.2.2.1 ∧ aB (aRun pg pr d) mi.2.2.2.2.2.2 mc ms mi.2.2.2.2.1 (mi.2.1.name == "<init>") Q 0 (aEnt mi.2.2.2.1 as) [] h 0 0
end
section
/-! ===== what a program checks of each instruction of the AM's code against the machine's bytes and tables ===== -/
/-- which method of AbstractStringBuilder's own a StringBuilder runs: words that follow from the tables' -/
def xsel : List Cond := [.selects RJ4 ⟨RJ5, "ensureCapacityInternal", "(I)V"⟩ ⟨RJ5, "ensureCapacityInternal", "(I)V"⟩, .selects RJ4 ⟨RJ5, "putStringAt", "(ILjava/lang/String;)V"⟩ ⟨RJ5, "putStringAt", "(ILjava/lang/String;)V"⟩, .selects RJ4 ⟨RJ5, "inflateIfNeededFor", "(Ljava/lang/String;)V"⟩ ⟨RJ5, "inflateIfNeededFor", "(Ljava/lang/String;)V"⟩]
def lw_good : List Cond := (xsel ++ lw_tbl).filter goodWord
theorem lw_good_in {w : Cond} (h : w ∈ lw_tbl) (g : goodWord w = true) : w ∈ lw_good := List.mem_filter.mpr ⟨List.mem_append_right _ h, g⟩
def inOk (c : Cond) : Bool := (decide (c ∈ xsel) || decide (c ∈ lw_tbl)) && goodWord c
theorem inOk_in {c : Cond} (h : inOk c = true) : c ∈ lw_good := by
  simp only [inOk, Bool.and_eq_true, Bool.or_eq_true, decide_eq_true_eq] at h
  rcases h with ⟨h | h, g⟩
  · exact List.mem_filter.mpr ⟨List.mem_append_left _ h, g⟩
  · exact lw_good_in h g
/-- statics: class, name, type, place or value, 0 a row of the constants, 1 a number, 2 a reference or null -/
def aSta : List (String × String × String × Nat × Nat) := [("BridgeClub$Scoring", "STEP_BOUNDS", "[I", 0, 0), ("BridgeClubModel", "STEP", "[I", 1, 0), ("java/lang/String", "COMPACT_STRINGS", "Z", 1, 1), ("java/lang/Integer", "DigitOnes", "[B", 2, 0), ("java/lang/Integer", "DigitTens", "[B", 3, 0), ("jdk/internal/util/Preconditions", "SIOOBE_FORMATTER", "Ljava/util/function/BiFunction;", 15, 2)]
/-- String constants: class, entry, text, place -/
def aStr : List (String × Nat × String × Nat) := [("BridgeClub$Result", 55, "pass", 4), ("BridgeClub$Result", 66, "CDHSN", 6), ("BridgeClub$Result", 75, "NESW", 8), ("BridgeClubModel", 248, "CDHSN", 10), ("BridgeClubModel", 256, "NESW", 12)]
theorem lw_good_all : ∀ w ∈ lw_good, w ∈ lw_good ∧ ((w.onTables && w.keeps) = true ∨ ∃ ty, w = .arrayClass ty) := by
  intro w hw
  exact ⟨hw, good_of_word (List.mem_filter.mp hw).2⟩
def wIs (w : Nat) (c : Cond) : Bool := decide (lw_tbl[w]? = some c) && goodWord c
theorem wIs_in {w : Nat} {c : Cond} (h : wIs w c = true) : c ∈ lw_good := by
  simp only [wIs, Bool.and_eq_true, decide_eq_true_eq] at h
  exact lw_good_in (List.mem_of_getElem? h.1) h.2
def kLen : Instr → Nat
  | .iload _ => 2 | .lload _ => 2 | .aload _ => 2 | .istore _ => 2 | .lstore _ => 2 | .astore _ => 2 | .bipush _ => 2 | .sipush _ => 3
  | .ldc _ => 2 | .ldc_w _ => 3 | .ldc2_w _ => 3 | .iinc _ _ => 3 | .ifCond _ _ => 3 | .if_icmp _ _ => 3 | .goto _ => 3 | .ifnull _ => 3 | .ifnonnull _ => 3
  | .getfield _ => 3 | .putfield _ => 3 | .getstatic _ => 3 | .invokestatic _ => 3 | .invokevirtual _ => 3 | .invokespecial _ => 3 | .new _ => 3 | .newarray _ => 2 | .anewarray _ => 3
  | _ => 1
def eSw : Instr → Bool
  | .tableswitch .. => true
  | _ => false
def eFall : Instr → Bool
  | .goto _ => false
  | .tableswitch .. => false
  | .return_ => false
  | .ireturn => false
  | .lreturn => false
  | .areturn => false
  | .athrow => false
  | .monitorenter => false
  | _ => true
/-- marks: a place that no run comes to, System.arraycopy -/
def eFk : Instr → Bool
  | .athrow => true
  | .monitorenter => true
  | _ => false
abbrev aM.own (mi : aM) : String := mi.1
abbrev aM.y (mi : aM) : MethodName := mi.2.1
abbrev aM.bs (mi : aM) : ByteArray := mi.2.2.1
abbrev aM.nL (mi : aM) : Nat := mi.2.2.2.1
abbrev aM.rt (mi : aM) : Option FieldType := mi.2.2.2.2.1
abbrev aM.sta (mi : aM) : Bool := mi.2.2.2.2.2.1
abbrev aM.cd (mi : aM) : List aE := mi.2.2.2.2.2.2
def aM.ini (mi : aM) : Bool := mi.2.1.name == "<init>"
def aNp (y : MethodName) : Option Nat := (parseMethodDescriptor y.desc).map (fun d => d.parameters.length)
def aNw : List Cond := [.methodLinkNest RX8 33 ⟨RX3, "<init>", "()V"⟩ RX8, .methodLinkNest RX8 104 ⟨RX7, "<init>", "()V"⟩ RX8, .methodLinkNest RX7 11 ⟨RX0, "<init>", "()V"⟩ RX8, .methodLinkNest RX7 20 ⟨RX4, "<init>", "()V"⟩ RX8]
/-- what a callee must be -/
def cChk (mj : aM) (n : Nat) : Bool := decide (aNp mj.y = some n) && decide (mj.y.cls ≠ "java/lang/invoke/MethodHandle") && decide (mj.y.cls ≠ "java/lang/invoke/VarHandle") && decide (mj.nL ≤ 30) && decide (mj.own = mj.y.cls)
def lChk (pg : Nat → Option aM) (mi : aM) (pc : Nat) (i : Instr) (x y w : Nat) : Bool := match i with
  | .getfield j => match aFT x y with
    | some q => wIs w (.fieldLink mi.own j q.1 q.2.1 q.2.2.1)
    | none => decide (x = 9) && (if y = 0 then wIs w (.fieldLink mi.own j RJ0 "value" "[B") else decide (y = 1) && wIs w (.fieldLink mi.own j RJ0 "coder" "B"))
  | .putfield j => match aFT x y with
    | some q => wIs w (.fieldLink mi.own j q.1 q.2.1 q.2.2.1) && (!q.2.2.2 || (mi.ini && decide (q.1 = mi.own)))
    | none => false
  | .ifCond _ off => decide ((pc : Int) + off = (aPc mi.cd x : Int))
  | .if_icmp _ off => decide ((pc : Int) + off = (aPc mi.cd x : Int))
  | .goto off => decide ((pc : Int) + off = (aPc mi.cd x : Int))
  | .ifnull off => decide ((pc : Int) + off = (aPc mi.cd x : Int))
  | .ifnonnull off => decide ((pc : Int) + off = (aPc mi.cd x : Int))
  | .ldc j => if y = 0 then wIs w (.constant mi.own j (Int32.ofNat x)) else aStr.any (fun q => decide (q.1 = mi.own ∧ q.2.1 = j ∧ q.2.2.2 = x))
  | .ldc_w j => if y = 0 then wIs w (.constant mi.own j (Int32.ofNat x)) else aStr.any (fun q => decide (q.1 = mi.own ∧ q.2.1 = j ∧ q.2.2.2 = x))
  | .ldc2_w j => wIs w (.constantLong mi.own j (Int64.ofNat x))
  | .new j => match aCls[x]? with
    | some q => wIs w (.classLink mi.own j q.1)
    | none => false
  | .newarray at' => decide (newarray.typeOf at' = aTy x) && decide (x < 4)
  | .anewarray j => match aTy x with
    | .object C => wIs w (.classLink mi.own j C) && decide (4 ≤ x) && decide (x < 7)
    | _ => false
  | .getstatic j => aSta.any (fun q => decide (q.2.2.2.1 = x ∧ q.2.2.2.2 = y) && wIs w (.fieldLink mi.own j q.1 q.2.1 q.2.2.1))
  | .invokestatic j => match pg x with
    | some mj => wIs w (.methodLink mi.own j mj.y) && cChk mj y && mj.sta && !mj.ini
    | none => false
  | .invokevirtual j => match pg x with
    | some mj => wIs w (.methodLink mi.own j mj.y) && cChk mj (y % 16) && !mj.sta && !mj.ini && (decide ((aCls[y / 16]?).map (fun q => q.1) = some mj.y.cls) || (decide (y / 16 = 9) && decide (mj.y.cls = RJ0)) || (decide (y / 16 = 0) && decide (mj.y.cls = RJ5) && inOk (.sameMethod RJ5 RJ5 mj.y.name mj.y.desc) && inOk (.selects RJ4 mj.y mj.y)))
    | none => false
  | .invokespecial j => if x = 1000 then wIs w (.methodLink mi.own j objectInit) else if 1000 ≤ y then (match pg x with
    | some mj => wIs w (.methodLink mi.own j mj.y) && cChk mj (y - 1000) && !mj.ini && !mj.sta && decide (mj.y.cls = RJ5) && decide (mi.own = RJ4) && inOk (.sameMethod RJ5 RJ5 mj.y.name mj.y.desc) && inOk (.superclass RJ4 RJ5)
    | none => false) else match pg x with
    | some mj => (if w < 10000 then wIs w (.methodLink mi.own j mj.y) else decide (.methodLinkNest mi.own j mj.y RX8 ∈ aNw)) && cChk mj y && mj.ini && decide (mj.rt = none) && !mj.sta
    | none => false
  | _ => true
def eChk (pg : Nat → Option aM) (mi : aM) (k : Nat) (e : aE) : Bool := match e with
  | (_, .athrow, _, _, _, _) => true
  | (pc, .monitorenter, _, x, _, w) => decide (decode mi.bs pc = .ok (.invokestatic x, 3)) && decide (aPc mi.cd (k + 1) = pc + 3) && wIs w (.methodLink mi.own x arraycopyName) && inOk (.native arraycopyName) && inOk (.static arraycopyName) && inOk (.initialized "java/lang/System")
  | (pc, i, len, x, y, w) => decide (decode mi.bs pc = .ok (i, len)) && (!(eFall i) || decide (aPc mi.cd (k + 1) = pc + len)) && (eSw i || decide (len = kLen i)) && lChk pg mi pc i x y w
/-- a method: its code word, what its kind asks for; every instruction -/
def mChk (pg : Nat → Option aM) (mi : aM) (w1 w2 w3 w4 : Nat) : Bool :=
  wIs w1 (.code mi.y mi.bs mi.nL mi.rt) && (if mi.sta then wIs w2 (.static mi.y) else wIs w2 (.instanceMethod mi.y)) && (mi.sta || mi.ini || decide (mi.y.cls = RJ5) || wIs w3 (.selects mi.y.cls mi.y mi.y)) && wIs w4 (.initialized mi.y.cls) && decide (aPc mi.cd 0 = 0) && plainFor mi.y && decide (mi.own = mi.y.cls) && (mi.cd.zipIdx.all fun q => eChk pg mi q.2 q.1)
end
section
/-! ===== the program, by program ===== -/
def cd_0 : List aE := [(0, .aload_n 0, 1, 0, 0, 0), (1, .invokespecial 3, 3, 1000, 0, 312), (4, .aload_n 0, 1, 0, 0, 0), (5, .sipush 319, 3, 0, 0, 0), (8, .newarray .int, 2, 0, 0, 0), (10, .putfield 11, 3, 1, 0, 313), (13, .return_, 1, 0, 0, 0)]
def cd_1 : List aE := [(0, .aload_n 0, 1, 0, 0, 0), (1, .iload_n 1, 1, 0, 0, 0), (2, .putfield 15, 3, 1, 2, 315), (5, .aload_n 0, 1, 0, 0, 0), (6, .iconst 0, 1, 0, 0, 0), (7, .putfield 19, 3, 1, 1, 314), (10, .return_, 1, 0, 0, 0)]
def cd_2 : List aE := [(0, .aload_n 0, 1, 0, 0, 0), (1, .getfield 19, 3, 1, 1, 314), (4, .ireturn, 1, 0, 0, 0)]
def cd_3 : List aE := [(0, .iload_n 1, 1, 0, 0, 0), (1, .ifCond .lt 29, 3, 16, 0, 0), (4, .iload_n 1, 1, 0, 0, 0), (5, .aload_n 0, 1, 0, 0, 0), (6, .getfield 19, 3, 1, 1, 314), (9, .if_icmp .ge 21, 3, 16, 0, 0), (12, .iload_n 1, 1, 0, 0, 0), (13, .aload_n 0, 1, 0, 0, 0), (14, .getfield 11, 3, 1, 0, 313), (17, .arraylength, 1, 0, 0, 0), (18, .if_icmp .ge 12, 3, 16, 0, 0), (21, .aload_n 0, 1, 0, 0, 0), (22, .getfield 11, 3, 1, 0, 313), (25, .iload_n 1, 1, 0, 0, 0), (26, .iaload, 1, 0, 0, 0), (27, .goto 4, 3, 17, 0, 0), (30, .iconst (-1), 1, 0, 0, 0), (31, .ireturn, 1, 0, 0, 0)]
def cd_4 : List aE := [(0, .aload_n 0, 1, 0, 0, 0), (1, .getfield 15, 3, 1, 2, 315), (4, .aload_n 0, 1, 0, 0, 0), (5, .getfield 19, 3, 1, 1, 314), (8, .iadd, 1, 0, 0, 0), (9, .iconst 4, 1, 0, 0, 0), (10, .irem, 1, 0, 0, 0), (11, .ireturn, 1, 0, 0, 0)]
def cd_5 : List aE := [(0, .iload_n 1, 1, 0, 0, 0), (1, .ifCond .lt 21, 3, 11, 0, 0), (4, .iload_n 1, 1, 0, 0, 0), (5, .bipush 37, 2, 0, 0, 0), (7, .if_icmp .gt 15, 3, 11, 0, 0), (10, .aload_n 0, 1, 0, 0, 0), (11, .getfield 19, 3, 1, 1, 314), (14, .aload_n 0, 1, 0, 0, 0), (15, .getfield 11, 3, 1, 0, 313), (18, .arraylength, 1, 0, 0, 0), (19, .if_icmp .lt 5, 3, 13, 0, 0), (22, .iconst 0, 1, 0, 0, 0), (23, .ireturn, 1, 0, 0, 0), (24, .iload_n 1, 1, 0, 0, 0), (25, .ifCond .ne 5, 3, 17, 0, 0), (28, .iconst 1, 1, 0, 0, 0), (29, .ireturn, 1, 0, 0, 0), (30, .iload_n 1, 1, 0, 0, 0), (31, .iconst 3, 1, 0, 0, 0), (32, .if_icmp .lt 17, 3, 28, 0, 0), (35, .iload_n 1, 1, 0, 0, 0), (36, .aload_n 0, 1, 0, 0, 0), (37, .invokevirtual 22, 3, 10, 16, 401), (40, .if_icmp .le 7, 3, 26, 0, 0), (43, .iconst 1, 1, 0, 0, 0), (44, .goto 4, 3, 27, 0, 0), (47, .iconst 0, 1, 0, 0, 0), (48, .ireturn, 1, 0, 0, 0), (49, .aload_n 0, 1, 0, 0, 0), (50, .iconst 1, 1, 0, 0, 0), (51, .invokevirtual 26, 3, 9, 17, 393), (54, .istore_n 2, 1, 0, 0, 0), (55, .aload_n 0, 1, 0, 0, 0), (56, .getfield 19, 3, 1, 1, 314), (59, .iload_n 2, 1, 0, 0, 0), (60, .isub, 1, 0, 0, 0), (61, .iconst 2, 1, 0, 0, 0), (62, .irem, 1, 0, 0, 0), (63, .iconst 1, 1, 0, 0, 0), (64, .if_icmp .ne 7, 3, 42, 0, 0), (67, .iconst 1, 1, 0, 0, 0), (68, .goto 4, 3, 43, 0, 0), (71, .iconst 0, 1, 0, 0, 0), (72, .istore_n 3, 1, 0, 0, 0), (73, .aload_n 0, 1, 0, 0, 0), (74, .iload_n 2, 1, 0, 0, 0), (75, .invokevirtual 30, 3, 3, 17, 405), (78, .istore 4, 2, 0, 0, 0), (80, .iload_n 3, 1, 0, 0, 0), (81, .ifCond .eq 27, 3, 62, 0, 0), (84, .iload_n 1, 1, 0, 0, 0), (85, .iconst 1, 1, 0, 0, 0), (86, .if_icmp .ne 12, 3, 57, 0, 0), (89, .iload 4, 2, 0, 0, 0), (91, .iconst 3, 1, 0, 0, 0), (92, .if_icmp .lt 16, 3, 62, 0, 0), (95, .goto 9, 3, 60, 0, 0), (98, .iload 4, 2, 0, 0, 0), (100, .iconst 1, 1, 0, 0, 0), (101, .if_icmp .ne 7, 3, 62, 0, 0), (104, .iconst 1, 1, 0, 0, 0), (105, .goto 4, 3, 63, 0, 0), (108, .iconst 0, 1, 0, 0, 0), (109, .ireturn, 1, 0, 0, 0)]
def cd_6 : List aE := [(0, .aload_n 0, 1, 0, 0, 0), (1, .getfield 19, 3, 1, 1, 314), (4, .aload_n 0, 1, 0, 0, 0), (5, .getfield 11, 3, 1, 0, 313), (8, .arraylength, 1, 0, 0, 0), (9, .if_icmp .ge 23, 3, 18, 0, 0), (12, .aload_n 0, 1, 0, 0, 0), (13, .getfield 11, 3, 1, 0, 313), (16, .aload_n 0, 1, 0, 0, 0), (17, .getfield 19, 3, 1, 1, 314), (20, .iload_n 1, 1, 0, 0, 0), (21, .iastore, 1, 0, 0, 0), (22, .aload_n 0, 1, 0, 0, 0), (23, .dup, 1, 0, 0, 0), (24, .getfield 19, 3, 1, 1, 314), (27, .iconst 1, 1, 0, 0, 0), (28, .iadd, 1, 0, 0, 0), (29, .putfield 19, 3, 1, 1, 314), (32, .return_, 1, 0, 0, 0)]
def cd_7 : List aE := [(0, .aload_n 0, 1, 0, 0, 0), (1, .getfield 19, 3, 1, 1, 314), (4, .ifCond .ne 5, 3, 5, 0, 0), (7, .iconst 0, 1, 0, 0, 0), (8, .ireturn, 1, 0, 0, 0), (9, .aload_n 0, 1, 0, 0, 0), (10, .dup, 1, 0, 0, 0), (11, .getfield 19, 3, 1, 1, 314), (14, .iconst 1, 1, 0, 0, 0), (15, .isub, 1, 0, 0, 0), (16, .putfield 19, 3, 1, 1, 314), (19, .iconst 1, 1, 0, 0, 0), (20, .ireturn, 1, 0, 0, 0)]
def cd_8 : List aE := [(0, .aload_n 0, 1, 0, 0, 0), (1, .getfield 19, 3, 1, 1, 314), (4, .iconst 4, 1, 0, 0, 0), (5, .if_icmp .lt 21, 3, 14, 0, 0), (8, .aload_n 0, 1, 0, 0, 0), (9, .iconst 1, 1, 0, 0, 0), (10, .invokevirtual 26, 3, 9, 17, 393), (13, .aload_n 0, 1, 0, 0, 0), (14, .getfield 19, 3, 1, 1, 314), (17, .iconst 3, 1, 0, 0, 0), (18, .isub, 1, 0, 0, 0), (19, .if_icmp .ge 7, 3, 14, 0, 0), (22, .iconst 1, 1, 0, 0, 0), (23, .goto 4, 3, 15, 0, 0), (26, .iconst 0, 1, 0, 0, 0), (27, .ireturn, 1, 0, 0, 0)]
def cd_9 : List aE := [(0, .aload_n 0, 1, 0, 0, 0), (1, .getfield 19, 3, 1, 1, 314), (4, .aload_n 0, 1, 0, 0, 0), (5, .getfield 11, 3, 1, 0, 313), (8, .arraylength, 1, 0, 0, 0), (9, .if_icmp .gt 12, 3, 11, 0, 0), (12, .aload_n 0, 1, 0, 0, 0), (13, .getfield 19, 3, 1, 1, 314), (16, .iconst 1, 1, 0, 0, 0), (17, .isub, 1, 0, 0, 0), (18, .goto 4, 3, 12, 0, 0), (21, .iconst (-1), 1, 0, 0, 0), (22, .istore_n 2, 1, 0, 0, 0), (23, .iload_n 2, 1, 0, 0, 0), (24, .istore_n 3, 1, 0, 0, 0), (25, .iload_n 3, 1, 0, 0, 0), (26, .ifCond .lt 21, 3, 27, 0, 0), (29, .aload_n 0, 1, 0, 0, 0), (30, .getfield 11, 3, 1, 0, 313), (33, .iload_n 3, 1, 0, 0, 0), (34, .iaload, 1, 0, 0, 0), (35, .iload_n 1, 1, 0, 0, 0), (36, .if_icmp .lt 5, 3, 25, 0, 0), (39, .iload_n 3, 1, 0, 0, 0), (40, .ireturn, 1, 0, 0, 0), (41, .iinc 3 (-1), 3, 0, 0, 0), (44, .goto (-19), 3, 15, 0, 0), (47, .iconst (-1), 1, 0, 0, 0), (48, .ireturn, 1, 0, 0, 0)]
def cd_10 : List aE := [(0, .aload_n 0, 1, 0, 0, 0), (1, .aload_n 0, 1, 0, 0, 0), (2, .iconst 3, 1, 0, 0, 0), (3, .invokevirtual 26, 3, 9, 17, 393), (6, .invokevirtual 30, 3, 3, 17, 405), (9, .ireturn, 1, 0, 0, 0)]
def cd_11 : List aE := [(0, .aload_n 0, 1, 0, 0, 0), (1, .invokevirtual 22, 3, 10, 16, 401), (4, .istore_n 1, 1, 0, 0, 0), (5, .iload_n 1, 1, 0, 0, 0), (6, .iconst (-1), 1, 0, 0, 0), (7, .if_icmp .ne 7, 3, 8, 0, 0), (10, .iconst (-1), 1, 0, 0, 0), (11, .goto 10, 3, 15, 0, 0), (14, .iload_n 1, 1, 0, 0, 0), (15, .iconst 3, 1, 0, 0, 0), (16, .isub, 1, 0, 0, 0), (17, .iconst 5, 1, 0, 0, 0), (18, .idiv, 1, 0, 0, 0), (19, .iconst 1, 1, 0, 0, 0), (20, .iadd, 1, 0, 0, 0), (21, .ireturn, 1, 0, 0, 0)]
def cd_12 : List aE := [(0, .aload_n 0, 1, 0, 0, 0), (1, .invokevirtual 22, 3, 10, 16, 401), (4, .istore_n 1, 1, 0, 0, 0), (5, .iload_n 1, 1, 0, 0, 0), (6, .iconst (-1), 1, 0, 0, 0), (7, .if_icmp .ne 7, 3, 8, 0, 0), (10, .iconst (-1), 1, 0, 0, 0), (11, .goto 8, 3, 13, 0, 0), (14, .iload_n 1, 1, 0, 0, 0), (15, .iconst 3, 1, 0, 0, 0), (16, .isub, 1, 0, 0, 0), (17, .iconst 5, 1, 0, 0, 0), (18, .irem, 1, 0, 0, 0), (19, .ireturn, 1, 0, 0, 0)]
def cd_13 : List aE := [(0, .aload_n 0, 1, 0, 0, 0), (1, .aload_n 0, 1, 0, 0, 0), (2, .iconst 1, 1, 0, 0, 0), (3, .invokevirtual 26, 3, 9, 17, 393), (6, .invokevirtual 30, 3, 3, 17, 405), (9, .istore_n 1, 1, 0, 0, 0), (10, .iload_n 1, 1, 0, 0, 0), (11, .iconst 3, 1, 0, 0, 0), (12, .if_icmp .lt 7, 3, 11, 0, 0), (15, .iconst 0, 1, 0, 0, 0), (16, .goto 4, 3, 12, 0, 0), (19, .iload_n 1, 1, 0, 0, 0), (20, .ireturn, 1, 0, 0, 0)]
def cd_14 : List aE := [(0, .aload_n 0, 1, 0, 0, 0), (1, .iconst 3, 1, 0, 0, 0), (2, .invokevirtual 26, 3, 9, 17, 393), (5, .istore_n 1, 1, 0, 0, 0), (6, .iload_n 1, 1, 0, 0, 0), (7, .iconst (-1), 1, 0, 0, 0), (8, .if_icmp .ne 5, 3, 9, 0, 0), (11, .iconst (-1), 1, 0, 0, 0), (12, .ireturn, 1, 0, 0, 0), (13, .aload_n 0, 1, 0, 0, 0), (14, .invokevirtual 33, 3, 12, 16, 421), (17, .istore_n 2, 1, 0, 0, 0), (18, .iload_n 1, 1, 0, 0, 0), (19, .iconst 2, 1, 0, 0, 0), (20, .irem, 1, 0, 0, 0), (21, .istore_n 3, 1, 0, 0, 0), (22, .iload_n 3, 1, 0, 0, 0), (23, .iload_n 1, 1, 0, 0, 0), (24, .if_icmp .gt 40, 3, 41, 0, 0), (27, .aload_n 0, 1, 0, 0, 0), (28, .iload_n 3, 1, 0, 0, 0), (29, .invokevirtual 30, 3, 3, 17, 405), (32, .iconst 3, 1, 0, 0, 0), (33, .isub, 1, 0, 0, 0), (34, .istore 4, 2, 0, 0, 0), (36, .iload 4, 2, 0, 0, 0), (38, .ifCond .lt 20, 3, 39, 0, 0), (41, .iload 4, 2, 0, 0, 0), (43, .iconst 5, 1, 0, 0, 0), (44, .irem, 1, 0, 0, 0), (45, .iload_n 2, 1, 0, 0, 0), (46, .if_icmp .ne 12, 3, 39, 0, 0), (49, .aload_n 0, 1, 0, 0, 0), (50, .getfield 15, 3, 1, 2, 315), (53, .iload_n 3, 1, 0, 0, 0), (54, .iadd, 1, 0, 0, 0), (55, .iconst 4, 1, 0, 0, 0), (56, .irem, 1, 0, 0, 0), (57, .ireturn, 1, 0, 0, 0), (58, .iinc 3 2, 3, 0, 0, 0), (61, .goto (-39), 3, 16, 0, 0), (64, .iconst (-1), 1, 0, 0, 0), (65, .ireturn, 1, 0, 0, 0)]
def cd_15 : List aE := [(0, .aload_n 0, 1, 0, 0, 0), (1, .invokespecial 3, 3, 1000, 0, 190), (4, .aload_n 0, 1, 0, 0, 0), (5, .iconst 4, 1, 0, 0, 0), (6, .newarray .long, 2, 3, 0, 0), (8, .putfield 9, 3, 2, 1, 192), (11, .aload_n 0, 1, 0, 0, 0), (12, .iload_n 1, 1, 0, 0, 0), (13, .putfield 15, 3, 2, 0, 191), (16, .return_, 1, 0, 0, 0)]
def cd_16 : List aE := [(0, .iload_n 1, 1, 0, 0, 0), (1, .ifCond .lt 12, 3, 7, 0, 0), (4, .iload_n 1, 1, 0, 0, 0), (5, .aload_n 0, 1, 0, 0, 0), (6, .getfield 9, 3, 2, 1, 192), (9, .arraylength, 1, 0, 0, 0), (10, .if_icmp .lt 4, 3, 8, 0, 0), (13, .return_, 1, 0, 0, 0), (14, .iconst 0, 1, 0, 0, 0), (15, .istore_n 3, 1, 0, 0, 0), (16, .iload_n 3, 1, 0, 0, 0), (17, .aload_n 0, 1, 0, 0, 0), (18, .getfield 9, 3, 2, 1, 192), (21, .arraylength, 1, 0, 0, 0), (22, .if_icmp .ge 26, 3, 28, 0, 0), (25, .aload_n 0, 1, 0, 0, 0), (26, .getfield 9, 3, 2, 1, 192), (29, .iload_n 3, 1, 0, 0, 0), (30, .dup2, 1, 0, 0, 0), (31, .laload, 1, 0, 0, 0), (32, .iload_n 2, 1, 0, 0, 0), (33, .invokestatic 19, 3, 29, 1, 208), (36, .ldc2_w 25, 3, 18446744073709551615, 0, 211), (39, .lxor, 1, 0, 0, 0), (40, .land, 1, 0, 0, 0), (41, .lastore, 1, 0, 0, 0), (42, .iinc 3 1, 3, 0, 0, 0), (45, .goto (-29), 3, 10, 0, 0), (48, .aload_n 0, 1, 0, 0, 0), (49, .getfield 9, 3, 2, 1, 192), (52, .iload_n 1, 1, 0, 0, 0), (53, .dup2, 1, 0, 0, 0), (54, .laload, 1, 0, 0, 0), (55, .iload_n 2, 1, 0, 0, 0), (56, .invokestatic 19, 3, 29, 1, 208), (59, .lor, 1, 0, 0, 0), (60, .lastore, 1, 0, 0, 0), (61, .return_, 1, 0, 0, 0)]
def cd_17 : List aE := [(0, .iload_n 1, 1, 0, 0, 0), (1, .ifCond .lt 21, 3, 12, 0, 0), (4, .iload_n 1, 1, 0, 0, 0), (5, .aload_n 0, 1, 0, 0, 0), (6, .getfield 9, 3, 2, 1, 192), (9, .arraylength, 1, 0, 0, 0), (10, .if_icmp .ge 12, 3, 12, 0, 0), (13, .aload_n 0, 1, 0, 0, 0), (14, .getfield 9, 3, 2, 1, 192), (17, .iload_n 1, 1, 0, 0, 0), (18, .laload, 1, 0, 0, 0), (19, .goto 4, 3, 13, 0, 0), (22, .lconst 0, 1, 0, 0, 0), (23, .lreturn, 1, 0, 0, 0)]
def cd_18 : List aE := [(0, .iconst 0, 1, 0, 0, 0), (1, .istore_n 2, 1, 0, 0, 0), (2, .iload_n 2, 1, 0, 0, 0), (3, .aload_n 0, 1, 0, 0, 0), (4, .getfield 9, 3, 2, 1, 192), (7, .arraylength, 1, 0, 0, 0), (8, .if_icmp .ge 24, 3, 18, 0, 0), (11, .aload_n 0, 1, 0, 0, 0), (12, .getfield 9, 3, 2, 1, 192), (15, .iload_n 2, 1, 0, 0, 0), (16, .laload, 1, 0, 0, 0), (17, .iload_n 1, 1, 0, 0, 0), (18, .invokestatic 27, 3, 30, 2, 231), (21, .ifCond .eq 5, 3, 16, 0, 0), (24, .iload_n 2, 1, 0, 0, 0), (25, .ireturn, 1, 0, 0, 0), (26, .iinc 2 1, 3, 0, 0, 0), (29, .goto (-27), 3, 2, 0, 0), (32, .iconst (-1), 1, 0, 0, 0), (33, .ireturn, 1, 0, 0, 0)]
def cd_19 : List aE := [(0, .aload_n 0, 1, 0, 0, 0), (1, .getfield 15, 3, 2, 0, 191), (4, .ireturn, 1, 0, 0, 0)]
def cd_20 : List aE := [(0, .aload_n 0, 1, 0, 0, 0), (1, .getfield 15, 3, 2, 0, 191), (4, .iconst 1, 1, 0, 0, 0), (5, .isub, 1, 0, 0, 0), (6, .iconst 4, 1, 0, 0, 0), (7, .irem, 1, 0, 0, 0), (8, .ireturn, 1, 0, 0, 0)]
def cd_21 : List aE := [(0, .aload_n 0, 1, 0, 0, 0), (1, .getfield 15, 3, 2, 0, 191), (4, .iconst 1, 1, 0, 0, 0), (5, .isub, 1, 0, 0, 0), (6, .bipush 16, 2, 0, 0, 0), (8, .irem, 1, 0, 0, 0), (9, .istore_n 1, 1, 0, 0, 0), (10, .iload_n 1, 1, 0, 0, 0), (11, .iload_n 1, 1, 0, 0, 0), (12, .iconst 4, 1, 0, 0, 0), (13, .idiv, 1, 0, 0, 0), (14, .iadd, 1, 0, 0, 0), (15, .iconst 4, 1, 0, 0, 0), (16, .irem, 1, 0, 0, 0), (17, .ireturn, 1, 0, 0, 0)]
def cd_22 : List aE := [(0, .aload_n 0, 1, 0, 0, 0), (1, .invokevirtual 31, 3, 21, 32, 520), (4, .iload_n 1, 1, 0, 0, 0), (5, .ifCond .ne 7, 3, 6, 0, 0), (8, .iconst 1, 1, 0, 0, 0), (9, .goto 4, 3, 7, 0, 0), (12, .iconst 2, 1, 0, 0, 0), (13, .iand, 1, 0, 0, 0), (14, .ifCond .eq 7, 3, 11, 0, 0), (17, .iconst 1, 1, 0, 0, 0), (18, .goto 4, 3, 12, 0, 0), (21, .iconst 0, 1, 0, 0, 0), (22, .ireturn, 1, 0, 0, 0)]
def cd_23 : List aE := [(0, .aload_n 0, 1, 0, 0, 0), (1, .iconst 1, 1, 0, 0, 0), (2, .putfield 35, 3, 2, 2, 193), (5, .return_, 1, 0, 0, 0)]
def cd_24 : List aE := [(0, .aload_n 0, 1, 0, 0, 0), (1, .getfield 35, 3, 2, 2, 193), (4, .ireturn, 1, 0, 0, 0)]
def cd_25 : List aE := [(0, .aload_n 0, 1, 0, 0, 0), (1, .dup, 1, 0, 0, 0), (2, .getfield 39, 3, 2, 3, 194), (5, .iconst 1, 1, 0, 0, 0), (6, .iadd, 1, 0, 0, 0), (7, .putfield 39, 3, 2, 3, 194), (10, .return_, 1, 0, 0, 0)]
def cd_26 : List aE := [(0, .aload_n 0, 1, 0, 0, 0), (1, .getfield 39, 3, 2, 3, 194), (4, .ireturn, 1, 0, 0, 0)]
def cd_27 : List aE := [(0, .iload_n 0, 1, 0, 0, 0), (1, .ifCond .lt 13, 3, 7, 0, 0), (4, .iload_n 0, 1, 0, 0, 0), (5, .bipush 52, 2, 0, 0, 0), (7, .if_icmp .ge 7, 3, 7, 0, 0), (10, .iconst 1, 1, 0, 0, 0), (11, .goto 4, 3, 8, 0, 0), (14, .iconst 0, 1, 0, 0, 0), (15, .ireturn, 1, 0, 0, 0)]
def cd_28 : List aE := [(0, .iload_n 0, 1, 0, 0, 0), (1, .bipush 13, 2, 0, 0, 0), (3, .idiv, 1, 0, 0, 0), (4, .ireturn, 1, 0, 0, 0)]
def cd_29 : List aE := [(0, .lconst 1, 1, 0, 0, 0), (1, .iload_n 0, 1, 0, 0, 0), (2, .lshl, 1, 0, 0, 0), (3, .lreturn, 1, 0, 0, 0)]
def cd_30 : List aE := [(0, .lload_n 0, 1, 0, 0, 0), (1, .iload_n 2, 1, 0, 0, 0), (2, .invokestatic 11, 3, 29, 1, 234), (5, .land, 1, 0, 0, 0), (6, .lconst 0, 1, 0, 0, 0), (7, .lcmp, 1, 0, 0, 0), (8, .ifCond .eq 7, 3, 9, 0, 0), (11, .iconst 1, 1, 0, 0, 0), (12, .goto 4, 3, 10, 0, 0), (15, .iconst 0, 1, 0, 0, 0), (16, .ireturn, 1, 0, 0, 0)]
def cd_31 : List aE := [(0, .lload_n 0, 1, 0, 0, 0), (1, .ldc2_w 15, 3, 8191, 0, 609), (4, .bipush 13, 2, 0, 0, 0), (6, .iload_n 2, 1, 0, 0, 0), (7, .imul, 1, 0, 0, 0), (8, .lshl, 1, 0, 0, 0), (9, .land, 1, 0, 0, 0), (10, .lreturn, 1, 0, 0, 0)]
def cd_32 : List aE := [(0, .iload_n 2, 1, 0, 0, 0), (1, .iconst (-1), 1, 0, 0, 0), (2, .if_icmp .ne 7, 3, 5, 0, 0), (5, .lconst 0, 1, 0, 0, 0), (6, .goto 8, 3, 8, 0, 0), (9, .lload_n 0, 1, 0, 0, 0), (10, .iload_n 2, 1, 0, 0, 0), (11, .invokestatic 17, 3, 31, 2, 606), (14, .lstore_n 3, 1, 0, 0, 0), (15, .lload_n 3, 1, 0, 0, 0), (16, .lconst 0, 1, 0, 0, 0), (17, .lcmp, 1, 0, 0, 0), (18, .ifCond .eq 7, 3, 15, 0, 0), (21, .lload_n 3, 1, 0, 0, 0), (22, .goto 4, 3, 16, 0, 0), (25, .lload_n 0, 1, 0, 0, 0), (26, .lreturn, 1, 0, 0, 0)]
def cd_33 : List aE := [(0, .iload_n 0, 1, 0, 0, 0), (1, .bipush 13, 2, 0, 0, 0), (3, .idiv, 1, 0, 0, 0), (4, .istore_n 3, 1, 0, 0, 0), (5, .iload_n 3, 1, 0, 0, 0), (6, .iload_n 1, 1, 0, 0, 0), (7, .bipush 13, 2, 0, 0, 0), (9, .idiv, 1, 0, 0, 0), (10, .if_icmp .ne 16, 3, 16, 0, 0), (13, .iload_n 0, 1, 0, 0, 0), (14, .iload_n 1, 1, 0, 0, 0), (15, .if_icmp .le 7, 3, 14, 0, 0), (18, .iconst 1, 1, 0, 0, 0), (19, .goto 17, 3, 22, 0, 0), (22, .iconst 0, 1, 0, 0, 0), (23, .goto 13, 3, 22, 0, 0), (26, .iload_n 3, 1, 0, 0, 0), (27, .iload_n 2, 1, 0, 0, 0), (28, .if_icmp .ne 7, 3, 21, 0, 0), (31, .iconst 1, 1, 0, 0, 0), (32, .goto 4, 3, 22, 0, 0), (35, .iconst 0, 1, 0, 0, 0), (36, .ireturn, 1, 0, 0, 0)]
def cd_34 : List aE := [(0, .aload_n 0, 1, 0, 0, 0), (1, .invokespecial 3, 3, 1000, 0, 92), (4, .aload_n 0, 1, 0, 0, 0), (5, .iconst 4, 1, 0, 0, 0), (6, .newarray .long, 2, 3, 0, 0), (8, .putfield 9, 3, 3, 0, 93), (11, .return_, 1, 0, 0, 0)]
def cd_35 : List aE := [(0, .aload_n 1, 1, 0, 0, 0), (1, .invokevirtual 15, 3, 102, 96, 658), (4, .astore_n 2, 1, 0, 0, 0), (5, .iconst 0, 1, 0, 0, 0), (6, .istore_n 3, 1, 0, 0, 0), (7, .iload_n 3, 1, 0, 0, 0), (8, .aload_n 0, 1, 0, 0, 0), (9, .getfield 9, 3, 3, 0, 93), (12, .arraylength, 1, 0, 0, 0), (13, .if_icmp .ge 20, 3, 19, 0, 0), (16, .aload_n 0, 1, 0, 0, 0), (17, .getfield 9, 3, 3, 0, 93), (20, .iload_n 3, 1, 0, 0, 0), (21, .aload_n 1, 1, 0, 0, 0), (22, .iload_n 3, 1, 0, 0, 0), (23, .invokevirtual 21, 3, 101, 97, 662), (26, .lastore, 1, 0, 0, 0), (27, .iinc 3 1, 3, 0, 0, 0), (30, .goto (-23), 3, 5, 0, 0), (33, .aload_n 0, 1, 0, 0, 0), (34, .aload_n 2, 1, 0, 0, 0), (35, .invokevirtual 25, 3, 49, 64, 663), (38, .putfield 31, 3, 3, 1, 94), (41, .aload_n 0, 1, 0, 0, 0), (42, .aload_n 2, 1, 0, 0, 0), (43, .invokevirtual 34, 3, 47, 64, 667), (46, .iconst 2, 1, 0, 0, 0), (47, .irem, 1, 0, 0, 0), (48, .putfield 37, 3, 3, 2, 95), (51, .aload_n 0, 1, 0, 0, 0), (52, .bipush 52, 2, 0, 0, 0), (54, .aload_n 2, 1, 0, 0, 0), (55, .invokevirtual 40, 3, 45, 64, 668), (58, .isub, 1, 0, 0, 0), (59, .putfield 43, 3, 3, 3, 96), (62, .aload_n 0, 1, 0, 0, 0), (63, .aload_n 2, 1, 0, 0, 0), (64, .invokevirtual 46, 3, 54, 64, 672), (67, .putfield 49, 3, 3, 4, 97), (70, .aload_n 0, 1, 0, 0, 0), (71, .aload_n 2, 1, 0, 0, 0), (72, .invokevirtual 51, 3, 55, 64, 673), (75, .putfield 54, 3, 3, 5, 98), (78, .aload_n 2, 1, 0, 0, 0), (79, .invokevirtual 40, 3, 45, 64, 668), (82, .aload_n 2, 1, 0, 0, 0), (83, .invokevirtual 56, 3, 51, 64, 674), (86, .isub, 1, 0, 0, 0), (87, .istore_n 3, 1, 0, 0, 0), (88, .aload_n 0, 1, 0, 0, 0), (89, .aload_n 2, 1, 0, 0, 0), (90, .iload_n 3, 1, 0, 0, 0), (91, .aload_n 2, 1, 0, 0, 0), (92, .invokevirtual 56, 3, 51, 64, 674), (95, .invokevirtual 59, 3, 58, 66, 675), (98, .putfield 63, 3, 3, 6, 99), (101, .aload_n 0, 1, 0, 0, 0), (102, .aload_n 2, 1, 0, 0, 0), (103, .iload_n 3, 1, 0, 0, 0), (104, .aload_n 2, 1, 0, 0, 0), (105, .invokevirtual 56, 3, 51, 64, 674), (108, .aload_n 2, 1, 0, 0, 0), (109, .aload_n 2, 1, 0, 0, 0), (110, .invokevirtual 66, 3, 52, 64, 676), (113, .invokevirtual 69, 3, 53, 65, 677), (116, .invokevirtual 73, 3, 59, 67, 678), (119, .putfield 77, 3, 3, 7, 100), (122, .return_, 1, 0, 0, 0)]
def cd_36 : List aE := [(0, .aload_n 0, 1, 0, 0, 0), (1, .aload_n 1, 1, 0, 0, 0), (2, .invokevirtual 80, 3, 35, 49, 654), (5, .aload_n 1, 1, 0, 0, 0), (6, .invokevirtual 84, 3, 100, 96, 679), (9, .istore_n 2, 1, 0, 0, 0), (10, .iload_n 2, 1, 0, 0, 0), (11, .ifCond .le 40, 3, 25, 0, 0), (14, .aload_n 0, 1, 0, 0, 0), (15, .aload_n 0, 1, 0, 0, 0), (16, .getfield 49, 3, 3, 4, 97), (19, .aload_n 0, 1, 0, 0, 0), (20, .getfield 54, 3, 3, 5, 98), (23, .aload_n 0, 1, 0, 0, 0), (24, .getfield 63, 3, 3, 6, 99), (27, .aload_n 0, 1, 0, 0, 0), (28, .getfield 77, 3, 3, 7, 100), (31, .iload_n 2, 1, 0, 0, 0), (32, .aload_n 0, 1, 0, 0, 0), (33, .getfield 43, 3, 3, 3, 96), (36, .invokevirtual 87, 3, 38, 54, 680), (39, .ifCond .eq 6, 3, 23, 0, 0), (42, .goto 9, 3, 25, 0, 0), (45, .iinc 2 (-1), 3, 0, 0, 0), (48, .goto (-38), 3, 6, 0, 0), (51, .iload_n 2, 1, 0, 0, 0), (52, .ireturn, 1, 0, 0, 0)]
def cd_37 : List aE := [(0, .aload_n 0, 1, 0, 0, 0), (1, .aload_n 1, 1, 0, 0, 0), (2, .invokevirtual 91, 3, 36, 49, 807), (5, .istore_n 2, 1, 0, 0, 0), (6, .aload_n 0, 1, 0, 0, 0), (7, .getfield 49, 3, 3, 4, 97), (10, .iconst 2, 1, 0, 0, 0), (11, .irem, 1, 0, 0, 0), (12, .aload_n 0, 1, 0, 0, 0), (13, .getfield 37, 3, 3, 2, 95), (16, .if_icmp .ne 7, 3, 13, 0, 0), (19, .iconst 1, 1, 0, 0, 0), (20, .goto 4, 3, 14, 0, 0), (23, .iconst 0, 1, 0, 0, 0), (24, .istore_n 3, 1, 0, 0, 0), (25, .aload_n 1, 1, 0, 0, 0), (26, .invokevirtual 95, 3, 93, 96, 808), (29, .lstore 4, 2, 0, 0, 0), (31, .iconst 0, 1, 0, 0, 0), (32, .istore 6, 2, 0, 0, 0), (34, .iload 6, 2, 0, 0, 0), (36, .bipush 52, 2, 0, 0, 0), (38, .if_icmp .ge 70, 3, 56, 0, 0), (41, .lload 4, 2, 0, 0, 0), (43, .iload 6, 2, 0, 0, 0), (45, .invokestatic 99, 3, 30, 2, 809), (48, .ifCond .ne 6, 3, 28, 0, 0), (51, .goto 51, 3, 54, 0, 0), (54, .iload_n 3, 1, 0, 0, 0), (55, .ifCond .eq 7, 3, 32, 0, 0), (58, .iload_n 2, 1, 0, 0, 0), (59, .goto 6, 3, 35, 0, 0), (62, .iload_n 2, 1, 0, 0, 0), (63, .iconst 1, 1, 0, 0, 0), (64, .iadd, 1, 0, 0, 0), (65, .istore 7, 2, 0, 0, 0), (67, .aload_n 0, 1, 0, 0, 0), (68, .iload 6, 2, 0, 0, 0), (70, .aload_n 0, 1, 0, 0, 0), (71, .getfield 49, 3, 3, 4, 97), (74, .aload_n 0, 1, 0, 0, 0), (75, .getfield 54, 3, 3, 5, 98), (78, .aload_n 0, 1, 0, 0, 0), (79, .getfield 63, 3, 3, 6, 99), (82, .aload_n 0, 1, 0, 0, 0), (83, .getfield 77, 3, 3, 7, 100), (86, .iload 7, 2, 0, 0, 0), (88, .aload_n 0, 1, 0, 0, 0), (89, .getfield 43, 3, 3, 3, 96), (92, .invokevirtual 105, 3, 39, 55, 705), (95, .iload_n 3, 1, 0, 0, 0), (96, .if_icmp .ne 6, 3, 54, 0, 0), (99, .iload 6, 2, 0, 0, 0), (101, .ireturn, 1, 0, 0, 0), (102, .iinc 6 1, 3, 0, 0, 0), (105, .goto (-71), 3, 20, 0, 0), (108, .iconst (-1), 1, 0, 0, 0), (109, .ireturn, 1, 0, 0, 0)]
def cd_38 : List aE := [(0, .iload 5, 2, 0, 0, 0), (2, .ifCond .gt 5, 3, 4, 0, 0), (5, .iconst 1, 1, 0, 0, 0), (6, .ireturn, 1, 0, 0, 0), (7, .iload 6, 2, 0, 0, 0), (9, .bipush 16, 2, 0, 0, 0), (11, .if_icmp .gt 16, 3, 16, 0, 0), (14, .iload 5, 2, 0, 0, 0), (16, .iload 6, 2, 0, 0, 0), (18, .iconst 4, 1, 0, 0, 0), (19, .iadd, 1, 0, 0, 0), (20, .iconst 1, 1, 0, 0, 0), (21, .isub, 1, 0, 0, 0), (22, .iconst 4, 1, 0, 0, 0), (23, .idiv, 1, 0, 0, 0), (24, .if_icmp .le 5, 3, 18, 0, 0), (27, .iconst 0, 1, 0, 0, 0), (28, .ireturn, 1, 0, 0, 0), (29, .iload 6, 2, 0, 0, 0), (31, .iconst 4, 1, 0, 0, 0), (32, .if_icmp .ne 9, 3, 25, 0, 0), (35, .aload_n 0, 1, 0, 0, 0), (36, .iload_n 1, 1, 0, 0, 0), (37, .invokevirtual 109, 3, 40, 49, 684), (40, .ireturn, 1, 0, 0, 0), (41, .iload_n 1, 1, 0, 0, 0), (42, .iconst 2, 1, 0, 0, 0), (43, .irem, 1, 0, 0, 0), (44, .aload_n 0, 1, 0, 0, 0), (45, .getfield 37, 3, 3, 2, 95), (48, .if_icmp .ne 7, 3, 33, 0, 0), (51, .iconst 1, 1, 0, 0, 0), (52, .goto 4, 3, 34, 0, 0), (55, .iconst 0, 1, 0, 0, 0), (56, .istore 7, 2, 0, 0, 0), (58, .aload_n 0, 1, 0, 0, 0), (59, .iload_n 1, 1, 0, 0, 0), (60, .invokevirtual 113, 3, 41, 49, 695), (63, .iload_n 3, 1, 0, 0, 0), (64, .iconst (-1), 1, 0, 0, 0), (65, .if_icmp .ne 7, 3, 43, 0, 0), (68, .lconst 0, 1, 0, 0, 0), (69, .goto 7, 3, 45, 0, 0), (72, .iload_n 3, 1, 0, 0, 0), (73, .invokestatic 116, 3, 29, 1, 699), (76, .lor, 1, 0, 0, 0), (77, .lstore 8, 2, 0, 0, 0), (79, .iload_n 1, 1, 0, 0, 0), (80, .ifCond .lt 25, 3, 61, 0, 0), (83, .iload_n 1, 1, 0, 0, 0), (84, .aload_n 0, 1, 0, 0, 0), (85, .getfield 9, 3, 3, 0, 93), (88, .arraylength, 1, 0, 0, 0), (89, .if_icmp .ge 16, 3, 61, 0, 0), (92, .aload_n 0, 1, 0, 0, 0), (93, .getfield 9, 3, 3, 0, 93), (96, .iload_n 1, 1, 0, 0, 0), (97, .laload, 1, 0, 0, 0), (98, .iload_n 2, 1, 0, 0, 0), (99, .invokestatic 119, 3, 32, 2, 700), (102, .goto 4, 3, 62, 0, 0), (105, .lconst 0, 1, 0, 0, 0), (106, .lstore 10, 2, 0, 0, 0), (108, .iconst (-1), 1, 0, 0, 0), (109, .istore 12, 2, 0, 0, 0), (111, .iconst 0, 1, 0, 0, 0), (112, .istore 13, 2, 0, 0, 0), (114, .iload 13, 2, 0, 0, 0), (116, .iconst 4, 1, 0, 0, 0), (117, .if_icmp .ge 97, 3, 119, 0, 0), (120, .lload 10, 2, 0, 0, 0), (122, .lconst 0, 1, 0, 0, 0), (123, .lcmp, 1, 0, 0, 0), (124, .ifCond .eq 90, 3, 119, 0, 0), (127, .lload 10, 2, 0, 0, 0), (129, .lload 10, 2, 0, 0, 0), (131, .lneg, 1, 0, 0, 0), (132, .land, 1, 0, 0, 0), (133, .lstore 14, 2, 0, 0, 0), (135, .lload 10, 2, 0, 0, 0), (137, .lload 14, 2, 0, 0, 0), (139, .lxor, 1, 0, 0, 0), (140, .lstore 10, 2, 0, 0, 0), (142, .lload 14, 2, 0, 0, 0), (144, .lconst 1, 1, 0, 0, 0), (145, .lsub, 1, 0, 0, 0), (146, .invokestatic 122, 3, 226, 1, 688), (149, .istore 16, 2, 0, 0, 0), (151, .iload 12, 2, 0, 0, 0), (153, .iconst (-1), 1, 0, 0, 0), (154, .if_icmp .eq 15, 3, 96, 0, 0), (157, .iload 12, 2, 0, 0, 0), (159, .iload 16, 2, 0, 0, 0), (161, .lload 8, 2, 0, 0, 0), (163, .invokestatic 128, 3, 42, 3, 701), (166, .ifCond .ne 7, 3, 98, 0, 0), (169, .iconst 1, 1, 0, 0, 0), (170, .goto 4, 3, 99, 0, 0), (173, .iconst 0, 1, 0, 0, 0), (174, .istore 17, 2, 0, 0, 0), (176, .iload 16, 2, 0, 0, 0), (178, .istore 12, 2, 0, 0, 0), (180, .iload 17, 2, 0, 0, 0), (182, .ifCond .eq 26, 3, 117, 0, 0), (185, .aload_n 0, 1, 0, 0, 0), (186, .iload 16, 2, 0, 0, 0), (188, .iload_n 1, 1, 0, 0, 0), (189, .iload_n 2, 1, 0, 0, 0), (190, .iload_n 3, 1, 0, 0, 0), (191, .iload 4, 2, 0, 0, 0), (193, .iload 5, 2, 0, 0, 0), (195, .iload 6, 2, 0, 0, 0), (197, .invokevirtual 105, 3, 39, 55, 705), (200, .iload 7, 2, 0, 0, 0), (202, .if_icmp .ne 6, 3, 117, 0, 0), (205, .iload 7, 2, 0, 0, 0), (207, .ireturn, 1, 0, 0, 0), (208, .iinc 13 1, 3, 0, 0, 0), (211, .goto (-97), 3, 67, 0, 0), (214, .iload 7, 2, 0, 0, 0), (216, .ifCond .ne 7, 3, 123, 0, 0), (219, .iconst 1, 1, 0, 0, 0), (220, .goto 4, 3, 124, 0, 0), (223, .iconst 0, 1, 0, 0, 0), (224, .ireturn, 1, 0, 0, 0)]
def cd_39 : List aE := [(0, .iload_n 2, 1, 0, 0, 0), (1, .ifCond .lt 12, 3, 7, 0, 0), (4, .iload_n 2, 1, 0, 0, 0), (5, .aload_n 0, 1, 0, 0, 0), (6, .getfield 9, 3, 3, 0, 93), (9, .arraylength, 1, 0, 0, 0), (10, .if_icmp .lt 5, 3, 9, 0, 0), (13, .iconst 0, 1, 0, 0, 0), (14, .ireturn, 1, 0, 0, 0), (15, .iload 4, 2, 0, 0, 0), (17, .iconst (-1), 1, 0, 0, 0), (18, .if_icmp .eq 16, 3, 18, 0, 0), (21, .iload_n 1, 1, 0, 0, 0), (22, .iload 4, 2, 0, 0, 0), (24, .aload_n 0, 1, 0, 0, 0), (25, .getfield 31, 3, 3, 1, 94), (28, .invokestatic 132, 3, 33, 3, 694), (31, .ifCond .eq 7, 3, 20, 0, 0), (34, .iconst 1, 1, 0, 0, 0), (35, .goto 4, 3, 21, 0, 0), (38, .iconst 0, 1, 0, 0, 0), (39, .istore 8, 2, 0, 0, 0), (41, .iload 8, 2, 0, 0, 0), (43, .ifCond .eq 7, 3, 26, 0, 0), (46, .iload_n 2, 1, 0, 0, 0), (47, .goto 5, 3, 27, 0, 0), (50, .iload 5, 2, 0, 0, 0), (52, .istore 9, 2, 0, 0, 0), (54, .aload_n 0, 1, 0, 0, 0), (55, .getfield 9, 3, 3, 0, 93), (58, .iload_n 2, 1, 0, 0, 0), (59, .dup2, 1, 0, 0, 0), (60, .laload, 1, 0, 0, 0), (61, .iload_n 1, 1, 0, 0, 0), (62, .invokestatic 116, 3, 29, 1, 699), (65, .lxor, 1, 0, 0, 0), (66, .lastore, 1, 0, 0, 0), (67, .iload 7, 2, 0, 0, 0), (69, .iconst 4, 1, 0, 0, 0), (70, .irem, 1, 0, 0, 0), (71, .iconst 1, 1, 0, 0, 0), (72, .if_icmp .ne 44, 3, 66, 0, 0), (75, .iload 9, 2, 0, 0, 0), (77, .iconst 2, 1, 0, 0, 0), (78, .irem, 1, 0, 0, 0), (79, .aload_n 0, 1, 0, 0, 0), (80, .getfield 37, 3, 3, 2, 95), (83, .if_icmp .ne 7, 3, 50, 0, 0), (86, .iconst 1, 1, 0, 0, 0), (87, .goto 4, 3, 51, 0, 0), (90, .iconst 0, 1, 0, 0, 0), (91, .istore 11, 2, 0, 0, 0), (93, .aload_n 0, 1, 0, 0, 0), (94, .iload 9, 2, 0, 0, 0), (96, .iconst (-1), 1, 0, 0, 0), (97, .iconst (-1), 1, 0, 0, 0), (98, .iconst (-1), 1, 0, 0, 0), (99, .iload 6, 2, 0, 0, 0), (101, .iload 11, 2, 0, 0, 0), (103, .isub, 1, 0, 0, 0), (104, .iload 7, 2, 0, 0, 0), (106, .iconst 1, 1, 0, 0, 0), (107, .isub, 1, 0, 0, 0), (108, .invokevirtual 87, 3, 38, 54, 680), (111, .istore 10, 2, 0, 0, 0), (113, .goto 50, 3, 93, 0, 0), (116, .iload_n 3, 1, 0, 0, 0), (117, .iconst (-1), 1, 0, 0, 0), (118, .if_icmp .ne 10, 3, 72, 0, 0), (121, .iload_n 1, 1, 0, 0, 0), (122, .invokestatic 136, 3, 28, 1, 704), (125, .goto 4, 3, 73, 0, 0), (128, .iload_n 3, 1, 0, 0, 0), (129, .istore 11, 2, 0, 0, 0), (131, .aload_n 0, 1, 0, 0, 0), (132, .iload_n 2, 1, 0, 0, 0), (133, .iconst 1, 1, 0, 0, 0), (134, .iadd, 1, 0, 0, 0), (135, .iconst 4, 1, 0, 0, 0), (136, .irem, 1, 0, 0, 0), (137, .iload 11, 2, 0, 0, 0), (139, .iload 8, 2, 0, 0, 0), (141, .ifCond .eq 7, 3, 85, 0, 0), (144, .iload_n 1, 1, 0, 0, 0), (145, .goto 5, 3, 86, 0, 0), (148, .iload 4, 2, 0, 0, 0), (150, .iload 9, 2, 0, 0, 0), (152, .iload 6, 2, 0, 0, 0), (154, .iload 7, 2, 0, 0, 0), (156, .iconst 1, 1, 0, 0, 0), (157, .isub, 1, 0, 0, 0), (158, .invokevirtual 87, 3, 38, 54, 680), (161, .istore 10, 2, 0, 0, 0), (163, .aload_n 0, 1, 0, 0, 0), (164, .getfield 9, 3, 3, 0, 93), (167, .iload_n 2, 1, 0, 0, 0), (168, .dup2, 1, 0, 0, 0), (169, .laload, 1, 0, 0, 0), (170, .iload_n 1, 1, 0, 0, 0), (171, .invokestatic 116, 3, 29, 1, 699), (174, .lxor, 1, 0, 0, 0), (175, .lastore, 1, 0, 0, 0), (176, .iload 10, 2, 0, 0, 0), (178, .ireturn, 1, 0, 0, 0)]
def cd_40 : List aE := [(0, .iconst (-1), 1, 0, 0, 0), (1, .istore_n 2, 1, 0, 0, 0), (2, .iload_n 1, 1, 0, 0, 0), (3, .istore_n 3, 1, 0, 0, 0), (4, .iconst 0, 1, 0, 0, 0), (5, .istore 4, 2, 0, 0, 0), (7, .iload 4, 2, 0, 0, 0), (9, .iconst 4, 1, 0, 0, 0), (10, .if_icmp .ge 78, 3, 49, 0, 0), (13, .iload_n 1, 1, 0, 0, 0), (14, .iload 4, 2, 0, 0, 0), (16, .iadd, 1, 0, 0, 0), (17, .iconst 4, 1, 0, 0, 0), (18, .irem, 1, 0, 0, 0), (19, .istore 5, 2, 0, 0, 0), (21, .iload 5, 2, 0, 0, 0), (23, .ifCond .lt 23, 3, 27, 0, 0), (26, .iload 5, 2, 0, 0, 0), (28, .aload_n 0, 1, 0, 0, 0), (29, .getfield 9, 3, 3, 0, 93), (32, .arraylength, 1, 0, 0, 0), (33, .if_icmp .ge 13, 3, 27, 0, 0), (36, .aload_n 0, 1, 0, 0, 0), (37, .getfield 9, 3, 3, 0, 93), (40, .iload 5, 2, 0, 0, 0), (42, .laload, 1, 0, 0, 0), (43, .goto 4, 3, 28, 0, 0), (46, .lconst 0, 1, 0, 0, 0), (47, .lstore 6, 2, 0, 0, 0), (49, .lload 6, 2, 0, 0, 0), (51, .lconst 1, 1, 0, 0, 0), (52, .lsub, 1, 0, 0, 0), (53, .invokestatic 122, 3, 226, 1, 688), (56, .istore 8, 2, 0, 0, 0), (58, .iload_n 2, 1, 0, 0, 0), (59, .iconst (-1), 1, 0, 0, 0), (60, .if_icmp .eq 16, 3, 43, 0, 0), (63, .iload 8, 2, 0, 0, 0), (65, .iload_n 2, 1, 0, 0, 0), (66, .aload_n 0, 1, 0, 0, 0), (67, .getfield 31, 3, 3, 1, 94), (70, .invokestatic 132, 3, 33, 3, 694), (73, .ifCond .eq 9, 3, 47, 0, 0), (76, .iload 8, 2, 0, 0, 0), (78, .istore_n 2, 1, 0, 0, 0), (79, .iload 5, 2, 0, 0, 0), (81, .istore_n 3, 1, 0, 0, 0), (82, .iinc 4 1, 3, 0, 0, 0), (85, .goto (-78), 3, 6, 0, 0), (88, .iload_n 3, 1, 0, 0, 0), (89, .iconst 2, 1, 0, 0, 0), (90, .irem, 1, 0, 0, 0), (91, .aload_n 0, 1, 0, 0, 0), (92, .getfield 37, 3, 3, 2, 95), (95, .if_icmp .ne 7, 3, 57, 0, 0), (98, .iconst 1, 1, 0, 0, 0), (99, .goto 4, 3, 58, 0, 0), (102, .iconst 0, 1, 0, 0, 0), (103, .ireturn, 1, 0, 0, 0)]
def cd_41 : List aE := [(0, .lconst 0, 1, 0, 0, 0), (1, .lstore_n 2, 1, 0, 0, 0), (2, .iconst 0, 1, 0, 0, 0), (3, .istore 4, 2, 0, 0, 0), (5, .iload 4, 2, 0, 0, 0), (7, .aload_n 0, 1, 0, 0, 0), (8, .getfield 9, 3, 3, 0, 93), (11, .arraylength, 1, 0, 0, 0), (12, .if_icmp .ge 25, 3, 21, 0, 0), (15, .iload 4, 2, 0, 0, 0), (17, .iload_n 1, 1, 0, 0, 0), (18, .if_icmp .eq 13, 3, 19, 0, 0), (21, .lload_n 2, 1, 0, 0, 0), (22, .aload_n 0, 1, 0, 0, 0), (23, .getfield 9, 3, 3, 0, 93), (26, .iload 4, 2, 0, 0, 0), (28, .laload, 1, 0, 0, 0), (29, .lor, 1, 0, 0, 0), (30, .lstore_n 2, 1, 0, 0, 0), (31, .iinc 4 1, 3, 0, 0, 0), (34, .goto (-29), 3, 4, 0, 0), (37, .lload_n 2, 1, 0, 0, 0), (38, .lreturn, 1, 0, 0, 0)]
def cd_42 : List aE := [(0, .iload_n 1, 1, 0, 0, 0), (1, .invokestatic 116, 3, 29, 1, 699), (4, .iload_n 0, 1, 0, 0, 0), (5, .invokestatic 116, 3, 29, 1, 699), (8, .lsub, 1, 0, 0, 0), (9, .lstore 4, 2, 0, 0, 0), (11, .iload_n 0, 1, 0, 0, 0), (12, .invokestatic 136, 3, 28, 1, 704), (15, .iload_n 1, 1, 0, 0, 0), (16, .invokestatic 136, 3, 28, 1, 704), (19, .if_icmp .ne 16, 3, 19, 0, 0), (22, .lload_n 2, 1, 0, 0, 0), (23, .lload 4, 2, 0, 0, 0), (25, .land, 1, 0, 0, 0), (26, .lconst 0, 1, 0, 0, 0), (27, .lcmp, 1, 0, 0, 0), (28, .ifCond .ne 7, 3, 19, 0, 0), (31, .iconst 1, 1, 0, 0, 0), (32, .goto 4, 3, 20, 0, 0), (35, .iconst 0, 1, 0, 0, 0), (36, .ireturn, 1, 0, 0, 0)]
def cd_43 : List aE := [(0, .aload_n 0, 1, 0, 0, 0), (1, .invokespecial 3, 3, 1000, 0, 328), (4, .aload_n 0, 1, 0, 0, 0), (5, .bipush 52, 2, 0, 0, 0), (7, .newarray .int, 2, 0, 0, 0), (9, .putfield 9, 3, 4, 0, 329), (12, .aload_n 0, 1, 0, 0, 0), (13, .bipush 14, 2, 0, 0, 0), (15, .newarray .int, 2, 0, 0, 0), (17, .putfield 15, 3, 4, 1, 330), (20, .return_, 1, 0, 0, 0)]
def cd_44 : List aE := [(0, .aload_n 0, 1, 0, 0, 0), (1, .iconst 0, 1, 0, 0, 0), (2, .putfield 18, 3, 4, 2, 331), (5, .aload_n 0, 1, 0, 0, 0), (6, .lconst 0, 1, 0, 0, 0), (7, .putfield 22, 3, 4, 3, 332), (10, .aload_n 0, 1, 0, 0, 0), (11, .iload_n 1, 1, 0, 0, 0), (12, .putfield 26, 3, 4, 4, 333), (15, .aload_n 0, 1, 0, 0, 0), (16, .iload_n 2, 1, 0, 0, 0), (17, .putfield 29, 3, 4, 5, 334), (20, .aload_n 0, 1, 0, 0, 0), (21, .getfield 15, 3, 4, 1, 330), (24, .iconst 0, 1, 0, 0, 0), (25, .iload_n 1, 1, 0, 0, 0), (26, .iconst 1, 1, 0, 0, 0), (27, .iadd, 1, 0, 0, 0), (28, .iconst 4, 1, 0, 0, 0), (29, .irem, 1, 0, 0, 0), (30, .iastore, 1, 0, 0, 0), (31, .return_, 1, 0, 0, 0)]
def cd_45 : List aE := [(0, .aload_n 0, 1, 0, 0, 0), (1, .getfield 18, 3, 4, 2, 331), (4, .ireturn, 1, 0, 0, 0)]
def cd_46 : List aE := [(0, .iload_n 1, 1, 0, 0, 0), (1, .ifCond .lt 29, 3, 16, 0, 0), (4, .iload_n 1, 1, 0, 0, 0), (5, .aload_n 0, 1, 0, 0, 0), (6, .getfield 18, 3, 4, 2, 331), (9, .if_icmp .ge 21, 3, 16, 0, 0), (12, .iload_n 1, 1, 0, 0, 0), (13, .aload_n 0, 1, 0, 0, 0), (14, .getfield 9, 3, 4, 0, 329), (17, .arraylength, 1, 0, 0, 0), (18, .if_icmp .ge 12, 3, 16, 0, 0), (21, .aload_n 0, 1, 0, 0, 0), (22, .getfield 9, 3, 4, 0, 329), (25, .iload_n 1, 1, 0, 0, 0), (26, .iaload, 1, 0, 0, 0), (27, .goto 4, 3, 17, 0, 0), (30, .iconst (-1), 1, 0, 0, 0), (31, .ireturn, 1, 0, 0, 0)]
def cd_47 : List aE := [(0, .aload_n 0, 1, 0, 0, 0), (1, .getfield 26, 3, 4, 4, 333), (4, .ireturn, 1, 0, 0, 0)]
def cd_48 : List aE := [(0, .aload_n 0, 1, 0, 0, 0), (1, .getfield 26, 3, 4, 4, 333), (4, .iconst 2, 1, 0, 0, 0), (5, .iadd, 1, 0, 0, 0), (6, .iconst 4, 1, 0, 0, 0), (7, .irem, 1, 0, 0, 0), (8, .ireturn, 1, 0, 0, 0)]
def cd_49 : List aE := [(0, .aload_n 0, 1, 0, 0, 0), (1, .getfield 29, 3, 4, 5, 334), (4, .ireturn, 1, 0, 0, 0)]
def cd_50 : List aE := [(0, .aload_n 0, 1, 0, 0, 0), (1, .getfield 22, 3, 4, 3, 332), (4, .lreturn, 1, 0, 0, 0)]
def cd_51 : List aE := [(0, .aload_n 0, 1, 0, 0, 0), (1, .getfield 18, 3, 4, 2, 331), (4, .iconst 4, 1, 0, 0, 0), (5, .irem, 1, 0, 0, 0), (6, .ireturn, 1, 0, 0, 0)]
def cd_52 : List aE := [(0, .aload_n 0, 1, 0, 0, 0), (1, .getfield 18, 3, 4, 2, 331), (4, .iconst 4, 1, 0, 0, 0), (5, .idiv, 1, 0, 0, 0), (6, .ireturn, 1, 0, 0, 0)]
def cd_53 : List aE := [(0, .iload_n 1, 1, 0, 0, 0), (1, .ifCond .lt 21, 3, 12, 0, 0), (4, .iload_n 1, 1, 0, 0, 0), (5, .aload_n 0, 1, 0, 0, 0), (6, .getfield 15, 3, 4, 1, 330), (9, .arraylength, 1, 0, 0, 0), (10, .if_icmp .ge 12, 3, 12, 0, 0), (13, .aload_n 0, 1, 0, 0, 0), (14, .getfield 15, 3, 4, 1, 330), (17, .iload_n 1, 1, 0, 0, 0), (18, .iaload, 1, 0, 0, 0), (19, .goto 4, 3, 13, 0, 0), (22, .iconst 0, 1, 0, 0, 0), (23, .ireturn, 1, 0, 0, 0)]
def cd_54 : List aE := [(0, .aload_n 0, 1, 0, 0, 0), (1, .aload_n 0, 1, 0, 0, 0), (2, .invokevirtual 32, 3, 52, 64, 508), (5, .invokevirtual 36, 3, 53, 65, 512), (8, .aload_n 0, 1, 0, 0, 0), (9, .invokevirtual 40, 3, 51, 64, 575), (12, .iadd, 1, 0, 0, 0), (13, .iconst 4, 1, 0, 0, 0), (14, .irem, 1, 0, 0, 0), (15, .ireturn, 1, 0, 0, 0)]
def cd_55 : List aE := [(0, .aload_n 0, 1, 0, 0, 0), (1, .invokevirtual 40, 3, 51, 64, 575), (4, .ifCond .ne 7, 3, 5, 0, 0), (7, .iconst (-1), 1, 0, 0, 0), (8, .goto 19, 3, 13, 0, 0), (11, .aload_n 0, 1, 0, 0, 0), (12, .aload_n 0, 1, 0, 0, 0), (13, .getfield 18, 3, 4, 2, 331), (16, .aload_n 0, 1, 0, 0, 0), (17, .invokevirtual 40, 3, 51, 64, 575), (20, .isub, 1, 0, 0, 0), (21, .invokevirtual 43, 3, 46, 65, 596), (24, .invokestatic 46, 3, 28, 1, 600), (27, .ireturn, 1, 0, 0, 0)]
def cd_56 : List aE := [(0, .aload_n 0, 1, 0, 0, 0), (1, .getfield 18, 3, 4, 2, 331), (4, .aload_n 0, 1, 0, 0, 0), (5, .getfield 9, 3, 4, 0, 329), (8, .arraylength, 1, 0, 0, 0), (9, .if_icmp .lt 4, 3, 7, 0, 0), (12, .return_, 1, 0, 0, 0), (13, .aload_n 0, 1, 0, 0, 0), (14, .getfield 9, 3, 4, 0, 329), (17, .aload_n 0, 1, 0, 0, 0), (18, .getfield 18, 3, 4, 2, 331), (21, .iload_n 1, 1, 0, 0, 0), (22, .iastore, 1, 0, 0, 0), (23, .aload_n 0, 1, 0, 0, 0), (24, .dup, 1, 0, 0, 0), (25, .getfield 18, 3, 4, 2, 331), (28, .iconst 1, 1, 0, 0, 0), (29, .iadd, 1, 0, 0, 0), (30, .putfield 18, 3, 4, 2, 331), (33, .aload_n 0, 1, 0, 0, 0), (34, .dup, 1, 0, 0, 0), (35, .getfield 22, 3, 4, 3, 332), (38, .iload_n 1, 1, 0, 0, 0), (39, .invokestatic 51, 3, 29, 1, 619), (42, .lor, 1, 0, 0, 0), (43, .putfield 22, 3, 4, 3, 332), (46, .aload_n 0, 1, 0, 0, 0), (47, .invokevirtual 32, 3, 52, 64, 508), (50, .istore_n 2, 1, 0, 0, 0), (51, .aload_n 0, 1, 0, 0, 0), (52, .invokevirtual 40, 3, 51, 64, 575), (55, .ifCond .ne 41, 3, 56, 0, 0), (58, .iload_n 2, 1, 0, 0, 0), (59, .iconst 1, 1, 0, 0, 0), (60, .if_icmp .lt 36, 3, 56, 0, 0), (63, .iload_n 2, 1, 0, 0, 0), (64, .aload_n 0, 1, 0, 0, 0), (65, .getfield 15, 3, 4, 1, 330), (68, .arraylength, 1, 0, 0, 0), (69, .if_icmp .ge 27, 3, 56, 0, 0), (72, .aload_n 0, 1, 0, 0, 0), (73, .getfield 15, 3, 4, 1, 330), (76, .iload_n 2, 1, 0, 0, 0), (77, .aload_n 0, 1, 0, 0, 0), (78, .aload_n 0, 1, 0, 0, 0), (79, .getfield 18, 3, 4, 2, 331), (82, .iconst 4, 1, 0, 0, 0), (83, .isub, 1, 0, 0, 0), (84, .iconst 4, 1, 0, 0, 0), (85, .aload_n 0, 1, 0, 0, 0), (86, .iload_n 2, 1, 0, 0, 0), (87, .iconst 1, 1, 0, 0, 0), (88, .isub, 1, 0, 0, 0), (89, .invokevirtual 36, 3, 53, 65, 512), (92, .invokevirtual 55, 3, 59, 67, 620), (95, .iastore, 1, 0, 0, 0), (96, .return_, 1, 0, 0, 0)]
def cd_57 : List aE := [(0, .aload_n 0, 1, 0, 0, 0), (1, .getfield 18, 3, 4, 2, 331), (4, .ifCond .ne 5, 3, 5, 0, 0), (7, .iconst 0, 1, 0, 0, 0), (8, .ireturn, 1, 0, 0, 0), (9, .aload_n 0, 1, 0, 0, 0), (10, .dup, 1, 0, 0, 0), (11, .getfield 22, 3, 4, 3, 332), (14, .aload_n 0, 1, 0, 0, 0), (15, .aload_n 0, 1, 0, 0, 0), (16, .getfield 18, 3, 4, 2, 331), (19, .iconst 1, 1, 0, 0, 0), (20, .isub, 1, 0, 0, 0), (21, .invokevirtual 43, 3, 46, 65, 596), (24, .invokestatic 51, 3, 29, 1, 619), (27, .ldc2_w 59, 3, 18446744073709551615, 0, 721), (30, .lxor, 1, 0, 0, 0), (31, .land, 1, 0, 0, 0), (32, .putfield 22, 3, 4, 3, 332), (35, .aload_n 0, 1, 0, 0, 0), (36, .dup, 1, 0, 0, 0), (37, .getfield 18, 3, 4, 2, 331), (40, .iconst 1, 1, 0, 0, 0), (41, .isub, 1, 0, 0, 0), (42, .putfield 18, 3, 4, 2, 331), (45, .iconst 1, 1, 0, 0, 0), (46, .ireturn, 1, 0, 0, 0)]
def cd_58 : List aE := [(0, .aload_n 0, 1, 0, 0, 0), (1, .iload_n 1, 1, 0, 0, 0), (2, .invokevirtual 43, 3, 46, 65, 596), (5, .istore_n 3, 1, 0, 0, 0), (6, .iconst 1, 1, 0, 0, 0), (7, .istore 4, 2, 0, 0, 0), (9, .iload 4, 2, 0, 0, 0), (11, .iload_n 2, 1, 0, 0, 0), (12, .if_icmp .ge 35, 3, 25, 0, 0), (15, .aload_n 0, 1, 0, 0, 0), (16, .iload_n 1, 1, 0, 0, 0), (17, .iload 4, 2, 0, 0, 0), (19, .iadd, 1, 0, 0, 0), (20, .invokevirtual 43, 3, 46, 65, 596), (23, .istore 5, 2, 0, 0, 0), (25, .iload 5, 2, 0, 0, 0), (27, .iload_n 3, 1, 0, 0, 0), (28, .aload_n 0, 1, 0, 0, 0), (29, .getfield 29, 3, 4, 5, 334), (32, .invokestatic 61, 3, 33, 3, 628), (35, .ifCond .eq 6, 3, 23, 0, 0), (38, .iload 5, 2, 0, 0, 0), (40, .istore_n 3, 1, 0, 0, 0), (41, .iinc 4 1, 3, 0, 0, 0), (44, .goto (-35), 3, 6, 0, 0), (47, .iload_n 2, 1, 0, 0, 0), (48, .ifCond .le 7, 3, 29, 0, 0), (51, .iload_n 3, 1, 0, 0, 0), (52, .goto 4, 3, 30, 0, 0), (55, .iconst (-1), 1, 0, 0, 0), (56, .ireturn, 1, 0, 0, 0)]
def cd_59 : List aE := [(0, .aload_n 0, 1, 0, 0, 0), (1, .iload_n 1, 1, 0, 0, 0), (2, .iload_n 2, 1, 0, 0, 0), (3, .invokevirtual 65, 3, 58, 66, 624), (6, .istore 4, 2, 0, 0, 0), (8, .iconst 0, 1, 0, 0, 0), (9, .istore 5, 2, 0, 0, 0), (11, .iload 5, 2, 0, 0, 0), (13, .iload_n 2, 1, 0, 0, 0), (14, .if_icmp .ge 29, 3, 25, 0, 0), (17, .aload_n 0, 1, 0, 0, 0), (18, .iload_n 1, 1, 0, 0, 0), (19, .iload 5, 2, 0, 0, 0), (21, .iadd, 1, 0, 0, 0), (22, .invokevirtual 43, 3, 46, 65, 596), (25, .iload 4, 2, 0, 0, 0), (27, .if_icmp .ne 10, 3, 23, 0, 0), (30, .iload_n 3, 1, 0, 0, 0), (31, .iload 5, 2, 0, 0, 0), (33, .iadd, 1, 0, 0, 0), (34, .iconst 4, 1, 0, 0, 0), (35, .irem, 1, 0, 0, 0), (36, .ireturn, 1, 0, 0, 0), (37, .iinc 5 1, 3, 0, 0, 0), (40, .goto (-29), 3, 7, 0, 0), (43, .iload_n 3, 1, 0, 0, 0), (44, .ireturn, 1, 0, 0, 0)]
def cd_60 : List aE := [(0, .iconst 0, 1, 0, 0, 0), (1, .istore_n 2, 1, 0, 0, 0), (2, .iconst 1, 1, 0, 0, 0), (3, .istore_n 3, 1, 0, 0, 0), (4, .iload_n 3, 1, 0, 0, 0), (5, .aload_n 0, 1, 0, 0, 0), (6, .invokevirtual 32, 3, 52, 64, 508), (9, .if_icmp .gt 23, 3, 18, 0, 0), (12, .aload_n 0, 1, 0, 0, 0), (13, .iload_n 3, 1, 0, 0, 0), (14, .invokevirtual 36, 3, 53, 65, 512), (17, .iconst 2, 1, 0, 0, 0), (18, .irem, 1, 0, 0, 0), (19, .iload_n 1, 1, 0, 0, 0), (20, .if_icmp .ne 6, 3, 16, 0, 0), (23, .iinc 2 1, 3, 0, 0, 0), (26, .iinc 3 1, 3, 0, 0, 0), (29, .goto (-25), 3, 4, 0, 0), (32, .iload_n 2, 1, 0, 0, 0), (33, .ireturn, 1, 0, 0, 0)]
def cd_61 : List aE := [(0, .iconst 0, 1, 0, 0, 0), (1, .istore_n 3, 1, 0, 0, 0), (2, .iload_n 3, 1, 0, 0, 0), (3, .aload_n 0, 1, 0, 0, 0), (4, .getfield 18, 3, 4, 2, 331), (7, .if_icmp .ge 63, 3, 41, 0, 0), (10, .iload_n 1, 1, 0, 0, 0), (11, .aload_n 0, 1, 0, 0, 0), (12, .iload_n 3, 1, 0, 0, 0), (13, .iconst 4, 1, 0, 0, 0), (14, .idiv, 1, 0, 0, 0), (15, .invokevirtual 36, 3, 53, 65, 512), (18, .isub, 1, 0, 0, 0), (19, .iconst 4, 1, 0, 0, 0), (20, .iadd, 1, 0, 0, 0), (21, .iconst 4, 1, 0, 0, 0), (22, .irem, 1, 0, 0, 0), (23, .istore 4, 2, 0, 0, 0), (25, .aload_n 0, 1, 0, 0, 0), (26, .iload_n 3, 1, 0, 0, 0), (27, .iload 4, 2, 0, 0, 0), (29, .iadd, 1, 0, 0, 0), (30, .invokevirtual 43, 3, 46, 65, 596), (33, .istore 5, 2, 0, 0, 0), (35, .iload 5, 2, 0, 0, 0), (37, .iconst (-1), 1, 0, 0, 0), (38, .if_icmp .eq 26, 3, 39, 0, 0), (41, .aload_n 0, 1, 0, 0, 0), (42, .iload_n 3, 1, 0, 0, 0), (43, .invokevirtual 43, 3, 46, 65, 596), (46, .invokestatic 46, 3, 28, 1, 600), (49, .iload_n 2, 1, 0, 0, 0), (50, .if_icmp .ne 14, 3, 39, 0, 0), (53, .iload 5, 2, 0, 0, 0), (55, .invokestatic 46, 3, 28, 1, 600), (58, .iload_n 2, 1, 0, 0, 0), (59, .if_icmp .eq 5, 3, 39, 0, 0), (62, .iconst 1, 1, 0, 0, 0), (63, .ireturn, 1, 0, 0, 0), (64, .iinc 3 4, 3, 0, 0, 0), (67, .goto (-65), 3, 2, 0, 0), (70, .iconst 0, 1, 0, 0, 0), (71, .ireturn, 1, 0, 0, 0)]
def cd_62 : List aE := [(0, .aload_n 0, 1, 0, 0, 0), (1, .invokespecial 3, 3, 1000, 0, 449), (4, .aload_n 0, 1, 0, 0, 0), (5, .iconst (-1), 1, 0, 0, 0), (6, .putfield 9, 3, 5, 4, 454), (9, .aload_n 0, 1, 0, 0, 0), (10, .iconst (-1), 1, 0, 0, 0), (11, .putfield 15, 3, 5, 5, 455), (14, .aload_n 0, 1, 0, 0, 0), (15, .iconst (-1), 1, 0, 0, 0), (16, .putfield 18, 3, 5, 6, 456), (19, .aload_n 0, 1, 0, 0, 0), (20, .iconst (-1), 1, 0, 0, 0), (21, .putfield 21, 3, 5, 7, 457), (24, .aload_n 0, 1, 0, 0, 0), (25, .iload_n 1, 1, 0, 0, 0), (26, .putfield 24, 3, 5, 0, 450), (29, .aload_n 0, 1, 0, 0, 0), (30, .iload_n 2, 1, 0, 0, 0), (31, .putfield 27, 3, 5, 1, 451), (34, .aload_n 0, 1, 0, 0, 0), (35, .iload_n 3, 1, 0, 0, 0), (36, .putfield 30, 3, 5, 2, 452), (39, .return_, 1, 0, 0, 0)]
def cd_63 : List aE := [(0, .aload_n 0, 1, 0, 0, 0), (1, .iload_n 1, 1, 0, 0, 0), (2, .putfield 33, 3, 5, 3, 453), (5, .aload_n 0, 1, 0, 0, 0), (6, .iload_n 2, 1, 0, 0, 0), (7, .putfield 9, 3, 5, 4, 454), (10, .aload_n 0, 1, 0, 0, 0), (11, .iload_n 3, 1, 0, 0, 0), (12, .putfield 18, 3, 5, 6, 456), (15, .return_, 1, 0, 0, 0)]
def cd_64 : List aE := [(0, .aload_n 0, 1, 0, 0, 0), (1, .iload_n 1, 1, 0, 0, 0), (2, .putfield 15, 3, 5, 5, 455), (5, .aload_n 0, 1, 0, 0, 0), (6, .iload_n 2, 1, 0, 0, 0), (7, .putfield 21, 3, 5, 7, 457), (10, .aload_n 0, 1, 0, 0, 0), (11, .getfield 33, 3, 5, 3, 453), (14, .aload_n 0, 1, 0, 0, 0), (15, .getfield 9, 3, 5, 4, 454), (18, .aload_n 0, 1, 0, 0, 0), (19, .getfield 18, 3, 5, 6, 456), (22, .iload_n 3, 1, 0, 0, 0), (23, .aload_n 0, 1, 0, 0, 0), (24, .getfield 21, 3, 5, 7, 457), (27, .invokestatic 36, 3, 74, 5, 525), (30, .istore 4, 2, 0, 0, 0), (32, .aload_n 0, 1, 0, 0, 0), (33, .iload_n 1, 1, 0, 0, 0), (34, .iconst 2, 1, 0, 0, 0), (35, .irem, 1, 0, 0, 0), (36, .ifCond .ne 8, 3, 24, 0, 0), (39, .iload 4, 2, 0, 0, 0), (41, .goto 6, 3, 26, 0, 0), (44, .iload 4, 2, 0, 0, 0), (46, .ineg, 1, 0, 0, 0), (47, .putfield 42, 3, 5, 8, 458), (50, .return_, 1, 0, 0, 0)]
def cd_65 : List aE := [(0, .aload_n 0, 1, 0, 0, 0), (1, .iconst 1, 1, 0, 0, 0), (2, .putfield 45, 3, 5, 9, 459), (5, .aload_n 0, 1, 0, 0, 0), (6, .iload_n 1, 1, 0, 0, 0), (7, .putfield 49, 3, 5, 10, 460), (10, .aload_n 0, 1, 0, 0, 0), (11, .iload_n 2, 1, 0, 0, 0), (12, .putfield 52, 3, 5, 11, 461), (15, .return_, 1, 0, 0, 0)]
def cd_66 : List aE := [(0, .aload_n 0, 1, 0, 0, 0), (1, .getfield 24, 3, 5, 0, 450), (4, .ireturn, 1, 0, 0, 0)]
def cd_67 : List aE := [(0, .iload_n 1, 1, 0, 0, 0), (1, .aload_n 0, 1, 0, 0, 0), (2, .getfield 27, 3, 5, 1, 451), (5, .if_icmp .ne 7, 3, 6, 0, 0), (8, .iconst 0, 1, 0, 0, 0), (9, .goto 16, 3, 13, 0, 0), (12, .iload_n 1, 1, 0, 0, 0), (13, .aload_n 0, 1, 0, 0, 0), (14, .getfield 30, 3, 5, 2, 452), (17, .if_icmp .ne 7, 3, 12, 0, 0), (20, .iconst 1, 1, 0, 0, 0), (21, .goto 4, 3, 13, 0, 0), (24, .iconst (-1), 1, 0, 0, 0), (25, .ireturn, 1, 0, 0, 0)]
def cd_68 : List aE := [(0, .aload_n 0, 1, 0, 0, 0), (1, .getfield 42, 3, 5, 8, 458), (4, .ireturn, 1, 0, 0, 0)]
def cd_69 : List aE := [(0, .aload_n 0, 1, 0, 0, 0), (1, .getfield 45, 3, 5, 9, 459), (4, .ireturn, 1, 0, 0, 0)]
def cd_70 : List aE := [(0, .iload_n 1, 1, 0, 0, 0), (1, .ifCond .ne 10, 3, 5, 0, 0), (4, .aload_n 0, 1, 0, 0, 0), (5, .getfield 49, 3, 5, 10, 460), (8, .goto 7, 3, 7, 0, 0), (11, .aload_n 0, 1, 0, 0, 0), (12, .getfield 52, 3, 5, 11, 461), (15, .ireturn, 1, 0, 0, 0)]
def cd_71 : List aE := [(0, .iload_n 1, 1, 0, 0, 0), (1, .tableswitch 113 0 9 #[55, 60, 65, 70, 75, 80, 85, 90, 95, 100], 55, 0, 0, 0), (56, .aload_n 0, 1, 0, 0, 0), (57, .getfield 24, 3, 5, 0, 450), (60, .ireturn, 1, 0, 0, 0), (61, .aload_n 0, 1, 0, 0, 0), (62, .getfield 27, 3, 5, 1, 451), (65, .ireturn, 1, 0, 0, 0), (66, .aload_n 0, 1, 0, 0, 0), (67, .getfield 30, 3, 5, 2, 452), (70, .ireturn, 1, 0, 0, 0), (71, .aload_n 0, 1, 0, 0, 0), (72, .getfield 33, 3, 5, 3, 453), (75, .ireturn, 1, 0, 0, 0), (76, .aload_n 0, 1, 0, 0, 0), (77, .getfield 9, 3, 5, 4, 454), (80, .ireturn, 1, 0, 0, 0), (81, .aload_n 0, 1, 0, 0, 0), (82, .getfield 15, 3, 5, 5, 455), (85, .ireturn, 1, 0, 0, 0), (86, .aload_n 0, 1, 0, 0, 0), (87, .getfield 18, 3, 5, 6, 456), (90, .ireturn, 1, 0, 0, 0), (91, .aload_n 0, 1, 0, 0, 0), (92, .getfield 21, 3, 5, 7, 457), (95, .ireturn, 1, 0, 0, 0), (96, .aload_n 0, 1, 0, 0, 0), (97, .getfield 42, 3, 5, 8, 458), (100, .ireturn, 1, 0, 0, 0), (101, .aload_n 0, 1, 0, 0, 0), (102, .getfield 45, 3, 5, 9, 459), (105, .ifCond .eq 7, 3, 34, 0, 0), (108, .iconst 1, 1, 0, 0, 0), (109, .goto 4, 3, 35, 0, 0), (112, .iconst 0, 1, 0, 0, 0), (113, .ireturn, 1, 0, 0, 0), (114, .iconst (-1), 1, 0, 0, 0), (115, .ireturn, 1, 0, 0, 0)]
def cd_72 : List aE := [(0, .aload_n 0, 1, 0, 0, 0), (1, .getfield 33, 3, 5, 3, 453), (4, .ifCond .ne 11, 3, 8, 0, 0), (7, .aload_n 1, 1, 0, 0, 0), (8, .ldc 55, 2, 4, 1, 0), (10, .invokevirtual 57, 3, 247, 1, 980), (13, .pop, 1, 0, 0, 0), (14, .return_, 1, 0, 0, 0), (15, .aload_n 1, 1, 0, 0, 0), (16, .aload_n 0, 1, 0, 0, 0), (17, .getfield 33, 3, 5, 3, 453), (20, .invokevirtual 63, 3, 243, 1, 1060), (23, .pop, 1, 0, 0, 0), (24, .aload_n 1, 1, 0, 0, 0), (25, .ldc 66, 2, 6, 1, 0), (27, .aload_n 0, 1, 0, 0, 0), (28, .getfield 9, 3, 5, 4, 454), (31, .invokestatic 68, 3, 73, 2, 1086), (34, .invokevirtual 72, 3, 240, 1, 1117), (37, .pop, 1, 0, 0, 0), (38, .iconst 0, 1, 0, 0, 0), (39, .istore_n 2, 1, 0, 0, 0), (40, .iload_n 2, 1, 0, 0, 0), (41, .aload_n 0, 1, 0, 0, 0), (42, .getfield 18, 3, 5, 6, 456), (45, .if_icmp .ge 16, 3, 32, 0, 0), (48, .aload_n 1, 1, 0, 0, 0), (49, .bipush 88, 2, 0, 0, 0), (51, .invokevirtual 72, 3, 240, 1, 1117), (54, .pop, 1, 0, 0, 0), (55, .iinc 2 1, 3, 0, 0, 0), (58, .goto (-18), 3, 22, 0, 0), (61, .aload_n 1, 1, 0, 0, 0), (62, .bipush 32, 2, 0, 0, 0), (64, .invokevirtual 72, 3, 240, 1, 1117), (67, .pop, 1, 0, 0, 0), (68, .aload_n 1, 1, 0, 0, 0), (69, .ldc 75, 2, 8, 1, 0), (71, .aload_n 0, 1, 0, 0, 0), (72, .getfield 15, 3, 5, 5, 455), (75, .invokestatic 68, 3, 73, 2, 1086), (78, .invokevirtual 72, 3, 240, 1, 1117), (81, .pop, 1, 0, 0, 0), (82, .aload_n 1, 1, 0, 0, 0), (83, .bipush 32, 2, 0, 0, 0), (85, .invokevirtual 72, 3, 240, 1, 1117), (88, .pop, 1, 0, 0, 0), (89, .aload_n 0, 1, 0, 0, 0), (90, .getfield 21, 3, 5, 7, 457), (93, .aload_n 0, 1, 0, 0, 0), (94, .getfield 33, 3, 5, 3, 453), (97, .bipush 6, 2, 0, 0, 0), (99, .iadd, 1, 0, 0, 0), (100, .isub, 1, 0, 0, 0), (101, .istore_n 2, 1, 0, 0, 0), (102, .aload_n 1, 1, 0, 0, 0), (103, .iload_n 2, 1, 0, 0, 0), (104, .ifCond .ne 8, 3, 60, 0, 0), (107, .bipush 61, 2, 0, 0, 0), (109, .goto 14, 3, 65, 0, 0), (112, .iload_n 2, 1, 0, 0, 0), (113, .ifCond .le 8, 3, 64, 0, 0), (116, .bipush 43, 2, 0, 0, 0), (118, .goto 5, 3, 65, 0, 0), (121, .bipush 45, 2, 0, 0, 0), (123, .invokevirtual 72, 3, 240, 1, 1117), (126, .pop, 1, 0, 0, 0), (127, .iload_n 2, 1, 0, 0, 0), (128, .ifCond .eq 12, 3, 74, 0, 0), (131, .aload_n 1, 1, 0, 0, 0), (132, .iload_n 2, 1, 0, 0, 0), (133, .invokestatic 77, 3, 228, 1, 1131), (136, .invokevirtual 63, 3, 243, 1, 1060), (139, .pop, 1, 0, 0, 0), (140, .return_, 1, 0, 0, 0)]
def cd_73 : List aE := [(0, .iload_n 1, 1, 0, 0, 0), (1, .ifCond .lt 19, 3, 10, 0, 0), (4, .iload_n 1, 1, 0, 0, 0), (5, .aload_n 0, 1, 0, 0, 0), (6, .invokevirtual 83, 3, 253, 144, 1089), (9, .if_icmp .ge 11, 3, 10, 0, 0), (12, .aload_n 0, 1, 0, 0, 0), (13, .iload_n 1, 1, 0, 0, 0), (14, .invokevirtual 89, 3, 254, 145, 1090), (17, .goto 5, 3, 11, 0, 0), (20, .bipush 32, 2, 0, 0, 0), (22, .ireturn, 1, 0, 0, 0)]
def cd_74 : List aE := [(0, .iload 4, 2, 0, 0, 0), (2, .iload_n 0, 1, 0, 0, 0), (3, .bipush 6, 2, 0, 0, 0), (5, .iadd, 1, 0, 0, 0), (6, .isub, 1, 0, 0, 0), (7, .istore 5, 2, 0, 0, 0), (9, .iload 5, 2, 0, 0, 0), (11, .ifCond .ge 13, 3, 15, 0, 0), (14, .iload 5, 2, 0, 0, 0), (16, .ineg, 1, 0, 0, 0), (17, .iload_n 2, 1, 0, 0, 0), (18, .iload_n 3, 1, 0, 0, 0), (19, .invokestatic 7, 3, 79, 3, 528), (22, .ineg, 1, 0, 0, 0), (23, .ireturn, 1, 0, 0, 0), (24, .iload_n 0, 1, 0, 0, 0), (25, .iload_n 1, 1, 0, 0, 0), (26, .iload_n 2, 1, 0, 0, 0), (27, .invokestatic 13, 3, 76, 3, 534), (30, .istore 6, 2, 0, 0, 0), (32, .iload 6, 2, 0, 0, 0), (34, .iload 6, 2, 0, 0, 0), (36, .bipush 100, 2, 0, 0, 0), (38, .if_icmp .lt 19, 3, 30, 0, 0), (41, .iload_n 3, 1, 0, 0, 0), (42, .ifCond .eq 9, 3, 28, 0, 0), (45, .sipush 500, 3, 0, 0, 0), (48, .goto 11, 3, 31, 0, 0), (51, .sipush 300, 3, 0, 0, 0), (54, .goto 5, 3, 31, 0, 0), (57, .bipush 50, 2, 0, 0, 0), (59, .iadd, 1, 0, 0, 0), (60, .istore 6, 2, 0, 0, 0), (62, .iload 6, 2, 0, 0, 0), (64, .iload_n 0, 1, 0, 0, 0), (65, .iload_n 3, 1, 0, 0, 0), (66, .invokestatic 17, 3, 77, 2, 540), (69, .iadd, 1, 0, 0, 0), (70, .istore 6, 2, 0, 0, 0), (72, .iload 6, 2, 0, 0, 0), (74, .bipush 50, 2, 0, 0, 0), (76, .iload_n 2, 1, 0, 0, 0), (77, .imul, 1, 0, 0, 0), (78, .iadd, 1, 0, 0, 0), (79, .istore 6, 2, 0, 0, 0), (81, .iload 6, 2, 0, 0, 0), (83, .iload 5, 2, 0, 0, 0), (85, .iload_n 1, 1, 0, 0, 0), (86, .iload_n 2, 1, 0, 0, 0), (87, .iload_n 3, 1, 0, 0, 0), (88, .invokestatic 21, 3, 78, 3, 543), (91, .imul, 1, 0, 0, 0), (92, .iadd, 1, 0, 0, 0), (93, .ireturn, 1, 0, 0, 0)]
def cd_75 : List aE := [(0, .iload_n 0, 1, 0, 0, 0), (1, .iconst 1, 1, 0, 0, 0), (2, .if_icmp .gt 8, 3, 5, 0, 0), (5, .bipush 20, 2, 0, 0, 0), (7, .goto 5, 3, 6, 0, 0), (10, .bipush 30, 2, 0, 0, 0), (12, .ireturn, 1, 0, 0, 0)]
def cd_76 : List aE := [(0, .iload_n 0, 1, 0, 0, 0), (1, .iload_n 1, 1, 0, 0, 0), (2, .invokestatic 24, 3, 75, 1, 537), (5, .imul, 1, 0, 0, 0), (6, .iload_n 1, 1, 0, 0, 0), (7, .iconst 4, 1, 0, 0, 0), (8, .if_icmp .ne 8, 3, 9, 0, 0), (11, .bipush 10, 2, 0, 0, 0), (13, .goto 4, 3, 10, 0, 0), (16, .iconst 0, 1, 0, 0, 0), (17, .iadd, 1, 0, 0, 0), (18, .istore_n 3, 1, 0, 0, 0), (19, .iload_n 2, 1, 0, 0, 0), (20, .ifCond .ne 7, 3, 16, 0, 0), (23, .iload_n 3, 1, 0, 0, 0), (24, .goto 8, 3, 21, 0, 0), (27, .iload_n 3, 1, 0, 0, 0), (28, .iconst 2, 1, 0, 0, 0), (29, .imul, 1, 0, 0, 0), (30, .iload_n 2, 1, 0, 0, 0), (31, .imul, 1, 0, 0, 0), (32, .ireturn, 1, 0, 0, 0)]
def cd_77 : List aE := [(0, .iload_n 0, 1, 0, 0, 0), (1, .bipush 6, 2, 0, 0, 0), (3, .if_icmp .ge 5, 3, 5, 0, 0), (6, .iconst 0, 1, 0, 0, 0), (7, .ireturn, 1, 0, 0, 0), (8, .iload_n 0, 1, 0, 0, 0), (9, .bipush 6, 2, 0, 0, 0), (11, .if_icmp .ne 9, 3, 10, 0, 0), (14, .sipush 500, 3, 0, 0, 0), (17, .goto 6, 3, 11, 0, 0), (20, .sipush 1000, 3, 0, 0, 0), (23, .iload_n 1, 1, 0, 0, 0), (24, .ifCond .eq 7, 3, 15, 0, 0), (27, .iconst 3, 1, 0, 0, 0), (28, .goto 4, 3, 16, 0, 0), (31, .iconst 2, 1, 0, 0, 0), (32, .imul, 1, 0, 0, 0), (33, .iconst 2, 1, 0, 0, 0), (34, .idiv, 1, 0, 0, 0), (35, .ireturn, 1, 0, 0, 0)]
def cd_78 : List aE := [(0, .iload_n 1, 1, 0, 0, 0), (1, .ifCond .ne 8, 3, 5, 0, 0), (4, .iload_n 0, 1, 0, 0, 0), (5, .invokestatic 24, 3, 75, 1, 537), (8, .ireturn, 1, 0, 0, 0), (9, .bipush 100, 2, 0, 0, 0), (11, .iload_n 1, 1, 0, 0, 0), (12, .imul, 1, 0, 0, 0), (13, .iload_n 2, 1, 0, 0, 0), (14, .ifCond .eq 7, 3, 12, 0, 0), (17, .iconst 2, 1, 0, 0, 0), (18, .goto 4, 3, 13, 0, 0), (21, .iconst 1, 1, 0, 0, 0), (22, .imul, 1, 0, 0, 0), (23, .ireturn, 1, 0, 0, 0)]
def cd_79 : List aE := [(0, .iload_n 1, 1, 0, 0, 0), (1, .ifCond .ne 17, 3, 10, 0, 0), (4, .iload_n 0, 1, 0, 0, 0), (5, .iload_n 2, 1, 0, 0, 0), (6, .ifCond .eq 8, 3, 7, 0, 0), (9, .bipush 100, 2, 0, 0, 0), (11, .goto 5, 3, 8, 0, 0), (14, .bipush 50, 2, 0, 0, 0), (16, .imul, 1, 0, 0, 0), (17, .ireturn, 1, 0, 0, 0), (18, .iload_n 2, 1, 0, 0, 0), (19, .ifCond .eq 14, 3, 18, 0, 0), (22, .sipush 300, 3, 0, 0, 0), (25, .iload_n 0, 1, 0, 0, 0), (26, .imul, 1, 0, 0, 0), (27, .bipush 100, 2, 0, 0, 0), (29, .isub, 1, 0, 0, 0), (30, .goto 7, 3, 20, 0, 0), (33, .iload_n 0, 1, 0, 0, 0), (34, .invokestatic 28, 3, 80, 1, 531), (37, .istore_n 3, 1, 0, 0, 0), (38, .iload_n 1, 1, 0, 0, 0), (39, .iconst 1, 1, 0, 0, 0), (40, .if_icmp .ne 7, 3, 26, 0, 0), (43, .iload_n 3, 1, 0, 0, 0), (44, .goto 6, 3, 29, 0, 0), (47, .iconst 2, 1, 0, 0, 0), (48, .iload_n 3, 1, 0, 0, 0), (49, .imul, 1, 0, 0, 0), (50, .ireturn, 1, 0, 0, 0)]
def cd_80 : List aE := [(0, .iload_n 0, 1, 0, 0, 0), (1, .iconst 3, 1, 0, 0, 0), (2, .if_icmp .gt 14, 3, 9, 0, 0), (5, .sipush 200, 3, 0, 0, 0), (8, .iload_n 0, 1, 0, 0, 0), (9, .imul, 1, 0, 0, 0), (10, .bipush 100, 2, 0, 0, 0), (12, .isub, 1, 0, 0, 0), (13, .goto 12, 3, 14, 0, 0), (16, .sipush 300, 3, 0, 0, 0), (19, .iload_n 0, 1, 0, 0, 0), (20, .imul, 1, 0, 0, 0), (21, .sipush 400, 3, 0, 0, 0), (24, .isub, 1, 0, 0, 0), (25, .ireturn, 1, 0, 0, 0)]
def cd_81 : List aE := [(0, .lload_n 0, 1, 0, 0, 0), (1, .lconst 0, 1, 0, 0, 0), (2, .lcmp, 1, 0, 0, 0), (3, .ifCond .ge 8, 3, 7, 0, 0), (6, .lload_n 0, 1, 0, 0, 0), (7, .lneg, 1, 0, 0, 0), (8, .goto 4, 3, 8, 0, 0), (11, .lload_n 0, 1, 0, 0, 0), (12, .lstore_n 2, 1, 0, 0, 0), (13, .iconst 0, 1, 0, 0, 0), (14, .istore 4, 2, 0, 0, 0), (16, .iconst 0, 1, 0, 0, 0), (17, .istore 5, 2, 0, 0, 0), (19, .iload 5, 2, 0, 0, 0), (21, .getstatic 31, 3, 0, 0, 842), (24, .arraylength, 1, 0, 0, 0), (25, .if_icmp .ge 24, 3, 27, 0, 0), (28, .lload_n 2, 1, 0, 0, 0), (29, .getstatic 31, 3, 0, 0, 842), (32, .iload 5, 2, 0, 0, 0), (34, .iaload, 1, 0, 0, 0), (35, .i2l, 1, 0, 0, 0), (36, .lcmp, 1, 0, 0, 0), (37, .ifCond .lt 6, 3, 25, 0, 0), (40, .iinc 4 1, 3, 0, 0, 0), (43, .iinc 5 1, 3, 0, 0, 0), (46, .goto (-27), 3, 13, 0, 0), (49, .lload_n 0, 1, 0, 0, 0), (50, .lconst 0, 1, 0, 0, 0), (51, .lcmp, 1, 0, 0, 0), (52, .ifCond .ge 9, 3, 34, 0, 0), (55, .iload 4, 2, 0, 0, 0), (57, .ineg, 1, 0, 0, 0), (58, .goto 5, 3, 35, 0, 0), (61, .iload 4, 2, 0, 0, 0), (63, .ireturn, 1, 0, 0, 0)]
def cd_82 : List aE := [(0, .aload_n 0, 1, 0, 0, 0), (1, .invokespecial 3, 3, 1000, 0, 306), (4, .aload_n 0, 1, 0, 0, 0), (5, .new 9, 3, 1, 0, 307), (8, .dup, 1, 0, 0, 0), (9, .invokespecial 11, 3, 0, 0, 10309), (12, .putfield 12, 3, 6, 3, 351), (15, .aload_n 0, 1, 0, 0, 0), (16, .new 18, 3, 4, 0, 323), (19, .dup, 1, 0, 0, 0), (20, .invokespecial 20, 3, 43, 0, 10325), (23, .putfield 21, 3, 6, 4, 352), (26, .return_, 1, 0, 0, 0)]
def cd_83 : List aE := [(0, .aload_n 0, 1, 0, 0, 0), (1, .aload_n 1, 1, 0, 0, 0), (2, .putfield 25, 3, 6, 0, 348), (5, .aload_n 1, 1, 0, 0, 0), (6, .invokevirtual 29, 3, 23, 32, 368), (9, .aload_n 0, 1, 0, 0, 0), (10, .iload_n 2, 1, 0, 0, 0), (11, .putfield 34, 3, 6, 1, 349), (14, .aload_n 0, 1, 0, 0, 0), (15, .iload_n 3, 1, 0, 0, 0), (16, .putfield 38, 3, 6, 2, 350), (19, .aload_n 0, 1, 0, 0, 0), (20, .getfield 12, 3, 6, 3, 351), (23, .aload_n 1, 1, 0, 0, 0), (24, .invokevirtual 41, 3, 20, 32, 372), (27, .invokevirtual 45, 3, 1, 17, 373), (30, .aload_n 0, 1, 0, 0, 0), (31, .getfield 21, 3, 6, 4, 352), (34, .iconst 0, 1, 0, 0, 0), (35, .iconst 0, 1, 0, 0, 0), (36, .invokevirtual 49, 3, 44, 66, 377), (39, .return_, 1, 0, 0, 0)]
def cd_84 : List aE := [(0, .aload_n 0, 1, 0, 0, 0), (1, .aconst_null, 1, 0, 0, 0), (2, .putfield 25, 3, 6, 0, 348), (5, .return_, 1, 0, 0, 0)]
def cd_85 : List aE := [(0, .aload_n 0, 1, 0, 0, 0), (1, .getfield 25, 3, 6, 0, 348), (4, .ifnull 7, 3, 5, 0, 0), (7, .iconst 1, 1, 0, 0, 0), (8, .goto 4, 3, 6, 0, 0), (11, .iconst 0, 1, 0, 0, 0), (12, .ireturn, 1, 0, 0, 0)]
def cd_86 : List aE := [(0, .aload_n 0, 1, 0, 0, 0), (1, .getfield 25, 3, 6, 0, 348), (4, .ifnonnull 7, 3, 5, 0, 0), (7, .iconst (-1), 1, 0, 0, 0), (8, .goto 10, 3, 8, 0, 0), (11, .aload_n 0, 1, 0, 0, 0), (12, .getfield 25, 3, 6, 0, 348), (15, .invokevirtual 52, 3, 19, 32, 271), (18, .ireturn, 1, 0, 0, 0)]
def cd_87 : List aE := [(0, .iload_n 1, 1, 0, 0, 0), (1, .aload_n 0, 1, 0, 0, 0), (2, .getfield 34, 3, 6, 1, 349), (5, .if_icmp .ne 7, 3, 6, 0, 0), (8, .iconst 0, 1, 0, 0, 0), (9, .goto 16, 3, 13, 0, 0), (12, .iload_n 1, 1, 0, 0, 0), (13, .aload_n 0, 1, 0, 0, 0), (14, .getfield 38, 3, 6, 2, 350), (17, .if_icmp .ne 7, 3, 12, 0, 0), (20, .iconst 1, 1, 0, 0, 0), (21, .goto 4, 3, 13, 0, 0), (24, .iconst (-1), 1, 0, 0, 0), (25, .ireturn, 1, 0, 0, 0)]
def cd_88 : List aE := [(0, .aload_n 0, 1, 0, 0, 0), (1, .getfield 12, 3, 6, 3, 351), (4, .invokevirtual 55, 3, 8, 16, 389), (7, .ireturn, 1, 0, 0, 0)]
def cd_89 : List aE := [(0, .aload_n 0, 1, 0, 0, 0), (1, .getfield 12, 3, 6, 3, 351), (4, .invokevirtual 59, 3, 10, 16, 434), (7, .iconst (-1), 1, 0, 0, 0), (8, .if_icmp .eq 7, 3, 7, 0, 0), (11, .iconst 1, 1, 0, 0, 0), (12, .goto 4, 3, 8, 0, 0), (15, .iconst 0, 1, 0, 0, 0), (16, .ireturn, 1, 0, 0, 0)]
def cd_90 : List aE := [(0, .aload_n 0, 1, 0, 0, 0), (1, .getfield 25, 3, 6, 0, 348), (4, .ifnull 17, 3, 9, 0, 0), (7, .aload_n 0, 1, 0, 0, 0), (8, .getfield 12, 3, 6, 3, 351), (11, .invokevirtual 55, 3, 8, 16, 389), (14, .ifCond .eq 7, 3, 9, 0, 0), (17, .iconst 1, 1, 0, 0, 0), (18, .goto 4, 3, 10, 0, 0), (21, .iconst 0, 1, 0, 0, 0), (22, .ireturn, 1, 0, 0, 0)]
def cd_91 : List aE := [(0, .aload_n 0, 1, 0, 0, 0), (1, .getfield 25, 3, 6, 0, 348), (4, .ifnull 28, 3, 14, 0, 0), (7, .aload_n 0, 1, 0, 0, 0), (8, .getfield 12, 3, 6, 3, 351), (11, .invokevirtual 55, 3, 8, 16, 389), (14, .ifCond .ne 18, 3, 14, 0, 0), (17, .aload_n 0, 1, 0, 0, 0), (18, .getfield 12, 3, 6, 3, 351), (21, .iload_n 1, 1, 0, 0, 0), (22, .invokevirtual 62, 3, 5, 17, 397), (25, .ifCond .eq 7, 3, 14, 0, 0), (28, .iconst 1, 1, 0, 0, 0), (29, .goto 4, 3, 15, 0, 0), (32, .iconst 0, 1, 0, 0, 0), (33, .ireturn, 1, 0, 0, 0)]
def cd_92 : List aE := [(0, .aload_n 0, 1, 0, 0, 0), (1, .getfield 12, 3, 6, 3, 351), (4, .iload_n 1, 1, 0, 0, 0), (5, .invokevirtual 66, 3, 6, 17, 413), (8, .aload_n 0, 1, 0, 0, 0), (9, .getfield 12, 3, 6, 3, 351), (12, .invokevirtual 55, 3, 8, 16, 389), (15, .ifCond .eq 24, 3, 17, 0, 0), (18, .aload_n 0, 1, 0, 0, 0), (19, .getfield 21, 3, 6, 4, 352), (22, .aload_n 0, 1, 0, 0, 0), (23, .getfield 12, 3, 6, 3, 351), (26, .invokevirtual 69, 3, 14, 16, 417), (29, .aload_n 0, 1, 0, 0, 0), (30, .getfield 12, 3, 6, 3, 351), (33, .invokevirtual 72, 3, 12, 16, 425), (36, .invokevirtual 49, 3, 44, 66, 377), (39, .return_, 1, 0, 0, 0)]
def cd_93 : List aE := [(0, .aload_n 0, 1, 0, 0, 0), (1, .aload_n 0, 1, 0, 0, 0), (2, .getfield 21, 3, 6, 4, 352), (5, .invokevirtual 75, 3, 54, 64, 571), (8, .invokevirtual 78, 3, 101, 97, 579), (11, .aload_n 0, 1, 0, 0, 0), (12, .getfield 21, 3, 6, 4, 352), (15, .invokevirtual 82, 3, 55, 64, 592), (18, .invokestatic 85, 3, 32, 2, 603), (21, .lreturn, 1, 0, 0, 0)]
def cd_94 : List aE := [(0, .aload_n 0, 1, 0, 0, 0), (1, .invokevirtual 91, 3, 90, 96, 562), (4, .ifCond .eq 25, 3, 13, 0, 0), (7, .iload_n 1, 1, 0, 0, 0), (8, .invokestatic 94, 3, 27, 1, 566), (11, .ifCond .eq 18, 3, 13, 0, 0), (14, .aload_n 0, 1, 0, 0, 0), (15, .invokevirtual 97, 3, 93, 96, 567), (18, .iload_n 1, 1, 0, 0, 0), (19, .invokestatic 100, 3, 30, 2, 610), (22, .ifCond .eq 7, 3, 13, 0, 0), (25, .iconst 1, 1, 0, 0, 0), (26, .goto 4, 3, 14, 0, 0), (29, .iconst 0, 1, 0, 0, 0), (30, .ireturn, 1, 0, 0, 0)]
def cd_95 : List aE := [(0, .aload_n 0, 1, 0, 0, 0), (1, .getfield 21, 3, 6, 4, 352), (4, .iload_n 1, 1, 0, 0, 0), (5, .invokevirtual 104, 3, 56, 65, 615), (8, .return_, 1, 0, 0, 0)]
def cd_96 : List aE := [(0, .aload_n 0, 1, 0, 0, 0), (1, .getfield 21, 3, 6, 4, 352), (4, .invokevirtual 105, 3, 57, 64, 717), (7, .ifCond .ne 13, 3, 8, 0, 0), (10, .aload_n 0, 1, 0, 0, 0), (11, .getfield 12, 3, 6, 3, 351), (14, .invokevirtual 108, 3, 7, 16, 722), (17, .ifCond .eq 7, 3, 10, 0, 0), (20, .iconst 1, 1, 0, 0, 0), (21, .goto 4, 3, 11, 0, 0), (24, .iconst 0, 1, 0, 0, 0), (25, .ireturn, 1, 0, 0, 0)]
def cd_97 : List aE := [(0, .aload_n 0, 1, 0, 0, 0), (1, .getfield 12, 3, 6, 3, 351), (4, .iload_n 1, 1, 0, 0, 0), (5, .invokevirtual 109, 3, 3, 17, 755), (8, .ireturn, 1, 0, 0, 0)]
def cd_98 : List aE := [(0, .aload_n 0, 1, 0, 0, 0), (1, .getfield 21, 3, 6, 4, 352), (4, .iload_n 1, 1, 0, 0, 0), (5, .invokevirtual 113, 3, 46, 65, 764), (8, .ireturn, 1, 0, 0, 0)]
def cd_99 : List aE := [(0, .aload_n 0, 1, 0, 0, 0), (1, .getfield 21, 3, 6, 4, 352), (4, .invokevirtual 116, 3, 51, 64, 635), (7, .ireturn, 1, 0, 0, 0)]
def cd_100 : List aE := [(0, .bipush 13, 2, 0, 0, 0), (2, .aload_n 0, 1, 0, 0, 0), (3, .getfield 21, 3, 6, 4, 352), (6, .invokevirtual 119, 3, 52, 64, 640), (9, .isub, 1, 0, 0, 0), (10, .ireturn, 1, 0, 0, 0)]
def cd_101 : List aE := [(0, .aload_n 0, 1, 0, 0, 0), (1, .getfield 25, 3, 6, 0, 348), (4, .ifnonnull 7, 3, 5, 0, 0), (7, .lconst 0, 1, 0, 0, 0), (8, .goto 23, 3, 15, 0, 0), (11, .aload_n 0, 1, 0, 0, 0), (12, .getfield 25, 3, 6, 0, 348), (15, .iload_n 1, 1, 0, 0, 0), (16, .invokevirtual 122, 3, 17, 33, 583), (19, .aload_n 0, 1, 0, 0, 0), (20, .getfield 21, 3, 6, 4, 352), (23, .invokevirtual 125, 3, 50, 64, 587), (26, .ldc2_w 128, 3, 18446744073709551615, 0, 591), (29, .lxor, 1, 0, 0, 0), (30, .land, 1, 0, 0, 0), (31, .lreturn, 1, 0, 0, 0)]
def cd_102 : List aE := [(0, .aload_n 0, 1, 0, 0, 0), (1, .getfield 21, 3, 6, 4, 352), (4, .areturn, 1, 0, 0, 0)]
def cd_103 : List aE := [(0, .aload_n 0, 1, 0, 0, 0), (1, .getfield 25, 3, 6, 0, 348), (4, .ifnonnull 7, 3, 5, 0, 0), (7, .iconst (-1), 1, 0, 0, 0), (8, .goto 11, 3, 9, 0, 0), (11, .aload_n 0, 1, 0, 0, 0), (12, .getfield 25, 3, 6, 0, 348), (15, .iload_n 2, 1, 0, 0, 0), (16, .invokevirtual 130, 3, 18, 33, 777), (19, .istore_n 3, 1, 0, 0, 0), (20, .iload_n 3, 1, 0, 0, 0), (21, .iload_n 1, 1, 0, 0, 0), (22, .if_icmp .eq 17, 3, 19, 0, 0), (25, .aload_n 0, 1, 0, 0, 0), (26, .getfield 21, 3, 6, 4, 352), (29, .invokevirtual 125, 3, 50, 64, 587), (32, .iload_n 2, 1, 0, 0, 0), (33, .invokestatic 100, 3, 30, 2, 610), (36, .ifCond .eq 5, 3, 21, 0, 0), (39, .iconst 1, 1, 0, 0, 0), (40, .ireturn, 1, 0, 0, 0), (41, .aload_n 0, 1, 0, 0, 0), (42, .getfield 21, 3, 6, 4, 352), (45, .invokevirtual 133, 3, 45, 64, 778), (48, .ifCond .le 18, 3, 32, 0, 0), (51, .iload_n 3, 1, 0, 0, 0), (52, .aload_n 0, 1, 0, 0, 0), (53, .getfield 21, 3, 6, 4, 352), (56, .invokevirtual 136, 3, 48, 64, 779), (59, .if_icmp .ne 7, 3, 32, 0, 0), (62, .iconst 1, 1, 0, 0, 0), (63, .goto 4, 3, 33, 0, 0), (66, .iconst 0, 1, 0, 0, 0), (67, .ireturn, 1, 0, 0, 0)]
def cd_104 : List aE := [(0, .aload_n 0, 1, 0, 0, 0), (1, .getfield 21, 3, 6, 4, 352), (4, .iload_n 1, 1, 0, 0, 0), (5, .iload_n 2, 1, 0, 0, 0), (6, .invokevirtual 139, 3, 61, 66, 791), (9, .ireturn, 1, 0, 0, 0)]
def cd_105 : List aE := [(0, .aload_n 0, 1, 0, 0, 0), (1, .invokevirtual 91, 3, 90, 96, 562), (4, .istore_n 2, 1, 0, 0, 0), (5, .iload_n 1, 1, 0, 0, 0), (6, .tableswitch 214 0 13 #[70, 75, 80, 85, 95, 117, 125, 133, 149, 157, 166, 175, 183, 191], 70, 0, 0, 0), (76, .aload_n 0, 1, 0, 0, 0), (77, .invokevirtual 143, 3, 86, 96, 445), (80, .ireturn, 1, 0, 0, 0), (81, .aload_n 0, 1, 0, 0, 0), (82, .getfield 34, 3, 6, 1, 349), (85, .ireturn, 1, 0, 0, 0), (86, .aload_n 0, 1, 0, 0, 0), (87, .getfield 38, 3, 6, 2, 350), (90, .ireturn, 1, 0, 0, 0), (91, .iload_n 2, 1, 0, 0, 0), (92, .ifCond .eq 7, 3, 18, 0, 0), (95, .iconst 2, 1, 0, 0, 0), (96, .goto 4, 3, 19, 0, 0), (99, .iconst 1, 1, 0, 0, 0), (100, .ireturn, 1, 0, 0, 0), (101, .iload_n 2, 1, 0, 0, 0), (102, .ifCond .eq 13, 3, 26, 0, 0), (105, .aload_n 0, 1, 0, 0, 0), (106, .getfield 21, 3, 6, 4, 352), (109, .invokevirtual 75, 3, 54, 64, 571), (112, .goto 10, 3, 29, 0, 0), (115, .aload_n 0, 1, 0, 0, 0), (116, .getfield 12, 3, 6, 3, 351), (119, .invokevirtual 146, 3, 4, 16, 738), (122, .ireturn, 1, 0, 0, 0), (123, .aload_n 0, 1, 0, 0, 0), (124, .getfield 12, 3, 6, 3, 351), (127, .invokevirtual 147, 3, 11, 16, 492), (130, .ireturn, 1, 0, 0, 0), (131, .aload_n 0, 1, 0, 0, 0), (132, .getfield 12, 3, 6, 3, 351), (135, .invokevirtual 72, 3, 12, 16, 425), (138, .ireturn, 1, 0, 0, 0), (139, .iload_n 2, 1, 0, 0, 0), (140, .ifCond .eq 13, 3, 44, 0, 0), (143, .aload_n 0, 1, 0, 0, 0), (144, .getfield 21, 3, 6, 4, 352), (147, .invokevirtual 150, 3, 47, 64, 488), (150, .goto 4, 3, 45, 0, 0), (153, .iconst (-1), 1, 0, 0, 0), (154, .ireturn, 1, 0, 0, 0), (155, .aload_n 0, 1, 0, 0, 0), (156, .getfield 12, 3, 6, 3, 351), (159, .invokevirtual 151, 3, 13, 16, 496), (162, .ireturn, 1, 0, 0, 0), (163, .aload_n 0, 1, 0, 0, 0), (164, .getfield 21, 3, 6, 4, 352), (167, .iconst 0, 1, 0, 0, 0), (168, .invokevirtual 154, 3, 60, 65, 504), (171, .ireturn, 1, 0, 0, 0), (172, .aload_n 0, 1, 0, 0, 0), (173, .getfield 21, 3, 6, 4, 352), (176, .iconst 1, 1, 0, 0, 0), (177, .invokevirtual 154, 3, 60, 65, 504), (180, .ireturn, 1, 0, 0, 0), (181, .aload_n 0, 1, 0, 0, 0), (182, .getfield 21, 3, 6, 4, 352), (185, .invokevirtual 116, 3, 51, 64, 635), (188, .ireturn, 1, 0, 0, 0), (189, .aload_n 0, 1, 0, 0, 0), (190, .getfield 12, 3, 6, 3, 351), (193, .invokevirtual 157, 3, 2, 16, 742), (196, .ireturn, 1, 0, 0, 0), (197, .iload_n 2, 1, 0, 0, 0), (198, .ifCond .eq 20, 3, 77, 0, 0), (201, .aload_n 0, 1, 0, 0, 0), (202, .getfield 21, 3, 6, 4, 352), (205, .aload_n 0, 1, 0, 0, 0), (206, .getfield 21, 3, 6, 4, 352), (209, .invokevirtual 119, 3, 52, 64, 640), (212, .invokevirtual 158, 3, 53, 65, 746), (215, .goto 4, 3, 78, 0, 0), (218, .iconst (-1), 1, 0, 0, 0), (219, .ireturn, 1, 0, 0, 0), (220, .iconst (-1), 1, 0, 0, 0), (221, .ireturn, 1, 0, 0, 0)]
def cd_106 : List aE := [(0, .new 161, 3, 5, 0, 443), (3, .dup, 1, 0, 0, 0), (4, .aload_n 0, 1, 0, 0, 0), (5, .invokevirtual 143, 3, 86, 96, 445), (8, .aload_n 0, 1, 0, 0, 0), (9, .getfield 34, 3, 6, 1, 349), (12, .aload_n 0, 1, 0, 0, 0), (13, .getfield 38, 3, 6, 2, 350), (16, .invokespecial 163, 3, 62, 3, 446), (19, .astore_n 2, 1, 0, 0, 0), (20, .aload_n 0, 1, 0, 0, 0), (21, .getfield 25, 3, 6, 0, 348), (24, .ifnull 70, 3, 48, 0, 0), (27, .aload_n 0, 1, 0, 0, 0), (28, .invokevirtual 166, 3, 89, 96, 487), (31, .ifCond .eq 63, 3, 48, 0, 0), (34, .aload_n 0, 1, 0, 0, 0), (35, .getfield 21, 3, 6, 4, 352), (38, .invokevirtual 150, 3, 47, 64, 488), (41, .istore_n 3, 1, 0, 0, 0), (42, .aload_n 2, 1, 0, 0, 0), (43, .aload_n 0, 1, 0, 0, 0), (44, .getfield 12, 3, 6, 3, 351), (47, .invokevirtual 147, 3, 11, 16, 492), (50, .aload_n 0, 1, 0, 0, 0), (51, .getfield 12, 3, 6, 3, 351), (54, .invokevirtual 72, 3, 12, 16, 425), (57, .aload_n 0, 1, 0, 0, 0), (58, .getfield 12, 3, 6, 3, 351), (61, .invokevirtual 151, 3, 13, 16, 496), (64, .invokevirtual 169, 3, 63, 83, 500), (67, .aload_n 2, 1, 0, 0, 0), (68, .iload_n 3, 1, 0, 0, 0), (69, .aload_n 0, 1, 0, 0, 0), (70, .getfield 21, 3, 6, 4, 352), (73, .iload_n 3, 1, 0, 0, 0), (74, .iconst 2, 1, 0, 0, 0), (75, .irem, 1, 0, 0, 0), (76, .invokevirtual 154, 3, 60, 65, 504), (79, .iload_n 1, 1, 0, 0, 0), (80, .iadd, 1, 0, 0, 0), (81, .aload_n 0, 1, 0, 0, 0), (82, .getfield 25, 3, 6, 0, 348), (85, .iload_n 3, 1, 0, 0, 0), (86, .iconst 2, 1, 0, 0, 0), (87, .irem, 1, 0, 0, 0), (88, .invokevirtual 172, 3, 22, 33, 516), (91, .invokevirtual 175, 3, 64, 83, 521), (94, .aload_n 2, 1, 0, 0, 0), (95, .areturn, 1, 0, 0, 0)]
def cd_107 : List aE := [(0, .aload_n 0, 1, 0, 0, 0), (1, .invokespecial 3, 3, 1000, 0, 78), (4, .aload_n 0, 1, 0, 0, 0), (5, .bipush 36, 2, 0, 0, 0), (7, .anewarray 9, 3, 4, 0, 81), (10, .putfield 11, 3, 7, 0, 152), (13, .aload_n 0, 1, 0, 0, 0), (14, .bipush 10, 2, 0, 0, 0), (16, .anewarray 15, 3, 5, 0, 83), (19, .putfield 17, 3, 7, 2, 154), (22, .aload_n 0, 1, 0, 0, 0), (23, .sipush 210, 3, 0, 0, 0), (26, .anewarray 21, 3, 6, 0, 85), (29, .putfield 23, 3, 7, 3, 155), (32, .aload_n 0, 1, 0, 0, 0), (33, .bipush 52, 2, 0, 0, 0), (35, .newarray .int, 2, 0, 0, 0), (37, .putfield 27, 3, 7, 5, 157), (40, .aload_n 0, 1, 0, 0, 0), (41, .new 31, 3, 3, 0, 87), (44, .dup, 1, 0, 0, 0), (45, .invokespecial 33, 3, 34, 0, 10089), (48, .putfield 34, 3, 7, 6, 158), (51, .aload_n 0, 1, 0, 0, 0), (52, .new 38, 3, 0, 0, 120), (55, .dup, 1, 0, 0, 0), (56, .invokespecial 40, 3, 230, 0, 122), (59, .putfield 41, 3, 7, 7, 159), (62, .return_, 1, 0, 0, 0)]
def cd_108 : List aE := [(0, .aload_n 0, 1, 0, 0, 0), (1, .getfield 45, 3, 7, 1, 153), (4, .aload_n 0, 1, 0, 0, 0), (5, .getfield 11, 3, 7, 0, 152), (8, .arraylength, 1, 0, 0, 0), (9, .if_icmp .lt 5, 3, 8, 0, 0), (12, .iconst (-1), 1, 0, 0, 0), (13, .ireturn, 1, 0, 0, 0), (14, .aload_n 0, 1, 0, 0, 0), (15, .iload_n 1, 1, 0, 0, 0), (16, .invokevirtual 49, 3, 138, 113, 181), (19, .new 9, 3, 2, 0, 81), (22, .dup, 1, 0, 0, 0), (23, .aload_n 0, 1, 0, 0, 0), (24, .getfield 45, 3, 7, 1, 153), (27, .iconst 1, 1, 0, 0, 0), (28, .iadd, 1, 0, 0, 0), (29, .invokespecial 53, 3, 15, 1, 187), (32, .astore_n 2, 1, 0, 0, 0), (33, .iconst 0, 1, 0, 0, 0), (34, .istore_n 3, 1, 0, 0, 0), (35, .iload_n 3, 1, 0, 0, 0), (36, .aload_n 0, 1, 0, 0, 0), (37, .getfield 27, 3, 7, 5, 157), (40, .arraylength, 1, 0, 0, 0), (41, .if_icmp .ge 22, 3, 37, 0, 0), (44, .aload_n 2, 1, 0, 0, 0), (45, .iload_n 3, 1, 0, 0, 0), (46, .iconst 4, 1, 0, 0, 0), (47, .irem, 1, 0, 0, 0), (48, .aload_n 0, 1, 0, 0, 0), (49, .getfield 27, 3, 7, 5, 157), (52, .iload_n 3, 1, 0, 0, 0), (53, .iaload, 1, 0, 0, 0), (54, .invokevirtual 55, 3, 16, 34, 204), (57, .iinc 3 1, 3, 0, 0, 0), (60, .goto (-25), 3, 21, 0, 0), (63, .aload_n 0, 1, 0, 0, 0), (64, .getfield 11, 3, 7, 0, 152), (67, .aload_n 0, 1, 0, 0, 0), (68, .getfield 45, 3, 7, 1, 153), (71, .aload_n 2, 1, 0, 0, 0), (72, .aastore, 1, 0, 0, 0), (73, .aload_n 0, 1, 0, 0, 0), (74, .dup, 1, 0, 0, 0), (75, .getfield 45, 3, 7, 1, 153), (78, .iconst 1, 1, 0, 0, 0), (79, .iadd, 1, 0, 0, 0), (80, .putfield 45, 3, 7, 1, 153), (83, .aload_n 0, 1, 0, 0, 0), (84, .getfield 45, 3, 7, 1, 153), (87, .ireturn, 1, 0, 0, 0)]
def cd_109 : List aE := [(0, .aload_n 0, 1, 0, 0, 0), (1, .iload_n 1, 1, 0, 0, 0), (2, .invokevirtual 59, 3, 139, 113, 216), (5, .astore 4, 2, 0, 0, 0), (7, .aload 4, 2, 0, 0, 0), (9, .ifnull 25, 3, 15, 0, 0), (12, .aload 4, 2, 0, 0, 0), (14, .invokevirtual 63, 3, 24, 32, 220), (17, .ifCond .ne 17, 3, 15, 0, 0), (20, .iload_n 2, 1, 0, 0, 0), (21, .invokestatic 67, 3, 27, 1, 224), (24, .ifCond .eq 10, 3, 15, 0, 0), (27, .iload_n 3, 1, 0, 0, 0), (28, .invokestatic 67, 3, 27, 1, 224), (31, .ifCond .ne 5, 3, 17, 0, 0), (34, .iconst 0, 1, 0, 0, 0), (35, .ireturn, 1, 0, 0, 0), (36, .aload 4, 2, 0, 0, 0), (38, .iload_n 2, 1, 0, 0, 0), (39, .invokevirtual 73, 3, 18, 33, 227), (42, .istore 5, 2, 0, 0, 0), (44, .aload 4, 2, 0, 0, 0), (46, .iload_n 3, 1, 0, 0, 0), (47, .invokevirtual 73, 3, 18, 33, 227), (50, .istore 6, 2, 0, 0, 0), (52, .aload 4, 2, 0, 0, 0), (54, .iload 6, 2, 0, 0, 0), (56, .iload_n 2, 1, 0, 0, 0), (57, .invokevirtual 55, 3, 16, 34, 204), (60, .aload 4, 2, 0, 0, 0), (62, .iload 5, 2, 0, 0, 0), (64, .iload_n 3, 1, 0, 0, 0), (65, .invokevirtual 55, 3, 16, 34, 204), (68, .iconst 1, 1, 0, 0, 0), (69, .ireturn, 1, 0, 0, 0)]
def cd_110 : List aE := [(0, .aload_n 0, 1, 0, 0, 0), (1, .iload_n 1, 1, 0, 0, 0), (2, .invokevirtual 59, 3, 139, 113, 216), (5, .astore_n 3, 1, 0, 0, 0), (6, .aload_n 3, 1, 0, 0, 0), (7, .ifnull 10, 3, 9, 0, 0), (10, .iload_n 2, 1, 0, 0, 0), (11, .invokestatic 67, 3, 27, 1, 224), (14, .ifCond .ne 7, 3, 11, 0, 0), (17, .iconst (-1), 1, 0, 0, 0), (18, .goto 8, 3, 14, 0, 0), (21, .aload_n 3, 1, 0, 0, 0), (22, .iload_n 2, 1, 0, 0, 0), (23, .invokevirtual 73, 3, 18, 33, 227), (26, .ireturn, 1, 0, 0, 0)]
def cd_111 : List aE := [(0, .aload_n 0, 1, 0, 0, 0), (1, .iload_n 1, 1, 0, 0, 0), (2, .invokevirtual 59, 3, 139, 113, 216), (5, .astore_n 3, 1, 0, 0, 0), (6, .aload_n 3, 1, 0, 0, 0), (7, .ifnonnull 5, 3, 8, 0, 0), (10, .iconst (-1), 1, 0, 0, 0), (11, .ireturn, 1, 0, 0, 0), (12, .iload_n 2, 1, 0, 0, 0), (13, .tableswitch 52 0 3 #[31, 36, 41, 46], 31, 0, 0, 0), (44, .aload_n 3, 1, 0, 0, 0), (45, .invokevirtual 77, 3, 20, 32, 243), (48, .ireturn, 1, 0, 0, 0), (49, .aload_n 3, 1, 0, 0, 0), (50, .invokevirtual 81, 3, 21, 32, 247), (53, .ireturn, 1, 0, 0, 0), (54, .aload_n 3, 1, 0, 0, 0), (55, .invokevirtual 84, 3, 26, 32, 251), (58, .ireturn, 1, 0, 0, 0), (59, .aload_n 0, 1, 0, 0, 0), (60, .iload_n 1, 1, 0, 0, 0), (61, .invokevirtual 87, 3, 143, 113, 255), (64, .ireturn, 1, 0, 0, 0), (65, .iconst (-1), 1, 0, 0, 0), (66, .ireturn, 1, 0, 0, 0)]
def cd_112 : List aE := [(0, .aload_n 0, 1, 0, 0, 0), (1, .iload_n 2, 1, 0, 0, 0), (2, .invokevirtual 59, 3, 139, 113, 216), (5, .astore 5, 2, 0, 0, 0), (7, .aload 5, 2, 0, 0, 0), (9, .ifnull 31, 3, 19, 0, 0), (12, .iload_n 1, 1, 0, 0, 0), (13, .ifCond .lt 27, 3, 19, 0, 0), (16, .iload_n 1, 1, 0, 0, 0), (17, .aload_n 0, 1, 0, 0, 0), (18, .getfield 17, 3, 7, 2, 154), (21, .arraylength, 1, 0, 0, 0), (22, .if_icmp .ge 18, 3, 19, 0, 0), (25, .iload_n 3, 1, 0, 0, 0), (26, .invokestatic 90, 3, 145, 1, 279), (29, .ifCond .eq 11, 3, 19, 0, 0), (32, .iload 4, 2, 0, 0, 0), (34, .invokestatic 90, 3, 145, 1, 279), (37, .ifCond .ne 5, 3, 21, 0, 0), (40, .iconst 0, 1, 0, 0, 0), (41, .ireturn, 1, 0, 0, 0), (42, .iload_n 3, 1, 0, 0, 0), (43, .iload 4, 2, 0, 0, 0), (45, .if_icmp .eq 13, 3, 28, 0, 0), (48, .aload_n 0, 1, 0, 0, 0), (49, .getfield 93, 3, 7, 4, 156), (52, .sipush 200, 3, 0, 0, 0), (55, .if_icmp .lt 5, 3, 30, 0, 0), (58, .iconst 0, 1, 0, 0, 0), (59, .ireturn, 1, 0, 0, 0), (60, .aload_n 0, 1, 0, 0, 0), (61, .iload_n 1, 1, 0, 0, 0), (62, .invokevirtual 96, 3, 141, 113, 259), (65, .ifnonnull 12, 3, 39, 0, 0), (68, .aload_n 0, 1, 0, 0, 0), (69, .iload_n 2, 1, 0, 0, 0), (70, .invokevirtual 87, 3, 143, 113, 255), (73, .iconst (-1), 1, 0, 0, 0), (74, .if_icmp .eq 5, 3, 41, 0, 0), (77, .iconst 0, 1, 0, 0, 0), (78, .ireturn, 1, 0, 0, 0), (79, .aload_n 0, 1, 0, 0, 0), (80, .iload_n 2, 1, 0, 0, 0), (81, .iload_n 3, 1, 0, 0, 0), (82, .invokevirtual 100, 3, 147, 114, 282), (85, .ifCond .eq 13, 3, 51, 0, 0), (88, .aload_n 0, 1, 0, 0, 0), (89, .iload_n 2, 1, 0, 0, 0), (90, .iload 4, 2, 0, 0, 0), (92, .invokevirtual 100, 3, 147, 114, 282), (95, .ifCond .ne 5, 3, 53, 0, 0), (98, .iconst 0, 1, 0, 0, 0), (99, .ireturn, 1, 0, 0, 0), (100, .aload_n 0, 1, 0, 0, 0), (101, .getfield 17, 3, 7, 2, 154), (104, .iload_n 1, 1, 0, 0, 0), (105, .aaload, 1, 0, 0, 0), (106, .astore 6, 2, 0, 0, 0), (108, .aload 6, 2, 0, 0, 0), (110, .ifnonnull 20, 3, 69, 0, 0), (113, .new 15, 3, 6, 0, 83), (116, .dup, 1, 0, 0, 0), (117, .invokespecial 104, 3, 82, 0, 10303), (120, .astore 6, 2, 0, 0, 0), (122, .aload_n 0, 1, 0, 0, 0), (123, .getfield 17, 3, 7, 2, 154), (126, .iload_n 1, 1, 0, 0, 0), (127, .aload 6, 2, 0, 0, 0), (129, .aastore, 1, 0, 0, 0), (130, .aload 6, 2, 0, 0, 0), (132, .aload 5, 2, 0, 0, 0), (134, .iload_n 3, 1, 0, 0, 0), (135, .iload 4, 2, 0, 0, 0), (137, .invokevirtual 105, 3, 83, 99, 364), (140, .iconst 1, 1, 0, 0, 0), (141, .ireturn, 1, 0, 0, 0)]
def cd_113 : List aE := [(0, .aload_n 0, 1, 0, 0, 0), (1, .iload_n 1, 1, 0, 0, 0), (2, .invokevirtual 96, 3, 141, 113, 259), (5, .astore_n 3, 1, 0, 0, 0), (6, .aload_n 3, 1, 0, 0, 0), (7, .ifnull 11, 3, 10, 0, 0), (10, .aload_n 3, 1, 0, 0, 0), (11, .iload_n 2, 1, 0, 0, 0), (12, .invokevirtual 109, 3, 91, 97, 385), (15, .ifCond .ne 5, 3, 12, 0, 0), (18, .iconst (-1), 1, 0, 0, 0), (19, .ireturn, 1, 0, 0, 0), (20, .aload_n 3, 1, 0, 0, 0), (21, .iload_n 2, 1, 0, 0, 0), (22, .invokevirtual 112, 3, 92, 97, 409), (25, .aload_n 3, 1, 0, 0, 0), (26, .invokevirtual 115, 3, 88, 96, 426), (29, .ifCond .ne 5, 3, 20, 0, 0), (32, .iconst 0, 1, 0, 0, 0), (33, .ireturn, 1, 0, 0, 0), (34, .aload_n 3, 1, 0, 0, 0), (35, .invokevirtual 118, 3, 89, 96, 430), (38, .ifCond .eq 5, 3, 25, 0, 0), (41, .iconst 1, 1, 0, 0, 0), (42, .ireturn, 1, 0, 0, 0), (43, .aload_n 0, 1, 0, 0, 0), (44, .aload_n 3, 1, 0, 0, 0), (45, .iconst 0, 1, 0, 0, 0), (46, .invokevirtual 121, 3, 148, 114, 435), (49, .iconst 2, 1, 0, 0, 0), (50, .ireturn, 1, 0, 0, 0)]
def cd_114 : List aE := [(0, .aload_n 0, 1, 0, 0, 0), (1, .iload_n 1, 1, 0, 0, 0), (2, .invokevirtual 96, 3, 141, 113, 259), (5, .astore_n 3, 1, 0, 0, 0), (6, .aload_n 3, 1, 0, 0, 0), (7, .ifnull 11, 3, 10, 0, 0), (10, .aload_n 3, 1, 0, 0, 0), (11, .iload_n 2, 1, 0, 0, 0), (12, .invokevirtual 125, 3, 94, 97, 558), (15, .ifCond .ne 5, 3, 12, 0, 0), (18, .iconst (-1), 1, 0, 0, 0), (19, .ireturn, 1, 0, 0, 0), (20, .aload_n 3, 1, 0, 0, 0), (21, .iload_n 2, 1, 0, 0, 0), (22, .invokevirtual 128, 3, 95, 97, 611), (25, .aload_n 3, 1, 0, 0, 0), (26, .invokevirtual 131, 3, 99, 96, 631), (29, .ifCond .eq 5, 3, 20, 0, 0), (32, .iconst 0, 1, 0, 0, 0), (33, .ireturn, 1, 0, 0, 0), (34, .aload_n 3, 1, 0, 0, 0), (35, .invokevirtual 134, 3, 100, 96, 636), (38, .ifCond .le 5, 3, 25, 0, 0), (41, .iconst 1, 1, 0, 0, 0), (42, .ireturn, 1, 0, 0, 0), (43, .aload_n 0, 1, 0, 0, 0), (44, .aload_n 3, 1, 0, 0, 0), (45, .iconst 0, 1, 0, 0, 0), (46, .invokevirtual 121, 3, 148, 114, 435), (49, .iconst 2, 1, 0, 0, 0), (50, .ireturn, 1, 0, 0, 0)]
def cd_115 : List aE := [(0, .aload_n 0, 1, 0, 0, 0), (1, .iload_n 1, 1, 0, 0, 0), (2, .invokevirtual 137, 3, 142, 113, 645), (5, .astore_n 3, 1, 0, 0, 0), (6, .aload_n 3, 1, 0, 0, 0), (7, .ifnull 15, 3, 12, 0, 0), (10, .aload_n 0, 1, 0, 0, 0), (11, .getfield 34, 3, 7, 6, 158), (14, .aload_n 3, 1, 0, 0, 0), (15, .invokevirtual 140, 3, 36, 49, 650), (18, .iload_n 2, 1, 0, 0, 0), (19, .if_icmp .eq 5, 3, 14, 0, 0), (22, .iconst 0, 1, 0, 0, 0), (23, .ireturn, 1, 0, 0, 0), (24, .aload_n 0, 1, 0, 0, 0), (25, .aload_n 3, 1, 0, 0, 0), (26, .iload_n 2, 1, 0, 0, 0), (27, .invokevirtual 121, 3, 148, 114, 435), (30, .iconst 1, 1, 0, 0, 0), (31, .ireturn, 1, 0, 0, 0)]
def cd_116 : List aE := [(0, .aload_n 0, 1, 0, 0, 0), (1, .iload_n 1, 1, 0, 0, 0), (2, .invokevirtual 96, 3, 141, 113, 259), (5, .astore_n 2, 1, 0, 0, 0), (6, .aload_n 2, 1, 0, 0, 0), (7, .ifnull 14, 3, 11, 0, 0), (10, .aload_n 2, 1, 0, 0, 0), (11, .invokevirtual 144, 3, 96, 96, 713), (14, .ifCond .eq 7, 3, 11, 0, 0), (17, .iconst 1, 1, 0, 0, 0), (18, .goto 4, 3, 12, 0, 0), (21, .iconst 0, 1, 0, 0, 0), (22, .ireturn, 1, 0, 0, 0)]
def cd_117 : List aE := [(0, .aload_n 0, 1, 0, 0, 0), (1, .iload_n 1, 1, 0, 0, 0), (2, .invokevirtual 96, 3, 141, 113, 259), (5, .astore_n 2, 1, 0, 0, 0), (6, .aload_n 2, 1, 0, 0, 0), (7, .ifnonnull 5, 3, 8, 0, 0), (10, .iconst 0, 1, 0, 0, 0), (11, .ireturn, 1, 0, 0, 0), (12, .aload_n 2, 1, 0, 0, 0), (13, .invokevirtual 147, 3, 84, 96, 550), (16, .iconst 1, 1, 0, 0, 0), (17, .ireturn, 1, 0, 0, 0)]
def cd_118 : List aE := [(0, .aload_n 0, 1, 0, 0, 0), (1, .iload_n 1, 1, 0, 0, 0), (2, .invokevirtual 96, 3, 141, 113, 259), (5, .astore_n 3, 1, 0, 0, 0), (6, .aload_n 3, 1, 0, 0, 0), (7, .ifnull 9, 3, 10, 0, 0), (10, .aload_n 3, 1, 0, 0, 0), (11, .iload_n 2, 1, 0, 0, 0), (12, .invokevirtual 150, 3, 105, 97, 734), (15, .ireturn, 1, 0, 0, 0), (16, .iload_n 1, 1, 0, 0, 0), (17, .ifCond .lt 13, 3, 17, 0, 0), (20, .iload_n 1, 1, 0, 0, 0), (21, .bipush 10, 2, 0, 0, 0), (23, .if_icmp .ge 7, 3, 17, 0, 0), (26, .iconst 1, 1, 0, 0, 0), (27, .goto 4, 3, 18, 0, 0), (30, .iconst 0, 1, 0, 0, 0), (31, .istore 4, 2, 0, 0, 0), (33, .iload 4, 2, 0, 0, 0), (35, .ifCond .eq 12, 3, 26, 0, 0), (38, .iload_n 2, 1, 0, 0, 0), (39, .iconst 3, 1, 0, 0, 0), (40, .if_icmp .ne 7, 3, 26, 0, 0), (43, .iconst 0, 1, 0, 0, 0), (44, .goto 4, 3, 27, 0, 0), (47, .iconst (-1), 1, 0, 0, 0), (48, .ireturn, 1, 0, 0, 0)]
def cd_119 : List aE := [(0, .aload_n 0, 1, 0, 0, 0), (1, .iload_n 1, 1, 0, 0, 0), (2, .invokevirtual 96, 3, 141, 113, 259), (5, .astore_n 3, 1, 0, 0, 0), (6, .aload_n 3, 1, 0, 0, 0), (7, .ifnonnull 7, 3, 8, 0, 0), (10, .iconst (-1), 1, 0, 0, 0), (11, .goto 8, 3, 11, 0, 0), (14, .aload_n 3, 1, 0, 0, 0), (15, .iload_n 2, 1, 0, 0, 0), (16, .invokevirtual 153, 3, 97, 97, 751), (19, .ireturn, 1, 0, 0, 0)]
def cd_120 : List aE := [(0, .aload_n 0, 1, 0, 0, 0), (1, .iload_n 1, 1, 0, 0, 0), (2, .invokevirtual 96, 3, 141, 113, 259), (5, .astore_n 3, 1, 0, 0, 0), (6, .aload_n 3, 1, 0, 0, 0), (7, .ifnonnull 7, 3, 8, 0, 0), (10, .iconst (-1), 1, 0, 0, 0), (11, .goto 8, 3, 11, 0, 0), (14, .aload_n 3, 1, 0, 0, 0), (15, .iload_n 2, 1, 0, 0, 0), (16, .invokevirtual 156, 3, 98, 97, 760), (19, .ireturn, 1, 0, 0, 0)]
def cd_121 : List aE := [(0, .aload_n 0, 1, 0, 0, 0), (1, .iload_n 1, 1, 0, 0, 0), (2, .invokevirtual 96, 3, 141, 113, 259), (5, .astore_n 3, 1, 0, 0, 0), (6, .aload_n 3, 1, 0, 0, 0), (7, .ifnull 23, 3, 16, 0, 0), (10, .aload_n 3, 1, 0, 0, 0), (11, .iload_n 2, 1, 0, 0, 0), (12, .invokevirtual 109, 3, 91, 97, 385), (15, .ifCond .ne 11, 3, 14, 0, 0), (18, .aload_n 3, 1, 0, 0, 0), (19, .iload_n 2, 1, 0, 0, 0), (20, .invokevirtual 125, 3, 94, 97, 558), (23, .ifCond .eq 7, 3, 16, 0, 0), (26, .iconst 1, 1, 0, 0, 0), (27, .goto 4, 3, 17, 0, 0), (30, .iconst 0, 1, 0, 0, 0), (31, .ireturn, 1, 0, 0, 0)]
def cd_122 : List aE := [(0, .aload_n 0, 1, 0, 0, 0), (1, .iload_n 1, 1, 0, 0, 0), (2, .invokevirtual 96, 3, 141, 113, 259), (5, .astore 4, 2, 0, 0, 0), (7, .aload 4, 2, 0, 0, 0), (9, .ifnull 19, 3, 14, 0, 0), (12, .iload_n 2, 1, 0, 0, 0), (13, .ifCond .lt 15, 3, 14, 0, 0), (16, .iload_n 2, 1, 0, 0, 0), (17, .iconst 4, 1, 0, 0, 0), (18, .if_icmp .ge 10, 3, 14, 0, 0), (21, .iload_n 3, 1, 0, 0, 0), (22, .invokestatic 67, 3, 27, 1, 224), (25, .ifCond .ne 5, 3, 16, 0, 0), (28, .iconst 0, 1, 0, 0, 0), (29, .ireturn, 1, 0, 0, 0), (30, .aload 4, 2, 0, 0, 0), (32, .iload_n 2, 1, 0, 0, 0), (33, .iload_n 3, 1, 0, 0, 0), (34, .invokevirtual 159, 3, 103, 98, 773), (37, .ireturn, 1, 0, 0, 0)]
def cd_123 : List aE := [(0, .aload_n 0, 1, 0, 0, 0), (1, .iload_n 1, 1, 0, 0, 0), (2, .invokevirtual 96, 3, 141, 113, 259), (5, .astore 4, 2, 0, 0, 0), (7, .aload 4, 2, 0, 0, 0), (9, .ifnull 26, 3, 18, 0, 0), (12, .iload_n 2, 1, 0, 0, 0), (13, .ifCond .lt 22, 3, 18, 0, 0), (16, .iload_n 2, 1, 0, 0, 0), (17, .iconst 4, 1, 0, 0, 0), (18, .if_icmp .ge 17, 3, 18, 0, 0), (21, .aload 4, 2, 0, 0, 0), (23, .iload_n 2, 1, 0, 0, 0), (24, .iload_n 3, 1, 0, 0, 0), (25, .invokevirtual 162, 3, 104, 98, 787), (28, .ifCond .eq 7, 3, 18, 0, 0), (31, .iconst 1, 1, 0, 0, 0), (32, .goto 4, 3, 19, 0, 0), (35, .iconst 0, 1, 0, 0, 0), (36, .ireturn, 1, 0, 0, 0)]
def cd_124 : List aE := [(0, .aload_n 0, 1, 0, 0, 0), (1, .iload_n 1, 1, 0, 0, 0), (2, .invokevirtual 137, 3, 142, 113, 645), (5, .astore_n 2, 1, 0, 0, 0), (6, .aload_n 2, 1, 0, 0, 0), (7, .ifnonnull 7, 3, 8, 0, 0), (10, .iconst (-1), 1, 0, 0, 0), (11, .goto 11, 3, 12, 0, 0), (14, .aload_n 0, 1, 0, 0, 0), (15, .getfield 34, 3, 7, 6, 158), (18, .aload_n 2, 1, 0, 0, 0), (19, .invokevirtual 140, 3, 36, 49, 650), (22, .ireturn, 1, 0, 0, 0)]
def cd_125 : List aE := [(0, .aload_n 0, 1, 0, 0, 0), (1, .iload_n 1, 1, 0, 0, 0), (2, .invokevirtual 137, 3, 142, 113, 645), (5, .astore_n 2, 1, 0, 0, 0), (6, .aload_n 2, 1, 0, 0, 0), (7, .ifnonnull 7, 3, 8, 0, 0), (10, .iconst (-1), 1, 0, 0, 0), (11, .goto 11, 3, 12, 0, 0), (14, .aload_n 0, 1, 0, 0, 0), (15, .getfield 34, 3, 7, 6, 158), (18, .aload_n 2, 1, 0, 0, 0), (19, .invokevirtual 165, 3, 37, 49, 803), (22, .ireturn, 1, 0, 0, 0)]
def cd_126 : List aE := [(0, .aload_n 0, 1, 0, 0, 0), (1, .iload_n 1, 1, 0, 0, 0), (2, .invokevirtual 168, 3, 140, 113, 290), (5, .astore_n 3, 1, 0, 0, 0), (6, .aload_n 3, 1, 0, 0, 0), (7, .ifnonnull 16, 3, 13, 0, 0), (10, .iload_n 2, 1, 0, 0, 0), (11, .bipush 8, 2, 0, 0, 0), (13, .if_icmp .ne 8, 3, 11, 0, 0), (16, .ldc 172, 2, 2147483648, 0, 814), (18, .goto 4, 3, 12, 0, 0), (21, .iconst (-1), 1, 0, 0, 0), (22, .ireturn, 1, 0, 0, 0), (23, .aload_n 3, 1, 0, 0, 0), (24, .iload_n 2, 1, 0, 0, 0), (25, .invokevirtual 173, 3, 71, 81, 815), (28, .ireturn, 1, 0, 0, 0)]
def cd_127 : List aE := [(0, .aload_n 0, 1, 0, 0, 0), (1, .iload_n 1, 1, 0, 0, 0), (2, .invokevirtual 168, 3, 140, 113, 290), (5, .astore 4, 2, 0, 0, 0), (7, .aload 4, 2, 0, 0, 0), (9, .ifnull 17, 3, 12, 0, 0), (12, .iload_n 2, 1, 0, 0, 0), (13, .invokestatic 174, 3, 146, 1, 823), (16, .ifCond .eq 10, 3, 12, 0, 0), (19, .iload_n 3, 1, 0, 0, 0), (20, .invokestatic 174, 3, 146, 1, 823), (23, .ifCond .ne 5, 3, 14, 0, 0), (26, .iconst 0, 1, 0, 0, 0), (27, .ireturn, 1, 0, 0, 0), (28, .aload 4, 2, 0, 0, 0), (30, .iload_n 2, 1, 0, 0, 0), (31, .iload_n 3, 1, 0, 0, 0), (32, .invokevirtual 177, 3, 65, 82, 826), (35, .iconst 1, 1, 0, 0, 0), (36, .ireturn, 1, 0, 0, 0)]
def cd_128 : List aE := [(0, .iload_n 1, 1, 0, 0, 0), (1, .iconst 1, 1, 0, 0, 0), (2, .if_icmp .lt 22, 3, 13, 0, 0), (5, .iload_n 1, 1, 0, 0, 0), (6, .bipush 7, 2, 0, 0, 0), (8, .if_icmp .gt 16, 3, 13, 0, 0), (11, .iload_n 2, 1, 0, 0, 0), (12, .ifCond .lt 12, 3, 13, 0, 0), (15, .iload_n 2, 1, 0, 0, 0), (16, .iconst 4, 1, 0, 0, 0), (17, .if_icmp .gt 7, 3, 13, 0, 0), (20, .iconst 1, 1, 0, 0, 0), (21, .goto 4, 3, 14, 0, 0), (24, .iconst 0, 1, 0, 0, 0), (25, .istore 6, 2, 0, 0, 0), (27, .iload 6, 2, 0, 0, 0), (29, .ifCond .eq 24, 3, 27, 0, 0), (32, .iload_n 3, 1, 0, 0, 0), (33, .ifCond .lt 20, 3, 27, 0, 0), (36, .iload_n 3, 1, 0, 0, 0), (37, .iconst 2, 1, 0, 0, 0), (38, .if_icmp .gt 15, 3, 27, 0, 0), (41, .iload 5, 2, 0, 0, 0), (43, .ifCond .lt 10, 3, 27, 0, 0), (46, .iload 5, 2, 0, 0, 0), (48, .bipush 13, 2, 0, 0, 0), (50, .if_icmp .le 6, 3, 29, 0, 0), (53, .ldc 172, 2, 2147483648, 0, 814), (55, .ireturn, 1, 0, 0, 0), (56, .iload_n 1, 1, 0, 0, 0), (57, .iload_n 2, 1, 0, 0, 0), (58, .iload_n 3, 1, 0, 0, 0), (59, .iload 4, 2, 0, 0, 0), (61, .iload 5, 2, 0, 0, 0), (63, .invokestatic 180, 3, 74, 5, 834), (66, .ireturn, 1, 0, 0, 0)]
def cd_129 : List aE := [(0, .iload_n 1, 1, 0, 0, 0), (1, .i2l, 1, 0, 0, 0), (2, .iload_n 2, 1, 0, 0, 0), (3, .i2l, 1, 0, 0, 0), (4, .lsub, 1, 0, 0, 0), (5, .invokestatic 186, 3, 81, 1, 839), (8, .ireturn, 1, 0, 0, 0)]
def cd_130 : List aE := [(0, .aload_n 0, 1, 0, 0, 0), (1, .iload_n 1, 1, 0, 0, 0), (2, .invokevirtual 168, 3, 140, 113, 290), (5, .astore_n 3, 1, 0, 0, 0), (6, .aload_n 3, 1, 0, 0, 0), (7, .ifnull 12, 3, 11, 0, 0), (10, .iload_n 2, 1, 0, 0, 0), (11, .ifCond .lt 8, 3, 11, 0, 0), (14, .iload_n 2, 1, 0, 0, 0), (15, .iconst 1, 1, 0, 0, 0), (16, .if_icmp .le 7, 3, 13, 0, 0), (19, .iconst (-1), 1, 0, 0, 0), (20, .goto 10, 3, 18, 0, 0), (23, .aload_n 0, 1, 0, 0, 0), (24, .aload_n 3, 1, 0, 0, 0), (25, .iload_n 1, 1, 0, 0, 0), (26, .iload_n 2, 1, 0, 0, 0), (27, .invokevirtual 190, 3, 150, 115, 848), (30, .ireturn, 1, 0, 0, 0)]
def cd_131 : List aE := [(0, .aload_n 0, 1, 0, 0, 0), (1, .iload_n 1, 1, 0, 0, 0), (2, .invokevirtual 194, 3, 152, 113, 875), (5, .ifCond .eq 11, 3, 8, 0, 0), (8, .aload_n 0, 1, 0, 0, 0), (9, .iload_n 1, 1, 0, 0, 0), (10, .invokevirtual 197, 3, 154, 113, 879), (13, .goto 4, 3, 9, 0, 0), (16, .iconst (-1), 1, 0, 0, 0), (17, .ireturn, 1, 0, 0, 0)]
def cd_132 : List aE := [(0, .aload_n 0, 1, 0, 0, 0), (1, .iload_n 1, 1, 0, 0, 0), (2, .invokevirtual 194, 3, 152, 113, 875), (5, .ifCond .eq 11, 3, 8, 0, 0), (8, .aload_n 0, 1, 0, 0, 0), (9, .iload_n 1, 1, 0, 0, 0), (10, .invokevirtual 200, 3, 155, 113, 887), (13, .goto 4, 3, 9, 0, 0), (16, .iconst (-1), 1, 0, 0, 0), (17, .ireturn, 1, 0, 0, 0)]
def cd_133 : List aE := [(0, .aload_n 0, 1, 0, 0, 0), (1, .iload_n 1, 1, 0, 0, 0), (2, .invokevirtual 194, 3, 152, 113, 875), (5, .ifCond .ne 5, 3, 6, 0, 0), (8, .iconst (-1), 1, 0, 0, 0), (9, .ireturn, 1, 0, 0, 0), (10, .aload_n 0, 1, 0, 0, 0), (11, .iload_n 1, 1, 0, 0, 0), (12, .invokevirtual 203, 3, 156, 113, 895), (15, .lstore_n 2, 1, 0, 0, 0), (16, .aload_n 0, 1, 0, 0, 0), (17, .iload_n 1, 1, 0, 0, 0), (18, .invokevirtual 207, 3, 157, 113, 899), (21, .lstore 4, 2, 0, 0, 0), (23, .iconst 0, 1, 0, 0, 0), (24, .istore 6, 2, 0, 0, 0), (26, .iconst 0, 1, 0, 0, 0), (27, .istore 7, 2, 0, 0, 0), (29, .iload 7, 2, 0, 0, 0), (31, .bipush 40, 2, 0, 0, 0), (33, .if_icmp .ge 42, 3, 40, 0, 0), (36, .aload_n 0, 1, 0, 0, 0), (37, .iload 7, 2, 0, 0, 0), (39, .invokevirtual 194, 3, 152, 113, 875), (42, .ifCond .eq 27, 3, 38, 0, 0), (45, .aload_n 0, 1, 0, 0, 0), (46, .iload 7, 2, 0, 0, 0), (48, .invokevirtual 203, 3, 156, 113, 895), (51, .lload 4, 2, 0, 0, 0), (53, .lmul, 1, 0, 0, 0), (54, .lload_n 2, 1, 0, 0, 0), (55, .aload_n 0, 1, 0, 0, 0), (56, .iload 7, 2, 0, 0, 0), (58, .invokevirtual 207, 3, 157, 113, 899), (61, .lmul, 1, 0, 0, 0), (62, .lcmp, 1, 0, 0, 0), (63, .ifCond .le 6, 3, 38, 0, 0), (66, .iinc 6 1, 3, 0, 0, 0), (69, .iinc 7 1, 3, 0, 0, 0), (72, .goto (-43), 3, 18, 0, 0), (75, .iload 6, 2, 0, 0, 0), (77, .iconst 1, 1, 0, 0, 0), (78, .iadd, 1, 0, 0, 0), (79, .ireturn, 1, 0, 0, 0)]
def cd_134 : List aE := [(0, .iload_n 1, 1, 0, 0, 0), (1, .iconst 3, 1, 0, 0, 0), (2, .if_icmp .lt 18, 3, 11, 0, 0), (5, .iload_n 1, 1, 0, 0, 0), (6, .bipush 10, 2, 0, 0, 0), (8, .if_icmp .gt 12, 3, 11, 0, 0), (11, .iload_n 3, 1, 0, 0, 0), (12, .ifCond .lt 8, 3, 11, 0, 0), (15, .iload_n 3, 1, 0, 0, 0), (16, .iload_n 1, 1, 0, 0, 0), (17, .if_icmp .lt 5, 3, 13, 0, 0), (20, .iconst (-1), 1, 0, 0, 0), (21, .ireturn, 1, 0, 0, 0), (22, .iload_n 1, 1, 0, 0, 0), (23, .iconst 2, 1, 0, 0, 0), (24, .irem, 1, 0, 0, 0), (25, .ifCond .ne 7, 3, 19, 0, 0), (28, .iconst 1, 1, 0, 0, 0), (29, .goto 4, 3, 20, 0, 0), (32, .iconst 0, 1, 0, 0, 0), (33, .istore 5, 2, 0, 0, 0), (35, .iload 5, 2, 0, 0, 0), (37, .ifCond .eq 9, 3, 27, 0, 0), (40, .iload_n 1, 1, 0, 0, 0), (41, .iconst 1, 1, 0, 0, 0), (42, .isub, 1, 0, 0, 0), (43, .goto 4, 3, 28, 0, 0), (46, .iload_n 1, 1, 0, 0, 0), (47, .istore 6, 2, 0, 0, 0), (49, .iload_n 2, 1, 0, 0, 0), (50, .ifCond .lt 9, 3, 34, 0, 0), (53, .iload_n 2, 1, 0, 0, 0), (54, .iload 6, 2, 0, 0, 0), (56, .if_icmp .lt 5, 3, 36, 0, 0), (59, .iconst (-1), 1, 0, 0, 0), (60, .ireturn, 1, 0, 0, 0), (61, .iload 5, 2, 0, 0, 0), (63, .ifCond .eq 14, 3, 45, 0, 0), (66, .iload_n 2, 1, 0, 0, 0), (67, .iload_n 1, 1, 0, 0, 0), (68, .iconst 2, 1, 0, 0, 0), (69, .idiv, 1, 0, 0, 0), (70, .if_icmp .lt 7, 3, 45, 0, 0), (73, .iconst 1, 1, 0, 0, 0), (74, .goto 4, 3, 46, 0, 0), (77, .iconst 0, 1, 0, 0, 0), (78, .istore 7, 2, 0, 0, 0), (80, .iload 4, 2, 0, 0, 0), (82, .tableswitch 47 0 2 #[26, 28, 41], 26, 0, 0, 0), (108, .iload_n 3, 1, 0, 0, 0), (109, .ireturn, 1, 0, 0, 0), (110, .iload_n 1, 1, 0, 0, 0), (111, .iload_n 3, 1, 0, 0, 0), (112, .iload_n 2, 1, 0, 0, 0), (113, .isub, 1, 0, 0, 0), (114, .iload 7, 2, 0, 0, 0), (116, .isub, 1, 0, 0, 0), (117, .iload_n 1, 1, 0, 0, 0), (118, .invokestatic 210, 3, 227, 2, 908), (121, .iadd, 1, 0, 0, 0), (122, .ireturn, 1, 0, 0, 0), (123, .iload_n 3, 1, 0, 0, 0), (124, .iload_n 2, 1, 0, 0, 0), (125, .iadd, 1, 0, 0, 0), (126, .iload_n 1, 1, 0, 0, 0), (127, .irem, 1, 0, 0, 0), (128, .ireturn, 1, 0, 0, 0), (129, .iconst (-1), 1, 0, 0, 0), (130, .ireturn, 1, 0, 0, 0)]
def cd_135 : List aE := [(0, .aload_n 0, 1, 0, 0, 0), (1, .iload_n 1, 1, 0, 0, 0), (2, .invokevirtual 168, 3, 140, 113, 290), (5, .astore_n 2, 1, 0, 0, 0), (6, .aload_n 2, 1, 0, 0, 0), (7, .ifnonnull 5, 3, 8, 0, 0), (10, .iconst (-1), 1, 0, 0, 0), (11, .ireturn, 1, 0, 0, 0), (12, .aload_n 0, 1, 0, 0, 0), (13, .getfield 41, 3, 7, 7, 159), (16, .iconst 0, 1, 0, 0, 0), (17, .invokevirtual 216, 3, 236, 1, 915), (20, .aload_n 2, 1, 0, 0, 0), (21, .aload_n 0, 1, 0, 0, 0), (22, .getfield 41, 3, 7, 7, 159), (25, .invokevirtual 219, 3, 72, 81, 975), (28, .aload_n 0, 1, 0, 0, 0), (29, .getfield 41, 3, 7, 7, 159), (32, .invokevirtual 223, 3, 232, 0, 1134), (35, .ireturn, 1, 0, 0, 0)]
def cd_136 : List aE := [(0, .iload_n 1, 1, 0, 0, 0), (1, .ifCond .lt 25, 3, 12, 0, 0), (4, .iload_n 1, 1, 0, 0, 0), (5, .aload_n 0, 1, 0, 0, 0), (6, .getfield 41, 3, 7, 7, 159), (9, .invokevirtual 223, 3, 232, 0, 1134), (12, .if_icmp .ge 14, 3, 12, 0, 0), (15, .aload_n 0, 1, 0, 0, 0), (16, .getfield 41, 3, 7, 7, 159), (19, .iload_n 1, 1, 0, 0, 0), (20, .invokevirtual 226, 3, 234, 1, 1145), (23, .goto 4, 3, 13, 0, 0), (26, .iconst (-1), 1, 0, 0, 0), (27, .ireturn, 1, 0, 0, 0)]
def cd_137 : List aE := [(0, .iload_n 1, 1, 0, 0, 0), (1, .tableswitch 51 0 3 #[31, 36, 41, 46], 31, 0, 0, 0), (32, .aload_n 0, 1, 0, 0, 0), (33, .getfield 45, 3, 7, 1, 153), (36, .ireturn, 1, 0, 0, 0), (37, .aload_n 0, 1, 0, 0, 0), (38, .getfield 93, 3, 7, 4, 156), (41, .ireturn, 1, 0, 0, 0), (42, .aload_n 0, 1, 0, 0, 0), (43, .invokevirtual 230, 3, 144, 112, 1159), (46, .ireturn, 1, 0, 0, 0), (47, .aload_n 0, 1, 0, 0, 0), (48, .invokevirtual 233, 3, 153, 112, 1163), (51, .ireturn, 1, 0, 0, 0), (52, .iconst (-1), 1, 0, 0, 0), (53, .ireturn, 1, 0, 0, 0)]
def cd_138 : List aE := [(0, .iconst 0, 1, 0, 0, 0), (1, .istore_n 2, 1, 0, 0, 0), (2, .iload_n 2, 1, 0, 0, 0), (3, .aload_n 0, 1, 0, 0, 0), (4, .getfield 27, 3, 7, 5, 157), (7, .arraylength, 1, 0, 0, 0), (8, .if_icmp .ge 16, 3, 14, 0, 0), (11, .aload_n 0, 1, 0, 0, 0), (12, .getfield 27, 3, 7, 5, 157), (15, .iload_n 2, 1, 0, 0, 0), (16, .iload_n 2, 1, 0, 0, 0), (17, .iastore, 1, 0, 0, 0), (18, .iinc 2 1, 3, 0, 0, 0), (21, .goto (-19), 3, 2, 0, 0), (24, .iload_n 1, 1, 0, 0, 0), (25, .istore_n 2, 1, 0, 0, 0), (26, .aload_n 0, 1, 0, 0, 0), (27, .getfield 27, 3, 7, 5, 157), (30, .arraylength, 1, 0, 0, 0), (31, .iconst 1, 1, 0, 0, 0), (32, .isub, 1, 0, 0, 0), (33, .istore_n 3, 1, 0, 0, 0), (34, .iload_n 3, 1, 0, 0, 0), (35, .iconst 1, 1, 0, 0, 0), (36, .if_icmp .lt 58, 3, 59, 0, 0), (39, .iload_n 2, 1, 0, 0, 0), (40, .ldc 236, 2, 1103515245, 0, 185), (42, .imul, 1, 0, 0, 0), (43, .sipush 12345, 3, 0, 0, 0), (46, .iadd, 1, 0, 0, 0), (47, .istore_n 2, 1, 0, 0, 0), (48, .iload_n 2, 1, 0, 0, 0), (49, .bipush 16, 2, 0, 0, 0), (51, .iushr, 1, 0, 0, 0), (52, .iload_n 3, 1, 0, 0, 0), (53, .iconst 1, 1, 0, 0, 0), (54, .iadd, 1, 0, 0, 0), (55, .irem, 1, 0, 0, 0), (56, .istore 4, 2, 0, 0, 0), (58, .aload_n 0, 1, 0, 0, 0), (59, .getfield 27, 3, 7, 5, 157), (62, .iload_n 3, 1, 0, 0, 0), (63, .iaload, 1, 0, 0, 0), (64, .istore 5, 2, 0, 0, 0), (66, .aload_n 0, 1, 0, 0, 0), (67, .getfield 27, 3, 7, 5, 157), (70, .iload_n 3, 1, 0, 0, 0), (71, .aload_n 0, 1, 0, 0, 0), (72, .getfield 27, 3, 7, 5, 157), (75, .iload 4, 2, 0, 0, 0), (77, .iaload, 1, 0, 0, 0), (78, .iastore, 1, 0, 0, 0), (79, .aload_n 0, 1, 0, 0, 0), (80, .getfield 27, 3, 7, 5, 157), (83, .iload 4, 2, 0, 0, 0), (85, .iload 5, 2, 0, 0, 0), (87, .iastore, 1, 0, 0, 0), (88, .iinc 3 (-1), 3, 0, 0, 0), (91, .goto (-57), 3, 22, 0, 0), (94, .return_, 1, 0, 0, 0)]
def cd_139 : List aE := [(0, .iload_n 1, 1, 0, 0, 0), (1, .iconst 1, 1, 0, 0, 0), (2, .if_icmp .lt 31, 3, 19, 0, 0), (5, .iload_n 1, 1, 0, 0, 0), (6, .aload_n 0, 1, 0, 0, 0), (7, .getfield 45, 3, 7, 1, 153), (10, .if_icmp .gt 23, 3, 19, 0, 0), (13, .iload_n 1, 1, 0, 0, 0), (14, .aload_n 0, 1, 0, 0, 0), (15, .getfield 11, 3, 7, 0, 152), (18, .arraylength, 1, 0, 0, 0), (19, .if_icmp .gt 14, 3, 19, 0, 0), (22, .aload_n 0, 1, 0, 0, 0), (23, .getfield 11, 3, 7, 0, 152), (26, .iload_n 1, 1, 0, 0, 0), (27, .iconst 1, 1, 0, 0, 0), (28, .isub, 1, 0, 0, 0), (29, .aaload, 1, 0, 0, 0), (30, .goto 4, 3, 20, 0, 0), (33, .aconst_null, 1, 0, 0, 0), (34, .areturn, 1, 0, 0, 0)]
def cd_140 : List aE := [(0, .iload_n 1, 1, 0, 0, 0), (1, .ifCond .lt 29, 3, 16, 0, 0), (4, .iload_n 1, 1, 0, 0, 0), (5, .aload_n 0, 1, 0, 0, 0), (6, .getfield 93, 3, 7, 4, 156), (9, .if_icmp .ge 21, 3, 16, 0, 0), (12, .iload_n 1, 1, 0, 0, 0), (13, .aload_n 0, 1, 0, 0, 0), (14, .getfield 23, 3, 7, 3, 155), (17, .arraylength, 1, 0, 0, 0), (18, .if_icmp .ge 12, 3, 16, 0, 0), (21, .aload_n 0, 1, 0, 0, 0), (22, .getfield 23, 3, 7, 3, 155), (25, .iload_n 1, 1, 0, 0, 0), (26, .aaload, 1, 0, 0, 0), (27, .goto 4, 3, 17, 0, 0), (30, .aconst_null, 1, 0, 0, 0), (31, .areturn, 1, 0, 0, 0)]
def cd_141 : List aE := [(0, .iload_n 1, 1, 0, 0, 0), (1, .ifCond .lt 12, 3, 7, 0, 0), (4, .iload_n 1, 1, 0, 0, 0), (5, .aload_n 0, 1, 0, 0, 0), (6, .getfield 17, 3, 7, 2, 154), (9, .arraylength, 1, 0, 0, 0), (10, .if_icmp .lt 5, 3, 9, 0, 0), (13, .aconst_null, 1, 0, 0, 0), (14, .areturn, 1, 0, 0, 0), (15, .aload_n 0, 1, 0, 0, 0), (16, .getfield 17, 3, 7, 2, 154), (19, .iload_n 1, 1, 0, 0, 0), (20, .aaload, 1, 0, 0, 0), (21, .astore_n 2, 1, 0, 0, 0), (22, .aload_n 2, 1, 0, 0, 0), (23, .ifnull 14, 3, 21, 0, 0), (26, .aload_n 2, 1, 0, 0, 0), (27, .invokevirtual 237, 3, 85, 96, 263), (30, .ifCond .eq 7, 3, 21, 0, 0), (33, .aload_n 2, 1, 0, 0, 0), (34, .goto 4, 3, 22, 0, 0), (37, .aconst_null, 1, 0, 0, 0), (38, .areturn, 1, 0, 0, 0)]
def cd_142 : List aE := [(0, .aload_n 0, 1, 0, 0, 0), (1, .iload_n 1, 1, 0, 0, 0), (2, .invokevirtual 96, 3, 141, 113, 259), (5, .astore_n 2, 1, 0, 0, 0), (6, .aload_n 2, 1, 0, 0, 0), (7, .ifnull 22, 3, 15, 0, 0), (10, .aload_n 2, 1, 0, 0, 0), (11, .invokevirtual 240, 3, 90, 96, 649), (14, .ifCond .eq 15, 3, 15, 0, 0), (17, .aload_n 2, 1, 0, 0, 0), (18, .invokevirtual 134, 3, 100, 96, 636), (21, .iconst 4, 1, 0, 0, 0), (22, .if_icmp .gt 7, 3, 15, 0, 0), (25, .aload_n 2, 1, 0, 0, 0), (26, .goto 4, 3, 16, 0, 0), (29, .aconst_null, 1, 0, 0, 0), (30, .areturn, 1, 0, 0, 0)]
def cd_143 : List aE := [(0, .iconst 0, 1, 0, 0, 0), (1, .istore_n 2, 1, 0, 0, 0), (2, .iload_n 2, 1, 0, 0, 0), (3, .aload_n 0, 1, 0, 0, 0), (4, .getfield 17, 3, 7, 2, 154), (7, .arraylength, 1, 0, 0, 0), (8, .if_icmp .ge 29, 3, 21, 0, 0), (11, .aload_n 0, 1, 0, 0, 0), (12, .iload_n 2, 1, 0, 0, 0), (13, .invokevirtual 96, 3, 141, 113, 259), (16, .astore_n 3, 1, 0, 0, 0), (17, .aload_n 3, 1, 0, 0, 0), (18, .ifnull 13, 3, 19, 0, 0), (21, .aload_n 3, 1, 0, 0, 0), (22, .invokevirtual 243, 3, 86, 96, 267), (25, .iload_n 1, 1, 0, 0, 0), (26, .if_icmp .ne 5, 3, 19, 0, 0), (29, .iload_n 2, 1, 0, 0, 0), (30, .ireturn, 1, 0, 0, 0), (31, .iinc 2 1, 3, 0, 0, 0), (34, .goto (-32), 3, 2, 0, 0), (37, .iconst (-1), 1, 0, 0, 0), (38, .ireturn, 1, 0, 0, 0)]
def cd_144 : List aE := [(0, .iconst 0, 1, 0, 0, 0), (1, .istore_n 1, 1, 0, 0, 0), (2, .iconst 0, 1, 0, 0, 0), (3, .istore_n 2, 1, 0, 0, 0), (4, .iload_n 2, 1, 0, 0, 0), (5, .aload_n 0, 1, 0, 0, 0), (6, .getfield 17, 3, 7, 2, 154), (9, .arraylength, 1, 0, 0, 0), (10, .if_icmp .ge 20, 3, 16, 0, 0), (13, .aload_n 0, 1, 0, 0, 0), (14, .iload_n 2, 1, 0, 0, 0), (15, .invokevirtual 96, 3, 141, 113, 259), (18, .ifnull 6, 3, 14, 0, 0), (21, .iinc 1 1, 3, 0, 0, 0), (24, .iinc 2 1, 3, 0, 0, 0), (27, .goto (-23), 3, 4, 0, 0), (30, .iload_n 1, 1, 0, 0, 0), (31, .ireturn, 1, 0, 0, 0)]
def cd_145 : List aE := [(0, .iload_n 0, 1, 0, 0, 0), (1, .ifCond .lt 13, 3, 7, 0, 0), (4, .iload_n 0, 1, 0, 0, 0), (5, .bipush 40, 2, 0, 0, 0), (7, .if_icmp .ge 7, 3, 7, 0, 0), (10, .iconst 1, 1, 0, 0, 0), (11, .goto 4, 3, 8, 0, 0), (14, .iconst 0, 1, 0, 0, 0), (15, .ireturn, 1, 0, 0, 0)]
def cd_146 : List aE := [(0, .iload_n 0, 1, 0, 0, 0), (1, .ifCond .lt 13, 3, 7, 0, 0), (4, .iload_n 0, 1, 0, 0, 0), (5, .bipush 100, 2, 0, 0, 0), (7, .if_icmp .gt 7, 3, 7, 0, 0), (10, .iconst 1, 1, 0, 0, 0), (11, .goto 4, 3, 8, 0, 0), (14, .iconst 0, 1, 0, 0, 0), (15, .ireturn, 1, 0, 0, 0)]
def cd_147 : List aE := [(0, .iconst 0, 1, 0, 0, 0), (1, .istore_n 3, 1, 0, 0, 0), (2, .iload_n 3, 1, 0, 0, 0), (3, .aload_n 0, 1, 0, 0, 0), (4, .getfield 17, 3, 7, 2, 154), (7, .arraylength, 1, 0, 0, 0), (8, .if_icmp .ge 33, 3, 22, 0, 0), (11, .aload_n 0, 1, 0, 0, 0), (12, .iload_n 3, 1, 0, 0, 0), (13, .invokevirtual 96, 3, 141, 113, 259), (16, .astore 4, 2, 0, 0, 0), (18, .aload 4, 2, 0, 0, 0), (20, .ifnull 15, 3, 20, 0, 0), (23, .aload 4, 2, 0, 0, 0), (25, .iload_n 2, 1, 0, 0, 0), (26, .invokevirtual 246, 3, 87, 97, 286), (29, .iconst (-1), 1, 0, 0, 0), (30, .if_icmp .eq 5, 3, 20, 0, 0), (33, .iconst 0, 1, 0, 0, 0), (34, .ireturn, 1, 0, 0, 0), (35, .iinc 3 1, 3, 0, 0, 0), (38, .goto (-36), 3, 2, 0, 0), (41, .iconst 0, 1, 0, 0, 0), (42, .istore_n 3, 1, 0, 0, 0), (43, .iload_n 3, 1, 0, 0, 0), (44, .aload_n 0, 1, 0, 0, 0), (45, .getfield 93, 3, 7, 4, 156), (48, .if_icmp .ge 42, 3, 47, 0, 0), (51, .aload_n 0, 1, 0, 0, 0), (52, .iload_n 3, 1, 0, 0, 0), (53, .invokevirtual 168, 3, 140, 113, 290), (56, .astore 4, 2, 0, 0, 0), (58, .aload 4, 2, 0, 0, 0), (60, .ifnull 24, 3, 45, 0, 0), (63, .aload 4, 2, 0, 0, 0), (65, .invokevirtual 249, 3, 66, 80, 294), (68, .iload_n 1, 1, 0, 0, 0), (69, .if_icmp .ne 15, 3, 45, 0, 0), (72, .aload 4, 2, 0, 0, 0), (74, .iload_n 2, 1, 0, 0, 0), (75, .invokevirtual 250, 3, 67, 81, 298), (78, .iconst (-1), 1, 0, 0, 0), (79, .if_icmp .eq 5, 3, 45, 0, 0), (82, .iconst 0, 1, 0, 0, 0), (83, .ireturn, 1, 0, 0, 0), (84, .iinc 3 1, 3, 0, 0, 0), (87, .goto (-44), 3, 24, 0, 0), (90, .iconst 1, 1, 0, 0, 0), (91, .ireturn, 1, 0, 0, 0)]
def cd_148 : List aE := [(0, .aload_n 0, 1, 0, 0, 0), (1, .aload_n 1, 1, 0, 0, 0), (2, .invokevirtual 243, 3, 86, 96, 267), (5, .invokevirtual 59, 3, 139, 113, 216), (8, .astore_n 3, 1, 0, 0, 0), (9, .aload_n 3, 1, 0, 0, 0), (10, .ifnull 43, 3, 29, 0, 0), (13, .aload_n 0, 1, 0, 0, 0), (14, .getfield 93, 3, 7, 4, 156), (17, .aload_n 0, 1, 0, 0, 0), (18, .getfield 23, 3, 7, 3, 155), (21, .arraylength, 1, 0, 0, 0), (22, .if_icmp .ge 31, 3, 29, 0, 0), (25, .aload_n 0, 1, 0, 0, 0), (26, .getfield 23, 3, 7, 3, 155), (29, .aload_n 0, 1, 0, 0, 0), (30, .getfield 93, 3, 7, 4, 156), (33, .aload_n 1, 1, 0, 0, 0), (34, .iload_n 2, 1, 0, 0, 0), (35, .invokevirtual 251, 3, 106, 97, 439), (38, .aastore, 1, 0, 0, 0), (39, .aload_n 0, 1, 0, 0, 0), (40, .dup, 1, 0, 0, 0), (41, .getfield 93, 3, 7, 4, 156), (44, .iconst 1, 1, 0, 0, 0), (45, .iadd, 1, 0, 0, 0), (46, .putfield 93, 3, 7, 4, 156), (49, .aload_n 3, 1, 0, 0, 0), (50, .invokevirtual 254, 3, 25, 32, 546), (53, .aload_n 1, 1, 0, 0, 0), (54, .invokevirtual 147, 3, 84, 96, 550), (57, .return_, 1, 0, 0, 0)]
def cd_149 : List aE := [(0, .aload_n 0, 1, 0, 0, 0), (1, .aload_n 1, 1, 0, 0, 0), (2, .invokevirtual 249, 3, 66, 80, 294), (5, .invokevirtual 59, 3, 139, 113, 216), (8, .astore_n 2, 1, 0, 0, 0), (9, .aload_n 2, 1, 0, 0, 0), (10, .ifnonnull 7, 3, 9, 0, 0), (13, .iconst 0, 1, 0, 0, 0), (14, .goto 12, 3, 15, 0, 0), (17, .bipush 20, 2, 0, 0, 0), (19, .aload_n 2, 1, 0, 0, 0), (20, .invokevirtual 84, 3, 26, 32, 251), (23, .iconst 1, 1, 0, 0, 0), (24, .isub, 1, 0, 0, 0), (25, .imul, 1, 0, 0, 0), (26, .ireturn, 1, 0, 0, 0)]
def cd_150 : List aE := [(0, .aload_n 0, 1, 0, 0, 0), (1, .aload_n 1, 1, 0, 0, 0), (2, .invokevirtual 257, 3, 149, 113, 852), (5, .istore 4, 2, 0, 0, 0), (7, .aload_n 1, 1, 0, 0, 0), (8, .invokevirtual 261, 3, 69, 80, 856), (11, .ifCond .eq 15, 3, 15, 0, 0), (14, .aload_n 1, 1, 0, 0, 0), (15, .iload_n 3, 1, 0, 0, 0), (16, .invokevirtual 264, 3, 70, 81, 860), (19, .iload 4, 2, 0, 0, 0), (21, .imul, 1, 0, 0, 0), (22, .bipush 100, 2, 0, 0, 0), (24, .idiv, 1, 0, 0, 0), (25, .ireturn, 1, 0, 0, 0), (26, .iconst 0, 1, 0, 0, 0), (27, .istore 5, 2, 0, 0, 0), (29, .iconst 0, 1, 0, 0, 0), (30, .istore 6, 2, 0, 0, 0), (32, .iload 6, 2, 0, 0, 0), (34, .aload_n 0, 1, 0, 0, 0), (35, .getfield 93, 3, 7, 4, 156), (38, .if_icmp .ge 51, 3, 45, 0, 0), (41, .aload_n 0, 1, 0, 0, 0), (42, .iload 6, 2, 0, 0, 0), (44, .invokevirtual 168, 3, 140, 113, 290), (47, .astore 7, 2, 0, 0, 0), (49, .iload 6, 2, 0, 0, 0), (51, .iload_n 2, 1, 0, 0, 0), (52, .if_icmp .eq 31, 3, 43, 0, 0), (55, .aload 7, 2, 0, 0, 0), (57, .ifnull 26, 3, 43, 0, 0), (60, .aload 7, 2, 0, 0, 0), (62, .invokevirtual 249, 3, 66, 80, 294), (65, .aload_n 1, 1, 0, 0, 0), (66, .invokevirtual 249, 3, 66, 80, 294), (69, .if_icmp .ne 14, 3, 43, 0, 0), (72, .iload 5, 2, 0, 0, 0), (74, .aload_n 1, 1, 0, 0, 0), (75, .aload 7, 2, 0, 0, 0), (77, .invokestatic 267, 3, 151, 2, 864), (80, .iadd, 1, 0, 0, 0), (81, .istore 5, 2, 0, 0, 0), (83, .iinc 6 1, 3, 0, 0, 0), (86, .goto (-54), 3, 19, 0, 0), (89, .iload_n 3, 1, 0, 0, 0), (90, .ifCond .ne 8, 3, 49, 0, 0), (93, .iload 5, 2, 0, 0, 0), (95, .goto 8, 3, 52, 0, 0), (98, .iload 4, 2, 0, 0, 0), (100, .iload 5, 2, 0, 0, 0), (102, .isub, 1, 0, 0, 0), (103, .ireturn, 1, 0, 0, 0)]
def cd_151 : List aE := [(0, .aload_n 1, 1, 0, 0, 0), (1, .invokevirtual 261, 3, 69, 80, 856), (4, .ifCond .ne 14, 3, 8, 0, 0), (7, .aload_n 1, 1, 0, 0, 0), (8, .invokevirtual 271, 3, 68, 80, 867), (11, .aload_n 0, 1, 0, 0, 0), (12, .invokevirtual 271, 3, 68, 80, 867), (15, .if_icmp .ne 6, 3, 10, 0, 0), (18, .bipush 10, 2, 0, 0, 0), (20, .ireturn, 1, 0, 0, 0), (21, .aload_n 1, 1, 0, 0, 0), (22, .invokevirtual 271, 3, 68, 80, 867), (25, .aload_n 0, 1, 0, 0, 0), (26, .invokevirtual 271, 3, 68, 80, 867), (29, .if_icmp .ge 8, 3, 17, 0, 0), (32, .bipush 20, 2, 0, 0, 0), (34, .goto 4, 3, 18, 0, 0), (37, .iconst 0, 1, 0, 0, 0), (38, .ireturn, 1, 0, 0, 0)]
def cd_152 : List aE := [(0, .iconst 0, 1, 0, 0, 0), (1, .istore_n 2, 1, 0, 0, 0), (2, .iload_n 2, 1, 0, 0, 0), (3, .aload_n 0, 1, 0, 0, 0), (4, .getfield 93, 3, 7, 4, 156), (7, .if_icmp .ge 30, 3, 21, 0, 0), (10, .aload_n 0, 1, 0, 0, 0), (11, .iload_n 2, 1, 0, 0, 0), (12, .invokevirtual 168, 3, 140, 113, 290), (15, .astore_n 3, 1, 0, 0, 0), (16, .aload_n 3, 1, 0, 0, 0), (17, .ifnull 14, 3, 19, 0, 0), (20, .aload_n 3, 1, 0, 0, 0), (21, .iload_n 1, 1, 0, 0, 0), (22, .invokevirtual 250, 3, 67, 81, 298), (25, .iconst (-1), 1, 0, 0, 0), (26, .if_icmp .eq 5, 3, 19, 0, 0), (29, .iconst 1, 1, 0, 0, 0), (30, .ireturn, 1, 0, 0, 0), (31, .iinc 2 1, 3, 0, 0, 0), (34, .goto (-32), 3, 2, 0, 0), (37, .iconst 0, 1, 0, 0, 0), (38, .ireturn, 1, 0, 0, 0)]
def cd_153 : List aE := [(0, .iconst 0, 1, 0, 0, 0), (1, .istore_n 1, 1, 0, 0, 0), (2, .iconst 0, 1, 0, 0, 0), (3, .istore_n 2, 1, 0, 0, 0), (4, .iload_n 2, 1, 0, 0, 0), (5, .bipush 40, 2, 0, 0, 0), (7, .if_icmp .ge 20, 3, 14, 0, 0), (10, .aload_n 0, 1, 0, 0, 0), (11, .iload_n 2, 1, 0, 0, 0), (12, .invokevirtual 194, 3, 152, 113, 875), (15, .ifCond .eq 6, 3, 12, 0, 0), (18, .iinc 1 1, 3, 0, 0, 0), (21, .iinc 2 1, 3, 0, 0, 0), (24, .goto (-20), 3, 4, 0, 0), (27, .iload_n 1, 1, 0, 0, 0), (28, .ireturn, 1, 0, 0, 0)]
def cd_154 : List aE := [(0, .iconst 0, 1, 0, 0, 0), (1, .istore_n 2, 1, 0, 0, 0), (2, .iconst 0, 1, 0, 0, 0), (3, .istore_n 3, 1, 0, 0, 0), (4, .iload_n 3, 1, 0, 0, 0), (5, .aload_n 0, 1, 0, 0, 0), (6, .getfield 93, 3, 7, 4, 156), (9, .if_icmp .ge 56, 3, 35, 0, 0), (12, .aload_n 0, 1, 0, 0, 0), (13, .iload_n 3, 1, 0, 0, 0), (14, .invokevirtual 168, 3, 140, 113, 290), (17, .astore 4, 2, 0, 0, 0), (19, .aload 4, 2, 0, 0, 0), (21, .ifnonnull 7, 3, 16, 0, 0), (24, .iconst (-1), 1, 0, 0, 0), (25, .goto 9, 3, 19, 0, 0), (28, .aload 4, 2, 0, 0, 0), (30, .iload_n 1, 1, 0, 0, 0), (31, .invokevirtual 250, 3, 67, 81, 298), (34, .istore 5, 2, 0, 0, 0), (36, .aload 4, 2, 0, 0, 0), (38, .ifnull 21, 3, 33, 0, 0), (41, .iload 5, 2, 0, 0, 0), (43, .iconst (-1), 1, 0, 0, 0), (44, .if_icmp .eq 15, 3, 33, 0, 0), (47, .iload_n 2, 1, 0, 0, 0), (48, .aload_n 0, 1, 0, 0, 0), (49, .aload 4, 2, 0, 0, 0), (51, .iload_n 3, 1, 0, 0, 0), (52, .iload 5, 2, 0, 0, 0), (54, .invokevirtual 190, 3, 150, 115, 848), (57, .iadd, 1, 0, 0, 0), (58, .istore_n 2, 1, 0, 0, 0), (59, .iinc 3 1, 3, 0, 0, 0), (62, .goto (-58), 3, 4, 0, 0), (65, .iload_n 2, 1, 0, 0, 0), (66, .ireturn, 1, 0, 0, 0)]
def cd_155 : List aE := [(0, .iconst 0, 1, 0, 0, 0), (1, .istore_n 2, 1, 0, 0, 0), (2, .iconst 0, 1, 0, 0, 0), (3, .istore_n 3, 1, 0, 0, 0), (4, .iload_n 3, 1, 0, 0, 0), (5, .aload_n 0, 1, 0, 0, 0), (6, .getfield 93, 3, 7, 4, 156), (9, .if_icmp .ge 40, 3, 27, 0, 0), (12, .aload_n 0, 1, 0, 0, 0), (13, .iload_n 3, 1, 0, 0, 0), (14, .invokevirtual 168, 3, 140, 113, 290), (17, .astore 4, 2, 0, 0, 0), (19, .aload 4, 2, 0, 0, 0), (21, .ifnull 22, 3, 25, 0, 0), (24, .aload 4, 2, 0, 0, 0), (26, .iload_n 1, 1, 0, 0, 0), (27, .invokevirtual 250, 3, 67, 81, 298), (30, .iconst (-1), 1, 0, 0, 0), (31, .if_icmp .eq 12, 3, 25, 0, 0), (34, .iload_n 2, 1, 0, 0, 0), (35, .aload_n 0, 1, 0, 0, 0), (36, .aload 4, 2, 0, 0, 0), (38, .invokevirtual 257, 3, 149, 113, 852), (41, .iadd, 1, 0, 0, 0), (42, .istore_n 2, 1, 0, 0, 0), (43, .iinc 3 1, 3, 0, 0, 0), (46, .goto (-42), 3, 4, 0, 0), (49, .iload_n 2, 1, 0, 0, 0), (50, .ireturn, 1, 0, 0, 0)]
def cd_156 : List aE := [(0, .aload_n 0, 1, 0, 0, 0), (1, .iload_n 1, 1, 0, 0, 0), (2, .invokevirtual 200, 3, 155, 113, 887), (5, .ifCond .ne 7, 3, 6, 0, 0), (8, .lconst 1, 1, 0, 0, 0), (9, .goto 9, 3, 10, 0, 0), (12, .aload_n 0, 1, 0, 0, 0), (13, .iload_n 1, 1, 0, 0, 0), (14, .invokevirtual 197, 3, 154, 113, 879), (17, .i2l, 1, 0, 0, 0), (18, .lreturn, 1, 0, 0, 0)]
def cd_157 : List aE := [(0, .aload_n 0, 1, 0, 0, 0), (1, .iload_n 1, 1, 0, 0, 0), (2, .invokevirtual 200, 3, 155, 113, 887), (5, .istore_n 2, 1, 0, 0, 0), (6, .iload_n 2, 1, 0, 0, 0), (7, .ifCond .ne 9, 3, 8, 0, 0), (10, .ldc2_w 274, 3, 2, 0, 903), (13, .goto 5, 3, 10, 0, 0), (16, .iload_n 2, 1, 0, 0, 0), (17, .i2l, 1, 0, 0, 0), (18, .lreturn, 1, 0, 0, 0)]
def cd_158 : List aE := [(0, .aload_n 0, 1, 0, 0, 0), (1, .invokespecial 1, 3, 1000, 0, 1172), (4, .aload_n 0, 1, 0, 0, 0), (5, .sipush 1872, 3, 0, 0, 0), (8, .newarray .int, 2, 0, 0, 0), (10, .putfield 9, 3, 8, 2, 1175), (13, .aload_n 0, 1, 0, 0, 0), (14, .bipush 36, 2, 0, 0, 0), (16, .newarray .boolean, 2, 1, 0, 0), (18, .putfield 13, 3, 8, 3, 1176), (21, .aload_n 0, 1, 0, 0, 0), (22, .bipush 10, 2, 0, 0, 0), (24, .newarray .int, 2, 0, 0, 0), (26, .putfield 17, 3, 8, 4, 1177), (29, .aload_n 0, 1, 0, 0, 0), (30, .bipush 10, 2, 0, 0, 0), (32, .newarray .int, 2, 0, 0, 0), (34, .putfield 20, 3, 8, 5, 1178), (37, .aload_n 0, 1, 0, 0, 0), (38, .bipush 20, 2, 0, 0, 0), (40, .newarray .int, 2, 0, 0, 0), (42, .putfield 23, 3, 8, 6, 1179), (45, .aload_n 0, 1, 0, 0, 0), (46, .bipush 10, 2, 0, 0, 0), (48, .newarray .int, 2, 0, 0, 0), (50, .putfield 26, 3, 8, 7, 1180), (53, .aload_n 0, 1, 0, 0, 0), (54, .bipush 10, 2, 0, 0, 0), (56, .newarray .int, 2, 0, 0, 0), (58, .putfield 29, 3, 8, 8, 1181), (61, .aload_n 0, 1, 0, 0, 0), (62, .sipush 3400, 3, 0, 0, 0), (65, .newarray .int, 2, 0, 0, 0), (67, .putfield 32, 3, 8, 9, 1182), (70, .aload_n 0, 1, 0, 0, 0), (71, .sipush 520, 3, 0, 0, 0), (74, .newarray .int, 2, 0, 0, 0), (76, .putfield 35, 3, 8, 10, 1183), (79, .aload_n 0, 1, 0, 0, 0), (80, .sipush 220, 3, 0, 0, 0), (83, .newarray .int, 2, 0, 0, 0), (85, .putfield 38, 3, 8, 11, 1184), (88, .aload_n 0, 1, 0, 0, 0), (89, .sipush 440, 3, 0, 0, 0), (92, .newarray .int, 2, 0, 0, 0), (94, .putfield 41, 3, 8, 12, 1185), (97, .aload_n 0, 1, 0, 0, 0), (98, .sipush 220, 3, 0, 0, 0), (101, .newarray .int, 2, 0, 0, 0), (103, .putfield 44, 3, 8, 13, 1186), (106, .aload_n 0, 1, 0, 0, 0), (107, .sipush 220, 3, 0, 0, 0), (110, .newarray .int, 2, 0, 0, 0), (112, .putfield 47, 3, 8, 14, 1187), (115, .aload_n 0, 1, 0, 0, 0), (116, .sipush 220, 3, 0, 0, 0), (119, .newarray .int, 2, 0, 0, 0), (121, .putfield 50, 3, 8, 15, 1188), (124, .aload_n 0, 1, 0, 0, 0), (125, .sipush 220, 3, 0, 0, 0), (128, .newarray .int, 2, 0, 0, 0), (130, .putfield 53, 3, 8, 16, 1189), (133, .aload_n 0, 1, 0, 0, 0), (134, .sipush 220, 3, 0, 0, 0), (137, .newarray .int, 2, 0, 0, 0), (139, .putfield 56, 3, 8, 17, 1190), (142, .aload_n 0, 1, 0, 0, 0), (143, .sipush 220, 3, 0, 0, 0), (146, .newarray .int, 2, 0, 0, 0), (148, .putfield 59, 3, 8, 18, 1191), (151, .aload_n 0, 1, 0, 0, 0), (152, .sipush 440, 3, 0, 0, 0), (155, .newarray .int, 2, 0, 0, 0), (157, .putfield 62, 3, 8, 19, 1192), (160, .aload_n 0, 1, 0, 0, 0), (161, .sipush 220, 3, 0, 0, 0), (164, .newarray .boolean, 2, 1, 0, 0), (166, .putfield 65, 3, 8, 20, 1193), (169, .aload_n 0, 1, 0, 0, 0), (170, .bipush 20, 2, 0, 0, 0), (172, .newarray .int, 2, 0, 0, 0), (174, .putfield 68, 3, 8, 21, 1194), (177, .aload_n 0, 1, 0, 0, 0), (178, .bipush 52, 2, 0, 0, 0), (180, .newarray .int, 2, 0, 0, 0), (182, .putfield 71, 3, 8, 23, 1196), (185, .aload_n 0, 1, 0, 0, 0), (186, .iconst 2, 1, 0, 0, 0), (187, .newarray .int, 2, 0, 0, 0), (189, .putfield 74, 3, 8, 24, 1197), (192, .aload_n 0, 1, 0, 0, 0), (193, .bipush 16, 2, 0, 0, 0), (195, .newarray .int, 2, 0, 0, 0), (197, .putfield 77, 3, 8, 27, 1200), (200, .aload_n 0, 1, 0, 0, 0), (201, .iconst 4, 1, 0, 0, 0), (202, .newarray .int, 2, 0, 0, 0), (204, .putfield 80, 3, 8, 28, 1201), (207, .return_, 1, 0, 0, 0)]
def cd_159 : List aE := [(0, .iload_n 0, 1, 0, 0, 0), (1, .iload_n 1, 1, 0, 0, 0), (2, .if_icmp .lt 12, 3, 8, 0, 0), (5, .iload_n 0, 1, 0, 0, 0), (6, .iload_n 2, 1, 0, 0, 0), (7, .if_icmp .gt 7, 3, 8, 0, 0), (10, .iconst 1, 1, 0, 0, 0), (11, .goto 4, 3, 9, 0, 0), (14, .iconst 0, 1, 0, 0, 0), (15, .ireturn, 1, 0, 0, 0)]
def cd_160 : List aE := [(0, .iload_n 0, 1, 0, 0, 0), (1, .iload_n 1, 1, 0, 0, 0), (2, .irem, 1, 0, 0, 0), (3, .istore_n 2, 1, 0, 0, 0), (4, .iload_n 2, 1, 0, 0, 0), (5, .ifCond .ge 9, 3, 10, 0, 0), (8, .iload_n 2, 1, 0, 0, 0), (9, .iload_n 1, 1, 0, 0, 0), (10, .iadd, 1, 0, 0, 0), (11, .goto 4, 3, 11, 0, 0), (14, .iload_n 2, 1, 0, 0, 0), (15, .ireturn, 1, 0, 0, 0)]
def cd_161 : List aE := [(0, .aload_n 0, 1, 0, 0, 0), (1, .getfield 83, 3, 8, 0, 1173), (4, .bipush 36, 2, 0, 0, 0), (6, .if_icmp .ne 5, 3, 6, 0, 0), (9, .iconst (-1), 1, 0, 0, 0), (10, .ireturn, 1, 0, 0, 0), (11, .aload_n 0, 1, 0, 0, 0), (12, .getfield 71, 3, 8, 23, 1196), (15, .astore_n 2, 1, 0, 0, 0), (16, .iconst 0, 1, 0, 0, 0), (17, .istore_n 3, 1, 0, 0, 0), (18, .iload_n 3, 1, 0, 0, 0), (19, .bipush 52, 2, 0, 0, 0), (21, .if_icmp .ge 13, 3, 20, 0, 0), (24, .aload_n 2, 1, 0, 0, 0), (25, .iload_n 3, 1, 0, 0, 0), (26, .iload_n 3, 1, 0, 0, 0), (27, .iastore, 1, 0, 0, 0), (28, .iinc 3 1, 3, 0, 0, 0), (31, .goto (-13), 3, 11, 0, 0), (34, .iload_n 1, 1, 0, 0, 0), (35, .istore_n 3, 1, 0, 0, 0), (36, .bipush 51, 2, 0, 0, 0), (38, .istore 4, 2, 0, 0, 0), (40, .iload 4, 2, 0, 0, 0), (42, .ifCond .le 49, 3, 56, 0, 0), (45, .iload_n 3, 1, 0, 0, 0), (46, .ldc 87, 2, 1103515245, 0, 1272), (48, .imul, 1, 0, 0, 0), (49, .sipush 12345, 3, 0, 0, 0), (52, .iadd, 1, 0, 0, 0), (53, .istore_n 3, 1, 0, 0, 0), (54, .iload_n 3, 1, 0, 0, 0), (55, .bipush 16, 2, 0, 0, 0), (57, .iushr, 1, 0, 0, 0), (58, .iload 4, 2, 0, 0, 0), (60, .iconst 1, 1, 0, 0, 0), (61, .iadd, 1, 0, 0, 0), (62, .irem, 1, 0, 0, 0), (63, .istore 5, 2, 0, 0, 0), (65, .aload_n 2, 1, 0, 0, 0), (66, .iload 4, 2, 0, 0, 0), (68, .iaload, 1, 0, 0, 0), (69, .istore 6, 2, 0, 0, 0), (71, .aload_n 2, 1, 0, 0, 0), (72, .iload 4, 2, 0, 0, 0), (74, .aload_n 2, 1, 0, 0, 0), (75, .iload 5, 2, 0, 0, 0), (77, .iaload, 1, 0, 0, 0), (78, .iastore, 1, 0, 0, 0), (79, .aload_n 2, 1, 0, 0, 0), (80, .iload 5, 2, 0, 0, 0), (82, .iload 6, 2, 0, 0, 0), (84, .iastore, 1, 0, 0, 0), (85, .iinc 4 (-1), 3, 0, 0, 0), (88, .goto (-48), 3, 24, 0, 0), (91, .iconst 0, 1, 0, 0, 0), (92, .istore 4, 2, 0, 0, 0), (94, .iload 4, 2, 0, 0, 0), (96, .bipush 52, 2, 0, 0, 0), (98, .if_icmp .ge 30, 3, 77, 0, 0), (101, .aload_n 0, 1, 0, 0, 0), (102, .getfield 9, 3, 8, 2, 1175), (105, .bipush 52, 2, 0, 0, 0), (107, .aload_n 0, 1, 0, 0, 0), (108, .getfield 83, 3, 8, 0, 1173), (111, .imul, 1, 0, 0, 0), (112, .aload_n 2, 1, 0, 0, 0), (113, .iload 4, 2, 0, 0, 0), (115, .iaload, 1, 0, 0, 0), (116, .iadd, 1, 0, 0, 0), (117, .iload 4, 2, 0, 0, 0), (119, .iconst 4, 1, 0, 0, 0), (120, .irem, 1, 0, 0, 0), (121, .iastore, 1, 0, 0, 0), (122, .iinc 4 1, 3, 0, 0, 0), (125, .goto (-31), 3, 58, 0, 0), (128, .aload_n 0, 1, 0, 0, 0), (129, .getfield 13, 3, 8, 3, 1176), (132, .aload_n 0, 1, 0, 0, 0), (133, .getfield 83, 3, 8, 0, 1173), (136, .iconst 0, 1, 0, 0, 0), (137, .bastore, 1, 0, 0, 0), (138, .aload_n 0, 1, 0, 0, 0), (139, .dup, 1, 0, 0, 0), (140, .getfield 83, 3, 8, 0, 1173), (143, .iconst 1, 1, 0, 0, 0), (144, .iadd, 1, 0, 0, 0), (145, .putfield 83, 3, 8, 0, 1173), (148, .aload_n 0, 1, 0, 0, 0), (149, .getfield 83, 3, 8, 0, 1173), (152, .ireturn, 1, 0, 0, 0)]
def cd_162 : List aE := [(0, .iload_n 1, 1, 0, 0, 0), (1, .iconst 1, 1, 0, 0, 0), (2, .aload_n 0, 1, 0, 0, 0), (3, .getfield 83, 3, 8, 0, 1173), (6, .invokestatic 88, 3, 159, 3, 1281), (9, .ireturn, 1, 0, 0, 0)]
def cd_163 : List aE := [(0, .iload_n 0, 1, 0, 0, 0), (1, .iconst 0, 1, 0, 0, 0), (2, .bipush 51, 2, 0, 0, 0), (4, .invokestatic 88, 3, 159, 3, 1281), (7, .ireturn, 1, 0, 0, 0)]
def cd_164 : List aE := [(0, .aload_n 0, 1, 0, 0, 0), (1, .iload_n 1, 1, 0, 0, 0), (2, .invokevirtual 92, 3, 162, 129, 1277), (5, .ifCond .eq 28, 3, 17, 0, 0), (8, .iload_n 2, 1, 0, 0, 0), (9, .invokestatic 96, 3, 163, 1, 1284), (12, .ifCond .eq 21, 3, 17, 0, 0), (15, .iload_n 3, 1, 0, 0, 0), (16, .invokestatic 96, 3, 163, 1, 1284), (19, .ifCond .eq 14, 3, 17, 0, 0), (22, .aload_n 0, 1, 0, 0, 0), (23, .getfield 13, 3, 8, 3, 1176), (26, .iload_n 1, 1, 0, 0, 0), (27, .iconst 1, 1, 0, 0, 0), (28, .isub, 1, 0, 0, 0), (29, .baload, 1, 0, 0, 0), (30, .ifCond .eq 5, 3, 19, 0, 0), (33, .iconst 0, 1, 0, 0, 0), (34, .ireturn, 1, 0, 0, 0), (35, .bipush 52, 2, 0, 0, 0), (37, .iload_n 1, 1, 0, 0, 0), (38, .iconst 1, 1, 0, 0, 0), (39, .isub, 1, 0, 0, 0), (40, .imul, 1, 0, 0, 0), (41, .istore 4, 2, 0, 0, 0), (43, .aload_n 0, 1, 0, 0, 0), (44, .getfield 9, 3, 8, 2, 1175), (47, .iload 4, 2, 0, 0, 0), (49, .iload_n 2, 1, 0, 0, 0), (50, .iadd, 1, 0, 0, 0), (51, .iaload, 1, 0, 0, 0), (52, .istore 5, 2, 0, 0, 0), (54, .aload_n 0, 1, 0, 0, 0), (55, .getfield 9, 3, 8, 2, 1175), (58, .iload 4, 2, 0, 0, 0), (60, .iload_n 2, 1, 0, 0, 0), (61, .iadd, 1, 0, 0, 0), (62, .aload_n 0, 1, 0, 0, 0), (63, .getfield 9, 3, 8, 2, 1175), (66, .iload 4, 2, 0, 0, 0), (68, .iload_n 3, 1, 0, 0, 0), (69, .iadd, 1, 0, 0, 0), (70, .iaload, 1, 0, 0, 0), (71, .iastore, 1, 0, 0, 0), (72, .aload_n 0, 1, 0, 0, 0), (73, .getfield 9, 3, 8, 2, 1175), (76, .iload 4, 2, 0, 0, 0), (78, .iload_n 3, 1, 0, 0, 0), (79, .iadd, 1, 0, 0, 0), (80, .iload 5, 2, 0, 0, 0), (82, .iastore, 1, 0, 0, 0), (83, .iconst 1, 1, 0, 0, 0), (84, .ireturn, 1, 0, 0, 0)]
def cd_165 : List aE := [(0, .aload_n 0, 1, 0, 0, 0), (1, .iload_n 1, 1, 0, 0, 0), (2, .invokevirtual 92, 3, 162, 129, 1277), (5, .ifCond .eq 26, 3, 18, 0, 0), (8, .iload_n 2, 1, 0, 0, 0), (9, .invokestatic 96, 3, 163, 1, 1284), (12, .ifCond .eq 19, 3, 18, 0, 0), (15, .aload_n 0, 1, 0, 0, 0), (16, .getfield 9, 3, 8, 2, 1175), (19, .bipush 52, 2, 0, 0, 0), (21, .iload_n 1, 1, 0, 0, 0), (22, .iconst 1, 1, 0, 0, 0), (23, .isub, 1, 0, 0, 0), (24, .imul, 1, 0, 0, 0), (25, .iload_n 2, 1, 0, 0, 0), (26, .iadd, 1, 0, 0, 0), (27, .iaload, 1, 0, 0, 0), (28, .goto 4, 3, 19, 0, 0), (31, .iconst (-1), 1, 0, 0, 0), (32, .ireturn, 1, 0, 0, 0)]
def cd_166 : List aE := [(0, .iload_n 0, 1, 0, 0, 0), (1, .iconst 1, 1, 0, 0, 0), (2, .isub, 1, 0, 0, 0), (3, .iconst 4, 1, 0, 0, 0), (4, .irem, 1, 0, 0, 0), (5, .ireturn, 1, 0, 0, 0)]
def cd_167 : List aE := [(0, .iload_n 0, 1, 0, 0, 0), (1, .iconst 1, 1, 0, 0, 0), (2, .isub, 1, 0, 0, 0), (3, .bipush 16, 2, 0, 0, 0), (5, .irem, 1, 0, 0, 0), (6, .istore_n 1, 1, 0, 0, 0), (7, .iload_n 1, 1, 0, 0, 0), (8, .iload_n 1, 1, 0, 0, 0), (9, .iconst 4, 1, 0, 0, 0), (10, .idiv, 1, 0, 0, 0), (11, .iadd, 1, 0, 0, 0), (12, .iconst 4, 1, 0, 0, 0), (13, .irem, 1, 0, 0, 0), (14, .ireturn, 1, 0, 0, 0)]
def cd_168 : List aE := [(0, .iload_n 0, 1, 0, 0, 0), (1, .invokestatic 99, 3, 167, 1, 1298), (4, .istore_n 2, 1, 0, 0, 0), (5, .iload_n 2, 1, 0, 0, 0), (6, .iconst 3, 1, 0, 0, 0), (7, .if_icmp .eq 10, 3, 11, 0, 0), (10, .iload_n 2, 1, 0, 0, 0), (11, .iload_n 1, 1, 0, 0, 0), (12, .iconst 1, 1, 0, 0, 0), (13, .iadd, 1, 0, 0, 0), (14, .if_icmp .ne 7, 3, 13, 0, 0), (17, .iconst 1, 1, 0, 0, 0), (18, .goto 4, 3, 14, 0, 0), (21, .iconst 0, 1, 0, 0, 0), (22, .ireturn, 1, 0, 0, 0)]
def cd_169 : List aE := [(0, .iconst 0, 1, 0, 0, 0), (1, .istore_n 2, 1, 0, 0, 0), (2, .iload_n 2, 1, 0, 0, 0), (3, .bipush 10, 2, 0, 0, 0), (5, .if_icmp .ge 30, 3, 20, 0, 0), (8, .aload_n 0, 1, 0, 0, 0), (9, .getfield 17, 3, 8, 4, 1177), (12, .iload_n 2, 1, 0, 0, 0), (13, .iaload, 1, 0, 0, 0), (14, .ifCond .eq 15, 3, 18, 0, 0), (17, .aload_n 0, 1, 0, 0, 0), (18, .getfield 20, 3, 8, 5, 1178), (21, .iload_n 2, 1, 0, 0, 0), (22, .iaload, 1, 0, 0, 0), (23, .iload_n 1, 1, 0, 0, 0), (24, .if_icmp .ne 5, 3, 18, 0, 0), (27, .iload_n 2, 1, 0, 0, 0), (28, .ireturn, 1, 0, 0, 0), (29, .iinc 2 1, 3, 0, 0, 0), (32, .goto (-30), 3, 2, 0, 0), (35, .iconst (-1), 1, 0, 0, 0), (36, .ireturn, 1, 0, 0, 0)]
def cd_170 : List aE := [(0, .iconst 0, 1, 0, 0, 0), (1, .istore_n 2, 1, 0, 0, 0), (2, .iconst 0, 1, 0, 0, 0), (3, .istore_n 3, 1, 0, 0, 0), (4, .iload_n 3, 1, 0, 0, 0), (5, .aload_n 0, 1, 0, 0, 0), (6, .getfield 103, 3, 8, 1, 1174), (9, .if_icmp .ge 27, 3, 22, 0, 0), (12, .iload_n 2, 1, 0, 0, 0), (13, .aload_n 0, 1, 0, 0, 0), (14, .getfield 38, 3, 8, 11, 1184), (17, .iload_n 3, 1, 0, 0, 0), (18, .iaload, 1, 0, 0, 0), (19, .iload_n 1, 1, 0, 0, 0), (20, .if_icmp .ne 7, 3, 17, 0, 0), (23, .iconst 1, 1, 0, 0, 0), (24, .goto 4, 3, 18, 0, 0), (27, .iconst 0, 1, 0, 0, 0), (28, .iadd, 1, 0, 0, 0), (29, .istore_n 2, 1, 0, 0, 0), (30, .iinc 3 1, 3, 0, 0, 0), (33, .goto (-29), 3, 4, 0, 0), (36, .iload_n 2, 1, 0, 0, 0), (37, .ireturn, 1, 0, 0, 0)]
def cd_171 : List aE := [(0, .aload_n 0, 1, 0, 0, 0), (1, .iload_n 1, 1, 0, 0, 0), (2, .invokevirtual 92, 3, 162, 129, 1277), (5, .ifCond .ne 5, 3, 6, 0, 0), (8, .iconst (-1), 1, 0, 0, 0), (9, .ireturn, 1, 0, 0, 0), (10, .iload_n 2, 1, 0, 0, 0), (11, .tableswitch 51 0 3 #[29, 34, 39, 45], 29, 0, 0, 0), (40, .iload_n 1, 1, 0, 0, 0), (41, .invokestatic 106, 3, 166, 1, 1295), (44, .ireturn, 1, 0, 0, 0), (45, .iload_n 1, 1, 0, 0, 0), (46, .invokestatic 99, 3, 167, 1, 1298), (49, .ireturn, 1, 0, 0, 0), (50, .aload_n 0, 1, 0, 0, 0), (51, .iload_n 1, 1, 0, 0, 0), (52, .invokevirtual 109, 3, 170, 129, 1301), (55, .ireturn, 1, 0, 0, 0), (56, .aload_n 0, 1, 0, 0, 0), (57, .iload_n 1, 1, 0, 0, 0), (58, .invokevirtual 112, 3, 169, 129, 1305), (61, .ireturn, 1, 0, 0, 0), (62, .iconst (-1), 1, 0, 0, 0), (63, .ireturn, 1, 0, 0, 0)]
def cd_172 : List aE := [(0, .iconst 0, 1, 0, 0, 0), (1, .istore_n 2, 1, 0, 0, 0), (2, .iload_n 2, 1, 0, 0, 0), (3, .bipush 10, 2, 0, 0, 0), (5, .if_icmp .ge 46, 3, 32, 0, 0), (8, .aload_n 0, 1, 0, 0, 0), (9, .getfield 17, 3, 8, 4, 1177), (12, .iload_n 2, 1, 0, 0, 0), (13, .iaload, 1, 0, 0, 0), (14, .ifCond .eq 31, 3, 30, 0, 0), (17, .aload_n 0, 1, 0, 0, 0), (18, .getfield 23, 3, 8, 6, 1179), (21, .iconst 2, 1, 0, 0, 0), (22, .iload_n 2, 1, 0, 0, 0), (23, .imul, 1, 0, 0, 0), (24, .iaload, 1, 0, 0, 0), (25, .iload_n 1, 1, 0, 0, 0), (26, .if_icmp .eq 17, 3, 28, 0, 0), (29, .aload_n 0, 1, 0, 0, 0), (30, .getfield 23, 3, 8, 6, 1179), (33, .iconst 2, 1, 0, 0, 0), (34, .iload_n 2, 1, 0, 0, 0), (35, .imul, 1, 0, 0, 0), (36, .iconst 1, 1, 0, 0, 0), (37, .iadd, 1, 0, 0, 0), (38, .iaload, 1, 0, 0, 0), (39, .iload_n 1, 1, 0, 0, 0), (40, .if_icmp .ne 5, 3, 30, 0, 0), (43, .iconst 1, 1, 0, 0, 0), (44, .ireturn, 1, 0, 0, 0), (45, .iinc 2 1, 3, 0, 0, 0), (48, .goto (-46), 3, 2, 0, 0), (51, .iconst 0, 1, 0, 0, 0), (52, .ireturn, 1, 0, 0, 0)]
def cd_173 : List aE := [(0, .iconst 0, 1, 0, 0, 0), (1, .istore_n 3, 1, 0, 0, 0), (2, .iload_n 3, 1, 0, 0, 0), (3, .aload_n 0, 1, 0, 0, 0), (4, .getfield 103, 3, 8, 1, 1174), (7, .if_icmp .ge 47, 3, 34, 0, 0), (10, .aload_n 0, 1, 0, 0, 0), (11, .getfield 38, 3, 8, 11, 1184), (14, .iload_n 3, 1, 0, 0, 0), (15, .iaload, 1, 0, 0, 0), (16, .iload_n 2, 1, 0, 0, 0), (17, .if_icmp .ne 31, 3, 32, 0, 0), (20, .aload_n 0, 1, 0, 0, 0), (21, .getfield 41, 3, 8, 12, 1185), (24, .iconst 2, 1, 0, 0, 0), (25, .iload_n 3, 1, 0, 0, 0), (26, .imul, 1, 0, 0, 0), (27, .iaload, 1, 0, 0, 0), (28, .iload_n 1, 1, 0, 0, 0), (29, .if_icmp .eq 17, 3, 30, 0, 0), (32, .aload_n 0, 1, 0, 0, 0), (33, .getfield 41, 3, 8, 12, 1185), (36, .iconst 2, 1, 0, 0, 0), (37, .iload_n 3, 1, 0, 0, 0), (38, .imul, 1, 0, 0, 0), (39, .iconst 1, 1, 0, 0, 0), (40, .iadd, 1, 0, 0, 0), (41, .iaload, 1, 0, 0, 0), (42, .iload_n 1, 1, 0, 0, 0), (43, .if_icmp .ne 5, 3, 32, 0, 0), (46, .iconst 1, 1, 0, 0, 0), (47, .ireturn, 1, 0, 0, 0), (48, .iinc 3 1, 3, 0, 0, 0), (51, .goto (-49), 3, 2, 0, 0), (54, .iconst 0, 1, 0, 0, 0), (55, .ireturn, 1, 0, 0, 0)]
def cd_174 : List aE := [(0, .iload_n 1, 1, 0, 0, 0), (1, .iconst 0, 1, 0, 0, 0), (2, .bipush 9, 2, 0, 0, 0), (4, .invokestatic 88, 3, 159, 3, 1281), (7, .ifCond .eq 32, 3, 19, 0, 0), (10, .aload_n 0, 1, 0, 0, 0), (11, .iload_n 2, 1, 0, 0, 0), (12, .invokevirtual 92, 3, 162, 129, 1277), (15, .ifCond .eq 24, 3, 19, 0, 0), (18, .iload_n 3, 1, 0, 0, 0), (19, .iconst 0, 1, 0, 0, 0), (20, .bipush 39, 2, 0, 0, 0), (22, .invokestatic 88, 3, 159, 3, 1281), (25, .ifCond .eq 14, 3, 19, 0, 0), (28, .iload 4, 2, 0, 0, 0), (30, .iconst 0, 1, 0, 0, 0), (31, .bipush 39, 2, 0, 0, 0), (33, .invokestatic 88, 3, 159, 3, 1281), (36, .ifCond .ne 5, 3, 21, 0, 0), (39, .iconst 0, 1, 0, 0, 0), (40, .ireturn, 1, 0, 0, 0), (41, .aload_n 0, 1, 0, 0, 0), (42, .getfield 17, 3, 8, 4, 1177), (45, .iload_n 1, 1, 0, 0, 0), (46, .iaload, 1, 0, 0, 0), (47, .ifCond .ne 35, 3, 42, 0, 0), (50, .aload_n 0, 1, 0, 0, 0), (51, .iload_n 2, 1, 0, 0, 0), (52, .invokevirtual 112, 3, 169, 129, 1305), (55, .iconst (-1), 1, 0, 0, 0), (56, .if_icmp .ne 26, 3, 42, 0, 0), (59, .aload_n 0, 1, 0, 0, 0), (60, .iload_n 3, 1, 0, 0, 0), (61, .invokevirtual 115, 3, 172, 129, 1313), (64, .ifCond .ne 18, 3, 42, 0, 0), (67, .aload_n 0, 1, 0, 0, 0), (68, .iload 4, 2, 0, 0, 0), (70, .invokevirtual 115, 3, 172, 129, 1313), (73, .ifCond .ne 9, 3, 42, 0, 0), (76, .iload_n 3, 1, 0, 0, 0), (77, .iload 4, 2, 0, 0, 0), (79, .if_icmp .ne 5, 3, 44, 0, 0), (82, .iconst 0, 1, 0, 0, 0), (83, .ireturn, 1, 0, 0, 0), (84, .aload_n 0, 1, 0, 0, 0), (85, .iload_n 3, 1, 0, 0, 0), (86, .iload_n 2, 1, 0, 0, 0), (87, .invokevirtual 118, 3, 173, 130, 1317), (90, .ifCond .ne 23, 3, 58, 0, 0), (93, .aload_n 0, 1, 0, 0, 0), (94, .iload 4, 2, 0, 0, 0), (96, .iload_n 2, 1, 0, 0, 0), (97, .invokevirtual 118, 3, 173, 130, 1317), (100, .ifCond .ne 13, 3, 58, 0, 0), (103, .aload_n 0, 1, 0, 0, 0), (104, .getfield 103, 3, 8, 1, 1174), (107, .sipush 200, 3, 0, 0, 0), (110, .if_icmp .lt 5, 3, 60, 0, 0), (113, .iconst 0, 1, 0, 0, 0), (114, .ireturn, 1, 0, 0, 0), (115, .aload_n 0, 1, 0, 0, 0), (116, .getfield 17, 3, 8, 4, 1177), (119, .iload_n 1, 1, 0, 0, 0), (120, .iconst 1, 1, 0, 0, 0), (121, .iastore, 1, 0, 0, 0), (122, .aload_n 0, 1, 0, 0, 0), (123, .getfield 20, 3, 8, 5, 1178), (126, .iload_n 1, 1, 0, 0, 0), (127, .iload_n 2, 1, 0, 0, 0), (128, .iastore, 1, 0, 0, 0), (129, .aload_n 0, 1, 0, 0, 0), (130, .getfield 23, 3, 8, 6, 1179), (133, .iconst 2, 1, 0, 0, 0), (134, .iload_n 1, 1, 0, 0, 0), (135, .imul, 1, 0, 0, 0), (136, .iload_n 3, 1, 0, 0, 0), (137, .iastore, 1, 0, 0, 0), (138, .aload_n 0, 1, 0, 0, 0), (139, .getfield 23, 3, 8, 6, 1179), (142, .iconst 2, 1, 0, 0, 0), (143, .iload_n 1, 1, 0, 0, 0), (144, .imul, 1, 0, 0, 0), (145, .iconst 1, 1, 0, 0, 0), (146, .iadd, 1, 0, 0, 0), (147, .iload 4, 2, 0, 0, 0), (149, .iastore, 1, 0, 0, 0), (150, .aload_n 0, 1, 0, 0, 0), (151, .getfield 26, 3, 8, 7, 1180), (154, .iload_n 1, 1, 0, 0, 0), (155, .iconst 0, 1, 0, 0, 0), (156, .iastore, 1, 0, 0, 0), (157, .aload_n 0, 1, 0, 0, 0), (158, .getfield 29, 3, 8, 8, 1181), (161, .iload_n 1, 1, 0, 0, 0), (162, .iconst 0, 1, 0, 0, 0), (163, .iastore, 1, 0, 0, 0), (164, .aload_n 0, 1, 0, 0, 0), (165, .getfield 13, 3, 8, 3, 1176), (168, .iload_n 2, 1, 0, 0, 0), (169, .iconst 1, 1, 0, 0, 0), (170, .isub, 1, 0, 0, 0), (171, .iconst 1, 1, 0, 0, 0), (172, .bastore, 1, 0, 0, 0), (173, .iconst 1, 1, 0, 0, 0), (174, .ireturn, 1, 0, 0, 0)]
def cd_175 : List aE := [(0, .iload_n 1, 1, 0, 0, 0), (1, .iconst 0, 1, 0, 0, 0), (2, .bipush 9, 2, 0, 0, 0), (4, .invokestatic 88, 3, 159, 3, 1281), (7, .ifCond .eq 12, 3, 10, 0, 0), (10, .aload_n 0, 1, 0, 0, 0), (11, .getfield 17, 3, 8, 4, 1177), (14, .iload_n 1, 1, 0, 0, 0), (15, .iaload, 1, 0, 0, 0), (16, .goto 4, 3, 11, 0, 0), (19, .iconst 0, 1, 0, 0, 0), (20, .ireturn, 1, 0, 0, 0)]
def cd_176 : List aE := [(0, .aload_n 0, 1, 0, 0, 0), (1, .getfield 32, 3, 8, 9, 1182), (4, .sipush 340, 3, 0, 0, 0), (7, .iload_n 1, 1, 0, 0, 0), (8, .imul, 1, 0, 0, 0), (9, .iload_n 2, 1, 0, 0, 0), (10, .iadd, 1, 0, 0, 0), (11, .iaload, 1, 0, 0, 0), (12, .ireturn, 1, 0, 0, 0)]
def cd_177 : List aE := [(0, .aload_n 0, 1, 0, 0, 0), (1, .getfield 20, 3, 8, 5, 1178), (4, .iload_n 1, 1, 0, 0, 0), (5, .iaload, 1, 0, 0, 0), (6, .invokestatic 106, 3, 166, 1, 1295), (9, .iload_n 2, 1, 0, 0, 0), (10, .iadd, 1, 0, 0, 0), (11, .iconst 4, 1, 0, 0, 0), (12, .irem, 1, 0, 0, 0), (13, .ireturn, 1, 0, 0, 0)]
def cd_178 : List aE := [(0, .aload_n 0, 1, 0, 0, 0), (1, .getfield 26, 3, 8, 7, 1180), (4, .iload_n 1, 1, 0, 0, 0), (5, .iaload, 1, 0, 0, 0), (6, .iconst 1, 1, 0, 0, 0), (7, .isub, 1, 0, 0, 0), (8, .istore_n 2, 1, 0, 0, 0), (9, .iload_n 2, 1, 0, 0, 0), (10, .ifCond .lt 18, 3, 16, 0, 0), (13, .aload_n 0, 1, 0, 0, 0), (14, .iload_n 1, 1, 0, 0, 0), (15, .iload_n 2, 1, 0, 0, 0), (16, .invokevirtual 122, 3, 176, 130, 1337), (19, .ifCond .ne 9, 3, 16, 0, 0), (22, .iinc 2 (-1), 3, 0, 0, 0), (25, .goto (-16), 3, 7, 0, 0), (28, .iload_n 2, 1, 0, 0, 0), (29, .ireturn, 1, 0, 0, 0)]
def cd_179 : List aE := [(0, .aload_n 0, 1, 0, 0, 0), (1, .getfield 26, 3, 8, 7, 1180), (4, .iload_n 1, 1, 0, 0, 0), (5, .iaload, 1, 0, 0, 0), (6, .iconst 1, 1, 0, 0, 0), (7, .isub, 1, 0, 0, 0), (8, .istore_n 2, 1, 0, 0, 0), (9, .iload_n 2, 1, 0, 0, 0), (10, .ifCond .lt 19, 3, 17, 0, 0), (13, .aload_n 0, 1, 0, 0, 0), (14, .iload_n 1, 1, 0, 0, 0), (15, .iload_n 2, 1, 0, 0, 0), (16, .invokevirtual 122, 3, 176, 130, 1337), (19, .iconst 3, 1, 0, 0, 0), (20, .if_icmp .ge 9, 3, 17, 0, 0), (23, .iinc 2 (-1), 3, 0, 0, 0), (26, .goto (-17), 3, 7, 0, 0), (29, .iload_n 2, 1, 0, 0, 0), (30, .ireturn, 1, 0, 0, 0)]
def cd_180 : List aE := [(0, .aload_n 0, 1, 0, 0, 0), (1, .iload_n 1, 1, 0, 0, 0), (2, .invokevirtual 126, 3, 178, 129, 1333), (5, .istore_n 2, 1, 0, 0, 0), (6, .iload_n 2, 1, 0, 0, 0), (7, .iconst (-1), 1, 0, 0, 0), (8, .if_icmp .eq 13, 3, 13, 0, 0), (11, .aload_n 0, 1, 0, 0, 0), (12, .iload_n 1, 1, 0, 0, 0), (13, .iload_n 2, 1, 0, 0, 0), (14, .invokevirtual 122, 3, 176, 130, 1337), (17, .iconst 2, 1, 0, 0, 0), (18, .if_icmp .le 7, 3, 15, 0, 0), (21, .iconst 0, 1, 0, 0, 0), (22, .goto 9, 3, 19, 0, 0), (25, .aload_n 0, 1, 0, 0, 0), (26, .iload_n 1, 1, 0, 0, 0), (27, .iload_n 2, 1, 0, 0, 0), (28, .invokevirtual 122, 3, 176, 130, 1337), (31, .ireturn, 1, 0, 0, 0)]
def cd_181 : List aE := [(0, .iload_n 2, 1, 0, 0, 0), (1, .iconst 0, 1, 0, 0, 0), (2, .bipush 37, 2, 0, 0, 0), (4, .invokestatic 88, 3, 159, 3, 1281), (7, .ifCond .ne 5, 3, 7, 0, 0), (10, .iconst 0, 1, 0, 0, 0), (11, .ireturn, 1, 0, 0, 0), (12, .iload_n 2, 1, 0, 0, 0), (13, .ifCond .ne 5, 3, 11, 0, 0), (16, .iconst 1, 1, 0, 0, 0), (17, .ireturn, 1, 0, 0, 0), (18, .aload_n 0, 1, 0, 0, 0), (19, .iload_n 1, 1, 0, 0, 0), (20, .invokevirtual 126, 3, 178, 129, 1333), (23, .istore_n 3, 1, 0, 0, 0), (24, .iload_n 3, 1, 0, 0, 0), (25, .iconst (-1), 1, 0, 0, 0), (26, .if_icmp .eq 36, 3, 39, 0, 0), (29, .aload_n 0, 1, 0, 0, 0), (30, .iload_n 1, 1, 0, 0, 0), (31, .iload_n 3, 1, 0, 0, 0), (32, .invokevirtual 129, 3, 177, 130, 1341), (35, .aload_n 0, 1, 0, 0, 0), (36, .getfield 26, 3, 8, 7, 1180), (39, .iload_n 1, 1, 0, 0, 0), (40, .iaload, 1, 0, 0, 0), (41, .iadd, 1, 0, 0, 0), (42, .aload_n 0, 1, 0, 0, 0), (43, .getfield 20, 3, 8, 5, 1178), (46, .iload_n 1, 1, 0, 0, 0), (47, .iaload, 1, 0, 0, 0), (48, .invokestatic 106, 3, 166, 1, 1295), (51, .iadd, 1, 0, 0, 0), (52, .iconst 2, 1, 0, 0, 0), (53, .irem, 1, 0, 0, 0), (54, .iconst 1, 1, 0, 0, 0), (55, .if_icmp .ne 7, 3, 39, 0, 0), (58, .iconst 1, 1, 0, 0, 0), (59, .goto 4, 3, 40, 0, 0), (62, .iconst 0, 1, 0, 0, 0), (63, .istore 4, 2, 0, 0, 0), (65, .iload_n 2, 1, 0, 0, 0), (66, .iconst 1, 1, 0, 0, 0), (67, .if_icmp .ne 24, 3, 56, 0, 0), (70, .iload 4, 2, 0, 0, 0), (72, .ifCond .eq 17, 3, 54, 0, 0), (75, .aload_n 0, 1, 0, 0, 0), (76, .iload_n 1, 1, 0, 0, 0), (77, .iload_n 3, 1, 0, 0, 0), (78, .invokevirtual 122, 3, 176, 130, 1337), (81, .iconst 2, 1, 0, 0, 0), (82, .if_icmp .le 7, 3, 54, 0, 0), (85, .iconst 1, 1, 0, 0, 0), (86, .goto 4, 3, 55, 0, 0), (89, .iconst 0, 1, 0, 0, 0), (90, .ireturn, 1, 0, 0, 0), (91, .iload_n 2, 1, 0, 0, 0), (92, .iconst 2, 1, 0, 0, 0), (93, .if_icmp .ne 24, 3, 71, 0, 0), (96, .iload 4, 2, 0, 0, 0), (98, .ifCond .eq 17, 3, 69, 0, 0), (101, .aload_n 0, 1, 0, 0, 0), (102, .iload_n 1, 1, 0, 0, 0), (103, .iload_n 3, 1, 0, 0, 0), (104, .invokevirtual 122, 3, 176, 130, 1337), (107, .iconst 1, 1, 0, 0, 0), (108, .if_icmp .ne 7, 3, 69, 0, 0), (111, .iconst 1, 1, 0, 0, 0), (112, .goto 4, 3, 70, 0, 0), (115, .iconst 0, 1, 0, 0, 0), (116, .ireturn, 1, 0, 0, 0), (117, .aload_n 0, 1, 0, 0, 0), (118, .iload_n 1, 1, 0, 0, 0), (119, .invokevirtual 132, 3, 179, 129, 1345), (122, .istore 5, 2, 0, 0, 0), (124, .iload 5, 2, 0, 0, 0), (126, .iconst (-1), 1, 0, 0, 0), (127, .if_icmp .eq 14, 3, 84, 0, 0), (130, .iload_n 2, 1, 0, 0, 0), (131, .aload_n 0, 1, 0, 0, 0), (132, .iload_n 1, 1, 0, 0, 0), (133, .iload 5, 2, 0, 0, 0), (135, .invokevirtual 122, 3, 176, 130, 1337), (138, .if_icmp .le 7, 3, 86, 0, 0), (141, .iconst 1, 1, 0, 0, 0), (142, .goto 4, 3, 87, 0, 0), (145, .iconst 0, 1, 0, 0, 0), (146, .ireturn, 1, 0, 0, 0)]
def cd_182 : List aE := [(0, .aload_n 0, 1, 0, 0, 0), (1, .iload_n 1, 1, 0, 0, 0), (2, .aload_n 0, 1, 0, 0, 0), (3, .iload_n 1, 1, 0, 0, 0), (4, .invokevirtual 132, 3, 179, 129, 1345), (7, .invokevirtual 122, 3, 176, 130, 1337), (10, .iconst 3, 1, 0, 0, 0), (11, .isub, 1, 0, 0, 0), (12, .iconst 5, 1, 0, 0, 0), (13, .idiv, 1, 0, 0, 0), (14, .iconst 1, 1, 0, 0, 0), (15, .iadd, 1, 0, 0, 0), (16, .ireturn, 1, 0, 0, 0)]
def cd_183 : List aE := [(0, .aload_n 0, 1, 0, 0, 0), (1, .iload_n 1, 1, 0, 0, 0), (2, .aload_n 0, 1, 0, 0, 0), (3, .iload_n 1, 1, 0, 0, 0), (4, .invokevirtual 132, 3, 179, 129, 1345), (7, .invokevirtual 122, 3, 176, 130, 1337), (10, .iconst 3, 1, 0, 0, 0), (11, .isub, 1, 0, 0, 0), (12, .iconst 5, 1, 0, 0, 0), (13, .irem, 1, 0, 0, 0), (14, .ireturn, 1, 0, 0, 0)]
def cd_184 : List aE := [(0, .aload_n 0, 1, 0, 0, 0), (1, .iload_n 1, 1, 0, 0, 0), (2, .invokevirtual 132, 3, 179, 129, 1345), (5, .istore_n 2, 1, 0, 0, 0), (6, .iconst 0, 1, 0, 0, 0), (7, .istore_n 3, 1, 0, 0, 0), (8, .iload_n 3, 1, 0, 0, 0), (9, .iload_n 2, 1, 0, 0, 0), (10, .if_icmp .gt 62, 3, 46, 0, 0), (13, .aload_n 0, 1, 0, 0, 0), (14, .iload_n 1, 1, 0, 0, 0), (15, .iload_n 3, 1, 0, 0, 0), (16, .invokevirtual 122, 3, 176, 130, 1337), (19, .iconst 2, 1, 0, 0, 0), (20, .if_icmp .le 46, 3, 44, 0, 0), (23, .aload_n 0, 1, 0, 0, 0), (24, .iload_n 1, 1, 0, 0, 0), (25, .iload_n 3, 1, 0, 0, 0), (26, .invokevirtual 122, 3, 176, 130, 1337), (29, .iconst 3, 1, 0, 0, 0), (30, .isub, 1, 0, 0, 0), (31, .iconst 5, 1, 0, 0, 0), (32, .irem, 1, 0, 0, 0), (33, .aload_n 0, 1, 0, 0, 0), (34, .iload_n 1, 1, 0, 0, 0), (35, .invokevirtual 135, 3, 183, 129, 1357), (38, .if_icmp .ne 28, 3, 44, 0, 0), (41, .aload_n 0, 1, 0, 0, 0), (42, .iload_n 1, 1, 0, 0, 0), (43, .iload_n 3, 1, 0, 0, 0), (44, .invokevirtual 129, 3, 177, 130, 1341), (47, .aload_n 0, 1, 0, 0, 0), (48, .iload_n 1, 1, 0, 0, 0), (49, .iload_n 2, 1, 0, 0, 0), (50, .invokevirtual 129, 3, 177, 130, 1341), (53, .iadd, 1, 0, 0, 0), (54, .iconst 2, 1, 0, 0, 0), (55, .irem, 1, 0, 0, 0), (56, .ifCond .ne 10, 3, 44, 0, 0), (59, .aload_n 0, 1, 0, 0, 0), (60, .iload_n 1, 1, 0, 0, 0), (61, .iload_n 3, 1, 0, 0, 0), (62, .invokevirtual 129, 3, 177, 130, 1341), (65, .ireturn, 1, 0, 0, 0), (66, .iinc 3 1, 3, 0, 0, 0), (69, .goto (-61), 3, 6, 0, 0), (72, .iconst (-1), 1, 0, 0, 0), (73, .ireturn, 1, 0, 0, 0)]
def cd_185 : List aE := [(0, .aload_n 0, 1, 0, 0, 0), (1, .iload_n 1, 1, 0, 0, 0), (2, .invokevirtual 138, 3, 175, 129, 1325), (5, .iconst 1, 1, 0, 0, 0), (6, .if_icmp .ne 12, 3, 10, 0, 0), (9, .aload_n 0, 1, 0, 0, 0), (10, .iload_n 1, 1, 0, 0, 0), (11, .iload_n 2, 1, 0, 0, 0), (12, .invokevirtual 141, 3, 181, 130, 1329), (15, .ifCond .ne 5, 3, 12, 0, 0), (18, .iconst (-1), 1, 0, 0, 0), (19, .ireturn, 1, 0, 0, 0), (20, .aload_n 0, 1, 0, 0, 0), (21, .getfield 32, 3, 8, 9, 1182), (24, .sipush 340, 3, 0, 0, 0), (27, .iload_n 1, 1, 0, 0, 0), (28, .imul, 1, 0, 0, 0), (29, .aload_n 0, 1, 0, 0, 0), (30, .getfield 26, 3, 8, 7, 1180), (33, .iload_n 1, 1, 0, 0, 0), (34, .iaload, 1, 0, 0, 0), (35, .iadd, 1, 0, 0, 0), (36, .iload_n 2, 1, 0, 0, 0), (37, .iastore, 1, 0, 0, 0), (38, .aload_n 0, 1, 0, 0, 0), (39, .getfield 26, 3, 8, 7, 1180), (42, .iload_n 1, 1, 0, 0, 0), (43, .dup2, 1, 0, 0, 0), (44, .iaload, 1, 0, 0, 0), (45, .iconst 1, 1, 0, 0, 0), (46, .iadd, 1, 0, 0, 0), (47, .iastore, 1, 0, 0, 0), (48, .iconst 0, 1, 0, 0, 0), (49, .istore_n 3, 1, 0, 0, 0), (50, .iload_n 3, 1, 0, 0, 0), (51, .aload_n 0, 1, 0, 0, 0), (52, .getfield 26, 3, 8, 7, 1180), (55, .iload_n 1, 1, 0, 0, 0), (56, .iaload, 1, 0, 0, 0), (57, .if_icmp .ge 27, 3, 54, 0, 0), (60, .aload_n 0, 1, 0, 0, 0), (61, .iload_n 1, 1, 0, 0, 0), (62, .aload_n 0, 1, 0, 0, 0), (63, .getfield 26, 3, 8, 7, 1180), (66, .iload_n 1, 1, 0, 0, 0), (67, .iaload, 1, 0, 0, 0), (68, .iconst 1, 1, 0, 0, 0), (69, .isub, 1, 0, 0, 0), (70, .iload_n 3, 1, 0, 0, 0), (71, .isub, 1, 0, 0, 0), (72, .invokevirtual 122, 3, 176, 130, 1337), (75, .ifCond .ne 9, 3, 54, 0, 0), (78, .iinc 3 1, 3, 0, 0, 0), (81, .goto (-31), 3, 34, 0, 0), (84, .iload_n 3, 1, 0, 0, 0), (85, .aload_n 0, 1, 0, 0, 0), (86, .getfield 26, 3, 8, 7, 1180), (89, .iload_n 1, 1, 0, 0, 0), (90, .iaload, 1, 0, 0, 0), (91, .if_icmp .ne 16, 3, 69, 0, 0), (94, .iload_n 3, 1, 0, 0, 0), (95, .iconst 4, 1, 0, 0, 0), (96, .if_icmp .ne 11, 3, 69, 0, 0), (99, .aload_n 0, 1, 0, 0, 0), (100, .iload_n 1, 1, 0, 0, 0), (101, .iconst (-1), 1, 0, 0, 0), (102, .invokevirtual 144, 3, 197, 130, 1349), (105, .iconst 2, 1, 0, 0, 0), (106, .ireturn, 1, 0, 0, 0), (107, .iload_n 3, 1, 0, 0, 0), (108, .aload_n 0, 1, 0, 0, 0), (109, .getfield 26, 3, 8, 7, 1180), (112, .iload_n 1, 1, 0, 0, 0), (113, .iaload, 1, 0, 0, 0), (114, .if_icmp .ge 17, 3, 85, 0, 0), (117, .iload_n 3, 1, 0, 0, 0), (118, .iconst 3, 1, 0, 0, 0), (119, .if_icmp .ne 12, 3, 85, 0, 0), (122, .aload_n 0, 1, 0, 0, 0), (123, .getfield 17, 3, 8, 4, 1177), (126, .iload_n 1, 1, 0, 0, 0), (127, .iconst 2, 1, 0, 0, 0), (128, .iastore, 1, 0, 0, 0), (129, .iconst 1, 1, 0, 0, 0), (130, .ireturn, 1, 0, 0, 0), (131, .iconst 0, 1, 0, 0, 0), (132, .ireturn, 1, 0, 0, 0)]
def cd_186 : List aE := [(0, .iload_n 0, 1, 0, 0, 0), (1, .bipush 13, 2, 0, 0, 0), (3, .idiv, 1, 0, 0, 0), (4, .ireturn, 1, 0, 0, 0)]
def cd_187 : List aE := [(0, .iload_n 0, 1, 0, 0, 0), (1, .invokestatic 148, 3, 186, 1, 1399), (4, .iload_n 1, 1, 0, 0, 0), (5, .invokestatic 148, 3, 186, 1, 1399), (8, .if_icmp .ne 14, 3, 12, 0, 0), (11, .iload_n 0, 1, 0, 0, 0), (12, .iload_n 1, 1, 0, 0, 0), (13, .if_icmp .le 7, 3, 10, 0, 0), (16, .iconst 1, 1, 0, 0, 0), (17, .goto 4, 3, 11, 0, 0), (20, .iconst 0, 1, 0, 0, 0), (21, .ireturn, 1, 0, 0, 0), (22, .iload_n 0, 1, 0, 0, 0), (23, .invokestatic 148, 3, 186, 1, 1399), (26, .iload_n 2, 1, 0, 0, 0), (27, .if_icmp .ne 7, 3, 18, 0, 0), (30, .iconst 1, 1, 0, 0, 0), (31, .goto 4, 3, 19, 0, 0), (34, .iconst 0, 1, 0, 0, 0), (35, .ireturn, 1, 0, 0, 0)]
def cd_188 : List aE := [(0, .aload_n 0, 1, 0, 0, 0), (1, .iload_n 1, 1, 0, 0, 0), (2, .invokevirtual 135, 3, 183, 129, 1357), (5, .istore_n 2, 1, 0, 0, 0), (6, .aload_n 0, 1, 0, 0, 0), (7, .aload_n 0, 1, 0, 0, 0), (8, .iload_n 1, 1, 0, 0, 0), (9, .invokevirtual 151, 3, 184, 129, 1361), (12, .iconst 1, 1, 0, 0, 0), (13, .iadd, 1, 0, 0, 0), (14, .iconst 4, 1, 0, 0, 0), (15, .irem, 1, 0, 0, 0), (16, .putfield 154, 3, 8, 25, 1198), (19, .aload_n 0, 1, 0, 0, 0), (20, .iconst 0, 1, 0, 0, 0), (21, .putfield 157, 3, 8, 26, 1199), (24, .aload_n 0, 1, 0, 0, 0), (25, .getfield 74, 3, 8, 24, 1197), (28, .iconst 0, 1, 0, 0, 0), (29, .iconst 0, 1, 0, 0, 0), (30, .iastore, 1, 0, 0, 0), (31, .aload_n 0, 1, 0, 0, 0), (32, .getfield 74, 3, 8, 24, 1197), (35, .iconst 1, 1, 0, 0, 0), (36, .iconst 0, 1, 0, 0, 0), (37, .iastore, 1, 0, 0, 0), (38, .aload_n 0, 1, 0, 0, 0), (39, .getfield 157, 3, 8, 26, 1199), (42, .iconst 4, 1, 0, 0, 0), (43, .iadd, 1, 0, 0, 0), (44, .aload_n 0, 1, 0, 0, 0), (45, .getfield 29, 3, 8, 8, 1181), (48, .iload_n 1, 1, 0, 0, 0), (49, .iaload, 1, 0, 0, 0), (50, .if_icmp .gt 103, 3, 97, 0, 0), (53, .iconst 0, 1, 0, 0, 0), (54, .istore_n 3, 1, 0, 0, 0), (55, .iconst 1, 1, 0, 0, 0), (56, .istore 4, 2, 0, 0, 0), (58, .iload 4, 2, 0, 0, 0), (60, .iconst 4, 1, 0, 0, 0), (61, .if_icmp .ge 52, 3, 71, 0, 0), (64, .aload_n 0, 1, 0, 0, 0), (65, .getfield 35, 3, 8, 10, 1183), (68, .bipush 52, 2, 0, 0, 0), (70, .iload_n 1, 1, 0, 0, 0), (71, .imul, 1, 0, 0, 0), (72, .aload_n 0, 1, 0, 0, 0), (73, .getfield 157, 3, 8, 26, 1199), (76, .iadd, 1, 0, 0, 0), (77, .iload 4, 2, 0, 0, 0), (79, .iadd, 1, 0, 0, 0), (80, .iaload, 1, 0, 0, 0), (81, .aload_n 0, 1, 0, 0, 0), (82, .getfield 35, 3, 8, 10, 1183), (85, .bipush 52, 2, 0, 0, 0), (87, .iload_n 1, 1, 0, 0, 0), (88, .imul, 1, 0, 0, 0), (89, .aload_n 0, 1, 0, 0, 0), (90, .getfield 157, 3, 8, 26, 1199), (93, .iadd, 1, 0, 0, 0), (94, .iload_n 3, 1, 0, 0, 0), (95, .iadd, 1, 0, 0, 0), (96, .iaload, 1, 0, 0, 0), (97, .iload_n 2, 1, 0, 0, 0), (98, .invokestatic 160, 3, 187, 3, 1396), (101, .ifCond .eq 6, 3, 69, 0, 0), (104, .iload 4, 2, 0, 0, 0), (106, .istore_n 3, 1, 0, 0, 0), (107, .iinc 4 1, 3, 0, 0, 0), (110, .goto (-52), 3, 39, 0, 0), (113, .aload_n 0, 1, 0, 0, 0), (114, .aload_n 0, 1, 0, 0, 0), (115, .getfield 154, 3, 8, 25, 1198), (118, .iload_n 3, 1, 0, 0, 0), (119, .iadd, 1, 0, 0, 0), (120, .iconst 4, 1, 0, 0, 0), (121, .irem, 1, 0, 0, 0), (122, .putfield 154, 3, 8, 25, 1198), (125, .aload_n 0, 1, 0, 0, 0), (126, .getfield 74, 3, 8, 24, 1197), (129, .aload_n 0, 1, 0, 0, 0), (130, .getfield 154, 3, 8, 25, 1198), (133, .iconst 2, 1, 0, 0, 0), (134, .irem, 1, 0, 0, 0), (135, .dup2, 1, 0, 0, 0), (136, .iaload, 1, 0, 0, 0), (137, .iconst 1, 1, 0, 0, 0), (138, .iadd, 1, 0, 0, 0), (139, .iastore, 1, 0, 0, 0), (140, .aload_n 0, 1, 0, 0, 0), (141, .dup, 1, 0, 0, 0), (142, .getfield 157, 3, 8, 26, 1199), (145, .iconst 4, 1, 0, 0, 0), (146, .iadd, 1, 0, 0, 0), (147, .putfield 157, 3, 8, 26, 1199), (150, .goto (-112), 3, 26, 0, 0), (153, .return_, 1, 0, 0, 0)]
def cd_189 : List aE := [(0, .aload_n 0, 1, 0, 0, 0), (1, .getfield 17, 3, 8, 4, 1177), (4, .iload_n 1, 1, 0, 0, 0), (5, .iaload, 1, 0, 0, 0), (6, .iconst 1, 1, 0, 0, 0), (7, .if_icmp .ne 15, 3, 14, 0, 0), (10, .aload_n 0, 1, 0, 0, 0), (11, .iload_n 1, 1, 0, 0, 0), (12, .aload_n 0, 1, 0, 0, 0), (13, .getfield 26, 3, 8, 7, 1180), (16, .iload_n 1, 1, 0, 0, 0), (17, .iaload, 1, 0, 0, 0), (18, .invokevirtual 129, 3, 177, 130, 1341), (21, .ireturn, 1, 0, 0, 0), (22, .aload_n 0, 1, 0, 0, 0), (23, .iload_n 1, 1, 0, 0, 0), (24, .invokevirtual 163, 3, 188, 129, 1392), (27, .aload_n 0, 1, 0, 0, 0), (28, .getfield 154, 3, 8, 25, 1198), (31, .aload_n 0, 1, 0, 0, 0), (32, .getfield 29, 3, 8, 8, 1181), (35, .iload_n 1, 1, 0, 0, 0), (36, .iaload, 1, 0, 0, 0), (37, .iadd, 1, 0, 0, 0), (38, .aload_n 0, 1, 0, 0, 0), (39, .getfield 157, 3, 8, 26, 1199), (42, .isub, 1, 0, 0, 0), (43, .iconst 4, 1, 0, 0, 0), (44, .irem, 1, 0, 0, 0), (45, .ireturn, 1, 0, 0, 0)]
def cd_190 : List aE := [(0, .iconst 0, 1, 0, 0, 0), (1, .istore_n 3, 1, 0, 0, 0), (2, .iload_n 3, 1, 0, 0, 0), (3, .aload_n 0, 1, 0, 0, 0), (4, .getfield 29, 3, 8, 8, 1181), (7, .iload_n 1, 1, 0, 0, 0), (8, .iaload, 1, 0, 0, 0), (9, .if_icmp .ge 26, 3, 22, 0, 0), (12, .aload_n 0, 1, 0, 0, 0), (13, .getfield 35, 3, 8, 10, 1183), (16, .bipush 52, 2, 0, 0, 0), (18, .iload_n 1, 1, 0, 0, 0), (19, .imul, 1, 0, 0, 0), (20, .iload_n 3, 1, 0, 0, 0), (21, .iadd, 1, 0, 0, 0), (22, .iaload, 1, 0, 0, 0), (23, .iload_n 2, 1, 0, 0, 0), (24, .if_icmp .ne 5, 3, 20, 0, 0), (27, .iconst 1, 1, 0, 0, 0), (28, .ireturn, 1, 0, 0, 0), (29, .iinc 3 1, 3, 0, 0, 0), (32, .goto (-30), 3, 2, 0, 0), (35, .iconst 0, 1, 0, 0, 0), (36, .ireturn, 1, 0, 0, 0)]
def cd_191 : List aE := [(0, .aload_n 0, 1, 0, 0, 0), (1, .aload_n 0, 1, 0, 0, 0), (2, .getfield 20, 3, 8, 5, 1178), (5, .iload_n 1, 1, 0, 0, 0), (6, .iaload, 1, 0, 0, 0), (7, .iload_n 3, 1, 0, 0, 0), (8, .invokevirtual 167, 3, 165, 130, 1406), (11, .iload_n 2, 1, 0, 0, 0), (12, .if_icmp .ne 16, 3, 16, 0, 0), (15, .aload_n 0, 1, 0, 0, 0), (16, .iload_n 1, 1, 0, 0, 0), (17, .iload_n 3, 1, 0, 0, 0), (18, .invokevirtual 170, 3, 190, 130, 1407), (21, .ifCond .ne 7, 3, 16, 0, 0), (24, .iconst 1, 1, 0, 0, 0), (25, .goto 4, 3, 17, 0, 0), (28, .iconst 0, 1, 0, 0, 0), (29, .ireturn, 1, 0, 0, 0)]
def cd_192 : List aE := [(0, .iload_n 2, 1, 0, 0, 0), (1, .invokestatic 96, 3, 163, 1, 1284), (4, .ifCond .ne 5, 3, 5, 0, 0), (7, .iconst 0, 1, 0, 0, 0), (8, .ireturn, 1, 0, 0, 0), (9, .aload_n 0, 1, 0, 0, 0), (10, .iload_n 1, 1, 0, 0, 0), (11, .invokevirtual 173, 3, 189, 129, 1388), (14, .istore_n 3, 1, 0, 0, 0), (15, .aload_n 0, 1, 0, 0, 0), (16, .iload_n 1, 1, 0, 0, 0), (17, .iload_n 3, 1, 0, 0, 0), (18, .iload_n 2, 1, 0, 0, 0), (19, .invokevirtual 176, 3, 191, 131, 1402), (22, .ifCond .ne 5, 3, 17, 0, 0), (25, .iconst 0, 1, 0, 0, 0), (26, .ireturn, 1, 0, 0, 0), (27, .aload_n 0, 1, 0, 0, 0), (28, .getfield 157, 3, 8, 26, 1199), (31, .aload_n 0, 1, 0, 0, 0), (32, .getfield 29, 3, 8, 8, 1181), (35, .iload_n 1, 1, 0, 0, 0), (36, .iaload, 1, 0, 0, 0), (37, .if_icmp .ne 5, 3, 26, 0, 0), (40, .iconst 1, 1, 0, 0, 0), (41, .ireturn, 1, 0, 0, 0), (42, .aload_n 0, 1, 0, 0, 0), (43, .getfield 35, 3, 8, 10, 1183), (46, .bipush 52, 2, 0, 0, 0), (48, .iload_n 1, 1, 0, 0, 0), (49, .imul, 1, 0, 0, 0), (50, .aload_n 0, 1, 0, 0, 0), (51, .getfield 157, 3, 8, 26, 1199), (54, .iadd, 1, 0, 0, 0), (55, .iaload, 1, 0, 0, 0), (56, .invokestatic 148, 3, 186, 1, 1399), (59, .istore 4, 2, 0, 0, 0), (61, .iload_n 2, 1, 0, 0, 0), (62, .invokestatic 148, 3, 186, 1, 1399), (65, .iload 4, 2, 0, 0, 0), (67, .if_icmp .ne 5, 3, 43, 0, 0), (70, .iconst 1, 1, 0, 0, 0), (71, .ireturn, 1, 0, 0, 0), (72, .bipush 13, 2, 0, 0, 0), (74, .iload 4, 2, 0, 0, 0), (76, .imul, 1, 0, 0, 0), (77, .istore 5, 2, 0, 0, 0), (79, .iload 5, 2, 0, 0, 0), (81, .bipush 13, 2, 0, 0, 0), (83, .iload 4, 2, 0, 0, 0), (85, .imul, 1, 0, 0, 0), (86, .bipush 13, 2, 0, 0, 0), (88, .iadd, 1, 0, 0, 0), (89, .if_icmp .ge 22, 3, 64, 0, 0), (92, .aload_n 0, 1, 0, 0, 0), (93, .iload_n 1, 1, 0, 0, 0), (94, .iload_n 3, 1, 0, 0, 0), (95, .iload 5, 2, 0, 0, 0), (97, .invokevirtual 176, 3, 191, 131, 1402), (100, .ifCond .eq 5, 3, 62, 0, 0), (103, .iconst 0, 1, 0, 0, 0), (104, .ireturn, 1, 0, 0, 0), (105, .iinc 5 1, 3, 0, 0, 0), (108, .goto (-29), 3, 47, 0, 0), (111, .iconst 1, 1, 0, 0, 0), (112, .ireturn, 1, 0, 0, 0)]
def cd_193 : List aE := [(0, .aload_n 0, 1, 0, 0, 0), (1, .iload_n 1, 1, 0, 0, 0), (2, .invokevirtual 138, 3, 175, 129, 1325), (5, .iconst 2, 1, 0, 0, 0), (6, .if_icmp .ne 12, 3, 10, 0, 0), (9, .aload_n 0, 1, 0, 0, 0), (10, .iload_n 1, 1, 0, 0, 0), (11, .iload_n 2, 1, 0, 0, 0), (12, .invokevirtual 179, 3, 192, 130, 1384), (15, .ifCond .ne 5, 3, 12, 0, 0), (18, .iconst (-1), 1, 0, 0, 0), (19, .ireturn, 1, 0, 0, 0), (20, .aload_n 0, 1, 0, 0, 0), (21, .getfield 35, 3, 8, 10, 1183), (24, .bipush 52, 2, 0, 0, 0), (26, .iload_n 1, 1, 0, 0, 0), (27, .imul, 1, 0, 0, 0), (28, .aload_n 0, 1, 0, 0, 0), (29, .getfield 29, 3, 8, 8, 1181), (32, .iload_n 1, 1, 0, 0, 0), (33, .iaload, 1, 0, 0, 0), (34, .iadd, 1, 0, 0, 0), (35, .iload_n 2, 1, 0, 0, 0), (36, .iastore, 1, 0, 0, 0), (37, .aload_n 0, 1, 0, 0, 0), (38, .getfield 29, 3, 8, 8, 1181), (41, .iload_n 1, 1, 0, 0, 0), (42, .dup2, 1, 0, 0, 0), (43, .iaload, 1, 0, 0, 0), (44, .iconst 1, 1, 0, 0, 0), (45, .iadd, 1, 0, 0, 0), (46, .iastore, 1, 0, 0, 0), (47, .aload_n 0, 1, 0, 0, 0), (48, .getfield 29, 3, 8, 8, 1181), (51, .iload_n 1, 1, 0, 0, 0), (52, .iaload, 1, 0, 0, 0), (53, .iconst 4, 1, 0, 0, 0), (54, .irem, 1, 0, 0, 0), (55, .ifCond .eq 5, 3, 41, 0, 0), (58, .iconst 0, 1, 0, 0, 0), (59, .ireturn, 1, 0, 0, 0), (60, .aload_n 0, 1, 0, 0, 0), (61, .getfield 29, 3, 8, 8, 1181), (64, .iload_n 1, 1, 0, 0, 0), (65, .iaload, 1, 0, 0, 0), (66, .bipush 52, 2, 0, 0, 0), (68, .if_icmp .ge 5, 3, 49, 0, 0), (71, .iconst 1, 1, 0, 0, 0), (72, .ireturn, 1, 0, 0, 0), (73, .aload_n 0, 1, 0, 0, 0), (74, .iload_n 1, 1, 0, 0, 0), (75, .invokevirtual 163, 3, 188, 129, 1392), (78, .aload_n 0, 1, 0, 0, 0), (79, .iload_n 1, 1, 0, 0, 0), (80, .aload_n 0, 1, 0, 0, 0), (81, .getfield 74, 3, 8, 24, 1197), (84, .aload_n 0, 1, 0, 0, 0), (85, .iload_n 1, 1, 0, 0, 0), (86, .invokevirtual 151, 3, 184, 129, 1361), (89, .iconst 2, 1, 0, 0, 0), (90, .irem, 1, 0, 0, 0), (91, .iaload, 1, 0, 0, 0), (92, .invokevirtual 144, 3, 197, 130, 1349), (95, .iconst 2, 1, 0, 0, 0), (96, .ireturn, 1, 0, 0, 0)]
def cd_194 : List aE := [(0, .aload_n 0, 1, 0, 0, 0), (1, .iload_n 1, 1, 0, 0, 0), (2, .invokevirtual 138, 3, 175, 129, 1325), (5, .iconst 2, 1, 0, 0, 0), (6, .if_icmp .ne 16, 3, 12, 0, 0), (9, .iload_n 2, 1, 0, 0, 0), (10, .ifCond .lt 12, 3, 12, 0, 0), (13, .aload_n 0, 1, 0, 0, 0), (14, .iload_n 1, 1, 0, 0, 0), (15, .invokevirtual 182, 3, 207, 129, 1415), (18, .iload_n 2, 1, 0, 0, 0), (19, .if_icmp .eq 5, 3, 14, 0, 0), (22, .iconst 0, 1, 0, 0, 0), (23, .ireturn, 1, 0, 0, 0), (24, .aload_n 0, 1, 0, 0, 0), (25, .iload_n 1, 1, 0, 0, 0), (26, .invokevirtual 163, 3, 188, 129, 1392), (29, .aload_n 0, 1, 0, 0, 0), (30, .iload_n 1, 1, 0, 0, 0), (31, .aload_n 0, 1, 0, 0, 0), (32, .getfield 74, 3, 8, 24, 1197), (35, .aload_n 0, 1, 0, 0, 0), (36, .iload_n 1, 1, 0, 0, 0), (37, .invokevirtual 151, 3, 184, 129, 1361), (40, .iconst 2, 1, 0, 0, 0), (41, .irem, 1, 0, 0, 0), (42, .iaload, 1, 0, 0, 0), (43, .iload_n 2, 1, 0, 0, 0), (44, .iadd, 1, 0, 0, 0), (45, .invokevirtual 144, 3, 197, 130, 1349), (48, .iconst 1, 1, 0, 0, 0), (49, .ireturn, 1, 0, 0, 0)]
def cd_195 : List aE := [(0, .aload_n 0, 1, 0, 0, 0), (1, .iload_n 1, 1, 0, 0, 0), (2, .invokevirtual 138, 3, 175, 129, 1325), (5, .ifCond .eq 12, 3, 9, 0, 0), (8, .aload_n 0, 1, 0, 0, 0), (9, .getfield 26, 3, 8, 7, 1180), (12, .iload_n 1, 1, 0, 0, 0), (13, .iaload, 1, 0, 0, 0), (14, .ifCond .ne 5, 3, 11, 0, 0), (17, .iconst 0, 1, 0, 0, 0), (18, .ireturn, 1, 0, 0, 0), (19, .aload_n 0, 1, 0, 0, 0), (20, .getfield 29, 3, 8, 8, 1181), (23, .iload_n 1, 1, 0, 0, 0), (24, .iaload, 1, 0, 0, 0), (25, .ifCond .le 15, 3, 26, 0, 0), (28, .aload_n 0, 1, 0, 0, 0), (29, .getfield 29, 3, 8, 8, 1181), (32, .iload_n 1, 1, 0, 0, 0), (33, .dup2, 1, 0, 0, 0), (34, .iaload, 1, 0, 0, 0), (35, .iconst 1, 1, 0, 0, 0), (36, .isub, 1, 0, 0, 0), (37, .iastore, 1, 0, 0, 0), (38, .iconst 1, 1, 0, 0, 0), (39, .ireturn, 1, 0, 0, 0), (40, .aload_n 0, 1, 0, 0, 0), (41, .getfield 26, 3, 8, 7, 1180), (44, .iload_n 1, 1, 0, 0, 0), (45, .dup2, 1, 0, 0, 0), (46, .iaload, 1, 0, 0, 0), (47, .iconst 1, 1, 0, 0, 0), (48, .isub, 1, 0, 0, 0), (49, .iastore, 1, 0, 0, 0), (50, .aload_n 0, 1, 0, 0, 0), (51, .getfield 17, 3, 8, 4, 1177), (54, .iload_n 1, 1, 0, 0, 0), (55, .iconst 1, 1, 0, 0, 0), (56, .iastore, 1, 0, 0, 0), (57, .iconst 1, 1, 0, 0, 0), (58, .ireturn, 1, 0, 0, 0)]
def cd_196 : List aE := [(0, .aload_n 0, 1, 0, 0, 0), (1, .iload_n 1, 1, 0, 0, 0), (2, .invokevirtual 138, 3, 175, 129, 1325), (5, .ifCond .ne 5, 3, 6, 0, 0), (8, .iconst 0, 1, 0, 0, 0), (9, .ireturn, 1, 0, 0, 0), (10, .aload_n 0, 1, 0, 0, 0), (11, .getfield 17, 3, 8, 4, 1177), (14, .iload_n 1, 1, 0, 0, 0), (15, .iconst 0, 1, 0, 0, 0), (16, .iastore, 1, 0, 0, 0), (17, .iconst 1, 1, 0, 0, 0), (18, .ireturn, 1, 0, 0, 0)]
def cd_197 : List aE := [(0, .aload_n 0, 1, 0, 0, 0), (1, .getfield 103, 3, 8, 1, 1174), (4, .istore_n 3, 1, 0, 0, 0), (5, .aload_n 0, 1, 0, 0, 0), (6, .getfield 20, 3, 8, 5, 1178), (9, .iload_n 1, 1, 0, 0, 0), (10, .iaload, 1, 0, 0, 0), (11, .istore 4, 2, 0, 0, 0), (13, .aload_n 0, 1, 0, 0, 0), (14, .getfield 38, 3, 8, 11, 1184), (17, .iload_n 3, 1, 0, 0, 0), (18, .iload 4, 2, 0, 0, 0), (20, .iastore, 1, 0, 0, 0), (21, .aload_n 0, 1, 0, 0, 0), (22, .getfield 41, 3, 8, 12, 1185), (25, .iconst 2, 1, 0, 0, 0), (26, .iload_n 3, 1, 0, 0, 0), (27, .imul, 1, 0, 0, 0), (28, .aload_n 0, 1, 0, 0, 0), (29, .getfield 23, 3, 8, 6, 1179), (32, .iconst 2, 1, 0, 0, 0), (33, .iload_n 1, 1, 0, 0, 0), (34, .imul, 1, 0, 0, 0), (35, .iaload, 1, 0, 0, 0), (36, .iastore, 1, 0, 0, 0), (37, .aload_n 0, 1, 0, 0, 0), (38, .getfield 41, 3, 8, 12, 1185), (41, .iconst 2, 1, 0, 0, 0), (42, .iload_n 3, 1, 0, 0, 0), (43, .imul, 1, 0, 0, 0), (44, .iconst 1, 1, 0, 0, 0), (45, .iadd, 1, 0, 0, 0), (46, .aload_n 0, 1, 0, 0, 0), (47, .getfield 23, 3, 8, 6, 1179), (50, .iconst 2, 1, 0, 0, 0), (51, .iload_n 1, 1, 0, 0, 0), (52, .imul, 1, 0, 0, 0), (53, .iconst 1, 1, 0, 0, 0), (54, .iadd, 1, 0, 0, 0), (55, .iaload, 1, 0, 0, 0), (56, .iastore, 1, 0, 0, 0), (57, .aload_n 0, 1, 0, 0, 0), (58, .getfield 44, 3, 8, 13, 1186), (61, .iload_n 3, 1, 0, 0, 0), (62, .iconst 0, 1, 0, 0, 0), (63, .iastore, 1, 0, 0, 0), (64, .aload_n 0, 1, 0, 0, 0), (65, .getfield 47, 3, 8, 14, 1187), (68, .iload_n 3, 1, 0, 0, 0), (69, .iconst (-1), 1, 0, 0, 0), (70, .iastore, 1, 0, 0, 0), (71, .aload_n 0, 1, 0, 0, 0), (72, .getfield 50, 3, 8, 15, 1188), (75, .iload_n 3, 1, 0, 0, 0), (76, .iconst (-1), 1, 0, 0, 0), (77, .iastore, 1, 0, 0, 0), (78, .aload_n 0, 1, 0, 0, 0), (79, .getfield 53, 3, 8, 16, 1189), (82, .iload_n 3, 1, 0, 0, 0), (83, .iconst (-1), 1, 0, 0, 0), (84, .iastore, 1, 0, 0, 0), (85, .aload_n 0, 1, 0, 0, 0), (86, .getfield 56, 3, 8, 17, 1190), (89, .iload_n 3, 1, 0, 0, 0), (90, .iload_n 2, 1, 0, 0, 0), (91, .iastore, 1, 0, 0, 0), (92, .aload_n 0, 1, 0, 0, 0), (93, .getfield 59, 3, 8, 18, 1191), (96, .iload_n 3, 1, 0, 0, 0), (97, .iconst 0, 1, 0, 0, 0), (98, .iastore, 1, 0, 0, 0), (99, .aload_n 0, 1, 0, 0, 0), (100, .getfield 65, 3, 8, 20, 1193), (103, .iload_n 3, 1, 0, 0, 0), (104, .iconst 0, 1, 0, 0, 0), (105, .bastore, 1, 0, 0, 0), (106, .iload_n 2, 1, 0, 0, 0), (107, .iconst (-1), 1, 0, 0, 0), (108, .if_icmp .eq 108, 3, 143, 0, 0), (111, .aload_n 0, 1, 0, 0, 0), (112, .getfield 44, 3, 8, 13, 1186), (115, .iload_n 3, 1, 0, 0, 0), (116, .aload_n 0, 1, 0, 0, 0), (117, .iload_n 1, 1, 0, 0, 0), (118, .invokevirtual 185, 3, 182, 129, 1353), (121, .iastore, 1, 0, 0, 0), (122, .aload_n 0, 1, 0, 0, 0), (123, .getfield 47, 3, 8, 14, 1187), (126, .iload_n 3, 1, 0, 0, 0), (127, .aload_n 0, 1, 0, 0, 0), (128, .iload_n 1, 1, 0, 0, 0), (129, .invokevirtual 135, 3, 183, 129, 1357), (132, .iastore, 1, 0, 0, 0), (133, .aload_n 0, 1, 0, 0, 0), (134, .getfield 50, 3, 8, 15, 1188), (137, .iload_n 3, 1, 0, 0, 0), (138, .aload_n 0, 1, 0, 0, 0), (139, .iload_n 1, 1, 0, 0, 0), (140, .invokevirtual 151, 3, 184, 129, 1361), (143, .iastore, 1, 0, 0, 0), (144, .aload_n 0, 1, 0, 0, 0), (145, .getfield 53, 3, 8, 16, 1189), (148, .iload_n 3, 1, 0, 0, 0), (149, .aload_n 0, 1, 0, 0, 0), (150, .iload_n 1, 1, 0, 0, 0), (151, .invokevirtual 188, 3, 180, 129, 1365), (154, .iastore, 1, 0, 0, 0), (155, .aload_n 0, 1, 0, 0, 0), (156, .getfield 50, 3, 8, 15, 1188), (159, .iload_n 3, 1, 0, 0, 0), (160, .iaload, 1, 0, 0, 0), (161, .iconst 2, 1, 0, 0, 0), (162, .irem, 1, 0, 0, 0), (163, .istore 5, 2, 0, 0, 0), (165, .aload_n 0, 1, 0, 0, 0), (166, .aload_n 0, 1, 0, 0, 0), (167, .getfield 44, 3, 8, 13, 1186), (170, .iload_n 3, 1, 0, 0, 0), (171, .iaload, 1, 0, 0, 0), (172, .aload_n 0, 1, 0, 0, 0), (173, .getfield 47, 3, 8, 14, 1187), (176, .iload_n 3, 1, 0, 0, 0), (177, .iaload, 1, 0, 0, 0), (178, .aload_n 0, 1, 0, 0, 0), (179, .getfield 53, 3, 8, 16, 1189), (182, .iload_n 3, 1, 0, 0, 0), (183, .iaload, 1, 0, 0, 0), (184, .iload 4, 2, 0, 0, 0), (186, .iload 5, 2, 0, 0, 0), (188, .invokestatic 191, 3, 168, 2, 1369), (191, .iload_n 2, 1, 0, 0, 0), (192, .invokevirtual 194, 3, 209, 133, 1372), (195, .istore 6, 2, 0, 0, 0), (197, .aload_n 0, 1, 0, 0, 0), (198, .getfield 59, 3, 8, 18, 1191), (201, .iload_n 3, 1, 0, 0, 0), (202, .iload 5, 2, 0, 0, 0), (204, .ifCond .ne 8, 3, 140, 0, 0), (207, .iload 6, 2, 0, 0, 0), (209, .goto 6, 3, 142, 0, 0), (212, .iload 6, 2, 0, 0, 0), (214, .ineg, 1, 0, 0, 0), (215, .iastore, 1, 0, 0, 0), (216, .aload_n 0, 1, 0, 0, 0), (217, .dup, 1, 0, 0, 0), (218, .getfield 103, 3, 8, 1, 1174), (221, .iconst 1, 1, 0, 0, 0), (222, .iadd, 1, 0, 0, 0), (223, .putfield 103, 3, 8, 1, 1174), (226, .aload_n 0, 1, 0, 0, 0), (227, .getfield 17, 3, 8, 4, 1177), (230, .iload_n 1, 1, 0, 0, 0), (231, .iconst 0, 1, 0, 0, 0), (232, .iastore, 1, 0, 0, 0), (233, .return_, 1, 0, 0, 0)]
def cd_198 : List aE := [(0, .iload_n 1, 1, 0, 0, 0), (1, .iconst 0, 1, 0, 0, 0), (2, .bipush 9, 2, 0, 0, 0), (4, .invokestatic 88, 3, 159, 3, 1281), (7, .ifCond .ne 5, 3, 7, 0, 0), (10, .iconst (-1), 1, 0, 0, 0), (11, .ireturn, 1, 0, 0, 0), (12, .iload_n 2, 1, 0, 0, 0), (13, .iconst 3, 1, 0, 0, 0), (14, .if_icmp .ne 10, 3, 15, 0, 0), (17, .aload_n 0, 1, 0, 0, 0), (18, .getfield 17, 3, 8, 4, 1177), (21, .iload_n 1, 1, 0, 0, 0), (22, .iaload, 1, 0, 0, 0), (23, .ireturn, 1, 0, 0, 0), (24, .aload_n 0, 1, 0, 0, 0), (25, .getfield 17, 3, 8, 4, 1177), (28, .iload_n 1, 1, 0, 0, 0), (29, .iaload, 1, 0, 0, 0), (30, .ifCond .ne 5, 3, 22, 0, 0), (33, .iconst (-1), 1, 0, 0, 0), (34, .ireturn, 1, 0, 0, 0), (35, .aload_n 0, 1, 0, 0, 0), (36, .getfield 17, 3, 8, 4, 1177), (39, .iload_n 1, 1, 0, 0, 0), (40, .iaload, 1, 0, 0, 0), (41, .iconst 2, 1, 0, 0, 0), (42, .if_icmp .ne 7, 3, 30, 0, 0), (45, .iconst 1, 1, 0, 0, 0), (46, .goto 4, 3, 31, 0, 0), (49, .iconst 0, 1, 0, 0, 0), (50, .istore_n 3, 1, 0, 0, 0), (51, .aload_n 0, 1, 0, 0, 0), (52, .iload_n 1, 1, 0, 0, 0), (53, .invokevirtual 132, 3, 179, 129, 1345), (56, .iconst (-1), 1, 0, 0, 0), (57, .if_icmp .eq 7, 3, 39, 0, 0), (60, .iconst 1, 1, 0, 0, 0), (61, .goto 4, 3, 40, 0, 0), (64, .iconst 0, 1, 0, 0, 0), (65, .istore 4, 2, 0, 0, 0), (67, .aload_n 0, 1, 0, 0, 0), (68, .iload_n 1, 1, 0, 0, 0), (69, .invokevirtual 173, 3, 189, 129, 1388), (72, .istore 5, 2, 0, 0, 0), (74, .iload_n 2, 1, 0, 0, 0), (75, .tableswitch 228 0 13 #[69, 76, 85, 228, 96, 99, 114, 129, 143, 158, 173, 188, 208, 215], 69, 0, 0, 0), (144, .aload_n 0, 1, 0, 0, 0), (145, .getfield 20, 3, 8, 5, 1178), (148, .iload_n 1, 1, 0, 0, 0), (149, .iaload, 1, 0, 0, 0), (150, .ireturn, 1, 0, 0, 0), (151, .aload_n 0, 1, 0, 0, 0), (152, .getfield 23, 3, 8, 6, 1179), (155, .iconst 2, 1, 0, 0, 0), (156, .iload_n 1, 1, 0, 0, 0), (157, .imul, 1, 0, 0, 0), (158, .iaload, 1, 0, 0, 0), (159, .ireturn, 1, 0, 0, 0), (160, .aload_n 0, 1, 0, 0, 0), (161, .getfield 23, 3, 8, 6, 1179), (164, .iconst 2, 1, 0, 0, 0), (165, .iload_n 1, 1, 0, 0, 0), (166, .imul, 1, 0, 0, 0), (167, .iconst 1, 1, 0, 0, 0), (168, .iadd, 1, 0, 0, 0), (169, .iaload, 1, 0, 0, 0), (170, .ireturn, 1, 0, 0, 0), (171, .iload 5, 2, 0, 0, 0), (173, .ireturn, 1, 0, 0, 0), (174, .iload 4, 2, 0, 0, 0), (176, .ifCond .eq 11, 3, 76, 0, 0), (179, .aload_n 0, 1, 0, 0, 0), (180, .iload_n 1, 1, 0, 0, 0), (181, .invokevirtual 185, 3, 182, 129, 1353), (184, .goto 4, 3, 77, 0, 0), (187, .iconst (-1), 1, 0, 0, 0), (188, .ireturn, 1, 0, 0, 0), (189, .iload 4, 2, 0, 0, 0), (191, .ifCond .eq 11, 3, 84, 0, 0), (194, .aload_n 0, 1, 0, 0, 0), (195, .iload_n 1, 1, 0, 0, 0), (196, .invokevirtual 135, 3, 183, 129, 1357), (199, .goto 4, 3, 85, 0, 0), (202, .iconst (-1), 1, 0, 0, 0), (203, .ireturn, 1, 0, 0, 0), (204, .iload_n 3, 1, 0, 0, 0), (205, .ifCond .eq 11, 3, 92, 0, 0), (208, .aload_n 0, 1, 0, 0, 0), (209, .iload_n 1, 1, 0, 0, 0), (210, .invokevirtual 151, 3, 184, 129, 1361), (213, .goto 4, 3, 93, 0, 0), (216, .iconst (-1), 1, 0, 0, 0), (217, .ireturn, 1, 0, 0, 0), (218, .iload 4, 2, 0, 0, 0), (220, .ifCond .eq 11, 3, 100, 0, 0), (223, .aload_n 0, 1, 0, 0, 0), (224, .iload_n 1, 1, 0, 0, 0), (225, .invokevirtual 188, 3, 180, 129, 1365), (228, .goto 4, 3, 101, 0, 0), (231, .iconst (-1), 1, 0, 0, 0), (232, .ireturn, 1, 0, 0, 0), (233, .iload_n 3, 1, 0, 0, 0), (234, .ifCond .eq 12, 3, 109, 0, 0), (237, .aload_n 0, 1, 0, 0, 0), (238, .getfield 74, 3, 8, 24, 1197), (241, .iconst 0, 1, 0, 0, 0), (242, .iaload, 1, 0, 0, 0), (243, .goto 4, 3, 110, 0, 0), (246, .iconst 0, 1, 0, 0, 0), (247, .ireturn, 1, 0, 0, 0), (248, .iload_n 3, 1, 0, 0, 0), (249, .ifCond .eq 12, 3, 118, 0, 0), (252, .aload_n 0, 1, 0, 0, 0), (253, .getfield 74, 3, 8, 24, 1197), (256, .iconst 1, 1, 0, 0, 0), (257, .iaload, 1, 0, 0, 0), (258, .goto 4, 3, 119, 0, 0), (261, .iconst 0, 1, 0, 0, 0), (262, .ireturn, 1, 0, 0, 0), (263, .iload_n 3, 1, 0, 0, 0), (264, .ifCond .eq 17, 3, 130, 0, 0), (267, .aload_n 0, 1, 0, 0, 0), (268, .getfield 29, 3, 8, 8, 1181), (271, .iload_n 1, 1, 0, 0, 0), (272, .iaload, 1, 0, 0, 0), (273, .aload_n 0, 1, 0, 0, 0), (274, .getfield 157, 3, 8, 26, 1199), (277, .isub, 1, 0, 0, 0), (278, .goto 4, 3, 131, 0, 0), (281, .iconst 0, 1, 0, 0, 0), (282, .ireturn, 1, 0, 0, 0), (283, .aload_n 0, 1, 0, 0, 0), (284, .getfield 26, 3, 8, 7, 1180), (287, .iload_n 1, 1, 0, 0, 0), (288, .iaload, 1, 0, 0, 0), (289, .ireturn, 1, 0, 0, 0), (290, .iload_n 3, 1, 0, 0, 0), (291, .ifCond .eq 10, 3, 142, 0, 0), (294, .aload_n 0, 1, 0, 0, 0), (295, .getfield 154, 3, 8, 25, 1198), (298, .goto 4, 3, 143, 0, 0), (301, .iconst (-1), 1, 0, 0, 0), (302, .ireturn, 1, 0, 0, 0), (303, .iconst (-1), 1, 0, 0, 0), (304, .ireturn, 1, 0, 0, 0)]
def cd_199 : List aE := [(0, .aload_n 0, 1, 0, 0, 0), (1, .iload_n 1, 1, 0, 0, 0), (2, .invokevirtual 138, 3, 175, 129, 1325), (5, .ifCond .eq 28, 3, 19, 0, 0), (8, .iload_n 2, 1, 0, 0, 0), (9, .iconst 0, 1, 0, 0, 0), (10, .aload_n 0, 1, 0, 0, 0), (11, .getfield 26, 3, 8, 7, 1180), (14, .iload_n 1, 1, 0, 0, 0), (15, .iaload, 1, 0, 0, 0), (16, .iconst 1, 1, 0, 0, 0), (17, .isub, 1, 0, 0, 0), (18, .invokestatic 88, 3, 159, 3, 1281), (21, .ifCond .eq 12, 3, 19, 0, 0), (24, .aload_n 0, 1, 0, 0, 0), (25, .iload_n 1, 1, 0, 0, 0), (26, .iload_n 2, 1, 0, 0, 0), (27, .invokevirtual 122, 3, 176, 130, 1337), (30, .goto 4, 3, 20, 0, 0), (33, .iconst (-1), 1, 0, 0, 0), (34, .ireturn, 1, 0, 0, 0)]
def cd_200 : List aE := [(0, .aload_n 0, 1, 0, 0, 0), (1, .iload_n 1, 1, 0, 0, 0), (2, .invokevirtual 138, 3, 175, 129, 1325), (5, .ifCond .eq 33, 3, 23, 0, 0), (8, .iload_n 2, 1, 0, 0, 0), (9, .iconst 0, 1, 0, 0, 0), (10, .aload_n 0, 1, 0, 0, 0), (11, .getfield 29, 3, 8, 8, 1181), (14, .iload_n 1, 1, 0, 0, 0), (15, .iaload, 1, 0, 0, 0), (16, .iconst 1, 1, 0, 0, 0), (17, .isub, 1, 0, 0, 0), (18, .invokestatic 88, 3, 159, 3, 1281), (21, .ifCond .eq 17, 3, 23, 0, 0), (24, .aload_n 0, 1, 0, 0, 0), (25, .getfield 35, 3, 8, 10, 1183), (28, .bipush 52, 2, 0, 0, 0), (30, .iload_n 1, 1, 0, 0, 0), (31, .imul, 1, 0, 0, 0), (32, .iload_n 2, 1, 0, 0, 0), (33, .iadd, 1, 0, 0, 0), (34, .iaload, 1, 0, 0, 0), (35, .goto 4, 3, 24, 0, 0), (38, .iconst (-1), 1, 0, 0, 0), (39, .ireturn, 1, 0, 0, 0)]
def cd_201 : List aE := [(0, .aload_n 0, 1, 0, 0, 0), (1, .iload_n 1, 1, 0, 0, 0), (2, .invokevirtual 138, 3, 175, 129, 1325), (5, .iconst 1, 1, 0, 0, 0), (6, .if_icmp .ne 12, 3, 10, 0, 0), (9, .aload_n 0, 1, 0, 0, 0), (10, .iload_n 1, 1, 0, 0, 0), (11, .iload_n 2, 1, 0, 0, 0), (12, .invokevirtual 141, 3, 181, 130, 1329), (15, .goto 26, 3, 23, 0, 0), (18, .aload_n 0, 1, 0, 0, 0), (19, .iload_n 1, 1, 0, 0, 0), (20, .invokevirtual 138, 3, 175, 129, 1325), (23, .iconst 2, 1, 0, 0, 0), (24, .if_icmp .ne 16, 3, 22, 0, 0), (27, .aload_n 0, 1, 0, 0, 0), (28, .iload_n 1, 1, 0, 0, 0), (29, .iload_n 2, 1, 0, 0, 0), (30, .invokevirtual 179, 3, 192, 130, 1384), (33, .ifCond .eq 7, 3, 22, 0, 0), (36, .iconst 1, 1, 0, 0, 0), (37, .goto 4, 3, 23, 0, 0), (40, .iconst 0, 1, 0, 0, 0), (41, .ireturn, 1, 0, 0, 0)]
def cd_202 : List aE := [(0, .aload_n 0, 1, 0, 0, 0), (1, .iload_n 1, 1, 0, 0, 0), (2, .invokevirtual 138, 3, 175, 129, 1325), (5, .ifCond .eq 19, 3, 12, 0, 0), (8, .iload_n 2, 1, 0, 0, 0), (9, .iconst 0, 1, 0, 0, 0), (10, .iconst 3, 1, 0, 0, 0), (11, .invokestatic 88, 3, 159, 3, 1281), (14, .ifCond .eq 10, 3, 12, 0, 0), (17, .iload_n 3, 1, 0, 0, 0), (18, .invokestatic 96, 3, 163, 1, 1284), (21, .ifCond .ne 5, 3, 14, 0, 0), (24, .iconst 0, 1, 0, 0, 0), (25, .ireturn, 1, 0, 0, 0), (26, .aload_n 0, 1, 0, 0, 0), (27, .aload_n 0, 1, 0, 0, 0), (28, .getfield 20, 3, 8, 5, 1178), (31, .iload_n 1, 1, 0, 0, 0), (32, .iaload, 1, 0, 0, 0), (33, .iload_n 3, 1, 0, 0, 0), (34, .invokevirtual 167, 3, 165, 130, 1406), (37, .istore 4, 2, 0, 0, 0), (39, .iload 4, 2, 0, 0, 0), (41, .iload_n 2, 1, 0, 0, 0), (42, .if_icmp .eq 12, 3, 30, 0, 0), (45, .aload_n 0, 1, 0, 0, 0), (46, .iload_n 1, 1, 0, 0, 0), (47, .iload_n 3, 1, 0, 0, 0), (48, .invokevirtual 170, 3, 190, 130, 1407), (51, .ifCond .eq 5, 3, 32, 0, 0), (54, .iconst 1, 1, 0, 0, 0), (55, .ireturn, 1, 0, 0, 0), (56, .aload_n 0, 1, 0, 0, 0), (57, .getfield 29, 3, 8, 8, 1181), (60, .iload_n 1, 1, 0, 0, 0), (61, .iaload, 1, 0, 0, 0), (62, .ifCond .le 21, 3, 48, 0, 0), (65, .iload 4, 2, 0, 0, 0), (67, .aload_n 0, 1, 0, 0, 0), (68, .iload_n 1, 1, 0, 0, 0), (69, .invokevirtual 151, 3, 184, 129, 1361), (72, .iconst 2, 1, 0, 0, 0), (73, .iadd, 1, 0, 0, 0), (74, .iconst 4, 1, 0, 0, 0), (75, .irem, 1, 0, 0, 0), (76, .if_icmp .ne 7, 3, 48, 0, 0), (79, .iconst 1, 1, 0, 0, 0), (80, .goto 4, 3, 49, 0, 0), (83, .iconst 0, 1, 0, 0, 0), (84, .ireturn, 1, 0, 0, 0)]
def cd_203 : List aE := [(0, .aload_n 0, 1, 0, 0, 0), (1, .iload_n 1, 1, 0, 0, 0), (2, .invokevirtual 138, 3, 175, 129, 1325), (5, .iconst 2, 1, 0, 0, 0), (6, .if_icmp .ne 21, 3, 15, 0, 0), (9, .iload_n 2, 1, 0, 0, 0), (10, .iconst 0, 1, 0, 0, 0), (11, .iconst 3, 1, 0, 0, 0), (12, .invokestatic 88, 3, 159, 3, 1281), (15, .ifCond .eq 12, 3, 15, 0, 0), (18, .iload_n 3, 1, 0, 0, 0), (19, .iconst 0, 1, 0, 0, 0), (20, .iconst 3, 1, 0, 0, 0), (21, .invokestatic 88, 3, 159, 3, 1281), (24, .ifCond .ne 5, 3, 17, 0, 0), (27, .iconst 0, 1, 0, 0, 0), (28, .ireturn, 1, 0, 0, 0), (29, .iconst 0, 1, 0, 0, 0), (30, .istore 4, 2, 0, 0, 0), (32, .iload 4, 2, 0, 0, 0), (34, .aload_n 0, 1, 0, 0, 0), (35, .getfield 29, 3, 8, 8, 1181), (38, .iload_n 1, 1, 0, 0, 0), (39, .iaload, 1, 0, 0, 0), (40, .if_icmp .ge 74, 3, 66, 0, 0), (43, .aload_n 0, 1, 0, 0, 0), (44, .getfield 35, 3, 8, 10, 1183), (47, .bipush 52, 2, 0, 0, 0), (49, .iload_n 1, 1, 0, 0, 0), (50, .imul, 1, 0, 0, 0), (51, .iload 4, 2, 0, 0, 0), (53, .iadd, 1, 0, 0, 0), (54, .iaload, 1, 0, 0, 0), (55, .istore 5, 2, 0, 0, 0), (57, .aload_n 0, 1, 0, 0, 0), (58, .aload_n 0, 1, 0, 0, 0), (59, .getfield 20, 3, 8, 5, 1178), (62, .iload_n 1, 1, 0, 0, 0), (63, .iaload, 1, 0, 0, 0), (64, .iload 5, 2, 0, 0, 0), (66, .invokevirtual 167, 3, 165, 130, 1406), (69, .iload_n 2, 1, 0, 0, 0), (70, .if_icmp .ne 38, 3, 64, 0, 0), (73, .aload_n 0, 1, 0, 0, 0), (74, .getfield 35, 3, 8, 10, 1183), (77, .bipush 52, 2, 0, 0, 0), (79, .iload_n 1, 1, 0, 0, 0), (80, .imul, 1, 0, 0, 0), (81, .iload 4, 2, 0, 0, 0), (83, .iadd, 1, 0, 0, 0), (84, .iload 4, 2, 0, 0, 0), (86, .iconst 4, 1, 0, 0, 0), (87, .irem, 1, 0, 0, 0), (88, .isub, 1, 0, 0, 0), (89, .iaload, 1, 0, 0, 0), (90, .invokestatic 148, 3, 186, 1, 1399), (93, .iload_n 3, 1, 0, 0, 0), (94, .if_icmp .ne 14, 3, 64, 0, 0), (97, .iload 5, 2, 0, 0, 0), (99, .invokestatic 148, 3, 186, 1, 1399), (102, .iload_n 3, 1, 0, 0, 0), (103, .if_icmp .eq 5, 3, 64, 0, 0), (106, .iconst 1, 1, 0, 0, 0), (107, .ireturn, 1, 0, 0, 0), (108, .iinc 4 1, 3, 0, 0, 0), (111, .goto (-79), 3, 19, 0, 0), (114, .iconst 0, 1, 0, 0, 0), (115, .ireturn, 1, 0, 0, 0)]
def cd_204 : List aE := [(0, .iconst 0, 1, 0, 0, 0), (1, .istore_n 3, 1, 0, 0, 0), (2, .iconst 1, 1, 0, 0, 0), (3, .istore 4, 2, 0, 0, 0), (5, .iload 4, 2, 0, 0, 0), (7, .iload_n 2, 1, 0, 0, 0), (8, .if_icmp .ge 35, 3, 23, 0, 0), (11, .aload_n 0, 1, 0, 0, 0), (12, .getfield 80, 3, 8, 28, 1201), (15, .iload 4, 2, 0, 0, 0), (17, .iaload, 1, 0, 0, 0), (18, .aload_n 0, 1, 0, 0, 0), (19, .getfield 80, 3, 8, 28, 1201), (22, .iload_n 3, 1, 0, 0, 0), (23, .iaload, 1, 0, 0, 0), (24, .aload_n 0, 1, 0, 0, 0), (25, .getfield 198, 3, 8, 29, 1202), (28, .invokestatic 160, 3, 187, 3, 1396), (31, .ifCond .eq 6, 3, 21, 0, 0), (34, .iload 4, 2, 0, 0, 0), (36, .istore_n 3, 1, 0, 0, 0), (37, .iinc 4 1, 3, 0, 0, 0), (40, .goto (-35), 3, 4, 0, 0), (43, .iload_n 1, 1, 0, 0, 0), (44, .iload_n 3, 1, 0, 0, 0), (45, .iadd, 1, 0, 0, 0), (46, .iconst 4, 1, 0, 0, 0), (47, .irem, 1, 0, 0, 0), (48, .ireturn, 1, 0, 0, 0)]
def cd_205 : List aE := [(0, .iload_n 2, 1, 0, 0, 0), (1, .iconst 4, 1, 0, 0, 0), (2, .if_icmp .ne 119, 3, 75, 0, 0), (5, .aload_n 0, 1, 0, 0, 0), (6, .iload_n 1, 1, 0, 0, 0), (7, .iconst 4, 1, 0, 0, 0), (8, .invokevirtual 201, 3, 204, 130, 1427), (11, .istore 4, 2, 0, 0, 0), (13, .iload 4, 2, 0, 0, 0), (15, .iconst 2, 1, 0, 0, 0), (16, .irem, 1, 0, 0, 0), (17, .aload_n 0, 1, 0, 0, 0), (18, .getfield 204, 3, 8, 30, 1203), (21, .if_icmp .ne 7, 3, 16, 0, 0), (24, .iconst 1, 1, 0, 0, 0), (25, .goto 4, 3, 17, 0, 0), (28, .iconst 0, 1, 0, 0, 0), (29, .istore 5, 2, 0, 0, 0), (31, .iload_n 3, 1, 0, 0, 0), (32, .iconst 1, 1, 0, 0, 0), (33, .if_icmp .ne 6, 3, 23, 0, 0), (36, .iload 5, 2, 0, 0, 0), (38, .ireturn, 1, 0, 0, 0), (39, .aload_n 0, 1, 0, 0, 0), (40, .getfield 80, 3, 8, 28, 1201), (43, .iconst 0, 1, 0, 0, 0), (44, .iaload, 1, 0, 0, 0), (45, .istore 6, 2, 0, 0, 0), (47, .aload_n 0, 1, 0, 0, 0), (48, .getfield 80, 3, 8, 28, 1201), (51, .iconst 1, 1, 0, 0, 0), (52, .iaload, 1, 0, 0, 0), (53, .istore 7, 2, 0, 0, 0), (55, .aload_n 0, 1, 0, 0, 0), (56, .getfield 80, 3, 8, 28, 1201), (59, .iconst 2, 1, 0, 0, 0), (60, .iaload, 1, 0, 0, 0), (61, .istore 8, 2, 0, 0, 0), (63, .aload_n 0, 1, 0, 0, 0), (64, .getfield 80, 3, 8, 28, 1201), (67, .iconst 3, 1, 0, 0, 0), (68, .iaload, 1, 0, 0, 0), (69, .istore 9, 2, 0, 0, 0), (71, .aload_n 0, 1, 0, 0, 0), (72, .iload 4, 2, 0, 0, 0), (74, .iconst 0, 1, 0, 0, 0), (75, .iload_n 3, 1, 0, 0, 0), (76, .iconst 1, 1, 0, 0, 0), (77, .isub, 1, 0, 0, 0), (78, .invokevirtual 207, 3, 205, 131, 1423), (81, .istore 10, 2, 0, 0, 0), (83, .aload_n 0, 1, 0, 0, 0), (84, .getfield 80, 3, 8, 28, 1201), (87, .iconst 0, 1, 0, 0, 0), (88, .iload 6, 2, 0, 0, 0), (90, .iastore, 1, 0, 0, 0), (91, .aload_n 0, 1, 0, 0, 0), (92, .getfield 80, 3, 8, 28, 1201), (95, .iconst 1, 1, 0, 0, 0), (96, .iload 7, 2, 0, 0, 0), (98, .iastore, 1, 0, 0, 0), (99, .aload_n 0, 1, 0, 0, 0), (100, .getfield 80, 3, 8, 28, 1201), (103, .iconst 2, 1, 0, 0, 0), (104, .iload 8, 2, 0, 0, 0), (106, .iastore, 1, 0, 0, 0), (107, .aload_n 0, 1, 0, 0, 0), (108, .getfield 80, 3, 8, 28, 1201), (111, .iconst 3, 1, 0, 0, 0), (112, .iload 9, 2, 0, 0, 0), (114, .iastore, 1, 0, 0, 0), (115, .iload 5, 2, 0, 0, 0), (117, .iload 10, 2, 0, 0, 0), (119, .iadd, 1, 0, 0, 0), (120, .ireturn, 1, 0, 0, 0), (121, .iload_n 1, 1, 0, 0, 0), (122, .iload_n 2, 1, 0, 0, 0), (123, .iadd, 1, 0, 0, 0), (124, .iconst 4, 1, 0, 0, 0), (125, .irem, 1, 0, 0, 0), (126, .istore 4, 2, 0, 0, 0), (128, .iload 4, 2, 0, 0, 0), (130, .iconst 2, 1, 0, 0, 0), (131, .irem, 1, 0, 0, 0), (132, .aload_n 0, 1, 0, 0, 0), (133, .getfield 204, 3, 8, 30, 1203), (136, .if_icmp .ne 7, 3, 89, 0, 0), (139, .iconst 1, 1, 0, 0, 0), (140, .goto 4, 3, 90, 0, 0), (143, .iconst 0, 1, 0, 0, 0), (144, .istore 5, 2, 0, 0, 0), (146, .iconst (-1), 1, 0, 0, 0), (147, .istore 6, 2, 0, 0, 0), (149, .iconst 0, 1, 0, 0, 0), (150, .istore 7, 2, 0, 0, 0), (152, .iconst 4, 1, 0, 0, 0), (153, .iload 4, 2, 0, 0, 0), (155, .imul, 1, 0, 0, 0), (156, .istore 8, 2, 0, 0, 0), (158, .iload 8, 2, 0, 0, 0), (160, .iconst 4, 1, 0, 0, 0), (161, .iload 4, 2, 0, 0, 0), (163, .imul, 1, 0, 0, 0), (164, .iconst 4, 1, 0, 0, 0), (165, .iadd, 1, 0, 0, 0), (166, .if_icmp .ge 58, 3, 133, 0, 0), (169, .iload_n 2, 1, 0, 0, 0), (170, .ifCond .le 54, 3, 133, 0, 0), (173, .iload 7, 2, 0, 0, 0), (175, .ifCond .ne 36, 3, 127, 0, 0), (178, .aload_n 0, 1, 0, 0, 0), (179, .getfield 77, 3, 8, 27, 1200), (182, .iload 8, 2, 0, 0, 0), (184, .iaload, 1, 0, 0, 0), (185, .iconst (-1), 1, 0, 0, 0), (186, .if_icmp .eq 29, 3, 129, 0, 0), (189, .aload_n 0, 1, 0, 0, 0), (190, .getfield 77, 3, 8, 27, 1200), (193, .iload 8, 2, 0, 0, 0), (195, .iaload, 1, 0, 0, 0), (196, .invokestatic 148, 3, 186, 1, 1399), (199, .aload_n 0, 1, 0, 0, 0), (200, .getfield 80, 3, 8, 28, 1201), (203, .iconst 0, 1, 0, 0, 0), (204, .iaload, 1, 0, 0, 0), (205, .invokestatic 148, 3, 186, 1, 1399), (208, .if_icmp .ne 7, 3, 129, 0, 0), (211, .iconst 1, 1, 0, 0, 0), (212, .goto 4, 3, 130, 0, 0), (215, .iconst 0, 1, 0, 0, 0), (216, .istore 7, 2, 0, 0, 0), (218, .iinc 8 1, 3, 0, 0, 0), (221, .goto (-63), 3, 99, 0, 0), (224, .iconst 4, 1, 0, 0, 0), (225, .iload 4, 2, 0, 0, 0), (227, .imul, 1, 0, 0, 0), (228, .istore 8, 2, 0, 0, 0), (230, .iload 8, 2, 0, 0, 0), (232, .iconst 4, 1, 0, 0, 0), (233, .iload 4, 2, 0, 0, 0), (235, .imul, 1, 0, 0, 0), (236, .iconst 4, 1, 0, 0, 0), (237, .iadd, 1, 0, 0, 0), (238, .if_icmp .ge 135, 3, 210, 0, 0), (241, .aload_n 0, 1, 0, 0, 0), (242, .getfield 77, 3, 8, 27, 1200), (245, .iload 8, 2, 0, 0, 0), (247, .iaload, 1, 0, 0, 0), (248, .istore 9, 2, 0, 0, 0), (250, .iload 9, 2, 0, 0, 0), (252, .iconst (-1), 1, 0, 0, 0), (253, .if_icmp .eq 114, 3, 208, 0, 0), (256, .iload 7, 2, 0, 0, 0), (258, .ifCond .eq 23, 3, 163, 0, 0), (261, .iload 9, 2, 0, 0, 0), (263, .invokestatic 148, 3, 186, 1, 1399), (266, .aload_n 0, 1, 0, 0, 0), (267, .getfield 80, 3, 8, 28, 1201), (270, .iconst 0, 1, 0, 0, 0), (271, .iaload, 1, 0, 0, 0), (272, .invokestatic 148, 3, 186, 1, 1399), (275, .if_icmp .eq 6, 3, 163, 0, 0), (278, .goto 89, 3, 208, 0, 0), (281, .aload_n 0, 1, 0, 0, 0), (282, .getfield 77, 3, 8, 27, 1200), (285, .iload 8, 2, 0, 0, 0), (287, .iconst (-1), 1, 0, 0, 0), (288, .iastore, 1, 0, 0, 0), (289, .aload_n 0, 1, 0, 0, 0), (290, .getfield 80, 3, 8, 28, 1201), (293, .iload_n 2, 1, 0, 0, 0), (294, .iload 9, 2, 0, 0, 0), (296, .iastore, 1, 0, 0, 0), (297, .aload_n 0, 1, 0, 0, 0), (298, .iload_n 1, 1, 0, 0, 0), (299, .iload_n 2, 1, 0, 0, 0), (300, .iconst 1, 1, 0, 0, 0), (301, .iadd, 1, 0, 0, 0), (302, .iload_n 3, 1, 0, 0, 0), (303, .invokevirtual 207, 3, 205, 131, 1423), (306, .istore 10, 2, 0, 0, 0), (308, .aload_n 0, 1, 0, 0, 0), (309, .getfield 77, 3, 8, 27, 1200), (312, .iload 8, 2, 0, 0, 0), (314, .iload 9, 2, 0, 0, 0), (316, .iastore, 1, 0, 0, 0), (317, .iload 6, 2, 0, 0, 0), (319, .iconst (-1), 1, 0, 0, 0), (320, .if_icmp .eq 25, 3, 198, 0, 0), (323, .iload 5, 2, 0, 0, 0), (325, .ifCond .eq 13, 3, 195, 0, 0), (328, .iload 10, 2, 0, 0, 0), (330, .iload 6, 2, 0, 0, 0), (332, .if_icmp .le 17, 3, 200, 0, 0), (335, .goto 10, 3, 198, 0, 0), (338, .iload 10, 2, 0, 0, 0), (340, .iload 6, 2, 0, 0, 0), (342, .if_icmp .ge 7, 3, 200, 0, 0), (345, .iload 10, 2, 0, 0, 0), (347, .istore 6, 2, 0, 0, 0), (349, .iload 6, 2, 0, 0, 0), (351, .iload 5, 2, 0, 0, 0), (353, .ifCond .eq 7, 3, 205, 0, 0), (356, .iload_n 3, 1, 0, 0, 0), (357, .goto 4, 3, 206, 0, 0), (360, .iconst 0, 1, 0, 0, 0), (361, .if_icmp .ne 6, 3, 208, 0, 0), (364, .goto 9, 3, 210, 0, 0), (367, .iinc 8 1, 3, 0, 0, 0), (370, .goto (-140), 3, 137, 0, 0), (373, .iload 6, 2, 0, 0, 0), (375, .ireturn, 1, 0, 0, 0)]
def cd_206 : List aE := [(0, .aload_n 0, 1, 0, 0, 0), (1, .iload_n 1, 1, 0, 0, 0), (2, .invokevirtual 138, 3, 175, 129, 1325), (5, .iconst 2, 1, 0, 0, 0), (6, .if_icmp .eq 5, 3, 7, 0, 0), (9, .iconst (-1), 1, 0, 0, 0), (10, .ireturn, 1, 0, 0, 0), (11, .aload_n 0, 1, 0, 0, 0), (12, .iload_n 1, 1, 0, 0, 0), (13, .invokevirtual 163, 3, 188, 129, 1392), (16, .bipush 13, 2, 0, 0, 0), (18, .aload_n 0, 1, 0, 0, 0), (19, .getfield 157, 3, 8, 26, 1199), (22, .iconst 4, 1, 0, 0, 0), (23, .idiv, 1, 0, 0, 0), (24, .isub, 1, 0, 0, 0), (25, .istore_n 2, 1, 0, 0, 0), (26, .iload_n 2, 1, 0, 0, 0), (27, .iconst 4, 1, 0, 0, 0), (28, .if_icmp .le 5, 3, 22, 0, 0), (31, .iconst (-1), 1, 0, 0, 0), (32, .ireturn, 1, 0, 0, 0), (33, .aload_n 0, 1, 0, 0, 0), (34, .aload_n 0, 1, 0, 0, 0), (35, .iload_n 1, 1, 0, 0, 0), (36, .invokevirtual 135, 3, 183, 129, 1357), (39, .putfield 198, 3, 8, 29, 1202), (42, .aload_n 0, 1, 0, 0, 0), (43, .aload_n 0, 1, 0, 0, 0), (44, .iload_n 1, 1, 0, 0, 0), (45, .invokevirtual 151, 3, 184, 129, 1361), (48, .iconst 2, 1, 0, 0, 0), (49, .irem, 1, 0, 0, 0), (50, .putfield 204, 3, 8, 30, 1203), (53, .iconst 0, 1, 0, 0, 0), (54, .istore_n 3, 1, 0, 0, 0), (55, .iload_n 3, 1, 0, 0, 0), (56, .iconst 4, 1, 0, 0, 0), (57, .if_icmp .ge 86, 3, 83, 0, 0), (60, .iconst 0, 1, 0, 0, 0), (61, .istore 4, 2, 0, 0, 0), (63, .iconst 0, 1, 0, 0, 0), (64, .istore 5, 2, 0, 0, 0), (66, .iload 5, 2, 0, 0, 0), (68, .bipush 52, 2, 0, 0, 0), (70, .if_icmp .ge 39, 3, 65, 0, 0), (73, .aload_n 0, 1, 0, 0, 0), (74, .iload_n 1, 1, 0, 0, 0), (75, .iload_n 3, 1, 0, 0, 0), (76, .iload 5, 2, 0, 0, 0), (78, .invokevirtual 176, 3, 191, 131, 1402), (81, .ifCond .ne 6, 3, 53, 0, 0), (84, .goto 19, 3, 63, 0, 0), (87, .aload_n 0, 1, 0, 0, 0), (88, .getfield 77, 3, 8, 27, 1200), (91, .iconst 4, 1, 0, 0, 0), (92, .iload_n 3, 1, 0, 0, 0), (93, .imul, 1, 0, 0, 0), (94, .iload 4, 2, 0, 0, 0), (96, .iadd, 1, 0, 0, 0), (97, .iload 5, 2, 0, 0, 0), (99, .iastore, 1, 0, 0, 0), (100, .iinc 4 1, 3, 0, 0, 0), (103, .iinc 5 1, 3, 0, 0, 0), (106, .goto (-40), 3, 43, 0, 0), (109, .iload 4, 2, 0, 0, 0), (111, .istore 5, 2, 0, 0, 0), (113, .iload 5, 2, 0, 0, 0), (115, .iconst 4, 1, 0, 0, 0), (116, .if_icmp .ge 21, 3, 81, 0, 0), (119, .aload_n 0, 1, 0, 0, 0), (120, .getfield 77, 3, 8, 27, 1200), (123, .iconst 4, 1, 0, 0, 0), (124, .iload_n 3, 1, 0, 0, 0), (125, .imul, 1, 0, 0, 0), (126, .iload 5, 2, 0, 0, 0), (128, .iadd, 1, 0, 0, 0), (129, .iconst (-1), 1, 0, 0, 0), (130, .iastore, 1, 0, 0, 0), (131, .iinc 5 1, 3, 0, 0, 0), (134, .goto (-21), 3, 67, 0, 0), (137, .iinc 3 1, 3, 0, 0, 0), (140, .goto (-85), 3, 36, 0, 0), (143, .aload_n 0, 1, 0, 0, 0), (144, .getfield 157, 3, 8, 26, 1199), (147, .istore_n 3, 1, 0, 0, 0), (148, .iload_n 3, 1, 0, 0, 0), (149, .aload_n 0, 1, 0, 0, 0), (150, .getfield 29, 3, 8, 8, 1181), (153, .iload_n 1, 1, 0, 0, 0), (154, .iaload, 1, 0, 0, 0), (155, .if_icmp .ge 31, 3, 109, 0, 0), (158, .aload_n 0, 1, 0, 0, 0), (159, .getfield 80, 3, 8, 28, 1201), (162, .iload_n 3, 1, 0, 0, 0), (163, .aload_n 0, 1, 0, 0, 0), (164, .getfield 157, 3, 8, 26, 1199), (167, .isub, 1, 0, 0, 0), (168, .aload_n 0, 1, 0, 0, 0), (169, .getfield 35, 3, 8, 10, 1183), (172, .bipush 52, 2, 0, 0, 0), (174, .iload_n 1, 1, 0, 0, 0), (175, .imul, 1, 0, 0, 0), (176, .iload_n 3, 1, 0, 0, 0), (177, .iadd, 1, 0, 0, 0), (178, .iaload, 1, 0, 0, 0), (179, .iastore, 1, 0, 0, 0), (180, .iinc 3 1, 3, 0, 0, 0), (183, .goto (-35), 3, 86, 0, 0), (186, .iload_n 2, 1, 0, 0, 0), (187, .ireturn, 1, 0, 0, 0)]
def cd_207 : List aE := [(0, .aload_n 0, 1, 0, 0, 0), (1, .iload_n 1, 1, 0, 0, 0), (2, .invokevirtual 211, 3, 206, 129, 1419), (5, .istore_n 2, 1, 0, 0, 0), (6, .iload_n 2, 1, 0, 0, 0), (7, .iconst (-1), 1, 0, 0, 0), (8, .if_icmp .ne 7, 3, 9, 0, 0), (11, .iconst (-1), 1, 0, 0, 0), (12, .goto 23, 3, 21, 0, 0), (15, .aload_n 0, 1, 0, 0, 0), (16, .aload_n 0, 1, 0, 0, 0), (17, .getfield 154, 3, 8, 25, 1198), (20, .aload_n 0, 1, 0, 0, 0), (21, .getfield 29, 3, 8, 8, 1181), (24, .iload_n 1, 1, 0, 0, 0), (25, .iaload, 1, 0, 0, 0), (26, .aload_n 0, 1, 0, 0, 0), (27, .getfield 157, 3, 8, 26, 1199), (30, .isub, 1, 0, 0, 0), (31, .iload_n 2, 1, 0, 0, 0), (32, .invokevirtual 207, 3, 205, 131, 1423), (35, .ireturn, 1, 0, 0, 0)]
def cd_208 : List aE := [(0, .aload_n 0, 1, 0, 0, 0), (1, .iload_n 1, 1, 0, 0, 0), (2, .invokevirtual 182, 3, 207, 129, 1415), (5, .istore_n 2, 1, 0, 0, 0), (6, .iload_n 2, 1, 0, 0, 0), (7, .iconst (-1), 1, 0, 0, 0), (8, .if_icmp .ne 5, 3, 9, 0, 0), (11, .iconst (-1), 1, 0, 0, 0), (12, .ireturn, 1, 0, 0, 0), (13, .iconst 0, 1, 0, 0, 0), (14, .istore_n 3, 1, 0, 0, 0), (15, .iload_n 3, 1, 0, 0, 0), (16, .bipush 52, 2, 0, 0, 0), (18, .if_icmp .ge 104, 3, 69, 0, 0), (21, .aload_n 0, 1, 0, 0, 0), (22, .iload_n 1, 1, 0, 0, 0), (23, .iload_n 3, 1, 0, 0, 0), (24, .invokevirtual 179, 3, 192, 130, 1384), (27, .ifCond .ne 6, 3, 20, 0, 0), (30, .goto 86, 3, 67, 0, 0), (33, .aload_n 0, 1, 0, 0, 0), (34, .iload_n 1, 1, 0, 0, 0), (35, .invokevirtual 211, 3, 206, 129, 1419), (38, .istore 4, 2, 0, 0, 0), (40, .aload_n 0, 1, 0, 0, 0), (41, .getfield 29, 3, 8, 8, 1181), (44, .iload_n 1, 1, 0, 0, 0), (45, .iaload, 1, 0, 0, 0), (46, .aload_n 0, 1, 0, 0, 0), (47, .getfield 157, 3, 8, 26, 1199), (50, .isub, 1, 0, 0, 0), (51, .istore 5, 2, 0, 0, 0), (53, .iconst 0, 1, 0, 0, 0), (54, .istore 6, 2, 0, 0, 0), (56, .iload 6, 2, 0, 0, 0), (58, .bipush 16, 2, 0, 0, 0), (60, .if_icmp .ge 28, 3, 50, 0, 0), (63, .aload_n 0, 1, 0, 0, 0), (64, .getfield 77, 3, 8, 27, 1200), (67, .iload 6, 2, 0, 0, 0), (69, .iaload, 1, 0, 0, 0), (70, .iload_n 3, 1, 0, 0, 0), (71, .if_icmp .ne 11, 3, 48, 0, 0), (74, .aload_n 0, 1, 0, 0, 0), (75, .getfield 77, 3, 8, 27, 1200), (78, .iload 6, 2, 0, 0, 0), (80, .iconst (-1), 1, 0, 0, 0), (81, .iastore, 1, 0, 0, 0), (82, .iinc 6 1, 3, 0, 0, 0), (85, .goto (-29), 3, 34, 0, 0), (88, .aload_n 0, 1, 0, 0, 0), (89, .getfield 80, 3, 8, 28, 1201), (92, .iload 5, 2, 0, 0, 0), (94, .iload_n 3, 1, 0, 0, 0), (95, .iastore, 1, 0, 0, 0), (96, .aload_n 0, 1, 0, 0, 0), (97, .aload_n 0, 1, 0, 0, 0), (98, .getfield 154, 3, 8, 25, 1198), (101, .iload 5, 2, 0, 0, 0), (103, .iconst 1, 1, 0, 0, 0), (104, .iadd, 1, 0, 0, 0), (105, .iload 4, 2, 0, 0, 0), (107, .invokevirtual 207, 3, 205, 131, 1423), (110, .iload_n 2, 1, 0, 0, 0), (111, .if_icmp .ne 5, 3, 67, 0, 0), (114, .iload_n 3, 1, 0, 0, 0), (115, .ireturn, 1, 0, 0, 0), (116, .iinc 3 1, 3, 0, 0, 0), (119, .goto (-104), 3, 11, 0, 0), (122, .iconst (-1), 1, 0, 0, 0), (123, .ireturn, 1, 0, 0, 0)]
def cd_209 : List aE := [(0, .iload_n 1, 1, 0, 0, 0), (1, .iconst 1, 1, 0, 0, 0), (2, .bipush 7, 2, 0, 0, 0), (4, .invokestatic 88, 3, 159, 3, 1281), (7, .ifCond .eq 32, 3, 20, 0, 0), (10, .iload_n 2, 1, 0, 0, 0), (11, .iconst 0, 1, 0, 0, 0), (12, .iconst 4, 1, 0, 0, 0), (13, .invokestatic 88, 3, 159, 3, 1281), (16, .ifCond .eq 23, 3, 20, 0, 0), (19, .iload_n 3, 1, 0, 0, 0), (20, .iconst 0, 1, 0, 0, 0), (21, .iconst 2, 1, 0, 0, 0), (22, .invokestatic 88, 3, 159, 3, 1281), (25, .ifCond .eq 14, 3, 20, 0, 0), (28, .iload 5, 2, 0, 0, 0), (30, .iconst 0, 1, 0, 0, 0), (31, .bipush 13, 2, 0, 0, 0), (33, .invokestatic 88, 3, 159, 3, 1281), (36, .ifCond .ne 6, 3, 22, 0, 0), (39, .ldc 214, 2, 2147483648, 0, 1376), (41, .ireturn, 1, 0, 0, 0), (42, .iload 5, 2, 0, 0, 0), (44, .iload_n 1, 1, 0, 0, 0), (45, .isub, 1, 0, 0, 0), (46, .bipush 6, 2, 0, 0, 0), (48, .isub, 1, 0, 0, 0), (49, .istore 6, 2, 0, 0, 0), (51, .iload 6, 2, 0, 0, 0), (53, .ifCond .ge 14, 3, 37, 0, 0), (56, .iload 6, 2, 0, 0, 0), (58, .ineg, 1, 0, 0, 0), (59, .iload_n 3, 1, 0, 0, 0), (60, .iload 4, 2, 0, 0, 0), (62, .invokestatic 215, 3, 210, 3, 1377), (65, .ineg, 1, 0, 0, 0), (66, .ireturn, 1, 0, 0, 0), (67, .iload_n 2, 1, 0, 0, 0), (68, .iconst 2, 1, 0, 0, 0), (69, .if_icmp .ge 8, 3, 42, 0, 0), (72, .bipush 20, 2, 0, 0, 0), (74, .goto 5, 3, 43, 0, 0), (77, .bipush 30, 2, 0, 0, 0), (79, .istore 7, 2, 0, 0, 0), (81, .iload_n 1, 1, 0, 0, 0), (82, .iload 7, 2, 0, 0, 0), (84, .imul, 1, 0, 0, 0), (85, .iload_n 2, 1, 0, 0, 0), (86, .iconst 4, 1, 0, 0, 0), (87, .if_icmp .ne 8, 3, 52, 0, 0), (90, .bipush 10, 2, 0, 0, 0), (92, .goto 4, 3, 53, 0, 0), (95, .iconst 0, 1, 0, 0, 0), (96, .iadd, 1, 0, 0, 0), (97, .iload_n 3, 1, 0, 0, 0), (98, .ifCond .ne 7, 3, 58, 0, 0), (101, .iconst 1, 1, 0, 0, 0), (102, .goto 6, 3, 61, 0, 0), (105, .iconst 2, 1, 0, 0, 0), (106, .iload_n 3, 1, 0, 0, 0), (107, .imul, 1, 0, 0, 0), (108, .imul, 1, 0, 0, 0), (109, .istore 8, 2, 0, 0, 0), (111, .iload 8, 2, 0, 0, 0), (113, .iload 8, 2, 0, 0, 0), (115, .bipush 100, 2, 0, 0, 0), (117, .if_icmp .ge 8, 3, 69, 0, 0), (120, .bipush 50, 2, 0, 0, 0), (122, .goto 17, 3, 74, 0, 0), (125, .iload 4, 2, 0, 0, 0), (127, .ifCond .eq 9, 3, 73, 0, 0), (130, .sipush 500, 3, 0, 0, 0), (133, .goto 6, 3, 74, 0, 0), (136, .sipush 300, 3, 0, 0, 0), (139, .iadd, 1, 0, 0, 0), (140, .istore 8, 2, 0, 0, 0), (142, .iload_n 1, 1, 0, 0, 0), (143, .bipush 6, 2, 0, 0, 0), (145, .if_icmp .ne 22, 3, 87, 0, 0), (148, .iload 8, 2, 0, 0, 0), (150, .iload 4, 2, 0, 0, 0), (152, .ifCond .eq 9, 3, 84, 0, 0), (155, .sipush 750, 3, 0, 0, 0), (158, .goto 6, 3, 85, 0, 0), (161, .sipush 500, 3, 0, 0, 0), (164, .iadd, 1, 0, 0, 0), (165, .istore 8, 2, 0, 0, 0), (167, .iload_n 1, 1, 0, 0, 0), (168, .bipush 7, 2, 0, 0, 0), (170, .if_icmp .ne 22, 3, 98, 0, 0), (173, .iload 8, 2, 0, 0, 0), (175, .iload 4, 2, 0, 0, 0), (177, .ifCond .eq 9, 3, 95, 0, 0), (180, .sipush 1500, 3, 0, 0, 0), (183, .goto 6, 3, 96, 0, 0), (186, .sipush 1000, 3, 0, 0, 0), (189, .iadd, 1, 0, 0, 0), (190, .istore 8, 2, 0, 0, 0), (192, .iload 8, 2, 0, 0, 0), (194, .bipush 50, 2, 0, 0, 0), (196, .iload_n 3, 1, 0, 0, 0), (197, .imul, 1, 0, 0, 0), (198, .iadd, 1, 0, 0, 0), (199, .istore 8, 2, 0, 0, 0), (201, .iload_n 3, 1, 0, 0, 0), (202, .ifCond .ne 8, 3, 108, 0, 0), (205, .iload 7, 2, 0, 0, 0), (207, .goto 18, 3, 115, 0, 0), (210, .iload 4, 2, 0, 0, 0), (212, .ifCond .eq 9, 3, 112, 0, 0), (215, .sipush 200, 3, 0, 0, 0), (218, .goto 5, 3, 113, 0, 0), (221, .bipush 100, 2, 0, 0, 0), (223, .iload_n 3, 1, 0, 0, 0), (224, .imul, 1, 0, 0, 0), (225, .istore 9, 2, 0, 0, 0), (227, .iload 8, 2, 0, 0, 0), (229, .iload 6, 2, 0, 0, 0), (231, .iload 9, 2, 0, 0, 0), (233, .imul, 1, 0, 0, 0), (234, .iadd, 1, 0, 0, 0), (235, .ireturn, 1, 0, 0, 0)]
def cd_210 : List aE := [(0, .iload_n 1, 1, 0, 0, 0), (1, .ifCond .ne 17, 3, 10, 0, 0), (4, .iload_n 0, 1, 0, 0, 0), (5, .iload_n 2, 1, 0, 0, 0), (6, .ifCond .eq 8, 3, 7, 0, 0), (9, .bipush 100, 2, 0, 0, 0), (11, .goto 5, 3, 8, 0, 0), (14, .bipush 50, 2, 0, 0, 0), (16, .imul, 1, 0, 0, 0), (17, .ireturn, 1, 0, 0, 0), (18, .iconst 0, 1, 0, 0, 0), (19, .istore_n 3, 1, 0, 0, 0), (20, .iconst 1, 1, 0, 0, 0), (21, .istore 4, 2, 0, 0, 0), (23, .iload 4, 2, 0, 0, 0), (25, .iload_n 0, 1, 0, 0, 0), (26, .if_icmp .gt 52, 3, 39, 0, 0), (29, .iload_n 3, 1, 0, 0, 0), (30, .iload 4, 2, 0, 0, 0), (32, .iconst 1, 1, 0, 0, 0), (33, .if_icmp .ne 18, 3, 27, 0, 0), (36, .iload_n 2, 1, 0, 0, 0), (37, .ifCond .eq 9, 3, 25, 0, 0), (40, .sipush 200, 3, 0, 0, 0), (43, .goto 27, 3, 35, 0, 0), (46, .bipush 100, 2, 0, 0, 0), (48, .goto 22, 3, 35, 0, 0), (51, .iload_n 2, 1, 0, 0, 0), (52, .ifCond .ne 9, 3, 32, 0, 0), (55, .iload 4, 2, 0, 0, 0), (57, .iconst 3, 1, 0, 0, 0), (58, .if_icmp .le 9, 3, 34, 0, 0), (61, .sipush 300, 3, 0, 0, 0), (64, .goto 6, 3, 35, 0, 0), (67, .sipush 200, 3, 0, 0, 0), (70, .iadd, 1, 0, 0, 0), (71, .istore_n 3, 1, 0, 0, 0), (72, .iinc 4 1, 3, 0, 0, 0), (75, .goto (-52), 3, 14, 0, 0), (78, .iload_n 3, 1, 0, 0, 0), (79, .iload_n 1, 1, 0, 0, 0), (80, .imul, 1, 0, 0, 0), (81, .ireturn, 1, 0, 0, 0)]
def cd_211 : List aE := [(0, .iload_n 1, 1, 0, 0, 0), (1, .i2l, 1, 0, 0, 0), (2, .iload_n 2, 1, 0, 0, 0), (3, .i2l, 1, 0, 0, 0), (4, .lsub, 1, 0, 0, 0), (5, .lstore_n 3, 1, 0, 0, 0), (6, .lload_n 3, 1, 0, 0, 0), (7, .lconst 0, 1, 0, 0, 0), (8, .lcmp, 1, 0, 0, 0), (9, .ifCond .ge 8, 3, 13, 0, 0), (12, .lload_n 3, 1, 0, 0, 0), (13, .lneg, 1, 0, 0, 0), (14, .goto 4, 3, 14, 0, 0), (17, .lload_n 3, 1, 0, 0, 0), (18, .lstore 5, 2, 0, 0, 0), (20, .iconst 0, 1, 0, 0, 0), (21, .istore 7, 2, 0, 0, 0), (23, .iconst 0, 1, 0, 0, 0), (24, .istore 8, 2, 0, 0, 0), (26, .iload 8, 2, 0, 0, 0), (28, .getstatic 219, 3, 1, 0, 1473), (31, .arraylength, 1, 0, 0, 0), (32, .if_icmp .ge 32, 3, 38, 0, 0), (35, .iload 7, 2, 0, 0, 0), (37, .lload 5, 2, 0, 0, 0), (39, .getstatic 219, 3, 1, 0, 1473), (42, .iload 8, 2, 0, 0, 0), (44, .iaload, 1, 0, 0, 0), (45, .i2l, 1, 0, 0, 0), (46, .lcmp, 1, 0, 0, 0), (47, .ifCond .lt 7, 3, 33, 0, 0), (50, .iconst 1, 1, 0, 0, 0), (51, .goto 4, 3, 34, 0, 0), (54, .iconst 0, 1, 0, 0, 0), (55, .iadd, 1, 0, 0, 0), (56, .istore 7, 2, 0, 0, 0), (58, .iinc 8 1, 3, 0, 0, 0), (61, .goto (-35), 3, 19, 0, 0), (64, .lload_n 3, 1, 0, 0, 0), (65, .lconst 0, 1, 0, 0, 0), (66, .lcmp, 1, 0, 0, 0), (67, .ifCond .ge 9, 3, 45, 0, 0), (70, .iload 7, 2, 0, 0, 0), (72, .ineg, 1, 0, 0, 0), (73, .goto 5, 3, 46, 0, 0), (76, .iload 7, 2, 0, 0, 0), (78, .ireturn, 1, 0, 0, 0)]
def cd_212 : List aE := [(0, .iload_n 1, 1, 0, 0, 0), (1, .iconst 0, 1, 0, 0, 0), (2, .aload_n 0, 1, 0, 0, 0), (3, .getfield 103, 3, 8, 1, 1174), (6, .iconst 1, 1, 0, 0, 0), (7, .isub, 1, 0, 0, 0), (8, .invokestatic 88, 3, 159, 3, 1281), (11, .ireturn, 1, 0, 0, 0)]
def cd_213 : List aE := [(0, .aload_n 0, 1, 0, 0, 0), (1, .iload_n 1, 1, 0, 0, 0), (2, .invokevirtual 222, 3, 212, 129, 1479), (5, .ifCond .ne 16, 3, 11, 0, 0), (8, .iload_n 2, 1, 0, 0, 0), (9, .bipush 8, 2, 0, 0, 0), (11, .if_icmp .ne 8, 3, 9, 0, 0), (14, .ldc 214, 2, 2147483648, 0, 1376), (16, .goto 4, 3, 10, 0, 0), (19, .iconst (-1), 1, 0, 0, 0), (20, .ireturn, 1, 0, 0, 0), (21, .iload_n 2, 1, 0, 0, 0), (22, .tableswitch 138 0 9 #[54, 61, 70, 81, 88, 95, 102, 109, 116, 123], 54, 0, 0, 0), (76, .aload_n 0, 1, 0, 0, 0), (77, .getfield 38, 3, 8, 11, 1184), (80, .iload_n 1, 1, 0, 0, 0), (81, .iaload, 1, 0, 0, 0), (82, .ireturn, 1, 0, 0, 0), (83, .aload_n 0, 1, 0, 0, 0), (84, .getfield 41, 3, 8, 12, 1185), (87, .iconst 2, 1, 0, 0, 0), (88, .iload_n 1, 1, 0, 0, 0), (89, .imul, 1, 0, 0, 0), (90, .iaload, 1, 0, 0, 0), (91, .ireturn, 1, 0, 0, 0), (92, .aload_n 0, 1, 0, 0, 0), (93, .getfield 41, 3, 8, 12, 1185), (96, .iconst 2, 1, 0, 0, 0), (97, .iload_n 1, 1, 0, 0, 0), (98, .imul, 1, 0, 0, 0), (99, .iconst 1, 1, 0, 0, 0), (100, .iadd, 1, 0, 0, 0), (101, .iaload, 1, 0, 0, 0), (102, .ireturn, 1, 0, 0, 0), (103, .aload_n 0, 1, 0, 0, 0), (104, .getfield 44, 3, 8, 13, 1186), (107, .iload_n 1, 1, 0, 0, 0), (108, .iaload, 1, 0, 0, 0), (109, .ireturn, 1, 0, 0, 0), (110, .aload_n 0, 1, 0, 0, 0), (111, .getfield 47, 3, 8, 14, 1187), (114, .iload_n 1, 1, 0, 0, 0), (115, .iaload, 1, 0, 0, 0), (116, .ireturn, 1, 0, 0, 0), (117, .aload_n 0, 1, 0, 0, 0), (118, .getfield 50, 3, 8, 15, 1188), (121, .iload_n 1, 1, 0, 0, 0), (122, .iaload, 1, 0, 0, 0), (123, .ireturn, 1, 0, 0, 0), (124, .aload_n 0, 1, 0, 0, 0), (125, .getfield 53, 3, 8, 16, 1189), (128, .iload_n 1, 1, 0, 0, 0), (129, .iaload, 1, 0, 0, 0), (130, .ireturn, 1, 0, 0, 0), (131, .aload_n 0, 1, 0, 0, 0), (132, .getfield 56, 3, 8, 17, 1190), (135, .iload_n 1, 1, 0, 0, 0), (136, .iaload, 1, 0, 0, 0), (137, .ireturn, 1, 0, 0, 0), (138, .aload_n 0, 1, 0, 0, 0), (139, .getfield 59, 3, 8, 18, 1191), (142, .iload_n 1, 1, 0, 0, 0), (143, .iaload, 1, 0, 0, 0), (144, .ireturn, 1, 0, 0, 0), (145, .aload_n 0, 1, 0, 0, 0), (146, .getfield 65, 3, 8, 20, 1193), (149, .iload_n 1, 1, 0, 0, 0), (150, .baload, 1, 0, 0, 0), (151, .ifCond .eq 7, 3, 71, 0, 0), (154, .iconst 1, 1, 0, 0, 0), (155, .goto 4, 3, 72, 0, 0), (158, .iconst 0, 1, 0, 0, 0), (159, .ireturn, 1, 0, 0, 0), (160, .iconst (-1), 1, 0, 0, 0), (161, .ireturn, 1, 0, 0, 0)]
def cd_214 : List aE := [(0, .aload_n 0, 1, 0, 0, 0), (1, .iload_n 1, 1, 0, 0, 0), (2, .invokevirtual 222, 3, 212, 129, 1479), (5, .ifCond .eq 23, 3, 14, 0, 0), (8, .iload_n 2, 1, 0, 0, 0), (9, .iconst 0, 1, 0, 0, 0), (10, .bipush 100, 2, 0, 0, 0), (12, .invokestatic 88, 3, 159, 3, 1281), (15, .ifCond .eq 13, 3, 14, 0, 0), (18, .iload_n 3, 1, 0, 0, 0), (19, .iconst 0, 1, 0, 0, 0), (20, .bipush 100, 2, 0, 0, 0), (22, .invokestatic 88, 3, 159, 3, 1281), (25, .ifCond .ne 5, 3, 16, 0, 0), (28, .iconst 0, 1, 0, 0, 0), (29, .ireturn, 1, 0, 0, 0), (30, .aload_n 0, 1, 0, 0, 0), (31, .getfield 65, 3, 8, 20, 1193), (34, .iload_n 1, 1, 0, 0, 0), (35, .iconst 1, 1, 0, 0, 0), (36, .bastore, 1, 0, 0, 0), (37, .aload_n 0, 1, 0, 0, 0), (38, .getfield 62, 3, 8, 19, 1192), (41, .iconst 2, 1, 0, 0, 0), (42, .iload_n 1, 1, 0, 0, 0), (43, .imul, 1, 0, 0, 0), (44, .iload_n 2, 1, 0, 0, 0), (45, .iastore, 1, 0, 0, 0), (46, .aload_n 0, 1, 0, 0, 0), (47, .getfield 62, 3, 8, 19, 1192), (50, .iconst 2, 1, 0, 0, 0), (51, .iload_n 1, 1, 0, 0, 0), (52, .imul, 1, 0, 0, 0), (53, .iconst 1, 1, 0, 0, 0), (54, .iadd, 1, 0, 0, 0), (55, .iload_n 3, 1, 0, 0, 0), (56, .iastore, 1, 0, 0, 0), (57, .iconst 1, 1, 0, 0, 0), (58, .ireturn, 1, 0, 0, 0)]
def cd_215 : List aE := [(0, .aload_n 0, 1, 0, 0, 0), (1, .iload_n 1, 1, 0, 0, 0), (2, .invokevirtual 222, 3, 212, 129, 1479), (5, .ifCond .eq 12, 3, 9, 0, 0), (8, .iload_n 2, 1, 0, 0, 0), (9, .iconst 0, 1, 0, 0, 0), (10, .iconst 1, 1, 0, 0, 0), (11, .invokestatic 88, 3, 159, 3, 1281), (14, .ifCond .ne 5, 3, 11, 0, 0), (17, .iconst (-1), 1, 0, 0, 0), (18, .ireturn, 1, 0, 0, 0), (19, .bipush 20, 2, 0, 0, 0), (21, .aload_n 0, 1, 0, 0, 0), (22, .aload_n 0, 1, 0, 0, 0), (23, .getfield 38, 3, 8, 11, 1184), (26, .iload_n 1, 1, 0, 0, 0), (27, .iaload, 1, 0, 0, 0), (28, .invokevirtual 109, 3, 170, 129, 1301), (31, .iconst 1, 1, 0, 0, 0), (32, .isub, 1, 0, 0, 0), (33, .imul, 1, 0, 0, 0), (34, .istore_n 3, 1, 0, 0, 0), (35, .aload_n 0, 1, 0, 0, 0), (36, .getfield 65, 3, 8, 20, 1193), (39, .iload_n 1, 1, 0, 0, 0), (40, .baload, 1, 0, 0, 0), (41, .ifCond .eq 19, 3, 40, 0, 0), (44, .iload_n 3, 1, 0, 0, 0), (45, .aload_n 0, 1, 0, 0, 0), (46, .getfield 62, 3, 8, 19, 1192), (49, .iconst 2, 1, 0, 0, 0), (50, .iload_n 1, 1, 0, 0, 0), (51, .imul, 1, 0, 0, 0), (52, .iload_n 2, 1, 0, 0, 0), (53, .iadd, 1, 0, 0, 0), (54, .iaload, 1, 0, 0, 0), (55, .imul, 1, 0, 0, 0), (56, .bipush 100, 2, 0, 0, 0), (58, .idiv, 1, 0, 0, 0), (59, .ireturn, 1, 0, 0, 0), (60, .iconst 0, 1, 0, 0, 0), (61, .istore 4, 2, 0, 0, 0), (63, .iconst 0, 1, 0, 0, 0), (64, .istore 5, 2, 0, 0, 0), (66, .iload 5, 2, 0, 0, 0), (68, .aload_n 0, 1, 0, 0, 0), (69, .getfield 103, 3, 8, 1, 1174), (72, .if_icmp .ge 92, 3, 94, 0, 0), (75, .iload 5, 2, 0, 0, 0), (77, .iload_n 1, 1, 0, 0, 0), (78, .if_icmp .eq 80, 3, 92, 0, 0), (81, .aload_n 0, 1, 0, 0, 0), (82, .getfield 38, 3, 8, 11, 1184), (85, .iload 5, 2, 0, 0, 0), (87, .iaload, 1, 0, 0, 0), (88, .aload_n 0, 1, 0, 0, 0), (89, .getfield 38, 3, 8, 11, 1184), (92, .iload_n 1, 1, 0, 0, 0), (93, .iaload, 1, 0, 0, 0), (94, .if_icmp .eq 6, 3, 61, 0, 0), (97, .goto 61, 3, 92, 0, 0), (100, .iload 4, 2, 0, 0, 0), (102, .aload_n 0, 1, 0, 0, 0), (103, .getfield 65, 3, 8, 20, 1193), (106, .iload 5, 2, 0, 0, 0), (108, .baload, 1, 0, 0, 0), (109, .ifCond .ne 19, 3, 76, 0, 0), (112, .aload_n 0, 1, 0, 0, 0), (113, .getfield 59, 3, 8, 18, 1191), (116, .iload 5, 2, 0, 0, 0), (118, .iaload, 1, 0, 0, 0), (119, .aload_n 0, 1, 0, 0, 0), (120, .getfield 59, 3, 8, 18, 1191), (123, .iload_n 1, 1, 0, 0, 0), (124, .iaload, 1, 0, 0, 0), (125, .if_icmp .ne 8, 3, 78, 0, 0), (128, .bipush 10, 2, 0, 0, 0), (130, .goto 25, 3, 90, 0, 0), (133, .aload_n 0, 1, 0, 0, 0), (134, .getfield 59, 3, 8, 18, 1191), (137, .iload 5, 2, 0, 0, 0), (139, .iaload, 1, 0, 0, 0), (140, .aload_n 0, 1, 0, 0, 0), (141, .getfield 59, 3, 8, 18, 1191), (144, .iload_n 1, 1, 0, 0, 0), (145, .iaload, 1, 0, 0, 0), (146, .if_icmp .ge 8, 3, 89, 0, 0), (149, .bipush 20, 2, 0, 0, 0), (151, .goto 4, 3, 90, 0, 0), (154, .iconst 0, 1, 0, 0, 0), (155, .iadd, 1, 0, 0, 0), (156, .istore 4, 2, 0, 0, 0), (158, .iinc 5 1, 3, 0, 0, 0), (161, .goto (-95), 3, 44, 0, 0), (164, .iload_n 2, 1, 0, 0, 0), (165, .ifCond .ne 8, 3, 98, 0, 0), (168, .iload 4, 2, 0, 0, 0), (170, .goto 7, 3, 101, 0, 0), (173, .iload_n 3, 1, 0, 0, 0), (174, .iload 4, 2, 0, 0, 0), (176, .isub, 1, 0, 0, 0), (177, .ireturn, 1, 0, 0, 0)]
def cd_216 : List aE := [(0, .iconst 0, 1, 0, 0, 0), (1, .istore_n 2, 1, 0, 0, 0), (2, .iload_n 2, 1, 0, 0, 0), (3, .aload_n 0, 1, 0, 0, 0), (4, .getfield 103, 3, 8, 1, 1174), (7, .if_icmp .ge 37, 3, 28, 0, 0), (10, .aload_n 0, 1, 0, 0, 0), (11, .getfield 41, 3, 8, 12, 1185), (14, .iconst 2, 1, 0, 0, 0), (15, .iload_n 2, 1, 0, 0, 0), (16, .imul, 1, 0, 0, 0), (17, .iaload, 1, 0, 0, 0), (18, .iload_n 1, 1, 0, 0, 0), (19, .if_icmp .eq 17, 3, 24, 0, 0), (22, .aload_n 0, 1, 0, 0, 0), (23, .getfield 41, 3, 8, 12, 1185), (26, .iconst 2, 1, 0, 0, 0), (27, .iload_n 2, 1, 0, 0, 0), (28, .imul, 1, 0, 0, 0), (29, .iconst 1, 1, 0, 0, 0), (30, .iadd, 1, 0, 0, 0), (31, .iaload, 1, 0, 0, 0), (32, .iload_n 1, 1, 0, 0, 0), (33, .if_icmp .ne 5, 3, 26, 0, 0), (36, .iconst 1, 1, 0, 0, 0), (37, .ireturn, 1, 0, 0, 0), (38, .iinc 2 1, 3, 0, 0, 0), (41, .goto (-39), 3, 2, 0, 0), (44, .iconst 0, 1, 0, 0, 0), (45, .ireturn, 1, 0, 0, 0)]
def cd_217 : List aE := [(0, .aload_n 0, 1, 0, 0, 0), (1, .iload_n 1, 1, 0, 0, 0), (2, .invokevirtual 225, 3, 216, 129, 1495), (5, .ifCond .ne 5, 3, 6, 0, 0), (8, .iconst (-1), 1, 0, 0, 0), (9, .ireturn, 1, 0, 0, 0), (10, .iconst 0, 1, 0, 0, 0), (11, .istore_n 2, 1, 0, 0, 0), (12, .iconst 0, 1, 0, 0, 0), (13, .istore_n 3, 1, 0, 0, 0), (14, .iload_n 3, 1, 0, 0, 0), (15, .aload_n 0, 1, 0, 0, 0), (16, .getfield 103, 3, 8, 1, 1174), (19, .if_icmp .ge 53, 3, 48, 0, 0), (22, .aload_n 0, 1, 0, 0, 0), (23, .getfield 41, 3, 8, 12, 1185), (26, .iconst 2, 1, 0, 0, 0), (27, .iload_n 3, 1, 0, 0, 0), (28, .imul, 1, 0, 0, 0), (29, .iaload, 1, 0, 0, 0), (30, .iload_n 1, 1, 0, 0, 0), (31, .if_icmp .ne 12, 3, 29, 0, 0), (34, .iload_n 2, 1, 0, 0, 0), (35, .aload_n 0, 1, 0, 0, 0), (36, .iload_n 3, 1, 0, 0, 0), (37, .iconst 0, 1, 0, 0, 0), (38, .invokevirtual 228, 3, 215, 130, 1499), (41, .iadd, 1, 0, 0, 0), (42, .istore_n 2, 1, 0, 0, 0), (43, .aload_n 0, 1, 0, 0, 0), (44, .getfield 41, 3, 8, 12, 1185), (47, .iconst 2, 1, 0, 0, 0), (48, .iload_n 3, 1, 0, 0, 0), (49, .imul, 1, 0, 0, 0), (50, .iconst 1, 1, 0, 0, 0), (51, .iadd, 1, 0, 0, 0), (52, .iaload, 1, 0, 0, 0), (53, .iload_n 1, 1, 0, 0, 0), (54, .if_icmp .ne 12, 3, 46, 0, 0), (57, .iload_n 2, 1, 0, 0, 0), (58, .aload_n 0, 1, 0, 0, 0), (59, .iload_n 3, 1, 0, 0, 0), (60, .iconst 1, 1, 0, 0, 0), (61, .invokevirtual 228, 3, 215, 130, 1499), (64, .iadd, 1, 0, 0, 0), (65, .istore_n 2, 1, 0, 0, 0), (66, .iinc 3 1, 3, 0, 0, 0), (69, .goto (-55), 3, 10, 0, 0), (72, .iload_n 2, 1, 0, 0, 0), (73, .ireturn, 1, 0, 0, 0)]
def cd_218 : List aE := [(0, .aload_n 0, 1, 0, 0, 0), (1, .iload_n 1, 1, 0, 0, 0), (2, .invokevirtual 225, 3, 216, 129, 1495), (5, .ifCond .ne 5, 3, 6, 0, 0), (8, .iconst (-1), 1, 0, 0, 0), (9, .ireturn, 1, 0, 0, 0), (10, .iconst 0, 1, 0, 0, 0), (11, .istore_n 2, 1, 0, 0, 0), (12, .iconst 0, 1, 0, 0, 0), (13, .istore_n 3, 1, 0, 0, 0), (14, .iload_n 3, 1, 0, 0, 0), (15, .aload_n 0, 1, 0, 0, 0), (16, .getfield 103, 3, 8, 1, 1174), (19, .if_icmp .ge 53, 3, 47, 0, 0), (22, .aload_n 0, 1, 0, 0, 0), (23, .getfield 41, 3, 8, 12, 1185), (26, .iconst 2, 1, 0, 0, 0), (27, .iload_n 3, 1, 0, 0, 0), (28, .imul, 1, 0, 0, 0), (29, .iaload, 1, 0, 0, 0), (30, .iload_n 1, 1, 0, 0, 0), (31, .if_icmp .eq 17, 3, 32, 0, 0), (34, .aload_n 0, 1, 0, 0, 0), (35, .getfield 41, 3, 8, 12, 1185), (38, .iconst 2, 1, 0, 0, 0), (39, .iload_n 3, 1, 0, 0, 0), (40, .imul, 1, 0, 0, 0), (41, .iconst 1, 1, 0, 0, 0), (42, .iadd, 1, 0, 0, 0), (43, .iaload, 1, 0, 0, 0), (44, .iload_n 1, 1, 0, 0, 0), (45, .if_icmp .ne 21, 3, 45, 0, 0), (48, .iload_n 2, 1, 0, 0, 0), (49, .bipush 20, 2, 0, 0, 0), (51, .aload_n 0, 1, 0, 0, 0), (52, .aload_n 0, 1, 0, 0, 0), (53, .getfield 38, 3, 8, 11, 1184), (56, .iload_n 3, 1, 0, 0, 0), (57, .iaload, 1, 0, 0, 0), (58, .invokevirtual 109, 3, 170, 129, 1301), (61, .iconst 1, 1, 0, 0, 0), (62, .isub, 1, 0, 0, 0), (63, .imul, 1, 0, 0, 0), (64, .iadd, 1, 0, 0, 0), (65, .istore_n 2, 1, 0, 0, 0), (66, .iinc 3 1, 3, 0, 0, 0), (69, .goto (-55), 3, 10, 0, 0), (72, .iload_n 2, 1, 0, 0, 0), (73, .ireturn, 1, 0, 0, 0)]
def cd_219 : List aE := [(0, .aload_n 0, 1, 0, 0, 0), (1, .iload_n 1, 1, 0, 0, 0), (2, .invokevirtual 225, 3, 216, 129, 1495), (5, .ifCond .ne 5, 3, 6, 0, 0), (8, .iconst (-1), 1, 0, 0, 0), (9, .ireturn, 1, 0, 0, 0), (10, .iconst 1, 1, 0, 0, 0), (11, .istore_n 2, 1, 0, 0, 0), (12, .aload_n 0, 1, 0, 0, 0), (13, .iload_n 1, 1, 0, 0, 0), (14, .invokevirtual 231, 3, 217, 129, 1508), (17, .i2l, 1, 0, 0, 0), (18, .lstore_n 3, 1, 0, 0, 0), (19, .aload_n 0, 1, 0, 0, 0), (20, .iload_n 1, 1, 0, 0, 0), (21, .invokevirtual 234, 3, 218, 129, 1509), (24, .i2l, 1, 0, 0, 0), (25, .lstore 5, 2, 0, 0, 0), (27, .lload 5, 2, 0, 0, 0), (29, .lconst 0, 1, 0, 0, 0), (30, .lcmp, 1, 0, 0, 0), (31, .ifCond .ne 10, 3, 26, 0, 0), (34, .lconst 1, 1, 0, 0, 0), (35, .lstore_n 3, 1, 0, 0, 0), (36, .ldc2_w 237, 3, 2, 0, 1510), (39, .lstore 5, 2, 0, 0, 0), (41, .iconst 0, 1, 0, 0, 0), (42, .istore 7, 2, 0, 0, 0), (44, .iload 7, 2, 0, 0, 0), (46, .bipush 40, 2, 0, 0, 0), (48, .if_icmp .ge 76, 3, 68, 0, 0), (51, .iload 7, 2, 0, 0, 0), (53, .iload_n 1, 1, 0, 0, 0), (54, .if_icmp .eq 64, 3, 66, 0, 0), (57, .aload_n 0, 1, 0, 0, 0), (58, .iload 7, 2, 0, 0, 0), (60, .invokevirtual 225, 3, 216, 129, 1495), (63, .ifCond .ne 6, 3, 39, 0, 0), (66, .goto 52, 3, 66, 0, 0), (69, .aload_n 0, 1, 0, 0, 0), (70, .iload 7, 2, 0, 0, 0), (72, .invokevirtual 231, 3, 217, 129, 1508), (75, .i2l, 1, 0, 0, 0), (76, .lstore 8, 2, 0, 0, 0), (78, .aload_n 0, 1, 0, 0, 0), (79, .iload 7, 2, 0, 0, 0), (81, .invokevirtual 234, 3, 218, 129, 1509), (84, .i2l, 1, 0, 0, 0), (85, .lstore 10, 2, 0, 0, 0), (87, .lload 10, 2, 0, 0, 0), (89, .lconst 0, 1, 0, 0, 0), (90, .lcmp, 1, 0, 0, 0), (91, .ifCond .ne 11, 3, 57, 0, 0), (94, .lconst 1, 1, 0, 0, 0), (95, .lstore 8, 2, 0, 0, 0), (97, .ldc2_w 237, 3, 2, 0, 1510), (100, .lstore 10, 2, 0, 0, 0), (102, .lload 8, 2, 0, 0, 0), (104, .lload 5, 2, 0, 0, 0), (106, .lmul, 1, 0, 0, 0), (107, .lload_n 3, 1, 0, 0, 0), (108, .lload 10, 2, 0, 0, 0), (110, .lmul, 1, 0, 0, 0), (111, .lcmp, 1, 0, 0, 0), (112, .ifCond .le 6, 3, 66, 0, 0), (115, .iinc 2 1, 3, 0, 0, 0), (118, .iinc 7 1, 3, 0, 0, 0), (121, .goto (-77), 3, 28, 0, 0), (124, .iload_n 2, 1, 0, 0, 0), (125, .ireturn, 1, 0, 0, 0)]
def cd_220 : List aE := [(0, .iload_n 1, 1, 0, 0, 0), (1, .iconst 3, 1, 0, 0, 0), (2, .bipush 10, 2, 0, 0, 0), (4, .invokestatic 88, 3, 159, 3, 1281), (7, .ifCond .eq 37, 3, 27, 0, 0), (10, .iload_n 2, 1, 0, 0, 0), (11, .iconst 0, 1, 0, 0, 0), (12, .iload_n 1, 1, 0, 0, 0), (13, .iconst 2, 1, 0, 0, 0), (14, .irem, 1, 0, 0, 0), (15, .ifCond .ne 9, 3, 15, 0, 0), (18, .iload_n 1, 1, 0, 0, 0), (19, .iconst 2, 1, 0, 0, 0), (20, .isub, 1, 0, 0, 0), (21, .goto 6, 3, 18, 0, 0), (24, .iload_n 1, 1, 0, 0, 0), (25, .iconst 1, 1, 0, 0, 0), (26, .isub, 1, 0, 0, 0), (27, .invokestatic 88, 3, 159, 3, 1281), (30, .ifCond .eq 14, 3, 27, 0, 0), (33, .iload_n 3, 1, 0, 0, 0), (34, .iconst 0, 1, 0, 0, 0), (35, .iload_n 1, 1, 0, 0, 0), (36, .iconst 1, 1, 0, 0, 0), (37, .isub, 1, 0, 0, 0), (38, .invokestatic 88, 3, 159, 3, 1281), (41, .ifCond .ne 5, 3, 29, 0, 0), (44, .iconst (-1), 1, 0, 0, 0), (45, .ireturn, 1, 0, 0, 0), (46, .iload_n 1, 1, 0, 0, 0), (47, .iconst 2, 1, 0, 0, 0), (48, .irem, 1, 0, 0, 0), (49, .ifCond .ne 14, 3, 40, 0, 0), (52, .iload_n 2, 1, 0, 0, 0), (53, .iload_n 1, 1, 0, 0, 0), (54, .iconst 2, 1, 0, 0, 0), (55, .idiv, 1, 0, 0, 0), (56, .if_icmp .lt 7, 3, 40, 0, 0), (59, .iconst 1, 1, 0, 0, 0), (60, .goto 4, 3, 41, 0, 0), (63, .iconst 0, 1, 0, 0, 0), (64, .istore 5, 2, 0, 0, 0), (66, .iload 4, 2, 0, 0, 0), (68, .ifCond .ne 7, 3, 46, 0, 0), (71, .iload_n 3, 1, 0, 0, 0), (72, .goto 41, 3, 69, 0, 0), (75, .iload 4, 2, 0, 0, 0), (77, .iconst 1, 1, 0, 0, 0), (78, .if_icmp .ne 18, 3, 59, 0, 0), (81, .iload_n 1, 1, 0, 0, 0), (82, .iload_n 3, 1, 0, 0, 0), (83, .iload_n 2, 1, 0, 0, 0), (84, .isub, 1, 0, 0, 0), (85, .iload 5, 2, 0, 0, 0), (87, .isub, 1, 0, 0, 0), (88, .iload_n 1, 1, 0, 0, 0), (89, .invokestatic 239, 3, 160, 2, 1515), (92, .iadd, 1, 0, 0, 0), (93, .goto 20, 3, 69, 0, 0), (96, .iload 4, 2, 0, 0, 0), (98, .iconst 2, 1, 0, 0, 0), (99, .if_icmp .ne 13, 3, 68, 0, 0), (102, .iload_n 3, 1, 0, 0, 0), (103, .iload_n 2, 1, 0, 0, 0), (104, .iadd, 1, 0, 0, 0), (105, .iload_n 1, 1, 0, 0, 0), (106, .invokestatic 239, 3, 160, 2, 1515), (109, .goto 4, 3, 69, 0, 0), (112, .iconst (-1), 1, 0, 0, 0), (113, .ireturn, 1, 0, 0, 0)]
def cd_221 : List aE := [(0, .aload_n 0, 1, 0, 0, 0), (1, .getfield 68, 3, 8, 21, 1194), (4, .aload_n 0, 1, 0, 0, 0), (5, .getfield 242, 3, 8, 22, 1195), (8, .iload_n 1, 1, 0, 0, 0), (9, .iastore, 1, 0, 0, 0), (10, .aload_n 0, 1, 0, 0, 0), (11, .dup, 1, 0, 0, 0), (12, .getfield 242, 3, 8, 22, 1195), (15, .iconst 1, 1, 0, 0, 0), (16, .iadd, 1, 0, 0, 0), (17, .putfield 242, 3, 8, 22, 1195), (20, .return_, 1, 0, 0, 0)]
def cd_222 : List aE := [(0, .aload_n 0, 1, 0, 0, 0), (1, .iload_n 1, 1, 0, 0, 0), (2, .invokevirtual 222, 3, 212, 129, 1479), (5, .ifCond .ne 5, 3, 6, 0, 0), (8, .iconst (-1), 1, 0, 0, 0), (9, .ireturn, 1, 0, 0, 0), (10, .aload_n 0, 1, 0, 0, 0), (11, .iconst 0, 1, 0, 0, 0), (12, .putfield 242, 3, 8, 22, 1195), (15, .aload_n 0, 1, 0, 0, 0), (16, .getfield 44, 3, 8, 13, 1186), (19, .iload_n 1, 1, 0, 0, 0), (20, .iaload, 1, 0, 0, 0), (21, .ifCond .ne 29, 3, 28, 0, 0), (24, .aload_n 0, 1, 0, 0, 0), (25, .bipush 112, 2, 0, 0, 0), (27, .invokevirtual 245, 3, 221, 129, 1522), (30, .aload_n 0, 1, 0, 0, 0), (31, .bipush 97, 2, 0, 0, 0), (33, .invokevirtual 245, 3, 221, 129, 1522), (36, .aload_n 0, 1, 0, 0, 0), (37, .bipush 115, 2, 0, 0, 0), (39, .invokevirtual 245, 3, 221, 129, 1522), (42, .aload_n 0, 1, 0, 0, 0), (43, .bipush 115, 2, 0, 0, 0), (45, .invokevirtual 245, 3, 221, 129, 1522), (48, .iconst 4, 1, 0, 0, 0), (49, .ireturn, 1, 0, 0, 0), (50, .aload_n 0, 1, 0, 0, 0), (51, .bipush 48, 2, 0, 0, 0), (53, .aload_n 0, 1, 0, 0, 0), (54, .getfield 44, 3, 8, 13, 1186), (57, .iload_n 1, 1, 0, 0, 0), (58, .iaload, 1, 0, 0, 0), (59, .iadd, 1, 0, 0, 0), (60, .invokevirtual 245, 3, 221, 129, 1522), (63, .aload_n 0, 1, 0, 0, 0), (64, .ldc 248, 2, 10, 1, 0), (66, .aload_n 0, 1, 0, 0, 0), (67, .getfield 47, 3, 8, 14, 1187), (70, .iload_n 1, 1, 0, 0, 0), (71, .iaload, 1, 0, 0, 0), (72, .invokevirtual 250, 3, 254, 145, 1527), (75, .invokevirtual 245, 3, 221, 129, 1522), (78, .iconst 0, 1, 0, 0, 0), (79, .istore_n 2, 1, 0, 0, 0), (80, .iload_n 2, 1, 0, 0, 0), (81, .aload_n 0, 1, 0, 0, 0), (82, .getfield 53, 3, 8, 16, 1189), (85, .iload_n 1, 1, 0, 0, 0), (86, .iaload, 1, 0, 0, 0), (87, .if_icmp .ge 15, 3, 57, 0, 0), (90, .aload_n 0, 1, 0, 0, 0), (91, .bipush 88, 2, 0, 0, 0), (93, .invokevirtual 245, 3, 221, 129, 1522), (96, .iinc 2 1, 3, 0, 0, 0), (99, .goto (-19), 3, 46, 0, 0), (102, .aload_n 0, 1, 0, 0, 0), (103, .bipush 32, 2, 0, 0, 0), (105, .invokevirtual 245, 3, 221, 129, 1522), (108, .aload_n 0, 1, 0, 0, 0), (109, .ldc_w 256, 3, 12, 1, 0), (112, .aload_n 0, 1, 0, 0, 0), (113, .getfield 50, 3, 8, 15, 1188), (116, .iload_n 1, 1, 0, 0, 0), (117, .iaload, 1, 0, 0, 0), (118, .invokevirtual 250, 3, 254, 145, 1527), (121, .invokevirtual 245, 3, 221, 129, 1522), (124, .aload_n 0, 1, 0, 0, 0), (125, .bipush 32, 2, 0, 0, 0), (127, .invokevirtual 245, 3, 221, 129, 1522), (130, .aload_n 0, 1, 0, 0, 0), (131, .getfield 56, 3, 8, 17, 1190), (134, .iload_n 1, 1, 0, 0, 0), (135, .iaload, 1, 0, 0, 0), (136, .aload_n 0, 1, 0, 0, 0), (137, .getfield 44, 3, 8, 13, 1186), (140, .iload_n 1, 1, 0, 0, 0), (141, .iaload, 1, 0, 0, 0), (142, .isub, 1, 0, 0, 0), (143, .bipush 6, 2, 0, 0, 0), (145, .isub, 1, 0, 0, 0), (146, .istore_n 2, 1, 0, 0, 0), (147, .aload_n 0, 1, 0, 0, 0), (148, .iload_n 2, 1, 0, 0, 0), (149, .ifCond .ne 8, 3, 88, 0, 0), (152, .bipush 61, 2, 0, 0, 0), (154, .goto 14, 3, 93, 0, 0), (157, .iload_n 2, 1, 0, 0, 0), (158, .ifCond .le 8, 3, 92, 0, 0), (161, .bipush 43, 2, 0, 0, 0), (163, .goto 5, 3, 93, 0, 0), (166, .bipush 45, 2, 0, 0, 0), (168, .invokevirtual 245, 3, 221, 129, 1522), (171, .iload_n 2, 1, 0, 0, 0), (172, .ifCond .ge 8, 3, 99, 0, 0), (175, .iload_n 2, 1, 0, 0, 0), (176, .ineg, 1, 0, 0, 0), (177, .goto 4, 3, 100, 0, 0), (180, .iload_n 2, 1, 0, 0, 0), (181, .istore_n 3, 1, 0, 0, 0), (182, .iload_n 3, 1, 0, 0, 0), (183, .bipush 9, 2, 0, 0, 0), (185, .if_icmp .le 14, 3, 111, 0, 0), (188, .aload_n 0, 1, 0, 0, 0), (189, .bipush 48, 2, 0, 0, 0), (191, .iload_n 3, 1, 0, 0, 0), (192, .bipush 10, 2, 0, 0, 0), (194, .idiv, 1, 0, 0, 0), (195, .iadd, 1, 0, 0, 0), (196, .invokevirtual 245, 3, 221, 129, 1522), (199, .iload_n 3, 1, 0, 0, 0), (200, .ifCond .le 14, 3, 120, 0, 0), (203, .aload_n 0, 1, 0, 0, 0), (204, .bipush 48, 2, 0, 0, 0), (206, .iload_n 3, 1, 0, 0, 0), (207, .bipush 10, 2, 0, 0, 0), (209, .irem, 1, 0, 0, 0), (210, .iadd, 1, 0, 0, 0), (211, .invokevirtual 245, 3, 221, 129, 1522), (214, .aload_n 0, 1, 0, 0, 0), (215, .getfield 242, 3, 8, 22, 1195), (218, .ireturn, 1, 0, 0, 0)]
def cd_223 : List aE := [(0, .iload_n 1, 1, 0, 0, 0), (1, .iconst 0, 1, 0, 0, 0), (2, .aload_n 0, 1, 0, 0, 0), (3, .getfield 242, 3, 8, 22, 1195), (6, .iconst 1, 1, 0, 0, 0), (7, .isub, 1, 0, 0, 0), (8, .invokestatic 88, 3, 159, 3, 1281), (11, .ifCond .eq 12, 3, 13, 0, 0), (14, .aload_n 0, 1, 0, 0, 0), (15, .getfield 68, 3, 8, 21, 1194), (18, .iload_n 1, 1, 0, 0, 0), (19, .iaload, 1, 0, 0, 0), (20, .goto 4, 3, 14, 0, 0), (23, .iconst (-1), 1, 0, 0, 0), (24, .ireturn, 1, 0, 0, 0)]
def cd_224 : List aE := [(0, .iconst 0, 1, 0, 0, 0), (1, .istore_n 2, 1, 0, 0, 0), (2, .iload_n 1, 1, 0, 0, 0), (3, .tableswitch 104 0 3 #[29, 34, 39, 72], 29, 0, 0, 0), (32, .aload_n 0, 1, 0, 0, 0), (33, .getfield 83, 3, 8, 0, 1173), (36, .ireturn, 1, 0, 0, 0), (37, .aload_n 0, 1, 0, 0, 0), (38, .getfield 103, 3, 8, 1, 1174), (41, .ireturn, 1, 0, 0, 0), (42, .iconst 0, 1, 0, 0, 0), (43, .istore_n 3, 1, 0, 0, 0), (44, .iload_n 3, 1, 0, 0, 0), (45, .bipush 10, 2, 0, 0, 0), (47, .if_icmp .ge 26, 3, 28, 0, 0), (50, .iload_n 2, 1, 0, 0, 0), (51, .aload_n 0, 1, 0, 0, 0), (52, .getfield 17, 3, 8, 4, 1177), (55, .iload_n 3, 1, 0, 0, 0), (56, .iaload, 1, 0, 0, 0), (57, .ifCond .eq 7, 3, 23, 0, 0), (60, .iconst 1, 1, 0, 0, 0), (61, .goto 4, 3, 24, 0, 0), (64, .iconst 0, 1, 0, 0, 0), (65, .iadd, 1, 0, 0, 0), (66, .istore_n 2, 1, 0, 0, 0), (67, .iinc 3 1, 3, 0, 0, 0), (70, .goto (-26), 3, 12, 0, 0), (73, .iload_n 2, 1, 0, 0, 0), (74, .ireturn, 1, 0, 0, 0), (75, .iconst 0, 1, 0, 0, 0), (76, .istore_n 3, 1, 0, 0, 0), (77, .iload_n 3, 1, 0, 0, 0), (78, .bipush 40, 2, 0, 0, 0), (80, .if_icmp .ge 25, 3, 47, 0, 0), (83, .iload_n 2, 1, 0, 0, 0), (84, .aload_n 0, 1, 0, 0, 0), (85, .iload_n 3, 1, 0, 0, 0), (86, .invokevirtual 225, 3, 216, 129, 1495), (89, .ifCond .eq 7, 3, 42, 0, 0), (92, .iconst 1, 1, 0, 0, 0), (93, .goto 4, 3, 43, 0, 0), (96, .iconst 0, 1, 0, 0, 0), (97, .iadd, 1, 0, 0, 0), (98, .istore_n 2, 1, 0, 0, 0), (99, .iinc 3 1, 3, 0, 0, 0), (102, .goto (-25), 3, 32, 0, 0), (105, .iload_n 2, 1, 0, 0, 0), (106, .ireturn, 1, 0, 0, 0), (107, .iconst (-1), 1, 0, 0, 0), (108, .ireturn, 1, 0, 0, 0)]
def cd_225 : List aE := [(0, .new 7, 3, 7, 0, 73), (3, .dup, 1, 0, 0, 0), (4, .invokespecial 9, 3, 107, 0, 75), (7, .astore_n 1, 1, 0, 0, 0), (8, .new 10, 3, 8, 0, 1167), (11, .dup, 1, 0, 0, 0), (12, .invokespecial 12, 3, 158, 0, 1169), (15, .astore_n 2, 1, 0, 0, 0), (16, .iconst 0, 1, 0, 0, 0), (17, .istore_n 3, 1, 0, 0, 0), (18, .iload_n 3, 1, 0, 0, 0), (19, .aload_n 0, 1, 0, 0, 0), (20, .arraylength, 1, 0, 0, 0), (21, .bipush 6, 2, 0, 0, 0), (23, .isub, 1, 0, 0, 0), (24, .if_icmp .gt 1156, 3, 842, 0, 0), (27, .aload_n 0, 1, 0, 0, 0), (28, .iload_n 3, 1, 0, 0, 0), (29, .iaload, 1, 0, 0, 0), (30, .bipush 31, 2, 0, 0, 0), (32, .iand, 1, 0, 0, 0), (33, .tableswitch 1141 0 29 #[135, 158, 201, 234, 267, 320, 353, 386, 419, 442, 465, 498, 531, 564, 597, 640, 683, 706, 729, 762, 805, 884, 917, 950, 973, 996, 1019, 1072, 1095, 1118], 135, 0, 0, 0), (168, .aload_n 1, 1, 0, 0, 0), (169, .aload_n 0, 1, 0, 0, 0), (170, .iload_n 3, 1, 0, 0, 0), (171, .iconst 1, 1, 0, 0, 0), (172, .iadd, 1, 0, 0, 0), (173, .iaload, 1, 0, 0, 0), (174, .invokevirtual 13, 3, 108, 113, 177), (177, .aload_n 2, 1, 0, 0, 0), (178, .aload_n 0, 1, 0, 0, 0), (179, .iload_n 3, 1, 0, 0, 0), (180, .iconst 1, 1, 0, 0, 0), (181, .iadd, 1, 0, 0, 0), (182, .iaload, 1, 0, 0, 0), (183, .invokevirtual 17, 3, 161, 129, 1268), (186, .if_icmp .eq 988, 3, 840, 0, 0), (189, .iconst 0, 1, 0, 0, 0), (190, .ireturn, 1, 0, 0, 0), (191, .aload_n 1, 1, 0, 0, 0), (192, .aload_n 0, 1, 0, 0, 0), (193, .iload_n 3, 1, 0, 0, 0), (194, .iconst 1, 1, 0, 0, 0), (195, .iadd, 1, 0, 0, 0), (196, .iaload, 1, 0, 0, 0), (197, .aload_n 0, 1, 0, 0, 0), (198, .iload_n 3, 1, 0, 0, 0), (199, .iconst 2, 1, 0, 0, 0), (200, .iadd, 1, 0, 0, 0), (201, .iaload, 1, 0, 0, 0), (202, .aload_n 0, 1, 0, 0, 0), (203, .iload_n 3, 1, 0, 0, 0), (204, .iconst 3, 1, 0, 0, 0), (205, .iadd, 1, 0, 0, 0), (206, .iaload, 1, 0, 0, 0), (207, .invokevirtual 18, 3, 109, 115, 212), (210, .aload_n 2, 1, 0, 0, 0), (211, .aload_n 0, 1, 0, 0, 0), (212, .iload_n 3, 1, 0, 0, 0), (213, .iconst 1, 1, 0, 0, 0), (214, .iadd, 1, 0, 0, 0), (215, .iaload, 1, 0, 0, 0), (216, .aload_n 0, 1, 0, 0, 0), (217, .iload_n 3, 1, 0, 0, 0), (218, .iconst 2, 1, 0, 0, 0), (219, .iadd, 1, 0, 0, 0), (220, .iaload, 1, 0, 0, 0), (221, .aload_n 0, 1, 0, 0, 0), (222, .iload_n 3, 1, 0, 0, 0), (223, .iconst 3, 1, 0, 0, 0), (224, .iadd, 1, 0, 0, 0), (225, .iaload, 1, 0, 0, 0), (226, .invokevirtual 22, 3, 164, 131, 1273), (229, .if_icmp .eq 945, 3, 840, 0, 0), (232, .iconst 0, 1, 0, 0, 0), (233, .ireturn, 1, 0, 0, 0), (234, .aload_n 1, 1, 0, 0, 0), (235, .aload_n 0, 1, 0, 0, 0), (236, .iload_n 3, 1, 0, 0, 0), (237, .iconst 1, 1, 0, 0, 0), (238, .iadd, 1, 0, 0, 0), (239, .iaload, 1, 0, 0, 0), (240, .aload_n 0, 1, 0, 0, 0), (241, .iload_n 3, 1, 0, 0, 0), (242, .iconst 2, 1, 0, 0, 0), (243, .iadd, 1, 0, 0, 0), (244, .iaload, 1, 0, 0, 0), (245, .invokevirtual 23, 3, 110, 114, 235), (248, .aload_n 2, 1, 0, 0, 0), (249, .aload_n 0, 1, 0, 0, 0), (250, .iload_n 3, 1, 0, 0, 0), (251, .iconst 1, 1, 0, 0, 0), (252, .iadd, 1, 0, 0, 0), (253, .iaload, 1, 0, 0, 0), (254, .aload_n 0, 1, 0, 0, 0), (255, .iload_n 3, 1, 0, 0, 0), (256, .iconst 2, 1, 0, 0, 0), (257, .iadd, 1, 0, 0, 0), (258, .iaload, 1, 0, 0, 0), (259, .invokevirtual 27, 3, 165, 130, 1287), (262, .if_icmp .eq 912, 3, 840, 0, 0), (265, .iconst 0, 1, 0, 0, 0), (266, .ireturn, 1, 0, 0, 0), (267, .aload_n 1, 1, 0, 0, 0), (268, .aload_n 0, 1, 0, 0, 0), (269, .iload_n 3, 1, 0, 0, 0), (270, .iconst 1, 1, 0, 0, 0), (271, .iadd, 1, 0, 0, 0), (272, .iaload, 1, 0, 0, 0), (273, .aload_n 0, 1, 0, 0, 0), (274, .iload_n 3, 1, 0, 0, 0), (275, .iconst 2, 1, 0, 0, 0), (276, .iadd, 1, 0, 0, 0), (277, .iaload, 1, 0, 0, 0), (278, .invokevirtual 28, 3, 111, 114, 239), (281, .aload_n 2, 1, 0, 0, 0), (282, .aload_n 0, 1, 0, 0, 0), (283, .iload_n 3, 1, 0, 0, 0), (284, .iconst 1, 1, 0, 0, 0), (285, .iadd, 1, 0, 0, 0), (286, .iaload, 1, 0, 0, 0), (287, .aload_n 0, 1, 0, 0, 0), (288, .iload_n 3, 1, 0, 0, 0), (289, .iconst 2, 1, 0, 0, 0), (290, .iadd, 1, 0, 0, 0), (291, .iaload, 1, 0, 0, 0), (292, .invokevirtual 31, 3, 171, 130, 1291), (295, .if_icmp .eq 879, 3, 840, 0, 0), (298, .iconst 0, 1, 0, 0, 0), (299, .ireturn, 1, 0, 0, 0), (300, .aload_n 1, 1, 0, 0, 0), (301, .aload_n 0, 1, 0, 0, 0), (302, .iload_n 3, 1, 0, 0, 0), (303, .iconst 1, 1, 0, 0, 0), (304, .iadd, 1, 0, 0, 0), (305, .iaload, 1, 0, 0, 0), (306, .aload_n 0, 1, 0, 0, 0), (307, .iload_n 3, 1, 0, 0, 0), (308, .iconst 2, 1, 0, 0, 0), (309, .iadd, 1, 0, 0, 0), (310, .iaload, 1, 0, 0, 0), (311, .aload_n 0, 1, 0, 0, 0), (312, .iload_n 3, 1, 0, 0, 0), (313, .iconst 3, 1, 0, 0, 0), (314, .iadd, 1, 0, 0, 0), (315, .iaload, 1, 0, 0, 0), (316, .aload_n 0, 1, 0, 0, 0), (317, .iload_n 3, 1, 0, 0, 0), (318, .iconst 4, 1, 0, 0, 0), (319, .iadd, 1, 0, 0, 0), (320, .iaload, 1, 0, 0, 0), (321, .invokevirtual 32, 3, 112, 116, 275), (324, .aload_n 2, 1, 0, 0, 0), (325, .aload_n 0, 1, 0, 0, 0), (326, .iload_n 3, 1, 0, 0, 0), (327, .iconst 1, 1, 0, 0, 0), (328, .iadd, 1, 0, 0, 0), (329, .iaload, 1, 0, 0, 0), (330, .aload_n 0, 1, 0, 0, 0), (331, .iload_n 3, 1, 0, 0, 0), (332, .iconst 2, 1, 0, 0, 0), (333, .iadd, 1, 0, 0, 0), (334, .iaload, 1, 0, 0, 0), (335, .aload_n 0, 1, 0, 0, 0), (336, .iload_n 3, 1, 0, 0, 0), (337, .iconst 3, 1, 0, 0, 0), (338, .iadd, 1, 0, 0, 0), (339, .iaload, 1, 0, 0, 0), (340, .aload_n 0, 1, 0, 0, 0), (341, .iload_n 3, 1, 0, 0, 0), (342, .iconst 4, 1, 0, 0, 0), (343, .iadd, 1, 0, 0, 0), (344, .iaload, 1, 0, 0, 0), (345, .invokevirtual 36, 3, 174, 132, 1309), (348, .if_icmp .eq 826, 3, 840, 0, 0), (351, .iconst 0, 1, 0, 0, 0), (352, .ireturn, 1, 0, 0, 0), (353, .aload_n 1, 1, 0, 0, 0), (354, .aload_n 0, 1, 0, 0, 0), (355, .iload_n 3, 1, 0, 0, 0), (356, .iconst 1, 1, 0, 0, 0), (357, .iadd, 1, 0, 0, 0), (358, .iaload, 1, 0, 0, 0), (359, .aload_n 0, 1, 0, 0, 0), (360, .iload_n 3, 1, 0, 0, 0), (361, .iconst 2, 1, 0, 0, 0), (362, .iadd, 1, 0, 0, 0), (363, .iaload, 1, 0, 0, 0), (364, .invokevirtual 37, 3, 113, 114, 381), (367, .aload_n 2, 1, 0, 0, 0), (368, .aload_n 0, 1, 0, 0, 0), (369, .iload_n 3, 1, 0, 0, 0), (370, .iconst 1, 1, 0, 0, 0), (371, .iadd, 1, 0, 0, 0), (372, .iaload, 1, 0, 0, 0), (373, .aload_n 0, 1, 0, 0, 0), (374, .iload_n 3, 1, 0, 0, 0), (375, .iconst 2, 1, 0, 0, 0), (376, .iadd, 1, 0, 0, 0), (377, .iaload, 1, 0, 0, 0), (378, .invokevirtual 40, 3, 185, 130, 1321), (381, .if_icmp .eq 793, 3, 840, 0, 0), (384, .iconst 0, 1, 0, 0, 0), (385, .ireturn, 1, 0, 0, 0), (386, .aload_n 1, 1, 0, 0, 0), (387, .aload_n 0, 1, 0, 0, 0), (388, .iload_n 3, 1, 0, 0, 0), (389, .iconst 1, 1, 0, 0, 0), (390, .iadd, 1, 0, 0, 0), (391, .iaload, 1, 0, 0, 0), (392, .aload_n 0, 1, 0, 0, 0), (393, .iload_n 3, 1, 0, 0, 0), (394, .iconst 2, 1, 0, 0, 0), (395, .iadd, 1, 0, 0, 0), (396, .iaload, 1, 0, 0, 0), (397, .invokevirtual 41, 3, 114, 114, 554), (400, .aload_n 2, 1, 0, 0, 0), (401, .aload_n 0, 1, 0, 0, 0), (402, .iload_n 3, 1, 0, 0, 0), (403, .iconst 1, 1, 0, 0, 0), (404, .iadd, 1, 0, 0, 0), (405, .iaload, 1, 0, 0, 0), (406, .aload_n 0, 1, 0, 0, 0), (407, .iload_n 3, 1, 0, 0, 0), (408, .iconst 2, 1, 0, 0, 0), (409, .iadd, 1, 0, 0, 0), (410, .iaload, 1, 0, 0, 0), (411, .invokevirtual 44, 3, 193, 130, 1380), (414, .if_icmp .eq 760, 3, 840, 0, 0), (417, .iconst 0, 1, 0, 0, 0), (418, .ireturn, 1, 0, 0, 0), (419, .aload_n 1, 1, 0, 0, 0), (420, .aload_n 0, 1, 0, 0, 0), (421, .iload_n 3, 1, 0, 0, 0), (422, .iconst 1, 1, 0, 0, 0), (423, .iadd, 1, 0, 0, 0), (424, .iaload, 1, 0, 0, 0), (425, .aload_n 0, 1, 0, 0, 0), (426, .iload_n 3, 1, 0, 0, 0), (427, .iconst 2, 1, 0, 0, 0), (428, .iadd, 1, 0, 0, 0), (429, .iaload, 1, 0, 0, 0), (430, .invokevirtual 45, 3, 115, 114, 641), (433, .aload_n 2, 1, 0, 0, 0), (434, .aload_n 0, 1, 0, 0, 0), (435, .iload_n 3, 1, 0, 0, 0), (436, .iconst 1, 1, 0, 0, 0), (437, .iadd, 1, 0, 0, 0), (438, .iaload, 1, 0, 0, 0), (439, .aload_n 0, 1, 0, 0, 0), (440, .iload_n 3, 1, 0, 0, 0), (441, .iconst 2, 1, 0, 0, 0), (442, .iadd, 1, 0, 0, 0), (443, .iaload, 1, 0, 0, 0), (444, .invokevirtual 49, 3, 194, 130, 1411), (447, .if_icmp .eq 727, 3, 840, 0, 0), (450, .iconst 0, 1, 0, 0, 0), (451, .ireturn, 1, 0, 0, 0), (452, .aload_n 1, 1, 0, 0, 0), (453, .aload_n 0, 1, 0, 0, 0), (454, .iload_n 3, 1, 0, 0, 0), (455, .iconst 1, 1, 0, 0, 0), (456, .iadd, 1, 0, 0, 0), (457, .iaload, 1, 0, 0, 0), (458, .invokevirtual 50, 3, 116, 113, 709), (461, .aload_n 2, 1, 0, 0, 0), (462, .aload_n 0, 1, 0, 0, 0), (463, .iload_n 3, 1, 0, 0, 0), (464, .iconst 1, 1, 0, 0, 0), (465, .iadd, 1, 0, 0, 0), (466, .iaload, 1, 0, 0, 0), (467, .invokevirtual 54, 3, 195, 129, 1431), (470, .if_icmp .eq 704, 3, 840, 0, 0), (473, .iconst 0, 1, 0, 0, 0), (474, .ireturn, 1, 0, 0, 0), (475, .aload_n 1, 1, 0, 0, 0), (476, .aload_n 0, 1, 0, 0, 0), (477, .iload_n 3, 1, 0, 0, 0), (478, .iconst 1, 1, 0, 0, 0), (479, .iadd, 1, 0, 0, 0), (480, .iaload, 1, 0, 0, 0), (481, .invokevirtual 55, 3, 117, 113, 726), (484, .aload_n 2, 1, 0, 0, 0), (485, .aload_n 0, 1, 0, 0, 0), (486, .iload_n 3, 1, 0, 0, 0), (487, .iconst 1, 1, 0, 0, 0), (488, .iadd, 1, 0, 0, 0), (489, .iaload, 1, 0, 0, 0), (490, .invokevirtual 58, 3, 196, 129, 1435), (493, .if_icmp .eq 681, 3, 840, 0, 0), (496, .iconst 0, 1, 0, 0, 0), (497, .ireturn, 1, 0, 0, 0), (498, .aload_n 1, 1, 0, 0, 0), (499, .aload_n 0, 1, 0, 0, 0), (500, .iload_n 3, 1, 0, 0, 0), (501, .iconst 1, 1, 0, 0, 0), (502, .iadd, 1, 0, 0, 0), (503, .iaload, 1, 0, 0, 0), (504, .aload_n 0, 1, 0, 0, 0), (505, .iload_n 3, 1, 0, 0, 0), (506, .iconst 2, 1, 0, 0, 0), (507, .iadd, 1, 0, 0, 0), (508, .iaload, 1, 0, 0, 0), (509, .invokevirtual 59, 3, 118, 114, 730), (512, .aload_n 2, 1, 0, 0, 0), (513, .aload_n 0, 1, 0, 0, 0), (514, .iload_n 3, 1, 0, 0, 0), (515, .iconst 1, 1, 0, 0, 0), (516, .iadd, 1, 0, 0, 0), (517, .iaload, 1, 0, 0, 0), (518, .aload_n 0, 1, 0, 0, 0), (519, .iload_n 3, 1, 0, 0, 0), (520, .iconst 2, 1, 0, 0, 0), (521, .iadd, 1, 0, 0, 0), (522, .iaload, 1, 0, 0, 0), (523, .invokevirtual 62, 3, 198, 130, 1439), (526, .if_icmp .eq 648, 3, 840, 0, 0), (529, .iconst 0, 1, 0, 0, 0), (530, .ireturn, 1, 0, 0, 0), (531, .aload_n 1, 1, 0, 0, 0), (532, .aload_n 0, 1, 0, 0, 0), (533, .iload_n 3, 1, 0, 0, 0), (534, .iconst 1, 1, 0, 0, 0), (535, .iadd, 1, 0, 0, 0), (536, .iaload, 1, 0, 0, 0), (537, .aload_n 0, 1, 0, 0, 0), (538, .iload_n 3, 1, 0, 0, 0), (539, .iconst 2, 1, 0, 0, 0), (540, .iadd, 1, 0, 0, 0), (541, .iaload, 1, 0, 0, 0), (542, .invokevirtual 63, 3, 119, 114, 747), (545, .aload_n 2, 1, 0, 0, 0), (546, .aload_n 0, 1, 0, 0, 0), (547, .iload_n 3, 1, 0, 0, 0), (548, .iconst 1, 1, 0, 0, 0), (549, .iadd, 1, 0, 0, 0), (550, .iaload, 1, 0, 0, 0), (551, .aload_n 0, 1, 0, 0, 0), (552, .iload_n 3, 1, 0, 0, 0), (553, .iconst 2, 1, 0, 0, 0), (554, .iadd, 1, 0, 0, 0), (555, .iaload, 1, 0, 0, 0), (556, .invokevirtual 66, 3, 199, 130, 1443), (559, .if_icmp .eq 615, 3, 840, 0, 0), (562, .iconst 0, 1, 0, 0, 0), (563, .ireturn, 1, 0, 0, 0), (564, .aload_n 1, 1, 0, 0, 0), (565, .aload_n 0, 1, 0, 0, 0), (566, .iload_n 3, 1, 0, 0, 0), (567, .iconst 1, 1, 0, 0, 0), (568, .iadd, 1, 0, 0, 0), (569, .iaload, 1, 0, 0, 0), (570, .aload_n 0, 1, 0, 0, 0), (571, .iload_n 3, 1, 0, 0, 0), (572, .iconst 2, 1, 0, 0, 0), (573, .iadd, 1, 0, 0, 0), (574, .iaload, 1, 0, 0, 0), (575, .invokevirtual 67, 3, 120, 114, 756), (578, .aload_n 2, 1, 0, 0, 0), (579, .aload_n 0, 1, 0, 0, 0), (580, .iload_n 3, 1, 0, 0, 0), (581, .iconst 1, 1, 0, 0, 0), (582, .iadd, 1, 0, 0, 0), (583, .iaload, 1, 0, 0, 0), (584, .aload_n 0, 1, 0, 0, 0), (585, .iload_n 3, 1, 0, 0, 0), (586, .iconst 2, 1, 0, 0, 0), (587, .iadd, 1, 0, 0, 0), (588, .iaload, 1, 0, 0, 0), (589, .invokevirtual 70, 3, 200, 130, 1447), (592, .if_icmp .eq 582, 3, 840, 0, 0), (595, .iconst 0, 1, 0, 0, 0), (596, .ireturn, 1, 0, 0, 0), (597, .aload_n 1, 1, 0, 0, 0), (598, .aload_n 0, 1, 0, 0, 0), (599, .iload_n 3, 1, 0, 0, 0), (600, .iconst 1, 1, 0, 0, 0), (601, .iadd, 1, 0, 0, 0), (602, .iaload, 1, 0, 0, 0), (603, .aload_n 0, 1, 0, 0, 0), (604, .iload_n 3, 1, 0, 0, 0), (605, .iconst 2, 1, 0, 0, 0), (606, .iadd, 1, 0, 0, 0), (607, .iaload, 1, 0, 0, 0), (608, .invokevirtual 71, 3, 121, 114, 765), (611, .aload_n 2, 1, 0, 0, 0), (612, .aload_n 0, 1, 0, 0, 0), (613, .iload_n 3, 1, 0, 0, 0), (614, .iconst 1, 1, 0, 0, 0), (615, .iadd, 1, 0, 0, 0), (616, .iaload, 1, 0, 0, 0), (617, .aload_n 0, 1, 0, 0, 0), (618, .iload_n 3, 1, 0, 0, 0), (619, .iconst 2, 1, 0, 0, 0), (620, .iadd, 1, 0, 0, 0), (621, .iaload, 1, 0, 0, 0), (622, .invokevirtual 74, 3, 201, 130, 1451), (625, .if_icmp .eq 549, 3, 840, 0, 0), (628, .iconst 0, 1, 0, 0, 0), (629, .ireturn, 1, 0, 0, 0), (630, .aload_n 1, 1, 0, 0, 0), (631, .aload_n 0, 1, 0, 0, 0), (632, .iload_n 3, 1, 0, 0, 0), (633, .iconst 1, 1, 0, 0, 0), (634, .iadd, 1, 0, 0, 0), (635, .iaload, 1, 0, 0, 0), (636, .aload_n 0, 1, 0, 0, 0), (637, .iload_n 3, 1, 0, 0, 0), (638, .iconst 2, 1, 0, 0, 0), (639, .iadd, 1, 0, 0, 0), (640, .iaload, 1, 0, 0, 0), (641, .aload_n 0, 1, 0, 0, 0), (642, .iload_n 3, 1, 0, 0, 0), (643, .iconst 3, 1, 0, 0, 0), (644, .iadd, 1, 0, 0, 0), (645, .iaload, 1, 0, 0, 0), (646, .invokevirtual 75, 3, 122, 115, 769), (649, .aload_n 2, 1, 0, 0, 0), (650, .aload_n 0, 1, 0, 0, 0), (651, .iload_n 3, 1, 0, 0, 0), (652, .iconst 1, 1, 0, 0, 0), (653, .iadd, 1, 0, 0, 0), (654, .iaload, 1, 0, 0, 0), (655, .aload_n 0, 1, 0, 0, 0), (656, .iload_n 3, 1, 0, 0, 0), (657, .iconst 2, 1, 0, 0, 0), (658, .iadd, 1, 0, 0, 0), (659, .iaload, 1, 0, 0, 0), (660, .aload_n 0, 1, 0, 0, 0), (661, .iload_n 3, 1, 0, 0, 0), (662, .iconst 3, 1, 0, 0, 0), (663, .iadd, 1, 0, 0, 0), (664, .iaload, 1, 0, 0, 0), (665, .invokevirtual 78, 3, 202, 131, 1455), (668, .if_icmp .eq 506, 3, 840, 0, 0), (671, .iconst 0, 1, 0, 0, 0), (672, .ireturn, 1, 0, 0, 0), (673, .aload_n 1, 1, 0, 0, 0), (674, .aload_n 0, 1, 0, 0, 0), (675, .iload_n 3, 1, 0, 0, 0), (676, .iconst 1, 1, 0, 0, 0), (677, .iadd, 1, 0, 0, 0), (678, .iaload, 1, 0, 0, 0), (679, .aload_n 0, 1, 0, 0, 0), (680, .iload_n 3, 1, 0, 0, 0), (681, .iconst 2, 1, 0, 0, 0), (682, .iadd, 1, 0, 0, 0), (683, .iaload, 1, 0, 0, 0), (684, .aload_n 0, 1, 0, 0, 0), (685, .iload_n 3, 1, 0, 0, 0), (686, .iconst 3, 1, 0, 0, 0), (687, .iadd, 1, 0, 0, 0), (688, .iaload, 1, 0, 0, 0), (689, .invokevirtual 79, 3, 123, 115, 783), (692, .aload_n 2, 1, 0, 0, 0), (693, .aload_n 0, 1, 0, 0, 0), (694, .iload_n 3, 1, 0, 0, 0), (695, .iconst 1, 1, 0, 0, 0), (696, .iadd, 1, 0, 0, 0), (697, .iaload, 1, 0, 0, 0), (698, .aload_n 0, 1, 0, 0, 0), (699, .iload_n 3, 1, 0, 0, 0), (700, .iconst 2, 1, 0, 0, 0), (701, .iadd, 1, 0, 0, 0), (702, .iaload, 1, 0, 0, 0), (703, .aload_n 0, 1, 0, 0, 0), (704, .iload_n 3, 1, 0, 0, 0), (705, .iconst 3, 1, 0, 0, 0), (706, .iadd, 1, 0, 0, 0), (707, .iaload, 1, 0, 0, 0), (708, .invokevirtual 82, 3, 203, 131, 1459), (711, .if_icmp .eq 463, 3, 840, 0, 0), (714, .iconst 0, 1, 0, 0, 0), (715, .ireturn, 1, 0, 0, 0), (716, .aload_n 1, 1, 0, 0, 0), (717, .aload_n 0, 1, 0, 0, 0), (718, .iload_n 3, 1, 0, 0, 0), (719, .iconst 1, 1, 0, 0, 0), (720, .iadd, 1, 0, 0, 0), (721, .iaload, 1, 0, 0, 0), (722, .invokevirtual 83, 3, 124, 113, 795), (725, .aload_n 2, 1, 0, 0, 0), (726, .aload_n 0, 1, 0, 0, 0), (727, .iload_n 3, 1, 0, 0, 0), (728, .iconst 1, 1, 0, 0, 0), (729, .iadd, 1, 0, 0, 0), (730, .iaload, 1, 0, 0, 0), (731, .invokevirtual 86, 3, 207, 129, 1463), (734, .if_icmp .eq 440, 3, 840, 0, 0), (737, .iconst 0, 1, 0, 0, 0), (738, .ireturn, 1, 0, 0, 0), (739, .aload_n 1, 1, 0, 0, 0), (740, .aload_n 0, 1, 0, 0, 0), (741, .iload_n 3, 1, 0, 0, 0), (742, .iconst 1, 1, 0, 0, 0), (743, .iadd, 1, 0, 0, 0), (744, .iaload, 1, 0, 0, 0), (745, .invokevirtual 87, 3, 125, 113, 799), (748, .aload_n 2, 1, 0, 0, 0), (749, .aload_n 0, 1, 0, 0, 0), (750, .iload_n 3, 1, 0, 0, 0), (751, .iconst 1, 1, 0, 0, 0), (752, .iadd, 1, 0, 0, 0), (753, .iaload, 1, 0, 0, 0), (754, .invokevirtual 90, 3, 208, 129, 1464), (757, .if_icmp .eq 417, 3, 840, 0, 0), (760, .iconst 0, 1, 0, 0, 0), (761, .ireturn, 1, 0, 0, 0), (762, .aload_n 1, 1, 0, 0, 0), (763, .aload_n 0, 1, 0, 0, 0), (764, .iload_n 3, 1, 0, 0, 0), (765, .iconst 1, 1, 0, 0, 0), (766, .iadd, 1, 0, 0, 0), (767, .iaload, 1, 0, 0, 0), (768, .aload_n 0, 1, 0, 0, 0), (769, .iload_n 3, 1, 0, 0, 0), (770, .iconst 2, 1, 0, 0, 0), (771, .iadd, 1, 0, 0, 0), (772, .iaload, 1, 0, 0, 0), (773, .invokevirtual 91, 3, 126, 114, 810), (776, .aload_n 2, 1, 0, 0, 0), (777, .aload_n 0, 1, 0, 0, 0), (778, .iload_n 3, 1, 0, 0, 0), (779, .iconst 1, 1, 0, 0, 0), (780, .iadd, 1, 0, 0, 0), (781, .iaload, 1, 0, 0, 0), (782, .aload_n 0, 1, 0, 0, 0), (783, .iload_n 3, 1, 0, 0, 0), (784, .iconst 2, 1, 0, 0, 0), (785, .iadd, 1, 0, 0, 0), (786, .iaload, 1, 0, 0, 0), (787, .invokevirtual 94, 3, 213, 130, 1475), (790, .if_icmp .eq 384, 3, 840, 0, 0), (793, .iconst 0, 1, 0, 0, 0), (794, .ireturn, 1, 0, 0, 0), (795, .aload_n 1, 1, 0, 0, 0), (796, .aload_n 0, 1, 0, 0, 0), (797, .iload_n 3, 1, 0, 0, 0), (798, .iconst 1, 1, 0, 0, 0), (799, .iadd, 1, 0, 0, 0), (800, .iaload, 1, 0, 0, 0), (801, .aload_n 0, 1, 0, 0, 0), (802, .iload_n 3, 1, 0, 0, 0), (803, .iconst 2, 1, 0, 0, 0), (804, .iadd, 1, 0, 0, 0), (805, .iaload, 1, 0, 0, 0), (806, .aload_n 0, 1, 0, 0, 0), (807, .iload_n 3, 1, 0, 0, 0), (808, .iconst 3, 1, 0, 0, 0), (809, .iadd, 1, 0, 0, 0), (810, .iaload, 1, 0, 0, 0), (811, .invokevirtual 95, 3, 127, 115, 819), (814, .aload_n 2, 1, 0, 0, 0), (815, .aload_n 0, 1, 0, 0, 0), (816, .iload_n 3, 1, 0, 0, 0), (817, .iconst 1, 1, 0, 0, 0), (818, .iadd, 1, 0, 0, 0), (819, .iaload, 1, 0, 0, 0), (820, .aload_n 0, 1, 0, 0, 0), (821, .iload_n 3, 1, 0, 0, 0), (822, .iconst 2, 1, 0, 0, 0), (823, .iadd, 1, 0, 0, 0), (824, .iaload, 1, 0, 0, 0), (825, .aload_n 0, 1, 0, 0, 0), (826, .iload_n 3, 1, 0, 0, 0), (827, .iconst 3, 1, 0, 0, 0), (828, .iadd, 1, 0, 0, 0), (829, .iaload, 1, 0, 0, 0), (830, .invokevirtual 98, 3, 214, 131, 1483), (833, .if_icmp .eq 341, 3, 840, 0, 0), (836, .iconst 0, 1, 0, 0, 0), (837, .ireturn, 1, 0, 0, 0), (838, .aload_n 1, 1, 0, 0, 0), (839, .aload_n 0, 1, 0, 0, 0), (840, .iload_n 3, 1, 0, 0, 0), (841, .iconst 1, 1, 0, 0, 0), (842, .iadd, 1, 0, 0, 0), (843, .iaload, 1, 0, 0, 0), (844, .aload_n 0, 1, 0, 0, 0), (845, .iload_n 3, 1, 0, 0, 0), (846, .iconst 2, 1, 0, 0, 0), (847, .iadd, 1, 0, 0, 0), (848, .iaload, 1, 0, 0, 0), (849, .aload_n 0, 1, 0, 0, 0), (850, .iload_n 3, 1, 0, 0, 0), (851, .iconst 3, 1, 0, 0, 0), (852, .iadd, 1, 0, 0, 0), (853, .iaload, 1, 0, 0, 0), (854, .aload_n 0, 1, 0, 0, 0), (855, .iload_n 3, 1, 0, 0, 0), (856, .iconst 4, 1, 0, 0, 0), (857, .iadd, 1, 0, 0, 0), (858, .iaload, 1, 0, 0, 0), (859, .ifCond .eq 7, 3, 596, 0, 0), (862, .iconst 1, 1, 0, 0, 0), (863, .goto 4, 3, 597, 0, 0), (866, .iconst 0, 1, 0, 0, 0), (867, .aload_n 0, 1, 0, 0, 0), (868, .iload_n 3, 1, 0, 0, 0), (869, .iconst 5, 1, 0, 0, 0), (870, .iadd, 1, 0, 0, 0), (871, .iaload, 1, 0, 0, 0), (872, .invokevirtual 99, 3, 128, 117, 830), (875, .aload_n 2, 1, 0, 0, 0), (876, .aload_n 0, 1, 0, 0, 0), (877, .iload_n 3, 1, 0, 0, 0), (878, .iconst 1, 1, 0, 0, 0), (879, .iadd, 1, 0, 0, 0), (880, .iaload, 1, 0, 0, 0), (881, .aload_n 0, 1, 0, 0, 0), (882, .iload_n 3, 1, 0, 0, 0), (883, .iconst 2, 1, 0, 0, 0), (884, .iadd, 1, 0, 0, 0), (885, .iaload, 1, 0, 0, 0), (886, .aload_n 0, 1, 0, 0, 0), (887, .iload_n 3, 1, 0, 0, 0), (888, .iconst 3, 1, 0, 0, 0), (889, .iadd, 1, 0, 0, 0), (890, .iaload, 1, 0, 0, 0), (891, .aload_n 0, 1, 0, 0, 0), (892, .iload_n 3, 1, 0, 0, 0), (893, .iconst 4, 1, 0, 0, 0), (894, .iadd, 1, 0, 0, 0), (895, .iaload, 1, 0, 0, 0), (896, .ifCond .eq 7, 3, 627, 0, 0), (899, .iconst 1, 1, 0, 0, 0), (900, .goto 4, 3, 628, 0, 0), (903, .iconst 0, 1, 0, 0, 0), (904, .aload_n 0, 1, 0, 0, 0), (905, .iload_n 3, 1, 0, 0, 0), (906, .iconst 5, 1, 0, 0, 0), (907, .iadd, 1, 0, 0, 0), (908, .iaload, 1, 0, 0, 0), (909, .invokevirtual 103, 3, 209, 133, 1468), (912, .if_icmp .eq 262, 3, 840, 0, 0), (915, .iconst 0, 1, 0, 0, 0), (916, .ireturn, 1, 0, 0, 0), (917, .aload_n 1, 1, 0, 0, 0), (918, .aload_n 0, 1, 0, 0, 0), (919, .iload_n 3, 1, 0, 0, 0), (920, .iconst 1, 1, 0, 0, 0), (921, .iadd, 1, 0, 0, 0), (922, .iaload, 1, 0, 0, 0), (923, .aload_n 0, 1, 0, 0, 0), (924, .iload_n 3, 1, 0, 0, 0), (925, .iconst 2, 1, 0, 0, 0), (926, .iadd, 1, 0, 0, 0), (927, .iaload, 1, 0, 0, 0), (928, .invokevirtual 104, 3, 129, 114, 835), (931, .aload_n 2, 1, 0, 0, 0), (932, .aload_n 0, 1, 0, 0, 0), (933, .iload_n 3, 1, 0, 0, 0), (934, .iconst 1, 1, 0, 0, 0), (935, .iadd, 1, 0, 0, 0), (936, .iaload, 1, 0, 0, 0), (937, .aload_n 0, 1, 0, 0, 0), (938, .iload_n 3, 1, 0, 0, 0), (939, .iconst 2, 1, 0, 0, 0), (940, .iadd, 1, 0, 0, 0), (941, .iaload, 1, 0, 0, 0), (942, .invokevirtual 107, 3, 211, 130, 1469), (945, .if_icmp .eq 229, 3, 840, 0, 0), (948, .iconst 0, 1, 0, 0, 0), (949, .ireturn, 1, 0, 0, 0), (950, .aload_n 1, 1, 0, 0, 0), (951, .aload_n 0, 1, 0, 0, 0), (952, .iload_n 3, 1, 0, 0, 0), (953, .iconst 1, 1, 0, 0, 0), (954, .iadd, 1, 0, 0, 0), (955, .iaload, 1, 0, 0, 0), (956, .aload_n 0, 1, 0, 0, 0), (957, .iload_n 3, 1, 0, 0, 0), (958, .iconst 2, 1, 0, 0, 0), (959, .iadd, 1, 0, 0, 0), (960, .iaload, 1, 0, 0, 0), (961, .invokevirtual 108, 3, 130, 114, 844), (964, .aload_n 2, 1, 0, 0, 0), (965, .aload_n 0, 1, 0, 0, 0), (966, .iload_n 3, 1, 0, 0, 0), (967, .iconst 1, 1, 0, 0, 0), (968, .iadd, 1, 0, 0, 0), (969, .iaload, 1, 0, 0, 0), (970, .aload_n 0, 1, 0, 0, 0), (971, .iload_n 3, 1, 0, 0, 0), (972, .iconst 2, 1, 0, 0, 0), (973, .iadd, 1, 0, 0, 0), (974, .iaload, 1, 0, 0, 0), (975, .invokevirtual 111, 3, 215, 130, 1487), (978, .if_icmp .eq 196, 3, 840, 0, 0), (981, .iconst 0, 1, 0, 0, 0), (982, .ireturn, 1, 0, 0, 0), (983, .aload_n 1, 1, 0, 0, 0), (984, .aload_n 0, 1, 0, 0, 0), (985, .iload_n 3, 1, 0, 0, 0), (986, .iconst 1, 1, 0, 0, 0), (987, .iadd, 1, 0, 0, 0), (988, .iaload, 1, 0, 0, 0), (989, .invokevirtual 112, 3, 131, 113, 871), (992, .aload_n 2, 1, 0, 0, 0), (993, .aload_n 0, 1, 0, 0, 0), (994, .iload_n 3, 1, 0, 0, 0), (995, .iconst 1, 1, 0, 0, 0), (996, .iadd, 1, 0, 0, 0), (997, .iaload, 1, 0, 0, 0), (998, .invokevirtual 115, 3, 217, 129, 1491), (1001, .if_icmp .eq 173, 3, 840, 0, 0), (1004, .iconst 0, 1, 0, 0, 0), (1005, .ireturn, 1, 0, 0, 0), (1006, .aload_n 1, 1, 0, 0, 0), (1007, .aload_n 0, 1, 0, 0, 0), (1008, .iload_n 3, 1, 0, 0, 0), (1009, .iconst 1, 1, 0, 0, 0), (1010, .iadd, 1, 0, 0, 0), (1011, .iaload, 1, 0, 0, 0), (1012, .invokevirtual 116, 3, 132, 113, 883), (1015, .aload_n 2, 1, 0, 0, 0), (1016, .aload_n 0, 1, 0, 0, 0), (1017, .iload_n 3, 1, 0, 0, 0), (1018, .iconst 1, 1, 0, 0, 0), (1019, .iadd, 1, 0, 0, 0), (1020, .iaload, 1, 0, 0, 0), (1021, .invokevirtual 119, 3, 218, 129, 1500), (1024, .if_icmp .eq 150, 3, 840, 0, 0), (1027, .iconst 0, 1, 0, 0, 0), (1028, .ireturn, 1, 0, 0, 0), (1029, .aload_n 1, 1, 0, 0, 0), (1030, .aload_n 0, 1, 0, 0, 0), (1031, .iload_n 3, 1, 0, 0, 0), (1032, .iconst 1, 1, 0, 0, 0), (1033, .iadd, 1, 0, 0, 0), (1034, .iaload, 1, 0, 0, 0), (1035, .invokevirtual 120, 3, 133, 113, 891), (1038, .aload_n 2, 1, 0, 0, 0), (1039, .aload_n 0, 1, 0, 0, 0), (1040, .iload_n 3, 1, 0, 0, 0), (1041, .iconst 1, 1, 0, 0, 0), (1042, .iadd, 1, 0, 0, 0), (1043, .iaload, 1, 0, 0, 0), (1044, .invokevirtual 123, 3, 219, 129, 1504), (1047, .if_icmp .eq 127, 3, 840, 0, 0), (1050, .iconst 0, 1, 0, 0, 0), (1051, .ireturn, 1, 0, 0, 0), (1052, .aload_n 1, 1, 0, 0, 0), (1053, .aload_n 0, 1, 0, 0, 0), (1054, .iload_n 3, 1, 0, 0, 0), (1055, .iconst 1, 1, 0, 0, 0), (1056, .iadd, 1, 0, 0, 0), (1057, .iaload, 1, 0, 0, 0), (1058, .aload_n 0, 1, 0, 0, 0), (1059, .iload_n 3, 1, 0, 0, 0), (1060, .iconst 2, 1, 0, 0, 0), (1061, .iadd, 1, 0, 0, 0), (1062, .iaload, 1, 0, 0, 0), (1063, .aload_n 0, 1, 0, 0, 0), (1064, .iload_n 3, 1, 0, 0, 0), (1065, .iconst 3, 1, 0, 0, 0), (1066, .iadd, 1, 0, 0, 0), (1067, .iaload, 1, 0, 0, 0), (1068, .aload_n 0, 1, 0, 0, 0), (1069, .iload_n 3, 1, 0, 0, 0), (1070, .iconst 4, 1, 0, 0, 0), (1071, .iadd, 1, 0, 0, 0), (1072, .iaload, 1, 0, 0, 0), (1073, .invokevirtual 124, 3, 134, 116, 904), (1076, .aload_n 2, 1, 0, 0, 0), (1077, .aload_n 0, 1, 0, 0, 0), (1078, .iload_n 3, 1, 0, 0, 0), (1079, .iconst 1, 1, 0, 0, 0), (1080, .iadd, 1, 0, 0, 0), (1081, .iaload, 1, 0, 0, 0), (1082, .aload_n 0, 1, 0, 0, 0), (1083, .iload_n 3, 1, 0, 0, 0), (1084, .iconst 2, 1, 0, 0, 0), (1085, .iadd, 1, 0, 0, 0), (1086, .iaload, 1, 0, 0, 0), (1087, .aload_n 0, 1, 0, 0, 0), (1088, .iload_n 3, 1, 0, 0, 0), (1089, .iconst 3, 1, 0, 0, 0), (1090, .iadd, 1, 0, 0, 0), (1091, .iaload, 1, 0, 0, 0), (1092, .aload_n 0, 1, 0, 0, 0), (1093, .iload_n 3, 1, 0, 0, 0), (1094, .iconst 4, 1, 0, 0, 0), (1095, .iadd, 1, 0, 0, 0), (1096, .iaload, 1, 0, 0, 0), (1097, .invokevirtual 128, 3, 220, 132, 1511), (1100, .if_icmp .eq 74, 3, 840, 0, 0), (1103, .iconst 0, 1, 0, 0, 0), (1104, .ireturn, 1, 0, 0, 0), (1105, .aload_n 1, 1, 0, 0, 0), (1106, .aload_n 0, 1, 0, 0, 0), (1107, .iload_n 3, 1, 0, 0, 0), (1108, .iconst 1, 1, 0, 0, 0), (1109, .iadd, 1, 0, 0, 0), (1110, .iaload, 1, 0, 0, 0), (1111, .invokevirtual 129, 3, 135, 113, 911), (1114, .aload_n 2, 1, 0, 0, 0), (1115, .aload_n 0, 1, 0, 0, 0), (1116, .iload_n 3, 1, 0, 0, 0), (1117, .iconst 1, 1, 0, 0, 0), (1118, .iadd, 1, 0, 0, 0), (1119, .iaload, 1, 0, 0, 0), (1120, .invokevirtual 132, 3, 222, 129, 1518), (1123, .if_icmp .eq 51, 3, 840, 0, 0), (1126, .iconst 0, 1, 0, 0, 0), (1127, .ireturn, 1, 0, 0, 0), (1128, .aload_n 1, 1, 0, 0, 0), (1129, .aload_n 0, 1, 0, 0, 0), (1130, .iload_n 3, 1, 0, 0, 0), (1131, .iconst 1, 1, 0, 0, 0), (1132, .iadd, 1, 0, 0, 0), (1133, .iaload, 1, 0, 0, 0), (1134, .invokevirtual 133, 3, 136, 113, 1141), (1137, .aload_n 2, 1, 0, 0, 0), (1138, .aload_n 0, 1, 0, 0, 0), (1139, .iload_n 3, 1, 0, 0, 0), (1140, .iconst 1, 1, 0, 0, 0), (1141, .iadd, 1, 0, 0, 0), (1142, .iaload, 1, 0, 0, 0), (1143, .invokevirtual 136, 3, 223, 129, 1529), (1146, .if_icmp .eq 28, 3, 840, 0, 0), (1149, .iconst 0, 1, 0, 0, 0), (1150, .ireturn, 1, 0, 0, 0), (1151, .aload_n 1, 1, 0, 0, 0), (1152, .aload_n 0, 1, 0, 0, 0), (1153, .iload_n 3, 1, 0, 0, 0), (1154, .iconst 1, 1, 0, 0, 0), (1155, .iadd, 1, 0, 0, 0), (1156, .iaload, 1, 0, 0, 0), (1157, .invokevirtual 137, 3, 137, 113, 1155), (1160, .aload_n 2, 1, 0, 0, 0), (1161, .aload_n 0, 1, 0, 0, 0), (1162, .iload_n 3, 1, 0, 0, 0), (1163, .iconst 1, 1, 0, 0, 0), (1164, .iadd, 1, 0, 0, 0), (1165, .iaload, 1, 0, 0, 0), (1166, .invokevirtual 140, 3, 224, 129, 1533), (1169, .if_icmp .eq 5, 3, 840, 0, 0), (1172, .iconst 0, 1, 0, 0, 0), (1173, .ireturn, 1, 0, 0, 0), (1174, .iinc 3 6, 3, 0, 0, 0), (1177, .goto (-1159), 3, 10, 0, 0), (1180, .iconst 1, 1, 0, 0, 0), (1181, .ireturn, 1, 0, 0, 0)]
def cd_226 : List aE := [(0, .lload_n 0, 1, 0, 0, 0), (1, .lload_n 0, 1, 0, 0, 0), (2, .iconst 1, 1, 0, 0, 0), (3, .lushr, 1, 0, 0, 0), (4, .ldc2_w 314, 3, 6148914691236517205, 0, 691), (7, .land, 1, 0, 0, 0), (8, .lsub, 1, 0, 0, 0), (9, .lstore_n 0, 1, 0, 0, 0), (10, .lload_n 0, 1, 0, 0, 0), (11, .ldc2_w 316, 3, 3689348814741910323, 0, 692), (14, .land, 1, 0, 0, 0), (15, .lload_n 0, 1, 0, 0, 0), (16, .iconst 2, 1, 0, 0, 0), (17, .lushr, 1, 0, 0, 0), (18, .ldc2_w 316, 3, 3689348814741910323, 0, 692), (21, .land, 1, 0, 0, 0), (22, .ladd, 1, 0, 0, 0), (23, .lstore_n 0, 1, 0, 0, 0), (24, .lload_n 0, 1, 0, 0, 0), (25, .lload_n 0, 1, 0, 0, 0), (26, .iconst 4, 1, 0, 0, 0), (27, .lushr, 1, 0, 0, 0), (28, .ladd, 1, 0, 0, 0), (29, .ldc2_w 318, 3, 1085102592571150095, 0, 693), (32, .land, 1, 0, 0, 0), (33, .lstore_n 0, 1, 0, 0, 0), (34, .lload_n 0, 1, 0, 0, 0), (35, .lload_n 0, 1, 0, 0, 0), (36, .bipush 8, 2, 0, 0, 0), (38, .lushr, 1, 0, 0, 0), (39, .ladd, 1, 0, 0, 0), (40, .lstore_n 0, 1, 0, 0, 0), (41, .lload_n 0, 1, 0, 0, 0), (42, .lload_n 0, 1, 0, 0, 0), (43, .bipush 16, 2, 0, 0, 0), (45, .lushr, 1, 0, 0, 0), (46, .ladd, 1, 0, 0, 0), (47, .lstore_n 0, 1, 0, 0, 0), (48, .lload_n 0, 1, 0, 0, 0), (49, .lload_n 0, 1, 0, 0, 0), (50, .bipush 32, 2, 0, 0, 0), (52, .lushr, 1, 0, 0, 0), (53, .ladd, 1, 0, 0, 0), (54, .lstore_n 0, 1, 0, 0, 0), (55, .lload_n 0, 1, 0, 0, 0), (56, .l2i, 1, 0, 0, 0), (57, .bipush 127, 2, 0, 0, 0), (59, .iand, 1, 0, 0, 0), (60, .ireturn, 1, 0, 0, 0)]
def cd_227 : List aE := [(0, .iload_n 0, 1, 0, 0, 0), (1, .iload_n 1, 1, 0, 0, 0), (2, .irem, 1, 0, 0, 0), (3, .istore_n 2, 1, 0, 0, 0), (4, .iload_n 0, 1, 0, 0, 0), (5, .iload_n 1, 1, 0, 0, 0), (6, .ixor, 1, 0, 0, 0), (7, .ifCond .ge 11, 3, 14, 0, 0), (10, .iload_n 2, 1, 0, 0, 0), (11, .ifCond .eq 7, 3, 14, 0, 0), (14, .iload_n 2, 1, 0, 0, 0), (15, .iload_n 1, 1, 0, 0, 0), (16, .iadd, 1, 0, 0, 0), (17, .ireturn, 1, 0, 0, 0), (18, .iload_n 2, 1, 0, 0, 0), (19, .ireturn, 1, 0, 0, 0)]
def cd_228 : List aE := [(0, .iload_n 0, 1, 0, 0, 0), (1, .ifCond .ge 8, 3, 5, 0, 0), (4, .iload_n 0, 1, 0, 0, 0), (5, .ineg, 1, 0, 0, 0), (6, .goto 4, 3, 6, 0, 0), (9, .iload_n 0, 1, 0, 0, 0), (10, .ireturn, 1, 0, 0, 0)]
def cd_229 : List aE := [(0, .iload_n 0, 1, 0, 0, 0), (1, .iload_n 1, 1, 0, 0, 0), (2, .if_icmp .gt 7, 3, 5, 0, 0), (5, .iload_n 0, 1, 0, 0, 0), (6, .goto 4, 3, 6, 0, 0), (9, .iload_n 1, 1, 0, 0, 0), (10, .ireturn, 1, 0, 0, 0)]
def cd_230 : List aE := [(0, .aload_n 0, 1, 0, 0, 0), (1, .bipush 16, 2, 0, 0, 0), (3, .invokespecial 1, 3, 231, 1, 125), (6, .return_, 1, 0, 0, 0)]
def cd_231 : List aE := [(0, .aload_n 0, 1, 0, 0, 0), (1, .invokespecial 3, 3, 1000, 0, 128), (4, .getstatic 18, 3, 1, 1, 129), (7, .ifCond .eq 18, 3, 12, 0, 0), (10, .aload_n 0, 1, 0, 0, 0), (11, .iload_n 1, 1, 0, 0, 0), (12, .newarray .byte, 2, 2, 0, 0), (14, .putfield 15, 3, 0, 0, 138), (17, .aload_n 0, 1, 0, 0, 0), (18, .iconst 0, 1, 0, 0, 0), (19, .putfield 22, 3, 0, 1, 139), (22, .goto 16, 3, 19, 0, 0), (25, .athrow, 1, 0, 0, 0), (26, .athrow, 1, 0, 0, 0), (27, .athrow, 1, 0, 0, 0), (30, .athrow, 1, 0, 0, 0), (33, .athrow, 1, 0, 0, 0), (34, .athrow, 1, 0, 0, 0), (35, .athrow, 1, 0, 0, 0), (38, .return_, 1, 0, 0, 0)]
def cd_232 : List aE := [(0, .aload_n 0, 1, 0, 0, 0), (1, .invokespecial 343, 3, 233, 1000, 1138), (4, .ireturn, 1, 0, 0, 0)]
def cd_233 : List aE := [(0, .aload_n 0, 1, 0, 0, 0), (1, .getfield 79, 3, 0, 3, 141), (4, .ireturn, 1, 0, 0, 0)]
def cd_234 : List aE := [(0, .aload_n 0, 1, 0, 0, 0), (1, .iload_n 1, 1, 0, 0, 0), (2, .invokespecial 329, 3, 235, 1001, 1149), (5, .ireturn, 1, 0, 0, 0)]
def cd_235 : List aE := [(0, .aload_n 0, 1, 0, 0, 0), (1, .getfield 22, 3, 0, 1, 139), (4, .istore_n 2, 1, 0, 0, 0), (5, .aload_n 0, 1, 0, 0, 0), (6, .getfield 15, 3, 0, 0, 138), (9, .astore_n 3, 1, 0, 0, 0), (10, .aload_n 0, 1, 0, 0, 0), (11, .getfield 79, 3, 0, 3, 141), (14, .aload_n 3, 1, 0, 0, 0), (15, .arraylength, 1, 0, 0, 0), (16, .iload_n 2, 1, 0, 0, 0), (17, .ishr, 1, 0, 0, 0), (18, .invokestatic 138, 3, 229, 2, 1152), (21, .istore 4, 2, 0, 0, 0), (23, .iload_n 1, 1, 0, 0, 0), (24, .iload 4, 2, 0, 0, 0), (26, .invokestatic 144, 3, 256, 2, 1153), (29, .iload_n 2, 1, 0, 0, 0), (30, .ifCond .ne 12, 3, 26, 0, 0), (33, .aload_n 3, 1, 0, 0, 0), (34, .iload_n 1, 1, 0, 0, 0), (35, .baload, 1, 0, 0, 0), (36, .sipush 255, 3, 0, 0, 0), (39, .iand, 1, 0, 0, 0), (40, .i2c, 1, 0, 0, 0), (41, .ireturn, 1, 0, 0, 0), (42, .athrow, 1, 0, 0, 0), (43, .athrow, 1, 0, 0, 0), (44, .athrow, 1, 0, 0, 0), (47, .athrow, 1, 0, 0, 0)]
def cd_236 : List aE := [(0, .aload_n 0, 1, 0, 0, 0), (1, .iload_n 1, 1, 0, 0, 0), (2, .invokespecial 333, 3, 237, 1001, 919), (5, .return_, 1, 0, 0, 0)]
def cd_237 : List aE := [(0, .iload_n 1, 1, 0, 0, 0), (1, .ifCond .ge 12, 3, 7, 0, 0), (4, .athrow, 1, 0, 0, 0), (7, .athrow, 1, 0, 0, 0), (8, .athrow, 1, 0, 0, 0), (9, .athrow, 1, 0, 0, 0), (12, .athrow, 1, 0, 0, 0), (13, .aload_n 0, 1, 0, 0, 0), (14, .iload_n 1, 1, 0, 0, 0), (15, .invokevirtual 100, 3, 238, 1, 922), (18, .aload_n 0, 1, 0, 0, 0), (19, .getfield 79, 3, 0, 3, 141), (22, .iload_n 1, 1, 0, 0, 0), (23, .if_icmp .ge 40, 3, 31, 0, 0), (26, .athrow, 1, 0, 0, 0), (27, .athrow, 1, 0, 0, 0), (30, .athrow, 1, 0, 0, 0), (33, .athrow, 1, 0, 0, 0), (34, .athrow, 1, 0, 0, 0), (37, .athrow, 1, 0, 0, 0), (38, .athrow, 1, 0, 0, 0), (41, .athrow, 1, 0, 0, 0), (42, .athrow, 1, 0, 0, 0), (45, .athrow, 1, 0, 0, 0), (48, .athrow, 1, 0, 0, 0), (49, .athrow, 1, 0, 0, 0), (52, .athrow, 1, 0, 0, 0), (53, .athrow, 1, 0, 0, 0), (56, .athrow, 1, 0, 0, 0), (57, .athrow, 1, 0, 0, 0), (60, .athrow, 1, 0, 0, 0), (63, .aload_n 0, 1, 0, 0, 0), (64, .getfield 79, 3, 0, 3, 141), (67, .iload_n 1, 1, 0, 0, 0), (68, .if_icmp .le 8, 3, 38, 0, 0), (71, .aload_n 0, 1, 0, 0, 0), (72, .iconst 1, 1, 0, 0, 0), (73, .putfield 73, 3, 0, 2, 140), (76, .aload_n 0, 1, 0, 0, 0), (77, .iload_n 1, 1, 0, 0, 0), (78, .putfield 79, 3, 0, 3, 141), (81, .return_, 1, 0, 0, 0)]
def cd_238 : List aE := [(0, .aload_n 0, 1, 0, 0, 0), (1, .getfield 15, 3, 0, 0, 138), (4, .arraylength, 1, 0, 0, 0), (5, .aload_n 0, 1, 0, 0, 0), (6, .getfield 22, 3, 0, 1, 139), (9, .ishr, 1, 0, 0, 0), (10, .istore_n 2, 1, 0, 0, 0), (11, .iload_n 1, 1, 0, 0, 0), (12, .iload_n 2, 1, 0, 0, 0), (13, .isub, 1, 0, 0, 0), (14, .ifCond .le 24, 3, 22, 0, 0), (17, .athrow, 1, 0, 0, 0), (18, .athrow, 1, 0, 0, 0), (19, .athrow, 1, 0, 0, 0), (22, .athrow, 1, 0, 0, 0), (23, .athrow, 1, 0, 0, 0), (24, .athrow, 1, 0, 0, 0), (27, .athrow, 1, 0, 0, 0), (28, .athrow, 1, 0, 0, 0), (31, .athrow, 1, 0, 0, 0), (32, .athrow, 1, 0, 0, 0), (35, .athrow, 1, 0, 0, 0), (38, .return_, 1, 0, 0, 0)]
def cd_239 : List aE := [(0, .getstatic 18, 3, 1, 1, 129), (3, .ifCond .eq 14, 3, 7, 0, 0), (6, .aload_n 0, 1, 0, 0, 0), (7, .getfield 22, 3, 0, 1, 139), (10, .ifCond .ne 7, 3, 7, 0, 0), (13, .iconst 1, 1, 0, 0, 0), (14, .goto 4, 3, 8, 0, 0), (17, .iconst 0, 1, 0, 0, 0), (18, .ireturn, 1, 0, 0, 0)]
def cd_240 : List aE := [(0, .aload_n 0, 1, 0, 0, 0), (1, .iload_n 1, 1, 0, 0, 0), (2, .invokespecial 50, 3, 241, 1001, 1121), (5, .pop, 1, 0, 0, 0), (6, .aload_n 0, 1, 0, 0, 0), (7, .areturn, 1, 0, 0, 0)]
def cd_241 : List aE := [(0, .aload_n 0, 1, 0, 0, 0), (1, .aload_n 0, 1, 0, 0, 0), (2, .getfield 79, 3, 0, 3, 141), (5, .iconst 1, 1, 0, 0, 0), (6, .iadd, 1, 0, 0, 0), (7, .invokevirtual 100, 3, 238, 1, 922), (10, .aload_n 0, 1, 0, 0, 0), (11, .invokevirtual 83, 3, 239, 0, 957), (14, .ifCond .eq 31, 3, 25, 0, 0), (17, .iload_n 1, 1, 0, 0, 0), (18, .invokestatic 191, 3, 242, 1, 1124), (21, .ifCond .eq 24, 3, 25, 0, 0), (24, .aload_n 0, 1, 0, 0, 0), (25, .getfield 15, 3, 0, 0, 138), (28, .aload_n 0, 1, 0, 0, 0), (29, .dup, 1, 0, 0, 0), (30, .getfield 79, 3, 0, 3, 141), (33, .dup_x1, 1, 0, 0, 0), (34, .iconst 1, 1, 0, 0, 0), (35, .iadd, 1, 0, 0, 0), (36, .putfield 79, 3, 0, 3, 141), (39, .iload_n 1, 1, 0, 0, 0), (40, .i2b, 1, 0, 0, 0), (41, .bastore, 1, 0, 0, 0), (42, .goto 33, 3, 41, 0, 0), (45, .athrow, 1, 0, 0, 0), (46, .athrow, 1, 0, 0, 0), (49, .athrow, 1, 0, 0, 0), (52, .athrow, 1, 0, 0, 0), (53, .athrow, 1, 0, 0, 0), (56, .athrow, 1, 0, 0, 0), (57, .athrow, 1, 0, 0, 0), (60, .athrow, 1, 0, 0, 0), (61, .athrow, 1, 0, 0, 0), (62, .athrow, 1, 0, 0, 0), (65, .athrow, 1, 0, 0, 0), (66, .athrow, 1, 0, 0, 0), (67, .athrow, 1, 0, 0, 0), (68, .athrow, 1, 0, 0, 0), (71, .athrow, 1, 0, 0, 0), (72, .athrow, 1, 0, 0, 0), (75, .aload_n 0, 1, 0, 0, 0), (76, .areturn, 1, 0, 0, 0)]
def cd_242 : List aE := [(0, .iload_n 0, 1, 0, 0, 0), (1, .sipush 255, 3, 0, 0, 0), (4, .if_icmp .gt 7, 3, 5, 0, 0), (7, .iconst 1, 1, 0, 0, 0), (8, .goto 4, 3, 6, 0, 0), (11, .iconst 0, 1, 0, 0, 0), (12, .ireturn, 1, 0, 0, 0)]
def cd_243 : List aE := [(0, .aload_n 0, 1, 0, 0, 0), (1, .iload_n 1, 1, 0, 0, 0), (2, .invokespecial 53, 3, 244, 1001, 1064), (5, .pop, 1, 0, 0, 0), (6, .aload_n 0, 1, 0, 0, 0), (7, .areturn, 1, 0, 0, 0)]
def cd_244 : List aE := [(0, .aload_n 0, 1, 0, 0, 0), (1, .getfield 79, 3, 0, 3, 141), (4, .istore_n 2, 1, 0, 0, 0), (5, .iload_n 2, 1, 0, 0, 0), (6, .iload_n 1, 1, 0, 0, 0), (7, .invokestatic 245, 3, 245, 1, 1067), (10, .iadd, 1, 0, 0, 0), (11, .istore_n 3, 1, 0, 0, 0), (12, .aload_n 0, 1, 0, 0, 0), (13, .iload_n 3, 1, 0, 0, 0), (14, .invokevirtual 100, 3, 238, 1, 922), (17, .aload_n 0, 1, 0, 0, 0), (18, .invokevirtual 83, 3, 239, 0, 957), (21, .ifCond .eq 16, 3, 21, 0, 0), (24, .iload_n 1, 1, 0, 0, 0), (25, .iload_n 3, 1, 0, 0, 0), (26, .aload_n 0, 1, 0, 0, 0), (27, .getfield 15, 3, 0, 0, 138), (30, .invokestatic 248, 3, 246, 3, 1070), (33, .pop, 1, 0, 0, 0), (34, .goto 14, 3, 28, 0, 0), (37, .athrow, 1, 0, 0, 0), (38, .athrow, 1, 0, 0, 0), (39, .athrow, 1, 0, 0, 0), (40, .athrow, 1, 0, 0, 0), (41, .athrow, 1, 0, 0, 0), (44, .athrow, 1, 0, 0, 0), (47, .athrow, 1, 0, 0, 0), (48, .aload_n 0, 1, 0, 0, 0), (49, .iload_n 3, 1, 0, 0, 0), (50, .putfield 79, 3, 0, 3, 141), (53, .aload_n 0, 1, 0, 0, 0), (54, .areturn, 1, 0, 0, 0)]
def cd_245 : List aE := [(0, .iconst 1, 1, 0, 0, 0), (1, .istore_n 1, 1, 0, 0, 0), (2, .iload_n 0, 1, 0, 0, 0), (3, .ifCond .lt 8, 3, 9, 0, 0), (6, .iconst 0, 1, 0, 0, 0), (7, .istore_n 1, 1, 0, 0, 0), (8, .iload_n 0, 1, 0, 0, 0), (9, .ineg, 1, 0, 0, 0), (10, .istore_n 0, 1, 0, 0, 0), (11, .bipush (-10), 2, 0, 0, 0), (13, .istore_n 2, 1, 0, 0, 0), (14, .iconst 1, 1, 0, 0, 0), (15, .istore_n 3, 1, 0, 0, 0), (16, .iload_n 3, 1, 0, 0, 0), (17, .bipush 10, 2, 0, 0, 0), (19, .if_icmp .ge 23, 3, 29, 0, 0), (22, .iload_n 0, 1, 0, 0, 0), (23, .iload_n 2, 1, 0, 0, 0), (24, .if_icmp .le 7, 3, 23, 0, 0), (27, .iload_n 3, 1, 0, 0, 0), (28, .iload_n 1, 1, 0, 0, 0), (29, .iadd, 1, 0, 0, 0), (30, .ireturn, 1, 0, 0, 0), (31, .bipush 10, 2, 0, 0, 0), (33, .iload_n 2, 1, 0, 0, 0), (34, .imul, 1, 0, 0, 0), (35, .istore_n 2, 1, 0, 0, 0), (36, .iinc 3 1, 3, 0, 0, 0), (39, .goto (-23), 3, 13, 0, 0), (42, .bipush 10, 2, 0, 0, 0), (44, .iload_n 1, 1, 0, 0, 0), (45, .iadd, 1, 0, 0, 0), (46, .ireturn, 1, 0, 0, 0)]
def cd_246 : List aE := [(0, .iload_n 1, 1, 0, 0, 0), (1, .istore 5, 2, 0, 0, 0), (3, .iload_n 0, 1, 0, 0, 0), (4, .ifCond .ge 7, 3, 6, 0, 0), (7, .iconst 1, 1, 0, 0, 0), (8, .goto 4, 3, 7, 0, 0), (11, .iconst 0, 1, 0, 0, 0), (12, .istore 6, 2, 0, 0, 0), (14, .iload 6, 2, 0, 0, 0), (16, .ifCond .ne 6, 3, 13, 0, 0), (19, .iload_n 0, 1, 0, 0, 0), (20, .ineg, 1, 0, 0, 0), (21, .istore_n 0, 1, 0, 0, 0), (22, .iload_n 0, 1, 0, 0, 0), (23, .bipush (-100), 2, 0, 0, 0), (25, .if_icmp .gt 47, 3, 43, 0, 0), (28, .iload_n 0, 1, 0, 0, 0), (29, .bipush 100, 2, 0, 0, 0), (31, .idiv, 1, 0, 0, 0), (32, .istore_n 3, 1, 0, 0, 0), (33, .iload_n 3, 1, 0, 0, 0), (34, .bipush 100, 2, 0, 0, 0), (36, .imul, 1, 0, 0, 0), (37, .iload_n 0, 1, 0, 0, 0), (38, .isub, 1, 0, 0, 0), (39, .istore 4, 2, 0, 0, 0), (41, .iload_n 3, 1, 0, 0, 0), (42, .istore_n 0, 1, 0, 0, 0), (43, .aload_n 2, 1, 0, 0, 0), (44, .iinc 5 (-1), 3, 0, 0, 0), (47, .iload 5, 2, 0, 0, 0), (49, .getstatic 83, 3, 2, 0, 1073), (52, .iload 4, 2, 0, 0, 0), (54, .baload, 1, 0, 0, 0), (55, .bastore, 1, 0, 0, 0), (56, .aload_n 2, 1, 0, 0, 0), (57, .iinc 5 (-1), 3, 0, 0, 0), (60, .iload 5, 2, 0, 0, 0), (62, .getstatic 87, 3, 3, 0, 1075), (65, .iload 4, 2, 0, 0, 0), (67, .baload, 1, 0, 0, 0), (68, .bastore, 1, 0, 0, 0), (69, .goto (-47), 3, 13, 0, 0), (72, .aload_n 2, 1, 0, 0, 0), (73, .iinc 5 (-1), 3, 0, 0, 0), (76, .iload 5, 2, 0, 0, 0), (78, .getstatic 83, 3, 2, 0, 1073), (81, .iload_n 0, 1, 0, 0, 0), (82, .ineg, 1, 0, 0, 0), (83, .baload, 1, 0, 0, 0), (84, .bastore, 1, 0, 0, 0), (85, .iload_n 0, 1, 0, 0, 0), (86, .bipush (-9), 2, 0, 0, 0), (88, .if_icmp .ge 16, 3, 62, 0, 0), (91, .aload_n 2, 1, 0, 0, 0), (92, .iinc 5 (-1), 3, 0, 0, 0), (95, .iload 5, 2, 0, 0, 0), (97, .getstatic 87, 3, 3, 0, 1075), (100, .iload_n 0, 1, 0, 0, 0), (101, .ineg, 1, 0, 0, 0), (102, .baload, 1, 0, 0, 0), (103, .bastore, 1, 0, 0, 0), (104, .iload 6, 2, 0, 0, 0), (106, .ifCond .eq 12, 3, 69, 0, 0), (109, .aload_n 2, 1, 0, 0, 0), (110, .iinc 5 (-1), 3, 0, 0, 0), (113, .iload 5, 2, 0, 0, 0), (115, .bipush 45, 2, 0, 0, 0), (117, .bastore, 1, 0, 0, 0), (118, .iload 5, 2, 0, 0, 0), (120, .ireturn, 1, 0, 0, 0)]
def cd_247 : List aE := [(0, .aload_n 0, 1, 0, 0, 0), (1, .aload_n 1, 1, 0, 0, 0), (2, .invokespecial 29, 3, 248, 1001, 984), (5, .pop, 1, 0, 0, 0), (6, .aload_n 0, 1, 0, 0, 0), (7, .areturn, 1, 0, 0, 0)]
def cd_248 : List aE := [(0, .aload_n 1, 1, 0, 0, 0), (1, .ifnonnull 8, 3, 5, 0, 0), (4, .athrow, 1, 0, 0, 0), (5, .athrow, 1, 0, 0, 0), (8, .athrow, 1, 0, 0, 0), (9, .aload_n 1, 1, 0, 0, 0), (10, .invokevirtual 32, 3, 253, 144, 1017), (13, .istore_n 2, 1, 0, 0, 0), (14, .aload_n 0, 1, 0, 0, 0), (15, .aload_n 0, 1, 0, 0, 0), (16, .getfield 79, 3, 0, 3, 141), (19, .iload_n 2, 1, 0, 0, 0), (20, .iadd, 1, 0, 0, 0), (21, .invokevirtual 100, 3, 238, 1, 922), (24, .aload_n 0, 1, 0, 0, 0), (25, .aload_n 0, 1, 0, 0, 0), (26, .getfield 79, 3, 0, 3, 141), (29, .aload_n 1, 1, 0, 0, 0), (30, .invokevirtual 208, 3, 249, 2, 1026), (33, .aload_n 0, 1, 0, 0, 0), (34, .dup, 1, 0, 0, 0), (35, .getfield 79, 3, 0, 3, 141), (38, .iload_n 2, 1, 0, 0, 0), (39, .iadd, 1, 0, 0, 0), (40, .putfield 79, 3, 0, 3, 141), (43, .aload_n 0, 1, 0, 0, 0), (44, .areturn, 1, 0, 0, 0)]
def cd_249 : List aE := [(0, .aload_n 0, 1, 0, 0, 0), (1, .aload_n 2, 1, 0, 0, 0), (2, .invokevirtual 397, 3, 250, 1, 1030), (5, .aload_n 2, 1, 0, 0, 0), (6, .aload_n 0, 1, 0, 0, 0), (7, .getfield 15, 3, 0, 0, 138), (10, .iload_n 1, 1, 0, 0, 0), (11, .aload_n 0, 1, 0, 0, 0), (12, .getfield 22, 3, 0, 1, 139), (15, .invokevirtual 399, 3, 251, 147, 1054), (18, .return_, 1, 0, 0, 0)]
def cd_250 : List aE := [(0, .getstatic 18, 3, 1, 1, 129), (3, .ifCond .eq 18, 3, 9, 0, 0), (6, .aload_n 0, 1, 0, 0, 0), (7, .getfield 22, 3, 0, 1, 139), (10, .aload_n 1, 1, 0, 0, 0), (11, .invokevirtual 40, 3, 252, 144, 1034), (14, .if_icmp .eq 7, 3, 9, 0, 0), (17, .athrow, 1, 0, 0, 0), (18, .athrow, 1, 0, 0, 0), (21, .return_, 1, 0, 0, 0)]
def cd_251 : List aE := [(0, .aload_n 0, 1, 0, 0, 0), (1, .invokevirtual 335, 3, 252, 144, 1021), (4, .iload_n 3, 1, 0, 0, 0), (5, .if_icmp .ne 23, 3, 16, 0, 0), (8, .aload_n 0, 1, 0, 0, 0), (9, .getfield 9, 3, 9, 0, 1549), (12, .iconst 0, 1, 0, 0, 0), (13, .aload_n 1, 1, 0, 0, 0), (14, .iload_n 2, 1, 0, 0, 0), (15, .iload_n 3, 1, 0, 0, 0), (16, .ishl, 1, 0, 0, 0), (17, .aload_n 0, 1, 0, 0, 0), (18, .getfield 9, 3, 9, 0, 1549), (21, .arraylength, 1, 0, 0, 0), (22, .monitorenter, 3, 212, 0, 1058), (25, .goto 18, 3, 25, 0, 0), (28, .athrow, 1, 0, 0, 0), (29, .athrow, 1, 0, 0, 0), (32, .athrow, 1, 0, 0, 0), (33, .athrow, 1, 0, 0, 0), (34, .athrow, 1, 0, 0, 0), (35, .athrow, 1, 0, 0, 0), (36, .athrow, 1, 0, 0, 0), (39, .athrow, 1, 0, 0, 0), (40, .athrow, 1, 0, 0, 0), (43, .return_, 1, 0, 0, 0)]
def cd_252 : List aE := [(0, .getstatic 38, 3, 1, 1, 1025), (3, .ifCond .eq 10, 3, 5, 0, 0), (6, .aload_n 0, 1, 0, 0, 0), (7, .getfield 15, 3, 9, 1, 1550), (10, .goto 4, 3, 6, 0, 0), (13, .iconst 1, 1, 0, 0, 0), (14, .ireturn, 1, 0, 0, 0)]
def cd_253 : List aE := [(0, .aload_n 0, 1, 0, 0, 0), (1, .getfield 9, 3, 9, 0, 1549), (4, .arraylength, 1, 0, 0, 0), (5, .aload_n 0, 1, 0, 0, 0), (6, .invokevirtual 335, 3, 252, 144, 1021), (9, .ishr, 1, 0, 0, 0), (10, .ireturn, 1, 0, 0, 0)]
def cd_254 : List aE := [(0, .aload_n 0, 1, 0, 0, 0), (1, .invokevirtual 492, 3, 255, 144, 1094), (4, .ifCond .eq 12, 3, 8, 0, 0), (7, .aload_n 0, 1, 0, 0, 0), (8, .getfield 9, 3, 9, 0, 1549), (11, .iload_n 1, 1, 0, 0, 0), (12, .invokestatic 495, 3, 257, 2, 1098), (15, .ireturn, 1, 0, 0, 0), (16, .athrow, 1, 0, 0, 0), (17, .athrow, 1, 0, 0, 0), (20, .athrow, 1, 0, 0, 0), (21, .athrow, 1, 0, 0, 0), (24, .athrow, 1, 0, 0, 0)]
def cd_255 : List aE := [(0, .getstatic 38, 3, 1, 1, 1025), (3, .ifCond .eq 14, 3, 7, 0, 0), (6, .aload_n 0, 1, 0, 0, 0), (7, .getfield 15, 3, 9, 1, 1550), (10, .ifCond .ne 7, 3, 7, 0, 0), (13, .iconst 1, 1, 0, 0, 0), (14, .goto 4, 3, 8, 0, 0), (17, .iconst 0, 1, 0, 0, 0), (18, .ireturn, 1, 0, 0, 0)]
def cd_256 : List aE := [(0, .iload_n 0, 1, 0, 0, 0), (1, .iload_n 1, 1, 0, 0, 0), (2, .getstatic 1053, 3, 15, 2, 1003), (5, .invokestatic 1059, 3, 258, 3, 1104), (8, .pop, 1, 0, 0, 0), (9, .return_, 1, 0, 0, 0)]
def cd_257 : List aE := [(0, .iload_n 1, 1, 0, 0, 0), (1, .aload_n 0, 1, 0, 0, 0), (2, .arraylength, 1, 0, 0, 0), (3, .invokestatic 9, 3, 256, 2, 1101), (6, .aload_n 0, 1, 0, 0, 0), (7, .iload_n 1, 1, 0, 0, 0), (8, .baload, 1, 0, 0, 0), (9, .sipush 255, 3, 0, 0, 0), (12, .iand, 1, 0, 0, 0), (13, .i2c, 1, 0, 0, 0), (14, .ireturn, 1, 0, 0, 0)]
def cd_258 : List aE := [(0, .iload_n 0, 1, 0, 0, 0), (1, .ifCond .lt 8, 3, 5, 0, 0), (4, .iload_n 0, 1, 0, 0, 0), (5, .iload_n 1, 1, 0, 0, 0), (6, .if_icmp .lt 10, 3, 10, 0, 0), (9, .athrow, 1, 0, 0, 0), (10, .athrow, 1, 0, 0, 0), (11, .athrow, 1, 0, 0, 0), (12, .athrow, 1, 0, 0, 0), (15, .athrow, 1, 0, 0, 0), (16, .iload_n 0, 1, 0, 0, 0), (17, .ireturn, 1, 0, 0, 0)]
def mi_0 : aM := (RX0, yX0_init, cX0_init, 1, none, false, cd_0)
def mi_1 : aM := (RX0, yX0_open, cX0_open, 2, none, false, cd_1)
def mi_2 : aM := (RX0, yX0_length, cX0_length, 1, (Option.some Jvm.ClassFile.FieldType.int), false, cd_2)
def mi_3 : aM := (RX0, yX0_callAt, cX0_callAt, 2, (Option.some Jvm.ClassFile.FieldType.int), false, cd_3)
def mi_4 : aM := (RX0, yX0_turn, cX0_turn, 1, (Option.some Jvm.ClassFile.FieldType.int), false, cd_4)
def mi_5 : aM := (RX0, yX0_admits, cX0_admits, 5, (Option.some Jvm.ClassFile.FieldType.boolean), false, cd_5)
def mi_6 : aM := (RX0, yX0_add, cX0_add, 2, none, false, cd_6)
def mi_7 : aM := (RX0, yX0_dropLatest, cX0_dropLatest, 1, (Option.some Jvm.ClassFile.FieldType.boolean), false, cd_7)
def mi_8 : aM := (RX0, yX0_isOver, cX0_isOver, 1, (Option.some Jvm.ClassFile.FieldType.boolean), false, cd_8)
def mi_9 : aM := (RX0, yX0_latestFrom, cX0_latestFrom, 4, (Option.some Jvm.ClassFile.FieldType.int), false, cd_9)
def mi_10 : aM := (RX0, yX0_latestBid, cX0_latestBid, 1, (Option.some Jvm.ClassFile.FieldType.int), false, cd_10)
def mi_11 : aM := (RX0, yX0_level, cX0_level, 2, (Option.some Jvm.ClassFile.FieldType.int), false, cd_11)
def mi_12 : aM := (RX0, yX0_strain, cX0_strain, 2, (Option.some Jvm.ClassFile.FieldType.int), false, cd_12)
def mi_13 : aM := (RX0, yX0_doubling, cX0_doubling, 2, (Option.some Jvm.ClassFile.FieldType.int), false, cd_13)
def mi_14 : aM := (RX0, yX0_declarer, cX0_declarer, 5, (Option.some Jvm.ClassFile.FieldType.int), false, cd_14)
def mi_15 : aM := (RX1, yX1_init, cX1_init, 2, none, false, cd_15)
def mi_16 : aM := (RX1, yX1_give, cX1_give, 4, none, false, cd_16)
def mi_17 : aM := (RX1, yX1_cardsOf, cX1_cardsOf, 2, (Option.some Jvm.ClassFile.FieldType.long), false, cd_17)
def mi_18 : aM := (RX1, yX1_holder, cX1_holder, 3, (Option.some Jvm.ClassFile.FieldType.int), false, cd_18)
def mi_19 : aM := (RX1, yX1_number, cX1_number, 1, (Option.some Jvm.ClassFile.FieldType.int), false, cd_19)
def mi_20 : aM := (RX1, yX1_dealer, cX1_dealer, 1, (Option.some Jvm.ClassFile.FieldType.int), false, cd_20)
def mi_21 : aM := (RX1, yX1_vulnerability, cX1_vulnerability, 2, (Option.some Jvm.ClassFile.FieldType.int), false, cd_21)
def mi_22 : aM := (RX1, yX1_isVulnerable, cX1_isVulnerable, 2, (Option.some Jvm.ClassFile.FieldType.boolean), false, cd_22)
def mi_23 : aM := (RX1, yX1_markBegun, cX1_markBegun, 1, none, false, cd_23)
def mi_24 : aM := (RX1, yX1_wasBegun, cX1_wasBegun, 1, (Option.some Jvm.ClassFile.FieldType.boolean), false, cd_24)
def mi_25 : aM := (RX1, yX1_addResult, cX1_addResult, 1, none, false, cd_25)
def mi_26 : aM := (RX1, yX1_resultsSoFar, cX1_resultsSoFar, 1, (Option.some Jvm.ClassFile.FieldType.int), false, cd_26)
def mi_27 : aM := (RX2, yX2_exists, cX2_exists, 1, (Option.some Jvm.ClassFile.FieldType.boolean), true, cd_27)
def mi_28 : aM := (RX2, yX2_suitOf, cX2_suitOf, 1, (Option.some Jvm.ClassFile.FieldType.int), true, cd_28)
def mi_29 : aM := (RX2, yX2_bitOf, cX2_bitOf, 1, (Option.some Jvm.ClassFile.FieldType.long), true, cd_29)
def mi_30 : aM := (RX2, yX2_has, cX2_has, 3, (Option.some Jvm.ClassFile.FieldType.boolean), true, cd_30)
def mi_31 : aM := (RX2, yX2_onlySuit, cX2_onlySuit, 3, (Option.some Jvm.ClassFile.FieldType.long), true, cd_31)
def mi_32 : aM := (RX2, yX2_choices, cX2_choices, 5, (Option.some Jvm.ClassFile.FieldType.long), true, cd_32)
def mi_33 : aM := (RX2, yX2_beats, cX2_beats, 4, (Option.some Jvm.ClassFile.FieldType.boolean), true, cd_33)
def mi_34 : aM := (RX3, yX3_init, cX3_init, 1, none, false, cd_34)
def mi_35 : aM := (RX3, yX3_load, cX3_load, 4, none, false, cd_35)
def mi_36 : aM := (RX3, yX3_most, cX3_most, 3, (Option.some Jvm.ClassFile.FieldType.int), false, cd_36)
def mi_37 : aM := (RX3, yX3_leastBestCard, cX3_leastBestCard, 8, (Option.some Jvm.ClassFile.FieldType.int), false, cd_37)
def mi_38 : aM := (RX3, yX3_wins, cX3_wins, 18, (Option.some Jvm.ClassFile.FieldType.boolean), false, cd_38)
def mi_39 : aM := (RX3, yX3_winsWith, cX3_winsWith, 12, (Option.some Jvm.ClassFile.FieldType.boolean), false, cd_39)
def mi_40 : aM := (RX3, yX3_winsLast, cX3_winsLast, 9, (Option.some Jvm.ClassFile.FieldType.boolean), false, cd_40)
def mi_41 : aM := (RX3, yX3_othersThan, cX3_othersThan, 5, (Option.some Jvm.ClassFile.FieldType.long), false, cd_41)
def mi_42 : aM := (RX3, yX3_areEqual, cX3_areEqual, 6, (Option.some Jvm.ClassFile.FieldType.boolean), true, cd_42)
def mi_43 : aM := (RX4, yX4_init, cX4_init, 1, none, false, cd_43)
def mi_44 : aM := (RX4, yX4_open, cX4_open, 3, none, false, cd_44)
def mi_45 : aM := (RX4, yX4_length, cX4_length, 1, (Option.some Jvm.ClassFile.FieldType.int), false, cd_45)
def mi_46 : aM := (RX4, yX4_cardAt, cX4_cardAt, 2, (Option.some Jvm.ClassFile.FieldType.int), false, cd_46)
def mi_47 : aM := (RX4, yX4_declarer, cX4_declarer, 1, (Option.some Jvm.ClassFile.FieldType.int), false, cd_47)
def mi_48 : aM := (RX4, yX4_dummy, cX4_dummy, 1, (Option.some Jvm.ClassFile.FieldType.int), false, cd_48)
def mi_49 : aM := (RX4, yX4_trump, cX4_trump, 1, (Option.some Jvm.ClassFile.FieldType.int), false, cd_49)
def mi_50 : aM := (RX4, yX4_gone, cX4_gone, 1, (Option.some Jvm.ClassFile.FieldType.long), false, cd_50)
def mi_51 : aM := (RX4, yX4_inTrick, cX4_inTrick, 1, (Option.some Jvm.ClassFile.FieldType.int), false, cd_51)
def mi_52 : aM := (RX4, yX4_tricksDone, cX4_tricksDone, 1, (Option.some Jvm.ClassFile.FieldType.int), false, cd_52)
def mi_53 : aM := (RX4, yX4_leaderOf, cX4_leaderOf, 2, (Option.some Jvm.ClassFile.FieldType.int), false, cd_53)
def mi_54 : aM := (RX4, yX4_turn, cX4_turn, 1, (Option.some Jvm.ClassFile.FieldType.int), false, cd_54)
def mi_55 : aM := (RX4, yX4_led, cX4_led, 1, (Option.some Jvm.ClassFile.FieldType.int), false, cd_55)
def mi_56 : aM := (RX4, yX4_add, cX4_add, 3, none, false, cd_56)
def mi_57 : aM := (RX4, yX4_dropLatest, cX4_dropLatest, 1, (Option.some Jvm.ClassFile.FieldType.boolean), false, cd_57)
def mi_58 : aM := (RX4, yX4_winningCard, cX4_winningCard, 6, (Option.some Jvm.ClassFile.FieldType.int), false, cd_58)
def mi_59 : aM := (RX4, yX4_winnerFrom, cX4_winnerFrom, 6, (Option.some Jvm.ClassFile.FieldType.int), false, cd_59)
def mi_60 : aM := (RX4, yX4_tricksOf, cX4_tricksOf, 4, (Option.some Jvm.ClassFile.FieldType.int), false, cd_60)
def mi_61 : aM := (RX4, yX4_hasShownOut, cX4_hasShownOut, 6, (Option.some Jvm.ClassFile.FieldType.boolean), false, cd_61)
def mi_62 : aM := (RX5, yX5_init, cX5_init, 4, none, false, cd_62)
def mi_63 : aM := (RX5, yX5_setContract, cX5_setContract, 4, none, false, cd_63)
def mi_64 : aM := (RX5, yX5_setOutcome, cX5_setOutcome, 5, none, false, cd_64)
def mi_65 : aM := (RX5, yX5_setParts, cX5_setParts, 3, none, false, cd_65)
def mi_66 : aM := (RX5, yX5_boardNumber, cX5_boardNumber, 1, (Option.some Jvm.ClassFile.FieldType.int), false, cd_66)
def mi_67 : aM := (RX5, yX5_sideOf, cX5_sideOf, 2, (Option.some Jvm.ClassFile.FieldType.int), false, cd_67)
def mi_68 : aM := (RX5, yX5_scoreOfNorth, cX5_scoreOfNorth, 1, (Option.some Jvm.ClassFile.FieldType.int), false, cd_68)
def mi_69 : aM := (RX5, yX5_isAdjusted, cX5_isAdjusted, 1, (Option.some Jvm.ClassFile.FieldType.boolean), false, cd_69)
def mi_70 : aM := (RX5, yX5_partOf, cX5_partOf, 2, (Option.some Jvm.ClassFile.FieldType.int), false, cd_70)
def mi_71 : aM := (RX5, yX5_tell, cX5_tell, 2, (Option.some Jvm.ClassFile.FieldType.int), false, cd_71)
def mi_72 : aM := (RX5, yX5_appendTo, cX5_appendTo, 3, none, false, cd_72)
def mi_73 : aM := (RX5, yX5_signOf, cX5_signOf, 2, (Option.some Jvm.ClassFile.FieldType.char), true, cd_73)
def mi_74 : aM := (RX6, yX6_ofContract, cX6_ofContract, 7, (Option.some Jvm.ClassFile.FieldType.int), true, cd_74)
def mi_75 : aM := (RX6, yX6_perTrick, cX6_perTrick, 1, (Option.some Jvm.ClassFile.FieldType.int), true, cd_75)
def mi_76 : aM := (RX6, yX6_trickScore, cX6_trickScore, 4, (Option.some Jvm.ClassFile.FieldType.int), true, cd_76)
def mi_77 : aM := (RX6, yX6_slam, cX6_slam, 2, (Option.some Jvm.ClassFile.FieldType.int), true, cd_77)
def mi_78 : aM := (RX6, yX6_overtrick, cX6_overtrick, 3, (Option.some Jvm.ClassFile.FieldType.int), true, cd_78)
def mi_79 : aM := (RX6, yX6_lost, cX6_lost, 4, (Option.some Jvm.ClassFile.FieldType.int), true, cd_79)
def mi_80 : aM := (RX6, yX6_lostDoubled, cX6_lostDoubled, 1, (Option.some Jvm.ClassFile.FieldType.int), true, cd_80)
def mi_81 : aM := (RX6, yX6_stepsOf, cX6_stepsOf, 6, (Option.some Jvm.ClassFile.FieldType.int), true, cd_81)
def mi_82 : aM := (RX7, yX7_init, cX7_init, 1, none, false, cd_82)
def mi_83 : aM := (RX7, yX7_start, cX7_start, 4, none, false, cd_83)
def mi_84 : aM := (RX7, yX7_stop, cX7_stop, 1, none, false, cd_84)
def mi_85 : aM := (RX7, yX7_isBusy, cX7_isBusy, 1, (Option.some Jvm.ClassFile.FieldType.boolean), false, cd_85)
def mi_86 : aM := (RX7, yX7_boardNumber, cX7_boardNumber, 1, (Option.some Jvm.ClassFile.FieldType.int), false, cd_86)
def mi_87 : aM := (RX7, yX7_sideOf, cX7_sideOf, 2, (Option.some Jvm.ClassFile.FieldType.int), false, cd_87)
def mi_88 : aM := (RX7, yX7_auctionIsOver, cX7_auctionIsOver, 1, (Option.some Jvm.ClassFile.FieldType.boolean), false, cd_88)
def mi_89 : aM := (RX7, yX7_hasContract, cX7_hasContract, 1, (Option.some Jvm.ClassFile.FieldType.boolean), false, cd_89)
def mi_90 : aM := (RX7, yX7_isInPlay, cX7_isInPlay, 1, (Option.some Jvm.ClassFile.FieldType.boolean), false, cd_90)
def mi_91 : aM := (RX7, yX7_admitsCall, cX7_admitsCall, 2, (Option.some Jvm.ClassFile.FieldType.boolean), false, cd_91)
def mi_92 : aM := (RX7, yX7_addCall, cX7_addCall, 2, none, false, cd_92)
def mi_93 : aM := (RX7, yX7_choices, cX7_choices, 1, (Option.some Jvm.ClassFile.FieldType.long), false, cd_93)
def mi_94 : aM := (RX7, yX7_admitsCard, cX7_admitsCard, 2, (Option.some Jvm.ClassFile.FieldType.boolean), false, cd_94)
def mi_95 : aM := (RX7, yX7_addCard, cX7_addCard, 2, none, false, cd_95)
def mi_96 : aM := (RX7, yX7_dropLatest, cX7_dropLatest, 1, (Option.some Jvm.ClassFile.FieldType.boolean), false, cd_96)
def mi_97 : aM := (RX7, yX7_callAt, cX7_callAt, 2, (Option.some Jvm.ClassFile.FieldType.int), false, cd_97)
def mi_98 : aM := (RX7, yX7_cardAt, cX7_cardAt, 2, (Option.some Jvm.ClassFile.FieldType.int), false, cd_98)
def mi_99 : aM := (RX7, yX7_cardsInTrick, cX7_cardsInTrick, 1, (Option.some Jvm.ClassFile.FieldType.int), false, cd_99)
def mi_100 : aM := (RX7, yX7_tricksLeft, cX7_tricksLeft, 1, (Option.some Jvm.ClassFile.FieldType.int), false, cd_100)
def mi_101 : aM := (RX7, yX7_heldBy, cX7_heldBy, 2, (Option.some Jvm.ClassFile.FieldType.long), false, cd_101)
def mi_102 : aM := (RX7, yX7_tricks, cX7_tricks, 1, (Option.some (Jvm.ClassFile.FieldType.object "BridgeClub$Play")), false, cd_102)
def mi_103 : aM := (RX7, yX7_isSeenBy, cX7_isSeenBy, 4, (Option.some Jvm.ClassFile.FieldType.boolean), false, cd_103)
def mi_104 : aM := (RX7, yX7_hasShownOut, cX7_hasShownOut, 3, (Option.some Jvm.ClassFile.FieldType.boolean), false, cd_104)
def mi_105 : aM := (RX7, yX7_tell, cX7_tell, 3, (Option.some Jvm.ClassFile.FieldType.int), false, cd_105)
def mi_106 : aM := (RX7, yX7_toResult, cX7_toResult, 4, (Option.some (Jvm.ClassFile.FieldType.object "BridgeClub$Result")), false, cd_106)
def mi_107 : aM := (RX8, yX8_init, cX8_init, 1, none, false, cd_107)
def mi_108 : aM := (RX8, yX8_deal, cX8_deal, 4, (Option.some Jvm.ClassFile.FieldType.int), false, cd_108)
def mi_109 : aM := (RX8, yX8_swap, cX8_swap, 7, (Option.some Jvm.ClassFile.FieldType.boolean), false, cd_109)
def mi_110 : aM := (RX8, yX8_hand, cX8_hand, 4, (Option.some Jvm.ClassFile.FieldType.int), false, cd_110)
def mi_111 : aM := (RX8, yX8_board, cX8_board, 4, (Option.some Jvm.ClassFile.FieldType.int), false, cd_111)
def mi_112 : aM := (RX8, yX8_begin, cX8_begin, 7, (Option.some Jvm.ClassFile.FieldType.boolean), false, cd_112)
def mi_113 : aM := (RX8, yX8_call, cX8_call, 4, (Option.some Jvm.ClassFile.FieldType.int), false, cd_113)
def mi_114 : aM := (RX8, yX8_play, cX8_play, 4, (Option.some Jvm.ClassFile.FieldType.int), false, cd_114)
def mi_115 : aM := (RX8, yX8_claim, cX8_claim, 4, (Option.some Jvm.ClassFile.FieldType.boolean), false, cd_115)
def mi_116 : aM := (RX8, yX8_back, cX8_back, 3, (Option.some Jvm.ClassFile.FieldType.boolean), false, cd_116)
def mi_117 : aM := (RX8, yX8_leave, cX8_leave, 3, (Option.some Jvm.ClassFile.FieldType.boolean), false, cd_117)
def mi_118 : aM := (RX8, yX8_table, cX8_table, 5, (Option.some Jvm.ClassFile.FieldType.int), false, cd_118)
def mi_119 : aM := (RX8, yX8_called, cX8_called, 4, (Option.some Jvm.ClassFile.FieldType.int), false, cd_119)
def mi_120 : aM := (RX8, yX8_played, cX8_played, 4, (Option.some Jvm.ClassFile.FieldType.int), false, cd_120)
def mi_121 : aM := (RX8, yX8_allowed, cX8_allowed, 4, (Option.some Jvm.ClassFile.FieldType.boolean), false, cd_121)
def mi_122 : aM := (RX8, yX8_sees, cX8_sees, 5, (Option.some Jvm.ClassFile.FieldType.boolean), false, cd_122)
def mi_123 : aM := (RX8, yX8_lacks, cX8_lacks, 5, (Option.some Jvm.ClassFile.FieldType.boolean), false, cd_123)
def mi_124 : aM := (RX8, yX8_best, cX8_best, 3, (Option.some Jvm.ClassFile.FieldType.int), false, cd_124)
def mi_125 : aM := (RX8, yX8_bestCard, cX8_bestCard, 3, (Option.some Jvm.ClassFile.FieldType.int), false, cd_125)
def mi_126 : aM := (RX8, yX8_result, cX8_result, 4, (Option.some Jvm.ClassFile.FieldType.int), false, cd_126)
def mi_127 : aM := (RX8, yX8_adjust, cX8_adjust, 5, (Option.some Jvm.ClassFile.FieldType.boolean), false, cd_127)
def mi_128 : aM := (RX8, yX8_score, cX8_score, 7, (Option.some Jvm.ClassFile.FieldType.int), false, cd_128)
def mi_129 : aM := (RX8, yX8_steps, cX8_steps, 3, (Option.some Jvm.ClassFile.FieldType.int), false, cd_129)
def mi_130 : aM := (RX8, yX8_points, cX8_points, 4, (Option.some Jvm.ClassFile.FieldType.int), false, cd_130)
def mi_131 : aM := (RX8, yX8_total, cX8_total, 2, (Option.some Jvm.ClassFile.FieldType.int), false, cd_131)
def mi_132 : aM := (RX8, yX8_top, cX8_top, 2, (Option.some Jvm.ClassFile.FieldType.int), false, cd_132)
def mi_133 : aM := (RX8, yX8_place, cX8_place, 8, (Option.some Jvm.ClassFile.FieldType.int), false, cd_133)
def mi_134 : aM := (RX8, yX8_plan, cX8_plan, 8, (Option.some Jvm.ClassFile.FieldType.int), false, cd_134)
def mi_135 : aM := (RX8, yX8_write, cX8_write, 3, (Option.some Jvm.ClassFile.FieldType.int), false, cd_135)
def mi_136 : aM := (RX8, yX8_out, cX8_out, 2, (Option.some Jvm.ClassFile.FieldType.int), false, cd_136)
def mi_137 : aM := (RX8, yX8_count, cX8_count, 2, (Option.some Jvm.ClassFile.FieldType.int), false, cd_137)
def mi_138 : aM := (RX8, yX8_shuffle, cX8_shuffle, 6, none, false, cd_138)
def mi_139 : aM := (RX8, yX8_boardNumbered, cX8_boardNumbered, 2, (Option.some (Jvm.ClassFile.FieldType.object "BridgeClub$Board")), false, cd_139)
def mi_140 : aM := (RX8, yX8_resultAt, cX8_resultAt, 2, (Option.some (Jvm.ClassFile.FieldType.object "BridgeClub$Result")), false, cd_140)
def mi_141 : aM := (RX8, yX8_busyTable, cX8_busyTable, 3, (Option.some (Jvm.ClassFile.FieldType.object "BridgeClub$Table")), false, cd_141)
def mi_142 : aM := (RX8, yX8_endingTable, cX8_endingTable, 3, (Option.some (Jvm.ClassFile.FieldType.object "BridgeClub$Table")), false, cd_142)
def mi_143 : aM := (RX8, yX8_tableWithBoard, cX8_tableWithBoard, 4, (Option.some Jvm.ClassFile.FieldType.int), false, cd_143)
def mi_144 : aM := (RX8, yX8_busyTables, cX8_busyTables, 3, (Option.some Jvm.ClassFile.FieldType.int), false, cd_144)
def mi_145 : aM := (RX8, yX8_isPair, cX8_isPair, 1, (Option.some Jvm.ClassFile.FieldType.boolean), true, cd_145)
def mi_146 : aM := (RX8, yX8_isPart, cX8_isPart, 1, (Option.some Jvm.ClassFile.FieldType.boolean), true, cd_146)
def mi_147 : aM := (RX8, yX8_isFreeFor, cX8_isFreeFor, 5, (Option.some Jvm.ClassFile.FieldType.boolean), false, cd_147)
def mi_148 : aM := (RX8, yX8_finish, cX8_finish, 4, none, false, cd_148)
def mi_149 : aM := (RX8, yX8_mostOf, cX8_mostOf, 3, (Option.some Jvm.ClassFile.FieldType.int), false, cd_149)
def mi_150 : aM := (RX8, yX8_pointsOf, cX8_pointsOf, 8, (Option.some Jvm.ClassFile.FieldType.int), false, cd_150)
def mi_151 : aM := (RX8, yX8_pointsAgainst, cX8_pointsAgainst, 2, (Option.some Jvm.ClassFile.FieldType.int), true, cd_151)
def mi_152 : aM := (RX8, yX8_hasResult, cX8_hasResult, 4, (Option.some Jvm.ClassFile.FieldType.boolean), false, cd_152)
def mi_153 : aM := (RX8, yX8_pairsWithResult, cX8_pairsWithResult, 3, (Option.some Jvm.ClassFile.FieldType.int), false, cd_153)
def mi_154 : aM := (RX8, yX8_pointsOfPair, cX8_pointsOfPair, 6, (Option.some Jvm.ClassFile.FieldType.int), false, cd_154)
def mi_155 : aM := (RX8, yX8_mostOfPair, cX8_mostOfPair, 5, (Option.some Jvm.ClassFile.FieldType.int), false, cd_155)
def mi_156 : aM := (RX8, yX8_partOver, cX8_partOver, 2, (Option.some Jvm.ClassFile.FieldType.long), false, cd_156)
def mi_157 : aM := (RX8, yX8_partUnder, cX8_partUnder, 3, (Option.some Jvm.ClassFile.FieldType.long), false, cd_157)
def mi_158 : aM := (RX9, yX9_init, cX9_init, 1, none, false, cd_158)
def mi_159 : aM := (RX9, yX9_in, cX9_in, 3, (Option.some Jvm.ClassFile.FieldType.boolean), true, cd_159)
def mi_160 : aM := (RX9, yX9_modulo, cX9_modulo, 3, (Option.some Jvm.ClassFile.FieldType.int), true, cd_160)
def mi_161 : aM := (RX9, yX9_deal, cX9_deal, 7, (Option.some Jvm.ClassFile.FieldType.int), false, cd_161)
def mi_162 : aM := (RX9, yX9_isBoard, cX9_isBoard, 2, (Option.some Jvm.ClassFile.FieldType.boolean), false, cd_162)
def mi_163 : aM := (RX9, yX9_isCard, cX9_isCard, 1, (Option.some Jvm.ClassFile.FieldType.boolean), true, cd_163)
def mi_164 : aM := (RX9, yX9_swap, cX9_swap, 6, (Option.some Jvm.ClassFile.FieldType.boolean), false, cd_164)
def mi_165 : aM := (RX9, yX9_hand, cX9_hand, 3, (Option.some Jvm.ClassFile.FieldType.int), false, cd_165)
def mi_166 : aM := (RX9, yX9_dealer, cX9_dealer, 1, (Option.some Jvm.ClassFile.FieldType.int), true, cd_166)
def mi_167 : aM := (RX9, yX9_vulnerable, cX9_vulnerable, 2, (Option.some Jvm.ClassFile.FieldType.int), true, cd_167)
def mi_168 : aM := (RX9, yX9_isVulnerable, cX9_isVulnerable, 3, (Option.some Jvm.ClassFile.FieldType.boolean), true, cd_168)
def mi_169 : aM := (RX9, yX9_tableOf, cX9_tableOf, 3, (Option.some Jvm.ClassFile.FieldType.int), false, cd_169)
def mi_170 : aM := (RX9, yX9_resultsOf, cX9_resultsOf, 4, (Option.some Jvm.ClassFile.FieldType.int), false, cd_170)
def mi_171 : aM := (RX9, yX9_board, cX9_board, 3, (Option.some Jvm.ClassFile.FieldType.int), false, cd_171)
def mi_172 : aM := (RX9, yX9_isPlaying, cX9_isPlaying, 3, (Option.some Jvm.ClassFile.FieldType.boolean), false, cd_172)
def mi_173 : aM := (RX9, yX9_hasPlayed, cX9_hasPlayed, 4, (Option.some Jvm.ClassFile.FieldType.boolean), false, cd_173)
def mi_174 : aM := (RX9, yX9_begin, cX9_begin, 5, (Option.some Jvm.ClassFile.FieldType.boolean), false, cd_174)
def mi_175 : aM := (RX9, yX9_phaseOf, cX9_phaseOf, 2, (Option.some Jvm.ClassFile.FieldType.int), false, cd_175)
def mi_176 : aM := (RX9, yX9_callAt, cX9_callAt, 3, (Option.some Jvm.ClassFile.FieldType.int), false, cd_176)
def mi_177 : aM := (RX9, yX9_callerOf, cX9_callerOf, 3, (Option.some Jvm.ClassFile.FieldType.int), false, cd_177)
def mi_178 : aM := (RX9, yX9_latestCall, cX9_latestCall, 3, (Option.some Jvm.ClassFile.FieldType.int), false, cd_178)
def mi_179 : aM := (RX9, yX9_latestBid, cX9_latestBid, 3, (Option.some Jvm.ClassFile.FieldType.int), false, cd_179)
def mi_180 : aM := (RX9, yX9_doubled, cX9_doubled, 3, (Option.some Jvm.ClassFile.FieldType.int), false, cd_180)
def mi_181 : aM := (RX9, yX9_mayCall, cX9_mayCall, 6, (Option.some Jvm.ClassFile.FieldType.boolean), false, cd_181)
def mi_182 : aM := (RX9, yX9_level, cX9_level, 2, (Option.some Jvm.ClassFile.FieldType.int), false, cd_182)
def mi_183 : aM := (RX9, yX9_strain, cX9_strain, 2, (Option.some Jvm.ClassFile.FieldType.int), false, cd_183)
def mi_184 : aM := (RX9, yX9_declarer, cX9_declarer, 4, (Option.some Jvm.ClassFile.FieldType.int), false, cd_184)
def mi_185 : aM := (RX9, yX9_call, cX9_call, 4, (Option.some Jvm.ClassFile.FieldType.int), false, cd_185)
def mi_186 : aM := (RX9, yX9_suit, cX9_suit, 1, (Option.some Jvm.ClassFile.FieldType.int), true, cd_186)
def mi_187 : aM := (RX9, yX9_beats, cX9_beats, 3, (Option.some Jvm.ClassFile.FieldType.boolean), true, cd_187)
def mi_188 : aM := (RX9, yX9_goThrough, cX9_goThrough, 5, none, false, cd_188)
def mi_189 : aM := (RX9, yX9_turn, cX9_turn, 2, (Option.some Jvm.ClassFile.FieldType.int), false, cd_189)
def mi_190 : aM := (RX9, yX9_wasPlayed, cX9_wasPlayed, 4, (Option.some Jvm.ClassFile.FieldType.boolean), false, cd_190)
def mi_191 : aM := (RX9, yX9_holds, cX9_holds, 4, (Option.some Jvm.ClassFile.FieldType.boolean), false, cd_191)
def mi_192 : aM := (RX9, yX9_mayPlay, cX9_mayPlay, 6, (Option.some Jvm.ClassFile.FieldType.boolean), false, cd_192)
def mi_193 : aM := (RX9, yX9_play, cX9_play, 3, (Option.some Jvm.ClassFile.FieldType.int), false, cd_193)
def mi_194 : aM := (RX9, yX9_claim, cX9_claim, 3, (Option.some Jvm.ClassFile.FieldType.boolean), false, cd_194)
def mi_195 : aM := (RX9, yX9_back, cX9_back, 2, (Option.some Jvm.ClassFile.FieldType.boolean), false, cd_195)
def mi_196 : aM := (RX9, yX9_leave, cX9_leave, 2, (Option.some Jvm.ClassFile.FieldType.boolean), false, cd_196)
def mi_197 : aM := (RX9, yX9_ends, cX9_ends, 7, none, false, cd_197)
def mi_198 : aM := (RX9, yX9_table, cX9_table, 6, (Option.some Jvm.ClassFile.FieldType.int), false, cd_198)
def mi_199 : aM := (RX9, yX9_called, cX9_called, 3, (Option.some Jvm.ClassFile.FieldType.int), false, cd_199)
def mi_200 : aM := (RX9, yX9_played, cX9_played, 3, (Option.some Jvm.ClassFile.FieldType.int), false, cd_200)
def mi_201 : aM := (RX9, yX9_allowed, cX9_allowed, 3, (Option.some Jvm.ClassFile.FieldType.boolean), false, cd_201)
def mi_202 : aM := (RX9, yX9_sees, cX9_sees, 5, (Option.some Jvm.ClassFile.FieldType.boolean), false, cd_202)
def mi_203 : aM := (RX9, yX9_lacks, cX9_lacks, 6, (Option.some Jvm.ClassFile.FieldType.boolean), false, cd_203)
def mi_204 : aM := (RX9, yX9_taken, cX9_taken, 5, (Option.some Jvm.ClassFile.FieldType.int), false, cd_204)
def mi_205 : aM := (RX9, yX9_search, cX9_search, 11, (Option.some Jvm.ClassFile.FieldType.int), false, cd_205)
def mi_206 : aM := (RX9, yX9_layOut, cX9_layOut, 6, (Option.some Jvm.ClassFile.FieldType.int), false, cd_206)
def mi_207 : aM := (RX9, yX9_best, cX9_best, 3, (Option.some Jvm.ClassFile.FieldType.int), false, cd_207)
def mi_208 : aM := (RX9, yX9_bestCard, cX9_bestCard, 7, (Option.some Jvm.ClassFile.FieldType.int), false, cd_208)
def mi_209 : aM := (RX9, yX9_score, cX9_score, 10, (Option.some Jvm.ClassFile.FieldType.int), false, cd_209)
def mi_210 : aM := (RX9, yX9_lost, cX9_lost, 5, (Option.some Jvm.ClassFile.FieldType.int), true, cd_210)
def mi_211 : aM := (RX9, yX9_steps, cX9_steps, 9, (Option.some Jvm.ClassFile.FieldType.int), false, cd_211)
def mi_212 : aM := (RX9, yX9_isResult, cX9_isResult, 2, (Option.some Jvm.ClassFile.FieldType.boolean), false, cd_212)
def mi_213 : aM := (RX9, yX9_result, cX9_result, 3, (Option.some Jvm.ClassFile.FieldType.int), false, cd_213)
def mi_214 : aM := (RX9, yX9_adjust, cX9_adjust, 4, (Option.some Jvm.ClassFile.FieldType.boolean), false, cd_214)
def mi_215 : aM := (RX9, yX9_points, cX9_points, 6, (Option.some Jvm.ClassFile.FieldType.int), false, cd_215)
def mi_216 : aM := (RX9, yX9_hasResult, cX9_hasResult, 3, (Option.some Jvm.ClassFile.FieldType.boolean), false, cd_216)
def mi_217 : aM := (RX9, yX9_total, cX9_total, 4, (Option.some Jvm.ClassFile.FieldType.int), false, cd_217)
def mi_218 : aM := (RX9, yX9_top, cX9_top, 4, (Option.some Jvm.ClassFile.FieldType.int), false, cd_218)
def mi_219 : aM := (RX9, yX9_place, cX9_place, 12, (Option.some Jvm.ClassFile.FieldType.int), false, cd_219)
def mi_220 : aM := (RX9, yX9_plan, cX9_plan, 6, (Option.some Jvm.ClassFile.FieldType.int), false, cd_220)
def mi_221 : aM := (RX9, yX9_puts, cX9_puts, 2, none, false, cd_221)
def mi_222 : aM := (RX9, yX9_write, cX9_write, 4, (Option.some Jvm.ClassFile.FieldType.int), false, cd_222)
def mi_223 : aM := (RX9, yX9_out, cX9_out, 2, (Option.some Jvm.ClassFile.FieldType.int), false, cd_223)
def mi_224 : aM := (RX9, yX9_count, cX9_count, 4, (Option.some Jvm.ClassFile.FieldType.int), false, cd_224)
def mi_225 : aM := (RL, yL_law, cL_law, 4, ret, true, cd_225)
def mi_226 : aM := (RJ13, yJ13_bitCount_95d88, cJ13_bitCount_95d88, 2, (Option.some Jvm.ClassFile.FieldType.int), true, cd_226)
def mi_227 : aM := (RJ9, yJ9_floorMod_7cf53, cJ9_floorMod_7cf53, 3, (Option.some Jvm.ClassFile.FieldType.int), true, cd_227)
def mi_228 : aM := (RJ9, yJ9_abs_0f7a4, cJ9_abs_0f7a4, 1, (Option.some Jvm.ClassFile.FieldType.int), true, cd_228)
def mi_229 : aM := (RJ9, yJ9_min_7cf53, cJ9_min_7cf53, 2, (Option.some Jvm.ClassFile.FieldType.int), true, cd_229)
def mi_230 : aM := (RJ4, yJ4_init_da8c8, cJ4_init_da8c8, 1, none, false, cd_230)
def mi_231 : aM := (RJ5, yJ5_init_d00df, cJ5_init_d00df, 2, none, false, cd_231)
def mi_232 : aM := (RJ4, yJ4_length_8abf5, cJ4_length_8abf5, 1, (Option.some Jvm.ClassFile.FieldType.int), false, cd_232)
def mi_233 : aM := (RJ5, yJ5_length_8abf5, cJ5_length_8abf5, 1, (Option.some Jvm.ClassFile.FieldType.int), false, cd_233)
def mi_234 : aM := (RJ4, yJ4_charAt_5068e, cJ4_charAt_5068e, 2, (Option.some Jvm.ClassFile.FieldType.char), false, cd_234)
def mi_235 : aM := (RJ5, yJ5_charAt_5068e, cJ5_charAt_5068e, 5, (Option.some Jvm.ClassFile.FieldType.char), false, cd_235)
def mi_236 : aM := (RJ4, yJ4_setLength_d00df, cJ4_setLength_d00df, 2, none, false, cd_236)
def mi_237 : aM := (RJ5, yJ5_setLength_d00df, cJ5_setLength_d00df, 2, none, false, cd_237)
def mi_238 : aM := (RJ5, yJ5_ensureCapacityInternal_d00df, cJ5_ensureCapacityInternal_d00df, 3, none, false, cd_238)
def mi_239 : aM := (RJ5, yJ5_isLatin1_aae02, cJ5_isLatin1_aae02, 1, (Option.some Jvm.ClassFile.FieldType.boolean), false, cd_239)
def mi_240 : aM := (RJ4, yJ4_append_cf468, cJ4_append_cf468, 2, (Option.some (Jvm.ClassFile.FieldType.object "java/lang/StringBuilder")), false, cd_240)
def mi_241 : aM := (RJ5, yJ5_append_3fe6f, cJ5_append_3fe6f, 2, (Option.some (Jvm.ClassFile.FieldType.object "java/lang/AbstractStringBuilder")), false, cd_241)
def mi_242 : aM := (RJ1, yJ1_canEncode_fc78d, cJ1_canEncode_fc78d, 1, (Option.some Jvm.ClassFile.FieldType.boolean), true, cd_242)
def mi_243 : aM := (RJ4, yJ4_append_bf812, cJ4_append_bf812, 2, (Option.some (Jvm.ClassFile.FieldType.object "java/lang/StringBuilder")), false, cd_243)
def mi_244 : aM := (RJ5, yJ5_append_c97b9, cJ5_append_c97b9, 4, (Option.some (Jvm.ClassFile.FieldType.object "java/lang/AbstractStringBuilder")), false, cd_244)
def mi_245 : aM := (RJ6, yJ6_stringSize_0f7a4, cJ6_stringSize_0f7a4, 4, (Option.some Jvm.ClassFile.FieldType.int), true, cd_245)
def mi_246 : aM := (RJ6, yJ6_getChars_ba4f3, cJ6_getChars_ba4f3, 7, (Option.some Jvm.ClassFile.FieldType.int), true, cd_246)
def mi_247 : aM := (RJ4, yJ4_append_15ec4, cJ4_append_15ec4, 2, (Option.some (Jvm.ClassFile.FieldType.object "java/lang/StringBuilder")), false, cd_247)
def mi_248 : aM := (RJ5, yJ5_append_cf1ce, cJ5_append_cf1ce, 3, (Option.some (Jvm.ClassFile.FieldType.object "java/lang/AbstractStringBuilder")), false, cd_248)
def mi_249 : aM := (RJ5, yJ5_putStringAt_47b60, cJ5_putStringAt_47b60, 3, none, false, cd_249)
def mi_250 : aM := (RJ5, yJ5_inflateIfNeededFor_a7421, cJ5_inflateIfNeededFor_a7421, 2, none, false, cd_250)
def mi_251 : aM := (RJ0, yJ0_getBytes_840e7, cJ0_getBytes_840e7, 4, none, false, cd_251)
def mi_252 : aM := (RJ0, yJ0_coder_7d493, cJ0_coder_7d493, 1, (Option.some Jvm.ClassFile.FieldType.byte), false, cd_252)
def mi_253 : aM := (RJ0, yJ0_length_8abf5, cJ0_length_8abf5, 1, (Option.some Jvm.ClassFile.FieldType.int), false, cd_253)
def mi_254 : aM := (RJ0, yJ0_charAt_5068e, cJ0_charAt_5068e, 2, (Option.some Jvm.ClassFile.FieldType.char), false, cd_254)
def mi_255 : aM := (RJ0, yJ0_isLatin1_aae02, cJ0_isLatin1_aae02, 1, (Option.some Jvm.ClassFile.FieldType.boolean), false, cd_255)
def mi_256 : aM := (RJ0, yJ0_checkIndex_df160, cJ0_checkIndex_df160, 2, none, true, cd_256)
def mi_257 : aM := (RJ1, yJ1_charAt_3b067, cJ1_charAt_3b067, 2, (Option.some Jvm.ClassFile.FieldType.char), true, cd_257)
def mi_258 : aM := (RJ3, yJ3_checkIndex_8e157, cJ3_checkIndex_8e157, 3, (Option.some Jvm.ClassFile.FieldType.int), true, cd_258)
def pgL : List aM := [mi_0, mi_1, mi_2, mi_3, mi_4, mi_5, mi_6, mi_7, mi_8, mi_9, mi_10, mi_11, mi_12, mi_13, mi_14, mi_15, mi_16, mi_17, mi_18, mi_19, mi_20, mi_21, mi_22, mi_23, mi_24, mi_25, mi_26, mi_27, mi_28, mi_29, mi_30, mi_31, mi_32, mi_33, mi_34, mi_35, mi_36, mi_37, mi_38, mi_39, mi_40, mi_41, mi_42, mi_43, mi_44, mi_45, mi_46, mi_47, mi_48, mi_49, mi_50, mi_51, mi_52, mi_53, mi_54, mi_55, mi_56, mi_57, mi_58, mi_59, mi_60, mi_61, mi_62, mi_63, mi_64, mi_65, mi_66, mi_67, mi_68, mi_69, mi_70, mi_71, mi_72, mi_73, mi_74, mi_75, mi_76, mi_77, mi_78, mi_79, mi_80, mi_81, mi_82, mi_83, mi_84, mi_85, mi_86, mi_87, mi_88, mi_89, mi_90, mi_91, mi_92, mi_93, mi_94, mi_95, mi_96, mi_97, mi_98, mi_99, mi_100, mi_101, mi_102, mi_103, mi_104, mi_105, mi_106, mi_107, mi_108, mi_109, mi_110, mi_111, mi_112, mi_113, mi_114, mi_115, mi_116, mi_117, mi_118, mi_119, mi_120, mi_121, mi_122, mi_123, mi_124, mi_125, mi_126, mi_127, mi_128, mi_129, mi_130, mi_131, mi_132, mi_133, mi_134, mi_135, mi_136, mi_137, mi_138, mi_139, mi_140, mi_141, mi_142, mi_143, mi_144, mi_145, mi_146, mi_147, mi_148, mi_149, mi_150, mi_151, mi_152, mi_153, mi_154, mi_155, mi_156, mi_157, mi_158, mi_159, mi_160, mi_161, mi_162, mi_163, mi_164, mi_165, mi_166, mi_167, mi_168, mi_169, mi_170, mi_171, mi_172, mi_173, mi_174, mi_175, mi_176, mi_177, mi_178, mi_179, mi_180, mi_181, mi_182, mi_183, mi_184, mi_185, mi_186, mi_187, mi_188, mi_189, mi_190, mi_191, mi_192, mi_193, mi_194, mi_195, mi_196, mi_197, mi_198, mi_199, mi_200, mi_201, mi_202, mi_203, mi_204, mi_205, mi_206, mi_207, mi_208, mi_209, mi_210, mi_211, mi_212, mi_213, mi_214, mi_215, mi_216, mi_217, mi_218, mi_219, mi_220, mi_221, mi_222, mi_223, mi_224, mi_0, mi_226, mi_227, mi_228, mi_229, mi_230, mi_231, mi_232, mi_233, mi_234, mi_235, mi_236, mi_237, mi_238, mi_239, mi_240, mi_241, mi_242, mi_243, mi_244, mi_245, mi_246, mi_247, mi_248, mi_249, mi_250, mi_251, mi_252, mi_253, mi_254, mi_255, mi_256, mi_257, mi_258]
def pg (j : Nat) : Option aM := pgL[j]?
end
section
/-! ===== how the AM's heap, locals and stack stand in the machine's ===== -/
abbrev aG : Type := State × (Nat → Nat) × (Nat → ClassId) × va_G
def ad (G : aG) (k : Nat) : Nat := if k < 16 then G.2.1 k else G.1.heap.size + (k - 16)
def up (G : aG) (v : Value) : Value := match v with
  | .ref a => .ref (ad G a)
  | v => v
def trU (G : aG) (u : vp_A) : vp_A := match u.2 with
  | .inr (.inr (.inr (.inr f))) => (u.1, .inr (.inr (.inr (.inr (fun j => (f j).map (ad G))))))
  | _ => u
def trE (G : aG) (e : va_E) : va_E := match e with
  | .inl (t, u) => .inl (G.2.2.1 t, trU G u)
  | .inr (ci, fs) => .inr (ci, fs.map (up G))
def aTys (G : aG) : List (ClassId × FieldType) := (List.range 7).map (fun t => (G.2.2.1 t, aTy t))
abbrev aOld (G : aG) : Nat → Prop := fun q => G.1.heap.size ≤ q
/-- what the statics hold -/
def aSt (G : aG) : Prop := ∀ q ∈ aSta, (q.2.2.2.2 = 0 → va_Z q.1 q.2.1 q.2.2.1 (.ref (ad G q.2.2.2.1)) (aOld G) G.1 G.1.heap) ∧ (q.2.2.2.2 = 1 → va_Z q.1 q.2.1 q.2.2.1 (.int (Int32.ofNat q.2.2.2.1)) (aOld G) G.1 G.1.heap) ∧ (q.2.2.2.2 = 2 → va_Z q.1 q.2.1 q.2.2.1 .null (aOld G) G.1 G.1.heap ∨ va_Z q.1 q.2.1 q.2.2.1 (.ref (ad G q.2.2.2.1)) (aOld G) G.1 G.1.heap)
/-- the String constants are loaded -/
def aSr (G : aG) (U : State) : Prop := ∀ q ∈ aStr, vk_R q.1 q.2.1 q.2.2.1 (ad G q.2.2.2) U
def aV (G : aG) (U : State) : Prop := G.1.vm.Alike U.vm ∧ va_K G.2.2.2 aCls (aTys G) U ∧ (∀ w ∈ aNw, va_Nw w U) ∧ va_AO RX1 U ∧ va_AO RX7 U ∧ va_AO RX5 U ∧ aSt G ∧ aSr G U
def aCst (G : aG) (k : Nat) (e : va_E) : Prop := match e with
  | .inl (t, n, .inl f) => va_T (aTy t) (G.2.1 k) n (fun j => .int (f j)) (fun q => G.1.heap.size ≤ q) G.1 G.1.heap
  | _ => False
/-- a String constant -/
def aCO (G : aG) (k : Nat) (fs : List Value) : Prop := va_O RJ0 (G.2.1 k) (aOld G) G.1 G.1.heap ∧ ∃ b, b < 16 ∧ fs = [.ref b, .int 0] ∧ va_OF RJ0 "value" "[B" (.ref (G.2.1 b)) (G.2.1 k) (aOld G) G.1 G.1.heap ∧ va_OF RJ0 "coder" "B" (.int 0) (G.2.1 k) (aOld G) G.1 G.1.heap
def aHp (G : aG) (H : Heap) (h : aH) : Prop := 16 ≤ h.2 ∧ H.size = G.1.heap.size + (h.2 - 16) ∧ (∀ q, q < G.1.heap.size → H[q]? = G.1.heap[q]?) ∧ (∀ k, 16 ≤ k → k < h.2 → va_at G.2.2.2 aCls (ad G k, trE G (h.1 k)) H) ∧ (∀ k e, k < 16 → h.1 k = .inl e → aCst G k (h.1 k)) ∧ ∀ k fs, k < 16 → h.1 k = .inr (9, fs) → aCO G k fs
def aLv (G : aG) (ls : Array Slot) (n : Nat) (l : aL) : Prop := ls.size = n ∧ l.length = n ∧ lv_wf ls ∧ ∀ (i : Nat) (v : Value), l[i]? = some (some v) → ls[i]? = some (Slot.val (up G v))
def aLs (G : aG) (l : aL) : List (Nat × Value) := (List.range l.length).filterMap (fun i => match l[i]? with
  | some (some v) => some (i, up G v)
  | _ => none)
theorem ad_hi {G : aG} {k : Nat} (h : 16 ≤ k) : ad G k = G.1.heap.size + (k - 16) := by unfold ad; rw [if_neg (by omega)]
theorem ad_lo {G : aG} {k : Nat} (h : k < 16) : ad G k = G.2.1 k := by unfold ad; rw [if_pos h]
theorem up_cat (G : aG) (v : Value) : (up G v).category = v.category := by cases v <;> rfl
theorem up_cats (G : aG) (vs : List Value) : ((vs.map (up G)).map fun v => v.category).sum = aCat vs := by
  unfold aCat
  rw [List.map_map]
  congr 1
  apply List.map_congr_left
  intro v _
  exact up_cat G v
theorem up_fit {G : aG} {ty : FieldType} {v : Value} (h1 : narrow ty v = v) (h2 : fits ty v = true) : narrow ty (up G v) = up G v ∧ fits ty (up G v) = true := by
  cases v with
  | ref a =>
    cases ty <;> first | exact ⟨rfl, rfl⟩ | exact absurd h2 (by simp [fits])
  | _ => exact ⟨h1, h2⟩
theorem up_rf (G : aG) (r : Option Nat) : up G (aRef r) = va_rf (r.map (ad G)) := by cases r <;> rfl
theorem aTys_at (G : aG) {t : Nat} (h : t < 7) : (aTys G)[t]? = some (G.2.2.1 t, aTy t) := by
  unfold aTys
  rw [List.getElem?_map, List.getElem?_range h]
  rfl
theorem aHp.at {G : aG} {H : Heap} {h : aH} (X : aHp G H h) {k : Nat} {e : va_E} (h1 : 16 ≤ k) (h2 : k < h.2) (he : h.1 k = e) : va_at G.2.2.2 aCls (ad G k, trE G e) H := by
  subst he; exact X.2.2.2.1 k h1 h2
theorem aHp.put {G : aG} {H H' : Heap} {h : aH} (X : aHp G H h) {a : Nat} {e : va_E} (h1 : 16 ≤ a) (h2 : a < h.2) (hz : H'.size = H.size) (ho : ∀ q, q ≠ ad G a → H'[q]? = H[q]?) (he : va_at G.2.2.2 aCls (ad G a, trE G e) H') : aHp G H' (aUp h a e) := by
  obtain ⟨x1, x2, x3, x4, x5, x6⟩ := X
  refine ⟨x1, hz.trans x2, fun q hq => ?_, fun k k1 k2 => ?_, fun k u k1 hu => ?_, fun k u k1 hu => ?_⟩
  · rw [ho q (by rw [ad_hi h1]; omega)]; exact x3 q hq
  · by_cases hk : k = a
    · subst hk
      show va_at _ _ (_, trE G (va_up h.1 k e k)) _
      rw [va_up_self]; exact he
    · show va_at _ _ (_, trE G (va_up h.1 a e k)) _
      rw [va_up_ne _ _ hk]
      exact (x4 k k1 k2).kept (ho _ (by show ad G k ≠ ad G a; rw [ad_hi k1, ad_hi h1]; omega))
  · have hk : k ≠ a := by omega
    have : (aUp h a e).1 k = h.1 k := va_up_ne _ _ hk
    rw [this] at hu ⊢
    exact x5 k u k1 hu
  · have hk : k ≠ a := by omega
    have : (aUp h a e).1 k = h.1 k := va_up_ne _ _ hk
    rw [this] at hu
    exact x6 k u k1 hu
theorem aHp.new {G : aG} {H H' : Heap} {h : aH} (X : aHp G H h) {e : va_E} (hz : H'.size = H.size + 1) (ho : ∀ q, q < H.size → H'[q]? = H[q]?) (he : va_at G.2.2.2 aCls (H.size, trE G e) H') : aHp G H' (aNew h e) := by
  obtain ⟨x1, x2, x3, x4, x5, x6⟩ := X
  refine ⟨Nat.le_succ_of_le x1, ?_, fun q hq => ?_, fun k k1 k2 => ?_, fun k u k1 hu => ?_, fun k u k1 hu => ?_⟩
  · show _ = _ + (h.2 + 1 - 16); omega
  · rw [ho q (by omega)]; exact x3 q hq
  · by_cases hk : k = h.2
    · subst hk
      show va_at _ _ (_, trE G (va_up h.1 h.2 e h.2)) _
      rw [va_up_self, ad_hi k1, ← x2]; exact he
    · show va_at _ _ (_, trE G (va_up h.1 h.2 e k)) _
      have k2' : k < h.2 + 1 := k2
      rw [va_up_ne _ _ hk]
      exact (x4 k k1 (by omega)).kept (ho _ (by show ad G k < _; rw [ad_hi k1]; omega))
  · have hk : k ≠ h.2 := by omega
    have : (aNew h e).1 k = h.1 k := va_up_ne _ _ hk
    rw [this] at hu ⊢
    exact x5 k u k1 hu
  · have hk : k ≠ h.2 := by omega
    have : (aNew h e).1 k = h.1 k := va_up_ne _ _ hk
    rw [this] at hu
    exact x6 k u k1 hu
theorem aHp.ref {G : aG} {H : Heap} {h : aH} (X : aHp G H h) : ad G h.2 = H.size := by rw [ad_hi X.1, X.2.1]
theorem aLs_mem {G : aG} {l : aL} {i : Nat} {v : Value} (h : l[i]? = some (some v)) : (i, up G v) ∈ aLs G l := by
  refine List.mem_filterMap.mpr ⟨i, List.mem_range.mpr ?_, ?_⟩
  · exact (List.getElem?_eq_some_iff.mp h).1
  · rw [h]
theorem aLv.has {G : aG} {ls : Array Slot} {n : Nat} {l : aL} (h : aLv G ls n l) : lv_has ls n (aLs G l) := by
  refine ⟨h.1, h.2.2.1, fun q hq => ?_⟩
  obtain ⟨i, -, hi⟩ := List.mem_filterMap.mp hq
  split at hi
  · rename_i v hv
    cases hi
    exact h.2.2.2 i v hv
  · cases hi
theorem aLv.at {G : aG} {ls : Array Slot} {n : Nat} {l : aL} (h : aLv G ls n l) {i : Nat} {v : Value} (hi : l[i]? = some (some v)) : ls[i]? = some (.val (up G v)) := h.2.2.2 i v hi
theorem aClr_len (l : aL) (i : Nat) : (aClr l i).length = l.length := by
  cases i with
  | zero => rfl
  | succ i =>
    rw [show aClr l (i + 1) = (match l[i]? with
      | some (some (.long _)) => l.set i none
      | some (some (.double _)) => l.set i none
      | _ => l) from rfl]
    split
    · exact List.length_set
    · exact List.length_set
    · rfl
theorem aClr_at {l : aL} {i j : Nat} {v : Value} (h : (aClr l i)[j]? = some (some v)) : l[j]? = some (some v) ∧ ¬ (j + 1 = i ∧ v.category = 2) := by
  cases i with
  | zero => exact ⟨h, by omega⟩
  | succ i =>
    rw [show aClr l (i + 1) = (match l[i]? with
      | some (some (.long _)) => l.set i none
      | some (some (.double _)) => l.set i none
      | _ => l) from rfl] at h
    split at h
    · rename_i x hx
      by_cases hj : j = i
      · subst hj
        rw [List.getElem?_set_self (List.getElem?_eq_some_iff.mp hx).1] at h
        cases h
      · rw [List.getElem?_set_ne (fun q => hj q.symm)] at h
        exact ⟨h, fun q => hj (by omega)⟩
    · rename_i x hx
      by_cases hj : j = i
      · subst hj
        rw [List.getElem?_set_self (List.getElem?_eq_some_iff.mp hx).1] at h
        cases h
      · rw [List.getElem?_set_ne (fun q => hj q.symm)] at h
        exact ⟨h, fun q => hj (by omega)⟩
    · rename_i hx hx2
      refine ⟨h, fun q => ?_⟩
      have hj : j = i := by omega
      subst hj
      cases v with
      | long x => exact hx x h
      | double x => exact hx2 x h
      | _ => exact absurd q.2 (by simp [Value.category])
theorem aSet_len (l : aL) (i : Nat) (v : Value) : (aSet l i v).length = l.length := by
  unfold aSet
  split <;> simp [aClr_len]
theorem aLv.set1 {G : aG} {ls' : Array Slot} {n : Nat} {l : aL} {i : Nat} {v : Value} (hn : l.length = n) (hi : i < n) (hc : v.category = 1) (h : lv_has ls' n ((i, up G v) :: (aLs G l).filter (fun q => !(q.1 == i) && !(q.1 + 1 == i && q.2.category == 2)))) : aLv G ls' n (aSet l i v) := by
  refine ⟨h.1, (aSet_len l i v).trans hn, h.2.1, fun j w hj => ?_⟩
  have hs : aSet l i v = (aClr l i).set i (some v) := by
    cases v <;> first | rfl | simp [Value.category] at hc
  rw [hs] at hj
  by_cases hji : j = i
  · subst hji
    rw [List.getElem?_set_self (by rw [aClr_len]; omega)] at hj
    cases hj
    exact h.2.2 (j, up G v) List.mem_cons_self
  · rw [List.getElem?_set_ne (fun q => hji q.symm)] at hj
    obtain ⟨h1, h2⟩ := aClr_at hj
    refine h.2.2 (j, up G w) (List.mem_cons_of_mem _ (List.mem_filter.mpr ⟨aLs_mem h1, ?_⟩))
    simp only [Bool.and_eq_true, Bool.not_eq_true', beq_eq_false_iff_ne, ne_eq, Bool.and_eq_false_iff, up_cat]
    refine ⟨hji, ?_⟩
    by_cases q : j + 1 = i
    · exact Or.inr (fun z => h2 ⟨q, z⟩)
    · exact Or.inl q
theorem aLv.set2 {G : aG} {ls' : Array Slot} {n : Nat} {l : aL} {i : Nat} {x : Int64} (hn : l.length = n) (hi : i + 1 < n) (h : lv_has ls' n ((i, .long x) :: (aLs G l).filter (fun q => !(q.1 == i) && (!(q.1 == i + 1) && !(q.1 + 1 == i && q.2.category == 2))))) : aLv G ls' n (aSet l i (.long x)) := by
  refine ⟨h.1, (aSet_len l i _).trans hn, h.2.1, fun j w hj => ?_⟩
  have hs : aSet l i (.long x) = ((aClr l i).set i (some (.long x))).set (i + 1) none := rfl
  rw [hs] at hj
  by_cases hj1 : j = i + 1
  · subst hj1
    rw [List.getElem?_set_self (by rw [List.length_set, aClr_len]; omega)] at hj
    cases hj
  · rw [List.getElem?_set_ne (fun q => hj1 q.symm)] at hj
    by_cases hji : j = i
    · subst hji
      rw [List.getElem?_set_self (by rw [aClr_len]; omega)] at hj
      cases hj
      exact h.2.2 (j, .long x) List.mem_cons_self
    · rw [List.getElem?_set_ne (fun q => hji q.symm)] at hj
      obtain ⟨h1, h2⟩ := aClr_at hj
      refine h.2.2 (j, up G w) (List.mem_cons_of_mem _ (List.mem_filter.mpr ⟨aLs_mem h1, ?_⟩))
      simp only [Bool.and_eq_true, Bool.not_eq_true', beq_eq_false_iff_ne, ne_eq, Bool.and_eq_false_iff, up_cat]
      refine ⟨hji, hj1, ?_⟩
      by_cases q : j + 1 = i
      · exact Or.inr (fun z => h2 ⟨q, z⟩)
      · exact Or.inl q
theorem aLv.inc {G : aG} {ls' : Array Slot} {n : Nat} {l : aL} {i : Nat} {a b : Int32} (hn : l.length = n) (ha : l[i]? = some (some (.int a))) (h : lv_has ls' n ((i, .int b) :: (aLs G l).filter (fun q => !(q.1 == i) && !(q.1 + 1 == i && q.2.category == 2)))) (hw : ∀ j w, l[j]? = some (some w) → j + 1 = i → ¬ w.category = 2) : aLv G ls' n (l.set i (some (.int b))) := by
  refine ⟨h.1, (List.length_set).trans hn, h.2.1, fun j w hj => ?_⟩
  by_cases hji : j = i
  · subst hji
    rw [List.getElem?_set_self (List.getElem?_eq_some_iff.mp ha).1] at hj
    cases hj
    exact h.2.2 (j, .int b) List.mem_cons_self
  · rw [List.getElem?_set_ne (fun q => hji q.symm)] at hj
    refine h.2.2 (j, up G w) (List.mem_cons_of_mem _ (List.mem_filter.mpr ⟨aLs_mem hj, ?_⟩))
    simp only [Bool.and_eq_true, Bool.not_eq_true', beq_eq_false_iff_ne, ne_eq, Bool.and_eq_false_iff, up_cat]
    refine ⟨hji, ?_⟩
    by_cases q : j + 1 = i
    · exact Or.inr (hw j w hj q)
    · exact Or.inl q
/-- at an int's place no long stands before -/
theorem aLv.noLong {G : aG} {ls : Array Slot} {n : Nat} {l : aL} (h : aLv G ls n l) {i : Nat} {a : Int32} (ha : l[i]? = some (some (.int a))) : ∀ j w, l[j]? = some (some w) → j + 1 = i → ¬ w.category = 2 := by
  intro j w hj hji hc
  have h1 := h.at hj
  have h2 := h.2.2.1.1 j (up G w) h1 (by rw [up_cat]; exact hc)
  rw [hji, h.at ha] at h2
  cases h2
theorem aGet_at {cd : List aE} {k : Nat} {i : Instr} {x y : Nat} (h : aGet cd k = some (i, x, y)) : ∃ len w, cd[k]? = some (aPc cd k, i, len, x, y, w) := by
  unfold aGet at h
  unfold aPc
  split at h
  · rename_i pc i' len x' y' w hk
    cases h
    exact ⟨len, w, by rw [hk]⟩
  · cases h
end
section
/-! ===== the AM's steps are the machine's: instructions without a heap ===== -/
section SIM
variable {G : aG} {pq : Nat → Option aM} {p : Program} {l : Launch} {e : Env} {R : Room} {s : State} {m : MethodId} {args : Array Value} {below : List Frame} {meth : Method} {c : Code} {mi : aM} {Q' : State → Prop}
def aCtx (G : aG) (pq : Nat → Option aM) (p : Program) (s : State) (m : MethodId) (args : Array Value) (meth : Method) (c : Code) (mi : aM) : Prop :=
  p.tables.exec = Jvm.exec ∧ c.code = mi.bs ∧ c.maxLocals = mi.nL ∧ meth.sig.returnType = mi.rt ∧ meth.locks = false ∧ s.vm.findClass mi.own = some m.cls ∧ (mi.ini = true → meth.name = "<init>") ∧ (∀ w ∈ lw_good, w.before args s = true) ∧ aV G s ∧ (∀ k e, mi.cd[k]? = some e → eChk pq mi k e = true) ∧ G.1.heap.size ≤ s.heap.size
def aW (G : aG) (p : Program) (l : Launch) (e : Env) (R : Room) (s : State) (m : MethodId) (args : Array Value) (below : List Frame) (meth : Method) (c : Code) (mi : aM) (Q' : State → Prop) : aP := fun k lo st h c1 s1 =>
  ∀ (H : Heap) (ls : Array Slot) (locs : List Loc), aHp G H h → aLv G ls mi.nL lo → (∀ q ∈ locs, G.1.heap.size ≤ q.base) → W p l e R s m args below meth c H locs c1 s1 Q' (F0 m (aPc mi.cd k) ls (st.map (up G)))
theorem aCtx.at (X : aCtx G pq p s m args meth c mi) {k x y : Nat} {i : Instr} (hg : aGet mi.cd k = some (i, x, y)) (hfk : eFk i = false) : ∃ len w, decode mi.bs (aPc mi.cd k) = .ok (i, len) ∧ (eFall i = true → aPc mi.cd (k + 1) = aPc mi.cd k + len) ∧ (eSw i = false → len = kLen i) ∧ lChk pq mi (aPc mi.cd k) i x y w = true := by
  obtain ⟨len, w, hk⟩ := aGet_at hg
  have h := X.2.2.2.2.2.2.2.2.2.1 k _ hk
  have h0 : eChk pq mi k (aPc mi.cd k, i, len, x, y, w) = (decide (decode mi.bs (aPc mi.cd k) = .ok (i, len)) && (!(eFall i) || decide (aPc mi.cd (k + 1) = aPc mi.cd k + len)) && (eSw i || decide (len = kLen i)) && lChk pq mi (aPc mi.cd k) i x y w) := by
    cases i <;> first | rfl | cases hfk
  rw [h0] at h
  simp only [Bool.and_eq_true, decide_eq_true_eq, Bool.or_eq_true, Bool.not_eq_true'] at h
  obtain ⟨⟨⟨h1, h2⟩, h3⟩, h4⟩ := h
  refine ⟨len, w, h1, fun q => ?_, fun q => ?_, h4⟩
  · rcases h2 with z | z
    · rw [q] at z; cases z
    · exact z
  · rcases h3 with z | z
    · rw [q] at z; cases z
    · exact z
theorem aCtx.go (X : aCtx G pq p s m args meth c mi) {k x y : Nat} {i : Instr} (hg : aGet mi.cd k = some (i, x, y)) (h1 : eFall i = true) (h2 : eSw i = false) : decode mi.bs (aPc mi.cd k) = .ok (i, kLen i) ∧ aPc mi.cd (k + 1) = aPc mi.cd k + kLen i ∧ ∃ w, lChk pq mi (aPc mi.cd k) i x y w = true := by
  obtain ⟨len, w, a, b, d, f⟩ := X.at hg (by cases i <;> first | rfl | cases h1)
  have hl := d h2
  subst hl
  exact ⟨a, b h1, w, f⟩
variable {cl : aC} {C S : Nat} {rt : Option FieldType} {ini : Bool} {Q : aQ}
theorem sm_0 (X : aCtx G pq p s m args meth c mi) : aRul cl mi.cd C S rt ini Q (aW G p l e R s m args below meth c mi Q') 0 := by
  intro k i x y v lo st h c1 s1 hg hf hP H ls locs hH hl hq
  have K := hP H ls locs hH hl hq
  unfold kConst at hf
  split at hf <;> cases hf <;> (obtain ⟨hd, hn, -⟩ := X.go hg rfl rfl; rw [hn] at K)
  · exact lv_iconst X.1 X.2.1 hd rfl K
  · exact lv_bipush X.1 X.2.1 hd rfl K
  · exact lv_sipush X.1 X.2.1 hd rfl K
  · exact lv_lconst X.1 X.2.1 hd rfl K
  · exact lv_null X.1 X.2.1 hd K
theorem sm_1 (X : aCtx G pq p s m args meth c mi) : aRul cl mi.cd C S rt ini Q (aW G p l e R s m args below meth c mi Q') 1 := by
  intro k i x y j t v lo st h c1 s1 hg hf hj ht hP H ls locs hH hl hq
  have K := hP H ls locs hH hl hq
  have hls := hl.at hj
  unfold kLoad at hf
  split at hf <;> cases hf <;> (obtain ⟨hd, hn, -⟩ := X.go hg rfl rfl; rw [hn] at K) <;> cases v <;> first | (simp [kTy] at ht; done) | skip
  · exact lv_iload X.1 X.2.1 hd hls K
  · exact lv_iload_n X.1 X.2.1 hd rfl hls K
  · exact lv_lload X.1 X.2.1 hd hls K
  · exact lv_lload_n X.1 X.2.1 hd rfl hls K
  · exact lv_aloadN X.1 X.2.1 hd hls K
  · exact lv_aload X.1 X.2.1 hd hls K
  · exact lv_aload_nN X.1 X.2.1 hd rfl hls K
  · exact lv_aload_n X.1 X.2.1 hd rfl hls K
theorem sm_2 (X : aCtx G pq p s m args meth c mi) : aRul cl mi.cd C S rt ini Q (aW G p l e R s m args below meth c mi Q') 2 := by
  intro k i x y j t v lo st h c1 s1 hg hf ht hj hP H ls locs hH hl hq
  have K := fun ls' hl' => hP H ls' locs hH hl' hq
  have hlen := hl.2.1
  unfold kStore at hf
  split at hf <;> cases hf <;> (obtain ⟨hd, hn, -⟩ := X.go hg rfl rfl; rw [hn] at K) <;> cases v <;> first | (simp [kTy] at ht; done) | skip
  · exact lv_istore X.1 X.2.1 hd hl.has (by omega) rfl (fun ls' h' => K ls' (aLv.set1 hlen (by omega) rfl h'))
  · exact lv_istore_n X.1 X.2.1 hd rfl hl.has (by omega) rfl (fun ls' h' => K ls' (aLv.set1 hlen (by omega) rfl h'))
  · exact lv_lstore X.1 X.2.1 hd hl.has (by omega) rfl (fun ls' h' => K ls' (aLv.set2 hlen (by omega) h'))
  · exact lv_lstore_n X.1 X.2.1 hd rfl hl.has (by omega) rfl (fun ls' h' => K ls' (aLv.set2 hlen (by omega) h'))
  · exact lv_astoreN X.1 X.2.1 hd hl.has (by omega) rfl (fun ls' h' => K ls' (aLv.set1 hlen (by omega) rfl h'))
  · exact lv_astore X.1 X.2.1 hd hl.has (by omega) rfl (fun ls' h' => K ls' (aLv.set1 hlen (by omega) rfl h'))
  · exact lv_astore_nN X.1 X.2.1 hd rfl hl.has (by omega) rfl (fun ls' h' => K ls' (aLv.set1 hlen (by omega) rfl h'))
  · exact lv_astore_n X.1 X.2.1 hd rfl hl.has (by omega) rfl (fun ls' h' => K ls' (aLv.set1 hlen (by omega) rfl h'))
theorem sm_3 (X : aCtx G pq p s m args meth c mi) : aRul cl mi.cd C S rt ini Q (aW G p l e R s m args below meth c mi Q') 3 := by
  intro k i x y f a b lo st h c1 s1 hg hf hP H ls locs hH hl hq
  have K := hP H ls locs hH hl hq
  unfold kBin at hf
  split at hf <;> cases hf <;> (obtain ⟨hd, hn, -⟩ := X.go hg rfl rfl; rw [hn] at K)
  · exact lv_iadd X.1 X.2.1 hd K
  · exact lv_isub X.1 X.2.1 hd K
  · exact lv_imul X.1 X.2.1 hd K
  · exact lv_iand X.1 X.2.1 hd K
  · exact lv_ior X.1 X.2.1 hd K
  · exact lv_ixor X.1 X.2.1 hd K
  · exact lv_ishl X.1 X.2.1 hd K
  · exact lv_ishr X.1 X.2.1 hd K
  · exact lv_iushr X.1 X.2.1 hd rfl K
theorem sm_4 (X : aCtx G pq p s m args meth c mi) : aRul cl mi.cd C S rt ini Q (aW G p l e R s m args below meth c mi Q') 4 := by
  intro k i x y f a b lo st h c1 s1 hg hf hb0 hP H ls locs hH hl hq
  have K := hP H ls locs hH hl hq
  unfold kDiv at hf
  split at hf <;> cases hf <;> (obtain ⟨hd, hn, -⟩ := X.go hg rfl rfl; rw [hn] at K)
  · exact lv_idiv X.1 X.2.1 hd hb0 K
  · exact lv_irem X.1 X.2.1 hd hb0 K
theorem sm_5 (X : aCtx G pq p s m args meth c mi) : aRul cl mi.cd C S rt ini Q (aW G p l e R s m args below meth c mi Q') 5 := by
  intro k i x y f a b lo st h c1 s1 hg hf hP H ls locs hH hl hq
  have K := hP H ls locs hH hl hq
  unfold kBinL at hf
  split at hf <;> cases hf <;> (obtain ⟨hd, hn, -⟩ := X.go hg rfl rfl; rw [hn] at K)
  · exact lv_ladd X.1 X.2.1 hd K
  · exact lv_lsub X.1 X.2.1 hd K
  · exact lv_lmul X.1 X.2.1 hd K
  · exact lv_land X.1 X.2.1 hd K
  · exact lv_lor X.1 X.2.1 hd K
  · exact lv_lxor X.1 X.2.1 hd K
theorem sm_6 (X : aCtx G pq p s m args meth c mi) : aRul cl mi.cd C S rt ini Q (aW G p l e R s m args below meth c mi Q') 6 := by
  intro k i x y f a b lo st h c1 s1 hg hf hP H ls locs hH hl hq
  have K := hP H ls locs hH hl hq
  unfold kShL at hf
  split at hf <;> cases hf <;> (obtain ⟨hd, hn, -⟩ := X.go hg rfl rfl; rw [hn] at K)
  · exact lv_lshl X.1 X.2.1 hd rfl K
  · exact lv_lshr X.1 X.2.1 hd rfl K
  · exact lv_lushr X.1 X.2.1 hd rfl K
theorem sm_7 (X : aCtx G pq p s m args meth c mi) : aRul cl mi.cd C S rt ini Q (aW G p l e R s m args below meth c mi Q') 7 := by
  intro k i x y f a lo st h c1 s1 hg hf hP H ls locs hH hl hq
  have K := hP H ls locs hH hl hq
  unfold kUn at hf
  split at hf <;> cases hf <;> (obtain ⟨hd, hn, -⟩ := X.go hg rfl rfl; rw [hn] at K)
  · exact lv_ineg X.1 X.2.1 hd K
  · exact lv_i2b X.1 X.2.1 hd rfl K
  · exact lv_i2c X.1 X.2.1 hd rfl K
theorem sm_8 (X : aCtx G pq p s m args meth c mi) : aRul cl mi.cd C S rt ini Q (aW G p l e R s m args below meth c mi Q') 8 := by
  intro k x y a lo st h c1 s1 hg hP H ls locs hH hl hq
  have K := hP H ls locs hH hl hq
  obtain ⟨hd, hn, -⟩ := X.go hg rfl rfl; rw [hn] at K
  exact lv_lneg X.1 X.2.1 hd K
theorem sm_9 (X : aCtx G pq p s m args meth c mi) : aRul cl mi.cd C S rt ini Q (aW G p l e R s m args below meth c mi Q') 9 := by
  intro k x y a lo st h c1 s1 hg hP H ls locs hH hl hq
  have K := hP H ls locs hH hl hq
  obtain ⟨hd, hn, -⟩ := X.go hg rfl rfl; rw [hn] at K
  exact lv_i2l X.1 X.2.1 hd rfl K
theorem sm_10 (X : aCtx G pq p s m args meth c mi) : aRul cl mi.cd C S rt ini Q (aW G p l e R s m args below meth c mi Q') 10 := by
  intro k x y a lo st h c1 s1 hg hP H ls locs hH hl hq
  have K := hP H ls locs hH hl hq
  obtain ⟨hd, hn, -⟩ := X.go hg rfl rfl; rw [hn] at K
  exact lv_l2i X.1 X.2.1 hd rfl K
theorem sm_11 (X : aCtx G pq p s m args meth c mi) : aRul cl mi.cd C S rt ini Q (aW G p l e R s m args below meth c mi Q') 11 := by
  intro k x y a b lo st h c1 s1 hg hP H ls locs hH hl hq
  have K := hP H ls locs hH hl hq
  obtain ⟨hd, hn, -⟩ := X.go hg rfl rfl; rw [hn] at K
  exact W.lcmp X.1 X.2.1 hd K
theorem sm_12 (X : aCtx G pq p s m args meth c mi) : aRul cl mi.cd C S rt ini Q (aW G p l e R s m args below meth c mi Q') 12 := by
  intro k j n x y a lo st h c1 s1 hg hj hP H ls locs hH hl hq
  have K := fun ls' hl' => hP H ls' locs hH hl' hq
  obtain ⟨hd, hn, -⟩ := X.go hg rfl rfl; rw [hn] at K
  obtain ⟨kk, hkk⟩ := List.getElem?_of_mem (aLs_mem (G := G) hj)
  have hlen := hl.2.1
  have hjl := (List.getElem?_eq_some_iff.mp hj).1
  exact lv_iinc X.1 X.2.1 hd hl.has hkk rfl (by omega) rfl (fun ls' h' => K ls' (aLv.inc hlen hj h' (hl.noLong hj)))
theorem sm_13 (X : aCtx G pq p s m args meth c mi) : aRul cl mi.cd C S rt ini Q (aW G p l e R s m args below meth c mi Q') 13 := by
  intro k x y v lo st h c1 s1 hg hv hP H ls locs hH hl hq
  have K := hP H ls locs hH hl hq
  obtain ⟨hd, hn, -⟩ := X.go hg rfl rfl; rw [hn] at K
  exact lv_dup X.1 X.2.1 hd (by rw [up_cat]; exact hv) K
theorem sm_14 (X : aCtx G pq p s m args meth c mi) : aRul cl mi.cd C S rt ini Q (aW G p l e R s m args below meth c mi Q') 14 := by
  intro k x y v lo st h c1 s1 hg hv hP H ls locs hH hl hq
  have K := hP H ls locs hH hl hq
  obtain ⟨hd, hn, -⟩ := X.go hg rfl rfl; rw [hn] at K
  exact lv_pop X.1 X.2.1 hd (by rw [up_cat]; exact hv) K
theorem sm_15 (X : aCtx G pq p s m args meth c mi) : aRul cl mi.cd C S rt ini Q (aW G p l e R s m args below meth c mi Q') 15 := by
  intro k x y v w lo st h c1 s1 hg hv hw hP H ls locs hH hl hq
  have K := hP H ls locs hH hl hq
  obtain ⟨hd, hn, -⟩ := X.go hg rfl rfl; rw [hn] at K
  exact lv_dup2_11 X.1 X.2.1 hd (by rw [up_cat]; exact hv) (by rw [up_cat]; exact hw) K
theorem sm_16 (X : aCtx G pq p s m args meth c mi) : aRul cl mi.cd C S rt ini Q (aW G p l e R s m args below meth c mi Q') 16 := by
  intro k x y v w lo st h c1 s1 hg hv hw hP H ls locs hH hl hq
  have K := hP H ls locs hH hl hq
  obtain ⟨hd, hn, -⟩ := X.go hg rfl rfl; rw [hn] at K
  exact lv_dup_x1 X.1 X.2.1 hd (by rw [up_cat]; exact hv) (by rw [up_cat]; exact hw) K
theorem sm_17 (X : aCtx G pq p s m args meth c mi) : aRul cl mi.cd C S rt ini Q (aW G p l e R s m args below meth c mi Q') 17 := by
  intro k co off x y a lo st h c1 s1 hg hT hF H ls locs hH hl hq
  obtain ⟨hd, hn, w, hk⟩ := X.go hg rfl rfl
  simp only [lChk, decide_eq_true_eq] at hk
  have KT := fun q => hT q H ls locs hH hl hq
  have KF := fun q => hF q H ls locs hH hl hq
  rw [hn] at KF
  cases co
  · exact lv_if_eq X.1 X.2.1 hd hk KT KF
  · exact lv_if_ne X.1 X.2.1 hd hk KT (fun q => KF (fun z => z q))
  · exact lv_if_lt X.1 X.2.1 hd hk KT KF
  · exact lv_if_ge X.1 X.2.1 hd hk KT KF
  · exact lv_if_gt X.1 X.2.1 hd hk KT KF
  · exact lv_if_le X.1 X.2.1 hd hk KT KF
theorem sm_18 (X : aCtx G pq p s m args meth c mi) : aRul cl mi.cd C S rt ini Q (aW G p l e R s m args below meth c mi Q') 18 := by
  intro k co off x y a b lo st h c1 s1 hg hT hF H ls locs hH hl hq
  obtain ⟨hd, hn, w, hk⟩ := X.go hg rfl rfl
  simp only [lChk, decide_eq_true_eq] at hk
  have KT := fun q => hT q H ls locs hH hl hq
  have KF := fun q => hF q H ls locs hH hl hq
  rw [hn] at KF
  cases co
  · exact lv_icmp_eq X.1 X.2.1 hd hk KT KF
  · exact lv_icmp_ne X.1 X.2.1 hd hk KT (fun q => KF (fun z => z q))
  · exact lv_icmp_lt X.1 X.2.1 hd hk KT KF
  · exact lv_icmp_ge X.1 X.2.1 hd hk KT KF
  · exact lv_icmp_gt X.1 X.2.1 hd hk KT KF
  · exact lv_icmp_le X.1 X.2.1 hd hk KT KF
theorem sm_19 (X : aCtx G pq p s m args meth c mi) : aRul cl mi.cd C S rt ini Q (aW G p l e R s m args below meth c mi Q') 19 := by
  intro k off x y lo st h c1 s1 hg hP H ls locs hH hl hq
  obtain ⟨len, w, hd, -, hlen, hk⟩ := X.at hg rfl
  have hl3 := hlen rfl
  subst hl3
  simp only [lChk, decide_eq_true_eq] at hk
  exact lv_goto X.1 X.2.1 hd hk (hP H ls locs hH hl hq)
theorem sm_20 (X : aCtx G pq p s m args meth c mi) : aRul cl mi.cd C S rt ini Q (aW G p l e R s m args below meth c mi Q') 20 := by
  intro k off x y a lo st h c1 s1 hg hP H ls locs hH hl hq
  have K := hP H ls locs hH hl hq
  obtain ⟨hd, hn, -⟩ := X.go hg rfl rfl; rw [hn] at K
  exact lv_ifnull X.1 X.2.1 hd K
theorem sm_21 (X : aCtx G pq p s m args meth c mi) : aRul cl mi.cd C S rt ini Q (aW G p l e R s m args below meth c mi Q') 21 := by
  intro k off x y lo st h c1 s1 hg hP H ls locs hH hl hq
  obtain ⟨hd, hn, w, hk⟩ := X.go hg rfl rfl
  simp only [lChk, decide_eq_true_eq] at hk
  exact lv_ifnullN X.1 X.2.1 hd hk (hP H ls locs hH hl hq)
theorem sm_22 (X : aCtx G pq p s m args meth c mi) : aRul cl mi.cd C S rt ini Q (aW G p l e R s m args below meth c mi Q') 22 := by
  intro k off x y a lo st h c1 s1 hg hP H ls locs hH hl hq
  obtain ⟨hd, hn, w, hk⟩ := X.go hg rfl rfl
  simp only [lChk, decide_eq_true_eq] at hk
  exact lv_ifnonnull X.1 X.2.1 hd hk (hP H ls locs hH hl hq)
theorem sm_23 (X : aCtx G pq p s m args meth c mi) : aRul cl mi.cd C S rt ini Q (aW G p l e R s m args below meth c mi Q') 23 := by
  intro k off x y lo st h c1 s1 hg hP H ls locs hH hl hq
  have K := hP H ls locs hH hl hq
  obtain ⟨hd, hn, -⟩ := X.go hg rfl rfl; rw [hn] at K
  exact lv_ifnonnullN X.1 X.2.1 hd K
theorem sm_24 (X : aCtx G pq p s m args meth c mi) : aRul cl mi.cd C S rt ini Q (aW G p l e R s m args below meth c mi Q') 24 := by
  intro k d lo hi offs x y a t lo' st h c1 s1 hg hr ht hP H ls locs hH hl hq
  obtain ⟨len, w, hd, -, -, -⟩ := X.at hg rfl
  exact lv_tableOut X.1 X.2.1 hd hr ht (hP H ls locs hH hl hq)
theorem sm_25 (X : aCtx G pq p s m args meth c mi) : aRul cl mi.cd C S rt ini Q (aW G p l e R s m args below meth c mi Q') 25 := by
  intro k d lo hi offs x y a o t lo' st h c1 s1 hg h1 h2 ho ht hP H ls locs hH hl hq
  obtain ⟨len, w, hd, -, -, -⟩ := X.at hg rfl
  exact lv_tableIn X.1 X.2.1 hd h1 h2 ho ht (hP H ls locs hH hl hq)
end SIM
end
section
/-! ===== the AM's steps are the machine's: the heap ===== -/
def aInB (q : vw_C) : Bool := (u_ws q.1 q.2.1 q.2.2).all (fun w => decide (w ∈ lw_tbl) && goodWord w)
def aIsB (q : vw_C) : Bool := decide (Cond.instantiable q.1 q.2.2 ∈ lw_tbl) && goodWord (Cond.instantiable q.1 q.2.2) && decide (Cond.initialized q.1 ∈ lw_tbl) && goodWord (Cond.initialized q.1)
theorem aInB_0 : aInB (RJ4, TJ4, 4) = true := by decide +kernel
theorem aIsB_0 : aIsB (RJ4, TJ4, 4) = true := by decide +kernel
theorem aInB_1 : aInB (RX0, TX0, 3) = true := by decide +kernel
theorem aIsB_1 : aIsB (RX0, TX0, 3) = true := by decide +kernel
theorem aInB_2 : aInB (RX1, TX1, 4) = true := by decide +kernel
theorem aIsB_2 : aIsB (RX1, TX1, 4) = true := by decide +kernel
theorem aInB_3 : aInB (RX3, TX3, 8) = true := by decide +kernel
theorem aIsB_3 : aIsB (RX3, TX3, 8) = true := by decide +kernel
theorem aInB_4 : aInB (RX4, TX4, 6) = true := by decide +kernel
theorem aIsB_4 : aIsB (RX4, TX4, 6) = true := by decide +kernel
theorem aInB_5 : aInB (RX5, TX5, 12) = true := by decide +kernel
theorem aIsB_5 : aIsB (RX5, TX5, 12) = true := by decide +kernel
theorem aInB_6 : aInB (RX7, TX7, 5) = true := by decide +kernel
theorem aIsB_6 : aIsB (RX7, TX7, 5) = true := by decide +kernel
theorem aInB_7 : aInB (RX8, TX8, 8) = true := by decide +kernel
theorem aIsB_7 : aIsB (RX8, TX8, 8) = true := by decide +kernel
theorem aInB_8 : aInB (RX9, TX9, 31) = true := by decide +kernel
theorem aIsB_8 : aIsB (RX9, TX9, 31) = true := by decide +kernel
theorem aInB_of : ∀ (ci : Nat) {q : vw_C}, aCls[ci]? = some q → aInB q = true
  | 0, _, h => by cases h; exact aInB_0
  | 1, _, h => by cases h; exact aInB_1
  | 2, _, h => by cases h; exact aInB_2
  | 3, _, h => by cases h; exact aInB_3
  | 4, _, h => by cases h; exact aInB_4
  | 5, _, h => by cases h; exact aInB_5
  | 6, _, h => by cases h; exact aInB_6
  | 7, _, h => by cases h; exact aInB_7
  | 8, _, h => by cases h; exact aInB_8
  | _ + 9, _, h => by simp [aCls, vwCl] at h
theorem aIsB_of : ∀ (ci : Nat) {q : vw_C}, aCls[ci]? = some q → aIsB q = true
  | 0, _, h => by cases h; exact aIsB_0
  | 1, _, h => by cases h; exact aIsB_1
  | 2, _, h => by cases h; exact aIsB_2
  | 3, _, h => by cases h; exact aIsB_3
  | 4, _, h => by cases h; exact aIsB_4
  | 5, _, h => by cases h; exact aIsB_5
  | 6, _, h => by cases h; exact aIsB_6
  | 7, _, h => by cases h; exact aIsB_7
  | 8, _, h => by cases h; exact aIsB_8
  | _ + 9, _, h => by simp [aCls, vwCl] at h
theorem aNm_of : ∀ (ci : Nat) {q : vw_C}, aCls[ci]? = some q → ∀ a, a < q.2.2 → ∀ b, b < q.2.2 → a ≠ b → (q.2.1 a).2.1 ≠ (q.2.1 b).2.1
  | 0, _, h => by cases h; exact nmJ4
  | 1, _, h => by cases h; exact nmX0
  | 2, _, h => by cases h; exact nmX1
  | 3, _, h => by cases h; exact nmX3
  | 4, _, h => by cases h; exact nmX4
  | 5, _, h => by cases h; exact nmX5
  | 6, _, h => by cases h; exact nmX7
  | 7, _, h => by cases h; exact nmX8
  | 8, _, h => by cases h; exact nmX9
  | _ + 9, _, h => by simp [aCls, vwCl] at h
theorem aTyk_of : ∀ (ci : Nat) {q : vw_C}, aCls[ci]? = some q → ∃ ty : Nat → FieldType, ∀ k, k < q.2.2 → parseFieldDescriptor (q.2.1 k).2.2.1 = some (ty k)
  | 0, _, h => by cases h; exact ⟨_, tyJ4_ok⟩
  | 1, _, h => by cases h; exact ⟨_, tyX0_ok⟩
  | 2, _, h => by cases h; exact ⟨_, tyX1_ok⟩
  | 3, _, h => by cases h; exact ⟨_, tyX3_ok⟩
  | 4, _, h => by cases h; exact ⟨_, tyX4_ok⟩
  | 5, _, h => by cases h; exact ⟨_, tyX5_ok⟩
  | 6, _, h => by cases h; exact ⟨_, tyX7_ok⟩
  | 7, _, h => by cases h; exact ⟨_, tyX8_ok⟩
  | 8, _, h => by cases h; exact ⟨_, tyX9_ok⟩
  | _ + 9, _, h => by simp [aCls, vwCl] at h
theorem aIn_of {ci : Nat} {q : vw_C} (h : aCls[ci]? = some q) : ∀ w ∈ u_ws q.1 q.2.1 q.2.2, w ∈ lw_good := by
  intro w hw
  have h1 := List.all_eq_true.mp (aInB_of ci h) w hw
  simp only [Bool.and_eq_true, decide_eq_true_eq] at h1
  exact lw_good_in h1.1 h1.2
theorem aArrB : (Cond.arrayClass .int ∈ lw_tbl ∧ Cond.arrayClass .boolean ∈ lw_tbl) ∧ (Cond.arrayClass .byte ∈ lw_tbl ∧ Cond.arrayClass .long ∈ lw_tbl) := by decide +kernel
theorem aFT_at {ci k : Nat} {q : String × String × String × Bool} (h : aFT ci k = some q) : ∃ r : vw_C, aCls[ci]? = some r ∧ k < r.2.2 ∧ r.2.1 k = q := by
  unfold aFT at h
  split at h
  · rename_i r hr
    split at h
    · rename_i hk
      cases h
      exact ⟨r, hr, hk, rfl⟩
    · cases h
  · cases h
theorem aRefTy (t : Nat) (h1 : 4 ≤ t) (h2 : t < 7) : (aTy t).isReference = true := by
  rcases (show t = 4 ∨ t = 5 ∨ t = 6 by omega) with rfl | rfl | rfl <;> rfl
theorem defUp (G : aG) (ty : FieldType) : up G (defaultValue ty) = defaultValue ty := by cases ty <;> rfl
section SIM
variable {G : aG} {pq : Nat → Option aM} {p : Program} {l : Launch} {e : Env} {R : Room} {s : State} {m : MethodId} {args : Array Value} {below : List Frame} {meth : Method} {c : Code} {mi : aM} {Q' : State → Prop}
variable {cl : aC} {C S : Nat} {rt : Option FieldType} {ini : Bool} {Q : aQ}
theorem aCtx.K (X : aCtx G pq p s m args meth c mi) : va_K G.2.2.2 aCls (aTys G) s := X.2.2.2.2.2.2.2.2.1.2.1
theorem aCtx.ts (X : aCtx G pq p s m args meth c mi) : ∀ w ∈ lw_good, w.before args s = true := X.2.2.2.2.2.2.2.1
theorem aCtx.own (X : aCtx G pq p s m args meth c mi) : s.vm.findClass mi.own = some m.cls := X.2.2.2.2.2.1
theorem aCtx.alike (X : aCtx G pq p s m args meth c mi) : G.1.vm.Alike s.vm := X.2.2.2.2.2.2.2.2.1.1
theorem sm_26 (X : aCtx G pq p s m args meth c mi) : aRul cl mi.cd C S rt ini Q (aW G p l e R s m args below meth c mi Q') 26 := by
  intro k j ci f a fs v lo st h c1 s1 hg h16 hlt he hv hP H ls locs hH hl hq
  have K := hP H ls locs hH hl hq
  obtain ⟨hd, hn, w, hk⟩ := X.go hg rfl rfl
  rw [hn] at K
  simp only [lChk] at hk
  split at hk
  · rename_i q hq1
    obtain ⟨r, hr, hf, rfl⟩ := aFT_at hq1
    have hat := hH.at h16 hlt he
    have hPc : va_P G.2.2.2 aCls [(ad G a, trE G (.inr (ci, fs)))] H := fun i q hi => by
      have hz : i < 1 := (List.getElem?_eq_some_iff.mp hi).1
      rw [show i = 0 by omega] at hi
      cases hi
      exact hat
    exact va_get (cl := aCls) (D := G.2.2.2) (tys := aTys G) (C := r.1) (T := r.2.1) (N := r.2.2) (ci := ci) (own := mi.own) (fs := fs.map (up G)) X.1 X.2.1 X.ts (aIn_of hr) X.own X.K hPc 0 rfl hr f hf (X.ts _ (wIs_in hk)) (fun _ h => h) (by rw [List.getElem?_map, hv]; rfl) hd K
  · simp only [Bool.and_eq_true, decide_eq_true_eq] at hk
    obtain ⟨r, hr, -⟩ := hH.at h16 hlt he
    rw [hk.1] at hr
    cases hr
theorem aPut {cc : ByteArray} (hexec : p.tables.exec = Jvm.exec) (hb : c.code = cc) {H : Heap} {locs : List Loc} {cells slots pc : Nat} {ls : Array Slot} {rest : List Value} {own : String} {r : vw_C} {ci index : Nat} (hts : ∀ w ∈ lw_good, w.before args s = true) (hown : s.vm.findClass own = some m.cls) (hK : va_K G.2.2.2 aCls (aTys G) s) {a : Nat} {fs : List Value} (hat : va_at G.2.2.2 aCls (a, .inr (ci, fs)) H) (hc : aCls[ci]? = some r) (k : Nat) (hk : k < r.2.2) (hlink : (Cond.fieldLink own index (r.2.1 k).1 (r.2.1 k).2.1 (r.2.1 k).2.2.1).before args s = true) (hfin : (r.2.1 k).2.2.2 = false ∨ (meth.name = "<init>" ∧ (r.2.1 k).1 = own)) {ty : FieldType} {v : Value} (hd : parseFieldDescriptor (r.2.1 k).2.2.1 = some ty) (hn : narrow ty v = v) (hfit : fits ty v = true) (hl : k < fs.length)
    (hdg : decode cc pc = .ok (.putfield index, 3)) (kk : ∀ (H1 : Heap) (f : Nat), H1.size = H.size → (∀ q, q ≠ a → H1[q]? = H[q]?) → va_at G.2.2.2 aCls (a, .inr (ci, fs.set k v)) H1 → W p l e R s m args below meth c H1 (locs ++ [⟨a, f⟩]) cells slots Q' (F0 m (pc + 3) ls rest)) : W p l e R s m args below meth c H locs cells slots Q' (F0 m pc ls (v :: .ref a :: rest)) := by
  obtain ⟨ty0, hty⟩ := aTyk_of ci hc
  have hin := aIn_of hc
  have hap := va_apart (own := own) hts hin ty0 hty (aNm_of ci hc) hK hc
  obtain ⟨r', h1, cell, q1, q2, q3, q4⟩ := hat
  have hr : r' = r := Option.some.inj (h1.symm.trans hc)
  subst hr
  obtain ⟨hS, hfc, kC, hkC, hkind⟩ := hK.1 ci _ hc
  obtain ⟨cf, kf, fi, f, hi, hsl⟩ := hS k hk
  have hlay := hts _ (hin _ (u_in_lay hk))
  have hst := (u_facts hfc hkC (u_lays hts hin hk) hi).1
  have fin : ∀ H' : Heap, H'[a]? = some (cell.setSlot f.slot v) → H'.size = H.size → (∀ q, q ≠ a → H'[q]? = H[q]?) → W p l e R s m args below meth c H' (locs ++ [⟨a, f.slot⟩]) cells slots Q' (F0 m (pc + 3) ls rest) := by
    intro H' e1 e2 e3
    rw [hsl] at e1 ⊢
    exact kk H' _ e2 e3 ⟨_, hc, t_OB.to (V := updV (vp_V fs) k v) ⟨_, e1, q2, q3, t_set q4 hap hk v⟩ (fun j _ => vp_updV_set hl v j)⟩
  by_cases hf0 : (r'.2.1 k).2.2.2 = false
  · unfold u_lay at hlay
    rw [if_neg (by rw [hf0]; decide)] at hlay
    have h6 := u_store hfc hkC hkind hlay hi hd hn hfit
    exact W.putK hexec hb (f := f) ⟨hown, hlink, ⟨_, _, _, hi⟩, hst⟩ (by rw [q2]; exact h6) q1 q3 (by rw [hsl]; exact k2_hasslot (q4 k hk)) rfl rfl hdg fin
  · have hf1 : (r'.2.1 k).2.2.2 = true := by
      cases hb2 : (r'.2.1 k).2.2.2
      · exact absurd hb2 hf0
      · rfl
    obtain ⟨hin2, hdecl⟩ := hfin.resolve_left hf0
    unfold u_lay at hlay
    rw [if_pos hf1] at hlay
    have hcf : m.cls = cf := by
      obtain ⟨_, _, c', _, _, _, -, -, hf', -, -, -, hown2, -⟩ := Cond.laysFinal_spec hlay
      have e1 : c' = cf := by have := hi.symm.trans hf'; simp at this; exact this.1.symm
      rw [hdecl] at hown2
      rw [← e1]; exact Option.some.inj (hown.symm.trans hown2)
    have h6 := u_fits hfc hkC hkind (Or.inr hlay) hi hd hn hfit
    exact W.putFinK hexec hb hown hlink hi hst hcf hin2 (by rw [q2]; exact h6) q1 q3 (by rw [hsl]; exact k2_hasslot (q4 k hk)) rfl rfl hdg fin
theorem aLocs {locs : List Loc} (hq : ∀ q ∈ locs, G.1.heap.size ≤ q.base) {a f : Nat} (h : 16 ≤ a) : ∀ q ∈ locs ++ [(⟨ad G a, f⟩ : Loc)], G.1.heap.size ≤ q.base := by
  intro q hm
  rcases List.mem_append.mp hm with h1 | h1
  · exact hq q h1
  · rw [List.mem_singleton.mp h1]
    show _ ≤ ad G a
    rw [ad_hi h]; omega
theorem sm_27 (X : aCtx G pq p s m args meth c mi) : aRul cl mi.cd C S rt ini Q (aW G p l e R s m args below meth c mi Q') 27 := by
  intro k j ci f a fs v lo st h c1 s1 hg h16 hlt he hfl hfit hP H ls locs hH hl hq
  obtain ⟨hd, hn, w, hk⟩ := X.go hg rfl rfl
  simp only [lChk] at hk
  split at hk
  · rename_i q hq1
    obtain ⟨r, hr, hf, rfl⟩ := aFT_at hq1
    simp only [Bool.and_eq_true, Bool.or_eq_true, Bool.not_eq_true', decide_eq_true_eq] at hk
    obtain ⟨q2, ty, g1, g2, g3, g4⟩ := hfit
    cases hq1.symm.trans g1
    obtain ⟨g5, g6⟩ := up_fit (G := G) g3 g4
    refine aPut (G := G) X.1 X.2.1 X.ts X.own X.K (hH.at h16 hlt he) hr f hf (X.ts _ (wIs_in hk.1)) ?_ g2 g5 g6 (by rw [List.length_map]; exact hfl) hd fun H1 sl e2 e3 e4 => ?_
    · rcases hk.2 with z | z
      · exact Or.inl z
      · exact Or.inr ⟨X.2.2.2.2.2.2.1 z.1, z.2⟩
    · have K := hP H1 ls _ (hH.put h16 hlt e2 e3 (by rw [← List.map_set] at e4; exact e4)) hl (aLocs hq (f := sl) h16)
      rw [hn] at K
      exact K
  · cases hk
theorem aArrAt (X : aCtx G pq p s m args meth c mi) {H : Heap} {h : aH} (hH : aHp G H h) {a t n : Nat} {f : Nat → Int32} (ht : t < 7) (hlt : a < h.2) (he : h.1 a = .inl (t, n, .inl f)) : ∃ cell : Cell, H[ad G a]? = some cell ∧ s.isArrayOf cell (aTy t) ∧ cell.vm ≠ .unknown ∧ n ≤ cell.slots.size ∧ cell.slots.size.toInt32 = Int32.ofNat n ∧ ∀ j : Nat, j < n → cell.slots[j]? = some (.int (f j)) := by
  by_cases h16 : 16 ≤ a
  · have h1 : H[ad G a]? = some (vp_cell (G.2.2.1 t) (n, .inl f)) := hH.at h16 hlt he
    refine ⟨_, h1, ((X.K.2 t _ (aTys_at G ht)).1 n (fun j => .int (f j))), (fun q => by cases q), ?_, ?_, fun j hj => ?_⟩
    · rw [vp_cell_i, arrV_size]; exact Nat.le_refl _
    · rw [vp_cell_i, arrV_size]
    · rw [vp_cell_i, arrV_read _ _ hj]
  · have h5 := hH.2.2.2.2.1 a _ (by omega) he
    rw [he] at h5
    obtain ⟨cell, b1, b2, b3, b4, b5, b6, b7⟩ := va_T.moved X.alike h5
    refine ⟨cell, ?_, b2, b3, b4, b5, b6⟩
    rw [ad_lo (by omega), hH.2.2.1 _ (by omega)]
    exact b1
theorem sm_28 (X : aCtx G pq p s m args meth c mi) : aRul cl mi.cd C S rt ini Q (aW G p l e R s m args below meth c mi Q') 28 := by
  intro k x y a t u lo st h c1 s1 hg hlt he ht hP H ls locs hH hl hq
  have K := hP H ls locs hH hl hq
  obtain ⟨hd, hn, -⟩ := X.go hg rfl rfl
  rw [hn] at K
  by_cases h16 : 16 ≤ a
  · have h1 : H[ad G a]? = some (vp_cell (G.2.2.1 t) (trU G u)) := hH.at h16 hlt he
    have hc : ∃ z, vp_cell (G.2.2.1 t) (trU G u) = arrV (G.2.2.1 t) u.1 z := by
      obtain ⟨n, w⟩ := u
      rcases w with w | w | w | w | w
      · exact ⟨fun j => .int (w j), rfl⟩
      · exact ⟨fun j => .long (w j), rfl⟩
      · exact ⟨fun j => .float (w j), rfl⟩
      · exact ⟨fun j => .double (w j), rfl⟩
      · exact ⟨fun j => va_rf ((w j).map (ad G)), rfl⟩
    obtain ⟨z, hz⟩ := hc
    rw [hz] at h1
    exact W.alen X.1 X.2.1 h1 ((X.K.2 t _ (aTys_at G ht)).1 u.1 z) (by rw [arrV_size]) rfl rfl hd K
  · have h5 := hH.2.2.2.2.1 a _ (by omega) he
    obtain ⟨n, w⟩ := u
    rw [he] at h5
    rcases w with w | w
    · obtain ⟨cell, b1, b2, b3, b4, b5, b6⟩ := aArrAt X hH ht hlt he
      exact W.alen X.1 X.2.1 b1 b2 b5 rfl rfl hd K
    · exact absurd h5 (by simp [aCst])
theorem sm_29 (X : aCtx G pq p s m args meth c mi) : aRul cl mi.cd C S rt ini Q (aW G p l e R s m args below meth c mi Q') 29 := by
  intro k x y a n f i lo st h c1 s1 hg hlt he hin hP H ls locs hH hl hq
  have K := hP H ls locs hH hl hq
  obtain ⟨hd, hn, -⟩ := X.go hg rfl rfl
  rw [hn] at K
  obtain ⟨cell, b1, b2, b3, b4, b5, b6⟩ := aArrAt X hH (by decide) hlt he
  exact W.iald X.1 X.2.1 b1 b2 b3 (fun q => hin (q.imp id (fun z => Nat.le_trans b4 z))) (b6 _ (Nat.not_le.mp fun q => hin (Or.inr q))) rfl rfl hd K
theorem sm_30 (X : aCtx G pq p s m args meth c mi) : aRul cl mi.cd C S rt ini Q (aW G p l e R s m args below meth c mi Q') 30 := by
  intro k x y a t n f i lo st h c1 s1 hg hlt ht he hin hP H ls locs hH hl hq
  have K := hP H ls locs hH hl hq
  obtain ⟨hd, hn, -⟩ := X.go hg rfl rfl
  rw [hn] at K
  obtain ⟨cell, b1, b2, b3, b4, b5, b6⟩ := aArrAt X hH (by rcases ht with rfl | rfl <;> decide) hlt he
  rcases ht with rfl | rfl
  · exact W.zald X.1 X.2.1 b1 b2 b3 (fun q => hin (q.imp id (fun z => Nat.le_trans b4 z))) (b6 _ (Nat.not_le.mp fun q => hin (Or.inr q))) rfl rfl hd K
  · exact W.bald X.1 X.2.1 b1 b2 b3 (fun q => hin (q.imp id (fun z => Nat.le_trans b4 z))) (b6 _ (Nat.not_le.mp fun q => hin (Or.inr q))) rfl rfl hd K
theorem sm_31 (X : aCtx G pq p s m args meth c mi) : aRul cl mi.cd C S rt ini Q (aW G p l e R s m args below meth c mi Q') 31 := by
  intro k x y a n f i lo st h c1 s1 hg h16 hlt he hin hP H ls locs hH hl hq
  have K := hP H ls locs hH hl hq
  obtain ⟨hd, hn, -⟩ := X.go hg rfl rfl
  rw [hn] at K
  have h1 : H[ad G a]? = some (vp_cell (G.2.2.1 3) (n, .inr (.inl f))) := hH.at h16 hlt he
  have hl2 : i.toNatClampNeg < n := Nat.not_le.mp fun q => hin (Or.inr q)
  exact W.lald (v := .long (f i.toNatClampNeg)) X.1 X.2.1 h1 ((X.K.2 3 _ (aTys_at G (by decide))).1 n (fun j => .long (f j))) (fun q => by cases q) (by show ¬ (i < 0 ∨ (arrV _ _ _).slots.size ≤ _); rw [arrV_size]; exact hin) (by show (arrV _ _ _).slots[_]? = _; rw [arrV_read _ _ hl2]) rfl rfl hd K
theorem sm_32 (X : aCtx G pq p s m args meth c mi) : aRul cl mi.cd C S rt ini Q (aW G p l e R s m args below meth c mi Q') 32 := by
  intro k x y a t n f i lo st h c1 s1 hg h16 hlt ht4 ht7 he hin hP H ls locs hH hl hq
  have K := hP H ls locs hH hl hq
  obtain ⟨hd, hn, -⟩ := X.go hg rfl rfl
  rw [hn] at K
  have h1 : H[ad G a]? = some (vp_cell (G.2.2.1 t) (n, .inr (.inr (.inr (.inr (fun j => (f j).map (ad G))))))) := hH.at h16 hlt he
  have hl2 : i.toNatClampNeg < n := Nat.not_le.mp fun q => hin (Or.inr q)
  have hty := aRefTy t ht4 ht7
  exact W.aald (v := up G (aRef (f i.toNatClampNeg))) (ty := aTy t) X.1 X.2.1 h1 ((X.K.2 t _ (aTys_at G ht7)).1 n (fun j => va_rf ((f j).map (ad G)))) hty (fun q => by cases q) (by show ¬ (i < 0 ∨ (arrV _ _ _).slots.size ≤ _); rw [arrV_size]; exact hin) (by show (arrV _ _ _).slots[_]? = _; rw [arrV_read _ _ hl2, up_rf]) rfl rfl hd K
theorem sm_33 (X : aCtx G pq p s m args meth c mi) : aRul cl mi.cd C S rt ini Q (aW G p l e R s m args below meth c mi Q') 33 := by
  intro k x y a n f i v lo st h c1 s1 hg h16 hlt he hin hP H ls locs hH hl hq
  obtain ⟨hd, hn, -⟩ := X.go hg rfl rfl
  have h1 : H[ad G a]? = some (vp_cell (G.2.2.1 0) (n, .inl f)) := hH.at h16 hlt he
  refine W.iast X.1 X.2.1 h1 ((X.K.2 0 _ (aTys_at G (by decide))).1 n (fun j => .int (f j))) (fun q => by cases q) (by show ¬ (i < 0 ∨ (arrV _ _ _).slots.size ≤ _); rw [arrV_size]; exact hin) rfl rfl hd fun H1 e1 z oq => ?_
  have K := hP H1 ls _ (hH.put h16 hlt z oq (by
    show H1[ad G a]? = some (vp_cell _ _)
    rw [e1]
    show _ = some (vp_cell (G.2.2.1 0) (n, .inl (upd f i.toNatClampNeg v)))
    rw [vp_cell_i, vp_cell_i, arrV_store]
    congr 2
    funext q
    by_cases hq : q = i.toNatClampNeg
    · subst hq; simp [updV, upd]
    · simp [updV, upd, hq])) hl (aLocs hq (f := i.toNatClampNeg) h16)
  rw [hn] at K
  exact K
theorem sm_34 (X : aCtx G pq p s m args meth c mi) : aRul cl mi.cd C S rt ini Q (aW G p l e R s m args below meth c mi Q') 34 := by
  intro k x y a n f i v lo st h c1 s1 hg h16 hlt he hin hP H ls locs hH hl hq
  obtain ⟨hd, hn, -⟩ := X.go hg rfl rfl
  have h1 : H[ad G a]? = some (vp_cell (G.2.2.1 1) (n, .inl f)) := hH.at h16 hlt he
  refine W.zast X.1 X.2.1 h1 ((X.K.2 1 _ (aTys_at G (by decide))).1 n (fun j => .int (f j))) (fun q => by cases q) (by show ¬ (i < 0 ∨ (arrV _ _ _).slots.size ≤ _); rw [arrV_size]; exact hin) rfl rfl hd fun H1 e1 z oq => ?_
  have K := hP H1 ls _ (hH.put h16 hlt z oq (by
    show H1[ad G a]? = some (vp_cell _ _)
    rw [e1]
    show _ = some (vp_cell (G.2.2.1 1) (n, .inl (upd f i.toNatClampNeg (vp_nar .boolean v))))
    rw [vp_cell_i, vp_cell_i, arrV_store]
    congr 2
    funext q
    by_cases hq : q = i.toNatClampNeg
    · subst hq; simp [updV, upd, vp_nar, narrow]
    · simp [updV, upd, hq])) hl (aLocs hq (f := i.toNatClampNeg) h16)
  rw [hn] at K
  exact K
theorem sm_35 (X : aCtx G pq p s m args meth c mi) : aRul cl mi.cd C S rt ini Q (aW G p l e R s m args below meth c mi Q') 35 := by
  intro k x y a n f i v lo st h c1 s1 hg h16 hlt he hin hP H ls locs hH hl hq
  obtain ⟨hd, hn, -⟩ := X.go hg rfl rfl
  have h1 : H[ad G a]? = some (vp_cell (G.2.2.1 2) (n, .inl f)) := hH.at h16 hlt he
  refine W.bast X.1 X.2.1 h1 ((X.K.2 2 _ (aTys_at G (by decide))).1 n (fun j => .int (f j))) (fun q => by cases q) (by show ¬ (i < 0 ∨ (arrV _ _ _).slots.size ≤ _); rw [arrV_size]; exact hin) rfl rfl hd fun H1 e1 z oq => ?_
  have K := hP H1 ls _ (hH.put h16 hlt z oq (by
    show H1[ad G a]? = some (vp_cell _ _)
    rw [e1]
    show _ = some (vp_cell (G.2.2.1 2) (n, .inl (upd f i.toNatClampNeg (vp_nar .byte v))))
    rw [vp_cell_i, vp_cell_i, arrV_store]
    congr 2
    funext q
    by_cases hq : q = i.toNatClampNeg
    · subst hq; simp [updV, upd, vp_nar, narrow]
    · simp [updV, upd, hq])) hl (aLocs hq (f := i.toNatClampNeg) h16)
  rw [hn] at K
  exact K
theorem sm_36 (X : aCtx G pq p s m args meth c mi) : aRul cl mi.cd C S rt ini Q (aW G p l e R s m args below meth c mi Q') 36 := by
  intro k x y a n f i v lo st h c1 s1 hg h16 hlt he hin hP H ls locs hH hl hq
  obtain ⟨hd, hn, -⟩ := X.go hg rfl rfl
  have h1 : H[ad G a]? = some (vp_cell (G.2.2.1 3) (n, .inr (.inl f))) := hH.at h16 hlt he
  refine W.last X.1 X.2.1 h1 ((X.K.2 3 _ (aTys_at G (by decide))).1 n (fun j => .long (f j))) (fun q => by cases q) (by show ¬ (i < 0 ∨ (arrV _ _ _).slots.size ≤ _); rw [arrV_size]; exact hin) rfl rfl hd fun H1 e1 z oq => ?_
  have K := hP H1 ls _ (hH.put h16 hlt z oq (by
    show H1[ad G a]? = some (vp_cell _ _)
    rw [e1]
    show _ = some (vp_cell (G.2.2.1 3) (n, .inr (.inl (vp_updL f i.toNatClampNeg v))))
    rw [vp_cell_l, vp_cell_l, arrV_store]
    congr 2
    funext q
    by_cases hq : q = i.toNatClampNeg
    · subst hq; simp [updV, vp_updL]
    · simp [updV, vp_updL, hq])) hl (aLocs hq (f := i.toNatClampNeg) h16)
  rw [hn] at K
  exact K
theorem sm_37 (X : aCtx G pq p s m args meth c mi) : aRul cl mi.cd C S rt ini Q (aW G p l e R s m args below meth c mi Q') 37 := by
  intro k x y a t n f i b ci fs q0 lo st h c1 s1 hg h16 hlt ht4 ht7 he hin hb16 hblt hbe hc hty hP H ls locs hH hl hq
  obtain ⟨hd, hn, -⟩ := X.go hg rfl rfl
  have h1 : H[ad G a]? = some (vp_cell (G.2.2.1 t) (n, .inr (.inr (.inr (.inr (fun j => (f j).map (ad G))))))) := hH.at h16 hlt he
  have hl2 : i.toNatClampNeg < n := Nat.not_le.mp fun q => hin (Or.inr q)
  have h0 : ¬ i < 0 := fun q => hin (Or.inl q)
  obtain ⟨r', hr', cellV, g1, g2, g3, -⟩ := hH.at hb16 hblt hbe
  have hcls := (X.K.1 ci q0 hc).2
  have hRA := (X.K.2 t _ (aTys_at G ht7)).2
  rw [hty] at hRA
  obtain ⟨kA, comp, k1, k2, k3, -⟩ := hRA
  have hcomp : comp = G.2.2.2.1 ci := Option.some.inj (k3.symm.trans hcls.1)
  subst hcomp
  obtain ⟨kC, hkC, -⟩ := hcls.2
  refine W.aast X.1 X.2.1 h1 (fun q h => by cases h) (fun h => by cases h) k1 k2 rfl hkC ⟨h0, by show _ < (arrV _ _ _).slots.size; rw [arrV_size]; exact hl2⟩ g1 (fun q h => by rw [g3] at h; cases h) (by rw [g2]; exact hkC) (by rw [g2]; exact va_assign hcls) rfl rfl hd fun H1 e1 z oq => ?_
  have K := hP H1 ls _ (hH.put h16 hlt z oq (by
    show H1[ad G a]? = some (vp_cell _ _)
    rw [e1]
    show _ = some (vp_cell (G.2.2.1 t) (n, .inr (.inr (.inr (.inr (fun j => (va_up f i.toNatClampNeg (some b) j).map (ad G)))))))
    rw [vp_cell_q, vp_cell_q, arrV_store]
    congr 2
    funext q
    by_cases hq : q = i.toNatClampNeg
    · subst hq; simp [updV, va_up, va_rf]
    · simp [updV, va_up, hq])) hl (aLocs hq (f := i.toNatClampNeg) h16)
  rw [hn] at K
  exact K
end SIM
end
section
/-! ===== the AM's steps are the machine's: what is made, calls, ends; and the whole method ===== -/
section SIM
variable {G : aG} {pq : Nat → Option aM} {p : Program} {l : Launch} {e : Env} {R : Room} {s : State} {m : MethodId} {args : Array Value} {below : List Frame} {meth : Method} {c : Code} {mi : aM} {Q' : State → Prop}
variable {cl : aC} {C S : Nat} {rt : Option FieldType} {ini : Bool} {Q : aQ}
theorem sm_38 (X : aCtx G pq p s m args meth c mi) (hRc : R.cells = C) (hRs : R.slots = S) : aRul cl mi.cd C S rt ini Q (aW G p l e R s m args below meth c mi Q') 38 := by
  intro k at' t y n lo st h c1 s1 hg ht hn0 hn1 hc hs hP H ls locs hH hl hq
  obtain ⟨hd, hn, w, hk⟩ := X.go hg rfl rfl
  simp only [lChk, Bool.and_eq_true, decide_eq_true_eq] at hk
  have harr : Cond.arrayClass (aTy t) ∈ lw_good := by
    have h1 := aArrB
    rcases (show t = 0 ∨ t = 1 ∨ t = 2 ∨ t = 3 by omega) with rfl | rfl | rfl | rfl
    · exact lw_good_in h1.1.1 rfl
    · exact lw_good_in h1.1.2 rfl
    · exact lw_good_in h1.2.1 rfl
    · exact lw_good_in h1.2.2 rfl
  have hcb : componentBytes (newarray.typeOf at') ≤ 8 := by rw [hk.1]; rcases (show t = 0 ∨ t = 1 ∨ t = 2 ∨ t = 3 by omega) with rfl | rfl | rfl | rfl <;> decide
  refine va_newaK X.1 X.2.1 (by rw [hk.1]; exact X.ts _ harr) rfl hd rfl hn0 rfl (Nat.le_trans (Nat.mul_le_mul hn1 hcb) (by decide)) (by rw [hRc]; exact hc) (by rw [hRs]; exact hs) rfl fun H1 cA e1 z1 o1 hAr hNm => ?_
  rw [hk.1] at e1 hNm
  have hcA : cA = G.2.2.1 t := by
    have h2 := (X.K.2 t _ (aTys_at G (by omega))).2
    rcases (show t = 0 ∨ t = 1 ∨ t = 2 ∨ t = 3 by omega) with rfl | rfl | rfl | rfl <;> exact Option.some.inj (hNm.symm.trans h2)
  subst hcA
  have K := hP H1 ls locs (hH.new z1 o1 (by
    rcases (show t = 0 ∨ t = 1 ∨ t = 2 ∨ t = 3 by omega) with rfl | rfl | rfl | rfl <;> exact e1)) hl hq
  rw [hn] at K
  rw [← hH.ref]
  exact K
theorem sm_39 (X : aCtx G pq p s m args meth c mi) (hRc : R.cells = C) (hRs : R.slots = S) : aRul cl mi.cd C S rt ini Q (aW G p l e R s m args below meth c mi Q') 39 := by
  intro k j t y n lo st h c1 s1 hg ht4 ht7 hn0 hn1 hc hs hP H ls locs hH hl hq
  obtain ⟨hd, hn, w, hk⟩ := X.go hg rfl rfl
  simp only [lChk] at hk
  split at hk
  · rename_i Cn hCn
    simp only [Bool.and_eq_true, decide_eq_true_eq] at hk
    have hov : va_AO Cn s := by
      have hv := X.2.2.2.2.2.2.2.2.1.2.2.2
      rcases (show t = 4 ∨ t = 5 ∨ t = 6 by omega) with rfl | rfl | rfl <;> cases hCn
      · exact hv.1
      · exact hv.2.1
      · exact hv.2.2.1
    refine W.anew X.1 X.2.1 X.own (X.ts _ (wIs_in hk.1.1)) (va_AO.use hov) rfl hd rfl hn0 (by omega) (by rw [hRc]; exact hc) (by rw [hRs]; exact hs) fun cA kA comp f1 f2 f3 f4 => ?_
    generalize hH1 : H.push ({ cls := cA, slots := Array.replicate n.toNatClampNeg .null, vm := .none } : Cell) = H1
    have z1 : H1.size = H.size + 1 := by rw [← hH1, Array.size_push]
    have e1 : H1[H.size]? = some (arrV cA n.toNatClampNeg (fun _ => .null)) := by rw [← hH1, Array.getElem?_push_size, ← arrV_new]
    have o1 : ∀ q : Nat, q < H.size → H1[q]? = H[q]? := fun q hq => by rw [← hH1, Array.getElem?_push, if_neg (Nat.ne_of_lt hq)]
    have hcA : cA = G.2.2.1 t := by
      have h2 := (X.K.2 t _ (aTys_at G ht7)).2
      rw [hCn] at h2
      obtain ⟨_, _, _, _, _, h3⟩ := h2
      exact Option.some.inj (f1.symm.trans h3)
    subst hcA
    have K := hP H1 ls locs (hH.new z1 o1 (by
      rcases (show t = 4 ∨ t = 5 ∨ t = 6 by omega) with rfl | rfl | rfl <;> exact e1)) hl hq
    rw [hn] at K
    rw [← hH.ref]
    exact K
  · cases hk
theorem aDef_at (G : aG) {ci : Nat} {r : vw_C} (hr : aCls[ci]? = some r) {ty : Nat → FieldType} (hty : ∀ k, k < r.2.2 → parseFieldDescriptor (r.2.1 k).2.2.1 = some (ty k)) : ∀ j, j < r.2.2 → defaultValue (ty j) = vp_V ((aDef ci).map (up G)) j := by
  intro j hj
  unfold aDef vp_V
  rw [hr]
  show _ = (List.map (up G) (List.map _ (List.range r.2.2))).getD j .null
  rw [List.getD_eq_getElem?_getD, List.getElem?_map, List.getElem?_map, List.getElem?_range hj]
  show _ = up G (match parseFieldDescriptor (r.2.1 j).2.2.1 with
    | some ty => defaultValue ty
    | none => .null)
  rw [hty j hj]
  exact (defUp G (ty j)).symm
theorem sm_40 (X : aCtx G pq p s m args meth c mi) (hRc : R.cells = C) (hRs : R.slots = S) : aRul cl mi.cd C S rt ini Q (aW G p l e R s m args below meth c mi Q') 40 := by
  intro k j ci y lo st h c1 s1 hg hc hs hP H ls locs hH hl hq
  obtain ⟨hd, hn, w, hk⟩ := X.go hg rfl rfl
  simp only [lChk] at hk
  split at hk
  · rename_i r hr
    have hN : aN ci = r.2.2 := by unfold aN; rw [hr]
    rw [hN] at hs hP
    have hI := aIsB_of ci hr
    simp only [aIsB, Bool.and_eq_true, decide_eq_true_eq] at hI
    have hKn := X.K.1 ci _ hr
    obtain ⟨ty, hty⟩ := aTyk_of ci hr
    refine W.newcK X.1 X.2.1 X.own (X.ts _ (wIs_in hk)) (X.ts _ (lw_good_in hI.1.1.1 hI.1.1.2)) (X.ts _ (lw_good_in hI.1.2 hI.2)) rfl hd (by rw [hRc]; exact hc) (by rw [hRs]; exact hs) hKn.2.1 rfl fun H1 kC hkC e1 z1 o1 => ?_
    have K := hP H1 ls locs (hH.new z1 o1 ⟨_, hr, (u_born ty X.ts (aIn_of hr) hKn hkC e1 hty).to (aDef_at G hr hty)⟩) hl hq
    rw [hn] at K
    rw [← hH.ref]
    exact K
  · cases hk
theorem aGets (X : aCtx G pq p s m args meth c mi) {H : Heap} {h : aH} (hH : aHp G H h) {Cn n d : String} {v : Value} (hz : va_Z Cn n d (up G v) (aOld G) G.1 G.1.heap) {locs : List Loc} {cells slots pc : Nat} {ls : Array Slot} {rest : List Value} {index : Nat} (hlink : (Cond.fieldLink mi.own index Cn n d).before args s = true) (hd : decode mi.bs pc = .ok (.getstatic index, 3))
    (K : W p l e R s m args below meth c H locs cells slots Q' (F0 m (pc + 3) ls ((v :: rest).map (up G)))) : W p l e R s m args below meth c H locs cells slots Q' (F0 m pc ls (rest.map (up G))) := by
  obtain ⟨cf, kf, fi, f, a, cell, h1, h2, h3, h4, h5, h6, h7, h8⟩ := hz.moved X.alike
  exact W.gets X.1 X.2.1 X.own hlink h1 h2 h3 h4 (by rw [hH.2.2.1 a (Array.getElem?_eq_some_iff.mp h5).1]; exact h5) (fun e => by rw [e] at h6; cases h6) h7 rfl hd K
theorem sm_50 (X : aCtx G pq p s m args meth c mi) : aRul cl mi.cd C S rt ini Q (aW G p l e R s m args below meth c mi Q') 50 := by
  intro k j f a fs v lo st h c1 s1 hg h16 he hv hP H ls locs hH hl hq
  have K := hP H ls locs hH hl hq
  obtain ⟨hd, hn, w, hk⟩ := X.go hg rfl rfl
  rw [hn] at K
  obtain ⟨-, b, hb, rfl, hF1, hF2⟩ := hH.2.2.2.2.2 a fs h16 he
  simp only [lChk, show aFT 9 f = none from rfl, Bool.and_eq_true, decide_eq_true_eq] at hk
  have hk2 := hk.2
  clear hk
  have ea : ad G a = G.2.1 a := ad_lo h16
  by_cases hf : f = 0
  · subst hf
    rw [if_pos rfl] at hk2
    cases hv
    obtain ⟨cf, kc, i, fl, cell, g1, g2, g3, g4, g5, -⟩ := hF1.moved X.alike
    refine W.getf X.1 X.2.1 X.own (X.ts _ (wIs_in hk2)) g1 g2 (a := G.2.1 a) (by rw [hH.2.2.1 _ (Array.getElem?_eq_some_iff.mp g3).1]; exact g3) g4 (v := .ref (G.2.1 b)) g5 rfl (by show Value.ref (ad G a) :: _ = _; rw [ea]) hd ?_
    have K' : W p l e R s m args below meth c H locs c1 s1 Q' (F0 m (aPc mi.cd k + 3) ls (.ref (ad G b) :: st.map (up G))) := K
    rw [ad_lo hb] at K'
    exact K'
  · rw [if_neg hf, Bool.and_eq_true, decide_eq_true_eq] at hk2
    obtain ⟨rfl, hk2⟩ := hk2
    cases hv
    obtain ⟨cf, kc, i, fl, cell, g1, g2, g3, g4, g5, -⟩ := hF2.moved X.alike
    exact W.getf X.1 X.2.1 X.own (X.ts _ (wIs_in hk2)) g1 g2 (a := G.2.1 a) (by rw [hH.2.2.1 _ (Array.getElem?_eq_some_iff.mp g3).1]; exact g3) g4 (v := .int 0) g5 rfl (by show Value.ref (ad G a) :: _ = _; rw [ea]) hd K
theorem sm_41 (X : aCtx G pq p s m args meth c mi) : aRul cl mi.cd C S rt ini Q (aW G p l e R s m args below meth c mi Q') 41 := by
  intro k j a y lo st h c1 s1 hg hy hP H ls locs hH hl hq
  have K := hP H ls locs hH hl hq
  obtain ⟨hd, hn, w, hk⟩ := X.go hg rfl rfl
  simp only [lChk, List.any_eq_true, Bool.and_eq_true, decide_eq_true_eq] at hk
  obtain ⟨q, hq1, ⟨rfl, rfl⟩, hk⟩ := hk
  rw [hn] at K
  obtain ⟨z0, z1, -⟩ := X.2.2.2.2.2.2.2.2.1.2.2.2.2.2.2.1 q hq1
  have hz : va_Z q.1 q.2.1 q.2.2.1 (up G (if q.2.2.2.2 = 0 then .ref q.2.2.2.1 else .int (Int32.ofNat q.2.2.2.1))) (aOld G) G.1 G.1.heap := by
    rcases (show q.2.2.2.2 = 0 ∨ q.2.2.2.2 = 1 by omega) with e0 | e0
    · rw [if_pos e0]; exact z0 e0
    · rw [if_neg (by omega)]; exact z1 e0
  exact aGets X hH hz (X.ts _ (wIs_in hk)) hd K
theorem sm_54 (X : aCtx G pq p s m args meth c mi) : aRul cl mi.cd C S rt ini Q (aW G p l e R s m args below meth c mi Q') 54 := by
  intro k j a lo st h c1 s1 hg hP hP2 H ls locs hH hl hq
  have K := hP H ls locs hH hl hq
  have K2 := hP2 H ls locs hH hl hq
  obtain ⟨hd, hn, w, hk⟩ := X.go hg rfl rfl
  simp only [lChk, List.any_eq_true, Bool.and_eq_true, decide_eq_true_eq] at hk
  obtain ⟨q, hq1, ⟨rfl, hy⟩, hk⟩ := hk
  rw [hn] at K K2
  obtain ⟨-, -, z2⟩ := X.2.2.2.2.2.2.2.2.1.2.2.2.2.2.2.1 q hq1
  rcases z2 hy with z | z
  · exact aGets (v := .null) X hH z (X.ts _ (wIs_in hk)) hd K
  · exact aGets (v := .ref q.2.2.2.1) X hH z (X.ts _ (wIs_in hk)) hd K2
theorem ldcwS {H : Heap} {locs : List Loc} {cells slots pc : Nat} {ls : Array Slot} {rest : List Value} {cc : ByteArray} (hexec : p.tables.exec = Jvm.exec) (hb : c.code = cc) {own tx : String} {index q : Nat} (hown : s.vm.findClass own = some m.cls) (hZ : vk_R own index tx q s) (hdg : decode cc pc = .ok (.ldc_w index, 3))
    (k : W p l e R s m args below meth c H locs cells slots Q' (F0 m (pc + 3) ls (.ref q :: rest))) : W p l e R s m args below meth c H locs cells slots Q' (F0 m pc ls rest) := by
  intro T hT X
  obtain ⟨t, a1, b1⟩ := k T hT X
  have hW := hZ.warm X.warmed
  have hown' : T.vm.findClass own = some m.cls := by rw [X.warmed.alike.findClass]; exact hown
  obtain ⟨k', cf, i, a, z1, z2, z3, z4, z5, z6⟩ := Cond.stringRef_spec hown' hW.1
  have ea : a = q := by
    have := z6.symm.trans hW.2
    cases this; rfl
  subst ea
  refine ⟨t, ?_, b1⟩
  have hdg' : decode c.code pc = .ok (.ldc_w index, 3) := by rw [hb]; exact hdg
  jvm_step X.here [hexec, hdg', ldc_w.wp_string (s := T) (f := F0 m pc ls rest) X.here.top z1 z2 z3 z5]
  exact a1
theorem sm_42 (X : aCtx G pq p s m args meth c mi) : aRul cl mi.cd C S rt ini Q (aW G p l e R s m args below meth c mi Q') 42 := by
  intro k i x y lo st h c1 s1 hg hi hP H ls locs hH hl hq
  have K := hP H ls locs hH hl hq
  have hstr : ∀ j, aStr.any (fun q => decide (q.1 = mi.own ∧ q.2.1 = j ∧ q.2.2.2 = x)) = true → ∃ tx, vk_R mi.own j tx (ad G x) s := by
    intro j hz
    simp only [List.any_eq_true, decide_eq_true_eq] at hz
    obtain ⟨q, hq1, e1, e2, e3⟩ := hz
    have := X.2.2.2.2.2.2.2.2.1.2.2.2.2.2.2.2 q hq1
    rw [e1, e2, e3] at this
    exact ⟨_, this⟩
  obtain ⟨j, rfl | rfl⟩ := hi
  · obtain ⟨hd, hn, w, hk⟩ := X.go hg rfl rfl
    simp only [lChk] at hk
    rw [hn] at K
    by_cases hy : y = 0
    · rw [if_pos hy] at hk
      rw [if_pos hy] at K
      exact lv_ldc X.1 X.2.1 X.own (X.ts _ (wIs_in hk)) hd K
    · rw [if_neg hy] at hk
      rw [if_neg hy] at K
      obtain ⟨tx, hR⟩ := hstr j hk
      exact va_ldcS X.1 X.2.1 X.own hR hd K
  · obtain ⟨hd, hn, w, hk⟩ := X.go hg rfl rfl
    simp only [lChk] at hk
    rw [hn] at K
    by_cases hy : y = 0
    · rw [if_pos hy] at hk
      rw [if_pos hy] at K
      exact lv_ldcw X.1 X.2.1 X.own (X.ts _ (wIs_in hk)) hd K
    · rw [if_neg hy] at hk
      rw [if_neg hy] at K
      obtain ⟨tx, hR⟩ := hstr j hk
      exact ldcwS X.1 X.2.1 X.own hR hd K
theorem sm_43 (X : aCtx G pq p s m args meth c mi) : aRul cl mi.cd C S rt ini Q (aW G p l e R s m args below meth c mi Q') 43 := by
  intro k j x y lo st h c1 s1 hg hP H ls locs hH hl hq
  have K := hP H ls locs hH hl hq
  obtain ⟨hd, hn, w, hk⟩ := X.go hg rfl rfl
  simp only [lChk] at hk
  rw [hn] at K
  exact lv_ldc2 X.1 X.2.1 X.own (X.ts _ (wIs_in hk)) hd K
def aPre (G : aG) (as : List Value) (h : aH) : Array Value → State → Prop := fun a U => a = (as.map (up G)).toArray ∧ aHp G U.heap h ∧ aV G U
def aPost (G : aG) (Q : aQ) : Array Value → State → Outcome → State → Prop := fun _ _ o t => ∃ (r : Option Value) (h : aH), o = .returned (r.map (up G)) ∧ aHp G t.heap h ∧ aV G t ∧ Q r h
def aWs (mj : aM) : List Cond := Cond.code mj.y mj.bs mj.nL mj.rt :: lw_good
def aRm (d mc ms : Nat) : Room := { frames := d, cells := mc, slots := ms, locals := 60 * d }
def aMet (G : aG) (l : Launch) (mj : aM) (d : Nat) (as : List Value) (h : aH) (mc ms : Nat) (Q : aQ) : Prop := Met l mj.y (aWs mj) (aRm d mc ms) (aPre G as h) (aPost G Q) mc ms (fun q => G.1.heap.size ≤ q)
theorem aPre_blind (as : List Value) (h : aH) : FrameBlind (aPre G as h) := by
  intro a U g mk q
  obtain ⟨q1, q2, h1, h2, h3, h4, h5, h6, h8, h9⟩ := q
  have hvm : U.vm.Alike (U.calling g mk a).vm := Vm.Alike.refl U.vm
  refine ⟨q1, q2, h1.trans hvm, va_K.moved hvm h2, fun w hw => ?_, va_AO.moved hvm h4, va_AO.moved hvm h5, va_AO.moved hvm h6, h8, fun q hq => (h9 q hq).same rfl⟩
  have h7 := h3 w hw
  simp only [aNw, List.mem_cons, List.not_mem_nil, or_false] at hw
  rcases hw with rfl | rfl | rfl | rfl <;> exact va_Nw.same rfl rfl h7
theorem aV.warm {U : State} (h : aV G s) (hW : s.WarmedH U.vm) : aV G U := by
  obtain ⟨h1, h2, h3, h4, h5, h6, h8, h9⟩ := h
  refine ⟨h1.trans hW.alike, va_K.moved hW.alike h2, fun w hw => ?_, va_AO.moved hW.alike h4, va_AO.moved hW.alike h5, va_AO.moved hW.alike h6, h8, fun q hq => (h9 q hq).warm hW⟩
  have h7 := h3 w hw
  simp only [aNw, List.mem_cons, List.not_mem_nil, or_false] at hw
  rcases hw with rfl | rfl | rfl | rfl <;> exact va_Nw.warmM hW h7
theorem sm_48 (X : aCtx G pq p s m args meth c mi) (hrt : rt = mi.rt) : aRul cl mi.cd C S rt ini Q (aW G p l e R s m args below meth c mi (MQ below (aPost G Q) args s C S (fun q => G.1.heap.size ≤ q))) 48 := by
  intro k x y lo h c1 s1 hg hr hc hs hP H ls locs hH hl hq
  obtain ⟨len, w, hd, -, hlen, -⟩ := X.at hg rfl
  have hl3 := hlen rfl
  subst hl3
  refine W.widen hc hs ?_
  exact W.vret X.1 X.2.1 (by rw [X.2.2.2.1, ← hrt]; exact hr) (fun t ht hw => ⟨none, h, rfl, by rw [ht]; exact hH, X.2.2.2.2.2.2.2.2.1.warm hw, hP⟩) hq hd X.2.2.2.2.1
theorem sm_49 (X : aCtx G pq p s m args meth c mi) (hrt : rt = mi.rt) : aRul cl mi.cd C S rt ini Q (aW G p l e R s m args below meth c mi (MQ below (aPost G Q) args s C S (fun q => G.1.heap.size ≤ q))) 49 := by
  intro k i x y v lo h c1 s1 hg hi hr hc hs hP H ls locs hH hl hq
  refine W.widen hc hs ?_
  have fin : ∀ t : State, t.heap = H → s.WarmedH t.vm → aPost G Q args s (.returned (some (up G v))) t := fun t ht hw => ⟨some v, h, rfl, by rw [ht]; exact hH, X.2.2.2.2.2.2.2.2.1.warm hw, hP⟩
  have hmr : meth.sig.returnType = rt := by rw [X.2.2.2.1, ← hrt]
  unfold kRet at hi
  split at hi
  · obtain ⟨len, w, hd, -, hlen, -⟩ := X.at hg rfl
    have hl3 := hlen rfl
    subst hl3
    cases hrt2 : rt with
    | none => rw [hrt2] at hr; exact absurd hr (by simp [aRT])
    | some ty =>
      rw [hrt2] at hr
      exact W.zret (ty := ty) X.1 X.2.1 (hmr.trans hrt2) hr.1 fin hq hd X.2.2.2.2.1
  · obtain ⟨len, w, hd, -, hlen, -⟩ := X.at hg rfl
    have hl3 := hlen rfl
    subst hl3
    have h4 : rt = some .long := by
      unfold aRT at hr
      split at hr <;> first | rfl | (simp at *; done) | (rename_i q; cases q)
    exact W.lret X.1 X.2.1 (hmr.trans h4) fin hq hd X.2.2.2.2.1
  · obtain ⟨len, w, hd, -, hlen, -⟩ := X.at hg rfl
    have hl3 := hlen rfl
    subst hl3
    have h4 : ∃ ty, rt = some ty ∧ ((∃ n, ty = .object n) ∨ ∃ t, ty = .array t) := by
      unfold aRT at hr
      split at hr <;> first | exact ⟨_, rfl, Or.inl ⟨_, rfl⟩⟩ | exact ⟨_, rfl, Or.inr ⟨_, rfl⟩⟩ | (simp at *; done) | (rename_i q; cases q)
    obtain ⟨ty, h5, h6⟩ := h4
    exact W.aret (rt := ty) X.1 X.2.1 (hmr.trans h5) h6 (Or.inr ⟨_, rfl⟩) fin hq hd X.2.2.2.2.1
  · obtain ⟨len, w, hd, -, hlen, -⟩ := X.at hg rfl
    have hl3 := hlen rfl
    subst hl3
    have h4 : ∃ ty, rt = some ty ∧ ((∃ n, ty = .object n) ∨ ∃ t, ty = .array t) := by
      unfold aRT at hr
      split at hr <;> first | exact ⟨_, rfl, Or.inl ⟨_, rfl⟩⟩ | exact ⟨_, rfl, Or.inr ⟨_, rfl⟩⟩ | (simp at *; done) | (rename_i q; cases q)
    obtain ⟨ty, h5, h6⟩ := h4
    exact W.aret (rt := ty) X.1 X.2.1 (hmr.trans h5) h6 (Or.inl rfl) fin hq hd X.2.2.2.2.1
  · cases hi
end SIM
end
section
/-! ===== the AM's calls are the machine's; the whole method ===== -/
theorem aObjB : Cond.instanceMethod objectInit ∈ lw_tbl ∧ Cond.code objectInit ⟨#[0xb1]⟩ 1 none ∈ lw_tbl := by decide +kernel
section SIM
variable {G : aG} {pq : Nat → Option aM} {p : Program} {l : Launch} {e : Env} {R : Room} {s : State} {m : MethodId} {args : Array Value} {below : List Frame} {meth : Method} {c : Code} {mi : aM} {Q' : State → Prop}
variable {cl : aC} {C S d : Nat} {rt : Option FieldType} {ini : Bool} {Q : aQ}
def aOk (pq : Nat → Option aM) : Prop := ∀ j mj, pq j = some mj → ∃ w1 w2 w3 w4, mChk pq mj w1 w2 w3 w4 = true
def aIH (G : aG) (l : Launch) (pq : Nat → Option aM) (cl : aC) (d : Nat) : Prop := ∀ j mj as h mc ms Q, pq j = some mj → cl j as h mc ms Q → aMet G l mj d as h mc ms Q
theorem mChk_spec {mj : aM} {w1 w2 w3 w4 : Nat} (h : mChk pq mj w1 w2 w3 w4 = true) : Cond.code mj.y mj.bs mj.nL mj.rt ∈ lw_good ∧ (mj.sta = true → Cond.static mj.y ∈ lw_good) ∧ (mj.sta = false → Cond.instanceMethod mj.y ∈ lw_good) ∧ (mj.sta = false → mj.ini = false → mj.y.cls ≠ RJ5 → Cond.selects mj.y.cls mj.y mj.y ∈ lw_good) ∧ Cond.initialized mj.y.cls ∈ lw_good ∧ aPc mj.cd 0 = 0 ∧ plainFor mj.y = true ∧ mj.own = mj.y.cls ∧ ∀ k e, mj.cd[k]? = some e → eChk pq mj k e = true := by
  simp only [mChk, Bool.and_eq_true, Bool.or_eq_true, decide_eq_true_eq] at h
  obtain ⟨⟨⟨⟨⟨⟨⟨h1, h2⟩, h3⟩, h4⟩, h5⟩, h6⟩, h7⟩, h8⟩ := h
  refine ⟨wIs_in h1, fun q => ?_, fun q => ?_, fun q1 q2 q3 => ?_, wIs_in h4, h5, h6, h7, fun k e hk => ?_⟩
  · rw [if_pos q] at h2; exact wIs_in h2
  · rw [if_neg (by rw [q]; decide)] at h2; exact wIs_in h2
  · rcases h3 with ((z | z) | z) | z
    · rw [q1] at z; cases z
    · rw [q2] at z; cases z
    · exact absurd z q3
    · exact wIs_in z
  · have h9 := List.all_eq_true.mp h8 (e, k) (List.mem_zipIdx_iff_getElem?.mpr hk)
    exact h9
theorem aGood (ws : List Cond) (hw : ∀ w ∈ ws, w ∈ lw_good) : GoodIn lw_good ws := fun w h => lw_good_all w (hw w h)
theorem aWs_in {mj : aM} (h : Cond.code mj.y mj.bs mj.nL mj.rt ∈ lw_good) : ∀ w ∈ aWs mj, w ∈ lw_good := by
  intro w hw
  rcases List.mem_cons.mp hw with rfl | hw
  · exact h
  · exact hw
theorem aCallK {H : Heap} {locs : List Loc} {cells slots mc ms pc : Nat} {ls : Array Slot} {st0 rest : List Value} {a : Array Value} {Q0 : aQ} (hr : va_Run p l e R s m args below meth c H locs cells slots mc ms (F0 m pc ls st0) rest (aPost G Q0 a) (fun q => G.1.heap.size ≤ q)) (hq : ∀ q ∈ locs, G.1.heap.size ≤ q.base)
    (kk : ∀ (r : Option Value) (h : aH) (H1 : Heap) (locs1 : List Loc), aHp G H1 h → Q0 r h → (∀ q ∈ locs1, G.1.heap.size ≤ q.base) → W p l e R s m args below meth c H1 locs1 (cells + mc) (slots + ms) Q' (F0 m (pc + 3) ls ((r.toList).map (up G) ++ rest))) : W p l e R s m args below meth c H locs cells slots Q' (F0 m pc ls st0) := by
  intro T hT X
  obtain ⟨v, st₀, t, T', L, h0, X', hL, e1, e2, ⟨r, h, hv, hH, hV, hQ⟩, st⟩ := hr T hT X
  have hv : v = r.map (up G) := by injection hv
  subst hv
  obtain ⟨t2, a1, b1⟩ := kk r h T'.heap (locs ++ L) (by rw [e1]; exact hH) hQ (fun q hm => by
    rcases List.mem_append.mp hm with h1 | h1
    · exact hq q h1
    · exact hL q h1) T' rfl X'
  refine ⟨t2, st t2 ?_, b1⟩
  have e3 : (r.map (up G)).toList = r.toList.map (up G) := by cases r <;> rfl
  rw [e3]
  exact a1
theorem cChk_spec {mj : aM} {n : Nat} (h : cChk mj n = true) : aNp mj.y = some n ∧ mj.y.cls ≠ "java/lang/invoke/MethodHandle" ∧ mj.y.cls ≠ "java/lang/invoke/VarHandle" ∧ mj.nL ≤ 30 := by
  simp only [cChk, Bool.and_eq_true, decide_eq_true_eq] at h
  exact ⟨h.1.1.1.1, h.1.1.1.2, h.1.1.2, h.1.2⟩
theorem aRm_ok {mj : aM} {n mc ms : Nat} (h : cChk mj n = true) : (aRm d mc ms).frames + 1 ≤ (aRm (d + 1) C S).frames ∧ 8 + (mj.nL + 11) + (aRm d mc ms).locals ≤ (aRm (d + 1) C S).locals := by
  have h1 := (cChk_spec h).2.2.2
  show d + 1 ≤ d + 1 ∧ 8 + (mj.nL + 11) + 60 * d ≤ 60 * (d + 1)
  omega
theorem sm_44 (X : aCtx G pq p s m args meth c mi) (hok : aOk pq) (ih : aIH G l pq cl d) : aRul cl mi.cd C S rt ini Q (aW G p l e (aRm (d + 1) C S) s m args below meth c mi Q') 44 := by
  intro k i x n as st mc ms lo h c1 s1 hg hi hn hcat hc hs hcl H ls locs hH hl hq
  obtain ⟨j, rfl⟩ := hi
  obtain ⟨hd, hnx, w, hk⟩ := X.go hg rfl rfl
  simp only [lChk] at hk
  split at hk
  · rename_i mj hmj
    simp only [Bool.and_eq_true, Bool.not_eq_true'] at hk
    obtain ⟨⟨⟨k1, k2⟩, k3⟩, k4⟩ := hk
    obtain ⟨w1, w2, w3, w4, hm⟩ := hok x mj hmj
    obtain ⟨m1, m2, m3, m4, m5, -, -, -, -⟩ := mChk_spec hm
    have hM := ih x mj as h mc ms _ hmj hcl
    have hC := cChk_spec k2
    have hT : GoodIn lw_good (va_wsS mi.own j mj.y (aWs mj)) := aGood _ (fun w hw => by
      rcases List.mem_append.mp hw with hw | hw
      · simp only [List.mem_cons, List.not_mem_nil, or_false] at hw
        rcases hw with rfl | rfl | rfl
        · exact wIs_in k1
        · exact m2 k3
        · exact m5
      · exact aWs_in m1 w hw)
    refine aCallK (va_runS (As := as.map (up G)) (rest := st.map (up G)) (n := n) ⟨X.1, X.2.1, X.2.2.1, X.own, X.ts⟩ hM (va_cwS n X.ts hT rfl rfl rfl ⟨hC.2.1, hC.2.2.1, hC.1⟩ (aRm_ok k2)) ⟨aPre_blind as h, fun U hU hW => ⟨rfl, by rw [hU]; exact hH, X.2.2.2.2.2.2.2.2.1.warm hW⟩⟩ rfl (by rw [List.length_map]; exact hn) hl.1 (by rw [List.map_append, List.map_reverse]) (lv_room (by rw [up_cats]; exact hcat)) hd ⟨hc, hs⟩) hq ?_
    intro r h' H1 locs1 hH1 hP1 hq1
    have K := hP1 H1 ls locs1 hH1 hl hq1
    rw [hnx, List.map_append] at K
    exact K
  · cases hk
theorem aNoJ5 : ∀ (ci : Nat) {q : vw_C}, aCls[ci]? = some q → q.1 ≠ RJ5
  | 0, _, h => by cases h; decide
  | 1, _, h => by cases h; decide
  | 2, _, h => by cases h; decide
  | 3, _, h => by cases h; decide
  | 4, _, h => by cases h; decide
  | 5, _, h => by cases h; decide
  | 6, _, h => by cases h; decide
  | 7, _, h => by cases h; decide
  | 8, _, h => by cases h; decide
  | _ + 9, _, h => by simp [aCls, vwCl] at h
theorem sm_45 (X : aCtx G pq p s m args meth c mi) (hok : aOk pq) (ih : aIH G l pq cl d) : aRul cl mi.cd C S rt ini Q (aW G p l e (aRm (d + 1) C S) s m args below meth c mi Q') 45 := by
  intro k i x n a as st mc ms ci fs lo h c1 s1 hg hi hn16 hn h16 hlt he hcat hc hs hcl H ls locs hH hl hq
  obtain ⟨j, rfl⟩ := hi
  obtain ⟨hd, hnx, w, hk⟩ := X.go hg rfl rfl
  simp only [lChk] at hk
  split at hk
  · rename_i mj hmj
    simp only [Bool.and_eq_true, Bool.or_eq_true, Bool.not_eq_true', decide_eq_true_eq] at hk
    obtain ⟨⟨⟨⟨k1, k2⟩, k3⟩, k4⟩, k5⟩ := hk
    obtain ⟨w1, w2, w3, w4, hm⟩ := hok x mj hmj
    obtain ⟨m1, m2, m3, m4, m5, -, -, -, -⟩ := mChk_spec hm
    have hM := ih x mj (.ref a :: as) h mc ms _ hmj hcl
    have e1 : (n + 16 * ci) % 16 = n := by omega
    have e2 : (n + 16 * ci) / 16 = ci := by omega
    rw [e1] at k2
    rw [e2] at k5
    have hC := cChk_spec k2
    obtain ⟨r, hr, cell, g1, g2, g3, g4⟩ := hH.at h16 hlt he
    have hr' : aCls[ci]? = some r := hr
    have kk : ∀ (r : Option Value) (h : aH) (H1 : Heap) (locs1 : List Loc), aHp G H1 h → aW G p l e (aRm (d + 1) C S) s m args below meth c mi Q' (k + 1) lo (r.toList ++ st) h (c1 + mc) (s1 + ms) → (∀ q ∈ locs1, G.1.heap.size ≤ q.base) → W p l e (aRm (d + 1) C S) s m args below meth c H1 locs1 (c1 + mc) (s1 + ms) Q' (F0 m (aPc mi.cd k + 3) ls ((r.toList).map (up G) ++ st.map (up G))) := by
      intro r h' H1 locs1 hH1 hP1 hq1
      have K := hP1 H1 ls locs1 hH1 hl hq1
      rw [hnx, List.map_append] at K
      exact K
    rcases k5 with (k5 | k5) | k5
    · rw [hr'] at k5
      have hcn : r.1 = mj.y.cls := Option.some.inj k5
      have hT : GoodIn lw_good (wsV mi.own j mj.y.cls mj.y (aWs mj)) := aGood _ (fun w hw => by
        rcases List.mem_append.mp hw with hw | hw
        · simp only [List.mem_cons, List.not_mem_nil, or_false] at hw
          rcases hw with rfl | rfl | rfl | rfl
          · exact wIs_in k1
          · exact m3 k3
          · exact m4 k3 k4 (by rw [← hcn]; exact aNoJ5 ci hr')
          · exact m5
        · exact aWs_in m1 w hw)
      exact aCallK (va_runV (As := as.map (up G)) (b := ad G a) (rest := st.map (up G)) (n := n) ⟨X.1, X.2.1, X.2.2.1, X.own, X.ts⟩ hM (cwV n X.ts hT rfl rfl rfl ⟨rfl, hC.2.1, hC.2.2.1, hC.1⟩ (aRm_ok k2)) ⟨aPre_blind _ h, ⟨cell, g1, by rw [g3]; rfl, by rw [g2, ← hcn]; exact (X.K.1 ci r hr').2.1⟩, fun U hU hW => ⟨rfl, by rw [hU]; exact hH, X.2.2.2.2.2.2.2.2.1.warm hW⟩⟩ rfl (by rw [List.length_map]; exact hn) hl.1 (by rw [List.map_append, List.map_reverse]; rfl) (lv_room (by rw [up_cats]; exact hcat)) hd ⟨hc, hs⟩) hq kk
    · rw [k5.1] at hr'
      cases hr'
    · obtain ⟨⟨⟨k6, k7⟩, k8⟩, k9⟩ := k5
      subst k6
      have hrn : r.1 = RJ4 := by cases hr'; rfl
      have hT : GoodIn lw_good (va_wsU mi.own j RJ4 RJ5 mj.y mj.y (aWs mj)) := aGood _ (fun w hw => by
        rcases List.mem_append.mp hw with hw | hw
        · simp only [List.mem_cons, List.not_mem_nil, or_false] at hw
          rcases hw with rfl | rfl | rfl | rfl | rfl
          · exact wIs_in k1
          · rw [k7]; exact inOk_in k8
          · exact inOk_in k9
          · exact m3 k3
          · exact m5
        · exact aWs_in m1 w hw)
      exact aCallK (va_runU (As := as.map (up G)) (b := ad G a) (rest := st.map (up G)) (n := n) ⟨X.1, X.2.1, X.2.2.1, X.own, X.ts⟩ hM (va_cwU n X.ts hT rfl rfl rfl (by rw [← k7]) ⟨by rw [← k7]; exact hC.2.1, by rw [← k7]; exact hC.2.2.1, hC.1⟩ (aRm_ok k2)) ⟨aPre_blind _ h, ⟨cell, g1, by rw [g3]; rfl, by rw [g2, ← hrn]; exact (X.K.1 0 r hr').2.1⟩, fun U hU hW => ⟨rfl, by rw [hU]; exact hH, X.2.2.2.2.2.2.2.2.1.warm hW⟩⟩ rfl (by rw [List.length_map]; exact hn) hl.1 (by rw [List.map_append, List.map_reverse]; rfl) (lv_room (by rw [up_cats]; exact hcat)) hd ⟨hc, hs⟩) hq kk
  · cases hk
theorem sm_51 (X : aCtx G pq p s m args meth c mi) (hok : aOk pq) (ih : aIH G l pq cl d) : aRul cl mi.cd C S rt ini Q (aW G p l e (aRm (d + 1) C S) s m args below meth c mi Q') 51 := by
  intro k i x n a as st mc ms fs lo h c1 s1 hg hi hn16 hn h16 he hcat hc hs hcl H ls locs hH hl hq
  obtain ⟨j, rfl⟩ := hi
  obtain ⟨hd, hnx, w, hk⟩ := X.go hg rfl rfl
  simp only [lChk] at hk
  split at hk
  · rename_i mj hmj
    simp only [Bool.and_eq_true, Bool.or_eq_true, Bool.not_eq_true', decide_eq_true_eq] at hk
    obtain ⟨⟨⟨⟨k1, k2⟩, k3⟩, k4⟩, k5⟩ := hk
    obtain ⟨w1, w2, w3, w4, hm⟩ := hok x mj hmj
    obtain ⟨m1, m2, m3, m4, m5, -, -, -, -⟩ := mChk_spec hm
    have hM := ih x mj (.ref a :: as) h mc ms _ hmj hcl
    have e1 : (n + 16 * 9) % 16 = n := by omega
    have e2 : (n + 16 * 9) / 16 = 9 := by omega
    rw [e1] at k2
    rw [e2] at k5
    have hC := cChk_spec k2
    obtain ⟨hO, -⟩ := hH.2.2.2.2.2 a fs h16 he
    obtain ⟨cell, g1, g2, g3, g4⟩ := hO.moved X.alike
    have ea : ad G a = G.2.1 a := ad_lo h16
    rcases k5 with (k5 | k5) | k5
    · cases k5
    · have hcn := k5.2
      have hT : GoodIn lw_good (wsV mi.own j mj.y.cls mj.y (aWs mj)) := aGood _ (fun w hw => by
        rcases List.mem_append.mp hw with hw | hw
        · simp only [List.mem_cons, List.not_mem_nil, or_false] at hw
          rcases hw with rfl | rfl | rfl | rfl
          · exact wIs_in k1
          · exact m3 k3
          · exact m4 k3 k4 (by rw [hcn]; decide)
          · exact m5
        · exact aWs_in m1 w hw)
      refine aCallK (va_runV (As := as.map (up G)) (b := ad G a) (rest := st.map (up G)) (n := n) ⟨X.1, X.2.1, X.2.2.1, X.own, X.ts⟩ hM (cwV n X.ts hT rfl rfl rfl ⟨rfl, hC.2.1, hC.2.2.1, hC.1⟩ (aRm_ok k2)) ⟨aPre_blind _ h, ⟨cell, by rw [ea, hH.2.2.1 _ (Array.getElem?_eq_some_iff.mp g1).1]; exact g1, g2, by rw [hcn]; exact g3⟩, fun U hU hW => ⟨rfl, by rw [hU]; exact hH, X.2.2.2.2.2.2.2.2.1.warm hW⟩⟩ rfl (by rw [List.length_map]; exact hn) hl.1 (by rw [List.map_append, List.map_reverse]; rfl) (lv_room (by rw [up_cats]; exact hcat)) hd ⟨hc, hs⟩) hq ?_
      intro r h' H1 locs1 hH1 hP1 hq1
      have K := hP1 H1 ls locs1 hH1 hl hq1
      rw [hnx, List.map_append] at K
      exact K
    · exact absurd k5.1.1.1 (by decide)
  · cases hk
theorem sm_52 (X : aCtx G pq p s m args meth c mi) (hok : aOk pq) (ih : aIH G l pq cl d) : aRul cl mi.cd C S rt ini Q (aW G p l e (aRm (d + 1) C S) s m args below meth c mi Q') 52 := by
  intro k i x n a as st mc ms fs lo h c1 s1 hg hi hx hn h16 hlt he hcat hc hs hcl H ls locs hH hl hq
  obtain ⟨j, rfl⟩ := hi
  obtain ⟨hd, hnx, w, hk⟩ := X.go hg rfl rfl
  simp only [lChk] at hk
  rw [if_neg (by omega), if_pos (by omega)] at hk
  split at hk
  · rename_i mj hmj
    simp only [Bool.and_eq_true, Bool.not_eq_true', decide_eq_true_eq] at hk
    obtain ⟨⟨⟨⟨⟨⟨⟨k1, k2⟩, k3⟩, k4⟩, k5⟩, k6⟩, k7⟩, k8⟩ := hk
    obtain ⟨w1, w2, w3, w4, hm⟩ := hok x mj hmj
    obtain ⟨m1, m2, m3, m4, m5, -, -, -, -⟩ := mChk_spec hm
    have hM := ih x mj (.ref a :: as) h mc ms _ hmj hcl
    rw [show n + 1000 - 1000 = n by omega] at k2
    have hC := cChk_spec k2
    obtain ⟨r, hr, cell, g1, g2, g3, g4⟩ := hH.at h16 hlt he
    have hr' : aCls[0]? = some r := hr
    have hrn : r.1 = RJ4 := by cases hr'; rfl
    have hname : mj.y.name ≠ "<init>" := by
      intro z
      have := k3
      unfold aM.ini at this
      have z2 : mj.2.1.name = "<init>" := z
      rw [z2] at this
      exact absurd this (by decide)
    obtain ⟨-, hfc, kC, hkC, hkd⟩ := X.K.1 0 r hr'
    have hT : GoodIn lw_good (va_wsSU mi.own j mj.y (aWs mj)) := aGood _ (fun w hw => by
      rcases List.mem_append.mp hw with hw | hw
      · simp only [List.mem_cons, List.not_mem_nil, or_false] at hw
        rcases hw with rfl | rfl | rfl | rfl | rfl
        · exact wIs_in k1
        · rw [k5]; exact inOk_in k7
        · rw [k5, k6]; exact inOk_in k8
        · exact m3 k4
        · exact m5
      · exact aWs_in m1 w hw)
    refine aCallK (va_runSU (C := r.1) (As := as.map (up G)) (b := ad G a) (rest := st.map (up G)) (n := n) ⟨hfc, kC, hkC, hkd⟩ ⟨X.1, X.2.1, X.2.2.1, X.own, X.ts⟩ hM (va_cwSU n X.ts hT rfl rfl rfl ⟨hname, hC.1⟩ (aRm_ok k2)) ⟨aPre_blind _ h, ⟨cell, g1, by rw [g3]; rfl, by rw [g2]; exact hfc⟩, fun U hU hW => ⟨rfl, by rw [hU]; exact hH, X.2.2.2.2.2.2.2.2.1.warm hW⟩⟩ rfl (by rw [List.length_map]; exact hn) hl.1 (by rw [List.map_append, List.map_reverse]; rfl) (lv_room (by rw [up_cats]; exact hcat)) hd ⟨hc, hs⟩) hq ?_
    intro r h' H1 locs1 hH1 hP1 hq1
    have K := hP1 H1 ls locs1 hH1 hl hq1
    rw [hnx, List.map_append] at K
    exact K
  · cases hk
theorem sm_53 (X : aCtx G pq p s m args meth c mi) : aRul cl mi.cd C S rt ini Q (aW G p l e (aRm (d + 1) C S) s m args below meth c mi Q') 53 := by
  intro k x y a b na nb f g n lo st h c1 s1 hg hb16 heb h16 hlt he hcat hn dp hdp hna hnb hfit hP H ls locs hH hl hq
  obtain ⟨len, w, hk⟩ := aGet_at hg
  have h0 := X.2.2.2.2.2.2.2.2.2.1 k _ hk
  simp only [eChk, Bool.and_eq_true, decide_eq_true_eq] at h0
  obtain ⟨⟨⟨⟨⟨hd, hnx⟩, k1⟩, k2⟩, k3⟩, k4⟩ := h0
  have hcst := hH.2.2.2.2.1 b _ hb16 heb
  rw [heb] at hcst
  have hX : va_T .byte (G.2.1 b) nb (fun j => .int (f j)) (aOld G) s G.1.heap := va_T.moved X.alike hcst
  have hat := hH.at h16 hlt he
  obtain ⟨scr, hs1, hs2, hs3, hs4, hs4', hs5, hs7⟩ := hX
  have hc0 : H[G.2.1 b]? = some scr := by rw [hH.2.2.1 _ (Array.getElem?_eq_some_iff.mp hs1).1]; exact hs1
  have hc1 : H[ad G a]? = some (vp_cell (G.2.2.1 2) (na, .inl g)) := hat
  obtain ⟨hs6, k0, hk0, cm0, hkk0⟩ := hs2
  obtain ⟨-, k1', hk1', cm1, hkk1⟩ := (X.K.2 2 _ (aTys_at G (by decide))).1 na (fun j => .int (g j))
  have ez : (nI n).toNatClampNeg = n := nI_clamp (by omega)
  have ed : (nI dp).toNatClampNeg = dp := nI_clamp (by omega)
  have z0 : (0 : Int32).toNatClampNeg = 0 := by decide
  intro T hT XT
  obtain ⟨vm', X', step⟩ := XT.arraycopy X.1 X.own (X.ts _ (wIs_in k1)) (X.ts _ (inOk_in k2)) (X.ts _ (inOk_in k3)) (X.ts _ (inOk_in k4)) (src := G.2.1 b) (dst := ad G a) (cs := scr) (cd := vp_cell (G.2.2.1 2) (na, .inl g)) (srcPos := 0) (destPos := nI dp) (n := nI n) (by rw [hT]; exact hc0) (by rw [hT]; exact hc1)
    hs6 (fun _ h => by cases h) hs3 (fun h => by cases h) hk0 hk1' hkk0 hkk1 (by simp [refKind, aTy]) (by decide) (nI_pos (by omega)) (nI_pos (by omega))
    (by rw [nI_toInt (by omega)]; simp; omega)
    (by rw [nI_toInt (by omega), nI_toInt (by omega)]; show ¬ _ > ((arrV _ na (fun j => .int (g j))).slots.size : Int); rw [arrV_size]; omega)
    (fun vm₁ _ i hi => by
      rw [ez] at hi
      have e : scr.slots.getD ((0 : Int32).toNatClampNeg + i) .null = .int (f i) := by
        rw [Array.getD_eq_getD_getElem?, z0, Nat.zero_add, hs5 _ (by omega)]
        rfl
      refine ⟨?_, ?_⟩
      · rw [e]
        exact hfit i hi
      · rw [e]
        exact trivial)
    (g := F0 m (aPc mi.cd k) ls (.int (nI n) :: .int (nI dp) :: .ref (ad G a) :: .int 0 :: .ref (G.2.1 b) :: st.map (up G))) rfl (by rw [X.2.2.1]; exact hl.1) (rest := st.map (up G)) rfl (by rw [X.2.1]; exact hd) (by show 1 ≤ d + 1; omega) (by
      have h1 : (List.map (fun v => Value.category v) (List.map (up G) st)).sum = aCat st := up_cats G st
      have h2 : nativeFrameWords "java/lang/System" "arraycopy" 5 ≤ 40 := by decide
      show 2 * 0 + (List.map (fun v => Value.category v) (List.map (up G) st)).sum + (nativeFrameWords "java/lang/System" "arraycopy" 5 + 11) ≤ 60 * (d + 1)
      omega)
  have e1 : copied scr (vp_cell (G.2.2.1 2) (na, .inl g)) 0 (nI dp) (nI n) = vp_cell (G.2.2.1 2) (na, .inl (va_cpy f g 0 dp n)) := by
    have := va_copiedX (fun z => Value.int z) scr (G.2.2.1 2) (n0 := nb) (n1 := na) (n := (nI n).toNatClampNeg) (sp := (0 : Int32).toNatClampNeg) (dp := (nI dp).toNatClampNeg) f g hs5 (by rw [z0, ez]; omega)
    rw [z0, ez, ed] at this
    refine Eq.trans ?_ this
    show _ = (arrV _ na (fun j => .int (g j))).storeRun dp (scr.stretch 0 n)
    unfold copied
    rw [z0, ez, ed]
    rfl
  rw [e1] at X' step
  have hlA : ad G a < H.size := (Array.getElem?_eq_some_iff.mp hc1).1
  have hheap : ((T.setVm vm').setCell (ad G a) (vp_cell (G.2.2.1 2) (na, .inl (va_cpy f g 0 dp n)))).heap = H.setIfInBounds (ad G a) (vp_cell (G.2.2.1 2) (na, .inl (va_cpy f g 0 dp n))) := by rw [← hT]; rfl
  have oq : ∀ q : Nat, q ≠ ad G a → (H.setIfInBounds (ad G a) (vp_cell (G.2.2.1 2) (na, .inl (va_cpy f g 0 dp n))))[q]? = H[q]? := fun q hq => by simp [Array.getElem?_setIfInBounds, Ne.symm hq]
  have K := fun locs1 hq1 => hP (H.setIfInBounds (ad G a) (vp_cell (G.2.2.1 2) (na, .inl (va_cpy f g 0 dp n)))) ls locs1 (hH.put h16 hlt (by simp) oq (show (H.setIfInBounds (ad G a) (vp_cell (G.2.2.1 2) (na, .inl (va_cpy f g 0 dp n))))[ad G a]? = some (vp_cell (G.2.2.1 2) (na, .inl (va_cpy f g 0 dp n))) by simp [Array.getElem?_setIfInBounds, hlA])) hl hq1
  rw [hnx] at K
  obtain ⟨t, a1, b1⟩ := K _ (fun q hq2 => by
    rcases List.mem_append.mp hq2 with hh | hh
    · exact hq q hh
    · obtain ⟨z, -, hz⟩ := List.mem_map.mp hh
      rw [← hz]
      show _ ≤ ad G a
      rw [ad_hi h16]; omega) _ hheap X'
  refine ⟨t, ?_, b1⟩
  rw [show List.map (up G) (Value.int (nI n) :: Value.int (nI dp) :: Value.ref a :: Value.int 0 :: Value.ref b :: st) = (.int (nI n) :: .int (nI dp) :: .ref (ad G a) :: .int 0 :: .ref (G.2.1 b) :: st.map (up G)) by
    simp only [List.map_cons, up]; rw [ad_lo hb16]]
  exact step t a1
theorem sm_46 (X : aCtx G pq p s m args meth c mi) (hok : aOk pq) (ih : aIH G l pq cl d) : aRul cl mi.cd C S rt ini Q (aW G p l e (aRm (d + 1) C S) s m args below meth c mi Q') 46 := by
  intro k i x n a as st mc ms lo h c1 s1 hg hi hx hn16 hn hcat hc hs hcl H ls locs hH hl hq
  obtain ⟨j, rfl⟩ := hi
  obtain ⟨hd, hnx, w, hk⟩ := X.go hg rfl rfl
  simp only [lChk] at hk
  rw [if_neg (by omega), if_neg (by omega)] at hk
  split at hk
  · rename_i mj hmj
    simp only [Bool.and_eq_true, decide_eq_true_eq, Bool.not_eq_true'] at hk
    obtain ⟨⟨⟨⟨k1, k2⟩, k3⟩, k4⟩, hsta⟩ := hk
    obtain ⟨w1, w2, w3, w4, hm⟩ := hok x mj hmj
    obtain ⟨m1, m2, m3, m4, m5, -, -, -, -⟩ := mChk_spec hm
    have hM := ih x mj (.ref a :: as) h mc ms _ hmj hcl
    have hC := cChk_spec k2
    have hname : mj.y.name = "<init>" := by
      have := k3
      unfold aM.ini at this
      exact eq_of_beq this
    have hws : aWs mj = Cond.code mj.y mj.bs mj.nL none :: lw_good := by unfold aWs; rw [k4]
    have kk : ∀ (r : Option Value) (h : aH) (H1 : Heap) (locs1 : List Loc), aHp G H1 h → aW G p l e (aRm (d + 1) C S) s m args below meth c mi Q' (k + 1) lo (r.toList ++ st) h (c1 + mc) (s1 + ms) → (∀ q ∈ locs1, G.1.heap.size ≤ q.base) → W p l e (aRm (d + 1) C S) s m args below meth c H1 locs1 (c1 + mc) (s1 + ms) Q' (F0 m (aPc mi.cd k + 3) ls ((r.toList).map (up G) ++ st.map (up G))) := by
      intro r h' H1 locs1 hH1 hP1 hq1
      have K := hP1 H1 ls locs1 hH1 hl hq1
      rw [hnx, List.map_append] at K
      exact K
    by_cases hw : w < 10000
    · rw [if_pos hw] at k1
      exact aCallK (va_runI (As := as.map (up G)) (b := ad G a) (rest := st.map (up G)) (n := n) ⟨X.1, X.2.1, X.2.2.1, X.own, X.ts⟩ hM (cwI n X.ts (aGood _ (aWs_in m1)) hws rfl rfl (X.ts _ m5) (X.ts _ (wIs_in k1)) (X.ts _ (m3 hsta)) hname ⟨hC.2.1, hC.2.2.1, hC.1⟩ (aRm_ok k2)) ⟨aPre_blind _ h, fun U hU hW => ⟨rfl, by rw [hU]; exact hH, X.2.2.2.2.2.2.2.2.1.warm hW⟩⟩ rfl (by rw [List.length_map]; exact hn) hl.1 (by rw [List.map_append, List.map_reverse]; rfl) (lv_room (by rw [up_cats]; exact hcat)) hd ⟨hc, hs⟩) hq kk
    · rw [if_neg hw] at k1
      have k1 := of_decide_eq_true k1
      exact aCallK (va_runIN (As := as.map (up G)) (b := ad G a) (rest := st.map (up G)) (n := n) ⟨X.1, X.2.1, X.2.2.1, X.own, X.ts⟩ hM ⟨va_cnB n X.ts (aGood _ (aWs_in m1)) hws rfl rfl (X.2.2.2.2.2.2.2.2.1.2.2.1 _ k1) (X.ts _ m5) ⟨hC.2.1, hC.2.2.1, hC.1⟩ (aRm_ok k2), hname, X.ts _ (m3 hsta)⟩ ⟨aPre_blind _ h, fun U hU hW => ⟨rfl, by rw [hU]; exact hH, X.2.2.2.2.2.2.2.2.1.warm hW⟩⟩ rfl (by rw [List.length_map]; exact hn) hl.1 (by rw [List.map_append, List.map_reverse]; rfl) (lv_room (by rw [up_cats]; exact hcat)) hd ⟨hc, hs⟩) hq kk
  · cases hk
theorem sm_47 (X : aCtx G pq p s m args meth c mi) : aRul cl mi.cd C S rt ini Q (aW G p l e (aRm (d + 1) C S) s m args below meth c mi Q') 47 := by
  intro k j n a st lo h c1 s1 hg hcat hP H ls locs hH hl hq
  have K := hP H ls locs hH hl hq
  obtain ⟨hd, hnx, w, hk⟩ := X.go hg rfl rfl
  simp only [lChk] at hk
  rw [if_pos trivial] at hk
  rw [hnx] at K
  have hr : 2 * (F0 m (aPc mi.cd k) ls (List.map (up G) (Value.ref a :: st))).monitorRoom + ((st.map (up G)).map fun v => v.category).sum ≤ 8 := lv_room (by rw [up_cats]; exact hcat)
  exact W.objInit X.1 X.2.1 X.own (X.ts _ (wIs_in hk)) (X.ts _ (lw_good_in aObjB.1 rfl)) (X.ts _ (lw_good_in aObjB.2 rfl)) rfl (hl.1.trans X.2.2.1.symm) rfl hd (by show 1 ≤ d + 1; omega) (by show _ + 12 ≤ 60 * (d + 1); omega) K
end SIM
theorem aArg_sl (G : aG) : ∀ (as : List Value) (i : Nat) (v : Value), (aArg as)[i]? = some (some v) → (lg_sl (as.map (up G)))[i]? = some (Slot.val (up G v))
  | [], i, v, h => by simp [aArg] at h
  | a :: as, i, v, h => by
    have ih := aArg_sl G as
    unfold aArg at h
    unfold lg_sl
    rw [List.flatMap_cons] at h
    rw [List.map_cons, List.flatMap_cons]
    rw [up_cat]
    by_cases hc : a.category = 2
    · rw [if_pos hc] at h ⊢
      match i, h with
      | 0, h => cases h; rfl
      | 1, h => cases h
      | i + 2, h => exact ih i v h
    · rw [if_neg hc] at h ⊢
      match i, h with
      | 0, h => cases h; rfl
      | i + 1, h => exact ih i v h
theorem aArg_len (G : aG) (as : List Value) : (lg_sl (as.map (up G))).length = (aArg as).length := by
  induction as with
  | nil => rfl
  | cons a as ih =>
    unfold aArg lg_sl at *
    rw [List.map_cons, List.flatMap_cons, List.flatMap_cons, List.length_append, List.length_append, ih, up_cat]
    split <;> rfl
theorem aEnt_lv (G : aG) (as : List Value) {n : Nat} (h : (aArg as).length ≤ n) : aLv G ((lg_sl (as.map (up G)) ++ List.replicate (n - (lg_sl (as.map (up G))).length) Slot.unset).toArray) n (aEnt n as) := by
  have h1 := lv_entry (as.map (up G)) (n := n) (by rw [aArg_len]; exact h)
  refine ⟨h1.1, ?_, h1.2.1, fun i v hi => ?_⟩
  · unfold aEnt
    rw [List.length_append, List.length_replicate]; omega
  · unfold aEnt at hi
    by_cases hl : i < (aArg as).length
    · rw [List.getElem?_append_left hl] at hi
      have h2 := aArg_sl G as i v hi
      rw [List.getElem?_toArray, List.getElem?_append_left (by rw [aArg_len]; exact hl)]
      exact h2
    · rw [List.getElem?_append_right (by omega)] at hi
      have := List.mem_of_getElem? hi
      rw [List.mem_replicate] at this
      cases this.2
theorem aOfW {l : Launch} {y : MethodName} {ws ws' : List Cond} {rm : Room} {Pc : Array Value → State → Prop} {Qc : Array Value → State → Outcome → State → Prop} {mc ms : Nat} {free : Addr → Prop} {cc : ByteArray} {maxL : Nat} {ret : Option FieldType}
    (hy : plainFor y = true) (hw : ws = Cond.code y cc maxL ret :: ws')
    (body : ∀ p e s m args below meth c s₁, BodyLoose p l y (headSpec ws rm) cc maxL ret e s m args below meth c s₁ → c.maxLocals = maxL → Pc args s →
      W p l e (headSpec ws rm).room s m args below meth c s.heap [] 0 0 (MQ below Qc args s mc ms free) (entryFrame m args maxL)) : Met l y ws rm Pc Qc mc ms free := by
  refine MetFree.of_bodySF (code := cc) (maxLocals := maxL) (ret := ret) hy ?_ ?_
  · intro args s m h hn
    obtain ⟨meth, c, h1, h2, h3, h4, h5, h6, -, -⟩ := Cond.code_spec hn (atoms_spec (ws := ws) h _ (by rw [hw]; exact List.mem_cons_self))
    exact ⟨meth, c, h1, h2, h3, h4, h5, h6⟩
  · intro p e s m args below meth c s₁ B hml hP _
    have hh0 : s₁.heap = s.heap := by rw [B.state]; rfl
    obtain ⟨t, a1, o, b1, b2, b3⟩ := body p e s m args below meth c s₁ B hml hP s₁ hh0 (Stand.of_body B)
    exact ⟨t, o, a1, b1, b2, ⟨b3.1, b3.2⟩⟩
section SIM
variable {G : aG} {pq : Nat → Option aM} {l : Launch} {cl : aC} {d : Nat}
/-- a run of the AM's body is the machine's -/
theorem aSim (hok : aOk pq) (ih : aIH G l pq cl d) {j : Nat} {mj : aM} (hmj : pq j = some mj) {as : List Value} {h : aH} {mc ms : Nat} {Q : aQ} {ini : Bool} (hfit : (aArg as).length ≤ mj.nL) (hB : aB cl mj.cd mc ms mj.rt ini Q 0 (aEnt mj.nL as) [] h 0 0) : aMet G l mj (d + 1) as h mc ms Q := by
  obtain ⟨w1, w2, w3, w4, hm⟩ := hok j mj hmj
  obtain ⟨m1, m2, m3, m4, m5, m6, m7, m8, m9⟩ := mChk_spec hm
  refine aOfW (cc := mj.bs) (maxL := mj.nL) (ret := mj.rt) m7 rfl ?_
  intro p e s m args below meth c s₁ B hml hv
  obtain ⟨rfl, hH, hV⟩ := hv
  have hts := atoms_spec (ws := aWs mj) B.pre
  have hown : s.vm.findClass mj.own = some m.cls := by rw [m8]; exact findClass_of_methodNamed B.named
  have X : aCtx G pq p s m (as.map (up G)).toArray meth c mj := ⟨B.exec, B.bytes, hml, B.returns, B.notSynchronized, hown, fun q => by
    have h1 := (name_of_methodNamed B.named B.method).1
    rw [h1]
    unfold aM.ini at q
    exact eq_of_beq q, fun w hw => hts w (List.mem_cons_of_mem _ hw), hV, m9, by rw [hH.2.1]; omega⟩
  rw [lg_entry_eq]
  have K := hB (aW G p l e (headSpec (aWs mj) (aRm (d + 1) mc ms)).room s m (as.map (up G)).toArray below meth c mj (MQ below (aPost G Q) (as.map (up G)).toArray s mc ms (fun q => G.1.heap.size ≤ q))) (fun n => by
    show aRul cl mj.cd mc ms mj.rt ini Q (aW G p l e (aRm (d + 1) mc ms) s m (as.map (up G)).toArray below meth c mj (MQ below (aPost G Q) (as.map (up G)).toArray s mc ms (fun q => G.1.heap.size ≤ q))) n
    match n with
    | 0 => exact sm_0 X
    | 1 => exact sm_1 X
    | 2 => exact sm_2 X
    | 3 => exact sm_3 X
    | 4 => exact sm_4 X
    | 5 => exact sm_5 X
    | 6 => exact sm_6 X
    | 7 => exact sm_7 X
    | 8 => exact sm_8 X
    | 9 => exact sm_9 X
    | 10 => exact sm_10 X
    | 11 => exact sm_11 X
    | 12 => exact sm_12 X
    | 13 => exact sm_13 X
    | 14 => exact sm_14 X
    | 15 => exact sm_15 X
    | 16 => exact sm_16 X
    | 17 => exact sm_17 X
    | 18 => exact sm_18 X
    | 19 => exact sm_19 X
    | 20 => exact sm_20 X
    | 21 => exact sm_21 X
    | 22 => exact sm_22 X
    | 23 => exact sm_23 X
    | 24 => exact sm_24 X
    | 25 => exact sm_25 X
    | 26 => exact sm_26 X
    | 27 => exact sm_27 X
    | 28 => exact sm_28 X
    | 29 => exact sm_29 X
    | 30 => exact sm_30 X
    | 31 => exact sm_31 X
    | 32 => exact sm_32 X
    | 33 => exact sm_33 X
    | 34 => exact sm_34 X
    | 35 => exact sm_35 X
    | 36 => exact sm_36 X
    | 37 => exact sm_37 X
    | 38 => exact sm_38 X rfl rfl
    | 39 => exact sm_39 X rfl rfl
    | 40 => exact sm_40 X rfl rfl
    | 41 => exact sm_41 X
    | 42 => exact sm_42 X
    | 43 => exact sm_43 X
    | 44 => exact sm_44 X hok ih
    | 45 => exact sm_45 X hok ih
    | 46 => exact sm_46 X hok ih
    | 47 => exact sm_47 X
    | 48 => exact sm_48 X rfl
    | 49 => exact sm_49 X rfl
    | 50 => exact sm_50 X
    | 51 => exact sm_51 X hok ih
    | 52 => exact sm_52 X hok ih
    | 53 => exact sm_53 X
    | 54 => exact sm_54 X
    | _ + 55 => trivial)
  have K2 := K s.heap _ [] hH (aEnt_lv G as hfit) (fun q hq => by cases hq)
  rw [m6] at K2
  exact K2
/-- every run of the AM is the machine's -/
theorem aSimAll (hok : aOk pq) {pr : aC} (hpr : ∀ d, aIH G l pq pr d) : ∀ d, aIH G l pq (aRun pq pr d) d := by
  intro d
  induction d with
  | zero => intro j mj as h mc ms Q _ hf; exact hf.elim
  | succ d ih =>
    intro j mj as h mc ms Q hj hf
    rcases hf with hf | ⟨mi, h1, h2, h3⟩
    · exact hpr (d + 1) j mj as h mc ms Q hj hf
    · cases hj.symm.trans h1
      exact aSim hok ih hj h2 h3
end SIM
end
section
/-! ===== checks of the JDK ===== -/
theorem mok_38 : mChk pg mi_38 683 682 10 52 = true := by decide +kernel
theorem mok_40 : mChk pg mi_40 687 686 11 52 = true := by decide +kernel
theorem mok_72 : mChk pg mi_72 978 976 977 63 = true := by decide +kernel
theorem mok_73 : mChk pg mi_73 1088 1087 0 63 = true := by decide +kernel
theorem mok_81 : mChk pg mi_81 841 840 0 64 = true := by decide +kernel
theorem mok_107 : mChk pg mi_107 77 76 0 51 = true := by decide +kernel
theorem mok_134 : mChk pg mi_134 907 905 906 51 = true := by decide +kernel
theorem mok_135 : mChk pg mi_135 914 912 913 51 = true := by decide +kernel
theorem mok_136 : mChk pg mi_136 1144 1142 1143 51 = true := by decide +kernel
theorem mok_211 : mChk pg mi_211 1472 1470 1471 57 = true := by decide +kernel
theorem mok_222 : mChk pg mi_222 1521 1519 1520 57 = true := by decide +kernel
theorem mok_226 : mChk pg mi_226 690 689 0 65 = true := by decide +kernel
theorem mok_227 : mChk pg mi_227 910 909 0 66 = true := by decide +kernel
theorem mok_228 : mChk pg mi_228 1133 1132 0 66 = true := by decide +kernel
theorem mok_229 : mChk pg mi_229 953 952 0 66 = true := by decide +kernel
theorem mok_230 : mChk pg mi_230 124 123 0 54 = true := by decide +kernel
theorem mok_231 : mChk pg mi_231 127 126 0 53 = true := by decide +kernel
theorem mok_232 : mChk pg mi_232 1137 1135 1136 54 = true := by decide +kernel
theorem mok_233 : mChk pg mi_233 1140 1139 0 53 = true := by decide +kernel
theorem mok_234 : mChk pg mi_234 1148 1146 1147 54 = true := by decide +kernel
theorem mok_235 : mChk pg mi_235 1151 1150 0 53 = true := by decide +kernel
theorem mok_236 : mChk pg mi_236 918 916 917 54 = true := by decide +kernel
theorem mok_237 : mChk pg mi_237 921 920 0 53 = true := by decide +kernel
theorem mok_238 : mChk pg mi_238 925 924 0 53 = true := by decide +kernel
theorem mok_239 : mChk pg mi_239 961 958 0 53 = true := by decide +kernel
theorem mok_240 : mChk pg mi_240 1120 1118 1119 54 = true := by decide +kernel
theorem mok_241 : mChk pg mi_241 1123 1122 0 53 = true := by decide +kernel
theorem mok_242 : mChk pg mi_242 1126 1125 0 70 = true := by decide +kernel
theorem mok_243 : mChk pg mi_243 1063 1061 1062 54 = true := by decide +kernel
theorem mok_244 : mChk pg mi_244 1066 1065 0 53 = true := by decide +kernel
theorem mok_245 : mChk pg mi_245 1069 1068 0 72 = true := by decide +kernel
theorem mok_246 : mChk pg mi_246 1072 1071 0 72 = true := by decide +kernel
theorem mok_247 : mChk pg mi_247 983 981 982 54 = true := by decide +kernel
theorem mok_248 : mChk pg mi_248 986 985 0 53 = true := by decide +kernel
theorem mok_249 : mChk pg mi_249 1029 1028 0 53 = true := by decide +kernel
theorem mok_250 : mChk pg mi_250 1033 1032 0 53 = true := by decide +kernel
theorem mok_251 : mChk pg mi_251 1057 1055 1056 55 = true := by decide +kernel
theorem mok_252 : mChk pg mi_252 1024 1022 1023 55 = true := by decide +kernel
theorem mok_253 : mChk pg mi_253 1020 1018 1019 55 = true := by decide +kernel
theorem mok_254 : mChk pg mi_254 1093 1091 1092 55 = true := by decide +kernel
theorem mok_255 : mChk pg mi_255 1097 1095 1096 55 = true := by decide +kernel
theorem mok_256 : mChk pg mi_256 1103 1102 0 55 = true := by decide +kernel
theorem mok_257 : mChk pg mi_257 1100 1099 0 70 = true := by decide +kernel
theorem mok_258 : mChk pg mi_258 1106 1105 0 71 = true := by decide +kernel
end
