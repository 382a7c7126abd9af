section
-- ===== PART A: goes FIRST, ahead of the names: the tables' words, and 'selects' of the private methods out of them =====
/-- a private method of a class that the tables say can be made, by its rows of tables_1 -/
def lw_okq (q : MethodName × Nat) : Prop := (q.1.cls ≠ "java/lang/invoke/MethodHandle" ∧ q.1.cls ≠ "java/lang/invoke/VarHandle") ∧ Cond.instantiable q.1.cls q.2 ∈ tables_1 ∧ Cond.privateMethod q.1 ∈ tables_1 ∧ Cond.instanceMethod q.1 ∈ tables_1
theorem lw_p0 : lw_okq (⟨"BridgeClub", "shuffle", "(I)V"⟩, 8) := ⟨⟨by decide +kernel, by decide +kernel⟩, List.mem_of_getElem? (i := 24) (by decide +kernel), List.mem_of_getElem? (i := 132) (by decide +kernel), List.mem_of_getElem? (i := 133) (by decide +kernel)⟩
theorem lw_p1 : lw_okq (⟨"BridgeClub", "boardNumbered", "(I)LBridgeClub$Board;"⟩, 8) := ⟨⟨by decide +kernel, by decide +kernel⟩, List.mem_of_getElem? (i := 24) (by decide +kernel), List.mem_of_getElem? (i := 167) (by decide +kernel), List.mem_of_getElem? (i := 168) (by decide +kernel)⟩
theorem lw_p2 : lw_okq (⟨"BridgeClub", "tableWithBoard", "(I)I"⟩, 8) := ⟨⟨by decide +kernel, by decide +kernel⟩, List.mem_of_getElem? (i := 24) (by decide +kernel), List.mem_of_getElem? (i := 206) (by decide +kernel), List.mem_of_getElem? (i := 207) (by decide +kernel)⟩
theorem lw_p3 : lw_okq (⟨"BridgeClub", "busyTable", "(I)LBridgeClub$Table;"⟩, 8) := ⟨⟨by decide +kernel, by decide +kernel⟩, List.mem_of_getElem? (i := 24) (by decide +kernel), List.mem_of_getElem? (i := 210) (by decide +kernel), List.mem_of_getElem? (i := 211) (by decide +kernel)⟩
theorem lw_p4 : lw_okq (⟨"BridgeClub", "isFreeFor", "(II)Z"⟩, 8) := ⟨⟨by decide +kernel, by decide +kernel⟩, List.mem_of_getElem? (i := 24) (by decide +kernel), List.mem_of_getElem? (i := 233) (by decide +kernel), List.mem_of_getElem? (i := 234) (by decide +kernel)⟩
theorem lw_p5 : lw_okq (⟨"BridgeClub", "resultAt", "(I)LBridgeClub$Result;"⟩, 8) := ⟨⟨by decide +kernel, by decide +kernel⟩, List.mem_of_getElem? (i := 24) (by decide +kernel), List.mem_of_getElem? (i := 241) (by decide +kernel), List.mem_of_getElem? (i := 242) (by decide +kernel)⟩
theorem lw_p6 : lw_okq (⟨"BridgeClub$Auction", "latestFrom", "(I)I"⟩, 3) := ⟨⟨by decide +kernel, by decide +kernel⟩, List.mem_of_getElem? (i := 258) (by decide +kernel), List.mem_of_getElem? (i := 344) (by decide +kernel), List.mem_of_getElem? (i := 345) (by decide +kernel)⟩
theorem lw_p7 : lw_okq (⟨"BridgeClub", "finish", "(LBridgeClub$Table;I)V"⟩, 8) := ⟨⟨by decide +kernel, by decide +kernel⟩, List.mem_of_getElem? (i := 24) (by decide +kernel), List.mem_of_getElem? (i := 386) (by decide +kernel), List.mem_of_getElem? (i := 387) (by decide +kernel)⟩
theorem lw_p8 : lw_okq (⟨"BridgeClub", "endingTable", "(I)LBridgeClub$Table;"⟩, 8) := ⟨⟨by decide +kernel, by decide +kernel⟩, List.mem_of_getElem? (i := 24) (by decide +kernel), List.mem_of_getElem? (i := 596) (by decide +kernel), List.mem_of_getElem? (i := 597) (by decide +kernel)⟩
theorem lw_p9 : lw_okq (⟨"BridgeClub$Ending", "load", "(LBridgeClub$Table;)V"⟩, 8) := ⟨⟨by decide +kernel, by decide +kernel⟩, List.mem_of_getElem? (i := 38) (by decide +kernel), List.mem_of_getElem? (i := 605) (by decide +kernel), List.mem_of_getElem? (i := 606) (by decide +kernel)⟩
theorem lw_p10 : lw_okq (⟨"BridgeClub$Ending", "wins", "(IIIIII)Z"⟩, 8) := ⟨⟨by decide +kernel, by decide +kernel⟩, List.mem_of_getElem? (i := 38) (by decide +kernel), List.mem_of_getElem? (i := 631) (by decide +kernel), List.mem_of_getElem? (i := 632) (by decide +kernel)⟩
theorem lw_p11 : lw_okq (⟨"BridgeClub$Ending", "winsLast", "(I)Z"⟩, 8) := ⟨⟨by decide +kernel, by decide +kernel⟩, List.mem_of_getElem? (i := 38) (by decide +kernel), List.mem_of_getElem? (i := 635) (by decide +kernel), List.mem_of_getElem? (i := 636) (by decide +kernel)⟩
theorem lw_p12 : lw_okq (⟨"BridgeClub$Ending", "othersThan", "(I)J"⟩, 8) := ⟨⟨by decide +kernel, by decide +kernel⟩, List.mem_of_getElem? (i := 38) (by decide +kernel), List.mem_of_getElem? (i := 646) (by decide +kernel), List.mem_of_getElem? (i := 647) (by decide +kernel)⟩
theorem lw_p13 : lw_okq (⟨"BridgeClub$Ending", "winsWith", "(IIIIIII)Z"⟩, 8) := ⟨⟨by decide +kernel, by decide +kernel⟩, List.mem_of_getElem? (i := 38) (by decide +kernel), List.mem_of_getElem? (i := 656) (by decide +kernel), List.mem_of_getElem? (i := 657) (by decide +kernel)⟩
theorem lw_p14 : lw_okq (⟨"BridgeClub", "pointsOf", "(LBridgeClub$Result;II)I"⟩, 8) := ⟨⟨by decide +kernel, by decide +kernel⟩, List.mem_of_getElem? (i := 24) (by decide +kernel), List.mem_of_getElem? (i := 799) (by decide +kernel), List.mem_of_getElem? (i := 800) (by decide +kernel)⟩
theorem lw_p15 : lw_okq (⟨"BridgeClub", "mostOf", "(LBridgeClub$Result;)I"⟩, 8) := ⟨⟨by decide +kernel, by decide +kernel⟩, List.mem_of_getElem? (i := 24) (by decide +kernel), List.mem_of_getElem? (i := 803) (by decide +kernel), List.mem_of_getElem? (i := 804) (by decide +kernel)⟩
def lw_privs_1 : List (MethodName × Nat) := [(⟨"BridgeClub", "shuffle", "(I)V"⟩, 8), (⟨"BridgeClub", "boardNumbered", "(I)LBridgeClub$Board;"⟩, 8), (⟨"BridgeClub", "tableWithBoard", "(I)I"⟩, 8), (⟨"BridgeClub", "busyTable", "(I)LBridgeClub$Table;"⟩, 8), (⟨"BridgeClub", "isFreeFor", "(II)Z"⟩, 8), (⟨"BridgeClub", "resultAt", "(I)LBridgeClub$Result;"⟩, 8), (⟨"BridgeClub$Auction", "latestFrom", "(I)I"⟩, 3), (⟨"BridgeClub", "finish", "(LBridgeClub$Table;I)V"⟩, 8), (⟨"BridgeClub", "endingTable", "(I)LBridgeClub$Table;"⟩, 8), (⟨"BridgeClub$Ending", "load", "(LBridgeClub$Table;)V"⟩, 8), (⟨"BridgeClub$Ending", "wins", "(IIIIII)Z"⟩, 8), (⟨"BridgeClub$Ending", "winsLast", "(I)Z"⟩, 8), (⟨"BridgeClub$Ending", "othersThan", "(I)J"⟩, 8), (⟨"BridgeClub$Ending", "winsWith", "(IIIIIII)Z"⟩, 8), (⟨"BridgeClub", "pointsOf", "(LBridgeClub$Result;II)I"⟩, 8), (⟨"BridgeClub", "mostOf", "(LBridgeClub$Result;)I"⟩, 8)]
theorem lw_r1 : ∀ q ∈ lw_privs_1, lw_okq q := List.forall_mem_cons.mpr ⟨lw_p0, List.forall_mem_cons.mpr ⟨lw_p1, List.forall_mem_cons.mpr ⟨lw_p2, List.forall_mem_cons.mpr ⟨lw_p3, List.forall_mem_cons.mpr ⟨lw_p4, List.forall_mem_cons.mpr ⟨lw_p5, List.forall_mem_cons.mpr ⟨lw_p6, List.forall_mem_cons.mpr ⟨lw_p7, List.forall_mem_cons.mpr ⟨lw_p8, List.forall_mem_cons.mpr ⟨lw_p9, List.forall_mem_cons.mpr ⟨lw_p10, List.forall_mem_cons.mpr ⟨lw_p11, List.forall_mem_cons.mpr ⟨lw_p12, List.forall_mem_cons.mpr ⟨lw_p13, List.forall_mem_cons.mpr ⟨lw_p14, List.forall_mem_cons.mpr ⟨lw_p15, fun _ h => absurd h List.not_mem_nil⟩⟩⟩⟩⟩⟩⟩⟩⟩⟩⟩⟩⟩⟩⟩⟩
theorem lw_p16 : lw_okq (⟨"BridgeClub", "hasResult", "(I)Z"⟩, 8) := ⟨⟨by decide +kernel, by decide +kernel⟩, List.mem_of_getElem? (i := 24) (by decide +kernel), List.mem_of_getElem? (i := 826) (by decide +kernel), List.mem_of_getElem? (i := 827) (by decide +kernel)⟩
theorem lw_p17 : lw_okq (⟨"BridgeClub", "pointsOfPair", "(I)I"⟩, 8) := ⟨⟨by decide +kernel, by decide +kernel⟩, List.mem_of_getElem? (i := 24) (by decide +kernel), List.mem_of_getElem? (i := 830) (by decide +kernel), List.mem_of_getElem? (i := 831) (by decide +kernel)⟩
theorem lw_p18 : lw_okq (⟨"BridgeClub", "mostOfPair", "(I)I"⟩, 8) := ⟨⟨by decide +kernel, by decide +kernel⟩, List.mem_of_getElem? (i := 24) (by decide +kernel), List.mem_of_getElem? (i := 838) (by decide +kernel), List.mem_of_getElem? (i := 839) (by decide +kernel)⟩
theorem lw_p19 : lw_okq (⟨"BridgeClub", "partOver", "(I)J"⟩, 8) := ⟨⟨by decide +kernel, by decide +kernel⟩, List.mem_of_getElem? (i := 24) (by decide +kernel), List.mem_of_getElem? (i := 846) (by decide +kernel), List.mem_of_getElem? (i := 847) (by decide +kernel)⟩
theorem lw_p20 : lw_okq (⟨"BridgeClub", "partUnder", "(I)J"⟩, 8) := ⟨⟨by decide +kernel, by decide +kernel⟩, List.mem_of_getElem? (i := 24) (by decide +kernel), List.mem_of_getElem? (i := 850) (by decide +kernel), List.mem_of_getElem? (i := 851) (by decide +kernel)⟩
theorem lw_p21 : lw_okq (⟨"BridgeClub", "busyTables", "()I"⟩, 8) := ⟨⟨by decide +kernel, by decide +kernel⟩, List.mem_of_getElem? (i := 24) (by decide +kernel), List.mem_of_getElem? (i := 1110) (by decide +kernel), List.mem_of_getElem? (i := 1111) (by decide +kernel)⟩
theorem lw_p22 : lw_okq (⟨"BridgeClub", "pairsWithResult", "()I"⟩, 8) := ⟨⟨by decide +kernel, by decide +kernel⟩, List.mem_of_getElem? (i := 24) (by decide +kernel), List.mem_of_getElem? (i := 1114) (by decide +kernel), List.mem_of_getElem? (i := 1115) (by decide +kernel)⟩
theorem lw_p23 : lw_okq (⟨"BridgeClubModel", "isBoard", "(I)Z"⟩, 31) := ⟨⟨by decide +kernel, by decide +kernel⟩, List.mem_of_getElem? (i := 1118) (by decide +kernel), List.mem_of_getElem? (i := 1228) (by decide +kernel), List.mem_of_getElem? (i := 1229) (by decide +kernel)⟩
theorem lw_p24 : lw_okq (⟨"BridgeClubModel", "resultsOf", "(I)I"⟩, 31) := ⟨⟨by decide +kernel, by decide +kernel⟩, List.mem_of_getElem? (i := 1118) (by decide +kernel), List.mem_of_getElem? (i := 1252) (by decide +kernel), List.mem_of_getElem? (i := 1253) (by decide +kernel)⟩
theorem lw_p25 : lw_okq (⟨"BridgeClubModel", "tableOf", "(I)I"⟩, 31) := ⟨⟨by decide +kernel, by decide +kernel⟩, List.mem_of_getElem? (i := 1118) (by decide +kernel), List.mem_of_getElem? (i := 1256) (by decide +kernel), List.mem_of_getElem? (i := 1257) (by decide +kernel)⟩
theorem lw_p26 : lw_okq (⟨"BridgeClubModel", "isPlaying", "(I)Z"⟩, 31) := ⟨⟨by decide +kernel, by decide +kernel⟩, List.mem_of_getElem? (i := 1118) (by decide +kernel), List.mem_of_getElem? (i := 1264) (by decide +kernel), List.mem_of_getElem? (i := 1265) (by decide +kernel)⟩
theorem lw_p27 : lw_okq (⟨"BridgeClubModel", "hasPlayed", "(II)Z"⟩, 31) := ⟨⟨by decide +kernel, by decide +kernel⟩, List.mem_of_getElem? (i := 1118) (by decide +kernel), List.mem_of_getElem? (i := 1268) (by decide +kernel), List.mem_of_getElem? (i := 1269) (by decide +kernel)⟩
theorem lw_p28 : lw_okq (⟨"BridgeClubModel", "phaseOf", "(I)I"⟩, 31) := ⟨⟨by decide +kernel, by decide +kernel⟩, List.mem_of_getElem? (i := 1118) (by decide +kernel), List.mem_of_getElem? (i := 1276) (by decide +kernel), List.mem_of_getElem? (i := 1277) (by decide +kernel)⟩
theorem lw_p29 : lw_okq (⟨"BridgeClubModel", "mayCall", "(II)Z"⟩, 31) := ⟨⟨by decide +kernel, by decide +kernel⟩, List.mem_of_getElem? (i := 1118) (by decide +kernel), List.mem_of_getElem? (i := 1280) (by decide +kernel), List.mem_of_getElem? (i := 1281) (by decide +kernel)⟩
theorem lw_p30 : lw_okq (⟨"BridgeClubModel", "latestCall", "(I)I"⟩, 31) := ⟨⟨by decide +kernel, by decide +kernel⟩, List.mem_of_getElem? (i := 1118) (by decide +kernel), List.mem_of_getElem? (i := 1284) (by decide +kernel), List.mem_of_getElem? (i := 1285) (by decide +kernel)⟩
theorem lw_p31 : lw_okq (⟨"BridgeClubModel", "callAt", "(II)I"⟩, 31) := ⟨⟨by decide +kernel, by decide +kernel⟩, List.mem_of_getElem? (i := 1118) (by decide +kernel), List.mem_of_getElem? (i := 1288) (by decide +kernel), List.mem_of_getElem? (i := 1289) (by decide +kernel)⟩
def lw_privs_2 : List (MethodName × Nat) := [(⟨"BridgeClub", "hasResult", "(I)Z"⟩, 8), (⟨"BridgeClub", "pointsOfPair", "(I)I"⟩, 8), (⟨"BridgeClub", "mostOfPair", "(I)I"⟩, 8), (⟨"BridgeClub", "partOver", "(I)J"⟩, 8), (⟨"BridgeClub", "partUnder", "(I)J"⟩, 8), (⟨"BridgeClub", "busyTables", "()I"⟩, 8), (⟨"BridgeClub", "pairsWithResult", "()I"⟩, 8), (⟨"BridgeClubModel", "isBoard", "(I)Z"⟩, 31), (⟨"BridgeClubModel", "resultsOf", "(I)I"⟩, 31), (⟨"BridgeClubModel", "tableOf", "(I)I"⟩, 31), (⟨"BridgeClubModel", "isPlaying", "(I)Z"⟩, 31), (⟨"BridgeClubModel", "hasPlayed", "(II)Z"⟩, 31), (⟨"BridgeClubModel", "phaseOf", "(I)I"⟩, 31), (⟨"BridgeClubModel", "mayCall", "(II)Z"⟩, 31), (⟨"BridgeClubModel", "latestCall", "(I)I"⟩, 31), (⟨"BridgeClubModel", "callAt", "(II)I"⟩, 31)]
theorem lw_r2 : ∀ q ∈ lw_privs_2, lw_okq q := List.forall_mem_cons.mpr ⟨lw_p16, List.forall_mem_cons.mpr ⟨lw_p17, List.forall_mem_cons.mpr ⟨lw_p18, List.forall_mem_cons.mpr ⟨lw_p19, List.forall_mem_cons.mpr ⟨lw_p20, List.forall_mem_cons.mpr ⟨lw_p21, List.forall_mem_cons.mpr ⟨lw_p22, List.forall_mem_cons.mpr ⟨lw_p23, List.forall_mem_cons.mpr ⟨lw_p24, List.forall_mem_cons.mpr ⟨lw_p25, List.forall_mem_cons.mpr ⟨lw_p26, List.forall_mem_cons.mpr ⟨lw_p27, List.forall_mem_cons.mpr ⟨lw_p28, List.forall_mem_cons.mpr ⟨lw_p29, List.forall_mem_cons.mpr ⟨lw_p30, List.forall_mem_cons.mpr ⟨lw_p31, fun _ h => absurd h List.not_mem_nil⟩⟩⟩⟩⟩⟩⟩⟩⟩⟩⟩⟩⟩⟩⟩⟩
theorem lw_p32 : lw_okq (⟨"BridgeClubModel", "callerOf", "(II)I"⟩, 31) := ⟨⟨by decide +kernel, by decide +kernel⟩, List.mem_of_getElem? (i := 1118) (by decide +kernel), List.mem_of_getElem? (i := 1292) (by decide +kernel), List.mem_of_getElem? (i := 1293) (by decide +kernel)⟩
theorem lw_p33 : lw_okq (⟨"BridgeClubModel", "latestBid", "(I)I"⟩, 31) := ⟨⟨by decide +kernel, by decide +kernel⟩, List.mem_of_getElem? (i := 1118) (by decide +kernel), List.mem_of_getElem? (i := 1296) (by decide +kernel), List.mem_of_getElem? (i := 1297) (by decide +kernel)⟩
theorem lw_p34 : lw_okq (⟨"BridgeClubModel", "ends", "(II)V"⟩, 31) := ⟨⟨by decide +kernel, by decide +kernel⟩, List.mem_of_getElem? (i := 1118) (by decide +kernel), List.mem_of_getElem? (i := 1300) (by decide +kernel), List.mem_of_getElem? (i := 1301) (by decide +kernel)⟩
theorem lw_p35 : lw_okq (⟨"BridgeClubModel", "level", "(I)I"⟩, 31) := ⟨⟨by decide +kernel, by decide +kernel⟩, List.mem_of_getElem? (i := 1118) (by decide +kernel), List.mem_of_getElem? (i := 1304) (by decide +kernel), List.mem_of_getElem? (i := 1305) (by decide +kernel)⟩
theorem lw_p36 : lw_okq (⟨"BridgeClubModel", "strain", "(I)I"⟩, 31) := ⟨⟨by decide +kernel, by decide +kernel⟩, List.mem_of_getElem? (i := 1118) (by decide +kernel), List.mem_of_getElem? (i := 1308) (by decide +kernel), List.mem_of_getElem? (i := 1309) (by decide +kernel)⟩
theorem lw_p37 : lw_okq (⟨"BridgeClubModel", "declarer", "(I)I"⟩, 31) := ⟨⟨by decide +kernel, by decide +kernel⟩, List.mem_of_getElem? (i := 1118) (by decide +kernel), List.mem_of_getElem? (i := 1312) (by decide +kernel), List.mem_of_getElem? (i := 1313) (by decide +kernel)⟩
theorem lw_p38 : lw_okq (⟨"BridgeClubModel", "doubled", "(I)I"⟩, 31) := ⟨⟨by decide +kernel, by decide +kernel⟩, List.mem_of_getElem? (i := 1118) (by decide +kernel), List.mem_of_getElem? (i := 1316) (by decide +kernel), List.mem_of_getElem? (i := 1317) (by decide +kernel)⟩
theorem lw_p39 : lw_okq (⟨"BridgeClubModel", "mayPlay", "(II)Z"⟩, 31) := ⟨⟨by decide +kernel, by decide +kernel⟩, List.mem_of_getElem? (i := 1118) (by decide +kernel), List.mem_of_getElem? (i := 1335) (by decide +kernel), List.mem_of_getElem? (i := 1336) (by decide +kernel)⟩
theorem lw_p40 : lw_okq (⟨"BridgeClubModel", "turn", "(I)I"⟩, 31) := ⟨⟨by decide +kernel, by decide +kernel⟩, List.mem_of_getElem? (i := 1118) (by decide +kernel), List.mem_of_getElem? (i := 1339) (by decide +kernel), List.mem_of_getElem? (i := 1340) (by decide +kernel)⟩
theorem lw_p41 : lw_okq (⟨"BridgeClubModel", "goThrough", "(I)V"⟩, 31) := ⟨⟨by decide +kernel, by decide +kernel⟩, List.mem_of_getElem? (i := 1118) (by decide +kernel), List.mem_of_getElem? (i := 1343) (by decide +kernel), List.mem_of_getElem? (i := 1344) (by decide +kernel)⟩
theorem lw_p42 : lw_okq (⟨"BridgeClubModel", "holds", "(III)Z"⟩, 31) := ⟨⟨by decide +kernel, by decide +kernel⟩, List.mem_of_getElem? (i := 1118) (by decide +kernel), List.mem_of_getElem? (i := 1353) (by decide +kernel), List.mem_of_getElem? (i := 1354) (by decide +kernel)⟩
theorem lw_p43 : lw_okq (⟨"BridgeClubModel", "wasPlayed", "(II)Z"⟩, 31) := ⟨⟨by decide +kernel, by decide +kernel⟩, List.mem_of_getElem? (i := 1118) (by decide +kernel), List.mem_of_getElem? (i := 1358) (by decide +kernel), List.mem_of_getElem? (i := 1359) (by decide +kernel)⟩
theorem lw_p44 : lw_okq (⟨"BridgeClubModel", "layOut", "(I)I"⟩, 31) := ⟨⟨by decide +kernel, by decide +kernel⟩, List.mem_of_getElem? (i := 1118) (by decide +kernel), List.mem_of_getElem? (i := 1370) (by decide +kernel), List.mem_of_getElem? (i := 1371) (by decide +kernel)⟩
theorem lw_p45 : lw_okq (⟨"BridgeClubModel", "search", "(III)I"⟩, 31) := ⟨⟨by decide +kernel, by decide +kernel⟩, List.mem_of_getElem? (i := 1118) (by decide +kernel), List.mem_of_getElem? (i := 1374) (by decide +kernel), List.mem_of_getElem? (i := 1375) (by decide +kernel)⟩
theorem lw_p46 : lw_okq (⟨"BridgeClubModel", "taken", "(II)I"⟩, 31) := ⟨⟨by decide +kernel, by decide +kernel⟩, List.mem_of_getElem? (i := 1118) (by decide +kernel), List.mem_of_getElem? (i := 1378) (by decide +kernel), List.mem_of_getElem? (i := 1379) (by decide +kernel)⟩
theorem lw_p47 : lw_okq (⟨"BridgeClubModel", "isResult", "(I)Z"⟩, 31) := ⟨⟨by decide +kernel, by decide +kernel⟩, List.mem_of_getElem? (i := 1118) (by decide +kernel), List.mem_of_getElem? (i := 1430) (by decide +kernel), List.mem_of_getElem? (i := 1431) (by decide +kernel)⟩
def lw_privs_3 : List (MethodName × Nat) := [(⟨"BridgeClubModel", "callerOf", "(II)I"⟩, 31), (⟨"BridgeClubModel", "latestBid", "(I)I"⟩, 31), (⟨"BridgeClubModel", "ends", "(II)V"⟩, 31), (⟨"BridgeClubModel", "level", "(I)I"⟩, 31), (⟨"BridgeClubModel", "strain", "(I)I"⟩, 31), (⟨"BridgeClubModel", "declarer", "(I)I"⟩, 31), (⟨"BridgeClubModel", "doubled", "(I)I"⟩, 31), (⟨"BridgeClubModel", "mayPlay", "(II)Z"⟩, 31), (⟨"BridgeClubModel", "turn", "(I)I"⟩, 31), (⟨"BridgeClubModel", "goThrough", "(I)V"⟩, 31), (⟨"BridgeClubModel", "holds", "(III)Z"⟩, 31), (⟨"BridgeClubModel", "wasPlayed", "(II)Z"⟩, 31), (⟨"BridgeClubModel", "layOut", "(I)I"⟩, 31), (⟨"BridgeClubModel", "search", "(III)I"⟩, 31), (⟨"BridgeClubModel", "taken", "(II)I"⟩, 31), (⟨"BridgeClubModel", "isResult", "(I)Z"⟩, 31)]
theorem lw_r3 : ∀ q ∈ lw_privs_3, lw_okq q := List.forall_mem_cons.mpr ⟨lw_p32, List.forall_mem_cons.mpr ⟨lw_p33, List.forall_mem_cons.mpr ⟨lw_p34, List.forall_mem_cons.mpr ⟨lw_p35, List.forall_mem_cons.mpr ⟨lw_p36, List.forall_mem_cons.mpr ⟨lw_p37, List.forall_mem_cons.mpr ⟨lw_p38, List.forall_mem_cons.mpr ⟨lw_p39, List.forall_mem_cons.mpr ⟨lw_p40, List.forall_mem_cons.mpr ⟨lw_p41, List.forall_mem_cons.mpr ⟨lw_p42, List.forall_mem_cons.mpr ⟨lw_p43, List.forall_mem_cons.mpr ⟨lw_p44, List.forall_mem_cons.mpr ⟨lw_p45, List.forall_mem_cons.mpr ⟨lw_p46, List.forall_mem_cons.mpr ⟨lw_p47, fun _ h => absurd h List.not_mem_nil⟩⟩⟩⟩⟩⟩⟩⟩⟩⟩⟩⟩⟩⟩⟩⟩
theorem lw_p48 : lw_okq (⟨"BridgeClubModel", "hasResult", "(I)Z"⟩, 31) := ⟨⟨by decide +kernel, by decide +kernel⟩, List.mem_of_getElem? (i := 1118) (by decide +kernel), List.mem_of_getElem? (i := 1446) (by decide +kernel), List.mem_of_getElem? (i := 1447) (by decide +kernel)⟩
theorem lw_p49 : lw_okq (⟨"BridgeClubModel", "puts", "(I)V"⟩, 31) := ⟨⟨by decide +kernel, by decide +kernel⟩, List.mem_of_getElem? (i := 1118) (by decide +kernel), List.mem_of_getElem? (i := 1473) (by decide +kernel), List.mem_of_getElem? (i := 1474) (by decide +kernel)⟩
def lw_privs_4 : List (MethodName × Nat) := [(⟨"BridgeClubModel", "hasResult", "(I)Z"⟩, 31), (⟨"BridgeClubModel", "puts", "(I)V"⟩, 31)]
theorem lw_r4 : ∀ q ∈ lw_privs_4, lw_okq q := List.forall_mem_cons.mpr ⟨lw_p48, List.forall_mem_cons.mpr ⟨lw_p49, fun _ h => absurd h List.not_mem_nil⟩⟩
def lw_privs : List (MethodName × Nat) := lw_privs_1 ++ (lw_privs_2 ++ (lw_privs_3 ++ (lw_privs_4)))
def lw_tbl : List Cond := k2_sels lw_privs ++ tables_1
theorem lw_privs_ok : ∀ q ∈ lw_privs, lw_okq q := by
  show ∀ q ∈ lw_privs_1 ++ (lw_privs_2 ++ (lw_privs_3 ++ (lw_privs_4))), lw_okq q
  exact List.forall_mem_append.mpr ⟨lw_r1, List.forall_mem_append.mpr ⟨lw_r2, List.forall_mem_append.mpr ⟨lw_r3, lw_r4⟩⟩⟩
end
section
def RX0 : String := "BridgeClub$Auction"
def TX0 : u_T := fun k => match k with
  | 0 => ("BridgeClub$Auction", "calls", "[I", true)
  | 1 => ("BridgeClub$Auction", "size", "I", false)
  | _ => ("BridgeClub$Auction", "dealer", "I", false)
def tyX0 : Nat → FieldType := fun k => match k with
  | 0 => .array .int
  | 1 => .int
  | _ => .int
abbrev wsX00 : List Cond := u_ws RX0 TX0 3
theorem nmX0 : ∀ a, a < 3 → ∀ b, b < 3 → a ≠ b → (TX0 a).2.1 ≠ (TX0 b).2.1 := by decide +kernel
theorem tyX0_ok : ∀ k, k < 3 → parseFieldDescriptor (TX0 k).2.2.1 = some (tyX0 k) := by decide +kernel
abbrev cX0_init : ByteArray := prog_2_method_1_code
def yX0_init : MethodName := ⟨RX0, "<init>", "()V"⟩
abbrev cX0_open : ByteArray := prog_2_method_2_code
def yX0_open : MethodName := ⟨RX0, "open", "(I)V"⟩
abbrev cX0_length : ByteArray := prog_2_method_3_code
def yX0_length : MethodName := ⟨RX0, "length", "()I"⟩
abbrev cX0_callAt : ByteArray := prog_2_method_4_code
def yX0_callAt : MethodName := ⟨RX0, "callAt", "(I)I"⟩
abbrev cX0_turn : ByteArray := prog_2_method_5_code
def yX0_turn : MethodName := ⟨RX0, "turn", "()I"⟩
abbrev cX0_admits : ByteArray := prog_2_method_6_code
def yX0_admits : MethodName := ⟨RX0, "admits", "(I)Z"⟩
abbrev cX0_add : ByteArray := prog_2_method_7_code
def yX0_add : MethodName := ⟨RX0, "add", "(I)V"⟩
abbrev cX0_dropLatest : ByteArray := prog_2_method_8_code
def yX0_dropLatest : MethodName := ⟨RX0, "dropLatest", "()Z"⟩
abbrev cX0_isOver : ByteArray := prog_2_method_9_code
def yX0_isOver : MethodName := ⟨RX0, "isOver", "()Z"⟩
abbrev cX0_latestFrom : ByteArray := prog_2_method_10_code
def yX0_latestFrom : MethodName := ⟨RX0, "latestFrom", "(I)I"⟩
abbrev cX0_latestBid : ByteArray := prog_2_method_11_code
def yX0_latestBid : MethodName := ⟨RX0, "latestBid", "()I"⟩
abbrev cX0_level : ByteArray := prog_2_method_12_code
def yX0_level : MethodName := ⟨RX0, "level", "()I"⟩
abbrev cX0_strain : ByteArray := prog_2_method_13_code
def yX0_strain : MethodName := ⟨RX0, "strain", "()I"⟩
abbrev cX0_doubling : ByteArray := prog_2_method_14_code
def yX0_doubling : MethodName := ⟨RX0, "doubling", "()I"⟩
abbrev cX0_declarer : ByteArray := prog_2_method_15_code
def yX0_declarer : MethodName := ⟨RX0, "declarer", "()I"⟩
def RX1 : String := "BridgeClub$Board"
def TX1 : u_T := fun k => match k with
  | 0 => ("BridgeClub$Board", "number", "I", true)
  | 1 => ("BridgeClub$Board", "hands", "[J", true)
  | 2 => ("BridgeClub$Board", "begun", "Z", false)
  | _ => ("BridgeClub$Board", "resultsOfIt", "I", false)
def tyX1 : Nat → FieldType := fun k => match k with
  | 0 => .int
  | 1 => .array .long
  | 2 => .boolean
  | _ => .int
abbrev wsX10 : List Cond := u_ws RX1 TX1 4
theorem nmX1 : ∀ a, a < 4 → ∀ b, b < 4 → a ≠ b → (TX1 a).2.1 ≠ (TX1 b).2.1 := by decide +kernel
theorem tyX1_ok : ∀ k, k < 4 → parseFieldDescriptor (TX1 k).2.2.1 = some (tyX1 k) := by decide +kernel
abbrev cX1_init : ByteArray := prog_3_method_1_code
def yX1_init : MethodName := ⟨RX1, "<init>", "(I)V"⟩
abbrev cX1_give : ByteArray := prog_3_method_2_code
def yX1_give : MethodName := ⟨RX1, "give", "(II)V"⟩
abbrev cX1_cardsOf : ByteArray := prog_3_method_3_code
def yX1_cardsOf : MethodName := ⟨RX1, "cardsOf", "(I)J"⟩
abbrev cX1_holder : ByteArray := prog_3_method_4_code
def yX1_holder : MethodName := ⟨RX1, "holder", "(I)I"⟩
abbrev cX1_number : ByteArray := prog_3_method_5_code
def yX1_number : MethodName := ⟨RX1, "number", "()I"⟩
abbrev cX1_dealer : ByteArray := prog_3_method_6_code
def yX1_dealer : MethodName := ⟨RX1, "dealer", "()I"⟩
abbrev cX1_vulnerability : ByteArray := prog_3_method_7_code
def yX1_vulnerability : MethodName := ⟨RX1, "vulnerability", "()I"⟩
abbrev cX1_isVulnerable : ByteArray := prog_3_method_8_code
def yX1_isVulnerable : MethodName := ⟨RX1, "isVulnerable", "(I)Z"⟩
abbrev cX1_markBegun : ByteArray := prog_3_method_9_code
def yX1_markBegun : MethodName := ⟨RX1, "markBegun", "()V"⟩
abbrev cX1_wasBegun : ByteArray := prog_3_method_10_code
def yX1_wasBegun : MethodName := ⟨RX1, "wasBegun", "()Z"⟩
abbrev cX1_addResult : ByteArray := prog_3_method_11_code
def yX1_addResult : MethodName := ⟨RX1, "addResult", "()V"⟩
abbrev cX1_resultsSoFar : ByteArray := prog_3_method_12_code
def yX1_resultsSoFar : MethodName := ⟨RX1, "resultsSoFar", "()I"⟩
def RX2 : String := "BridgeClub$Cards"
def TX2 : u_T := fun k => match k with
  | _ => ("", "", "", false)
def tyX2 : Nat → FieldType := fun k => match k with
  | _ => .int
abbrev wsX20 : List Cond := u_ws RX2 TX2 0
theorem nmX2 : ∀ a, a < 0 → ∀ b, b < 0 → a ≠ b → (TX2 a).2.1 ≠ (TX2 b).2.1 := by decide +kernel
theorem tyX2_ok : ∀ k, k < 0 → parseFieldDescriptor (TX2 k).2.2.1 = some (tyX2 k) := by decide +kernel
abbrev cX2_exists : ByteArray := prog_4_method_2_code
def yX2_exists : MethodName := ⟨RX2, "exists", "(I)Z"⟩
abbrev cX2_suitOf : ByteArray := prog_4_method_3_code
def yX2_suitOf : MethodName := ⟨RX2, "suitOf", "(I)I"⟩
abbrev cX2_bitOf : ByteArray := prog_4_method_4_code
def yX2_bitOf : MethodName := ⟨RX2, "bitOf", "(I)J"⟩
abbrev cX2_has : ByteArray := prog_4_method_5_code
def yX2_has : MethodName := ⟨RX2, "has", "(JI)Z"⟩
abbrev cX2_onlySuit : ByteArray := prog_4_method_6_code
def yX2_onlySuit : MethodName := ⟨RX2, "onlySuit", "(JI)J"⟩
abbrev cX2_choices : ByteArray := prog_4_method_7_code
def yX2_choices : MethodName := ⟨RX2, "choices", "(JI)J"⟩
abbrev cX2_beats : ByteArray := prog_4_method_8_code
def yX2_beats : MethodName := ⟨RX2, "beats", "(III)Z"⟩
def RX3 : String := "BridgeClub$Ending"
def TX3 : u_T := fun k => match k with
  | 0 => ("BridgeClub$Ending", "hands", "[J", true)
  | 1 => ("BridgeClub$Ending", "trump", "I", false)
  | 2 => ("BridgeClub$Ending", "side", "I", false)
  | 3 => ("BridgeClub$Ending", "left", "I", false)
  | 4 => ("BridgeClub$Ending", "turn", "I", false)
  | 5 => ("BridgeClub$Ending", "led", "I", false)
  | 6 => ("BridgeClub$Ending", "high", "I", false)
  | _ => ("BridgeClub$Ending", "winner", "I", false)
def tyX3 : Nat → FieldType := fun k => match k with
  | 0 => .array .long
  | 1 => .int
  | 2 => .int
  | 3 => .int
  | 4 => .int
  | 5 => .int
  | 6 => .int
  | _ => .int
abbrev wsX30 : List Cond := u_ws RX3 TX3 8
theorem nmX3 : ∀ a, a < 8 → ∀ b, b < 8 → a ≠ b → (TX3 a).2.1 ≠ (TX3 b).2.1 := by decide +kernel
theorem tyX3_ok : ∀ k, k < 8 → parseFieldDescriptor (TX3 k).2.2.1 = some (tyX3 k) := by decide +kernel
abbrev cX3_init : ByteArray := prog_5_method_1_code
def yX3_init : MethodName := ⟨RX3, "<init>", "()V"⟩
abbrev cX3_load : ByteArray := prog_5_method_2_code
def yX3_load : MethodName := ⟨RX3, "load", "(LBridgeClub$Table;)V"⟩
abbrev cX3_most : ByteArray := prog_5_method_3_code
def yX3_most : MethodName := ⟨RX3, "most", "(LBridgeClub$Table;)I"⟩
abbrev cX3_leastBestCard : ByteArray := prog_5_method_4_code
def yX3_leastBestCard : MethodName := ⟨RX3, "leastBestCard", "(LBridgeClub$Table;)I"⟩
abbrev cX3_wins : ByteArray := prog_5_method_5_code
def yX3_wins : MethodName := ⟨RX3, "wins", "(IIIIII)Z"⟩
abbrev cX3_winsWith : ByteArray := prog_5_method_6_code
def yX3_winsWith : MethodName := ⟨RX3, "winsWith", "(IIIIIII)Z"⟩
abbrev cX3_winsLast : ByteArray := prog_5_method_7_code
def yX3_winsLast : MethodName := ⟨RX3, "winsLast", "(I)Z"⟩
abbrev cX3_othersThan : ByteArray := prog_5_method_8_code
def yX3_othersThan : MethodName := ⟨RX3, "othersThan", "(I)J"⟩
abbrev cX3_areEqual : ByteArray := prog_5_method_9_code
def yX3_areEqual : MethodName := ⟨RX3, "areEqual", "(IIJ)Z"⟩
def RX4 : String := "BridgeClub$Play"
def TX4 : u_T := fun k => match k with
  | 0 => ("BridgeClub$Play", "cards", "[I", true)
  | 1 => ("BridgeClub$Play", "leaders", "[I", true)
  | 2 => ("BridgeClub$Play", "size", "I", false)
  | 3 => ("BridgeClub$Play", "gone", "J", false)
  | 4 => ("BridgeClub$Play", "declarer", "I", false)
  | _ => ("BridgeClub$Play", "trump", "I", false)
def tyX4 : Nat → FieldType := fun k => match k with
  | 0 => .array .int
  | 1 => .array .int
  | 2 => .int
  | 3 => .long
  | 4 => .int
  | _ => .int
abbrev wsX40 : List Cond := u_ws RX4 TX4 6
theorem nmX4 : ∀ a, a < 6 → ∀ b, b < 6 → a ≠ b → (TX4 a).2.1 ≠ (TX4 b).2.1 := by decide +kernel
theorem tyX4_ok : ∀ k, k < 6 → parseFieldDescriptor (TX4 k).2.2.1 = some (tyX4 k) := by decide +kernel
abbrev cX4_init : ByteArray := prog_6_method_1_code
def yX4_init : MethodName := ⟨RX4, "<init>", "()V"⟩
abbrev cX4_open : ByteArray := prog_6_method_2_code
def yX4_open : MethodName := ⟨RX4, "open", "(II)V"⟩
abbrev cX4_length : ByteArray := prog_6_method_3_code
def yX4_length : MethodName := ⟨RX4, "length", "()I"⟩
abbrev cX4_cardAt : ByteArray := prog_6_method_4_code
def yX4_cardAt : MethodName := ⟨RX4, "cardAt", "(I)I"⟩
abbrev cX4_declarer : ByteArray := prog_6_method_5_code
def yX4_declarer : MethodName := ⟨RX4, "declarer", "()I"⟩
abbrev cX4_dummy : ByteArray := prog_6_method_6_code
def yX4_dummy : MethodName := ⟨RX4, "dummy", "()I"⟩
abbrev cX4_trump : ByteArray := prog_6_method_7_code
def yX4_trump : MethodName := ⟨RX4, "trump", "()I"⟩
abbrev cX4_gone : ByteArray := prog_6_method_8_code
def yX4_gone : MethodName := ⟨RX4, "gone", "()J"⟩
abbrev cX4_inTrick : ByteArray := prog_6_method_9_code
def yX4_inTrick : MethodName := ⟨RX4, "inTrick", "()I"⟩
abbrev cX4_tricksDone : ByteArray := prog_6_method_10_code
def yX4_tricksDone : MethodName := ⟨RX4, "tricksDone", "()I"⟩
abbrev cX4_leaderOf : ByteArray := prog_6_method_11_code
def yX4_leaderOf : MethodName := ⟨RX4, "leaderOf", "(I)I"⟩
abbrev cX4_turn : ByteArray := prog_6_method_12_code
def yX4_turn : MethodName := ⟨RX4, "turn", "()I"⟩
abbrev cX4_led : ByteArray := prog_6_method_13_code
def yX4_led : MethodName := ⟨RX4, "led", "()I"⟩
abbrev cX4_add : ByteArray := prog_6_method_14_code
def yX4_add : MethodName := ⟨RX4, "add", "(I)V"⟩
abbrev cX4_dropLatest : ByteArray := prog_6_method_15_code
def yX4_dropLatest : MethodName := ⟨RX4, "dropLatest", "()Z"⟩
abbrev cX4_winningCard : ByteArray := prog_6_method_16_code
def yX4_winningCard : MethodName := ⟨RX4, "winningCard", "(II)I"⟩
abbrev cX4_winnerFrom : ByteArray := prog_6_method_17_code
def yX4_winnerFrom : MethodName := ⟨RX4, "winnerFrom", "(III)I"⟩
abbrev cX4_tricksOf : ByteArray := prog_6_method_18_code
def yX4_tricksOf : MethodName := ⟨RX4, "tricksOf", "(I)I"⟩
abbrev cX4_hasShownOut : ByteArray := prog_6_method_19_code
def yX4_hasShownOut : MethodName := ⟨RX4, "hasShownOut", "(II)Z"⟩
def RX5 : String := "BridgeClub$Result"
def TX5 : u_T := fun k => match k with
  | 0 => ("BridgeClub$Result", "board", "I", true)
  | 1 => ("BridgeClub$Result", "north", "I", true)
  | 2 => ("BridgeClub$Result", "east", "I", true)
  | 3 => ("BridgeClub$Result", "level", "I", false)
  | 4 => ("BridgeClub$Result", "strain", "I", false)
  | 5 => ("BridgeClub$Result", "declarer", "I", false)
  | 6 => ("BridgeClub$Result", "doubled", "I", false)
  | 7 => ("BridgeClub$Result", "tricks", "I", false)
  | 8 => ("BridgeClub$Result", "score", "I", false)
  | 9 => ("BridgeClub$Result", "adjusted", "Z", false)
  | 10 => ("BridgeClub$Result", "partNorth", "I", false)
  | _ => ("BridgeClub$Result", "partEast", "I", false)
def tyX5 : Nat → FieldType := fun k => match k with
  | 0 => .int
  | 1 => .int
  | 2 => .int
  | 3 => .int
  | 4 => .int
  | 5 => .int
  | 6 => .int
  | 7 => .int
  | 8 => .int
  | 9 => .boolean
  | 10 => .int
  | _ => .int
abbrev wsX50 : List Cond := u_ws RX5 TX5 12
theorem nmX5 : ∀ a, a < 12 → ∀ b, b < 12 → a ≠ b → (TX5 a).2.1 ≠ (TX5 b).2.1 := by decide +kernel
theorem tyX5_ok : ∀ k, k < 12 → parseFieldDescriptor (TX5 k).2.2.1 = some (tyX5 k) := by decide +kernel
abbrev cX5_init : ByteArray := prog_7_method_1_code
def yX5_init : MethodName := ⟨RX5, "<init>", "(III)V"⟩
abbrev cX5_setContract : ByteArray := prog_7_method_2_code
def yX5_setContract : MethodName := ⟨RX5, "setContract", "(III)V"⟩
abbrev cX5_setOutcome : ByteArray := prog_7_method_3_code
def yX5_setOutcome : MethodName := ⟨RX5, "setOutcome", "(IIZ)V"⟩
abbrev cX5_setParts : ByteArray := prog_7_method_4_code
def yX5_setParts : MethodName := ⟨RX5, "setParts", "(II)V"⟩
abbrev cX5_boardNumber : ByteArray := prog_7_method_5_code
def yX5_boardNumber : MethodName := ⟨RX5, "boardNumber", "()I"⟩
abbrev cX5_sideOf : ByteArray := prog_7_method_6_code
def yX5_sideOf : MethodName := ⟨RX5, "sideOf", "(I)I"⟩
abbrev cX5_scoreOfNorth : ByteArray := prog_7_method_7_code
def yX5_scoreOfNorth : MethodName := ⟨RX5, "scoreOfNorth", "()I"⟩
abbrev cX5_isAdjusted : ByteArray := prog_7_method_8_code
def yX5_isAdjusted : MethodName := ⟨RX5, "isAdjusted", "()Z"⟩
abbrev cX5_partOf : ByteArray := prog_7_method_9_code
def yX5_partOf : MethodName := ⟨RX5, "partOf", "(I)I"⟩
abbrev cX5_tell : ByteArray := prog_7_method_10_code
def yX5_tell : MethodName := ⟨RX5, "tell", "(I)I"⟩
abbrev cX5_appendTo : ByteArray := prog_7_method_11_code
def yX5_appendTo : MethodName := ⟨RX5, "appendTo", "(Ljava/lang/StringBuilder;)V"⟩
abbrev cX5_signOf : ByteArray := prog_7_method_12_code
def yX5_signOf : MethodName := ⟨RX5, "signOf", "(Ljava/lang/String;I)C"⟩
def RX6 : String := "BridgeClub$Scoring"
def TX6 : u_T := fun k => match k with
  | _ => ("", "", "", false)
def tyX6 : Nat → FieldType := fun k => match k with
  | _ => .int
abbrev wsX60 : List Cond := u_ws RX6 TX6 0
theorem nmX6 : ∀ a, a < 0 → ∀ b, b < 0 → a ≠ b → (TX6 a).2.1 ≠ (TX6 b).2.1 := by decide +kernel
theorem tyX6_ok : ∀ k, k < 0 → parseFieldDescriptor (TX6 k).2.2.1 = some (tyX6 k) := by decide +kernel
abbrev cX6_ofContract : ByteArray := prog_8_method_2_code
def yX6_ofContract : MethodName := ⟨RX6, "ofContract", "(IIIZI)I"⟩
abbrev cX6_perTrick : ByteArray := prog_8_method_3_code
def yX6_perTrick : MethodName := ⟨RX6, "perTrick", "(I)I"⟩
abbrev cX6_trickScore : ByteArray := prog_8_method_4_code
def yX6_trickScore : MethodName := ⟨RX6, "trickScore", "(III)I"⟩
abbrev cX6_slam : ByteArray := prog_8_method_5_code
def yX6_slam : MethodName := ⟨RX6, "slam", "(IZ)I"⟩
abbrev cX6_overtrick : ByteArray := prog_8_method_6_code
def yX6_overtrick : MethodName := ⟨RX6, "overtrick", "(IIZ)I"⟩
abbrev cX6_lost : ByteArray := prog_8_method_7_code
def yX6_lost : MethodName := ⟨RX6, "lost", "(IIZ)I"⟩
abbrev cX6_lostDoubled : ByteArray := prog_8_method_8_code
def yX6_lostDoubled : MethodName := ⟨RX6, "lostDoubled", "(I)I"⟩
abbrev cX6_stepsOf : ByteArray := prog_8_method_9_code
def yX6_stepsOf : MethodName := ⟨RX6, "stepsOf", "(J)I"⟩
def RX7 : String := "BridgeClub$Table"
def TX7 : u_T := fun k => match k with
  | 0 => ("BridgeClub$Table", "on", "LBridgeClub$Board;", false)
  | 1 => ("BridgeClub$Table", "north", "I", false)
  | 2 => ("BridgeClub$Table", "east", "I", false)
  | 3 => ("BridgeClub$Table", "auction", "LBridgeClub$Auction;", true)
  | _ => ("BridgeClub$Table", "tricks", "LBridgeClub$Play;", true)
def tyX7 : Nat → FieldType := fun k => match k with
  | 0 => .object "BridgeClub$Board"
  | 1 => .int
  | 2 => .int
  | 3 => .object "BridgeClub$Auction"
  | _ => .object "BridgeClub$Play"
abbrev wsX70 : List Cond := u_ws RX7 TX7 5
theorem nmX7 : ∀ a, a < 5 → ∀ b, b < 5 → a ≠ b → (TX7 a).2.1 ≠ (TX7 b).2.1 := by decide +kernel
theorem tyX7_ok : ∀ k, k < 5 → parseFieldDescriptor (TX7 k).2.2.1 = some (tyX7 k) := by decide +kernel
abbrev cX7_init : ByteArray := prog_9_method_1_code
def yX7_init : MethodName := ⟨RX7, "<init>", "()V"⟩
abbrev cX7_start : ByteArray := prog_9_method_2_code
def yX7_start : MethodName := ⟨RX7, "start", "(LBridgeClub$Board;II)V"⟩
abbrev cX7_stop : ByteArray := prog_9_method_3_code
def yX7_stop : MethodName := ⟨RX7, "stop", "()V"⟩
abbrev cX7_isBusy : ByteArray := prog_9_method_4_code
def yX7_isBusy : MethodName := ⟨RX7, "isBusy", "()Z"⟩
abbrev cX7_boardNumber : ByteArray := prog_9_method_5_code
def yX7_boardNumber : MethodName := ⟨RX7, "boardNumber", "()I"⟩
abbrev cX7_sideOf : ByteArray := prog_9_method_6_code
def yX7_sideOf : MethodName := ⟨RX7, "sideOf", "(I)I"⟩
abbrev cX7_auctionIsOver : ByteArray := prog_9_method_7_code
def yX7_auctionIsOver : MethodName := ⟨RX7, "auctionIsOver", "()Z"⟩
abbrev cX7_hasContract : ByteArray := prog_9_method_8_code
def yX7_hasContract : MethodName := ⟨RX7, "hasContract", "()Z"⟩
abbrev cX7_isInPlay : ByteArray := prog_9_method_9_code
def yX7_isInPlay : MethodName := ⟨RX7, "isInPlay", "()Z"⟩
abbrev cX7_admitsCall : ByteArray := prog_9_method_10_code
def yX7_admitsCall : MethodName := ⟨RX7, "admitsCall", "(I)Z"⟩
abbrev cX7_addCall : ByteArray := prog_9_method_11_code
def yX7_addCall : MethodName := ⟨RX7, "addCall", "(I)V"⟩
abbrev cX7_choices : ByteArray := prog_9_method_12_code
def yX7_choices : MethodName := ⟨RX7, "choices", "()J"⟩
abbrev cX7_admitsCard : ByteArray := prog_9_method_13_code
def yX7_admitsCard : MethodName := ⟨RX7, "admitsCard", "(I)Z"⟩
abbrev cX7_addCard : ByteArray := prog_9_method_14_code
def yX7_addCard : MethodName := ⟨RX7, "addCard", "(I)V"⟩
abbrev cX7_dropLatest : ByteArray := prog_9_method_15_code
def yX7_dropLatest : MethodName := ⟨RX7, "dropLatest", "()Z"⟩
abbrev cX7_callAt : ByteArray := prog_9_method_16_code
def yX7_callAt : MethodName := ⟨RX7, "callAt", "(I)I"⟩
abbrev cX7_cardAt : ByteArray := prog_9_method_17_code
def yX7_cardAt : MethodName := ⟨RX7, "cardAt", "(I)I"⟩
abbrev cX7_cardsInTrick : ByteArray := prog_9_method_18_code
def yX7_cardsInTrick : MethodName := ⟨RX7, "cardsInTrick", "()I"⟩
abbrev cX7_tricksLeft : ByteArray := prog_9_method_19_code
def yX7_tricksLeft : MethodName := ⟨RX7, "tricksLeft", "()I"⟩
abbrev cX7_heldBy : ByteArray := prog_9_method_20_code
def yX7_heldBy : MethodName := ⟨RX7, "heldBy", "(I)J"⟩
abbrev cX7_tricks : ByteArray := prog_9_method_21_code
def yX7_tricks : MethodName := ⟨RX7, "tricks", "()LBridgeClub$Play;"⟩
abbrev cX7_isSeenBy : ByteArray := prog_9_method_22_code
def yX7_isSeenBy : MethodName := ⟨RX7, "isSeenBy", "(II)Z"⟩
abbrev cX7_hasShownOut : ByteArray := prog_9_method_23_code
def yX7_hasShownOut : MethodName := ⟨RX7, "hasShownOut", "(II)Z"⟩
abbrev cX7_tell : ByteArray := prog_9_method_24_code
def yX7_tell : MethodName := ⟨RX7, "tell", "(I)I"⟩
abbrev cX7_toResult : ByteArray := prog_9_method_25_code
def yX7_toResult : MethodName := ⟨RX7, "toResult", "(I)LBridgeClub$Result;"⟩
def RX8 : String := "BridgeClub"
def TX8 : u_T := fun k => match k with
  | 0 => ("BridgeClub", "boards", "[LBridgeClub$Board;", true)
  | 1 => ("BridgeClub", "boardCount", "I", false)
  | 2 => ("BridgeClub", "tables", "[LBridgeClub$Table;", true)
  | 3 => ("BridgeClub", "results", "[LBridgeClub$Result;", true)
  | 4 => ("BridgeClub", "resultCount", "I", false)
  | 5 => ("BridgeClub", "pack", "[I", true)
  | 6 => ("BridgeClub", "ending", "LBridgeClub$Ending;", true)
  | _ => ("BridgeClub", "text", "Ljava/lang/StringBuilder;", true)
def tyX8 : Nat → FieldType := fun k => match k with
  | 0 => .array (.object "BridgeClub$Board")
  | 1 => .int
  | 2 => .array (.object "BridgeClub$Table")
  | 3 => .array (.object "BridgeClub$Result")
  | 4 => .int
  | 5 => .array .int
  | 6 => .object "BridgeClub$Ending"
  | _ => .object "java/lang/StringBuilder"
abbrev wsX80 : List Cond := u_ws RX8 TX8 8
theorem nmX8 : ∀ a, a < 8 → ∀ b, b < 8 → a ≠ b → (TX8 a).2.1 ≠ (TX8 b).2.1 := by decide +kernel
theorem tyX8_ok : ∀ k, k < 8 → parseFieldDescriptor (TX8 k).2.2.1 = some (tyX8 k) := by decide +kernel
abbrev cX8_init : ByteArray := prog_1_method_1_code
def yX8_init : MethodName := ⟨RX8, "<init>", "()V"⟩
abbrev cX8_deal : ByteArray := prog_1_method_2_code
def yX8_deal : MethodName := ⟨RX8, "deal", "(I)I"⟩
abbrev cX8_swap : ByteArray := prog_1_method_3_code
def yX8_swap : MethodName := ⟨RX8, "swap", "(III)Z"⟩
abbrev cX8_hand : ByteArray := prog_1_method_4_code
def yX8_hand : MethodName := ⟨RX8, "hand", "(II)I"⟩
abbrev cX8_board : ByteArray := prog_1_method_5_code
def yX8_board : MethodName := ⟨RX8, "board", "(II)I"⟩
abbrev cX8_begin : ByteArray := prog_1_method_6_code
def yX8_begin : MethodName := ⟨RX8, "begin", "(IIII)Z"⟩
abbrev cX8_call : ByteArray := prog_1_method_7_code
def yX8_call : MethodName := ⟨RX8, "call", "(II)I"⟩
abbrev cX8_play : ByteArray := prog_1_method_8_code
def yX8_play : MethodName := ⟨RX8, "play", "(II)I"⟩
abbrev cX8_claim : ByteArray := prog_1_method_9_code
def yX8_claim : MethodName := ⟨RX8, "claim", "(II)Z"⟩
abbrev cX8_back : ByteArray := prog_1_method_10_code
def yX8_back : MethodName := ⟨RX8, "back", "(I)Z"⟩
abbrev cX8_leave : ByteArray := prog_1_method_11_code
def yX8_leave : MethodName := ⟨RX8, "leave", "(I)Z"⟩
abbrev cX8_table : ByteArray := prog_1_method_12_code
def yX8_table : MethodName := ⟨RX8, "table", "(II)I"⟩
abbrev cX8_called : ByteArray := prog_1_method_13_code
def yX8_called : MethodName := ⟨RX8, "called", "(II)I"⟩
abbrev cX8_played : ByteArray := prog_1_method_14_code
def yX8_played : MethodName := ⟨RX8, "played", "(II)I"⟩
abbrev cX8_allowed : ByteArray := prog_1_method_15_code
def yX8_allowed : MethodName := ⟨RX8, "allowed", "(II)Z"⟩
abbrev cX8_sees : ByteArray := prog_1_method_16_code
def yX8_sees : MethodName := ⟨RX8, "sees", "(III)Z"⟩
abbrev cX8_lacks : ByteArray := prog_1_method_17_code
def yX8_lacks : MethodName := ⟨RX8, "lacks", "(III)Z"⟩
abbrev cX8_best : ByteArray := prog_1_method_18_code
def yX8_best : MethodName := ⟨RX8, "best", "(I)I"⟩
abbrev cX8_bestCard : ByteArray := prog_1_method_19_code
def yX8_bestCard : MethodName := ⟨RX8, "bestCard", "(I)I"⟩
abbrev cX8_result : ByteArray := prog_1_method_20_code
def yX8_result : MethodName := ⟨RX8, "result", "(II)I"⟩
abbrev cX8_adjust : ByteArray := prog_1_method_21_code
def yX8_adjust : MethodName := ⟨RX8, "adjust", "(III)Z"⟩
abbrev cX8_score : ByteArray := prog_1_method_22_code
def yX8_score : MethodName := ⟨RX8, "score", "(IIIZI)I"⟩
abbrev cX8_steps : ByteArray := prog_1_method_23_code
def yX8_steps : MethodName := ⟨RX8, "steps", "(II)I"⟩
abbrev cX8_points : ByteArray := prog_1_method_24_code
def yX8_points : MethodName := ⟨RX8, "points", "(II)I"⟩
abbrev cX8_total : ByteArray := prog_1_method_25_code
def yX8_total : MethodName := ⟨RX8, "total", "(I)I"⟩
abbrev cX8_top : ByteArray := prog_1_method_26_code
def yX8_top : MethodName := ⟨RX8, "top", "(I)I"⟩
abbrev cX8_place : ByteArray := prog_1_method_27_code
def yX8_place : MethodName := ⟨RX8, "place", "(I)I"⟩
abbrev cX8_plan : ByteArray := prog_1_method_28_code
def yX8_plan : MethodName := ⟨RX8, "plan", "(IIII)I"⟩
abbrev cX8_write : ByteArray := prog_1_method_29_code
def yX8_write : MethodName := ⟨RX8, "write", "(I)I"⟩
abbrev cX8_out : ByteArray := prog_1_method_30_code
def yX8_out : MethodName := ⟨RX8, "out", "(I)I"⟩
abbrev cX8_count : ByteArray := prog_1_method_31_code
def yX8_count : MethodName := ⟨RX8, "count", "(I)I"⟩
abbrev cX8_shuffle : ByteArray := prog_1_method_32_code
def yX8_shuffle : MethodName := ⟨RX8, "shuffle", "(I)V"⟩
abbrev cX8_boardNumbered : ByteArray := prog_1_method_33_code
def yX8_boardNumbered : MethodName := ⟨RX8, "boardNumbered", "(I)LBridgeClub$Board;"⟩
abbrev cX8_resultAt : ByteArray := prog_1_method_34_code
def yX8_resultAt : MethodName := ⟨RX8, "resultAt", "(I)LBridgeClub$Result;"⟩
abbrev cX8_busyTable : ByteArray := prog_1_method_35_code
def yX8_busyTable : MethodName := ⟨RX8, "busyTable", "(I)LBridgeClub$Table;"⟩
abbrev cX8_endingTable : ByteArray := prog_1_method_36_code
def yX8_endingTable : MethodName := ⟨RX8, "endingTable", "(I)LBridgeClub$Table;"⟩
abbrev cX8_tableWithBoard : ByteArray := prog_1_method_37_code
def yX8_tableWithBoard : MethodName := ⟨RX8, "tableWithBoard", "(I)I"⟩
abbrev cX8_busyTables : ByteArray := prog_1_method_38_code
def yX8_busyTables : MethodName := ⟨RX8, "busyTables", "()I"⟩
abbrev cX8_isPair : ByteArray := prog_1_method_39_code
def yX8_isPair : MethodName := ⟨RX8, "isPair", "(I)Z"⟩
abbrev cX8_isPart : ByteArray := prog_1_method_40_code
def yX8_isPart : MethodName := ⟨RX8, "isPart", "(I)Z"⟩
abbrev cX8_isFreeFor : ByteArray := prog_1_method_41_code
def yX8_isFreeFor : MethodName := ⟨RX8, "isFreeFor", "(II)Z"⟩
abbrev cX8_finish : ByteArray := prog_1_method_42_code
def yX8_finish : MethodName := ⟨RX8, "finish", "(LBridgeClub$Table;I)V"⟩
abbrev cX8_mostOf : ByteArray := prog_1_method_43_code
def yX8_mostOf : MethodName := ⟨RX8, "mostOf", "(LBridgeClub$Result;)I"⟩
abbrev cX8_pointsOf : ByteArray := prog_1_method_44_code
def yX8_pointsOf : MethodName := ⟨RX8, "pointsOf", "(LBridgeClub$Result;II)I"⟩
abbrev cX8_pointsAgainst : ByteArray := prog_1_method_45_code
def yX8_pointsAgainst : MethodName := ⟨RX8, "pointsAgainst", "(LBridgeClub$Result;LBridgeClub$Result;)I"⟩
abbrev cX8_hasResult : ByteArray := prog_1_method_46_code
def yX8_hasResult : MethodName := ⟨RX8, "hasResult", "(I)Z"⟩
abbrev cX8_pairsWithResult : ByteArray := prog_1_method_47_code
def yX8_pairsWithResult : MethodName := ⟨RX8, "pairsWithResult", "()I"⟩
abbrev cX8_pointsOfPair : ByteArray := prog_1_method_48_code
def yX8_pointsOfPair : MethodName := ⟨RX8, "pointsOfPair", "(I)I"⟩
abbrev cX8_mostOfPair : ByteArray := prog_1_method_49_code
def yX8_mostOfPair : MethodName := ⟨RX8, "mostOfPair", "(I)I"⟩
abbrev cX8_partOver : ByteArray := prog_1_method_50_code
def yX8_partOver : MethodName := ⟨RX8, "partOver", "(I)J"⟩
abbrev cX8_partUnder : ByteArray := prog_1_method_51_code
def yX8_partUnder : MethodName := ⟨RX8, "partUnder", "(I)J"⟩
def RX9 : String := "BridgeClubModel"
def TX9 : u_T := fun k => match k with
  | 0 => ("BridgeClubModel", "boards", "I", false)
  | 1 => ("BridgeClubModel", "results", "I", false)
  | 2 => ("BridgeClubModel", "hands", "[I", true)
  | 3 => ("BridgeClubModel", "begun", "[Z", true)
  | 4 => ("BridgeClubModel", "phase", "[I", true)
  | 5 => ("BridgeClubModel", "boardOf", "[I", true)
  | 6 => ("BridgeClubModel", "pairs", "[I", true)
  | 7 => ("BridgeClubModel", "callsMany", "[I", true)
  | 8 => ("BridgeClubModel", "cardsMany", "[I", true)
  | 9 => ("BridgeClubModel", "calls", "[I", true)
  | 10 => ("BridgeClubModel", "cards", "[I", true)
  | 11 => ("BridgeClubModel", "rBoard", "[I", true)
  | 12 => ("BridgeClubModel", "rPairs", "[I", true)
  | 13 => ("BridgeClubModel", "rLevel", "[I", true)
  | 14 => ("BridgeClubModel", "rStrain", "[I", true)
  | 15 => ("BridgeClubModel", "rDeclarer", "[I", true)
  | 16 => ("BridgeClubModel", "rDoubled", "[I", true)
  | 17 => ("BridgeClubModel", "rTricks", "[I", true)
  | 18 => ("BridgeClubModel", "rScore", "[I", true)
  | 19 => ("BridgeClubModel", "rParts", "[I", true)
  | 20 => ("BridgeClubModel", "isAdjusted", "[Z", true)
  | 21 => ("BridgeClubModel", "out", "[I", true)
  | 22 => ("BridgeClubModel", "outMany", "I", false)
  | 23 => ("BridgeClubModel", "freeRow", "[I", true)
  | 24 => ("BridgeClubModel", "won", "[I", true)
  | 25 => ("BridgeClubModel", "leader", "I", false)
  | 26 => ("BridgeClubModel", "start", "I", false)
  | 27 => ("BridgeClubModel", "left", "[I", true)
  | 28 => ("BridgeClubModel", "trick", "[I", true)
  | 29 => ("BridgeClubModel", "trumpNow", "I", false)
  | _ => ("BridgeClubModel", "sideNow", "I", false)
def tyX9 : Nat → FieldType := fun k => match k with
  | 0 => .int
  | 1 => .int
  | 2 => .array .int
  | 3 => .array .boolean
  | 4 => .array .int
  | 5 => .array .int
  | 6 => .array .int
  | 7 => .array .int
  | 8 => .array .int
  | 9 => .array .int
  | 10 => .array .int
  | 11 => .array .int
  | 12 => .array .int
  | 13 => .array .int
  | 14 => .array .int
  | 15 => .array .int
  | 16 => .array .int
  | 17 => .array .int
  | 18 => .array .int
  | 19 => .array .int
  | 20 => .array .boolean
  | 21 => .array .int
  | 22 => .int
  | 23 => .array .int
  | 24 => .array .int
  | 25 => .int
  | 26 => .int
  | 27 => .array .int
  | 28 => .array .int
  | 29 => .int
  | _ => .int
abbrev wsX90 : List Cond := u_ws RX9 TX9 31
theorem nmX9 : ∀ a, a < 31 → ∀ b, b < 31 → a ≠ b → (TX9 a).2.1 ≠ (TX9 b).2.1 := by decide +kernel
theorem tyX9_ok : ∀ k, k < 31 → parseFieldDescriptor (TX9 k).2.2.1 = some (tyX9 k) := by decide +kernel
abbrev cX9_init : ByteArray := prog_11_method_1_code
def yX9_init : MethodName := ⟨RX9, "<init>", "()V"⟩
abbrev cX9_in : ByteArray := prog_11_method_2_code
def yX9_in : MethodName := ⟨RX9, "in", "(III)Z"⟩
abbrev cX9_modulo : ByteArray := prog_11_method_3_code
def yX9_modulo : MethodName := ⟨RX9, "modulo", "(II)I"⟩
abbrev cX9_deal : ByteArray := prog_11_method_4_code
def yX9_deal : MethodName := ⟨RX9, "deal", "(I)I"⟩
abbrev cX9_isBoard : ByteArray := prog_11_method_5_code
def yX9_isBoard : MethodName := ⟨RX9, "isBoard", "(I)Z"⟩
abbrev cX9_isCard : ByteArray := prog_11_method_6_code
def yX9_isCard : MethodName := ⟨RX9, "isCard", "(I)Z"⟩
abbrev cX9_swap : ByteArray := prog_11_method_7_code
def yX9_swap : MethodName := ⟨RX9, "swap", "(III)Z"⟩
abbrev cX9_hand : ByteArray := prog_11_method_8_code
def yX9_hand : MethodName := ⟨RX9, "hand", "(II)I"⟩
abbrev cX9_dealer : ByteArray := prog_11_method_9_code
def yX9_dealer : MethodName := ⟨RX9, "dealer", "(I)I"⟩
abbrev cX9_vulnerable : ByteArray := prog_11_method_10_code
def yX9_vulnerable : MethodName := ⟨RX9, "vulnerable", "(I)I"⟩
abbrev cX9_isVulnerable : ByteArray := prog_11_method_11_code
def yX9_isVulnerable : MethodName := ⟨RX9, "isVulnerable", "(II)Z"⟩
abbrev cX9_tableOf : ByteArray := prog_11_method_12_code
def yX9_tableOf : MethodName := ⟨RX9, "tableOf", "(I)I"⟩
abbrev cX9_resultsOf : ByteArray := prog_11_method_13_code
def yX9_resultsOf : MethodName := ⟨RX9, "resultsOf", "(I)I"⟩
abbrev cX9_board : ByteArray := prog_11_method_14_code
def yX9_board : MethodName := ⟨RX9, "board", "(II)I"⟩
abbrev cX9_isPlaying : ByteArray := prog_11_method_15_code
def yX9_isPlaying : MethodName := ⟨RX9, "isPlaying", "(I)Z"⟩
abbrev cX9_hasPlayed : ByteArray := prog_11_method_16_code
def yX9_hasPlayed : MethodName := ⟨RX9, "hasPlayed", "(II)Z"⟩
abbrev cX9_begin : ByteArray := prog_11_method_17_code
def yX9_begin : MethodName := ⟨RX9, "begin", "(IIII)Z"⟩
abbrev cX9_phaseOf : ByteArray := prog_11_method_18_code
def yX9_phaseOf : MethodName := ⟨RX9, "phaseOf", "(I)I"⟩
abbrev cX9_callAt : ByteArray := prog_11_method_19_code
def yX9_callAt : MethodName := ⟨RX9, "callAt", "(II)I"⟩
abbrev cX9_callerOf : ByteArray := prog_11_method_20_code
def yX9_callerOf : MethodName := ⟨RX9, "callerOf", "(II)I"⟩
abbrev cX9_latestCall : ByteArray := prog_11_method_21_code
def yX9_latestCall : MethodName := ⟨RX9, "latestCall", "(I)I"⟩
abbrev cX9_latestBid : ByteArray := prog_11_method_22_code
def yX9_latestBid : MethodName := ⟨RX9, "latestBid", "(I)I"⟩
abbrev cX9_doubled : ByteArray := prog_11_method_23_code
def yX9_doubled : MethodName := ⟨RX9, "doubled", "(I)I"⟩
abbrev cX9_mayCall : ByteArray := prog_11_method_24_code
def yX9_mayCall : MethodName := ⟨RX9, "mayCall", "(II)Z"⟩
abbrev cX9_level : ByteArray := prog_11_method_25_code
def yX9_level : MethodName := ⟨RX9, "level", "(I)I"⟩
abbrev cX9_strain : ByteArray := prog_11_method_26_code
def yX9_strain : MethodName := ⟨RX9, "strain", "(I)I"⟩
abbrev cX9_declarer : ByteArray := prog_11_method_27_code
def yX9_declarer : MethodName := ⟨RX9, "declarer", "(I)I"⟩
abbrev cX9_call : ByteArray := prog_11_method_28_code
def yX9_call : MethodName := ⟨RX9, "call", "(II)I"⟩
abbrev cX9_suit : ByteArray := prog_11_method_29_code
def yX9_suit : MethodName := ⟨RX9, "suit", "(I)I"⟩
abbrev cX9_beats : ByteArray := prog_11_method_30_code
def yX9_beats : MethodName := ⟨RX9, "beats", "(III)Z"⟩
abbrev cX9_goThrough : ByteArray := prog_11_method_31_code
def yX9_goThrough : MethodName := ⟨RX9, "goThrough", "(I)V"⟩
abbrev cX9_turn : ByteArray := prog_11_method_32_code
def yX9_turn : MethodName := ⟨RX9, "turn", "(I)I"⟩
abbrev cX9_wasPlayed : ByteArray := prog_11_method_33_code
def yX9_wasPlayed : MethodName := ⟨RX9, "wasPlayed", "(II)Z"⟩
abbrev cX9_holds : ByteArray := prog_11_method_34_code
def yX9_holds : MethodName := ⟨RX9, "holds", "(III)Z"⟩
abbrev cX9_mayPlay : ByteArray := prog_11_method_35_code
def yX9_mayPlay : MethodName := ⟨RX9, "mayPlay", "(II)Z"⟩
abbrev cX9_play : ByteArray := prog_11_method_36_code
def yX9_play : MethodName := ⟨RX9, "play", "(II)I"⟩
abbrev cX9_claim : ByteArray := prog_11_method_37_code
def yX9_claim : MethodName := ⟨RX9, "claim", "(II)Z"⟩
abbrev cX9_back : ByteArray := prog_11_method_38_code
def yX9_back : MethodName := ⟨RX9, "back", "(I)Z"⟩
abbrev cX9_leave : ByteArray := prog_11_method_39_code
def yX9_leave : MethodName := ⟨RX9, "leave", "(I)Z"⟩
abbrev cX9_ends : ByteArray := prog_11_method_40_code
def yX9_ends : MethodName := ⟨RX9, "ends", "(II)V"⟩
abbrev cX9_table : ByteArray := prog_11_method_41_code
def yX9_table : MethodName := ⟨RX9, "table", "(II)I"⟩
abbrev cX9_called : ByteArray := prog_11_method_42_code
def yX9_called : MethodName := ⟨RX9, "called", "(II)I"⟩
abbrev cX9_played : ByteArray := prog_11_method_43_code
def yX9_played : MethodName := ⟨RX9, "played", "(II)I"⟩
abbrev cX9_allowed : ByteArray := prog_11_method_44_code
def yX9_allowed : MethodName := ⟨RX9, "allowed", "(II)Z"⟩
abbrev cX9_sees : ByteArray := prog_11_method_45_code
def yX9_sees : MethodName := ⟨RX9, "sees", "(III)Z"⟩
abbrev cX9_lacks : ByteArray := prog_11_method_46_code
def yX9_lacks : MethodName := ⟨RX9, "lacks", "(III)Z"⟩
abbrev cX9_taken : ByteArray := prog_11_method_47_code
def yX9_taken : MethodName := ⟨RX9, "taken", "(II)I"⟩
abbrev cX9_search : ByteArray := prog_11_method_48_code
def yX9_search : MethodName := ⟨RX9, "search", "(III)I"⟩
abbrev cX9_layOut : ByteArray := prog_11_method_49_code
def yX9_layOut : MethodName := ⟨RX9, "layOut", "(I)I"⟩
abbrev cX9_best : ByteArray := prog_11_method_50_code
def yX9_best : MethodName := ⟨RX9, "best", "(I)I"⟩
abbrev cX9_bestCard : ByteArray := prog_11_method_51_code
def yX9_bestCard : MethodName := ⟨RX9, "bestCard", "(I)I"⟩
abbrev cX9_score : ByteArray := prog_11_method_52_code
def yX9_score : MethodName := ⟨RX9, "score", "(IIIZI)I"⟩
abbrev cX9_lost : ByteArray := prog_11_method_53_code
def yX9_lost : MethodName := ⟨RX9, "lost", "(IIZ)I"⟩
abbrev cX9_steps : ByteArray := prog_11_method_54_code
def yX9_steps : MethodName := ⟨RX9, "steps", "(II)I"⟩
abbrev cX9_isResult : ByteArray := prog_11_method_55_code
def yX9_isResult : MethodName := ⟨RX9, "isResult", "(I)Z"⟩
abbrev cX9_result : ByteArray := prog_11_method_56_code
def yX9_result : MethodName := ⟨RX9, "result", "(II)I"⟩
abbrev cX9_adjust : ByteArray := prog_11_method_57_code
def yX9_adjust : MethodName := ⟨RX9, "adjust", "(III)Z"⟩
abbrev cX9_points : ByteArray := prog_11_method_58_code
def yX9_points : MethodName := ⟨RX9, "points", "(II)I"⟩
abbrev cX9_hasResult : ByteArray := prog_11_method_59_code
def yX9_hasResult : MethodName := ⟨RX9, "hasResult", "(I)Z"⟩
abbrev cX9_total : ByteArray := prog_11_method_60_code
def yX9_total : MethodName := ⟨RX9, "total", "(I)I"⟩
abbrev cX9_top : ByteArray := prog_11_method_61_code
def yX9_top : MethodName := ⟨RX9, "top", "(I)I"⟩
abbrev cX9_place : ByteArray := prog_11_method_62_code
def yX9_place : MethodName := ⟨RX9, "place", "(I)I"⟩
abbrev cX9_plan : ByteArray := prog_11_method_63_code
def yX9_plan : MethodName := ⟨RX9, "plan", "(IIII)I"⟩
abbrev cX9_puts : ByteArray := prog_11_method_64_code
def yX9_puts : MethodName := ⟨RX9, "puts", "(I)V"⟩
abbrev cX9_write : ByteArray := prog_11_method_65_code
def yX9_write : MethodName := ⟨RX9, "write", "(I)I"⟩
abbrev cX9_out : ByteArray := prog_11_method_66_code
def yX9_out : MethodName := ⟨RX9, "out", "(I)I"⟩
abbrev cX9_count : ByteArray := prog_11_method_67_code
def yX9_count : MethodName := ⟨RX9, "count", "(I)I"⟩
def RJ5 : String := "java/lang/AbstractStringBuilder"
def TJ5 : u_T := fun k => match k with
  | _ => ("", "", "", false)
def tyJ5 : Nat → FieldType := fun k => match k with
  | _ => .int
abbrev wsJ50 : List Cond := u_ws RJ5 TJ5 0
theorem nmJ5 : ∀ a, a < 0 → ∀ b, b < 0 → a ≠ b → (TJ5 a).2.1 ≠ (TJ5 b).2.1 := by decide +kernel
theorem tyJ5_ok : ∀ k, k < 0 → parseFieldDescriptor (TJ5 k).2.2.1 = some (tyJ5 k) := by decide +kernel
abbrev cJ5_init_d00df : ByteArray := prog_12_method_2_code
def yJ5_init_d00df : MethodName := ⟨RJ5, "<init>", "(I)V"⟩
abbrev cJ5_length_8abf5 : ByteArray := prog_12_method_6_code
def yJ5_length_8abf5 : MethodName := ⟨RJ5, "length", "()I"⟩
abbrev cJ5_ensureCapacityInternal_d00df : ByteArray := prog_12_method_9_code
def yJ5_ensureCapacityInternal_d00df : MethodName := ⟨RJ5, "ensureCapacityInternal", "(I)V"⟩
abbrev cJ5_newCapacity_0f7a4 : ByteArray := prog_12_method_10_code
def yJ5_newCapacity_0f7a4 : MethodName := ⟨RJ5, "newCapacity", "(I)I"⟩
abbrev cJ5_inflate_da8c8 : ByteArray := prog_12_method_11_code
def yJ5_inflate_da8c8 : MethodName := ⟨RJ5, "inflate", "()V"⟩
abbrev cJ5_setLength_d00df : ByteArray := prog_12_method_13_code
def yJ5_setLength_d00df : MethodName := ⟨RJ5, "setLength", "(I)V"⟩
abbrev cJ5_charAt_5068e : ByteArray := prog_12_method_14_code
def yJ5_charAt_5068e : MethodName := ⟨RJ5, "charAt", "(I)C"⟩
abbrev cJ5_append_cf1ce : ByteArray := prog_12_method_22_code
def yJ5_append_cf1ce : MethodName := ⟨RJ5, "append", "(Ljava/lang/String;)Ljava/lang/AbstractStringBuilder;"⟩
abbrev cJ5_appendNull_278bc : ByteArray := prog_12_method_26_code
def yJ5_appendNull_278bc : MethodName := ⟨RJ5, "appendNull", "()Ljava/lang/AbstractStringBuilder;"⟩
abbrev cJ5_append_3fe6f : ByteArray := prog_12_method_31_code
def yJ5_append_3fe6f : MethodName := ⟨RJ5, "append", "(C)Ljava/lang/AbstractStringBuilder;"⟩
abbrev cJ5_append_c97b9 : ByteArray := prog_12_method_32_code
def yJ5_append_c97b9 : MethodName := ⟨RJ5, "append", "(I)Ljava/lang/AbstractStringBuilder;"⟩
abbrev cJ5_isLatin1_aae02 : ByteArray := prog_12_method_68_code
def yJ5_isLatin1_aae02 : MethodName := ⟨RJ5, "isLatin1", "()Z"⟩
abbrev cJ5_inflateIfNeededFor_a7421 : ByteArray := prog_12_method_71_code
def yJ5_inflateIfNeededFor_a7421 : MethodName := ⟨RJ5, "inflateIfNeededFor", "(Ljava/lang/String;)V"⟩
abbrev cJ5_putStringAt_47b60 : ByteArray := prog_12_method_73_code
def yJ5_putStringAt_47b60 : MethodName := ⟨RJ5, "putStringAt", "(ILjava/lang/String;)V"⟩
def RJ6 : String := "java/lang/Integer"
def TJ6 : u_T := fun k => match k with
  | _ => ("", "", "", false)
def tyJ6 : Nat → FieldType := fun k => match k with
  | _ => .int
abbrev wsJ60 : List Cond := u_ws RJ6 TJ6 0
theorem nmJ6 : ∀ a, a < 0 → ∀ b, b < 0 → a ≠ b → (TJ6 a).2.1 ≠ (TJ6 b).2.1 := by decide +kernel
theorem tyJ6_ok : ∀ k, k < 0 → parseFieldDescriptor (TJ6 k).2.2.1 = some (tyJ6 k) := by decide +kernel
abbrev cJ6_getChars_ba4f3 : ByteArray := prog_14_method_12_code
def yJ6_getChars_ba4f3 : MethodName := ⟨RJ6, "getChars", "(II[B)I"⟩
abbrev cJ6_stringSize_0f7a4 : ByteArray := prog_14_method_13_code
def yJ6_stringSize_0f7a4 : MethodName := ⟨RJ6, "stringSize", "(I)I"⟩
def RJ13 : String := "java/lang/Long"
def TJ13 : u_T := fun k => match k with
  | _ => ("", "", "", false)
def tyJ13 : Nat → FieldType := fun k => match k with
  | _ => .int
abbrev wsJ130 : List Cond := u_ws RJ13 TJ13 0
theorem nmJ13 : ∀ a, a < 0 → ∀ b, b < 0 → a ≠ b → (TJ13 a).2.1 ≠ (TJ13 b).2.1 := by decide +kernel
theorem tyJ13_ok : ∀ k, k < 0 → parseFieldDescriptor (TJ13 k).2.2.1 = some (tyJ13 k) := by decide +kernel
abbrev cJ13_bitCount_95d88 : ByteArray := prog_15_method_50_code
def yJ13_bitCount_95d88 : MethodName := ⟨RJ13, "bitCount", "(J)I"⟩
def RJ9 : String := "java/lang/Math"
def TJ9 : u_T := fun k => match k with
  | _ => ("", "", "", false)
def tyJ9 : Nat → FieldType := fun k => match k with
  | _ => .int
abbrev wsJ90 : List Cond := u_ws RJ9 TJ9 0
theorem nmJ9 : ∀ a, a < 0 → ∀ b, b < 0 → a ≠ b → (TJ9 a).2.1 ≠ (TJ9 b).2.1 := by decide +kernel
theorem tyJ9_ok : ∀ k, k < 0 → parseFieldDescriptor (TJ9 k).2.2.1 = some (tyJ9 k) := by decide +kernel
abbrev cJ9_floorMod_7cf53 : ByteArray := prog_16_method_50_code
def yJ9_floorMod_7cf53 : MethodName := ⟨RJ9, "floorMod", "(II)I"⟩
abbrev cJ9_abs_0f7a4 : ByteArray := prog_16_method_59_code
def yJ9_abs_0f7a4 : MethodName := ⟨RJ9, "abs", "(I)I"⟩
abbrev cJ9_max_7cf53 : ByteArray := prog_16_method_65_code
def yJ9_max_7cf53 : MethodName := ⟨RJ9, "max", "(II)I"⟩
abbrev cJ9_min_7cf53 : ByteArray := prog_16_method_69_code
def yJ9_min_7cf53 : MethodName := ⟨RJ9, "min", "(II)I"⟩
def RJ0 : String := "java/lang/String"
def TJ0 : u_T := fun k => match k with
  | _ => ("", "", "", false)
def tyJ0 : Nat → FieldType := fun k => match k with
  | _ => .int
abbrev wsJ00 : List Cond := u_ws RJ0 TJ0 0
theorem nmJ0 : ∀ a, a < 0 → ∀ b, b < 0 → a ≠ b → (TJ0 a).2.1 ≠ (TJ0 b).2.1 := by decide +kernel
theorem tyJ0_ok : ∀ k, k < 0 → parseFieldDescriptor (TJ0 k).2.2.1 = some (tyJ0 k) := by decide +kernel
abbrev cJ0_length_8abf5 : ByteArray := prog_17_method_54_code
def yJ0_length_8abf5 : MethodName := ⟨RJ0, "length", "()I"⟩
abbrev cJ0_charAt_5068e : ByteArray := prog_17_method_56_code
def yJ0_charAt_5068e : MethodName := ⟨RJ0, "charAt", "(I)C"⟩
abbrev cJ0_getBytes_840e7 : ByteArray := prog_17_method_147_code
def yJ0_getBytes_840e7 : MethodName := ⟨RJ0, "getBytes", "([BIB)V"⟩
abbrev cJ0_coder_7d493 : ByteArray := prog_17_method_152_code
def yJ0_coder_7d493 : MethodName := ⟨RJ0, "coder", "()B"⟩
abbrev cJ0_isLatin1_aae02 : ByteArray := prog_17_method_154_code
def yJ0_isLatin1_aae02 : MethodName := ⟨RJ0, "isLatin1", "()Z"⟩
abbrev cJ0_checkIndex_df160 : ByteArray := prog_17_method_155_code
def yJ0_checkIndex_df160 : MethodName := ⟨RJ0, "checkIndex", "(II)V"⟩
abbrev cJ0_checkBoundsOffCount_cabcc : ByteArray := prog_17_method_157_code
def yJ0_checkBoundsOffCount_cabcc : MethodName := ⟨RJ0, "checkBoundsOffCount", "(III)I"⟩
abbrev cJ0_checkBoundsBeginEnd_23922 : ByteArray := prog_17_method_158_code
def yJ0_checkBoundsBeginEnd_23922 : MethodName := ⟨RJ0, "checkBoundsBeginEnd", "(III)V"⟩
def RJ4 : String := "java/lang/StringBuilder"
def TJ4 : u_T := fun k => match k with
  | 0 => ("java/lang/AbstractStringBuilder", "value", "[B", false)
  | 1 => ("java/lang/AbstractStringBuilder", "coder", "B", false)
  | 2 => ("java/lang/AbstractStringBuilder", "maybeLatin1", "Z", false)
  | _ => ("java/lang/AbstractStringBuilder", "count", "I", false)
def tyJ4 : Nat → FieldType := fun k => match k with
  | 0 => .array .byte
  | 1 => .byte
  | 2 => .boolean
  | _ => .int
abbrev wsJ40 : List Cond := u_ws RJ4 TJ4 4
theorem nmJ4 : ∀ a, a < 4 → ∀ b, b < 4 → a ≠ b → (TJ4 a).2.1 ≠ (TJ4 b).2.1 := by decide +kernel
theorem tyJ4_ok : ∀ k, k < 4 → parseFieldDescriptor (TJ4 k).2.2.1 = some (tyJ4 k) := by decide +kernel
abbrev cJ4_init_da8c8 : ByteArray := prog_18_method_1_code
def yJ4_init_da8c8 : MethodName := ⟨RJ4, "<init>", "()V"⟩
abbrev cJ4_append_15ec4 : ByteArray := prog_18_method_7_code
def yJ4_append_15ec4 : MethodName := ⟨RJ4, "append", "(Ljava/lang/String;)Ljava/lang/StringBuilder;"⟩
abbrev cJ4_append_cf468 : ByteArray := prog_18_method_14_code
def yJ4_append_cf468 : MethodName := ⟨RJ4, "append", "(C)Ljava/lang/StringBuilder;"⟩
abbrev cJ4_append_bf812 : ByteArray := prog_18_method_15_code
def yJ4_append_bf812 : MethodName := ⟨RJ4, "append", "(I)Ljava/lang/StringBuilder;"⟩
abbrev cJ4_charAt_5068e : ByteArray := prog_18_method_88_code
def yJ4_charAt_5068e : MethodName := ⟨RJ4, "charAt", "(I)C"⟩
abbrev cJ4_setLength_d00df : ByteArray := prog_18_method_89_code
def yJ4_setLength_d00df : MethodName := ⟨RJ4, "setLength", "(I)V"⟩
abbrev cJ4_length_8abf5 : ByteArray := prog_18_method_93_code
def yJ4_length_8abf5 : MethodName := ⟨RJ4, "length", "()I"⟩
def RJ1 : String := "java/lang/StringLatin1"
def TJ1 : u_T := fun k => match k with
  | _ => ("", "", "", false)
def tyJ1 : Nat → FieldType := fun k => match k with
  | _ => .int
abbrev wsJ10 : List Cond := u_ws RJ1 TJ1 0
theorem nmJ1 : ∀ a, a < 0 → ∀ b, b < 0 → a ≠ b → (TJ1 a).2.1 ≠ (TJ1 b).2.1 := by decide +kernel
theorem tyJ1_ok : ∀ k, k < 0 → parseFieldDescriptor (TJ1 k).2.2.1 = some (tyJ1 k) := by decide +kernel
abbrev cJ1_charAt_3b067 : ByteArray := prog_19_method_2_code
def yJ1_charAt_3b067 : MethodName := ⟨RJ1, "charAt", "([BI)C"⟩
abbrev cJ1_canEncode_fc78d : ByteArray := prog_19_method_3_code
def yJ1_canEncode_fc78d : MethodName := ⟨RJ1, "canEncode", "(C)Z"⟩
abbrev cJ1_fillNull_b72d1 : ByteArray := prog_19_method_48_code
def yJ1_fillNull_b72d1 : MethodName := ⟨RJ1, "fillNull", "([BII)V"⟩
abbrev cJ1_inflate_0e8fd : ByteArray := prog_19_method_50_code
def yJ1_inflate_0e8fd : MethodName := ⟨RJ1, "inflate", "([BI[BII)V"⟩
def RJ2 : String := "java/lang/StringUTF16"
def TJ2 : u_T := fun k => match k with
  | _ => ("", "", "", false)
def tyJ2 : Nat → FieldType := fun k => match k with
  | _ => .int
abbrev wsJ20 : List Cond := u_ws RJ2 TJ2 0
theorem nmJ2 : ∀ a, a < 0 → ∀ b, b < 0 → a ≠ b → (TJ2 a).2.1 ≠ (TJ2 b).2.1 := by decide +kernel
theorem tyJ2_ok : ∀ k, k < 0 → parseFieldDescriptor (TJ2 k).2.2.1 = some (tyJ2 k) := by decide +kernel
abbrev cJ2_newBytesFor_77867 : ByteArray := prog_20_method_2_code
def yJ2_newBytesFor_77867 : MethodName := ⟨RJ2, "newBytesFor", "(I)[B"⟩
abbrev cJ2_newBytesLength_0f7a4 : ByteArray := prog_20_method_3_code
def yJ2_newBytesLength_0f7a4 : MethodName := ⟨RJ2, "newBytesLength", "(I)I"⟩
abbrev cJ2_putChar_b72d1 : ByteArray := prog_20_method_4_code
def yJ2_putChar_b72d1 : MethodName := ⟨RJ2, "putChar", "([BII)V"⟩
abbrev cJ2_getChar_3b067 : ByteArray := prog_20_method_5_code
def yJ2_getChar_3b067 : MethodName := ⟨RJ2, "getChar", "([BI)C"⟩
abbrev cJ2_length_9d52b : ByteArray := prog_20_method_6_code
def yJ2_length_9d52b : MethodName := ⟨RJ2, "length", "([B)I"⟩
abbrev cJ2_fillNull_b72d1 : ByteArray := prog_20_method_70_code
def yJ2_fillNull_b72d1 : MethodName := ⟨RJ2, "fillNull", "([BII)V"⟩
abbrev cJ2_putCharSB_b72d1 : ByteArray := prog_20_method_71_code
def yJ2_putCharSB_b72d1 : MethodName := ⟨RJ2, "putCharSB", "([BII)V"⟩
abbrev cJ2_getChars_46870 : ByteArray := prog_20_method_77_code
def yJ2_getChars_46870 : MethodName := ⟨RJ2, "getChars", "(III[B)I"⟩
abbrev cJ2_putCharsAt_cd4e5 : ByteArray := prog_20_method_81_code
def yJ2_putCharsAt_cd4e5 : MethodName := ⟨RJ2, "putCharsAt", "([BICCCC)I"⟩
abbrev cJ2_charAt_3b067 : ByteArray := prog_20_method_83_code
def yJ2_charAt_3b067 : MethodName := ⟨RJ2, "charAt", "([BI)C"⟩
abbrev cJ2_inflate_0e8fd : ByteArray := prog_20_method_86_code
def yJ2_inflate_0e8fd : MethodName := ⟨RJ2, "inflate", "([BI[BII)V"⟩
abbrev cJ2_getChars_ba4f3 : ByteArray := prog_20_method_89_code
def yJ2_getChars_ba4f3 : MethodName := ⟨RJ2, "getChars", "(II[B)I"⟩
abbrev cJ2_checkIndex_2214a : ByteArray := prog_20_method_91_code
def yJ2_checkIndex_2214a : MethodName := ⟨RJ2, "checkIndex", "(I[B)V"⟩
abbrev cJ2_checkBoundsBeginEnd_d044e : ByteArray := prog_20_method_93_code
def yJ2_checkBoundsBeginEnd_d044e : MethodName := ⟨RJ2, "checkBoundsBeginEnd", "(II[B)V"⟩
abbrev cJ2_checkBoundsOffCount_d044e : ByteArray := prog_20_method_94_code
def yJ2_checkBoundsOffCount_d044e : MethodName := ⟨RJ2, "checkBoundsOffCount", "(II[B)V"⟩
def RJ10 : String := "java/lang/System"
def TJ10 : u_T := fun k => match k with
  | _ => ("", "", "", false)
def tyJ10 : Nat → FieldType := fun k => match k with
  | _ => .int
abbrev wsJ100 : List Cond := u_ws RJ10 TJ10 0
theorem nmJ10 : ∀ a, a < 0 → ∀ b, b < 0 → a ≠ b → (TJ10 a).2.1 ≠ (TJ10 b).2.1 := by decide +kernel
theorem tyJ10_ok : ∀ k, k < 0 → parseFieldDescriptor (TJ10 k).2.2.1 = some (tyJ10 k) := by decide +kernel
def RJ7 : String := "java/util/Arrays"
def TJ7 : u_T := fun k => match k with
  | _ => ("", "", "", false)
def tyJ7 : Nat → FieldType := fun k => match k with
  | _ => .int
abbrev wsJ70 : List Cond := u_ws RJ7 TJ7 0
theorem nmJ7 : ∀ a, a < 0 → ∀ b, b < 0 → a ≠ b → (TJ7 a).2.1 ≠ (TJ7 b).2.1 := by decide +kernel
theorem tyJ7_ok : ∀ k, k < 0 → parseFieldDescriptor (TJ7 k).2.2.1 = some (tyJ7 k) := by decide +kernel
abbrev cJ7_rangeCheck_23922 : ByteArray := prog_22_method_30_code
def yJ7_rangeCheck_23922 : MethodName := ⟨RJ7, "rangeCheck", "(III)V"⟩
abbrev cJ7_fill_eb02e : ByteArray := prog_22_method_110_code
def yJ7_fill_eb02e : MethodName := ⟨RJ7, "fill", "([BIIB)V"⟩
abbrev cJ7_copyOf_9075b : ByteArray := prog_22_method_121_code
def yJ7_copyOf_9075b : MethodName := ⟨RJ7, "copyOf", "([BI)[B"⟩
def RJ8 : String := "jdk/internal/util/ArraysSupport"
def TJ8 : u_T := fun k => match k with
  | _ => ("", "", "", false)
def tyJ8 : Nat → FieldType := fun k => match k with
  | _ => .int
abbrev wsJ80 : List Cond := u_ws RJ8 TJ8 0
theorem nmJ8 : ∀ a, a < 0 → ∀ b, b < 0 → a ≠ b → (TJ8 a).2.1 ≠ (TJ8 b).2.1 := by decide +kernel
theorem tyJ8_ok : ∀ k, k < 0 → parseFieldDescriptor (TJ8 k).2.2.1 = some (tyJ8 k) := by decide +kernel
abbrev cJ8_newLength_cabcc : ByteArray := prog_23_method_27_code
def yJ8_newLength_cabcc : MethodName := ⟨RJ8, "newLength", "(III)I"⟩
abbrev cJ8_hugeLength_7cf53 : ByteArray := prog_23_method_28_code
def yJ8_hugeLength_7cf53 : MethodName := ⟨RJ8, "hugeLength", "(II)I"⟩
def RJ3 : String := "jdk/internal/util/Preconditions"
def TJ3 : u_T := fun k => match k with
  | _ => ("", "", "", false)
def tyJ3 : Nat → FieldType := fun k => match k with
  | _ => .int
abbrev wsJ30 : List Cond := u_ws RJ3 TJ3 0
theorem nmJ3 : ∀ a, a < 0 → ∀ b, b < 0 → a ≠ b → (TJ3 a).2.1 ≠ (TJ3 b).2.1 := by decide +kernel
theorem tyJ3_ok : ∀ k, k < 0 → parseFieldDescriptor (TJ3 k).2.2.1 = some (tyJ3 k) := by decide +kernel
abbrev cJ3_checkIndex_8e157 : ByteArray := prog_24_method_11_code
def yJ3_checkIndex_8e157 : MethodName := ⟨RJ3, "checkIndex", "(IILjava/util/function/BiFunction;)I"⟩
abbrev cJ3_checkFromToIndex_8c36e : ByteArray := prog_24_method_12_code
def yJ3_checkFromToIndex_8c36e : MethodName := ⟨RJ3, "checkFromToIndex", "(IIILjava/util/function/BiFunction;)I"⟩
abbrev cJ3_checkFromIndexSize_8c36e : ByteArray := prog_24_method_13_code
def yJ3_checkFromIndexSize_8c36e : MethodName := ⟨RJ3, "checkFromIndexSize", "(IIILjava/util/function/BiFunction;)I"⟩
def RL : String := "BridgeClubLaw"
abbrev cL_law : ByteArray := code
def yL_law : MethodName := ⟨RL, "law", "([I)Z"⟩
abbrev vwCl : List vw_C := [(RJ4, TJ4, 4), (RX0, TX0, 3), (RX1, TX1, 4), (RX3, TX3, 8), (RX4, TX4, 6), (RX5, TX5, 12), (RX7, TX7, 5), (RX8, TX8, 8), (RX9, TX9, 31)]
end
section
/-! ===== AM: a small machine over relative addresses (0..15 constants, 16.. made cells); its runs are proved to be the machine's in the parts behind ===== -/
abbrev aH : Type := (Nat → va_E) × Nat
abbrev aE : Type := Nat × Instr × Nat × Nat × Nat × Nat
abbrev aL : Type := List (Option Value)
abbrev aQ : Type := Option Value → aH → Prop
abbrev aC : Type := Nat → List Value → aH → Nat → Nat → aQ → Prop
abbrev aP : Type := Nat → aL → List Value → aH → Nat → Nat → Prop
/-- own class, name, bytes, locals, return type, is static, code -/
abbrev aM : Type := String × MethodName × ByteArray × Nat × Option FieldType × Bool × List aE
/-- the instruction at a place, with its two operands -/
def aGet (cd : List aE) (k : Nat) : Option (Instr × Nat × Nat) := match cd[k]? with
  | some (_, i, _, x, y, _) => some (i, x, y)
  | none => none
def aPc (cd : List aE) (k : Nat) : Nat := match cd[k]? with
  | some (pc, _) => pc
  | none => 0
def kConst : Instr → Option Value
  | .iconst n => some (.int (Int32.ofInt n))
  | .bipush n => some (.int (Int8.ofInt n).toInt32)
  | .sipush n => some (.int (Int16.ofInt n).toInt32)
  | .lconst n => some (.long (Int64.ofNat (n : Nat)))
  | .aconst_null => some .null
  | _ => none
/-- place, and 0 int, 1 long, 2 reference -/
def kLoad : Instr → Option (Nat × Nat)
  | .iload i => some (i, 0)
  | .iload_n i => some (i, 0)
  | .lload i => some (i, 1)
  | .lload_n i => some (i, 1)
  | .aload i => some (i, 2)
  | .aload_n i => some (i, 2)
  | _ => none
def kStore : Instr → Option (Nat × Nat)
  | .istore i => some (i, 0)
  | .istore_n i => some (i, 0)
  | .lstore i => some (i, 1)
  | .lstore_n i => some (i, 1)
  | .astore i => some (i, 2)
  | .astore_n i => some (i, 2)
  | _ => none
def kTy : Nat → Value → Prop
  | 0, .int _ => True
  | 1, .long _ => True
  | 2, .ref _ => True
  | 2, .null => True
  | _, _ => False
def kBin : Instr → Option (Int32 → Int32 → Int32)
  | .iadd => some (fun x y => x + y)
  | .isub => some (fun x y => x - y)
  | .imul => some (fun x y => x * y)
  | .iand => some (fun x y => x &&& y)
  | .ior => some (fun x y => x ||| y)
  | .ixor => some (fun x y => x ^^^ y)
  | .ishl => some (fun x y => x <<< (y &&& 31))
  | .ishr => some (fun x y => x >>> (y &&& 31))
  | .iushr => some (fun x y => (x.toUInt32 >>> (y.toUInt32 &&& Int32.toUInt32 31)).toInt32)
  | _ => none
def kDiv : Instr → Option (Int32 → Int32 → Int32)
  | .idiv => some (fun x y => x / y)
  | .irem => some (fun x y => x - x / y * y)
  | _ => none
def kBinL : Instr → Option (Int64 → Int64 → Int64)
  | .ladd => some (fun x y => x + y)
  | .lsub => some (fun x y => x - y)
  | .lmul => some (fun x y => x * y)
  | .land => some (fun x y => x &&& y)
  | .lor => some (fun x y => x ||| y)
  | .lxor => some (fun x y => x ^^^ y)
  | _ => none
def kShL : Instr → Option (Int64 → Int32 → Int64)
  | .lshl => some (fun x y => x <<< (y.toInt64 &&& 63))
  | .lshr => some (fun x y => x >>> (y.toInt64 &&& 63))
  | .lushr => some (fun x y => (x.toUInt64 >>> (y.toInt64.toUInt64 &&& Int64.toUInt64 63)).toInt64)
  | _ => none
def kUn : Instr → Option (Int32 → Int32)
  | .ineg => some (fun x => -x)
  | .i2b => some (fun x => x.toInt8.toInt32)
  | .i2c => some (fun x => (x.toUInt32 % 65536).toInt32)
  | _ => none
def kC : Jvm.ClassFile.Cond → Int32 → Int32 → Prop
  | .eq, x, y => x = y
  | .ne, x, y => ¬ x = y
  | .lt, x, y => x < y
  | .ge, x, y => y ≤ x
  | .gt, x, y => y < x
  | .le, x, y => x ≤ y
/-- a store to a local -/
def aClr (l : aL) : Nat → aL
  | 0 => l
  | i + 1 => match l[i]? with
    | some (some (.long _)) => l.set i none
    | some (some (.double _)) => l.set i none
    | _ => l
def aSet (l : aL) (i : Nat) (v : Value) : aL := match v with
  | .long _ => ((aClr l i).set i (some v)).set (i + 1) none
  | _ => (aClr l i).set i (some v)
def aUp (h : aH) (a : Nat) (e : va_E) : aH := (va_up h.1 a e, h.2)
def aNew (h : aH) (e : va_E) : aH := (va_up h.1 h.2 e, h.2 + 1)
abbrev aCls : List vw_C := vwCl
/-- the kinds of arrays -/
def aTy : Nat → FieldType
  | 0 => .int
  | 1 => .boolean
  | 2 => .byte
  | 3 => .long
  | 4 => .object RX1
  | 5 => .object RX7
  | _ => .object RX5
def aFT (ci k : Nat) : Option (String × String × String × Bool) := match aCls[ci]? with
  | some q => if k < q.2.2 then some (q.2.1 k) else none
  | none => none
/-- a value that a field's type takes as it is -/
def aFit (ci k : Nat) (v : Value) : Prop := ∃ q ty, aFT ci k = some q ∧ parseFieldDescriptor q.2.2.1 = some ty ∧ narrow ty v = v ∧ fits ty v = true
def aDef (ci : Nat) : List Value := match aCls[ci]? with
  | some q => (List.range q.2.2).map (fun k => match parseFieldDescriptor (q.2.1 k).2.2.1 with
    | some ty => defaultValue ty
    | none => .null)
  | none => []
def aN (ci : Nat) : Nat := match aCls[ci]? with
  | some q => q.2.2
  | none => 0
/-- a new array's contents: kind, length -/
def aArr0 (t n : Nat) : va_E := match t with
  | 0 => .inl (0, n, .inl (fun _ => 0))
  | 1 => .inl (1, n, .inl (fun _ => 0))
  | 2 => .inl (2, n, .inl (fun _ => 0))
  | 3 => .inl (3, n, .inr (.inl (fun _ => 0)))
  | t => .inl (t, n, .inr (.inr (.inr (.inr (fun _ => none)))))
def aCat (vs : List Value) : Nat := (vs.map fun v => v.category).sum
def aRef (r : Option Nat) : Value := va_rf r
def aRT (rt : Option FieldType) (v : Option Value) : Prop := match rt, v with
  | none, none => True
  | some ty, some (.int x) => narrow ty (.int x) = .int x ∧ fits ty (.int x) = true
  | some .long, some (.long _) => True
  | some (.object _), some (.ref _) => True
  | some (.object _), some .null => True
  | some (.array _), some (.ref _) => True
  | some (.array _), some .null => True
  | _, _ => False
def kRet : Instr → Value → Prop
  | .ireturn, .int _ => True
  | .lreturn, .long _ => True
  | .areturn, .ref _ => True
  | .areturn, .null => True
  | _, _ => False
def aRul (cl : aC) (cd : List aE) (C S : Nat) (rt : Option FieldType) (ini : Bool) (Q : aQ) (P : aP) (n : Nat) : Prop := match n with
  | 0 => ∀ k i x y v l st h c s, aGet cd k = some (i, x, y) → kConst i = some v → P (k + 1) l (v :: st) h c s → P k l st h c s
  | 1 => ∀ k i x y j t v l st h c s, aGet cd k = some (i, x, y) → kLoad i = some (j, t) → l[j]? = some (some v) → kTy t v → P (k + 1) l (v :: st) h c s → P k l st h c s
  | 2 => ∀ k i x y j t v l st h c s, aGet cd k = some (i, x, y) → kStore i = some (j, t) → kTy t v → j + t % 2 < l.length → P (k + 1) (aSet l j v) st h c s → P k l (v :: st) h c s
  | 3 => ∀ k i x y f a b l st h c s, aGet cd k = some (i, x, y) → kBin i = some f → P (k + 1) l (.int (f a b) :: st) h c s → P k l (.int b :: .int a :: st) h c s
  | 4 => ∀ k i x y f a b l st h c s, aGet cd k = some (i, x, y) → kDiv i = some f → ¬ b = 0 → P (k + 1) l (.int (f a b) :: st) h c s → P k l (.int b :: .int a :: st) h c s
  | 5 => ∀ k i x y f a b l st h c s, aGet cd k = some (i, x, y) → kBinL i = some f → P (k + 1) l (.long (f a b) :: st) h c s → P k l (.long b :: .long a :: st) h c s
  | 6 => ∀ k i x y f a b l st h c s, aGet cd k = some (i, x, y) → kShL i = some f → P (k + 1) l (.long (f a b) :: st) h c s → P k l (.int b :: .long a :: st) h c s
  | 7 => ∀ k i x y f a l st h c s, aGet cd k = some (i, x, y) → kUn i = some f → P (k + 1) l (.int (f a) :: st) h c s → P k l (.int a :: st) h c s
  | 8 => ∀ k x y a l st h c s, aGet cd k = some (.lneg, x, y) → P (k + 1) l (.long (-a) :: st) h c s → P k l (.long a :: st) h c s
  | 9 => ∀ k x y a l st h c s, aGet cd k = some (.i2l, x, y) → P (k + 1) l (.long (Int32.toInt64 a) :: st) h c s → P k l (.int a :: st) h c s
  | 10 => ∀ k x y a l st h c s, aGet cd k = some (.l2i, x, y) → P (k + 1) l (.int (Int64.toInt32 a) :: st) h c s → P k l (.long a :: st) h c s
  | 11 => ∀ k x y a b l st h c s, aGet cd k = some (.lcmp, x, y) → P (k + 1) l (.int (lg_cmp a b) :: st) h c s → P k l (.long b :: .long a :: st) h c s
  | 12 => ∀ k j n x y a l st h c s, aGet cd k = some (.iinc j n, x, y) → l[j]? = some (some (.int a)) → P (k + 1) (l.set j (some (.int (a + Int32.ofInt n)))) st h c s → P k l st h c s
  | 13 => ∀ k x y v l st h c s, aGet cd k = some (.dup, x, y) → Value.category v = 1 → P (k + 1) l (v :: v :: st) h c s → P k l (v :: st) h c s
  | 14 => ∀ k x y v l st h c s, aGet cd k = some (.pop, x, y) → Value.category v = 1 → P (k + 1) l st h c s → P k l (v :: st) h c s
  | 15 => ∀ k x y v w l st h c s, aGet cd k = some (.dup2, x, y) → Value.category v = 1 → Value.category w = 1 → P (k + 1) l (v :: w :: v :: w :: st) h c s → P k l (v :: w :: st) h c s
  | 16 => ∀ k x y v w l st h c s, aGet cd k = some (.dup_x1, x, y) → Value.category v = 1 → Value.category w = 1 → P (k + 1) l (v :: w :: v :: st) h c s → P k l (v :: w :: st) h c s
  | 17 => ∀ k co off x y a l st h c s, aGet cd k = some (.ifCond co off, x, y) → (kC co a 0 → P x l st h c s) → (¬ kC co a 0 → P (k + 1) l st h c s) → P k l (.int a :: st) h c s
  | 18 => ∀ k co off x y a b l st h c s, aGet cd k = some (.if_icmp co off, x, y) → (kC co a b → P x l st h c s) → (¬ kC co a b → P (k + 1) l st h c s) → P k l (.int b :: .int a :: st) h c s
  | 19 => ∀ k off x y l st h c s, aGet cd k = some (.goto off, x, y) → P x l st h c s → P k l st h c s
  | 20 => ∀ k off x y a l st h c s, aGet cd k = some (.ifnull off, x, y) → P (k + 1) l st h c s → P k l (.ref a :: st) h c s
  | 21 => ∀ k off x y l st h c s, aGet cd k = some (.ifnull off, x, y) → P x l st h c s → P k l (.null :: st) h c s
  | 22 => ∀ k off x y a l st h c s, aGet cd k = some (.ifnonnull off, x, y) → P x l st h c s → P k l (.ref a :: st) h c s
  | 23 => ∀ k off x y l st h c s, aGet cd k = some (.ifnonnull off, x, y) → P (k + 1) l st h c s → P k l (.null :: st) h c s
  | 24 => ∀ k d lo hi offs x y a t l st h c s, aGet cd k = some (.tableswitch d lo hi offs, x, y) → (Int32.toInt a < lo ∨ hi < Int32.toInt a) → (aPc cd k : Int) + d = (aPc cd t : Int) → P t l st h c s → P k l (.int a :: st) h c s
  | 25 => ∀ k d lo hi offs x y a o t l st h c s, aGet cd k = some (.tableswitch d lo hi offs, x, y) → ¬ Int32.toInt a < lo → ¬ hi < Int32.toInt a → (offs : Array Int)[(Int32.toInt a - lo).toNat]? = some o → (aPc cd k : Int) + o = (aPc cd t : Int) → P t l st h c s → P k l (.int a :: st) h c s
  | 26 => ∀ k j ci f a fs v l st h c s, aGet cd k = some (.getfield j, ci, f) → 16 ≤ a → a < h.2 → (h : aH).1 a = .inr (ci, fs) → fs[f]? = some v → P (k + 1) l (v :: st) h c s → P k l (.ref a :: st) h c s
  | 27 => ∀ k j ci f a fs v l st h c s, aGet cd k = some (.putfield j, ci, f) → 16 ≤ a → a < h.2 → (h : aH).1 a = .inr (ci, fs) → f < fs.length → aFit ci f v → P (k + 1) l st (aUp h a (.inr (ci, fs.set f v))) c s → P k l (v :: .ref a :: st) h c s
  | 28 => ∀ k x y a t u l st h c s, aGet cd k = some (.arraylength, x, y) → a < h.2 → (h : aH).1 a = .inl (t, u) → t < 7 → P (k + 1) l (.int (Int32.ofNat u.1) :: st) h c s → P k l (.ref a :: st) h c s
  | 29 => ∀ k x y a n f i l st h c s, aGet cd k = some (.iaload, x, y) → a < h.2 → (h : aH).1 a = .inl (0, n, .inl f) → vp_in i n → P (k + 1) l (.int (f i.toNatClampNeg) :: st) h c s → P k l (.int i :: .ref a :: st) h c s
  | 30 => ∀ k x y a t n f i l st h c s, aGet cd k = some (.baload, x, y) → a < h.2 → (t = 1 ∨ t = 2) → (h : aH).1 a = .inl (t, n, .inl f) → vp_in i n → P (k + 1) l (.int (f i.toNatClampNeg) :: st) h c s → P k l (.int i :: .ref a :: st) h c s
  | 31 => ∀ k x y a n f i l st h c s, aGet cd k = some (.laload, x, y) → 16 ≤ a → a < h.2 → (h : aH).1 a = .inl (3, n, .inr (.inl f)) → vp_in i n → P (k + 1) l (.long (f i.toNatClampNeg) :: st) h c s → P k l (.int i :: .ref a :: st) h c s
  | 32 => ∀ k x y a t n f i l st h c s, aGet cd k = some (.aaload, x, y) → 16 ≤ a → a < h.2 → 4 ≤ t → t < 7 → (h : aH).1 a = .inl (t, n, .inr (.inr (.inr (.inr f)))) → vp_in i n → P (k + 1) l (aRef (f i.toNatClampNeg) :: st) h c s → P k l (.int i :: .ref a :: st) h c s
  | 33 => ∀ k x y a n f i v l st h c s, aGet cd k = some (.iastore, x, y) → 16 ≤ a → a < h.2 → (h : aH).1 a = .inl (0, n, .inl f) → vp_in i n → P (k + 1) l st (aUp h a (.inl (0, n, .inl (upd f i.toNatClampNeg v)))) c s → P k l (.int v :: .int i :: .ref a :: st) h c s
  | 34 => ∀ k x y a n f i v l st h c s, aGet cd k = some (.bastore, x, y) → 16 ≤ a → a < h.2 → (h : aH).1 a = .inl (1, n, .inl f) → vp_in i n → P (k + 1) l st (aUp h a (.inl (1, n, .inl (upd f i.toNatClampNeg (vp_nar .boolean v))))) c s → P k l (.int v :: .int i :: .ref a :: st) h c s
  | 35 => ∀ k x y a n f i v l st h c s, aGet cd k = some (.bastore, x, y) → 16 ≤ a → a < h.2 → (h : aH).1 a = .inl (2, n, .inl f) → vp_in i n → P (k + 1) l st (aUp h a (.inl (2, n, .inl (upd f i.toNatClampNeg (vp_nar .byte v))))) c s → P k l (.int v :: .int i :: .ref a :: st) h c s
  | 36 => ∀ k x y a n f i v l st h c s, aGet cd k = some (.lastore, x, y) → 16 ≤ a → a < h.2 → (h : aH).1 a = .inl (3, n, .inr (.inl f)) → vp_in i n → P (k + 1) l st (aUp h a (.inl (3, n, .inr (.inl (vp_updL f i.toNatClampNeg v))))) c s → P k l (.long v :: .int i :: .ref a :: st) h c s
  | 37 => ∀ k x y a t n f i b ci fs q l st h c s, aGet cd k = some (.aastore, x, y) → 16 ≤ a → a < h.2 → 4 ≤ t → t < 7 → (h : aH).1 a = .inl (t, n, .inr (.inr (.inr (.inr f)))) → vp_in i n → 16 ≤ b → b < h.2 → (h : aH).1 b = .inr (ci, fs) → aCls[ci]? = some q → aTy t = .object q.1 → P (k + 1) l st (aUp h a (.inl (t, n, .inr (.inr (.inr (.inr (va_up f i.toNatClampNeg (some b)))))))) c s → P k l (.ref b :: .int i :: .ref a :: st) h c s
  | 38 => ∀ k at' t y n l st h c s, aGet cd k = some (.newarray at', t, y) → t < 4 → ¬ n < 0 → n.toNatClampNeg ≤ 100000 → c + 1 ≤ C → s + n.toNatClampNeg ≤ S → P (k + 1) l (.ref h.2 :: st) (aNew h (aArr0 t n.toNatClampNeg)) (c + 1) (s + n.toNatClampNeg) → P k l (.int n :: st) h c s
  | 39 => ∀ k j t y n l st h c s, aGet cd k = some (.anewarray j, t, y) → 4 ≤ t → t < 7 → ¬ n < 0 → n.toNatClampNeg ≤ 100000 → c + 1 ≤ C → s + n.toNatClampNeg ≤ S → P (k + 1) l (.ref h.2 :: st) (aNew h (aArr0 t n.toNatClampNeg)) (c + 1) (s + n.toNatClampNeg) → P k l (.int n :: st) h c s
  | 40 => ∀ k j ci y l st h c s, aGet cd k = some (.new j, ci, y) → c + 1 ≤ C → s + aN ci ≤ S → P (k + 1) l (.ref h.2 :: st) (aNew h (.inr (ci, aDef ci))) (c + 1) (s + aN ci) → P k l st h c s
  | 41 => ∀ k j a y l st h c s, aGet cd k = some (.getstatic j, a, y) → P (k + 1) l ((if y = 0 then .ref a else .int (Int32.ofNat a)) :: st) h c s → P k l st h c s
  | 42 => ∀ k i x y l st h c s, aGet cd k = some (i, x, y) → (∃ j, i = .ldc j ∨ i = .ldc_w j) → P (k + 1) l ((if y = 0 then .int (Int32.ofNat x) else .ref x) :: st) h c s → P k l st h c s
  | 43 => ∀ k j x y l st h c s, aGet cd k = some (.ldc2_w j, x, y) → P (k + 1) l (.long (Int64.ofNat x) :: st) h c s → P k l st h c s
  | 44 => ∀ k i x n as st mc ms l h c s, aGet cd k = some (i, x, n) → (∃ j, i = .invokestatic j) → as.length = n → aCat st ≤ 8 → c + mc ≤ C → s + ms ≤ S → cl x as h mc ms (fun r h' => P (k + 1) l (r.toList ++ st) h' (c + mc) (s + ms)) → P k l (as.reverse ++ st) h c s
  | 45 => ∀ k i x n a as st mc ms ci fs l h c s, aGet cd k = some (i, x, n + 16 * ci) → (∃ j, i = .invokevirtual j) → n < 16 → as.length = n → 16 ≤ a → a < h.2 → (h : aH).1 a = .inr (ci, fs) → aCat st ≤ 8 → c + mc ≤ C → s + ms ≤ S → cl x (.ref a :: as) h mc ms (fun r h' => P (k + 1) l (r.toList ++ st) h' (c + mc) (s + ms)) → P k l (as.reverse ++ .ref a :: st) h c s
  | 46 => ∀ k i x n a as st mc ms l h c s, aGet cd k = some (i, x, n) → (∃ j, i = .invokespecial j) → x < 1000 → as.length = n → aCat st ≤ 8 → c + mc ≤ C → s + ms ≤ S → cl x (.ref a :: as) h mc ms (fun r h' => P (k + 1) l (r.toList ++ st) h' (c + mc) (s + ms)) → P k l (as.reverse ++ .ref a :: st) h c s
  | 47 => ∀ k j n a st l h c s, aGet cd k = some (.invokespecial j, 1000, n) → aCat st ≤ 8 → P (k + 1) l st h c s → P k l (.ref a :: st) h c s
  | 48 => ∀ k x y l h c s, aGet cd k = some (.return_, x, y) → rt = none → c ≤ C → s ≤ S → Q none h → P k l [] h c s
  | 49 => ∀ k i x y v l h c s, aGet cd k = some (i, x, y) → kRet i v → aRT rt (some v) → c ≤ C → s ≤ S → Q (some v) h → P k l [v] h c s
  | _ => True
def aB (cl : aC) (cd : List aE) (C S : Nat) (rt : Option FieldType) (ini : Bool) (Q : aQ) : aP := fun k l st h c s => ∀ P : aP, (∀ n, aRul cl cd C S rt ini Q P n) → P k l st h c s
/-- the arguments in the locals -/
def aArg (vs : List Value) : aL := vs.flatMap fun v => if v.category = 2 then [some v, none] else [some v]
def aEnt (n : Nat) (vs : List Value) : aL := aArg vs ++ List.replicate (n - (aArg vs).length) none
def aRun (pg : Nat → Option aM) (pr : aC) : Nat → aC
  | 0 => fun _ _ _ _ _ _ => False
  | d + 1 => fun j as h mc ms Q => pr j as h mc ms Q ∨ ∃ mi : aM, pg j = some mi ∧ (aArg as).length ≤ mi.2.2.2.1 ∧ aB (aRun pg pr d) mi.2.2.2.2.2.2 mc ms mi.2.2.2.2.1 (mi.2.1.name == "<init>") Q 0 (aEnt mi.2.2.2.1 as) [] h 0 0
end
section
/-! ===== what a program checks of each instruction of the AM's code against the machine's bytes and tables ===== -/
def lw_good : List Cond := lw_tbl.filter goodWord
theorem lw_good_in {w : Cond} (h : w ∈ lw_tbl) (g : goodWord w = true) : w ∈ lw_good := List.mem_filter.mpr ⟨h, g⟩
theorem lw_good_all : ∀ w ∈ lw_good, w ∈ lw_good ∧ ((w.onTables && w.keeps) = true ∨ ∃ ty, w = .arrayClass ty) := by
  intro w hw
  exact ⟨hw, good_of_word (List.mem_filter.mp hw).2⟩
def wIs (w : Nat) (c : Cond) : Bool := decide (lw_tbl[w]? = some c) && goodWord c
theorem wIs_in {w : Nat} {c : Cond} (h : wIs w c = true) : c ∈ lw_good := by
  simp only [wIs, Bool.and_eq_true, decide_eq_true_eq] at h
  exact lw_good_in (List.mem_of_getElem? h.1) h.2
def kLen : Instr → Nat
  | .iload _ => 2 | .lload _ => 2 | .aload _ => 2 | .istore _ => 2 | .lstore _ => 2 | .astore _ => 2 | .bipush _ => 2 | .sipush _ => 3
  | .ldc _ => 2 | .ldc_w _ => 3 | .ldc2_w _ => 3 | .iinc _ _ => 3 | .ifCond _ _ => 3 | .if_icmp _ _ => 3 | .goto _ => 3 | .ifnull _ => 3 | .ifnonnull _ => 3
  | .getfield _ => 3 | .putfield _ => 3 | .getstatic _ => 3 | .invokestatic _ => 3 | .invokevirtual _ => 3 | .invokespecial _ => 3 | .new _ => 3 | .newarray _ => 2 | .anewarray _ => 3
  | _ => 1
def eSw : Instr → Bool
  | .tableswitch .. => true
  | _ => false
def eFall : Instr → Bool
  | .goto _ => false
  | .tableswitch .. => false
  | .return_ => false
  | .ireturn => false
  | .lreturn => false
  | .areturn => false
  | _ => true
abbrev aM.own (mi : aM) : String := mi.1
abbrev aM.y (mi : aM) : MethodName := mi.2.1
abbrev aM.bs (mi : aM) : ByteArray := mi.2.2.1
abbrev aM.nL (mi : aM) : Nat := mi.2.2.2.1
abbrev aM.rt (mi : aM) : Option FieldType := mi.2.2.2.2.1
abbrev aM.sta (mi : aM) : Bool := mi.2.2.2.2.2.1
abbrev aM.cd (mi : aM) : List aE := mi.2.2.2.2.2.2
def aM.ini (mi : aM) : Bool := mi.2.1.name == "<init>"
def aNp (y : MethodName) : Option Nat := (parseMethodDescriptor y.desc).map (fun d => d.parameters.length)
def aNw : List Cond := [.methodLinkNest RX8 33 ⟨RX3, "<init>", "()V"⟩ RX8, .methodLinkNest RX8 104 ⟨RX7, "<init>", "()V"⟩ RX8, .methodLinkNest RX7 11 ⟨RX0, "<init>", "()V"⟩ RX8, .methodLinkNest RX7 20 ⟨RX4, "<init>", "()V"⟩ RX8]
/-- what a callee must be -/
def cChk (mj : aM) (n : Nat) : Bool := decide (aNp mj.y = some n) && decide (mj.y.cls ≠ "java/lang/invoke/MethodHandle") && decide (mj.y.cls ≠ "java/lang/invoke/VarHandle") && decide (mj.nL ≤ 30) && decide (mj.own = mj.y.cls) && plainName mj.y.cls
def lChk (pg : Nat → Option aM) (mi : aM) (pc : Nat) (i : Instr) (x y w : Nat) : Bool := match i with
  | .getfield j => match aFT x y with
    | some q => wIs w (.fieldLink mi.own j q.1 q.2.1 q.2.2.1)
    | none => false
  | .putfield j => match aFT x y with
    | some q => wIs w (.fieldLink mi.own j q.1 q.2.1 q.2.2.1) && (!q.2.2.2 || (mi.ini && decide (q.1 = mi.own)))
    | none => false
  | .ifCond _ off => decide ((pc : Int) + off = (aPc mi.cd x : Int))
  | .if_icmp _ off => decide ((pc : Int) + off = (aPc mi.cd x : Int))
  | .goto off => decide ((pc : Int) + off = (aPc mi.cd x : Int))
  | .ifnull off => decide ((pc : Int) + off = (aPc mi.cd x : Int))
  | .ifnonnull off => decide ((pc : Int) + off = (aPc mi.cd x : Int))
  | .ldc j => decide (y = 0) && wIs w (.constant mi.own j (Int32.ofNat x))
  | .ldc_w j => decide (y = 0) && wIs w (.constant mi.own j (Int32.ofNat x))
  | .ldc2_w j => wIs w (.constantLong mi.own j (Int64.ofNat x))
  | .new j => match aCls[x]? with
    | some q => wIs w (.classLink mi.own j q.1)
    | none => false
  | .newarray at' => decide (newarray.typeOf at' = aTy x) && decide (x < 4)
  | .anewarray j => match aTy x with
    | .object C => wIs w (.classLink mi.own j C) && decide (4 ≤ x) && decide (x < 7)
    | _ => false
  | .getstatic _ => false
  | .invokestatic j => match pg x with
    | some mj => wIs w (.methodLink mi.own j mj.y) && cChk mj y && mj.sta && !mj.ini
    | none => false
  | .invokevirtual j => match pg x with
    | some mj => wIs w (.methodLink mi.own j mj.y) && cChk mj (y % 16) && !mj.sta && !mj.ini && decide ((aCls[y / 16]?).map (fun q => q.1) = some mj.y.cls)
    | none => false
  | .invokespecial j => if x = 1000 then wIs w (.methodLink mi.own j objectInit) else match pg x with
    | some mj => (if w < 10000 then wIs w (.methodLink mi.own j mj.y) else decide (.methodLinkNest mi.own j mj.y RX8 ∈ aNw)) && cChk mj y && mj.ini && decide (mj.rt = none) && !mj.sta
    | none => false
  | _ => true
def eChk (pg : Nat → Option aM) (mi : aM) (k : Nat) (e : aE) : Bool := match e with
  | (pc, i, len, x, y, w) => decide (decode mi.bs pc = .ok (i, len)) && (!(eFall i) || decide (aPc mi.cd (k + 1) = pc + len)) && (eSw i || decide (len = kLen i)) && lChk pg mi pc i x y w
/-- a method: its code word, what its kind asks for; every instruction -/
def mChk (pg : Nat → Option aM) (mi : aM) (w1 w2 w3 w4 : Nat) : Bool :=
  wIs w1 (.code mi.y mi.bs mi.nL mi.rt) && (if mi.sta then wIs w2 (.static mi.y) else wIs w2 (.instanceMethod mi.y)) && (mi.sta || mi.ini || wIs w3 (.selects mi.y.cls mi.y mi.y)) && wIs w4 (.initialized mi.y.cls) && decide (aPc mi.cd 0 = 0) && plainName mi.y.cls && decide (mi.own = mi.y.cls) && (mi.cd.zipIdx.all fun q => eChk pg mi q.2 q.1)
end
section
/-! ===== the program, by program ===== -/
def cd_0 : List aE := [(0, .aload_n 0, 1, 0, 0, 0), (1, .invokespecial 3, 3, 1000, 0, 312), (4, .aload_n 0, 1, 0, 0, 0), (5, .sipush 319, 3, 0, 0, 0), (8, .newarray .int, 2, 0, 0, 0), (10, .putfield 11, 3, 1, 0, 313), (13, .return_, 1, 0, 0, 0)]
def cd_1 : List aE := [(0, .aload_n 0, 1, 0, 0, 0), (1, .iload_n 1, 1, 0, 0, 0), (2, .putfield 15, 3, 1, 2, 315), (5, .aload_n 0, 1, 0, 0, 0), (6, .iconst 0, 1, 0, 0, 0), (7, .putfield 19, 3, 1, 1, 314), (10, .return_, 1, 0, 0, 0)]
def cd_2 : List aE := [(0, .aload_n 0, 1, 0, 0, 0), (1, .getfield 19, 3, 1, 1, 314), (4, .ireturn, 1, 0, 0, 0)]
def cd_3 : List aE := [(0, .iload_n 1, 1, 0, 0, 0), (1, .ifCond .lt 29, 3, 16, 0, 0), (4, .iload_n 1, 1, 0, 0, 0), (5, .aload_n 0, 1, 0, 0, 0), (6, .getfield 19, 3, 1, 1, 314), (9, .if_icmp .ge 21, 3, 16, 0, 0), (12, .iload_n 1, 1, 0, 0, 0), (13, .aload_n 0, 1, 0, 0, 0), (14, .getfield 11, 3, 1, 0, 313), (17, .arraylength, 1, 0, 0, 0), (18, .if_icmp .ge 12, 3, 16, 0, 0), (21, .aload_n 0, 1, 0, 0, 0), (22, .getfield 11, 3, 1, 0, 313), (25, .iload_n 1, 1, 0, 0, 0), (26, .iaload, 1, 0, 0, 0), (27, .goto 4, 3, 17, 0, 0), (30, .iconst (-1), 1, 0, 0, 0), (31, .ireturn, 1, 0, 0, 0)]
def cd_4 : List aE := [(0, .aload_n 0, 1, 0, 0, 0), (1, .getfield 15, 3, 1, 2, 315), (4, .aload_n 0, 1, 0, 0, 0), (5, .getfield 19, 3, 1, 1, 314), (8, .iadd, 1, 0, 0, 0), (9, .iconst 4, 1, 0, 0, 0), (10, .irem, 1, 0, 0, 0), (11, .ireturn, 1, 0, 0, 0)]
def cd_5 : List aE := [(0, .iload_n 1, 1, 0, 0, 0), (1, .ifCond .lt 21, 3, 11, 0, 0), (4, .iload_n 1, 1, 0, 0, 0), (5, .bipush 37, 2, 0, 0, 0), (7, .if_icmp .gt 15, 3, 11, 0, 0), (10, .aload_n 0, 1, 0, 0, 0), (11, .getfield 19, 3, 1, 1, 314), (14, .aload_n 0, 1, 0, 0, 0), (15, .getfield 11, 3, 1, 0, 313), (18, .arraylength, 1, 0, 0, 0), (19, .if_icmp .lt 5, 3, 13, 0, 0), (22, .iconst 0, 1, 0, 0, 0), (23, .ireturn, 1, 0, 0, 0), (24, .iload_n 1, 1, 0, 0, 0), (25, .ifCond .ne 5, 3, 17, 0, 0), (28, .iconst 1, 1, 0, 0, 0), (29, .ireturn, 1, 0, 0, 0), (30, .iload_n 1, 1, 0, 0, 0), (31, .iconst 3, 1, 0, 0, 0), (32, .if_icmp .lt 17, 3, 28, 0, 0), (35, .iload_n 1, 1, 0, 0, 0), (36, .aload_n 0, 1, 0, 0, 0), (37, .invokevirtual 22, 3, 10, 16, 401), (40, .if_icmp .le 7, 3, 26, 0, 0), (43, .iconst 1, 1, 0, 0, 0), (44, .goto 4, 3, 27, 0, 0), (47, .iconst 0, 1, 0, 0, 0), (48, .ireturn, 1, 0, 0, 0), (49, .aload_n 0, 1, 0, 0, 0), (50, .iconst 1, 1, 0, 0, 0), (51, .invokevirtual 26, 3, 9, 17, 393), (54, .istore_n 2, 1, 0, 0, 0), (55, .aload_n 0, 1, 0, 0, 0), (56, .getfield 19, 3, 1, 1, 314), (59, .iload_n 2, 1, 0, 0, 0), (60, .isub, 1, 0, 0, 0), (61, .iconst 2, 1, 0, 0, 0), (62, .irem, 1, 0, 0, 0), (63, .iconst 1, 1, 0, 0, 0), (64, .if_icmp .ne 7, 3, 42, 0, 0), (67, .iconst 1, 1, 0, 0, 0), (68, .goto 4, 3, 43, 0, 0), (71, .iconst 0, 1, 0, 0, 0), (72, .istore_n 3, 1, 0, 0, 0), (73, .aload_n 0, 1, 0, 0, 0), (74, .iload_n 2, 1, 0, 0, 0), (75, .invokevirtual 30, 3, 3, 17, 405), (78, .istore 4, 2, 0, 0, 0), (80, .iload_n 3, 1, 0, 0, 0), (81, .ifCond .eq 27, 3, 62, 0, 0), (84, .iload_n 1, 1, 0, 0, 0), (85, .iconst 1, 1, 0, 0, 0), (86, .if_icmp .ne 12, 3, 57, 0, 0), (89, .iload 4, 2, 0, 0, 0), (91, .iconst 3, 1, 0, 0, 0), (92, .if_icmp .lt 16, 3, 62, 0, 0), (95, .goto 9, 3, 60, 0, 0), (98, .iload 4, 2, 0, 0, 0), (100, .iconst 1, 1, 0, 0, 0), (101, .if_icmp .ne 7, 3, 62, 0, 0), (104, .iconst 1, 1, 0, 0, 0), (105, .goto 4, 3, 63, 0, 0), (108, .iconst 0, 1, 0, 0, 0), (109, .ireturn, 1, 0, 0, 0)]
def cd_6 : List aE := [(0, .aload_n 0, 1, 0, 0, 0), (1, .getfield 19, 3, 1, 1, 314), (4, .aload_n 0, 1, 0, 0, 0), (5, .getfield 11, 3, 1, 0, 313), (8, .arraylength, 1, 0, 0, 0), (9, .if_icmp .ge 23, 3, 18, 0, 0), (12, .aload_n 0, 1, 0, 0, 0), (13, .getfield 11, 3, 1, 0, 313), (16, .aload_n 0, 1, 0, 0, 0), (17, .getfield 19, 3, 1, 1, 314), (20, .iload_n 1, 1, 0, 0, 0), (21, .iastore, 1, 0, 0, 0), (22, .aload_n 0, 1, 0, 0, 0), (23, .dup, 1, 0, 0, 0), (24, .getfield 19, 3, 1, 1, 314), (27, .iconst 1, 1, 0, 0, 0), (28, .iadd, 1, 0, 0, 0), (29, .putfield 19, 3, 1, 1, 314), (32, .return_, 1, 0, 0, 0)]
def cd_7 : List aE := [(0, .aload_n 0, 1, 0, 0, 0), (1, .getfield 19, 3, 1, 1, 314), (4, .ifCond .ne 5, 3, 5, 0, 0), (7, .iconst 0, 1, 0, 0, 0), (8, .ireturn, 1, 0, 0, 0), (9, .aload_n 0, 1, 0, 0, 0), (10, .dup, 1, 0, 0, 0), (11, .getfield 19, 3, 1, 1, 314), (14, .iconst 1, 1, 0, 0, 0), (15, .isub, 1, 0, 0, 0), (16, .putfield 19, 3, 1, 1, 314), (19, .iconst 1, 1, 0, 0, 0), (20, .ireturn, 1, 0, 0, 0)]
def cd_8 : List aE := [(0, .aload_n 0, 1, 0, 0, 0), (1, .getfield 19, 3, 1, 1, 314), (4, .iconst 4, 1, 0, 0, 0), (5, .if_icmp .lt 21, 3, 14, 0, 0), (8, .aload_n 0, 1, 0, 0, 0), (9, .iconst 1, 1, 0, 0, 0), (10, .invokevirtual 26, 3, 9, 17, 393), (13, .aload_n 0, 1, 0, 0, 0), (14, .getfield 19, 3, 1, 1, 314), (17, .iconst 3, 1, 0, 0, 0), (18, .isub, 1, 0, 0, 0), (19, .if_icmp .ge 7, 3, 14, 0, 0), (22, .iconst 1, 1, 0, 0, 0), (23, .goto 4, 3, 15, 0, 0), (26, .iconst 0, 1, 0, 0, 0), (27, .ireturn, 1, 0, 0, 0)]
def cd_9 : List aE := [(0, .aload_n 0, 1, 0, 0, 0), (1, .getfield 19, 3, 1, 1, 314), (4, .aload_n 0, 1, 0, 0, 0), (5, .getfield 11, 3, 1, 0, 313), (8, .arraylength, 1, 0, 0, 0), (9, .if_icmp .gt 12, 3, 11, 0, 0), (12, .aload_n 0, 1, 0, 0, 0), (13, .getfield 19, 3, 1, 1, 314), (16, .iconst 1, 1, 0, 0, 0), (17, .isub, 1, 0, 0, 0), (18, .goto 4, 3, 12, 0, 0), (21, .iconst (-1), 1, 0, 0, 0), (22, .istore_n 2, 1, 0, 0, 0), (23, .iload_n 2, 1, 0, 0, 0), (24, .istore_n 3, 1, 0, 0, 0), (25, .iload_n 3, 1, 0, 0, 0), (26, .ifCond .lt 21, 3, 27, 0, 0), (29, .aload_n 0, 1, 0, 0, 0), (30, .getfield 11, 3, 1, 0, 313), (33, .iload_n 3, 1, 0, 0, 0), (34, .iaload, 1, 0, 0, 0), (35, .iload_n 1, 1, 0, 0, 0), (36, .if_icmp .lt 5, 3, 25, 0, 0), (39, .iload_n 3, 1, 0, 0, 0), (40, .ireturn, 1, 0, 0, 0), (41, .iinc 3 (-1), 3, 0, 0, 0), (44, .goto (-19), 3, 15, 0, 0), (47, .iconst (-1), 1, 0, 0, 0), (48, .ireturn, 1, 0, 0, 0)]
def cd_10 : List aE := [(0, .aload_n 0, 1, 0, 0, 0), (1, .aload_n 0, 1, 0, 0, 0), (2, .iconst 3, 1, 0, 0, 0), (3, .invokevirtual 26, 3, 9, 17, 393), (6, .invokevirtual 30, 3, 3, 17, 405), (9, .ireturn, 1, 0, 0, 0)]
def cd_11 : List aE := [(0, .aload_n 0, 1, 0, 0, 0), (1, .invokevirtual 22, 3, 10, 16, 401), (4, .istore_n 1, 1, 0, 0, 0), (5, .iload_n 1, 1, 0, 0, 0), (6, .iconst (-1), 1, 0, 0, 0), (7, .if_icmp .ne 7, 3, 8, 0, 0), (10, .iconst (-1), 1, 0, 0, 0), (11, .goto 10, 3, 15, 0, 0), (14, .iload_n 1, 1, 0, 0, 0), (15, .iconst 3, 1, 0, 0, 0), (16, .isub, 1, 0, 0, 0), (17, .iconst 5, 1, 0, 0, 0), (18, .idiv, 1, 0, 0, 0), (19, .iconst 1, 1, 0, 0, 0), (20, .iadd, 1, 0, 0, 0), (21, .ireturn, 1, 0, 0, 0)]
def cd_12 : List aE := [(0, .aload_n 0, 1, 0, 0, 0), (1, .invokevirtual 22, 3, 10, 16, 401), (4, .istore_n 1, 1, 0, 0, 0), (5, .iload_n 1, 1, 0, 0, 0), (6, .iconst (-1), 1, 0, 0, 0), (7, .if_icmp .ne 7, 3, 8, 0, 0), (10, .iconst (-1), 1, 0, 0, 0), (11, .goto 8, 3, 13, 0, 0), (14, .iload_n 1, 1, 0, 0, 0), (15, .iconst 3, 1, 0, 0, 0), (16, .isub, 1, 0, 0, 0), (17, .iconst 5, 1, 0, 0, 0), (18, .irem, 1, 0, 0, 0), (19, .ireturn, 1, 0, 0, 0)]
def cd_13 : List aE := [(0, .aload_n 0, 1, 0, 0, 0), (1, .aload_n 0, 1, 0, 0, 0), (2, .iconst 1, 1, 0, 0, 0), (3, .invokevirtual 26, 3, 9, 17, 393), (6, .invokevirtual 30, 3, 3, 17, 405), (9, .istore_n 1, 1, 0, 0, 0), (10, .iload_n 1, 1, 0, 0, 0), (11, .iconst 3, 1, 0, 0, 0), (12, .if_icmp .lt 7, 3, 11, 0, 0), (15, .iconst 0, 1, 0, 0, 0), (16, .goto 4, 3, 12, 0, 0), (19, .iload_n 1, 1, 0, 0, 0), (20, .ireturn, 1, 0, 0, 0)]
def cd_14 : List aE := [(0, .aload_n 0, 1, 0, 0, 0), (1, .iconst 3, 1, 0, 0, 0), (2, .invokevirtual 26, 3, 9, 17, 393), (5, .istore_n 1, 1, 0, 0, 0), (6, .iload_n 1, 1, 0, 0, 0), (7, .iconst (-1), 1, 0, 0, 0), (8, .if_icmp .ne 5, 3, 9, 0, 0), (11, .iconst (-1), 1, 0, 0, 0), (12, .ireturn, 1, 0, 0, 0), (13, .aload_n 0, 1, 0, 0, 0), (14, .invokevirtual 33, 3, 12, 16, 421), (17, .istore_n 2, 1, 0, 0, 0), (18, .iload_n 1, 1, 0, 0, 0), (19, .iconst 2, 1, 0, 0, 0), (20, .irem, 1, 0, 0, 0), (21, .istore_n 3, 1, 0, 0, 0), (22, .iload_n 3, 1, 0, 0, 0), (23, .iload_n 1, 1, 0, 0, 0), (24, .if_icmp .gt 40, 3, 41, 0, 0), (27, .aload_n 0, 1, 0, 0, 0), (28, .iload_n 3, 1, 0, 0, 0), (29, .invokevirtual 30, 3, 3, 17, 405), (32, .iconst 3, 1, 0, 0, 0), (33, .isub, 1, 0, 0, 0), (34, .istore 4, 2, 0, 0, 0), (36, .iload 4, 2, 0, 0, 0), (38, .ifCond .lt 20, 3, 39, 0, 0), (41, .iload 4, 2, 0, 0, 0), (43, .iconst 5, 1, 0, 0, 0), (44, .irem, 1, 0, 0, 0), (45, .iload_n 2, 1, 0, 0, 0), (46, .if_icmp .ne 12, 3, 39, 0, 0), (49, .aload_n 0, 1, 0, 0, 0), (50, .getfield 15, 3, 1, 2, 315), (53, .iload_n 3, 1, 0, 0, 0), (54, .iadd, 1, 0, 0, 0), (55, .iconst 4, 1, 0, 0, 0), (56, .irem, 1, 0, 0, 0), (57, .ireturn, 1, 0, 0, 0), (58, .iinc 3 2, 3, 0, 0, 0), (61, .goto (-39), 3, 16, 0, 0), (64, .iconst (-1), 1, 0, 0, 0), (65, .ireturn, 1, 0, 0, 0)]
def cd_15 : List aE := [(0, .aload_n 0, 1, 0, 0, 0), (1, .invokespecial 3, 3, 1000, 0, 190), (4, .aload_n 0, 1, 0, 0, 0), (5, .iconst 4, 1, 0, 0, 0), (6, .newarray .long, 2, 3, 0, 0), (8, .putfield 9, 3, 2, 1, 192), (11, .aload_n 0, 1, 0, 0, 0), (12, .iload_n 1, 1, 0, 0, 0), (13, .putfield 15, 3, 2, 0, 191), (16, .return_, 1, 0, 0, 0)]
def cd_16 : List aE := [(0, .iload_n 1, 1, 0, 0, 0), (1, .ifCond .lt 12, 3, 7, 0, 0), (4, .iload_n 1, 1, 0, 0, 0), (5, .aload_n 0, 1, 0, 0, 0), (6, .getfield 9, 3, 2, 1, 192), (9, .arraylength, 1, 0, 0, 0), (10, .if_icmp .lt 4, 3, 8, 0, 0), (13, .return_, 1, 0, 0, 0), (14, .iconst 0, 1, 0, 0, 0), (15, .istore_n 3, 1, 0, 0, 0), (16, .iload_n 3, 1, 0, 0, 0), (17, .aload_n 0, 1, 0, 0, 0), (18, .getfield 9, 3, 2, 1, 192), (21, .arraylength, 1, 0, 0, 0), (22, .if_icmp .ge 26, 3, 28, 0, 0), (25, .aload_n 0, 1, 0, 0, 0), (26, .getfield 9, 3, 2, 1, 192), (29, .iload_n 3, 1, 0, 0, 0), (30, .dup2, 1, 0, 0, 0), (31, .laload, 1, 0, 0, 0), (32, .iload_n 2, 1, 0, 0, 0), (33, .invokestatic 19, 3, 29, 1, 208), (36, .ldc2_w 25, 3, 18446744073709551615, 0, 211), (39, .lxor, 1, 0, 0, 0), (40, .land, 1, 0, 0, 0), (41, .lastore, 1, 0, 0, 0), (42, .iinc 3 1, 3, 0, 0, 0), (45, .goto (-29), 3, 10, 0, 0), (48, .aload_n 0, 1, 0, 0, 0), (49, .getfield 9, 3, 2, 1, 192), (52, .iload_n 1, 1, 0, 0, 0), (53, .dup2, 1, 0, 0, 0), (54, .laload, 1, 0, 0, 0), (55, .iload_n 2, 1, 0, 0, 0), (56, .invokestatic 19, 3, 29, 1, 208), (59, .lor, 1, 0, 0, 0), (60, .lastore, 1, 0, 0, 0), (61, .return_, 1, 0, 0, 0)]
def cd_17 : List aE := [(0, .iload_n 1, 1, 0, 0, 0), (1, .ifCond .lt 21, 3, 12, 0, 0), (4, .iload_n 1, 1, 0, 0, 0), (5, .aload_n 0, 1, 0, 0, 0), (6, .getfield 9, 3, 2, 1, 192), (9, .arraylength, 1, 0, 0, 0), (10, .if_icmp .ge 12, 3, 12, 0, 0), (13, .aload_n 0, 1, 0, 0, 0), (14, .getfield 9, 3, 2, 1, 192), (17, .iload_n 1, 1, 0, 0, 0), (18, .laload, 1, 0, 0, 0), (19, .goto 4, 3, 13, 0, 0), (22, .lconst 0, 1, 0, 0, 0), (23, .lreturn, 1, 0, 0, 0)]
def cd_18 : List aE := [(0, .iconst 0, 1, 0, 0, 0), (1, .istore_n 2, 1, 0, 0, 0), (2, .iload_n 2, 1, 0, 0, 0), (3, .aload_n 0, 1, 0, 0, 0), (4, .getfield 9, 3, 2, 1, 192), (7, .arraylength, 1, 0, 0, 0), (8, .if_icmp .ge 24, 3, 18, 0, 0), (11, .aload_n 0, 1, 0, 0, 0), (12, .getfield 9, 3, 2, 1, 192), (15, .iload_n 2, 1, 0, 0, 0), (16, .laload, 1, 0, 0, 0), (17, .iload_n 1, 1, 0, 0, 0), (18, .invokestatic 27, 3, 30, 2, 231), (21, .ifCond .eq 5, 3, 16, 0, 0), (24, .iload_n 2, 1, 0, 0, 0), (25, .ireturn, 1, 0, 0, 0), (26, .iinc 2 1, 3, 0, 0, 0), (29, .goto (-27), 3, 2, 0, 0), (32, .iconst (-1), 1, 0, 0, 0), (33, .ireturn, 1, 0, 0, 0)]
def cd_19 : List aE := [(0, .aload_n 0, 1, 0, 0, 0), (1, .getfield 15, 3, 2, 0, 191), (4, .ireturn, 1, 0, 0, 0)]
def cd_20 : List aE := [(0, .aload_n 0, 1, 0, 0, 0), (1, .getfield 15, 3, 2, 0, 191), (4, .iconst 1, 1, 0, 0, 0), (5, .isub, 1, 0, 0, 0), (6, .iconst 4, 1, 0, 0, 0), (7, .irem, 1, 0, 0, 0), (8, .ireturn, 1, 0, 0, 0)]
def cd_21 : List aE := [(0, .aload_n 0, 1, 0, 0, 0), (1, .getfield 15, 3, 2, 0, 191), (4, .iconst 1, 1, 0, 0, 0), (5, .isub, 1, 0, 0, 0), (6, .bipush 16, 2, 0, 0, 0), (8, .irem, 1, 0, 0, 0), (9, .istore_n 1, 1, 0, 0, 0), (10, .iload_n 1, 1, 0, 0, 0), (11, .iload_n 1, 1, 0, 0, 0), (12, .iconst 4, 1, 0, 0, 0), (13, .idiv, 1, 0, 0, 0), (14, .iadd, 1, 0, 0, 0), (15, .iconst 4, 1, 0, 0, 0), (16, .irem, 1, 0, 0, 0), (17, .ireturn, 1, 0, 0, 0)]
def cd_22 : List aE := [(0, .aload_n 0, 1, 0, 0, 0), (1, .invokevirtual 31, 3, 21, 32, 520), (4, .iload_n 1, 1, 0, 0, 0), (5, .ifCond .ne 7, 3, 6, 0, 0), (8, .iconst 1, 1, 0, 0, 0), (9, .goto 4, 3, 7, 0, 0), (12, .iconst 2, 1, 0, 0, 0), (13, .iand, 1, 0, 0, 0), (14, .ifCond .eq 7, 3, 11, 0, 0), (17, .iconst 1, 1, 0, 0, 0), (18, .goto 4, 3, 12, 0, 0), (21, .iconst 0, 1, 0, 0, 0), (22, .ireturn, 1, 0, 0, 0)]
def cd_23 : List aE := [(0, .aload_n 0, 1, 0, 0, 0), (1, .iconst 1, 1, 0, 0, 0), (2, .putfield 35, 3, 2, 2, 193), (5, .return_, 1, 0, 0, 0)]
def cd_24 : List aE := [(0, .aload_n 0, 1, 0, 0, 0), (1, .getfield 35, 3, 2, 2, 193), (4, .ireturn, 1, 0, 0, 0)]
def cd_25 : List aE := [(0, .aload_n 0, 1, 0, 0, 0), (1, .dup, 1, 0, 0, 0), (2, .getfield 39, 3, 2, 3, 194), (5, .iconst 1, 1, 0, 0, 0), (6, .iadd, 1, 0, 0, 0), (7, .putfield 39, 3, 2, 3, 194), (10, .return_, 1, 0, 0, 0)]
def cd_26 : List aE := [(0, .aload_n 0, 1, 0, 0, 0), (1, .getfield 39, 3, 2, 3, 194), (4, .ireturn, 1, 0, 0, 0)]
def cd_27 : List aE := [(0, .iload_n 0, 1, 0, 0, 0), (1, .ifCond .lt 13, 3, 7, 0, 0), (4, .iload_n 0, 1, 0, 0, 0), (5, .bipush 52, 2, 0, 0, 0), (7, .if_icmp .ge 7, 3, 7, 0, 0), (10, .iconst 1, 1, 0, 0, 0), (11, .goto 4, 3, 8, 0, 0), (14, .iconst 0, 1, 0, 0, 0), (15, .ireturn, 1, 0, 0, 0)]
def cd_28 : List aE := [(0, .iload_n 0, 1, 0, 0, 0), (1, .bipush 13, 2, 0, 0, 0), (3, .idiv, 1, 0, 0, 0), (4, .ireturn, 1, 0, 0, 0)]
def cd_29 : List aE := [(0, .lconst 1, 1, 0, 0, 0), (1, .iload_n 0, 1, 0, 0, 0), (2, .lshl, 1, 0, 0, 0), (3, .lreturn, 1, 0, 0, 0)]
def cd_30 : List aE := [(0, .lload_n 0, 1, 0, 0, 0), (1, .iload_n 2, 1, 0, 0, 0), (2, .invokestatic 11, 3, 29, 1, 234), (5, .land, 1, 0, 0, 0), (6, .lconst 0, 1, 0, 0, 0), (7, .lcmp, 1, 0, 0, 0), (8, .ifCond .eq 7, 3, 9, 0, 0), (11, .iconst 1, 1, 0, 0, 0), (12, .goto 4, 3, 10, 0, 0), (15, .iconst 0, 1, 0, 0, 0), (16, .ireturn, 1, 0, 0, 0)]
def cd_31 : List aE := [(0, .lload_n 0, 1, 0, 0, 0), (1, .ldc2_w 15, 3, 8191, 0, 609), (4, .bipush 13, 2, 0, 0, 0), (6, .iload_n 2, 1, 0, 0, 0), (7, .imul, 1, 0, 0, 0), (8, .lshl, 1, 0, 0, 0), (9, .land, 1, 0, 0, 0), (10, .lreturn, 1, 0, 0, 0)]
def cd_32 : List aE := [(0, .iload_n 2, 1, 0, 0, 0), (1, .iconst (-1), 1, 0, 0, 0), (2, .if_icmp .ne 7, 3, 5, 0, 0), (5, .lconst 0, 1, 0, 0, 0), (6, .goto 8, 3, 8, 0, 0), (9, .lload_n 0, 1, 0, 0, 0), (10, .iload_n 2, 1, 0, 0, 0), (11, .invokestatic 17, 3, 31, 2, 606), (14, .lstore_n 3, 1, 0, 0, 0), (15, .lload_n 3, 1, 0, 0, 0), (16, .lconst 0, 1, 0, 0, 0), (17, .lcmp, 1, 0, 0, 0), (18, .ifCond .eq 7, 3, 15, 0, 0), (21, .lload_n 3, 1, 0, 0, 0), (22, .goto 4, 3, 16, 0, 0), (25, .lload_n 0, 1, 0, 0, 0), (26, .lreturn, 1, 0, 0, 0)]
def cd_33 : List aE := [(0, .iload_n 0, 1, 0, 0, 0), (1, .bipush 13, 2, 0, 0, 0), (3, .idiv, 1, 0, 0, 0), (4, .istore_n 3, 1, 0, 0, 0), (5, .iload_n 3, 1, 0, 0, 0), (6, .iload_n 1, 1, 0, 0, 0), (7, .bipush 13, 2, 0, 0, 0), (9, .idiv, 1, 0, 0, 0), (10, .if_icmp .ne 16, 3, 16, 0, 0), (13, .iload_n 0, 1, 0, 0, 0), (14, .iload_n 1, 1, 0, 0, 0), (15, .if_icmp .le 7, 3, 14, 0, 0), (18, .iconst 1, 1, 0, 0, 0), (19, .goto 17, 3, 22, 0, 0), (22, .iconst 0, 1, 0, 0, 0), (23, .goto 13, 3, 22, 0, 0), (26, .iload_n 3, 1, 0, 0, 0), (27, .iload_n 2, 1, 0, 0, 0), (28, .if_icmp .ne 7, 3, 21, 0, 0), (31, .iconst 1, 1, 0, 0, 0), (32, .goto 4, 3, 22, 0, 0), (35, .iconst 0, 1, 0, 0, 0), (36, .ireturn, 1, 0, 0, 0)]
def cd_34 : List aE := [(0, .aload_n 0, 1, 0, 0, 0), (1, .invokespecial 3, 3, 1000, 0, 92), (4, .aload_n 0, 1, 0, 0, 0), (5, .iconst 4, 1, 0, 0, 0), (6, .newarray .long, 2, 3, 0, 0), (8, .putfield 9, 3, 3, 0, 93), (11, .return_, 1, 0, 0, 0)]
def cd_35 : List aE := [(0, .aload_n 1, 1, 0, 0, 0), (1, .invokevirtual 15, 3, 102, 96, 658), (4, .astore_n 2, 1, 0, 0, 0), (5, .iconst 0, 1, 0, 0, 0), (6, .istore_n 3, 1, 0, 0, 0), (7, .iload_n 3, 1, 0, 0, 0), (8, .aload_n 0, 1, 0, 0, 0), (9, .getfield 9, 3, 3, 0, 93), (12, .arraylength, 1, 0, 0, 0), (13, .if_icmp .ge 20, 3, 19, 0, 0), (16, .aload_n 0, 1, 0, 0, 0), (17, .getfield 9, 3, 3, 0, 93), (20, .iload_n 3, 1, 0, 0, 0), (21, .aload_n 1, 1, 0, 0, 0), (22, .iload_n 3, 1, 0, 0, 0), (23, .invokevirtual 21, 3, 101, 97, 662), (26, .lastore, 1, 0, 0, 0), (27, .iinc 3 1, 3, 0, 0, 0), (30, .goto (-23), 3, 5, 0, 0), (33, .aload_n 0, 1, 0, 0, 0), (34, .aload_n 2, 1, 0, 0, 0), (35, .invokevirtual 25, 3, 49, 64, 663), (38, .putfield 31, 3, 3, 1, 94), (41, .aload_n 0, 1, 0, 0, 0), (42, .aload_n 2, 1, 0, 0, 0), (43, .invokevirtual 34, 3, 47, 64, 667), (46, .iconst 2, 1, 0, 0, 0), (47, .irem, 1, 0, 0, 0), (48, .putfield 37, 3, 3, 2, 95), (51, .aload_n 0, 1, 0, 0, 0), (52, .bipush 52, 2, 0, 0, 0), (54, .aload_n 2, 1, 0, 0, 0), (55, .invokevirtual 40, 3, 45, 64, 668), (58, .isub, 1, 0, 0, 0), (59, .putfield 43, 3, 3, 3, 96), (62, .aload_n 0, 1, 0, 0, 0), (63, .aload_n 2, 1, 0, 0, 0), (64, .invokevirtual 46, 3, 54, 64, 672), (67, .putfield 49, 3, 3, 4, 97), (70, .aload_n 0, 1, 0, 0, 0), (71, .aload_n 2, 1, 0, 0, 0), (72, .invokevirtual 51, 3, 55, 64, 673), (75, .putfield 54, 3, 3, 5, 98), (78, .aload_n 2, 1, 0, 0, 0), (79, .invokevirtual 40, 3, 45, 64, 668), (82, .aload_n 2, 1, 0, 0, 0), (83, .invokevirtual 56, 3, 51, 64, 674), (86, .isub, 1, 0, 0, 0), (87, .istore_n 3, 1, 0, 0, 0), (88, .aload_n 0, 1, 0, 0, 0), (89, .aload_n 2, 1, 0, 0, 0), (90, .iload_n 3, 1, 0, 0, 0), (91, .aload_n 2, 1, 0, 0, 0), (92, .invokevirtual 56, 3, 51, 64, 674), (95, .invokevirtual 59, 3, 58, 66, 675), (98, .putfield 63, 3, 3, 6, 99), (101, .aload_n 0, 1, 0, 0, 0), (102, .aload_n 2, 1, 0, 0, 0), (103, .iload_n 3, 1, 0, 0, 0), (104, .aload_n 2, 1, 0, 0, 0), (105, .invokevirtual 56, 3, 51, 64, 674), (108, .aload_n 2, 1, 0, 0, 0), (109, .aload_n 2, 1, 0, 0, 0), (110, .invokevirtual 66, 3, 52, 64, 676), (113, .invokevirtual 69, 3, 53, 65, 677), (116, .invokevirtual 73, 3, 59, 67, 678), (119, .putfield 77, 3, 3, 7, 100), (122, .return_, 1, 0, 0, 0)]
def cd_36 : List aE := [(0, .aload_n 0, 1, 0, 0, 0), (1, .aload_n 1, 1, 0, 0, 0), (2, .invokevirtual 80, 3, 35, 49, 654), (5, .aload_n 1, 1, 0, 0, 0), (6, .invokevirtual 84, 3, 100, 96, 679), (9, .istore_n 2, 1, 0, 0, 0), (10, .iload_n 2, 1, 0, 0, 0), (11, .ifCond .le 40, 3, 25, 0, 0), (14, .aload_n 0, 1, 0, 0, 0), (15, .aload_n 0, 1, 0, 0, 0), (16, .getfield 49, 3, 3, 4, 97), (19, .aload_n 0, 1, 0, 0, 0), (20, .getfield 54, 3, 3, 5, 98), (23, .aload_n 0, 1, 0, 0, 0), (24, .getfield 63, 3, 3, 6, 99), (27, .aload_n 0, 1, 0, 0, 0), (28, .getfield 77, 3, 3, 7, 100), (31, .iload_n 2, 1, 0, 0, 0), (32, .aload_n 0, 1, 0, 0, 0), (33, .getfield 43, 3, 3, 3, 96), (36, .invokevirtual 87, 3, 38, 54, 680), (39, .ifCond .eq 6, 3, 23, 0, 0), (42, .goto 9, 3, 25, 0, 0), (45, .iinc 2 (-1), 3, 0, 0, 0), (48, .goto (-38), 3, 6, 0, 0), (51, .iload_n 2, 1, 0, 0, 0), (52, .ireturn, 1, 0, 0, 0)]
def cd_37 : List aE := [(0, .aload_n 0, 1, 0, 0, 0), (1, .aload_n 1, 1, 0, 0, 0), (2, .invokevirtual 91, 3, 36, 49, 807), (5, .istore_n 2, 1, 0, 0, 0), (6, .aload_n 0, 1, 0, 0, 0), (7, .getfield 49, 3, 3, 4, 97), (10, .iconst 2, 1, 0, 0, 0), (11, .irem, 1, 0, 0, 0), (12, .aload_n 0, 1, 0, 0, 0), (13, .getfield 37, 3, 3, 2, 95), (16, .if_icmp .ne 7, 3, 13, 0, 0), (19, .iconst 1, 1, 0, 0, 0), (20, .goto 4, 3, 14, 0, 0), (23, .iconst 0, 1, 0, 0, 0), (24, .istore_n 3, 1, 0, 0, 0), (25, .aload_n 1, 1, 0, 0, 0), (26, .invokevirtual 95, 3, 93, 96, 808), (29, .lstore 4, 2, 0, 0, 0), (31, .iconst 0, 1, 0, 0, 0), (32, .istore 6, 2, 0, 0, 0), (34, .iload 6, 2, 0, 0, 0), (36, .bipush 52, 2, 0, 0, 0), (38, .if_icmp .ge 70, 3, 56, 0, 0), (41, .lload 4, 2, 0, 0, 0), (43, .iload 6, 2, 0, 0, 0), (45, .invokestatic 99, 3, 30, 2, 809), (48, .ifCond .ne 6, 3, 28, 0, 0), (51, .goto 51, 3, 54, 0, 0), (54, .iload_n 3, 1, 0, 0, 0), (55, .ifCond .eq 7, 3, 32, 0, 0), (58, .iload_n 2, 1, 0, 0, 0), (59, .goto 6, 3, 35, 0, 0), (62, .iload_n 2, 1, 0, 0, 0), (63, .iconst 1, 1, 0, 0, 0), (64, .iadd, 1, 0, 0, 0), (65, .istore 7, 2, 0, 0, 0), (67, .aload_n 0, 1, 0, 0, 0), (68, .iload 6, 2, 0, 0, 0), (70, .aload_n 0, 1, 0, 0, 0), (71, .getfield 49, 3, 3, 4, 97), (74, .aload_n 0, 1, 0, 0, 0), (75, .getfield 54, 3, 3, 5, 98), (78, .aload_n 0, 1, 0, 0, 0), (79, .getfield 63, 3, 3, 6, 99), (82, .aload_n 0, 1, 0, 0, 0), (83, .getfield 77, 3, 3, 7, 100), (86, .iload 7, 2, 0, 0, 0), (88, .aload_n 0, 1, 0, 0, 0), (89, .getfield 43, 3, 3, 3, 96), (92, .invokevirtual 105, 3, 39, 55, 705), (95, .iload_n 3, 1, 0, 0, 0), (96, .if_icmp .ne 6, 3, 54, 0, 0), (99, .iload 6, 2, 0, 0, 0), (101, .ireturn, 1, 0, 0, 0), (102, .iinc 6 1, 3, 0, 0, 0), (105, .goto (-71), 3, 20, 0, 0), (108, .iconst (-1), 1, 0, 0, 0), (109, .ireturn, 1, 0, 0, 0)]
def cd_38 : List aE := [(0, .iload 5, 2, 0, 0, 0), (2, .ifCond .gt 5, 3, 4, 0, 0), (5, .iconst 1, 1, 0, 0, 0), (6, .ireturn, 1, 0, 0, 0), (7, .iload 6, 2, 0, 0, 0), (9, .bipush 16, 2, 0, 0, 0), (11, .if_icmp .gt 16, 3, 16, 0, 0), (14, .iload 5, 2, 0, 0, 0), (16, .iload 6, 2, 0, 0, 0), (18, .iconst 4, 1, 0, 0, 0), (19, .iadd, 1, 0, 0, 0), (20, .iconst 1, 1, 0, 0, 0), (21, .isub, 1, 0, 0, 0), (22, .iconst 4, 1, 0, 0, 0), (23, .idiv, 1, 0, 0, 0), (24, .if_icmp .le 5, 3, 18, 0, 0), (27, .iconst 0, 1, 0, 0, 0), (28, .ireturn, 1, 0, 0, 0), (29, .iload 6, 2, 0, 0, 0), (31, .iconst 4, 1, 0, 0, 0), (32, .if_icmp .ne 9, 3, 25, 0, 0), (35, .aload_n 0, 1, 0, 0, 0), (36, .iload_n 1, 1, 0, 0, 0), (37, .invokevirtual 109, 3, 40, 49, 684), (40, .ireturn, 1, 0, 0, 0), (41, .iload_n 1, 1, 0, 0, 0), (42, .iconst 2, 1, 0, 0, 0), (43, .irem, 1, 0, 0, 0), (44, .aload_n 0, 1, 0, 0, 0), (45, .getfield 37, 3, 3, 2, 95), (48, .if_icmp .ne 7, 3, 33, 0, 0), (51, .iconst 1, 1, 0, 0, 0), (52, .goto 4, 3, 34, 0, 0), (55, .iconst 0, 1, 0, 0, 0), (56, .istore 7, 2, 0, 0, 0), (58, .aload_n 0, 1, 0, 0, 0), (59, .iload_n 1, 1, 0, 0, 0), (60, .invokevirtual 113, 3, 41, 49, 695), (63, .iload_n 3, 1, 0, 0, 0), (64, .iconst (-1), 1, 0, 0, 0), (65, .if_icmp .ne 7, 3, 43, 0, 0), (68, .lconst 0, 1, 0, 0, 0), (69, .goto 7, 3, 45, 0, 0), (72, .iload_n 3, 1, 0, 0, 0), (73, .invokestatic 116, 3, 29, 1, 699), (76, .lor, 1, 0, 0, 0), (77, .lstore 8, 2, 0, 0, 0), (79, .iload_n 1, 1, 0, 0, 0), (80, .ifCond .lt 25, 3, 61, 0, 0), (83, .iload_n 1, 1, 0, 0, 0), (84, .aload_n 0, 1, 0, 0, 0), (85, .getfield 9, 3, 3, 0, 93), (88, .arraylength, 1, 0, 0, 0), (89, .if_icmp .ge 16, 3, 61, 0, 0), (92, .aload_n 0, 1, 0, 0, 0), (93, .getfield 9, 3, 3, 0, 93), (96, .iload_n 1, 1, 0, 0, 0), (97, .laload, 1, 0, 0, 0), (98, .iload_n 2, 1, 0, 0, 0), (99, .invokestatic 119, 3, 32, 2, 700), (102, .goto 4, 3, 62, 0, 0), (105, .lconst 0, 1, 0, 0, 0), (106, .lstore 10, 2, 0, 0, 0), (108, .iconst (-1), 1, 0, 0, 0), (109, .istore 12, 2, 0, 0, 0), (111, .iconst 0, 1, 0, 0, 0), (112, .istore 13, 2, 0, 0, 0), (114, .iload 13, 2, 0, 0, 0), (116, .iconst 4, 1, 0, 0, 0), (117, .if_icmp .ge 97, 3, 119, 0, 0), (120, .lload 10, 2, 0, 0, 0), (122, .lconst 0, 1, 0, 0, 0), (123, .lcmp, 1, 0, 0, 0), (124, .ifCond .eq 90, 3, 119, 0, 0), (127, .lload 10, 2, 0, 0, 0), (129, .lload 10, 2, 0, 0, 0), (131, .lneg, 1, 0, 0, 0), (132, .land, 1, 0, 0, 0), (133, .lstore 14, 2, 0, 0, 0), (135, .lload 10, 2, 0, 0, 0), (137, .lload 14, 2, 0, 0, 0), (139, .lxor, 1, 0, 0, 0), (140, .lstore 10, 2, 0, 0, 0), (142, .lload 14, 2, 0, 0, 0), (144, .lconst 1, 1, 0, 0, 0), (145, .lsub, 1, 0, 0, 0), (146, .invokestatic 122, 3, 999, 1, 688), (149, .istore 16, 2, 0, 0, 0), (151, .iload 12, 2, 0, 0, 0), (153, .iconst (-1), 1, 0, 0, 0), (154, .if_icmp .eq 15, 3, 96, 0, 0), (157, .iload 12, 2, 0, 0, 0), (159, .iload 16, 2, 0, 0, 0), (161, .lload 8, 2, 0, 0, 0), (163, .invokestatic 128, 3, 42, 3, 701), (166, .ifCond .ne 7, 3, 98, 0, 0), (169, .iconst 1, 1, 0, 0, 0), (170, .goto 4, 3, 99, 0, 0), (173, .iconst 0, 1, 0, 0, 0), (174, .istore 17, 2, 0, 0, 0), (176, .iload 16, 2, 0, 0, 0), (178, .istore 12, 2, 0, 0, 0), (180, .iload 17, 2, 0, 0, 0), (182, .ifCond .eq 26, 3, 117, 0, 0), (185, .aload_n 0, 1, 0, 0, 0), (186, .iload 16, 2, 0, 0, 0), (188, .iload_n 1, 1, 0, 0, 0), (189, .iload_n 2, 1, 0, 0, 0), (190, .iload_n 3, 1, 0, 0, 0), (191, .iload 4, 2, 0, 0, 0), (193, .iload 5, 2, 0, 0, 0), (195, .iload 6, 2, 0, 0, 0), (197, .invokevirtual 105, 3, 39, 55, 705), (200, .iload 7, 2, 0, 0, 0), (202, .if_icmp .ne 6, 3, 117, 0, 0), (205, .iload 7, 2, 0, 0, 0), (207, .ireturn, 1, 0, 0, 0), (208, .iinc 13 1, 3, 0, 0, 0), (211, .goto (-97), 3, 67, 0, 0), (214, .iload 7, 2, 0, 0, 0), (216, .ifCond .ne 7, 3, 123, 0, 0), (219, .iconst 1, 1, 0, 0, 0), (220, .goto 4, 3, 124, 0, 0), (223, .iconst 0, 1, 0, 0, 0), (224, .ireturn, 1, 0, 0, 0)]
def cd_39 : List aE := [(0, .iload_n 2, 1, 0, 0, 0), (1, .ifCond .lt 12, 3, 7, 0, 0), (4, .iload_n 2, 1, 0, 0, 0), (5, .aload_n 0, 1, 0, 0, 0), (6, .getfield 9, 3, 3, 0, 93), (9, .arraylength, 1, 0, 0, 0), (10, .if_icmp .lt 5, 3, 9, 0, 0), (13, .iconst 0, 1, 0, 0, 0), (14, .ireturn, 1, 0, 0, 0), (15, .iload 4, 2, 0, 0, 0), (17, .iconst (-1), 1, 0, 0, 0), (18, .if_icmp .eq 16, 3, 18, 0, 0), (21, .iload_n 1, 1, 0, 0, 0), (22, .iload 4, 2, 0, 0, 0), (24, .aload_n 0, 1, 0, 0, 0), (25, .getfield 31, 3, 3, 1, 94), (28, .invokestatic 132, 3, 33, 3, 694), (31, .ifCond .eq 7, 3, 20, 0, 0), (34, .iconst 1, 1, 0, 0, 0), (35, .goto 4, 3, 21, 0, 0), (38, .iconst 0, 1, 0, 0, 0), (39, .istore 8, 2, 0, 0, 0), (41, .iload 8, 2, 0, 0, 0), (43, .ifCond .eq 7, 3, 26, 0, 0), (46, .iload_n 2, 1, 0, 0, 0), (47, .goto 5, 3, 27, 0, 0), (50, .iload 5, 2, 0, 0, 0), (52, .istore 9, 2, 0, 0, 0), (54, .aload_n 0, 1, 0, 0, 0), (55, .getfield 9, 3, 3, 0, 93), (58, .iload_n 2, 1, 0, 0, 0), (59, .dup2, 1, 0, 0, 0), (60, .laload, 1, 0, 0, 0), (61, .iload_n 1, 1, 0, 0, 0), (62, .invokestatic 116, 3, 29, 1, 699), (65, .lxor, 1, 0, 0, 0), (66, .lastore, 1, 0, 0, 0), (67, .iload 7, 2, 0, 0, 0), (69, .iconst 4, 1, 0, 0, 0), (70, .irem, 1, 0, 0, 0), (71, .iconst 1, 1, 0, 0, 0), (72, .if_icmp .ne 44, 3, 66, 0, 0), (75, .iload 9, 2, 0, 0, 0), (77, .iconst 2, 1, 0, 0, 0), (78, .irem, 1, 0, 0, 0), (79, .aload_n 0, 1, 0, 0, 0), (80, .getfield 37, 3, 3, 2, 95), (83, .if_icmp .ne 7, 3, 50, 0, 0), (86, .iconst 1, 1, 0, 0, 0), (87, .goto 4, 3, 51, 0, 0), (90, .iconst 0, 1, 0, 0, 0), (91, .istore 11, 2, 0, 0, 0), (93, .aload_n 0, 1, 0, 0, 0), (94, .iload 9, 2, 0, 0, 0), (96, .iconst (-1), 1, 0, 0, 0), (97, .iconst (-1), 1, 0, 0, 0), (98, .iconst (-1), 1, 0, 0, 0), (99, .iload 6, 2, 0, 0, 0), (101, .iload 11, 2, 0, 0, 0), (103, .isub, 1, 0, 0, 0), (104, .iload 7, 2, 0, 0, 0), (106, .iconst 1, 1, 0, 0, 0), (107, .isub, 1, 0, 0, 0), (108, .invokevirtual 87, 3, 38, 54, 680), (111, .istore 10, 2, 0, 0, 0), (113, .goto 50, 3, 93, 0, 0), (116, .iload_n 3, 1, 0, 0, 0), (117, .iconst (-1), 1, 0, 0, 0), (118, .if_icmp .ne 10, 3, 72, 0, 0), (121, .iload_n 1, 1, 0, 0, 0), (122, .invokestatic 136, 3, 28, 1, 704), (125, .goto 4, 3, 73, 0, 0), (128, .iload_n 3, 1, 0, 0, 0), (129, .istore 11, 2, 0, 0, 0), (131, .aload_n 0, 1, 0, 0, 0), (132, .iload_n 2, 1, 0, 0, 0), (133, .iconst 1, 1, 0, 0, 0), (134, .iadd, 1, 0, 0, 0), (135, .iconst 4, 1, 0, 0, 0), (136, .irem, 1, 0, 0, 0), (137, .iload 11, 2, 0, 0, 0), (139, .iload 8, 2, 0, 0, 0), (141, .ifCond .eq 7, 3, 85, 0, 0), (144, .iload_n 1, 1, 0, 0, 0), (145, .goto 5, 3, 86, 0, 0), (148, .iload 4, 2, 0, 0, 0), (150, .iload 9, 2, 0, 0, 0), (152, .iload 6, 2, 0, 0, 0), (154, .iload 7, 2, 0, 0, 0), (156, .iconst 1, 1, 0, 0, 0), (157, .isub, 1, 0, 0, 0), (158, .invokevirtual 87, 3, 38, 54, 680), (161, .istore 10, 2, 0, 0, 0), (163, .aload_n 0, 1, 0, 0, 0), (164, .getfield 9, 3, 3, 0, 93), (167, .iload_n 2, 1, 0, 0, 0), (168, .dup2, 1, 0, 0, 0), (169, .laload, 1, 0, 0, 0), (170, .iload_n 1, 1, 0, 0, 0), (171, .invokestatic 116, 3, 29, 1, 699), (174, .lxor, 1, 0, 0, 0), (175, .lastore, 1, 0, 0, 0), (176, .iload 10, 2, 0, 0, 0), (178, .ireturn, 1, 0, 0, 0)]
def cd_40 : List aE := [(0, .iconst (-1), 1, 0, 0, 0), (1, .istore_n 2, 1, 0, 0, 0), (2, .iload_n 1, 1, 0, 0, 0), (3, .istore_n 3, 1, 0, 0, 0), (4, .iconst 0, 1, 0, 0, 0), (5, .istore 4, 2, 0, 0, 0), (7, .iload 4, 2, 0, 0, 0), (9, .iconst 4, 1, 0, 0, 0), (10, .if_icmp .ge 78, 3, 49, 0, 0), (13, .iload_n 1, 1, 0, 0, 0), (14, .iload 4, 2, 0, 0, 0), (16, .iadd, 1, 0, 0, 0), (17, .iconst 4, 1, 0, 0, 0), (18, .irem, 1, 0, 0, 0), (19, .istore 5, 2, 0, 0, 0), (21, .iload 5, 2, 0, 0, 0), (23, .ifCond .lt 23, 3, 27, 0, 0), (26, .iload 5, 2, 0, 0, 0), (28, .aload_n 0, 1, 0, 0, 0), (29, .getfield 9, 3, 3, 0, 93), (32, .arraylength, 1, 0, 0, 0), (33, .if_icmp .ge 13, 3, 27, 0, 0), (36, .aload_n 0, 1, 0, 0, 0), (37, .getfield 9, 3, 3, 0, 93), (40, .iload 5, 2, 0, 0, 0), (42, .laload, 1, 0, 0, 0), (43, .goto 4, 3, 28, 0, 0), (46, .lconst 0, 1, 0, 0, 0), (47, .lstore 6, 2, 0, 0, 0), (49, .lload 6, 2, 0, 0, 0), (51, .lconst 1, 1, 0, 0, 0), (52, .lsub, 1, 0, 0, 0), (53, .invokestatic 122, 3, 999, 1, 688), (56, .istore 8, 2, 0, 0, 0), (58, .iload_n 2, 1, 0, 0, 0), (59, .iconst (-1), 1, 0, 0, 0), (60, .if_icmp .eq 16, 3, 43, 0, 0), (63, .iload 8, 2, 0, 0, 0), (65, .iload_n 2, 1, 0, 0, 0), (66, .aload_n 0, 1, 0, 0, 0), (67, .getfield 31, 3, 3, 1, 94), (70, .invokestatic 132, 3, 33, 3, 694), (73, .ifCond .eq 9, 3, 47, 0, 0), (76, .iload 8, 2, 0, 0, 0), (78, .istore_n 2, 1, 0, 0, 0), (79, .iload 5, 2, 0, 0, 0), (81, .istore_n 3, 1, 0, 0, 0), (82, .iinc 4 1, 3, 0, 0, 0), (85, .goto (-78), 3, 6, 0, 0), (88, .iload_n 3, 1, 0, 0, 0), (89, .iconst 2, 1, 0, 0, 0), (90, .irem, 1, 0, 0, 0), (91, .aload_n 0, 1, 0, 0, 0), (92, .getfield 37, 3, 3, 2, 95), (95, .if_icmp .ne 7, 3, 57, 0, 0), (98, .iconst 1, 1, 0, 0, 0), (99, .goto 4, 3, 58, 0, 0), (102, .iconst 0, 1, 0, 0, 0), (103, .ireturn, 1, 0, 0, 0)]
def cd_41 : List aE := [(0, .lconst 0, 1, 0, 0, 0), (1, .lstore_n 2, 1, 0, 0, 0), (2, .iconst 0, 1, 0, 0, 0), (3, .istore 4, 2, 0, 0, 0), (5, .iload 4, 2, 0, 0, 0), (7, .aload_n 0, 1, 0, 0, 0), (8, .getfield 9, 3, 3, 0, 93), (11, .arraylength, 1, 0, 0, 0), (12, .if_icmp .ge 25, 3, 21, 0, 0), (15, .iload 4, 2, 0, 0, 0), (17, .iload_n 1, 1, 0, 0, 0), (18, .if_icmp .eq 13, 3, 19, 0, 0), (21, .lload_n 2, 1, 0, 0, 0), (22, .aload_n 0, 1, 0, 0, 0), (23, .getfield 9, 3, 3, 0, 93), (26, .iload 4, 2, 0, 0, 0), (28, .laload, 1, 0, 0, 0), (29, .lor, 1, 0, 0, 0), (30, .lstore_n 2, 1, 0, 0, 0), (31, .iinc 4 1, 3, 0, 0, 0), (34, .goto (-29), 3, 4, 0, 0), (37, .lload_n 2, 1, 0, 0, 0), (38, .lreturn, 1, 0, 0, 0)]
def cd_42 : List aE := [(0, .iload_n 1, 1, 0, 0, 0), (1, .invokestatic 116, 3, 29, 1, 699), (4, .iload_n 0, 1, 0, 0, 0), (5, .invokestatic 116, 3, 29, 1, 699), (8, .lsub, 1, 0, 0, 0), (9, .lstore 4, 2, 0, 0, 0), (11, .iload_n 0, 1, 0, 0, 0), (12, .invokestatic 136, 3, 28, 1, 704), (15, .iload_n 1, 1, 0, 0, 0), (16, .invokestatic 136, 3, 28, 1, 704), (19, .if_icmp .ne 16, 3, 19, 0, 0), (22, .lload_n 2, 1, 0, 0, 0), (23, .lload 4, 2, 0, 0, 0), (25, .land, 1, 0, 0, 0), (26, .lconst 0, 1, 0, 0, 0), (27, .lcmp, 1, 0, 0, 0), (28, .ifCond .ne 7, 3, 19, 0, 0), (31, .iconst 1, 1, 0, 0, 0), (32, .goto 4, 3, 20, 0, 0), (35, .iconst 0, 1, 0, 0, 0), (36, .ireturn, 1, 0, 0, 0)]
def cd_43 : List aE := [(0, .aload_n 0, 1, 0, 0, 0), (1, .invokespecial 3, 3, 1000, 0, 328), (4, .aload_n 0, 1, 0, 0, 0), (5, .bipush 52, 2, 0, 0, 0), (7, .newarray .int, 2, 0, 0, 0), (9, .putfield 9, 3, 4, 0, 329), (12, .aload_n 0, 1, 0, 0, 0), (13, .bipush 14, 2, 0, 0, 0), (15, .newarray .int, 2, 0, 0, 0), (17, .putfield 15, 3, 4, 1, 330), (20, .return_, 1, 0, 0, 0)]
def cd_44 : List aE := [(0, .aload_n 0, 1, 0, 0, 0), (1, .iconst 0, 1, 0, 0, 0), (2, .putfield 18, 3, 4, 2, 331), (5, .aload_n 0, 1, 0, 0, 0), (6, .lconst 0, 1, 0, 0, 0), (7, .putfield 22, 3, 4, 3, 332), (10, .aload_n 0, 1, 0, 0, 0), (11, .iload_n 1, 1, 0, 0, 0), (12, .putfield 26, 3, 4, 4, 333), (15, .aload_n 0, 1, 0, 0, 0), (16, .iload_n 2, 1, 0, 0, 0), (17, .putfield 29, 3, 4, 5, 334), (20, .aload_n 0, 1, 0, 0, 0), (21, .getfield 15, 3, 4, 1, 330), (24, .iconst 0, 1, 0, 0, 0), (25, .iload_n 1, 1, 0, 0, 0), (26, .iconst 1, 1, 0, 0, 0), (27, .iadd, 1, 0, 0, 0), (28, .iconst 4, 1, 0, 0, 0), (29, .irem, 1, 0, 0, 0), (30, .iastore, 1, 0, 0, 0), (31, .return_, 1, 0, 0, 0)]
def cd_45 : List aE := [(0, .aload_n 0, 1, 0, 0, 0), (1, .getfield 18, 3, 4, 2, 331), (4, .ireturn, 1, 0, 0, 0)]
def cd_46 : List aE := [(0, .iload_n 1, 1, 0, 0, 0), (1, .ifCond .lt 29, 3, 16, 0, 0), (4, .iload_n 1, 1, 0, 0, 0), (5, .aload_n 0, 1, 0, 0, 0), (6, .getfield 18, 3, 4, 2, 331), (9, .if_icmp .ge 21, 3, 16, 0, 0), (12, .iload_n 1, 1, 0, 0, 0), (13, .aload_n 0, 1, 0, 0, 0), (14, .getfield 9, 3, 4, 0, 329), (17, .arraylength, 1, 0, 0, 0), (18, .if_icmp .ge 12, 3, 16, 0, 0), (21, .aload_n 0, 1, 0, 0, 0), (22, .getfield 9, 3, 4, 0, 329), (25, .iload_n 1, 1, 0, 0, 0), (26, .iaload, 1, 0, 0, 0), (27, .goto 4, 3, 17, 0, 0), (30, .iconst (-1), 1, 0, 0, 0), (31, .ireturn, 1, 0, 0, 0)]
def cd_47 : List aE := [(0, .aload_n 0, 1, 0, 0, 0), (1, .getfield 26, 3, 4, 4, 333), (4, .ireturn, 1, 0, 0, 0)]
def cd_48 : List aE := [(0, .aload_n 0, 1, 0, 0, 0), (1, .getfield 26, 3, 4, 4, 333), (4, .iconst 2, 1, 0, 0, 0), (5, .iadd, 1, 0, 0, 0), (6, .iconst 4, 1, 0, 0, 0), (7, .irem, 1, 0, 0, 0), (8, .ireturn, 1, 0, 0, 0)]
def cd_49 : List aE := [(0, .aload_n 0, 1, 0, 0, 0), (1, .getfield 29, 3, 4, 5, 334), (4, .ireturn, 1, 0, 0, 0)]
def cd_50 : List aE := [(0, .aload_n 0, 1, 0, 0, 0), (1, .getfield 22, 3, 4, 3, 332), (4, .lreturn, 1, 0, 0, 0)]
def cd_51 : List aE := [(0, .aload_n 0, 1, 0, 0, 0), (1, .getfield 18, 3, 4, 2, 331), (4, .iconst 4, 1, 0, 0, 0), (5, .irem, 1, 0, 0, 0), (6, .ireturn, 1, 0, 0, 0)]
def cd_52 : List aE := [(0, .aload_n 0, 1, 0, 0, 0), (1, .getfield 18, 3, 4, 2, 331), (4, .iconst 4, 1, 0, 0, 0), (5, .idiv, 1, 0, 0, 0), (6, .ireturn, 1, 0, 0, 0)]
def cd_53 : List aE := [(0, .iload_n 1, 1, 0, 0, 0), (1, .ifCond .lt 21, 3, 12, 0, 0), (4, .iload_n 1, 1, 0, 0, 0), (5, .aload_n 0, 1, 0, 0, 0), (6, .getfield 15, 3, 4, 1, 330), (9, .arraylength, 1, 0, 0, 0), (10, .if_icmp .ge 12, 3, 12, 0, 0), (13, .aload_n 0, 1, 0, 0, 0), (14, .getfield 15, 3, 4, 1, 330), (17, .iload_n 1, 1, 0, 0, 0), (18, .iaload, 1, 0, 0, 0), (19, .goto 4, 3, 13, 0, 0), (22, .iconst 0, 1, 0, 0, 0), (23, .ireturn, 1, 0, 0, 0)]
def cd_54 : List aE := [(0, .aload_n 0, 1, 0, 0, 0), (1, .aload_n 0, 1, 0, 0, 0), (2, .invokevirtual 32, 3, 52, 64, 508), (5, .invokevirtual 36, 3, 53, 65, 512), (8, .aload_n 0, 1, 0, 0, 0), (9, .invokevirtual 40, 3, 51, 64, 575), (12, .iadd, 1, 0, 0, 0), (13, .iconst 4, 1, 0, 0, 0), (14, .irem, 1, 0, 0, 0), (15, .ireturn, 1, 0, 0, 0)]
def cd_55 : List aE := [(0, .aload_n 0, 1, 0, 0, 0), (1, .invokevirtual 40, 3, 51, 64, 575), (4, .ifCond .ne 7, 3, 5, 0, 0), (7, .iconst (-1), 1, 0, 0, 0), (8, .goto 19, 3, 13, 0, 0), (11, .aload_n 0, 1, 0, 0, 0), (12, .aload_n 0, 1, 0, 0, 0), (13, .getfield 18, 3, 4, 2, 331), (16, .aload_n 0, 1, 0, 0, 0), (17, .invokevirtual 40, 3, 51, 64, 575), (20, .isub, 1, 0, 0, 0), (21, .invokevirtual 43, 3, 46, 65, 596), (24, .invokestatic 46, 3, 28, 1, 600), (27, .ireturn, 1, 0, 0, 0)]
def cd_56 : List aE := [(0, .aload_n 0, 1, 0, 0, 0), (1, .getfield 18, 3, 4, 2, 331), (4, .aload_n 0, 1, 0, 0, 0), (5, .getfield 9, 3, 4, 0, 329), (8, .arraylength, 1, 0, 0, 0), (9, .if_icmp .lt 4, 3, 7, 0, 0), (12, .return_, 1, 0, 0, 0), (13, .aload_n 0, 1, 0, 0, 0), (14, .getfield 9, 3, 4, 0, 329), (17, .aload_n 0, 1, 0, 0, 0), (18, .getfield 18, 3, 4, 2, 331), (21, .iload_n 1, 1, 0, 0, 0), (22, .iastore, 1, 0, 0, 0), (23, .aload_n 0, 1, 0, 0, 0), (24, .dup, 1, 0, 0, 0), (25, .getfield 18, 3, 4, 2, 331), (28, .iconst 1, 1, 0, 0, 0), (29, .iadd, 1, 0, 0, 0), (30, .putfield 18, 3, 4, 2, 331), (33, .aload_n 0, 1, 0, 0, 0), (34, .dup, 1, 0, 0, 0), (35, .getfield 22, 3, 4, 3, 332), (38, .iload_n 1, 1, 0, 0, 0), (39, .invokestatic 51, 3, 29, 1, 619), (42, .lor, 1, 0, 0, 0), (43, .putfield 22, 3, 4, 3, 332), (46, .aload_n 0, 1, 0, 0, 0), (47, .invokevirtual 32, 3, 52, 64, 508), (50, .istore_n 2, 1, 0, 0, 0), (51, .aload_n 0, 1, 0, 0, 0), (52, .invokevirtual 40, 3, 51, 64, 575), (55, .ifCond .ne 41, 3, 56, 0, 0), (58, .iload_n 2, 1, 0, 0, 0), (59, .iconst 1, 1, 0, 0, 0), (60, .if_icmp .lt 36, 3, 56, 0, 0), (63, .iload_n 2, 1, 0, 0, 0), (64, .aload_n 0, 1, 0, 0, 0), (65, .getfield 15, 3, 4, 1, 330), (68, .arraylength, 1, 0, 0, 0), (69, .if_icmp .ge 27, 3, 56, 0, 0), (72, .aload_n 0, 1, 0, 0, 0), (73, .getfield 15, 3, 4, 1, 330), (76, .iload_n 2, 1, 0, 0, 0), (77, .aload_n 0, 1, 0, 0, 0), (78, .aload_n 0, 1, 0, 0, 0), (79, .getfield 18, 3, 4, 2, 331), (82, .iconst 4, 1, 0, 0, 0), (83, .isub, 1, 0, 0, 0), (84, .iconst 4, 1, 0, 0, 0), (85, .aload_n 0, 1, 0, 0, 0), (86, .iload_n 2, 1, 0, 0, 0), (87, .iconst 1, 1, 0, 0, 0), (88, .isub, 1, 0, 0, 0), (89, .invokevirtual 36, 3, 53, 65, 512), (92, .invokevirtual 55, 3, 59, 67, 620), (95, .iastore, 1, 0, 0, 0), (96, .return_, 1, 0, 0, 0)]
def cd_57 : List aE := [(0, .aload_n 0, 1, 0, 0, 0), (1, .getfield 18, 3, 4, 2, 331), (4, .ifCond .ne 5, 3, 5, 0, 0), (7, .iconst 0, 1, 0, 0, 0), (8, .ireturn, 1, 0, 0, 0), (9, .aload_n 0, 1, 0, 0, 0), (10, .dup, 1, 0, 0, 0), (11, .getfield 22, 3, 4, 3, 332), (14, .aload_n 0, 1, 0, 0, 0), (15, .aload_n 0, 1, 0, 0, 0), (16, .getfield 18, 3, 4, 2, 331), (19, .iconst 1, 1, 0, 0, 0), (20, .isub, 1, 0, 0, 0), (21, .invokevirtual 43, 3, 46, 65, 596), (24, .invokestatic 51, 3, 29, 1, 619), (27, .ldc2_w 59, 3, 18446744073709551615, 0, 721), (30, .lxor, 1, 0, 0, 0), (31, .land, 1, 0, 0, 0), (32, .putfield 22, 3, 4, 3, 332), (35, .aload_n 0, 1, 0, 0, 0), (36, .dup, 1, 0, 0, 0), (37, .getfield 18, 3, 4, 2, 331), (40, .iconst 1, 1, 0, 0, 0), (41, .isub, 1, 0, 0, 0), (42, .putfield 18, 3, 4, 2, 331), (45, .iconst 1, 1, 0, 0, 0), (46, .ireturn, 1, 0, 0, 0)]
def cd_58 : List aE := [(0, .aload_n 0, 1, 0, 0, 0), (1, .iload_n 1, 1, 0, 0, 0), (2, .invokevirtual 43, 3, 46, 65, 596), (5, .istore_n 3, 1, 0, 0, 0), (6, .iconst 1, 1, 0, 0, 0), (7, .istore 4, 2, 0, 0, 0), (9, .iload 4, 2, 0, 0, 0), (11, .iload_n 2, 1, 0, 0, 0), (12, .if_icmp .ge 35, 3, 25, 0, 0), (15, .aload_n 0, 1, 0, 0, 0), (16, .iload_n 1, 1, 0, 0, 0), (17, .iload 4, 2, 0, 0, 0), (19, .iadd, 1, 0, 0, 0), (20, .invokevirtual 43, 3, 46, 65, 596), (23, .istore 5, 2, 0, 0, 0), (25, .iload 5, 2, 0, 0, 0), (27, .iload_n 3, 1, 0, 0, 0), (28, .aload_n 0, 1, 0, 0, 0), (29, .getfield 29, 3, 4, 5, 334), (32, .invokestatic 61, 3, 33, 3, 628), (35, .ifCond .eq 6, 3, 23, 0, 0), (38, .iload 5, 2, 0, 0, 0), (40, .istore_n 3, 1, 0, 0, 0), (41, .iinc 4 1, 3, 0, 0, 0), (44, .goto (-35), 3, 6, 0, 0), (47, .iload_n 2, 1, 0, 0, 0), (48, .ifCond .le 7, 3, 29, 0, 0), (51, .iload_n 3, 1, 0, 0, 0), (52, .goto 4, 3, 30, 0, 0), (55, .iconst (-1), 1, 0, 0, 0), (56, .ireturn, 1, 0, 0, 0)]
def cd_59 : List aE := [(0, .aload_n 0, 1, 0, 0, 0), (1, .iload_n 1, 1, 0, 0, 0), (2, .iload_n 2, 1, 0, 0, 0), (3, .invokevirtual 65, 3, 58, 66, 624), (6, .istore 4, 2, 0, 0, 0), (8, .iconst 0, 1, 0, 0, 0), (9, .istore 5, 2, 0, 0, 0), (11, .iload 5, 2, 0, 0, 0), (13, .iload_n 2, 1, 0, 0, 0), (14, .if_icmp .ge 29, 3, 25, 0, 0), (17, .aload_n 0, 1, 0, 0, 0), (18, .iload_n 1, 1, 0, 0, 0), (19, .iload 5, 2, 0, 0, 0), (21, .iadd, 1, 0, 0, 0), (22, .invokevirtual 43, 3, 46, 65, 596), (25, .iload 4, 2, 0, 0, 0), (27, .if_icmp .ne 10, 3, 23, 0, 0), (30, .iload_n 3, 1, 0, 0, 0), (31, .iload 5, 2, 0, 0, 0), (33, .iadd, 1, 0, 0, 0), (34, .iconst 4, 1, 0, 0, 0), (35, .irem, 1, 0, 0, 0), (36, .ireturn, 1, 0, 0, 0), (37, .iinc 5 1, 3, 0, 0, 0), (40, .goto (-29), 3, 7, 0, 0), (43, .iload_n 3, 1, 0, 0, 0), (44, .ireturn, 1, 0, 0, 0)]
def cd_60 : List aE := [(0, .iconst 0, 1, 0, 0, 0), (1, .istore_n 2, 1, 0, 0, 0), (2, .iconst 1, 1, 0, 0, 0), (3, .istore_n 3, 1, 0, 0, 0), (4, .iload_n 3, 1, 0, 0, 0), (5, .aload_n 0, 1, 0, 0, 0), (6, .invokevirtual 32, 3, 52, 64, 508), (9, .if_icmp .gt 23, 3, 18, 0, 0), (12, .aload_n 0, 1, 0, 0, 0), (13, .iload_n 3, 1, 0, 0, 0), (14, .invokevirtual 36, 3, 53, 65, 512), (17, .iconst 2, 1, 0, 0, 0), (18, .irem, 1, 0, 0, 0), (19, .iload_n 1, 1, 0, 0, 0), (20, .if_icmp .ne 6, 3, 16, 0, 0), (23, .iinc 2 1, 3, 0, 0, 0), (26, .iinc 3 1, 3, 0, 0, 0), (29, .goto (-25), 3, 4, 0, 0), (32, .iload_n 2, 1, 0, 0, 0), (33, .ireturn, 1, 0, 0, 0)]
def cd_61 : List aE := [(0, .iconst 0, 1, 0, 0, 0), (1, .istore_n 3, 1, 0, 0, 0), (2, .iload_n 3, 1, 0, 0, 0), (3, .aload_n 0, 1, 0, 0, 0), (4, .getfield 18, 3, 4, 2, 331), (7, .if_icmp .ge 63, 3, 41, 0, 0), (10, .iload_n 1, 1, 0, 0, 0), (11, .aload_n 0, 1, 0, 0, 0), (12, .iload_n 3, 1, 0, 0, 0), (13, .iconst 4, 1, 0, 0, 0), (14, .idiv, 1, 0, 0, 0), (15, .invokevirtual 36, 3, 53, 65, 512), (18, .isub, 1, 0, 0, 0), (19, .iconst 4, 1, 0, 0, 0), (20, .iadd, 1, 0, 0, 0), (21, .iconst 4, 1, 0, 0, 0), (22, .irem, 1, 0, 0, 0), (23, .istore 4, 2, 0, 0, 0), (25, .aload_n 0, 1, 0, 0, 0), (26, .iload_n 3, 1, 0, 0, 0), (27, .iload 4, 2, 0, 0, 0), (29, .iadd, 1, 0, 0, 0), (30, .invokevirtual 43, 3, 46, 65, 596), (33, .istore 5, 2, 0, 0, 0), (35, .iload 5, 2, 0, 0, 0), (37, .iconst (-1), 1, 0, 0, 0), (38, .if_icmp .eq 26, 3, 39, 0, 0), (41, .aload_n 0, 1, 0, 0, 0), (42, .iload_n 3, 1, 0, 0, 0), (43, .invokevirtual 43, 3, 46, 65, 596), (46, .invokestatic 46, 3, 28, 1, 600), (49, .iload_n 2, 1, 0, 0, 0), (50, .if_icmp .ne 14, 3, 39, 0, 0), (53, .iload 5, 2, 0, 0, 0), (55, .invokestatic 46, 3, 28, 1, 600), (58, .iload_n 2, 1, 0, 0, 0), (59, .if_icmp .eq 5, 3, 39, 0, 0), (62, .iconst 1, 1, 0, 0, 0), (63, .ireturn, 1, 0, 0, 0), (64, .iinc 3 4, 3, 0, 0, 0), (67, .goto (-65), 3, 2, 0, 0), (70, .iconst 0, 1, 0, 0, 0), (71, .ireturn, 1, 0, 0, 0)]
def cd_62 : List aE := [(0, .aload_n 0, 1, 0, 0, 0), (1, .invokespecial 3, 3, 1000, 0, 449), (4, .aload_n 0, 1, 0, 0, 0), (5, .iconst (-1), 1, 0, 0, 0), (6, .putfield 9, 3, 5, 4, 454), (9, .aload_n 0, 1, 0, 0, 0), (10, .iconst (-1), 1, 0, 0, 0), (11, .putfield 15, 3, 5, 5, 455), (14, .aload_n 0, 1, 0, 0, 0), (15, .iconst (-1), 1, 0, 0, 0), (16, .putfield 18, 3, 5, 6, 456), (19, .aload_n 0, 1, 0, 0, 0), (20, .iconst (-1), 1, 0, 0, 0), (21, .putfield 21, 3, 5, 7, 457), (24, .aload_n 0, 1, 0, 0, 0), (25, .iload_n 1, 1, 0, 0, 0), (26, .putfield 24, 3, 5, 0, 450), (29, .aload_n 0, 1, 0, 0, 0), (30, .iload_n 2, 1, 0, 0, 0), (31, .putfield 27, 3, 5, 1, 451), (34, .aload_n 0, 1, 0, 0, 0), (35, .iload_n 3, 1, 0, 0, 0), (36, .putfield 30, 3, 5, 2, 452), (39, .return_, 1, 0, 0, 0)]
def cd_63 : List aE := [(0, .aload_n 0, 1, 0, 0, 0), (1, .iload_n 1, 1, 0, 0, 0), (2, .putfield 33, 3, 5, 3, 453), (5, .aload_n 0, 1, 0, 0, 0), (6, .iload_n 2, 1, 0, 0, 0), (7, .putfield 9, 3, 5, 4, 454), (10, .aload_n 0, 1, 0, 0, 0), (11, .iload_n 3, 1, 0, 0, 0), (12, .putfield 18, 3, 5, 6, 456), (15, .return_, 1, 0, 0, 0)]
def cd_64 : List aE := [(0, .aload_n 0, 1, 0, 0, 0), (1, .iload_n 1, 1, 0, 0, 0), (2, .putfield 15, 3, 5, 5, 455), (5, .aload_n 0, 1, 0, 0, 0), (6, .iload_n 2, 1, 0, 0, 0), (7, .putfield 21, 3, 5, 7, 457), (10, .aload_n 0, 1, 0, 0, 0), (11, .getfield 33, 3, 5, 3, 453), (14, .aload_n 0, 1, 0, 0, 0), (15, .getfield 9, 3, 5, 4, 454), (18, .aload_n 0, 1, 0, 0, 0), (19, .getfield 18, 3, 5, 6, 456), (22, .iload_n 3, 1, 0, 0, 0), (23, .aload_n 0, 1, 0, 0, 0), (24, .getfield 21, 3, 5, 7, 457), (27, .invokestatic 36, 3, 74, 5, 525), (30, .istore 4, 2, 0, 0, 0), (32, .aload_n 0, 1, 0, 0, 0), (33, .iload_n 1, 1, 0, 0, 0), (34, .iconst 2, 1, 0, 0, 0), (35, .irem, 1, 0, 0, 0), (36, .ifCond .ne 8, 3, 24, 0, 0), (39, .iload 4, 2, 0, 0, 0), (41, .goto 6, 3, 26, 0, 0), (44, .iload 4, 2, 0, 0, 0), (46, .ineg, 1, 0, 0, 0), (47, .putfield 42, 3, 5, 8, 458), (50, .return_, 1, 0, 0, 0)]
def cd_65 : List aE := [(0, .aload_n 0, 1, 0, 0, 0), (1, .iconst 1, 1, 0, 0, 0), (2, .putfield 45, 3, 5, 9, 459), (5, .aload_n 0, 1, 0, 0, 0), (6, .iload_n 1, 1, 0, 0, 0), (7, .putfield 49, 3, 5, 10, 460), (10, .aload_n 0, 1, 0, 0, 0), (11, .iload_n 2, 1, 0, 0, 0), (12, .putfield 52, 3, 5, 11, 461), (15, .return_, 1, 0, 0, 0)]
def cd_66 : List aE := [(0, .aload_n 0, 1, 0, 0, 0), (1, .getfield 24, 3, 5, 0, 450), (4, .ireturn, 1, 0, 0, 0)]
def cd_67 : List aE := [(0, .iload_n 1, 1, 0, 0, 0), (1, .aload_n 0, 1, 0, 0, 0), (2, .getfield 27, 3, 5, 1, 451), (5, .if_icmp .ne 7, 3, 6, 0, 0), (8, .iconst 0, 1, 0, 0, 0), (9, .goto 16, 3, 13, 0, 0), (12, .iload_n 1, 1, 0, 0, 0), (13, .aload_n 0, 1, 0, 0, 0), (14, .getfield 30, 3, 5, 2, 452), (17, .if_icmp .ne 7, 3, 12, 0, 0), (20, .iconst 1, 1, 0, 0, 0), (21, .goto 4, 3, 13, 0, 0), (24, .iconst (-1), 1, 0, 0, 0), (25, .ireturn, 1, 0, 0, 0)]
def cd_68 : List aE := [(0, .aload_n 0, 1, 0, 0, 0), (1, .getfield 42, 3, 5, 8, 458), (4, .ireturn, 1, 0, 0, 0)]
def cd_69 : List aE := [(0, .aload_n 0, 1, 0, 0, 0), (1, .getfield 45, 3, 5, 9, 459), (4, .ireturn, 1, 0, 0, 0)]
def cd_70 : List aE := [(0, .iload_n 1, 1, 0, 0, 0), (1, .ifCond .ne 10, 3, 5, 0, 0), (4, .aload_n 0, 1, 0, 0, 0), (5, .getfield 49, 3, 5, 10, 460), (8, .goto 7, 3, 7, 0, 0), (11, .aload_n 0, 1, 0, 0, 0), (12, .getfield 52, 3, 5, 11, 461), (15, .ireturn, 1, 0, 0, 0)]
def cd_71 : List aE := [(0, .iload_n 1, 1, 0, 0, 0), (1, .tableswitch 113 0 9 #[55, 60, 65, 70, 75, 80, 85, 90, 95, 100], 55, 0, 0, 0), (56, .aload_n 0, 1, 0, 0, 0), (57, .getfield 24, 3, 5, 0, 450), (60, .ireturn, 1, 0, 0, 0), (61, .aload_n 0, 1, 0, 0, 0), (62, .getfield 27, 3, 5, 1, 451), (65, .ireturn, 1, 0, 0, 0), (66, .aload_n 0, 1, 0, 0, 0), (67, .getfield 30, 3, 5, 2, 452), (70, .ireturn, 1, 0, 0, 0), (71, .aload_n 0, 1, 0, 0, 0), (72, .getfield 33, 3, 5, 3, 453), (75, .ireturn, 1, 0, 0, 0), (76, .aload_n 0, 1, 0, 0, 0), (77, .getfield 9, 3, 5, 4, 454), (80, .ireturn, 1, 0, 0, 0), (81, .aload_n 0, 1, 0, 0, 0), (82, .getfield 15, 3, 5, 5, 455), (85, .ireturn, 1, 0, 0, 0), (86, .aload_n 0, 1, 0, 0, 0), (87, .getfield 18, 3, 5, 6, 456), (90, .ireturn, 1, 0, 0, 0), (91, .aload_n 0, 1, 0, 0, 0), (92, .getfield 21, 3, 5, 7, 457), (95, .ireturn, 1, 0, 0, 0), (96, .aload_n 0, 1, 0, 0, 0), (97, .getfield 42, 3, 5, 8, 458), (100, .ireturn, 1, 0, 0, 0), (101, .aload_n 0, 1, 0, 0, 0), (102, .getfield 45, 3, 5, 9, 459), (105, .ifCond .eq 7, 3, 34, 0, 0), (108, .iconst 1, 1, 0, 0, 0), (109, .goto 4, 3, 35, 0, 0), (112, .iconst 0, 1, 0, 0, 0), (113, .ireturn, 1, 0, 0, 0), (114, .iconst (-1), 1, 0, 0, 0), (115, .ireturn, 1, 0, 0, 0)]
def cd_72 : List aE := [(0, .aload_n 0, 1, 0, 0, 0), (1, .getfield 33, 3, 5, 3, 453), (4, .ifCond .ne 11, 3, 8, 0, 0), (7, .aload_n 1, 1, 0, 0, 0), (8, .ldc 55, 2, 0, 1, 0), (10, .invokevirtual 57, 3, 999, 1, 980), (13, .pop, 1, 0, 0, 0), (14, .return_, 1, 0, 0, 0), (15, .aload_n 1, 1, 0, 0, 0), (16, .aload_n 0, 1, 0, 0, 0), (17, .getfield 33, 3, 5, 3, 453), (20, .invokevirtual 63, 3, 999, 1, 1060), (23, .pop, 1, 0, 0, 0), (24, .aload_n 1, 1, 0, 0, 0), (25, .ldc 66, 2, 0, 1, 0), (27, .aload_n 0, 1, 0, 0, 0), (28, .getfield 9, 3, 5, 4, 454), (31, .invokestatic 68, 3, 73, 2, 1086), (34, .invokevirtual 72, 3, 999, 1, 1117), (37, .pop, 1, 0, 0, 0), (38, .iconst 0, 1, 0, 0, 0), (39, .istore_n 2, 1, 0, 0, 0), (40, .iload_n 2, 1, 0, 0, 0), (41, .aload_n 0, 1, 0, 0, 0), (42, .getfield 18, 3, 5, 6, 456), (45, .if_icmp .ge 16, 3, 32, 0, 0), (48, .aload_n 1, 1, 0, 0, 0), (49, .bipush 88, 2, 0, 0, 0), (51, .invokevirtual 72, 3, 999, 1, 1117), (54, .pop, 1, 0, 0, 0), (55, .iinc 2 1, 3, 0, 0, 0), (58, .goto (-18), 3, 22, 0, 0), (61, .aload_n 1, 1, 0, 0, 0), (62, .bipush 32, 2, 0, 0, 0), (64, .invokevirtual 72, 3, 999, 1, 1117), (67, .pop, 1, 0, 0, 0), (68, .aload_n 1, 1, 0, 0, 0), (69, .ldc 75, 2, 0, 1, 0), (71, .aload_n 0, 1, 0, 0, 0), (72, .getfield 15, 3, 5, 5, 455), (75, .invokestatic 68, 3, 73, 2, 1086), (78, .invokevirtual 72, 3, 999, 1, 1117), (81, .pop, 1, 0, 0, 0), (82, .aload_n 1, 1, 0, 0, 0), (83, .bipush 32, 2, 0, 0, 0), (85, .invokevirtual 72, 3, 999, 1, 1117), (88, .pop, 1, 0, 0, 0), (89, .aload_n 0, 1, 0, 0, 0), (90, .getfield 21, 3, 5, 7, 457), (93, .aload_n 0, 1, 0, 0, 0), (94, .getfield 33, 3, 5, 3, 453), (97, .bipush 6, 2, 0, 0, 0), (99, .iadd, 1, 0, 0, 0), (100, .isub, 1, 0, 0, 0), (101, .istore_n 2, 1, 0, 0, 0), (102, .aload_n 1, 1, 0, 0, 0), (103, .iload_n 2, 1, 0, 0, 0), (104, .ifCond .ne 8, 3, 60, 0, 0), (107, .bipush 61, 2, 0, 0, 0), (109, .goto 14, 3, 65, 0, 0), (112, .iload_n 2, 1, 0, 0, 0), (113, .ifCond .le 8, 3, 64, 0, 0), (116, .bipush 43, 2, 0, 0, 0), (118, .goto 5, 3, 65, 0, 0), (121, .bipush 45, 2, 0, 0, 0), (123, .invokevirtual 72, 3, 999, 1, 1117), (126, .pop, 1, 0, 0, 0), (127, .iload_n 2, 1, 0, 0, 0), (128, .ifCond .eq 12, 3, 74, 0, 0), (131, .aload_n 1, 1, 0, 0, 0), (132, .iload_n 2, 1, 0, 0, 0), (133, .invokestatic 77, 3, 999, 1, 1131), (136, .invokevirtual 63, 3, 999, 1, 1060), (139, .pop, 1, 0, 0, 0), (140, .return_, 1, 0, 0, 0)]
def cd_73 : List aE := [(0, .iload_n 1, 1, 0, 0, 0), (1, .ifCond .lt 19, 3, 10, 0, 0), (4, .iload_n 1, 1, 0, 0, 0), (5, .aload_n 0, 1, 0, 0, 0), (6, .invokevirtual 83, 3, 999, 0, 1089), (9, .if_icmp .ge 11, 3, 10, 0, 0), (12, .aload_n 0, 1, 0, 0, 0), (13, .iload_n 1, 1, 0, 0, 0), (14, .invokevirtual 89, 3, 999, 1, 1090), (17, .goto 5, 3, 11, 0, 0), (20, .bipush 32, 2, 0, 0, 0), (22, .ireturn, 1, 0, 0, 0)]
def cd_74 : List aE := [(0, .iload 4, 2, 0, 0, 0), (2, .iload_n 0, 1, 0, 0, 0), (3, .bipush 6, 2, 0, 0, 0), (5, .iadd, 1, 0, 0, 0), (6, .isub, 1, 0, 0, 0), (7, .istore 5, 2, 0, 0, 0), (9, .iload 5, 2, 0, 0, 0), (11, .ifCond .ge 13, 3, 15, 0, 0), (14, .iload 5, 2, 0, 0, 0), (16, .ineg, 1, 0, 0, 0), (17, .iload_n 2, 1, 0, 0, 0), (18, .iload_n 3, 1, 0, 0, 0), (19, .invokestatic 7, 3, 79, 3, 528), (22, .ineg, 1, 0, 0, 0), (23, .ireturn, 1, 0, 0, 0), (24, .iload_n 0, 1, 0, 0, 0), (25, .iload_n 1, 1, 0, 0, 0), (26, .iload_n 2, 1, 0, 0, 0), (27, .invokestatic 13, 3, 76, 3, 534), (30, .istore 6, 2, 0, 0, 0), (32, .iload 6, 2, 0, 0, 0), (34, .iload 6, 2, 0, 0, 0), (36, .bipush 100, 2, 0, 0, 0), (38, .if_icmp .lt 19, 3, 30, 0, 0), (41, .iload_n 3, 1, 0, 0, 0), (42, .ifCond .eq 9, 3, 28, 0, 0), (45, .sipush 500, 3, 0, 0, 0), (48, .goto 11, 3, 31, 0, 0), (51, .sipush 300, 3, 0, 0, 0), (54, .goto 5, 3, 31, 0, 0), (57, .bipush 50, 2, 0, 0, 0), (59, .iadd, 1, 0, 0, 0), (60, .istore 6, 2, 0, 0, 0), (62, .iload 6, 2, 0, 0, 0), (64, .iload_n 0, 1, 0, 0, 0), (65, .iload_n 3, 1, 0, 0, 0), (66, .invokestatic 17, 3, 77, 2, 540), (69, .iadd, 1, 0, 0, 0), (70, .istore 6, 2, 0, 0, 0), (72, .iload 6, 2, 0, 0, 0), (74, .bipush 50, 2, 0, 0, 0), (76, .iload_n 2, 1, 0, 0, 0), (77, .imul, 1, 0, 0, 0), (78, .iadd, 1, 0, 0, 0), (79, .istore 6, 2, 0, 0, 0), (81, .iload 6, 2, 0, 0, 0), (83, .iload 5, 2, 0, 0, 0), (85, .iload_n 1, 1, 0, 0, 0), (86, .iload_n 2, 1, 0, 0, 0), (87, .iload_n 3, 1, 0, 0, 0), (88, .invokestatic 21, 3, 78, 3, 543), (91, .imul, 1, 0, 0, 0), (92, .iadd, 1, 0, 0, 0), (93, .ireturn, 1, 0, 0, 0)]
def cd_75 : List aE := [(0, .iload_n 0, 1, 0, 0, 0), (1, .iconst 1, 1, 0, 0, 0), (2, .if_icmp .gt 8, 3, 5, 0, 0), (5, .bipush 20, 2, 0, 0, 0), (7, .goto 5, 3, 6, 0, 0), (10, .bipush 30, 2, 0, 0, 0), (12, .ireturn, 1, 0, 0, 0)]
def cd_76 : List aE := [(0, .iload_n 0, 1, 0, 0, 0), (1, .iload_n 1, 1, 0, 0, 0), (2, .invokestatic 24, 3, 75, 1, 537), (5, .imul, 1, 0, 0, 0), (6, .iload_n 1, 1, 0, 0, 0), (7, .iconst 4, 1, 0, 0, 0), (8, .if_icmp .ne 8, 3, 9, 0, 0), (11, .bipush 10, 2, 0, 0, 0), (13, .goto 4, 3, 10, 0, 0), (16, .iconst 0, 1, 0, 0, 0), (17, .iadd, 1, 0, 0, 0), (18, .istore_n 3, 1, 0, 0, 0), (19, .iload_n 2, 1, 0, 0, 0), (20, .ifCond .ne 7, 3, 16, 0, 0), (23, .iload_n 3, 1, 0, 0, 0), (24, .goto 8, 3, 21, 0, 0), (27, .iload_n 3, 1, 0, 0, 0), (28, .iconst 2, 1, 0, 0, 0), (29, .imul, 1, 0, 0, 0), (30, .iload_n 2, 1, 0, 0, 0), (31, .imul, 1, 0, 0, 0), (32, .ireturn, 1, 0, 0, 0)]
def cd_77 : List aE := [(0, .iload_n 0, 1, 0, 0, 0), (1, .bipush 6, 2, 0, 0, 0), (3, .if_icmp .ge 5, 3, 5, 0, 0), (6, .iconst 0, 1, 0, 0, 0), (7, .ireturn, 1, 0, 0, 0), (8, .iload_n 0, 1, 0, 0, 0), (9, .bipush 6, 2, 0, 0, 0), (11, .if_icmp .ne 9, 3, 10, 0, 0), (14, .sipush 500, 3, 0, 0, 0), (17, .goto 6, 3, 11, 0, 0), (20, .sipush 1000, 3, 0, 0, 0), (23, .iload_n 1, 1, 0, 0, 0), (24, .ifCond .eq 7, 3, 15, 0, 0), (27, .iconst 3, 1, 0, 0, 0), (28, .goto 4, 3, 16, 0, 0), (31, .iconst 2, 1, 0, 0, 0), (32, .imul, 1, 0, 0, 0), (33, .iconst 2, 1, 0, 0, 0), (34, .idiv, 1, 0, 0, 0), (35, .ireturn, 1, 0, 0, 0)]
def cd_78 : List aE := [(0, .iload_n 1, 1, 0, 0, 0), (1, .ifCond .ne 8, 3, 5, 0, 0), (4, .iload_n 0, 1, 0, 0, 0), (5, .invokestatic 24, 3, 75, 1, 537), (8, .ireturn, 1, 0, 0, 0), (9, .bipush 100, 2, 0, 0, 0), (11, .iload_n 1, 1, 0, 0, 0), (12, .imul, 1, 0, 0, 0), (13, .iload_n 2, 1, 0, 0, 0), (14, .ifCond .eq 7, 3, 12, 0, 0), (17, .iconst 2, 1, 0, 0, 0), (18, .goto 4, 3, 13, 0, 0), (21, .iconst 1, 1, 0, 0, 0), (22, .imul, 1, 0, 0, 0), (23, .ireturn, 1, 0, 0, 0)]
def cd_79 : List aE := [(0, .iload_n 1, 1, 0, 0, 0), (1, .ifCond .ne 17, 3, 10, 0, 0), (4, .iload_n 0, 1, 0, 0, 0), (5, .iload_n 2, 1, 0, 0, 0), (6, .ifCond .eq 8, 3, 7, 0, 0), (9, .bipush 100, 2, 0, 0, 0), (11, .goto 5, 3, 8, 0, 0), (14, .bipush 50, 2, 0, 0, 0), (16, .imul, 1, 0, 0, 0), (17, .ireturn, 1, 0, 0, 0), (18, .iload_n 2, 1, 0, 0, 0), (19, .ifCond .eq 14, 3, 18, 0, 0), (22, .sipush 300, 3, 0, 0, 0), (25, .iload_n 0, 1, 0, 0, 0), (26, .imul, 1, 0, 0, 0), (27, .bipush 100, 2, 0, 0, 0), (29, .isub, 1, 0, 0, 0), (30, .goto 7, 3, 20, 0, 0), (33, .iload_n 0, 1, 0, 0, 0), (34, .invokestatic 28, 3, 80, 1, 531), (37, .istore_n 3, 1, 0, 0, 0), (38, .iload_n 1, 1, 0, 0, 0), (39, .iconst 1, 1, 0, 0, 0), (40, .if_icmp .ne 7, 3, 26, 0, 0), (43, .iload_n 3, 1, 0, 0, 0), (44, .goto 6, 3, 29, 0, 0), (47, .iconst 2, 1, 0, 0, 0), (48, .iload_n 3, 1, 0, 0, 0), (49, .imul, 1, 0, 0, 0), (50, .ireturn, 1, 0, 0, 0)]
def cd_80 : List aE := [(0, .iload_n 0, 1, 0, 0, 0), (1, .iconst 3, 1, 0, 0, 0), (2, .if_icmp .gt 14, 3, 9, 0, 0), (5, .sipush 200, 3, 0, 0, 0), (8, .iload_n 0, 1, 0, 0, 0), (9, .imul, 1, 0, 0, 0), (10, .bipush 100, 2, 0, 0, 0), (12, .isub, 1, 0, 0, 0), (13, .goto 12, 3, 14, 0, 0), (16, .sipush 300, 3, 0, 0, 0), (19, .iload_n 0, 1, 0, 0, 0), (20, .imul, 1, 0, 0, 0), (21, .sipush 400, 3, 0, 0, 0), (24, .isub, 1, 0, 0, 0), (25, .ireturn, 1, 0, 0, 0)]
def cd_81 : List aE := [(0, .lload_n 0, 1, 0, 0, 0), (1, .lconst 0, 1, 0, 0, 0), (2, .lcmp, 1, 0, 0, 0), (3, .ifCond .ge 8, 3, 7, 0, 0), (6, .lload_n 0, 1, 0, 0, 0), (7, .lneg, 1, 0, 0, 0), (8, .goto 4, 3, 8, 0, 0), (11, .lload_n 0, 1, 0, 0, 0), (12, .lstore_n 2, 1, 0, 0, 0), (13, .iconst 0, 1, 0, 0, 0), (14, .istore 4, 2, 0, 0, 0), (16, .iconst 0, 1, 0, 0, 0), (17, .istore 5, 2, 0, 0, 0), (19, .iload 5, 2, 0, 0, 0), (21, .getstatic 31, 3, 0, 0, 0), (24, .arraylength, 1, 0, 0, 0), (25, .if_icmp .ge 24, 3, 27, 0, 0), (28, .lload_n 2, 1, 0, 0, 0), (29, .getstatic 31, 3, 0, 0, 0), (32, .iload 5, 2, 0, 0, 0), (34, .iaload, 1, 0, 0, 0), (35, .i2l, 1, 0, 0, 0), (36, .lcmp, 1, 0, 0, 0), (37, .ifCond .lt 6, 3, 25, 0, 0), (40, .iinc 4 1, 3, 0, 0, 0), (43, .iinc 5 1, 3, 0, 0, 0), (46, .goto (-27), 3, 13, 0, 0), (49, .lload_n 0, 1, 0, 0, 0), (50, .lconst 0, 1, 0, 0, 0), (51, .lcmp, 1, 0, 0, 0), (52, .ifCond .ge 9, 3, 34, 0, 0), (55, .iload 4, 2, 0, 0, 0), (57, .ineg, 1, 0, 0, 0), (58, .goto 5, 3, 35, 0, 0), (61, .iload 4, 2, 0, 0, 0), (63, .ireturn, 1, 0, 0, 0)]
def cd_82 : List aE := [(0, .aload_n 0, 1, 0, 0, 0), (1, .invokespecial 3, 3, 1000, 0, 306), (4, .aload_n 0, 1, 0, 0, 0), (5, .new 9, 3, 1, 0, 307), (8, .dup, 1, 0, 0, 0), (9, .invokespecial 11, 3, 0, 0, 10309), (12, .putfield 12, 3, 6, 3, 351), (15, .aload_n 0, 1, 0, 0, 0), (16, .new 18, 3, 4, 0, 323), (19, .dup, 1, 0, 0, 0), (20, .invokespecial 20, 3, 43, 0, 10325), (23, .putfield 21, 3, 6, 4, 352), (26, .return_, 1, 0, 0, 0)]
def cd_83 : List aE := [(0, .aload_n 0, 1, 0, 0, 0), (1, .aload_n 1, 1, 0, 0, 0), (2, .putfield 25, 3, 6, 0, 348), (5, .aload_n 1, 1, 0, 0, 0), (6, .invokevirtual 29, 3, 23, 32, 368), (9, .aload_n 0, 1, 0, 0, 0), (10, .iload_n 2, 1, 0, 0, 0), (11, .putfield 34, 3, 6, 1, 349), (14, .aload_n 0, 1, 0, 0, 0), (15, .iload_n 3, 1, 0, 0, 0), (16, .putfield 38, 3, 6, 2, 350), (19, .aload_n 0, 1, 0, 0, 0), (20, .getfield 12, 3, 6, 3, 351), (23, .aload_n 1, 1, 0, 0, 0), (24, .invokevirtual 41, 3, 20, 32, 372), (27, .invokevirtual 45, 3, 1, 17, 373), (30, .aload_n 0, 1, 0, 0, 0), (31, .getfield 21, 3, 6, 4, 352), (34, .iconst 0, 1, 0, 0, 0), (35, .iconst 0, 1, 0, 0, 0), (36, .invokevirtual 49, 3, 44, 66, 377), (39, .return_, 1, 0, 0, 0)]
def cd_84 : List aE := [(0, .aload_n 0, 1, 0, 0, 0), (1, .aconst_null, 1, 0, 0, 0), (2, .putfield 25, 3, 6, 0, 348), (5, .return_, 1, 0, 0, 0)]
def cd_85 : List aE := [(0, .aload_n 0, 1, 0, 0, 0), (1, .getfield 25, 3, 6, 0, 348), (4, .ifnull 7, 3, 5, 0, 0), (7, .iconst 1, 1, 0, 0, 0), (8, .goto 4, 3, 6, 0, 0), (11, .iconst 0, 1, 0, 0, 0), (12, .ireturn, 1, 0, 0, 0)]
def cd_86 : List aE := [(0, .aload_n 0, 1, 0, 0, 0), (1, .getfield 25, 3, 6, 0, 348), (4, .ifnonnull 7, 3, 5, 0, 0), (7, .iconst (-1), 1, 0, 0, 0), (8, .goto 10, 3, 8, 0, 0), (11, .aload_n 0, 1, 0, 0, 0), (12, .getfield 25, 3, 6, 0, 348), (15, .invokevirtual 52, 3, 19, 32, 271), (18, .ireturn, 1, 0, 0, 0)]
def cd_87 : List aE := [(0, .iload_n 1, 1, 0, 0, 0), (1, .aload_n 0, 1, 0, 0, 0), (2, .getfield 34, 3, 6, 1, 349), (5, .if_icmp .ne 7, 3, 6, 0, 0), (8, .iconst 0, 1, 0, 0, 0), (9, .goto 16, 3, 13, 0, 0), (12, .iload_n 1, 1, 0, 0, 0), (13, .aload_n 0, 1, 0, 0, 0), (14, .getfield 38, 3, 6, 2, 350), (17, .if_icmp .ne 7, 3, 12, 0, 0), (20, .iconst 1, 1, 0, 0, 0), (21, .goto 4, 3, 13, 0, 0), (24, .iconst (-1), 1, 0, 0, 0), (25, .ireturn, 1, 0, 0, 0)]
def cd_88 : List aE := [(0, .aload_n 0, 1, 0, 0, 0), (1, .getfield 12, 3, 6, 3, 351), (4, .invokevirtual 55, 3, 8, 16, 389), (7, .ireturn, 1, 0, 0, 0)]
def cd_89 : List aE := [(0, .aload_n 0, 1, 0, 0, 0), (1, .getfield 12, 3, 6, 3, 351), (4, .invokevirtual 59, 3, 10, 16, 434), (7, .iconst (-1), 1, 0, 0, 0), (8, .if_icmp .eq 7, 3, 7, 0, 0), (11, .iconst 1, 1, 0, 0, 0), (12, .goto 4, 3, 8, 0, 0), (15, .iconst 0, 1, 0, 0, 0), (16, .ireturn, 1, 0, 0, 0)]
def cd_90 : List aE := [(0, .aload_n 0, 1, 0, 0, 0), (1, .getfield 25, 3, 6, 0, 348), (4, .ifnull 17, 3, 9, 0, 0), (7, .aload_n 0, 1, 0, 0, 0), (8, .getfield 12, 3, 6, 3, 351), (11, .invokevirtual 55, 3, 8, 16, 389), (14, .ifCond .eq 7, 3, 9, 0, 0), (17, .iconst 1, 1, 0, 0, 0), (18, .goto 4, 3, 10, 0, 0), (21, .iconst 0, 1, 0, 0, 0), (22, .ireturn, 1, 0, 0, 0)]
def cd_91 : List aE := [(0, .aload_n 0, 1, 0, 0, 0), (1, .getfield 25, 3, 6, 0, 348), (4, .ifnull 28, 3, 14, 0, 0), (7, .aload_n 0, 1, 0, 0, 0), (8, .getfield 12, 3, 6, 3, 351), (11, .invokevirtual 55, 3, 8, 16, 389), (14, .ifCond .ne 18, 3, 14, 0, 0), (17, .aload_n 0, 1, 0, 0, 0), (18, .getfield 12, 3, 6, 3, 351), (21, .iload_n 1, 1, 0, 0, 0), (22, .invokevirtual 62, 3, 5, 17, 397), (25, .ifCond .eq 7, 3, 14, 0, 0), (28, .iconst 1, 1, 0, 0, 0), (29, .goto 4, 3, 15, 0, 0), (32, .iconst 0, 1, 0, 0, 0), (33, .ireturn, 1, 0, 0, 0)]
def cd_92 : List aE := [(0, .aload_n 0, 1, 0, 0, 0), (1, .getfield 12, 3, 6, 3, 351), (4, .iload_n 1, 1, 0, 0, 0), (5, .invokevirtual 66, 3, 6, 17, 413), (8, .aload_n 0, 1, 0, 0, 0), (9, .getfield 12, 3, 6, 3, 351), (12, .invokevirtual 55, 3, 8, 16, 389), (15, .ifCond .eq 24, 3, 17, 0, 0), (18, .aload_n 0, 1, 0, 0, 0), (19, .getfield 21, 3, 6, 4, 352), (22, .aload_n 0, 1, 0, 0, 0), (23, .getfield 12, 3, 6, 3, 351), (26, .invokevirtual 69, 3, 14, 16, 417), (29, .aload_n 0, 1, 0, 0, 0), (30, .getfield 12, 3, 6, 3, 351), (33, .invokevirtual 72, 3, 12, 16, 425), (36, .invokevirtual 49, 3, 44, 66, 377), (39, .return_, 1, 0, 0, 0)]
def cd_93 : List aE := [(0, .aload_n 0, 1, 0, 0, 0), (1, .aload_n 0, 1, 0, 0, 0), (2, .getfield 21, 3, 6, 4, 352), (5, .invokevirtual 75, 3, 54, 64, 571), (8, .invokevirtual 78, 3, 101, 97, 579), (11, .aload_n 0, 1, 0, 0, 0), (12, .getfield 21, 3, 6, 4, 352), (15, .invokevirtual 82, 3, 55, 64, 592), (18, .invokestatic 85, 3, 32, 2, 603), (21, .lreturn, 1, 0, 0, 0)]
def cd_94 : List aE := [(0, .aload_n 0, 1, 0, 0, 0), (1, .invokevirtual 91, 3, 90, 96, 562), (4, .ifCond .eq 25, 3, 13, 0, 0), (7, .iload_n 1, 1, 0, 0, 0), (8, .invokestatic 94, 3, 27, 1, 566), (11, .ifCond .eq 18, 3, 13, 0, 0), (14, .aload_n 0, 1, 0, 0, 0), (15, .invokevirtual 97, 3, 93, 96, 567), (18, .iload_n 1, 1, 0, 0, 0), (19, .invokestatic 100, 3, 30, 2, 610), (22, .ifCond .eq 7, 3, 13, 0, 0), (25, .iconst 1, 1, 0, 0, 0), (26, .goto 4, 3, 14, 0, 0), (29, .iconst 0, 1, 0, 0, 0), (30, .ireturn, 1, 0, 0, 0)]
def cd_95 : List aE := [(0, .aload_n 0, 1, 0, 0, 0), (1, .getfield 21, 3, 6, 4, 352), (4, .iload_n 1, 1, 0, 0, 0), (5, .invokevirtual 104, 3, 56, 65, 615), (8, .return_, 1, 0, 0, 0)]
def cd_96 : List aE := [(0, .aload_n 0, 1, 0, 0, 0), (1, .getfield 21, 3, 6, 4, 352), (4, .invokevirtual 105, 3, 57, 64, 717), (7, .ifCond .ne 13, 3, 8, 0, 0), (10, .aload_n 0, 1, 0, 0, 0), (11, .getfield 12, 3, 6, 3, 351), (14, .invokevirtual 108, 3, 7, 16, 722), (17, .ifCond .eq 7, 3, 10, 0, 0), (20, .iconst 1, 1, 0, 0, 0), (21, .goto 4, 3, 11, 0, 0), (24, .iconst 0, 1, 0, 0, 0), (25, .ireturn, 1, 0, 0, 0)]
def cd_97 : List aE := [(0, .aload_n 0, 1, 0, 0, 0), (1, .getfield 12, 3, 6, 3, 351), (4, .iload_n 1, 1, 0, 0, 0), (5, .invokevirtual 109, 3, 3, 17, 755), (8, .ireturn, 1, 0, 0, 0)]
def cd_98 : List aE := [(0, .aload_n 0, 1, 0, 0, 0), (1, .getfield 21, 3, 6, 4, 352), (4, .iload_n 1, 1, 0, 0, 0), (5, .invokevirtual 113, 3, 46, 65, 764), (8, .ireturn, 1, 0, 0, 0)]
def cd_99 : List aE := [(0, .aload_n 0, 1, 0, 0, 0), (1, .getfield 21, 3, 6, 4, 352), (4, .invokevirtual 116, 3, 51, 64, 635), (7, .ireturn, 1, 0, 0, 0)]
def cd_100 : List aE := [(0, .bipush 13, 2, 0, 0, 0), (2, .aload_n 0, 1, 0, 0, 0), (3, .getfield 21, 3, 6, 4, 352), (6, .invokevirtual 119, 3, 52, 64, 640), (9, .isub, 1, 0, 0, 0), (10, .ireturn, 1, 0, 0, 0)]
def cd_101 : List aE := [(0, .aload_n 0, 1, 0, 0, 0), (1, .getfield 25, 3, 6, 0, 348), (4, .ifnonnull 7, 3, 5, 0, 0), (7, .lconst 0, 1, 0, 0, 0), (8, .goto 23, 3, 15, 0, 0), (11, .aload_n 0, 1, 0, 0, 0), (12, .getfield 25, 3, 6, 0, 348), (15, .iload_n 1, 1, 0, 0, 0), (16, .invokevirtual 122, 3, 17, 33, 583), (19, .aload_n 0, 1, 0, 0, 0), (20, .getfield 21, 3, 6, 4, 352), (23, .invokevirtual 125, 3, 50, 64, 587), (26, .ldc2_w 128, 3, 18446744073709551615, 0, 591), (29, .lxor, 1, 0, 0, 0), (30, .land, 1, 0, 0, 0), (31, .lreturn, 1, 0, 0, 0)]
def cd_102 : List aE := [(0, .aload_n 0, 1, 0, 0, 0), (1, .getfield 21, 3, 6, 4, 352), (4, .areturn, 1, 0, 0, 0)]
def cd_103 : List aE := [(0, .aload_n 0, 1, 0, 0, 0), (1, .getfield 25, 3, 6, 0, 348), (4, .ifnonnull 7, 3, 5, 0, 0), (7, .iconst (-1), 1, 0, 0, 0), (8, .goto 11, 3, 9, 0, 0), (11, .aload_n 0, 1, 0, 0, 0), (12, .getfield 25, 3, 6, 0, 348), (15, .iload_n 2, 1, 0, 0, 0), (16, .invokevirtual 130, 3, 18, 33, 777), (19, .istore_n 3, 1, 0, 0, 0), (20, .iload_n 3, 1, 0, 0, 0), (21, .iload_n 1, 1, 0, 0, 0), (22, .if_icmp .eq 17, 3, 19, 0, 0), (25, .aload_n 0, 1, 0, 0, 0), (26, .getfield 21, 3, 6, 4, 352), (29, .invokevirtual 125, 3, 50, 64, 587), (32, .iload_n 2, 1, 0, 0, 0), (33, .invokestatic 100, 3, 30, 2, 610), (36, .ifCond .eq 5, 3, 21, 0, 0), (39, .iconst 1, 1, 0, 0, 0), (40, .ireturn, 1, 0, 0, 0), (41, .aload_n 0, 1, 0, 0, 0), (42, .getfield 21, 3, 6, 4, 352), (45, .invokevirtual 133, 3, 45, 64, 778), (48, .ifCond .le 18, 3, 32, 0, 0), (51, .iload_n 3, 1, 0, 0, 0), (52, .aload_n 0, 1, 0, 0, 0), (53, .getfield 21, 3, 6, 4, 352), (56, .invokevirtual 136, 3, 48, 64, 779), (59, .if_icmp .ne 7, 3, 32, 0, 0), (62, .iconst 1, 1, 0, 0, 0), (63, .goto 4, 3, 33, 0, 0), (66, .iconst 0, 1, 0, 0, 0), (67, .ireturn, 1, 0, 0, 0)]
def cd_104 : List aE := [(0, .aload_n 0, 1, 0, 0, 0), (1, .getfield 21, 3, 6, 4, 352), (4, .iload_n 1, 1, 0, 0, 0), (5, .iload_n 2, 1, 0, 0, 0), (6, .invokevirtual 139, 3, 61, 66, 791), (9, .ireturn, 1, 0, 0, 0)]
def cd_105 : List aE := [(0, .aload_n 0, 1, 0, 0, 0), (1, .invokevirtual 91, 3, 90, 96, 562), (4, .istore_n 2, 1, 0, 0, 0), (5, .iload_n 1, 1, 0, 0, 0), (6, .tableswitch 214 0 13 #[70, 75, 80, 85, 95, 117, 125, 133, 149, 157, 166, 175, 183, 191], 70, 0, 0, 0), (76, .aload_n 0, 1, 0, 0, 0), (77, .invokevirtual 143, 3, 86, 96, 445), (80, .ireturn, 1, 0, 0, 0), (81, .aload_n 0, 1, 0, 0, 0), (82, .getfield 34, 3, 6, 1, 349), (85, .ireturn, 1, 0, 0, 0), (86, .aload_n 0, 1, 0, 0, 0), (87, .getfield 38, 3, 6, 2, 350), (90, .ireturn, 1, 0, 0, 0), (91, .iload_n 2, 1, 0, 0, 0), (92, .ifCond .eq 7, 3, 18, 0, 0), (95, .iconst 2, 1, 0, 0, 0), (96, .goto 4, 3, 19, 0, 0), (99, .iconst 1, 1, 0, 0, 0), (100, .ireturn, 1, 0, 0, 0), (101, .iload_n 2, 1, 0, 0, 0), (102, .ifCond .eq 13, 3, 26, 0, 0), (105, .aload_n 0, 1, 0, 0, 0), (106, .getfield 21, 3, 6, 4, 352), (109, .invokevirtual 75, 3, 54, 64, 571), (112, .goto 10, 3, 29, 0, 0), (115, .aload_n 0, 1, 0, 0, 0), (116, .getfield 12, 3, 6, 3, 351), (119, .invokevirtual 146, 3, 4, 16, 738), (122, .ireturn, 1, 0, 0, 0), (123, .aload_n 0, 1, 0, 0, 0), (124, .getfield 12, 3, 6, 3, 351), (127, .invokevirtual 147, 3, 11, 16, 492), (130, .ireturn, 1, 0, 0, 0), (131, .aload_n 0, 1, 0, 0, 0), (132, .getfield 12, 3, 6, 3, 351), (135, .invokevirtual 72, 3, 12, 16, 425), (138, .ireturn, 1, 0, 0, 0), (139, .iload_n 2, 1, 0, 0, 0), (140, .ifCond .eq 13, 3, 44, 0, 0), (143, .aload_n 0, 1, 0, 0, 0), (144, .getfield 21, 3, 6, 4, 352), (147, .invokevirtual 150, 3, 47, 64, 488), (150, .goto 4, 3, 45, 0, 0), (153, .iconst (-1), 1, 0, 0, 0), (154, .ireturn, 1, 0, 0, 0), (155, .aload_n 0, 1, 0, 0, 0), (156, .getfield 12, 3, 6, 3, 351), (159, .invokevirtual 151, 3, 13, 16, 496), (162, .ireturn, 1, 0, 0, 0), (163, .aload_n 0, 1, 0, 0, 0), (164, .getfield 21, 3, 6, 4, 352), (167, .iconst 0, 1, 0, 0, 0), (168, .invokevirtual 154, 3, 60, 65, 504), (171, .ireturn, 1, 0, 0, 0), (172, .aload_n 0, 1, 0, 0, 0), (173, .getfield 21, 3, 6, 4, 352), (176, .iconst 1, 1, 0, 0, 0), (177, .invokevirtual 154, 3, 60, 65, 504), (180, .ireturn, 1, 0, 0, 0), (181, .aload_n 0, 1, 0, 0, 0), (182, .getfield 21, 3, 6, 4, 352), (185, .invokevirtual 116, 3, 51, 64, 635), (188, .ireturn, 1, 0, 0, 0), (189, .aload_n 0, 1, 0, 0, 0), (190, .getfield 12, 3, 6, 3, 351), (193, .invokevirtual 157, 3, 2, 16, 742), (196, .ireturn, 1, 0, 0, 0), (197, .iload_n 2, 1, 0, 0, 0), (198, .ifCond .eq 20, 3, 77, 0, 0), (201, .aload_n 0, 1, 0, 0, 0), (202, .getfield 21, 3, 6, 4, 352), (205, .aload_n 0, 1, 0, 0, 0), (206, .getfield 21, 3, 6, 4, 352), (209, .invokevirtual 119, 3, 52, 64, 640), (212, .invokevirtual 158, 3, 53, 65, 746), (215, .goto 4, 3, 78, 0, 0), (218, .iconst (-1), 1, 0, 0, 0), (219, .ireturn, 1, 0, 0, 0), (220, .iconst (-1), 1, 0, 0, 0), (221, .ireturn, 1, 0, 0, 0)]
def cd_106 : List aE := [(0, .new 161, 3, 5, 0, 443), (3, .dup, 1, 0, 0, 0), (4, .aload_n 0, 1, 0, 0, 0), (5, .invokevirtual 143, 3, 86, 96, 445), (8, .aload_n 0, 1, 0, 0, 0), (9, .getfield 34, 3, 6, 1, 349), (12, .aload_n 0, 1, 0, 0, 0), (13, .getfield 38, 3, 6, 2, 350), (16, .invokespecial 163, 3, 62, 3, 446), (19, .astore_n 2, 1, 0, 0, 0), (20, .aload_n 0, 1, 0, 0, 0), (21, .getfield 25, 3, 6, 0, 348), (24, .ifnull 70, 3, 48, 0, 0), (27, .aload_n 0, 1, 0, 0, 0), (28, .invokevirtual 166, 3, 89, 96, 487), (31, .ifCond .eq 63, 3, 48, 0, 0), (34, .aload_n 0, 1, 0, 0, 0), (35, .getfield 21, 3, 6, 4, 352), (38, .invokevirtual 150, 3, 47, 64, 488), (41, .istore_n 3, 1, 0, 0, 0), (42, .aload_n 2, 1, 0, 0, 0), (43, .aload_n 0, 1, 0, 0, 0), (44, .getfield 12, 3, 6, 3, 351), (47, .invokevirtual 147, 3, 11, 16, 492), (50, .aload_n 0, 1, 0, 0, 0), (51, .getfield 12, 3, 6, 3, 351), (54, .invokevirtual 72, 3, 12, 16, 425), (57, .aload_n 0, 1, 0, 0, 0), (58, .getfield 12, 3, 6, 3, 351), (61, .invokevirtual 151, 3, 13, 16, 496), (64, .invokevirtual 169, 3, 63, 83, 500), (67, .aload_n 2, 1, 0, 0, 0), (68, .iload_n 3, 1, 0, 0, 0), (69, .aload_n 0, 1, 0, 0, 0), (70, .getfield 21, 3, 6, 4, 352), (73, .iload_n 3, 1, 0, 0, 0), (74, .iconst 2, 1, 0, 0, 0), (75, .irem, 1, 0, 0, 0), (76, .invokevirtual 154, 3, 60, 65, 504), (79, .iload_n 1, 1, 0, 0, 0), (80, .iadd, 1, 0, 0, 0), (81, .aload_n 0, 1, 0, 0, 0), (82, .getfield 25, 3, 6, 0, 348), (85, .iload_n 3, 1, 0, 0, 0), (86, .iconst 2, 1, 0, 0, 0), (87, .irem, 1, 0, 0, 0), (88, .invokevirtual 172, 3, 22, 33, 516), (91, .invokevirtual 175, 3, 64, 83, 521), (94, .aload_n 2, 1, 0, 0, 0), (95, .areturn, 1, 0, 0, 0)]
def cd_107 : List aE := [(0, .aload_n 0, 1, 0, 0, 0), (1, .invokespecial 3, 3, 1000, 0, 78), (4, .aload_n 0, 1, 0, 0, 0), (5, .bipush 36, 2, 0, 0, 0), (7, .anewarray 9, 3, 4, 0, 81), (10, .putfield 11, 3, 7, 0, 152), (13, .aload_n 0, 1, 0, 0, 0), (14, .bipush 10, 2, 0, 0, 0), (16, .anewarray 15, 3, 5, 0, 83), (19, .putfield 17, 3, 7, 2, 154), (22, .aload_n 0, 1, 0, 0, 0), (23, .sipush 210, 3, 0, 0, 0), (26, .anewarray 21, 3, 6, 0, 85), (29, .putfield 23, 3, 7, 3, 155), (32, .aload_n 0, 1, 0, 0, 0), (33, .bipush 52, 2, 0, 0, 0), (35, .newarray .int, 2, 0, 0, 0), (37, .putfield 27, 3, 7, 5, 157), (40, .aload_n 0, 1, 0, 0, 0), (41, .new 31, 3, 3, 0, 87), (44, .dup, 1, 0, 0, 0), (45, .invokespecial 33, 3, 34, 0, 10089), (48, .putfield 34, 3, 7, 6, 158), (51, .aload_n 0, 1, 0, 0, 0), (52, .new 38, 3, 0, 0, 120), (55, .dup, 1, 0, 0, 0), (56, .invokespecial 40, 3, 999, 0, 122), (59, .putfield 41, 3, 7, 7, 159), (62, .return_, 1, 0, 0, 0)]
def cd_108 : List aE := [(0, .aload_n 0, 1, 0, 0, 0), (1, .getfield 45, 3, 7, 1, 153), (4, .aload_n 0, 1, 0, 0, 0), (5, .getfield 11, 3, 7, 0, 152), (8, .arraylength, 1, 0, 0, 0), (9, .if_icmp .lt 5, 3, 8, 0, 0), (12, .iconst (-1), 1, 0, 0, 0), (13, .ireturn, 1, 0, 0, 0), (14, .aload_n 0, 1, 0, 0, 0), (15, .iload_n 1, 1, 0, 0, 0), (16, .invokevirtual 49, 3, 138, 113, 181), (19, .new 9, 3, 2, 0, 81), (22, .dup, 1, 0, 0, 0), (23, .aload_n 0, 1, 0, 0, 0), (24, .getfield 45, 3, 7, 1, 153), (27, .iconst 1, 1, 0, 0, 0), (28, .iadd, 1, 0, 0, 0), (29, .invokespecial 53, 3, 15, 1, 187), (32, .astore_n 2, 1, 0, 0, 0), (33, .iconst 0, 1, 0, 0, 0), (34, .istore_n 3, 1, 0, 0, 0), (35, .iload_n 3, 1, 0, 0, 0), (36, .aload_n 0, 1, 0, 0, 0), (37, .getfield 27, 3, 7, 5, 157), (40, .arraylength, 1, 0, 0, 0), (41, .if_icmp .ge 22, 3, 37, 0, 0), (44, .aload_n 2, 1, 0, 0, 0), (45, .iload_n 3, 1, 0, 0, 0), (46, .iconst 4, 1, 0, 0, 0), (47, .irem, 1, 0, 0, 0), (48, .aload_n 0, 1, 0, 0, 0), (49, .getfield 27, 3, 7, 5, 157), (52, .iload_n 3, 1, 0, 0, 0), (53, .iaload, 1, 0, 0, 0), (54, .invokevirtual 55, 3, 16, 34, 204), (57, .iinc 3 1, 3, 0, 0, 0), (60, .goto (-25), 3, 21, 0, 0), (63, .aload_n 0, 1, 0, 0, 0), (64, .getfield 11, 3, 7, 0, 152), (67, .aload_n 0, 1, 0, 0, 0), (68, .getfield 45, 3, 7, 1, 153), (71, .aload_n 2, 1, 0, 0, 0), (72, .aastore, 1, 0, 0, 0), (73, .aload_n 0, 1, 0, 0, 0), (74, .dup, 1, 0, 0, 0), (75, .getfield 45, 3, 7, 1, 153), (78, .iconst 1, 1, 0, 0, 0), (79, .iadd, 1, 0, 0, 0), (80, .putfield 45, 3, 7, 1, 153), (83, .aload_n 0, 1, 0, 0, 0), (84, .getfield 45, 3, 7, 1, 153), (87, .ireturn, 1, 0, 0, 0)]
def cd_109 : List aE := [(0, .aload_n 0, 1, 0, 0, 0), (1, .iload_n 1, 1, 0, 0, 0), (2, .invokevirtual 59, 3, 139, 113, 216), (5, .astore 4, 2, 0, 0, 0), (7, .aload 4, 2, 0, 0, 0), (9, .ifnull 25, 3, 15, 0, 0), (12, .aload 4, 2, 0, 0, 0), (14, .invokevirtual 63, 3, 24, 32, 220), (17, .ifCond .ne 17, 3, 15, 0, 0), (20, .iload_n 2, 1, 0, 0, 0), (21, .invokestatic 67, 3, 27, 1, 224), (24, .ifCond .eq 10, 3, 15, 0, 0), (27, .iload_n 3, 1, 0, 0, 0), (28, .invokestatic 67, 3, 27, 1, 224), (31, .ifCond .ne 5, 3, 17, 0, 0), (34, .iconst 0, 1, 0, 0, 0), (35, .ireturn, 1, 0, 0, 0), (36, .aload 4, 2, 0, 0, 0), (38, .iload_n 2, 1, 0, 0, 0), (39, .invokevirtual 73, 3, 18, 33, 227), (42, .istore 5, 2, 0, 0, 0), (44, .aload 4, 2, 0, 0, 0), (46, .iload_n 3, 1, 0, 0, 0), (47, .invokevirtual 73, 3, 18, 33, 227), (50, .istore 6, 2, 0, 0, 0), (52, .aload 4, 2, 0, 0, 0), (54, .iload 6, 2, 0, 0, 0), (56, .iload_n 2, 1, 0, 0, 0), (57, .invokevirtual 55, 3, 16, 34, 204), (60, .aload 4, 2, 0, 0, 0), (62, .iload 5, 2, 0, 0, 0), (64, .iload_n 3, 1, 0, 0, 0), (65, .invokevirtual 55, 3, 16, 34, 204), (68, .iconst 1, 1, 0, 0, 0), (69, .ireturn, 1, 0, 0, 0)]
def cd_110 : List aE := [(0, .aload_n 0, 1, 0, 0, 0), (1, .iload_n 1, 1, 0, 0, 0), (2, .invokevirtual 59, 3, 139, 113, 216), (5, .astore_n 3, 1, 0, 0, 0), (6, .aload_n 3, 1, 0, 0, 0), (7, .ifnull 10, 3, 9, 0, 0), (10, .iload_n 2, 1, 0, 0, 0), (11, .invokestatic 67, 3, 27, 1, 224), (14, .ifCond .ne 7, 3, 11, 0, 0), (17, .iconst (-1), 1, 0, 0, 0), (18, .goto 8, 3, 14, 0, 0), (21, .aload_n 3, 1, 0, 0, 0), (22, .iload_n 2, 1, 0, 0, 0), (23, .invokevirtual 73, 3, 18, 33, 227), (26, .ireturn, 1, 0, 0, 0)]
def cd_111 : List aE := [(0, .aload_n 0, 1, 0, 0, 0), (1, .iload_n 1, 1, 0, 0, 0), (2, .invokevirtual 59, 3, 139, 113, 216), (5, .astore_n 3, 1, 0, 0, 0), (6, .aload_n 3, 1, 0, 0, 0), (7, .ifnonnull 5, 3, 8, 0, 0), (10, .iconst (-1), 1, 0, 0, 0), (11, .ireturn, 1, 0, 0, 0), (12, .iload_n 2, 1, 0, 0, 0), (13, .tableswitch 52 0 3 #[31, 36, 41, 46], 31, 0, 0, 0), (44, .aload_n 3, 1, 0, 0, 0), (45, .invokevirtual 77, 3, 20, 32, 243), (48, .ireturn, 1, 0, 0, 0), (49, .aload_n 3, 1, 0, 0, 0), (50, .invokevirtual 81, 3, 21, 32, 247), (53, .ireturn, 1, 0, 0, 0), (54, .aload_n 3, 1, 0, 0, 0), (55, .invokevirtual 84, 3, 26, 32, 251), (58, .ireturn, 1, 0, 0, 0), (59, .aload_n 0, 1, 0, 0, 0), (60, .iload_n 1, 1, 0, 0, 0), (61, .invokevirtual 87, 3, 143, 113, 255), (64, .ireturn, 1, 0, 0, 0), (65, .iconst (-1), 1, 0, 0, 0), (66, .ireturn, 1, 0, 0, 0)]
def cd_112 : List aE := [(0, .aload_n 0, 1, 0, 0, 0), (1, .iload_n 2, 1, 0, 0, 0), (2, .invokevirtual 59, 3, 139, 113, 216), (5, .astore 5, 2, 0, 0, 0), (7, .aload 5, 2, 0, 0, 0), (9, .ifnull 31, 3, 19, 0, 0), (12, .iload_n 1, 1, 0, 0, 0), (13, .ifCond .lt 27, 3, 19, 0, 0), (16, .iload_n 1, 1, 0, 0, 0), (17, .aload_n 0, 1, 0, 0, 0), (18, .getfield 17, 3, 7, 2, 154), (21, .arraylength, 1, 0, 0, 0), (22, .if_icmp .ge 18, 3, 19, 0, 0), (25, .iload_n 3, 1, 0, 0, 0), (26, .invokestatic 90, 3, 145, 1, 279), (29, .ifCond .eq 11, 3, 19, 0, 0), (32, .iload 4, 2, 0, 0, 0), (34, .invokestatic 90, 3, 145, 1, 279), (37, .ifCond .ne 5, 3, 21, 0, 0), (40, .iconst 0, 1, 0, 0, 0), (41, .ireturn, 1, 0, 0, 0), (42, .iload_n 3, 1, 0, 0, 0), (43, .iload 4, 2, 0, 0, 0), (45, .if_icmp .eq 13, 3, 28, 0, 0), (48, .aload_n 0, 1, 0, 0, 0), (49, .getfield 93, 3, 7, 4, 156), (52, .sipush 200, 3, 0, 0, 0), (55, .if_icmp .lt 5, 3, 30, 0, 0), (58, .iconst 0, 1, 0, 0, 0), (59, .ireturn, 1, 0, 0, 0), (60, .aload_n 0, 1, 0, 0, 0), (61, .iload_n 1, 1, 0, 0, 0), (62, .invokevirtual 96, 3, 141, 113, 259), (65, .ifnonnull 12, 3, 39, 0, 0), (68, .aload_n 0, 1, 0, 0, 0), (69, .iload_n 2, 1, 0, 0, 0), (70, .invokevirtual 87, 3, 143, 113, 255), (73, .iconst (-1), 1, 0, 0, 0), (74, .if_icmp .eq 5, 3, 41, 0, 0), (77, .iconst 0, 1, 0, 0, 0), (78, .ireturn, 1, 0, 0, 0), (79, .aload_n 0, 1, 0, 0, 0), (80, .iload_n 2, 1, 0, 0, 0), (81, .iload_n 3, 1, 0, 0, 0), (82, .invokevirtual 100, 3, 147, 114, 282), (85, .ifCond .eq 13, 3, 51, 0, 0), (88, .aload_n 0, 1, 0, 0, 0), (89, .iload_n 2, 1, 0, 0, 0), (90, .iload 4, 2, 0, 0, 0), (92, .invokevirtual 100, 3, 147, 114, 282), (95, .ifCond .ne 5, 3, 53, 0, 0), (98, .iconst 0, 1, 0, 0, 0), (99, .ireturn, 1, 0, 0, 0), (100, .aload_n 0, 1, 0, 0, 0), (101, .getfield 17, 3, 7, 2, 154), (104, .iload_n 1, 1, 0, 0, 0), (105, .aaload, 1, 0, 0, 0), (106, .astore 6, 2, 0, 0, 0), (108, .aload 6, 2, 0, 0, 0), (110, .ifnonnull 20, 3, 69, 0, 0), (113, .new 15, 3, 6, 0, 83), (116, .dup, 1, 0, 0, 0), (117, .invokespecial 104, 3, 82, 0, 10303), (120, .astore 6, 2, 0, 0, 0), (122, .aload_n 0, 1, 0, 0, 0), (123, .getfield 17, 3, 7, 2, 154), (126, .iload_n 1, 1, 0, 0, 0), (127, .aload 6, 2, 0, 0, 0), (129, .aastore, 1, 0, 0, 0), (130, .aload 6, 2, 0, 0, 0), (132, .aload 5, 2, 0, 0, 0), (134, .iload_n 3, 1, 0, 0, 0), (135, .iload 4, 2, 0, 0, 0), (137, .invokevirtual 105, 3, 83, 99, 364), (140, .iconst 1, 1, 0, 0, 0), (141, .ireturn, 1, 0, 0, 0)]
def cd_113 : List aE := [(0, .aload_n 0, 1, 0, 0, 0), (1, .iload_n 1, 1, 0, 0, 0), (2, .invokevirtual 96, 3, 141, 113, 259), (5, .astore_n 3, 1, 0, 0, 0), (6, .aload_n 3, 1, 0, 0, 0), (7, .ifnull 11, 3, 10, 0, 0), (10, .aload_n 3, 1, 0, 0, 0), (11, .iload_n 2, 1, 0, 0, 0), (12, .invokevirtual 109, 3, 91, 97, 385), (15, .ifCond .ne 5, 3, 12, 0, 0), (18, .iconst (-1), 1, 0, 0, 0), (19, .ireturn, 1, 0, 0, 0), (20, .aload_n 3, 1, 0, 0, 0), (21, .iload_n 2, 1, 0, 0, 0), (22, .invokevirtual 112, 3, 92, 97, 409), (25, .aload_n 3, 1, 0, 0, 0), (26, .invokevirtual 115, 3, 88, 96, 426), (29, .ifCond .ne 5, 3, 20, 0, 0), (32, .iconst 0, 1, 0, 0, 0), (33, .ireturn, 1, 0, 0, 0), (34, .aload_n 3, 1, 0, 0, 0), (35, .invokevirtual 118, 3, 89, 96, 430), (38, .ifCond .eq 5, 3, 25, 0, 0), (41, .iconst 1, 1, 0, 0, 0), (42, .ireturn, 1, 0, 0, 0), (43, .aload_n 0, 1, 0, 0, 0), (44, .aload_n 3, 1, 0, 0, 0), (45, .iconst 0, 1, 0, 0, 0), (46, .invokevirtual 121, 3, 148, 114, 435), (49, .iconst 2, 1, 0, 0, 0), (50, .ireturn, 1, 0, 0, 0)]
def cd_114 : List aE := [(0, .aload_n 0, 1, 0, 0, 0), (1, .iload_n 1, 1, 0, 0, 0), (2, .invokevirtual 96, 3, 141, 113, 259), (5, .astore_n 3, 1, 0, 0, 0), (6, .aload_n 3, 1, 0, 0, 0), (7, .ifnull 11, 3, 10, 0, 0), (10, .aload_n 3, 1, 0, 0, 0), (11, .iload_n 2, 1, 0, 0, 0), (12, .invokevirtual 125, 3, 94, 97, 558), (15, .ifCond .ne 5, 3, 12, 0, 0), (18, .iconst (-1), 1, 0, 0, 0), (19, .ireturn, 1, 0, 0, 0), (20, .aload_n 3, 1, 0, 0, 0), (21, .iload_n 2, 1, 0, 0, 0), (22, .invokevirtual 128, 3, 95, 97, 611), (25, .aload_n 3, 1, 0, 0, 0), (26, .invokevirtual 131, 3, 99, 96, 631), (29, .ifCond .eq 5, 3, 20, 0, 0), (32, .iconst 0, 1, 0, 0, 0), (33, .ireturn, 1, 0, 0, 0), (34, .aload_n 3, 1, 0, 0, 0), (35, .invokevirtual 134, 3, 100, 96, 636), (38, .ifCond .le 5, 3, 25, 0, 0), (41, .iconst 1, 1, 0, 0, 0), (42, .ireturn, 1, 0, 0, 0), (43, .aload_n 0, 1, 0, 0, 0), (44, .aload_n 3, 1, 0, 0, 0), (45, .iconst 0, 1, 0, 0, 0), (46, .invokevirtual 121, 3, 148, 114, 435), (49, .iconst 2, 1, 0, 0, 0), (50, .ireturn, 1, 0, 0, 0)]
def cd_115 : List aE := [(0, .aload_n 0, 1, 0, 0, 0), (1, .iload_n 1, 1, 0, 0, 0), (2, .invokevirtual 137, 3, 142, 113, 645), (5, .astore_n 3, 1, 0, 0, 0), (6, .aload_n 3, 1, 0, 0, 0), (7, .ifnull 15, 3, 12, 0, 0), (10, .aload_n 0, 1, 0, 0, 0), (11, .getfield 34, 3, 7, 6, 158), (14, .aload_n 3, 1, 0, 0, 0), (15, .invokevirtual 140, 3, 36, 49, 650), (18, .iload_n 2, 1, 0, 0, 0), (19, .if_icmp .eq 5, 3, 14, 0, 0), (22, .iconst 0, 1, 0, 0, 0), (23, .ireturn, 1, 0, 0, 0), (24, .aload_n 0, 1, 0, 0, 0), (25, .aload_n 3, 1, 0, 0, 0), (26, .iload_n 2, 1, 0, 0, 0), (27, .invokevirtual 121, 3, 148, 114, 435), (30, .iconst 1, 1, 0, 0, 0), (31, .ireturn, 1, 0, 0, 0)]
def cd_116 : List aE := [(0, .aload_n 0, 1, 0, 0, 0), (1, .iload_n 1, 1, 0, 0, 0), (2, .invokevirtual 96, 3, 141, 113, 259), (5, .astore_n 2, 1, 0, 0, 0), (6, .aload_n 2, 1, 0, 0, 0), (7, .ifnull 14, 3, 11, 0, 0), (10, .aload_n 2, 1, 0, 0, 0), (11, .invokevirtual 144, 3, 96, 96, 713), (14, .ifCond .eq 7, 3, 11, 0, 0), (17, .iconst 1, 1, 0, 0, 0), (18, .goto 4, 3, 12, 0, 0), (21, .iconst 0, 1, 0, 0, 0), (22, .ireturn, 1, 0, 0, 0)]
def cd_117 : List aE := [(0, .aload_n 0, 1, 0, 0, 0), (1, .iload_n 1, 1, 0, 0, 0), (2, .invokevirtual 96, 3, 141, 113, 259), (5, .astore_n 2, 1, 0, 0, 0), (6, .aload_n 2, 1, 0, 0, 0), (7, .ifnonnull 5, 3, 8, 0, 0), (10, .iconst 0, 1, 0, 0, 0), (11, .ireturn, 1, 0, 0, 0), (12, .aload_n 2, 1, 0, 0, 0), (13, .invokevirtual 147, 3, 84, 96, 550), (16, .iconst 1, 1, 0, 0, 0), (17, .ireturn, 1, 0, 0, 0)]
def cd_118 : List aE := [(0, .aload_n 0, 1, 0, 0, 0), (1, .iload_n 1, 1, 0, 0, 0), (2, .invokevirtual 96, 3, 141, 113, 259), (5, .astore_n 3, 1, 0, 0, 0), (6, .aload_n 3, 1, 0, 0, 0), (7, .ifnull 9, 3, 10, 0, 0), (10, .aload_n 3, 1, 0, 0, 0), (11, .iload_n 2, 1, 0, 0, 0), (12, .invokevirtual 150, 3, 105, 97, 734), (15, .ireturn, 1, 0, 0, 0), (16, .iload_n 1, 1, 0, 0, 0), (17, .ifCond .lt 13, 3, 17, 0, 0), (20, .iload_n 1, 1, 0, 0, 0), (21, .bipush 10, 2, 0, 0, 0), (23, .if_icmp .ge 7, 3, 17, 0, 0), (26, .iconst 1, 1, 0, 0, 0), (27, .goto 4, 3, 18, 0, 0), (30, .iconst 0, 1, 0, 0, 0), (31, .istore 4, 2, 0, 0, 0), (33, .iload 4, 2, 0, 0, 0), (35, .ifCond .eq 12, 3, 26, 0, 0), (38, .iload_n 2, 1, 0, 0, 0), (39, .iconst 3, 1, 0, 0, 0), (40, .if_icmp .ne 7, 3, 26, 0, 0), (43, .iconst 0, 1, 0, 0, 0), (44, .goto 4, 3, 27, 0, 0), (47, .iconst (-1), 1, 0, 0, 0), (48, .ireturn, 1, 0, 0, 0)]
def cd_119 : List aE := [(0, .aload_n 0, 1, 0, 0, 0), (1, .iload_n 1, 1, 0, 0, 0), (2, .invokevirtual 96, 3, 141, 113, 259), (5, .astore_n 3, 1, 0, 0, 0), (6, .aload_n 3, 1, 0, 0, 0), (7, .ifnonnull 7, 3, 8, 0, 0), (10, .iconst (-1), 1, 0, 0, 0), (11, .goto 8, 3, 11, 0, 0), (14, .aload_n 3, 1, 0, 0, 0), (15, .iload_n 2, 1, 0, 0, 0), (16, .invokevirtual 153, 3, 97, 97, 751), (19, .ireturn, 1, 0, 0, 0)]
def cd_120 : List aE := [(0, .aload_n 0, 1, 0, 0, 0), (1, .iload_n 1, 1, 0, 0, 0), (2, .invokevirtual 96, 3, 141, 113, 259), (5, .astore_n 3, 1, 0, 0, 0), (6, .aload_n 3, 1, 0, 0, 0), (7, .ifnonnull 7, 3, 8, 0, 0), (10, .iconst (-1), 1, 0, 0, 0), (11, .goto 8, 3, 11, 0, 0), (14, .aload_n 3, 1, 0, 0, 0), (15, .iload_n 2, 1, 0, 0, 0), (16, .invokevirtual 156, 3, 98, 97, 760), (19, .ireturn, 1, 0, 0, 0)]
def cd_121 : List aE := [(0, .aload_n 0, 1, 0, 0, 0), (1, .iload_n 1, 1, 0, 0, 0), (2, .invokevirtual 96, 3, 141, 113, 259), (5, .astore_n 3, 1, 0, 0, 0), (6, .aload_n 3, 1, 0, 0, 0), (7, .ifnull 23, 3, 16, 0, 0), (10, .aload_n 3, 1, 0, 0, 0), (11, .iload_n 2, 1, 0, 0, 0), (12, .invokevirtual 109, 3, 91, 97, 385), (15, .ifCond .ne 11, 3, 14, 0, 0), (18, .aload_n 3, 1, 0, 0, 0), (19, .iload_n 2, 1, 0, 0, 0), (20, .invokevirtual 125, 3, 94, 97, 558), (23, .ifCond .eq 7, 3, 16, 0, 0), (26, .iconst 1, 1, 0, 0, 0), (27, .goto 4, 3, 17, 0, 0), (30, .iconst 0, 1, 0, 0, 0), (31, .ireturn, 1, 0, 0, 0)]
def cd_122 : List aE := [(0, .aload_n 0, 1, 0, 0, 0), (1, .iload_n 1, 1, 0, 0, 0), (2, .invokevirtual 96, 3, 141, 113, 259), (5, .astore 4, 2, 0, 0, 0), (7, .aload 4, 2, 0, 0, 0), (9, .ifnull 19, 3, 14, 0, 0), (12, .iload_n 2, 1, 0, 0, 0), (13, .ifCond .lt 15, 3, 14, 0, 0), (16, .iload_n 2, 1, 0, 0, 0), (17, .iconst 4, 1, 0, 0, 0), (18, .if_icmp .ge 10, 3, 14, 0, 0), (21, .iload_n 3, 1, 0, 0, 0), (22, .invokestatic 67, 3, 27, 1, 224), (25, .ifCond .ne 5, 3, 16, 0, 0), (28, .iconst 0, 1, 0, 0, 0), (29, .ireturn, 1, 0, 0, 0), (30, .aload 4, 2, 0, 0, 0), (32, .iload_n 2, 1, 0, 0, 0), (33, .iload_n 3, 1, 0, 0, 0), (34, .invokevirtual 159, 3, 103, 98, 773), (37, .ireturn, 1, 0, 0, 0)]
def cd_123 : List aE := [(0, .aload_n 0, 1, 0, 0, 0), (1, .iload_n 1, 1, 0, 0, 0), (2, .invokevirtual 96, 3, 141, 113, 259), (5, .astore 4, 2, 0, 0, 0), (7, .aload 4, 2, 0, 0, 0), (9, .ifnull 26, 3, 18, 0, 0), (12, .iload_n 2, 1, 0, 0, 0), (13, .ifCond .lt 22, 3, 18, 0, 0), (16, .iload_n 2, 1, 0, 0, 0), (17, .iconst 4, 1, 0, 0, 0), (18, .if_icmp .ge 17, 3, 18, 0, 0), (21, .aload 4, 2, 0, 0, 0), (23, .iload_n 2, 1, 0, 0, 0), (24, .iload_n 3, 1, 0, 0, 0), (25, .invokevirtual 162, 3, 104, 98, 787), (28, .ifCond .eq 7, 3, 18, 0, 0), (31, .iconst 1, 1, 0, 0, 0), (32, .goto 4, 3, 19, 0, 0), (35, .iconst 0, 1, 0, 0, 0), (36, .ireturn, 1, 0, 0, 0)]
def cd_124 : List aE := [(0, .aload_n 0, 1, 0, 0, 0), (1, .iload_n 1, 1, 0, 0, 0), (2, .invokevirtual 137, 3, 142, 113, 645), (5, .astore_n 2, 1, 0, 0, 0), (6, .aload_n 2, 1, 0, 0, 0), (7, .ifnonnull 7, 3, 8, 0, 0), (10, .iconst (-1), 1, 0, 0, 0), (11, .goto 11, 3, 12, 0, 0), (14, .aload_n 0, 1, 0, 0, 0), (15, .getfield 34, 3, 7, 6, 158), (18, .aload_n 2, 1, 0, 0, 0), (19, .invokevirtual 140, 3, 36, 49, 650), (22, .ireturn, 1, 0, 0, 0)]
def cd_125 : List aE := [(0, .aload_n 0, 1, 0, 0, 0), (1, .iload_n 1, 1, 0, 0, 0), (2, .invokevirtual 137, 3, 142, 113, 645), (5, .astore_n 2, 1, 0, 0, 0), (6, .aload_n 2, 1, 0, 0, 0), (7, .ifnonnull 7, 3, 8, 0, 0), (10, .iconst (-1), 1, 0, 0, 0), (11, .goto 11, 3, 12, 0, 0), (14, .aload_n 0, 1, 0, 0, 0), (15, .getfield 34, 3, 7, 6, 158), (18, .aload_n 2, 1, 0, 0, 0), (19, .invokevirtual 165, 3, 37, 49, 803), (22, .ireturn, 1, 0, 0, 0)]
def cd_126 : List aE := [(0, .aload_n 0, 1, 0, 0, 0), (1, .iload_n 1, 1, 0, 0, 0), (2, .invokevirtual 168, 3, 140, 113, 290), (5, .astore_n 3, 1, 0, 0, 0), (6, .aload_n 3, 1, 0, 0, 0), (7, .ifnonnull 16, 3, 13, 0, 0), (10, .iload_n 2, 1, 0, 0, 0), (11, .bipush 8, 2, 0, 0, 0), (13, .if_icmp .ne 8, 3, 11, 0, 0), (16, .ldc 172, 2, 2147483648, 0, 814), (18, .goto 4, 3, 12, 0, 0), (21, .iconst (-1), 1, 0, 0, 0), (22, .ireturn, 1, 0, 0, 0), (23, .aload_n 3, 1, 0, 0, 0), (24, .iload_n 2, 1, 0, 0, 0), (25, .invokevirtual 173, 3, 71, 81, 815), (28, .ireturn, 1, 0, 0, 0)]
def cd_127 : List aE := [(0, .aload_n 0, 1, 0, 0, 0), (1, .iload_n 1, 1, 0, 0, 0), (2, .invokevirtual 168, 3, 140, 113, 290), (5, .astore 4, 2, 0, 0, 0), (7, .aload 4, 2, 0, 0, 0), (9, .ifnull 17, 3, 12, 0, 0), (12, .iload_n 2, 1, 0, 0, 0), (13, .invokestatic 174, 3, 146, 1, 823), (16, .ifCond .eq 10, 3, 12, 0, 0), (19, .iload_n 3, 1, 0, 0, 0), (20, .invokestatic 174, 3, 146, 1, 823), (23, .ifCond .ne 5, 3, 14, 0, 0), (26, .iconst 0, 1, 0, 0, 0), (27, .ireturn, 1, 0, 0, 0), (28, .aload 4, 2, 0, 0, 0), (30, .iload_n 2, 1, 0, 0, 0), (31, .iload_n 3, 1, 0, 0, 0), (32, .invokevirtual 177, 3, 65, 82, 826), (35, .iconst 1, 1, 0, 0, 0), (36, .ireturn, 1, 0, 0, 0)]
def cd_128 : List aE := [(0, .iload_n 1, 1, 0, 0, 0), (1, .iconst 1, 1, 0, 0, 0), (2, .if_icmp .lt 22, 3, 13, 0, 0), (5, .iload_n 1, 1, 0, 0, 0), (6, .bipush 7, 2, 0, 0, 0), (8, .if_icmp .gt 16, 3, 13, 0, 0), (11, .iload_n 2, 1, 0, 0, 0), (12, .ifCond .lt 12, 3, 13, 0, 0), (15, .iload_n 2, 1, 0, 0, 0), (16, .iconst 4, 1, 0, 0, 0), (17, .if_icmp .gt 7, 3, 13, 0, 0), (20, .iconst 1, 1, 0, 0, 0), (21, .goto 4, 3, 14, 0, 0), (24, .iconst 0, 1, 0, 0, 0), (25, .istore 6, 2, 0, 0, 0), (27, .iload 6, 2, 0, 0, 0), (29, .ifCond .eq 24, 3, 27, 0, 0), (32, .iload_n 3, 1, 0, 0, 0), (33, .ifCond .lt 20, 3, 27, 0, 0), (36, .iload_n 3, 1, 0, 0, 0), (37, .iconst 2, 1, 0, 0, 0), (38, .if_icmp .gt 15, 3, 27, 0, 0), (41, .iload 5, 2, 0, 0, 0), (43, .ifCond .lt 10, 3, 27, 0, 0), (46, .iload 5, 2, 0, 0, 0), (48, .bipush 13, 2, 0, 0, 0), (50, .if_icmp .le 6, 3, 29, 0, 0), (53, .ldc 172, 2, 2147483648, 0, 814), (55, .ireturn, 1, 0, 0, 0), (56, .iload_n 1, 1, 0, 0, 0), (57, .iload_n 2, 1, 0, 0, 0), (58, .iload_n 3, 1, 0, 0, 0), (59, .iload 4, 2, 0, 0, 0), (61, .iload 5, 2, 0, 0, 0), (63, .invokestatic 180, 3, 74, 5, 834), (66, .ireturn, 1, 0, 0, 0)]
def cd_129 : List aE := [(0, .iload_n 1, 1, 0, 0, 0), (1, .i2l, 1, 0, 0, 0), (2, .iload_n 2, 1, 0, 0, 0), (3, .i2l, 1, 0, 0, 0), (4, .lsub, 1, 0, 0, 0), (5, .invokestatic 186, 3, 81, 1, 839), (8, .ireturn, 1, 0, 0, 0)]
def cd_130 : List aE := [(0, .aload_n 0, 1, 0, 0, 0), (1, .iload_n 1, 1, 0, 0, 0), (2, .invokevirtual 168, 3, 140, 113, 290), (5, .astore_n 3, 1, 0, 0, 0), (6, .aload_n 3, 1, 0, 0, 0), (7, .ifnull 12, 3, 11, 0, 0), (10, .iload_n 2, 1, 0, 0, 0), (11, .ifCond .lt 8, 3, 11, 0, 0), (14, .iload_n 2, 1, 0, 0, 0), (15, .iconst 1, 1, 0, 0, 0), (16, .if_icmp .le 7, 3, 13, 0, 0), (19, .iconst (-1), 1, 0, 0, 0), (20, .goto 10, 3, 18, 0, 0), (23, .aload_n 0, 1, 0, 0, 0), (24, .aload_n 3, 1, 0, 0, 0), (25, .iload_n 1, 1, 0, 0, 0), (26, .iload_n 2, 1, 0, 0, 0), (27, .invokevirtual 190, 3, 150, 115, 848), (30, .ireturn, 1, 0, 0, 0)]
def cd_131 : List aE := [(0, .aload_n 0, 1, 0, 0, 0), (1, .iload_n 1, 1, 0, 0, 0), (2, .invokevirtual 194, 3, 152, 113, 875), (5, .ifCond .eq 11, 3, 8, 0, 0), (8, .aload_n 0, 1, 0, 0, 0), (9, .iload_n 1, 1, 0, 0, 0), (10, .invokevirtual 197, 3, 154, 113, 879), (13, .goto 4, 3, 9, 0, 0), (16, .iconst (-1), 1, 0, 0, 0), (17, .ireturn, 1, 0, 0, 0)]
def cd_132 : List aE := [(0, .aload_n 0, 1, 0, 0, 0), (1, .iload_n 1, 1, 0, 0, 0), (2, .invokevirtual 194, 3, 152, 113, 875), (5, .ifCond .eq 11, 3, 8, 0, 0), (8, .aload_n 0, 1, 0, 0, 0), (9, .iload_n 1, 1, 0, 0, 0), (10, .invokevirtual 200, 3, 155, 113, 887), (13, .goto 4, 3, 9, 0, 0), (16, .iconst (-1), 1, 0, 0, 0), (17, .ireturn, 1, 0, 0, 0)]
def cd_133 : List aE := [(0, .aload_n 0, 1, 0, 0, 0), (1, .iload_n 1, 1, 0, 0, 0), (2, .invokevirtual 194, 3, 152, 113, 875), (5, .ifCond .ne 5, 3, 6, 0, 0), (8, .iconst (-1), 1, 0, 0, 0), (9, .ireturn, 1, 0, 0, 0), (10, .aload_n 0, 1, 0, 0, 0), (11, .iload_n 1, 1, 0, 0, 0), (12, .invokevirtual 203, 3, 156, 113, 895), (15, .lstore_n 2, 1, 0, 0, 0), (16, .aload_n 0, 1, 0, 0, 0), (17, .iload_n 1, 1, 0, 0, 0), (18, .invokevirtual 207, 3, 157, 113, 899), (21, .lstore 4, 2, 0, 0, 0), (23, .iconst 0, 1, 0, 0, 0), (24, .istore 6, 2, 0, 0, 0), (26, .iconst 0, 1, 0, 0, 0), (27, .istore 7, 2, 0, 0, 0), (29, .iload 7, 2, 0, 0, 0), (31, .bipush 40, 2, 0, 0, 0), (33, .if_icmp .ge 42, 3, 40, 0, 0), (36, .aload_n 0, 1, 0, 0, 0), (37, .iload 7, 2, 0, 0, 0), (39, .invokevirtual 194, 3, 152, 113, 875), (42, .ifCond .eq 27, 3, 38, 0, 0), (45, .aload_n 0, 1, 0, 0, 0), (46, .iload 7, 2, 0, 0, 0), (48, .invokevirtual 203, 3, 156, 113, 895), (51, .lload 4, 2, 0, 0, 0), (53, .lmul, 1, 0, 0, 0), (54, .lload_n 2, 1, 0, 0, 0), (55, .aload_n 0, 1, 0, 0, 0), (56, .iload 7, 2, 0, 0, 0), (58, .invokevirtual 207, 3, 157, 113, 899), (61, .lmul, 1, 0, 0, 0), (62, .lcmp, 1, 0, 0, 0), (63, .ifCond .le 6, 3, 38, 0, 0), (66, .iinc 6 1, 3, 0, 0, 0), (69, .iinc 7 1, 3, 0, 0, 0), (72, .goto (-43), 3, 18, 0, 0), (75, .iload 6, 2, 0, 0, 0), (77, .iconst 1, 1, 0, 0, 0), (78, .iadd, 1, 0, 0, 0), (79, .ireturn, 1, 0, 0, 0)]
def cd_134 : List aE := [(0, .iload_n 1, 1, 0, 0, 0), (1, .iconst 3, 1, 0, 0, 0), (2, .if_icmp .lt 18, 3, 11, 0, 0), (5, .iload_n 1, 1, 0, 0, 0), (6, .bipush 10, 2, 0, 0, 0), (8, .if_icmp .gt 12, 3, 11, 0, 0), (11, .iload_n 3, 1, 0, 0, 0), (12, .ifCond .lt 8, 3, 11, 0, 0), (15, .iload_n 3, 1, 0, 0, 0), (16, .iload_n 1, 1, 0, 0, 0), (17, .if_icmp .lt 5, 3, 13, 0, 0), (20, .iconst (-1), 1, 0, 0, 0), (21, .ireturn, 1, 0, 0, 0), (22, .iload_n 1, 1, 0, 0, 0), (23, .iconst 2, 1, 0, 0, 0), (24, .irem, 1, 0, 0, 0), (25, .ifCond .ne 7, 3, 19, 0, 0), (28, .iconst 1, 1, 0, 0, 0), (29, .goto 4, 3, 20, 0, 0), (32, .iconst 0, 1, 0, 0, 0), (33, .istore 5, 2, 0, 0, 0), (35, .iload 5, 2, 0, 0, 0), (37, .ifCond .eq 9, 3, 27, 0, 0), (40, .iload_n 1, 1, 0, 0, 0), (41, .iconst 1, 1, 0, 0, 0), (42, .isub, 1, 0, 0, 0), (43, .goto 4, 3, 28, 0, 0), (46, .iload_n 1, 1, 0, 0, 0), (47, .istore 6, 2, 0, 0, 0), (49, .iload_n 2, 1, 0, 0, 0), (50, .ifCond .lt 9, 3, 34, 0, 0), (53, .iload_n 2, 1, 0, 0, 0), (54, .iload 6, 2, 0, 0, 0), (56, .if_icmp .lt 5, 3, 36, 0, 0), (59, .iconst (-1), 1, 0, 0, 0), (60, .ireturn, 1, 0, 0, 0), (61, .iload 5, 2, 0, 0, 0), (63, .ifCond .eq 14, 3, 45, 0, 0), (66, .iload_n 2, 1, 0, 0, 0), (67, .iload_n 1, 1, 0, 0, 0), (68, .iconst 2, 1, 0, 0, 0), (69, .idiv, 1, 0, 0, 0), (70, .if_icmp .lt 7, 3, 45, 0, 0), (73, .iconst 1, 1, 0, 0, 0), (74, .goto 4, 3, 46, 0, 0), (77, .iconst 0, 1, 0, 0, 0), (78, .istore 7, 2, 0, 0, 0), (80, .iload 4, 2, 0, 0, 0), (82, .tableswitch 47 0 2 #[26, 28, 41], 26, 0, 0, 0), (108, .iload_n 3, 1, 0, 0, 0), (109, .ireturn, 1, 0, 0, 0), (110, .iload_n 1, 1, 0, 0, 0), (111, .iload_n 3, 1, 0, 0, 0), (112, .iload_n 2, 1, 0, 0, 0), (113, .isub, 1, 0, 0, 0), (114, .iload 7, 2, 0, 0, 0), (116, .isub, 1, 0, 0, 0), (117, .iload_n 1, 1, 0, 0, 0), (118, .invokestatic 210, 3, 999, 2, 908), (121, .iadd, 1, 0, 0, 0), (122, .ireturn, 1, 0, 0, 0), (123, .iload_n 3, 1, 0, 0, 0), (124, .iload_n 2, 1, 0, 0, 0), (125, .iadd, 1, 0, 0, 0), (126, .iload_n 1, 1, 0, 0, 0), (127, .irem, 1, 0, 0, 0), (128, .ireturn, 1, 0, 0, 0), (129, .iconst (-1), 1, 0, 0, 0), (130, .ireturn, 1, 0, 0, 0)]
def cd_135 : List aE := [(0, .aload_n 0, 1, 0, 0, 0), (1, .iload_n 1, 1, 0, 0, 0), (2, .invokevirtual 168, 3, 140, 113, 290), (5, .astore_n 2, 1, 0, 0, 0), (6, .aload_n 2, 1, 0, 0, 0), (7, .ifnonnull 5, 3, 8, 0, 0), (10, .iconst (-1), 1, 0, 0, 0), (11, .ireturn, 1, 0, 0, 0), (12, .aload_n 0, 1, 0, 0, 0), (13, .getfield 41, 3, 7, 7, 159), (16, .iconst 0, 1, 0, 0, 0), (17, .invokevirtual 216, 3, 999, 1, 915), (20, .aload_n 2, 1, 0, 0, 0), (21, .aload_n 0, 1, 0, 0, 0), (22, .getfield 41, 3, 7, 7, 159), (25, .invokevirtual 219, 3, 72, 81, 975), (28, .aload_n 0, 1, 0, 0, 0), (29, .getfield 41, 3, 7, 7, 159), (32, .invokevirtual 223, 3, 999, 0, 1134), (35, .ireturn, 1, 0, 0, 0)]
def cd_136 : List aE := [(0, .iload_n 1, 1, 0, 0, 0), (1, .ifCond .lt 25, 3, 12, 0, 0), (4, .iload_n 1, 1, 0, 0, 0), (5, .aload_n 0, 1, 0, 0, 0), (6, .getfield 41, 3, 7, 7, 159), (9, .invokevirtual 223, 3, 999, 0, 1134), (12, .if_icmp .ge 14, 3, 12, 0, 0), (15, .aload_n 0, 1, 0, 0, 0), (16, .getfield 41, 3, 7, 7, 159), (19, .iload_n 1, 1, 0, 0, 0), (20, .invokevirtual 226, 3, 999, 1, 1145), (23, .goto 4, 3, 13, 0, 0), (26, .iconst (-1), 1, 0, 0, 0), (27, .ireturn, 1, 0, 0, 0)]
def cd_137 : List aE := [(0, .iload_n 1, 1, 0, 0, 0), (1, .tableswitch 51 0 3 #[31, 36, 41, 46], 31, 0, 0, 0), (32, .aload_n 0, 1, 0, 0, 0), (33, .getfield 45, 3, 7, 1, 153), (36, .ireturn, 1, 0, 0, 0), (37, .aload_n 0, 1, 0, 0, 0), (38, .getfield 93, 3, 7, 4, 156), (41, .ireturn, 1, 0, 0, 0), (42, .aload_n 0, 1, 0, 0, 0), (43, .invokevirtual 230, 3, 144, 112, 1159), (46, .ireturn, 1, 0, 0, 0), (47, .aload_n 0, 1, 0, 0, 0), (48, .invokevirtual 233, 3, 153, 112, 1163), (51, .ireturn, 1, 0, 0, 0), (52, .iconst (-1), 1, 0, 0, 0), (53, .ireturn, 1, 0, 0, 0)]
def cd_138 : List aE := [(0, .iconst 0, 1, 0, 0, 0), (1, .istore_n 2, 1, 0, 0, 0), (2, .iload_n 2, 1, 0, 0, 0), (3, .aload_n 0, 1, 0, 0, 0), (4, .getfield 27, 3, 7, 5, 157), (7, .arraylength, 1, 0, 0, 0), (8, .if_icmp .ge 16, 3, 14, 0, 0), (11, .aload_n 0, 1, 0, 0, 0), (12, .getfield 27, 3, 7, 5, 157), (15, .iload_n 2, 1, 0, 0, 0), (16, .iload_n 2, 1, 0, 0, 0), (17, .iastore, 1, 0, 0, 0), (18, .iinc 2 1, 3, 0, 0, 0), (21, .goto (-19), 3, 2, 0, 0), (24, .iload_n 1, 1, 0, 0, 0), (25, .istore_n 2, 1, 0, 0, 0), (26, .aload_n 0, 1, 0, 0, 0), (27, .getfield 27, 3, 7, 5, 157), (30, .arraylength, 1, 0, 0, 0), (31, .iconst 1, 1, 0, 0, 0), (32, .isub, 1, 0, 0, 0), (33, .istore_n 3, 1, 0, 0, 0), (34, .iload_n 3, 1, 0, 0, 0), (35, .iconst 1, 1, 0, 0, 0), (36, .if_icmp .lt 58, 3, 59, 0, 0), (39, .iload_n 2, 1, 0, 0, 0), (40, .ldc 236, 2, 1103515245, 0, 185), (42, .imul, 1, 0, 0, 0), (43, .sipush 12345, 3, 0, 0, 0), (46, .iadd, 1, 0, 0, 0), (47, .istore_n 2, 1, 0, 0, 0), (48, .iload_n 2, 1, 0, 0, 0), (49, .bipush 16, 2, 0, 0, 0), (51, .iushr, 1, 0, 0, 0), (52, .iload_n 3, 1, 0, 0, 0), (53, .iconst 1, 1, 0, 0, 0), (54, .iadd, 1, 0, 0, 0), (55, .irem, 1, 0, 0, 0), (56, .istore 4, 2, 0, 0, 0), (58, .aload_n 0, 1, 0, 0, 0), (59, .getfield 27, 3, 7, 5, 157), (62, .iload_n 3, 1, 0, 0, 0), (63, .iaload, 1, 0, 0, 0), (64, .istore 5, 2, 0, 0, 0), (66, .aload_n 0, 1, 0, 0, 0), (67, .getfield 27, 3, 7, 5, 157), (70, .iload_n 3, 1, 0, 0, 0), (71, .aload_n 0, 1, 0, 0, 0), (72, .getfield 27, 3, 7, 5, 157), (75, .iload 4, 2, 0, 0, 0), (77, .iaload, 1, 0, 0, 0), (78, .iastore, 1, 0, 0, 0), (79, .aload_n 0, 1, 0, 0, 0), (80, .getfield 27, 3, 7, 5, 157), (83, .iload 4, 2, 0, 0, 0), (85, .iload 5, 2, 0, 0, 0), (87, .iastore, 1, 0, 0, 0), (88, .iinc 3 (-1), 3, 0, 0, 0), (91, .goto (-57), 3, 22, 0, 0), (94, .return_, 1, 0, 0, 0)]
def cd_139 : List aE := [(0, .iload_n 1, 1, 0, 0, 0), (1, .iconst 1, 1, 0, 0, 0), (2, .if_icmp .lt 31, 3, 19, 0, 0), (5, .iload_n 1, 1, 0, 0, 0), (6, .aload_n 0, 1, 0, 0, 0), (7, .getfield 45, 3, 7, 1, 153), (10, .if_icmp .gt 23, 3, 19, 0, 0), (13, .iload_n 1, 1, 0, 0, 0), (14, .aload_n 0, 1, 0, 0, 0), (15, .getfield 11, 3, 7, 0, 152), (18, .arraylength, 1, 0, 0, 0), (19, .if_icmp .gt 14, 3, 19, 0, 0), (22, .aload_n 0, 1, 0, 0, 0), (23, .getfield 11, 3, 7, 0, 152), (26, .iload_n 1, 1, 0, 0, 0), (27, .iconst 1, 1, 0, 0, 0), (28, .isub, 1, 0, 0, 0), (29, .aaload, 1, 0, 0, 0), (30, .goto 4, 3, 20, 0, 0), (33, .aconst_null, 1, 0, 0, 0), (34, .areturn, 1, 0, 0, 0)]
def cd_140 : List aE := [(0, .iload_n 1, 1, 0, 0, 0), (1, .ifCond .lt 29, 3, 16, 0, 0), (4, .iload_n 1, 1, 0, 0, 0), (5, .aload_n 0, 1, 0, 0, 0), (6, .getfield 93, 3, 7, 4, 156), (9, .if_icmp .ge 21, 3, 16, 0, 0), (12, .iload_n 1, 1, 0, 0, 0), (13, .aload_n 0, 1, 0, 0, 0), (14, .getfield 23, 3, 7, 3, 155), (17, .arraylength, 1, 0, 0, 0), (18, .if_icmp .ge 12, 3, 16, 0, 0), (21, .aload_n 0, 1, 0, 0, 0), (22, .getfield 23, 3, 7, 3, 155), (25, .iload_n 1, 1, 0, 0, 0), (26, .aaload, 1, 0, 0, 0), (27, .goto 4, 3, 17, 0, 0), (30, .aconst_null, 1, 0, 0, 0), (31, .areturn, 1, 0, 0, 0)]
def cd_141 : List aE := [(0, .iload_n 1, 1, 0, 0, 0), (1, .ifCond .lt 12, 3, 7, 0, 0), (4, .iload_n 1, 1, 0, 0, 0), (5, .aload_n 0, 1, 0, 0, 0), (6, .getfield 17, 3, 7, 2, 154), (9, .arraylength, 1, 0, 0, 0), (10, .if_icmp .lt 5, 3, 9, 0, 0), (13, .aconst_null, 1, 0, 0, 0), (14, .areturn, 1, 0, 0, 0), (15, .aload_n 0, 1, 0, 0, 0), (16, .getfield 17, 3, 7, 2, 154), (19, .iload_n 1, 1, 0, 0, 0), (20, .aaload, 1, 0, 0, 0), (21, .astore_n 2, 1, 0, 0, 0), (22, .aload_n 2, 1, 0, 0, 0), (23, .ifnull 14, 3, 21, 0, 0), (26, .aload_n 2, 1, 0, 0, 0), (27, .invokevirtual 237, 3, 85, 96, 263), (30, .ifCond .eq 7, 3, 21, 0, 0), (33, .aload_n 2, 1, 0, 0, 0), (34, .goto 4, 3, 22, 0, 0), (37, .aconst_null, 1, 0, 0, 0), (38, .areturn, 1, 0, 0, 0)]
def cd_142 : List aE := [(0, .aload_n 0, 1, 0, 0, 0), (1, .iload_n 1, 1, 0, 0, 0), (2, .invokevirtual 96, 3, 141, 113, 259), (5, .astore_n 2, 1, 0, 0, 0), (6, .aload_n 2, 1, 0, 0, 0), (7, .ifnull 22, 3, 15, 0, 0), (10, .aload_n 2, 1, 0, 0, 0), (11, .invokevirtual 240, 3, 90, 96, 649), (14, .ifCond .eq 15, 3, 15, 0, 0), (17, .aload_n 2, 1, 0, 0, 0), (18, .invokevirtual 134, 3, 100, 96, 636), (21, .iconst 4, 1, 0, 0, 0), (22, .if_icmp .gt 7, 3, 15, 0, 0), (25, .aload_n 2, 1, 0, 0, 0), (26, .goto 4, 3, 16, 0, 0), (29, .aconst_null, 1, 0, 0, 0), (30, .areturn, 1, 0, 0, 0)]
def cd_143 : List aE := [(0, .iconst 0, 1, 0, 0, 0), (1, .istore_n 2, 1, 0, 0, 0), (2, .iload_n 2, 1, 0, 0, 0), (3, .aload_n 0, 1, 0, 0, 0), (4, .getfield 17, 3, 7, 2, 154), (7, .arraylength, 1, 0, 0, 0), (8, .if_icmp .ge 29, 3, 21, 0, 0), (11, .aload_n 0, 1, 0, 0, 0), (12, .iload_n 2, 1, 0, 0, 0), (13, .invokevirtual 96, 3, 141, 113, 259), (16, .astore_n 3, 1, 0, 0, 0), (17, .aload_n 3, 1, 0, 0, 0), (18, .ifnull 13, 3, 19, 0, 0), (21, .aload_n 3, 1, 0, 0, 0), (22, .invokevirtual 243, 3, 86, 96, 267), (25, .iload_n 1, 1, 0, 0, 0), (26, .if_icmp .ne 5, 3, 19, 0, 0), (29, .iload_n 2, 1, 0, 0, 0), (30, .ireturn, 1, 0, 0, 0), (31, .iinc 2 1, 3, 0, 0, 0), (34, .goto (-32), 3, 2, 0, 0), (37, .iconst (-1), 1, 0, 0, 0), (38, .ireturn, 1, 0, 0, 0)]
def cd_144 : List aE := [(0, .iconst 0, 1, 0, 0, 0), (1, .istore_n 1, 1, 0, 0, 0), (2, .iconst 0, 1, 0, 0, 0), (3, .istore_n 2, 1, 0, 0, 0), (4, .iload_n 2, 1, 0, 0, 0), (5, .aload_n 0, 1, 0, 0, 0), (6, .getfield 17, 3, 7, 2, 154), (9, .arraylength, 1, 0, 0, 0), (10, .if_icmp .ge 20, 3, 16, 0, 0), (13, .aload_n 0, 1, 0, 0, 0), (14, .iload_n 2, 1, 0, 0, 0), (15, .invokevirtual 96, 3, 141, 113, 259), (18, .ifnull 6, 3, 14, 0, 0), (21, .iinc 1 1, 3, 0, 0, 0), (24, .iinc 2 1, 3, 0, 0, 0), (27, .goto (-23), 3, 4, 0, 0), (30, .iload_n 1, 1, 0, 0, 0), (31, .ireturn, 1, 0, 0, 0)]
def cd_145 : List aE := [(0, .iload_n 0, 1, 0, 0, 0), (1, .ifCond .lt 13, 3, 7, 0, 0), (4, .iload_n 0, 1, 0, 0, 0), (5, .bipush 40, 2, 0, 0, 0), (7, .if_icmp .ge 7, 3, 7, 0, 0), (10, .iconst 1, 1, 0, 0, 0), (11, .goto 4, 3, 8, 0, 0), (14, .iconst 0, 1, 0, 0, 0), (15, .ireturn, 1, 0, 0, 0)]
def cd_146 : List aE := [(0, .iload_n 0, 1, 0, 0, 0), (1, .ifCond .lt 13, 3, 7, 0, 0), (4, .iload_n 0, 1, 0, 0, 0), (5, .bipush 100, 2, 0, 0, 0), (7, .if_icmp .gt 7, 3, 7, 0, 0), (10, .iconst 1, 1, 0, 0, 0), (11, .goto 4, 3, 8, 0, 0), (14, .iconst 0, 1, 0, 0, 0), (15, .ireturn, 1, 0, 0, 0)]
def cd_147 : List aE := [(0, .iconst 0, 1, 0, 0, 0), (1, .istore_n 3, 1, 0, 0, 0), (2, .iload_n 3, 1, 0, 0, 0), (3, .aload_n 0, 1, 0, 0, 0), (4, .getfield 17, 3, 7, 2, 154), (7, .arraylength, 1, 0, 0, 0), (8, .if_icmp .ge 33, 3, 22, 0, 0), (11, .aload_n 0, 1, 0, 0, 0), (12, .iload_n 3, 1, 0, 0, 0), (13, .invokevirtual 96, 3, 141, 113, 259), (16, .astore 4, 2, 0, 0, 0), (18, .aload 4, 2, 0, 0, 0), (20, .ifnull 15, 3, 20, 0, 0), (23, .aload 4, 2, 0, 0, 0), (25, .iload_n 2, 1, 0, 0, 0), (26, .invokevirtual 246, 3, 87, 97, 286), (29, .iconst (-1), 1, 0, 0, 0), (30, .if_icmp .eq 5, 3, 20, 0, 0), (33, .iconst 0, 1, 0, 0, 0), (34, .ireturn, 1, 0, 0, 0), (35, .iinc 3 1, 3, 0, 0, 0), (38, .goto (-36), 3, 2, 0, 0), (41, .iconst 0, 1, 0, 0, 0), (42, .istore_n 3, 1, 0, 0, 0), (43, .iload_n 3, 1, 0, 0, 0), (44, .aload_n 0, 1, 0, 0, 0), (45, .getfield 93, 3, 7, 4, 156), (48, .if_icmp .ge 42, 3, 47, 0, 0), (51, .aload_n 0, 1, 0, 0, 0), (52, .iload_n 3, 1, 0, 0, 0), (53, .invokevirtual 168, 3, 140, 113, 290), (56, .astore 4, 2, 0, 0, 0), (58, .aload 4, 2, 0, 0, 0), (60, .ifnull 24, 3, 45, 0, 0), (63, .aload 4, 2, 0, 0, 0), (65, .invokevirtual 249, 3, 66, 80, 294), (68, .iload_n 1, 1, 0, 0, 0), (69, .if_icmp .ne 15, 3, 45, 0, 0), (72, .aload 4, 2, 0, 0, 0), (74, .iload_n 2, 1, 0, 0, 0), (75, .invokevirtual 250, 3, 67, 81, 298), (78, .iconst (-1), 1, 0, 0, 0), (79, .if_icmp .eq 5, 3, 45, 0, 0), (82, .iconst 0, 1, 0, 0, 0), (83, .ireturn, 1, 0, 0, 0), (84, .iinc 3 1, 3, 0, 0, 0), (87, .goto (-44), 3, 24, 0, 0), (90, .iconst 1, 1, 0, 0, 0), (91, .ireturn, 1, 0, 0, 0)]
def cd_148 : List aE := [(0, .aload_n 0, 1, 0, 0, 0), (1, .aload_n 1, 1, 0, 0, 0), (2, .invokevirtual 243, 3, 86, 96, 267), (5, .invokevirtual 59, 3, 139, 113, 216), (8, .astore_n 3, 1, 0, 0, 0), (9, .aload_n 3, 1, 0, 0, 0), (10, .ifnull 43, 3, 29, 0, 0), (13, .aload_n 0, 1, 0, 0, 0), (14, .getfield 93, 3, 7, 4, 156), (17, .aload_n 0, 1, 0, 0, 0), (18, .getfield 23, 3, 7, 3, 155), (21, .arraylength, 1, 0, 0, 0), (22, .if_icmp .ge 31, 3, 29, 0, 0), (25, .aload_n 0, 1, 0, 0, 0), (26, .getfield 23, 3, 7, 3, 155), (29, .aload_n 0, 1, 0, 0, 0), (30, .getfield 93, 3, 7, 4, 156), (33, .aload_n 1, 1, 0, 0, 0), (34, .iload_n 2, 1, 0, 0, 0), (35, .invokevirtual 251, 3, 106, 97, 439), (38, .aastore, 1, 0, 0, 0), (39, .aload_n 0, 1, 0, 0, 0), (40, .dup, 1, 0, 0, 0), (41, .getfield 93, 3, 7, 4, 156), (44, .iconst 1, 1, 0, 0, 0), (45, .iadd, 1, 0, 0, 0), (46, .putfield 93, 3, 7, 4, 156), (49, .aload_n 3, 1, 0, 0, 0), (50, .invokevirtual 254, 3, 25, 32, 546), (53, .aload_n 1, 1, 0, 0, 0), (54, .invokevirtual 147, 3, 84, 96, 550), (57, .return_, 1, 0, 0, 0)]
def cd_149 : List aE := [(0, .aload_n 0, 1, 0, 0, 0), (1, .aload_n 1, 1, 0, 0, 0), (2, .invokevirtual 249, 3, 66, 80, 294), (5, .invokevirtual 59, 3, 139, 113, 216), (8, .astore_n 2, 1, 0, 0, 0), (9, .aload_n 2, 1, 0, 0, 0), (10, .ifnonnull 7, 3, 9, 0, 0), (13, .iconst 0, 1, 0, 0, 0), (14, .goto 12, 3, 15, 0, 0), (17, .bipush 20, 2, 0, 0, 0), (19, .aload_n 2, 1, 0, 0, 0), (20, .invokevirtual 84, 3, 26, 32, 251), (23, .iconst 1, 1, 0, 0, 0), (24, .isub, 1, 0, 0, 0), (25, .imul, 1, 0, 0, 0), (26, .ireturn, 1, 0, 0, 0)]
def cd_150 : List aE := [(0, .aload_n 0, 1, 0, 0, 0), (1, .aload_n 1, 1, 0, 0, 0), (2, .invokevirtual 257, 3, 149, 113, 852), (5, .istore 4, 2, 0, 0, 0), (7, .aload_n 1, 1, 0, 0, 0), (8, .invokevirtual 261, 3, 69, 80, 856), (11, .ifCond .eq 15, 3, 15, 0, 0), (14, .aload_n 1, 1, 0, 0, 0), (15, .iload_n 3, 1, 0, 0, 0), (16, .invokevirtual 264, 3, 70, 81, 860), (19, .iload 4, 2, 0, 0, 0), (21, .imul, 1, 0, 0, 0), (22, .bipush 100, 2, 0, 0, 0), (24, .idiv, 1, 0, 0, 0), (25, .ireturn, 1, 0, 0, 0), (26, .iconst 0, 1, 0, 0, 0), (27, .istore 5, 2, 0, 0, 0), (29, .iconst 0, 1, 0, 0, 0), (30, .istore 6, 2, 0, 0, 0), (32, .iload 6, 2, 0, 0, 0), (34, .aload_n 0, 1, 0, 0, 0), (35, .getfield 93, 3, 7, 4, 156), (38, .if_icmp .ge 51, 3, 45, 0, 0), (41, .aload_n 0, 1, 0, 0, 0), (42, .iload 6, 2, 0, 0, 0), (44, .invokevirtual 168, 3, 140, 113, 290), (47, .astore 7, 2, 0, 0, 0), (49, .iload 6, 2, 0, 0, 0), (51, .iload_n 2, 1, 0, 0, 0), (52, .if_icmp .eq 31, 3, 43, 0, 0), (55, .aload 7, 2, 0, 0, 0), (57, .ifnull 26, 3, 43, 0, 0), (60, .aload 7, 2, 0, 0, 0), (62, .invokevirtual 249, 3, 66, 80, 294), (65, .aload_n 1, 1, 0, 0, 0), (66, .invokevirtual 249, 3, 66, 80, 294), (69, .if_icmp .ne 14, 3, 43, 0, 0), (72, .iload 5, 2, 0, 0, 0), (74, .aload_n 1, 1, 0, 0, 0), (75, .aload 7, 2, 0, 0, 0), (77, .invokestatic 267, 3, 151, 2, 864), (80, .iadd, 1, 0, 0, 0), (81, .istore 5, 2, 0, 0, 0), (83, .iinc 6 1, 3, 0, 0, 0), (86, .goto (-54), 3, 19, 0, 0), (89, .iload_n 3, 1, 0, 0, 0), (90, .ifCond .ne 8, 3, 49, 0, 0), (93, .iload 5, 2, 0, 0, 0), (95, .goto 8, 3, 52, 0, 0), (98, .iload 4, 2, 0, 0, 0), (100, .iload 5, 2, 0, 0, 0), (102, .isub, 1, 0, 0, 0), (103, .ireturn, 1, 0, 0, 0)]
def cd_151 : List aE := [(0, .aload_n 1, 1, 0, 0, 0), (1, .invokevirtual 261, 3, 69, 80, 856), (4, .ifCond .ne 14, 3, 8, 0, 0), (7, .aload_n 1, 1, 0, 0, 0), (8, .invokevirtual 271, 3, 68, 80, 867), (11, .aload_n 0, 1, 0, 0, 0), (12, .invokevirtual 271, 3, 68, 80, 867), (15, .if_icmp .ne 6, 3, 10, 0, 0), (18, .bipush 10, 2, 0, 0, 0), (20, .ireturn, 1, 0, 0, 0), (21, .aload_n 1, 1, 0, 0, 0), (22, .invokevirtual 271, 3, 68, 80, 867), (25, .aload_n 0, 1, 0, 0, 0), (26, .invokevirtual 271, 3, 68, 80, 867), (29, .if_icmp .ge 8, 3, 17, 0, 0), (32, .bipush 20, 2, 0, 0, 0), (34, .goto 4, 3, 18, 0, 0), (37, .iconst 0, 1, 0, 0, 0), (38, .ireturn, 1, 0, 0, 0)]
def cd_152 : List aE := [(0, .iconst 0, 1, 0, 0, 0), (1, .istore_n 2, 1, 0, 0, 0), (2, .iload_n 2, 1, 0, 0, 0), (3, .aload_n 0, 1, 0, 0, 0), (4, .getfield 93, 3, 7, 4, 156), (7, .if_icmp .ge 30, 3, 21, 0, 0), (10, .aload_n 0, 1, 0, 0, 0), (11, .iload_n 2, 1, 0, 0, 0), (12, .invokevirtual 168, 3, 140, 113, 290), (15, .astore_n 3, 1, 0, 0, 0), (16, .aload_n 3, 1, 0, 0, 0), (17, .ifnull 14, 3, 19, 0, 0), (20, .aload_n 3, 1, 0, 0, 0), (21, .iload_n 1, 1, 0, 0, 0), (22, .invokevirtual 250, 3, 67, 81, 298), (25, .iconst (-1), 1, 0, 0, 0), (26, .if_icmp .eq 5, 3, 19, 0, 0), (29, .iconst 1, 1, 0, 0, 0), (30, .ireturn, 1, 0, 0, 0), (31, .iinc 2 1, 3, 0, 0, 0), (34, .goto (-32), 3, 2, 0, 0), (37, .iconst 0, 1, 0, 0, 0), (38, .ireturn, 1, 0, 0, 0)]
def cd_153 : List aE := [(0, .iconst 0, 1, 0, 0, 0), (1, .istore_n 1, 1, 0, 0, 0), (2, .iconst 0, 1, 0, 0, 0), (3, .istore_n 2, 1, 0, 0, 0), (4, .iload_n 2, 1, 0, 0, 0), (5, .bipush 40, 2, 0, 0, 0), (7, .if_icmp .ge 20, 3, 14, 0, 0), (10, .aload_n 0, 1, 0, 0, 0), (11, .iload_n 2, 1, 0, 0, 0), (12, .invokevirtual 194, 3, 152, 113, 875), (15, .ifCond .eq 6, 3, 12, 0, 0), (18, .iinc 1 1, 3, 0, 0, 0), (21, .iinc 2 1, 3, 0, 0, 0), (24, .goto (-20), 3, 4, 0, 0), (27, .iload_n 1, 1, 0, 0, 0), (28, .ireturn, 1, 0, 0, 0)]
def cd_154 : List aE := [(0, .iconst 0, 1, 0, 0, 0), (1, .istore_n 2, 1, 0, 0, 0), (2, .iconst 0, 1, 0, 0, 0), (3, .istore_n 3, 1, 0, 0, 0), (4, .iload_n 3, 1, 0, 0, 0), (5, .aload_n 0, 1, 0, 0, 0), (6, .getfield 93, 3, 7, 4, 156), (9, .if_icmp .ge 56, 3, 35, 0, 0), (12, .aload_n 0, 1, 0, 0, 0), (13, .iload_n 3, 1, 0, 0, 0), (14, .invokevirtual 168, 3, 140, 113, 290), (17, .astore 4, 2, 0, 0, 0), (19, .aload 4, 2, 0, 0, 0), (21, .ifnonnull 7, 3, 16, 0, 0), (24, .iconst (-1), 1, 0, 0, 0), (25, .goto 9, 3, 19, 0, 0), (28, .aload 4, 2, 0, 0, 0), (30, .iload_n 1, 1, 0, 0, 0), (31, .invokevirtual 250, 3, 67, 81, 298), (34, .istore 5, 2, 0, 0, 0), (36, .aload 4, 2, 0, 0, 0), (38, .ifnull 21, 3, 33, 0, 0), (41, .iload 5, 2, 0, 0, 0), (43, .iconst (-1), 1, 0, 0, 0), (44, .if_icmp .eq 15, 3, 33, 0, 0), (47, .iload_n 2, 1, 0, 0, 0), (48, .aload_n 0, 1, 0, 0, 0), (49, .aload 4, 2, 0, 0, 0), (51, .iload_n 3, 1, 0, 0, 0), (52, .iload 5, 2, 0, 0, 0), (54, .invokevirtual 190, 3, 150, 115, 848), (57, .iadd, 1, 0, 0, 0), (58, .istore_n 2, 1, 0, 0, 0), (59, .iinc 3 1, 3, 0, 0, 0), (62, .goto (-58), 3, 4, 0, 0), (65, .iload_n 2, 1, 0, 0, 0), (66, .ireturn, 1, 0, 0, 0)]
def cd_155 : List aE := [(0, .iconst 0, 1, 0, 0, 0), (1, .istore_n 2, 1, 0, 0, 0), (2, .iconst 0, 1, 0, 0, 0), (3, .istore_n 3, 1, 0, 0, 0), (4, .iload_n 3, 1, 0, 0, 0), (5, .aload_n 0, 1, 0, 0, 0), (6, .getfield 93, 3, 7, 4, 156), (9, .if_icmp .ge 40, 3, 27, 0, 0), (12, .aload_n 0, 1, 0, 0, 0), (13, .iload_n 3, 1, 0, 0, 0), (14, .invokevirtual 168, 3, 140, 113, 290), (17, .astore 4, 2, 0, 0, 0), (19, .aload 4, 2, 0, 0, 0), (21, .ifnull 22, 3, 25, 0, 0), (24, .aload 4, 2, 0, 0, 0), (26, .iload_n 1, 1, 0, 0, 0), (27, .invokevirtual 250, 3, 67, 81, 298), (30, .iconst (-1), 1, 0, 0, 0), (31, .if_icmp .eq 12, 3, 25, 0, 0), (34, .iload_n 2, 1, 0, 0, 0), (35, .aload_n 0, 1, 0, 0, 0), (36, .aload 4, 2, 0, 0, 0), (38, .invokevirtual 257, 3, 149, 113, 852), (41, .iadd, 1, 0, 0, 0), (42, .istore_n 2, 1, 0, 0, 0), (43, .iinc 3 1, 3, 0, 0, 0), (46, .goto (-42), 3, 4, 0, 0), (49, .iload_n 2, 1, 0, 0, 0), (50, .ireturn, 1, 0, 0, 0)]
def cd_156 : List aE := [(0, .aload_n 0, 1, 0, 0, 0), (1, .iload_n 1, 1, 0, 0, 0), (2, .invokevirtual 200, 3, 155, 113, 887), (5, .ifCond .ne 7, 3, 6, 0, 0), (8, .lconst 1, 1, 0, 0, 0), (9, .goto 9, 3, 10, 0, 0), (12, .aload_n 0, 1, 0, 0, 0), (13, .iload_n 1, 1, 0, 0, 0), (14, .invokevirtual 197, 3, 154, 113, 879), (17, .i2l, 1, 0, 0, 0), (18, .lreturn, 1, 0, 0, 0)]
def cd_157 : List aE := [(0, .aload_n 0, 1, 0, 0, 0), (1, .iload_n 1, 1, 0, 0, 0), (2, .invokevirtual 200, 3, 155, 113, 887), (5, .istore_n 2, 1, 0, 0, 0), (6, .iload_n 2, 1, 0, 0, 0), (7, .ifCond .ne 9, 3, 8, 0, 0), (10, .ldc2_w 274, 3, 2, 0, 903), (13, .goto 5, 3, 10, 0, 0), (16, .iload_n 2, 1, 0, 0, 0), (17, .i2l, 1, 0, 0, 0), (18, .lreturn, 1, 0, 0, 0)]
def cd_158 : List aE := [(0, .aload_n 0, 1, 0, 0, 0), (1, .invokespecial 1, 3, 1000, 0, 1172), (4, .aload_n 0, 1, 0, 0, 0), (5, .sipush 1872, 3, 0, 0, 0), (8, .newarray .int, 2, 0, 0, 0), (10, .putfield 9, 3, 8, 2, 1175), (13, .aload_n 0, 1, 0, 0, 0), (14, .bipush 36, 2, 0, 0, 0), (16, .newarray .boolean, 2, 1, 0, 0), (18, .putfield 13, 3, 8, 3, 1176), (21, .aload_n 0, 1, 0, 0, 0), (22, .bipush 10, 2, 0, 0, 0), (24, .newarray .int, 2, 0, 0, 0), (26, .putfield 17, 3, 8, 4, 1177), (29, .aload_n 0, 1, 0, 0, 0), (30, .bipush 10, 2, 0, 0, 0), (32, .newarray .int, 2, 0, 0, 0), (34, .putfield 20, 3, 8, 5, 1178), (37, .aload_n 0, 1, 0, 0, 0), (38, .bipush 20, 2, 0, 0, 0), (40, .newarray .int, 2, 0, 0, 0), (42, .putfield 23, 3, 8, 6, 1179), (45, .aload_n 0, 1, 0, 0, 0), (46, .bipush 10, 2, 0, 0, 0), (48, .newarray .int, 2, 0, 0, 0), (50, .putfield 26, 3, 8, 7, 1180), (53, .aload_n 0, 1, 0, 0, 0), (54, .bipush 10, 2, 0, 0, 0), (56, .newarray .int, 2, 0, 0, 0), (58, .putfield 29, 3, 8, 8, 1181), (61, .aload_n 0, 1, 0, 0, 0), (62, .sipush 3400, 3, 0, 0, 0), (65, .newarray .int, 2, 0, 0, 0), (67, .putfield 32, 3, 8, 9, 1182), (70, .aload_n 0, 1, 0, 0, 0), (71, .sipush 520, 3, 0, 0, 0), (74, .newarray .int, 2, 0, 0, 0), (76, .putfield 35, 3, 8, 10, 1183), (79, .aload_n 0, 1, 0, 0, 0), (80, .sipush 220, 3, 0, 0, 0), (83, .newarray .int, 2, 0, 0, 0), (85, .putfield 38, 3, 8, 11, 1184), (88, .aload_n 0, 1, 0, 0, 0), (89, .sipush 440, 3, 0, 0, 0), (92, .newarray .int, 2, 0, 0, 0), (94, .putfield 41, 3, 8, 12, 1185), (97, .aload_n 0, 1, 0, 0, 0), (98, .sipush 220, 3, 0, 0, 0), (101, .newarray .int, 2, 0, 0, 0), (103, .putfield 44, 3, 8, 13, 1186), (106, .aload_n 0, 1, 0, 0, 0), (107, .sipush 220, 3, 0, 0, 0), (110, .newarray .int, 2, 0, 0, 0), (112, .putfield 47, 3, 8, 14, 1187), (115, .aload_n 0, 1, 0, 0, 0), (116, .sipush 220, 3, 0, 0, 0), (119, .newarray .int, 2, 0, 0, 0), (121, .putfield 50, 3, 8, 15, 1188), (124, .aload_n 0, 1, 0, 0, 0), (125, .sipush 220, 3, 0, 0, 0), (128, .newarray .int, 2, 0, 0, 0), (130, .putfield 53, 3, 8, 16, 1189), (133, .aload_n 0, 1, 0, 0, 0), (134, .sipush 220, 3, 0, 0, 0), (137, .newarray .int, 2, 0, 0, 0), (139, .putfield 56, 3, 8, 17, 1190), (142, .aload_n 0, 1, 0, 0, 0), (143, .sipush 220, 3, 0, 0, 0), (146, .newarray .int, 2, 0, 0, 0), (148, .putfield 59, 3, 8, 18, 1191), (151, .aload_n 0, 1, 0, 0, 0), (152, .sipush 440, 3, 0, 0, 0), (155, .newarray .int, 2, 0, 0, 0), (157, .putfield 62, 3, 8, 19, 1192), (160, .aload_n 0, 1, 0, 0, 0), (161, .sipush 220, 3, 0, 0, 0), (164, .newarray .boolean, 2, 1, 0, 0), (166, .putfield 65, 3, 8, 20, 1193), (169, .aload_n 0, 1, 0, 0, 0), (170, .bipush 20, 2, 0, 0, 0), (172, .newarray .int, 2, 0, 0, 0), (174, .putfield 68, 3, 8, 21, 1194), (177, .aload_n 0, 1, 0, 0, 0), (178, .bipush 52, 2, 0, 0, 0), (180, .newarray .int, 2, 0, 0, 0), (182, .putfield 71, 3, 8, 23, 1196), (185, .aload_n 0, 1, 0, 0, 0), (186, .iconst 2, 1, 0, 0, 0), (187, .newarray .int, 2, 0, 0, 0), (189, .putfield 74, 3, 8, 24, 1197), (192, .aload_n 0, 1, 0, 0, 0), (193, .bipush 16, 2, 0, 0, 0), (195, .newarray .int, 2, 0, 0, 0), (197, .putfield 77, 3, 8, 27, 1200), (200, .aload_n 0, 1, 0, 0, 0), (201, .iconst 4, 1, 0, 0, 0), (202, .newarray .int, 2, 0, 0, 0), (204, .putfield 80, 3, 8, 28, 1201), (207, .return_, 1, 0, 0, 0)]
def cd_159 : List aE := [(0, .iload_n 0, 1, 0, 0, 0), (1, .iload_n 1, 1, 0, 0, 0), (2, .if_icmp .lt 12, 3, 8, 0, 0), (5, .iload_n 0, 1, 0, 0, 0), (6, .iload_n 2, 1, 0, 0, 0), (7, .if_icmp .gt 7, 3, 8, 0, 0), (10, .iconst 1, 1, 0, 0, 0), (11, .goto 4, 3, 9, 0, 0), (14, .iconst 0, 1, 0, 0, 0), (15, .ireturn, 1, 0, 0, 0)]
def cd_160 : List aE := [(0, .iload_n 0, 1, 0, 0, 0), (1, .iload_n 1, 1, 0, 0, 0), (2, .irem, 1, 0, 0, 0), (3, .istore_n 2, 1, 0, 0, 0), (4, .iload_n 2, 1, 0, 0, 0), (5, .ifCond .ge 9, 3, 10, 0, 0), (8, .iload_n 2, 1, 0, 0, 0), (9, .iload_n 1, 1, 0, 0, 0), (10, .iadd, 1, 0, 0, 0), (11, .goto 4, 3, 11, 0, 0), (14, .iload_n 2, 1, 0, 0, 0), (15, .ireturn, 1, 0, 0, 0)]
def cd_161 : List aE := [(0, .aload_n 0, 1, 0, 0, 0), (1, .getfield 83, 3, 8, 0, 1173), (4, .bipush 36, 2, 0, 0, 0), (6, .if_icmp .ne 5, 3, 6, 0, 0), (9, .iconst (-1), 1, 0, 0, 0), (10, .ireturn, 1, 0, 0, 0), (11, .aload_n 0, 1, 0, 0, 0), (12, .getfield 71, 3, 8, 23, 1196), (15, .astore_n 2, 1, 0, 0, 0), (16, .iconst 0, 1, 0, 0, 0), (17, .istore_n 3, 1, 0, 0, 0), (18, .iload_n 3, 1, 0, 0, 0), (19, .bipush 52, 2, 0, 0, 0), (21, .if_icmp .ge 13, 3, 20, 0, 0), (24, .aload_n 2, 1, 0, 0, 0), (25, .iload_n 3, 1, 0, 0, 0), (26, .iload_n 3, 1, 0, 0, 0), (27, .iastore, 1, 0, 0, 0), (28, .iinc 3 1, 3, 0, 0, 0), (31, .goto (-13), 3, 11, 0, 0), (34, .iload_n 1, 1, 0, 0, 0), (35, .istore_n 3, 1, 0, 0, 0), (36, .bipush 51, 2, 0, 0, 0), (38, .istore 4, 2, 0, 0, 0), (40, .iload 4, 2, 0, 0, 0), (42, .ifCond .le 49, 3, 56, 0, 0), (45, .iload_n 3, 1, 0, 0, 0), (46, .ldc 87, 2, 1103515245, 0, 1272), (48, .imul, 1, 0, 0, 0), (49, .sipush 12345, 3, 0, 0, 0), (52, .iadd, 1, 0, 0, 0), (53, .istore_n 3, 1, 0, 0, 0), (54, .iload_n 3, 1, 0, 0, 0), (55, .bipush 16, 2, 0, 0, 0), (57, .iushr, 1, 0, 0, 0), (58, .iload 4, 2, 0, 0, 0), (60, .iconst 1, 1, 0, 0, 0), (61, .iadd, 1, 0, 0, 0), (62, .irem, 1, 0, 0, 0), (63, .istore 5, 2, 0, 0, 0), (65, .aload_n 2, 1, 0, 0, 0), (66, .iload 4, 2, 0, 0, 0), (68, .iaload, 1, 0, 0, 0), (69, .istore 6, 2, 0, 0, 0), (71, .aload_n 2, 1, 0, 0, 0), (72, .iload 4, 2, 0, 0, 0), (74, .aload_n 2, 1, 0, 0, 0), (75, .iload 5, 2, 0, 0, 0), (77, .iaload, 1, 0, 0, 0), (78, .iastore, 1, 0, 0, 0), (79, .aload_n 2, 1, 0, 0, 0), (80, .iload 5, 2, 0, 0, 0), (82, .iload 6, 2, 0, 0, 0), (84, .iastore, 1, 0, 0, 0), (85, .iinc 4 (-1), 3, 0, 0, 0), (88, .goto (-48), 3, 24, 0, 0), (91, .iconst 0, 1, 0, 0, 0), (92, .istore 4, 2, 0, 0, 0), (94, .iload 4, 2, 0, 0, 0), (96, .bipush 52, 2, 0, 0, 0), (98, .if_icmp .ge 30, 3, 77, 0, 0), (101, .aload_n 0, 1, 0, 0, 0), (102, .getfield 9, 3, 8, 2, 1175), (105, .bipush 52, 2, 0, 0, 0), (107, .aload_n 0, 1, 0, 0, 0), (108, .getfield 83, 3, 8, 0, 1173), (111, .imul, 1, 0, 0, 0), (112, .aload_n 2, 1, 0, 0, 0), (113, .iload 4, 2, 0, 0, 0), (115, .iaload, 1, 0, 0, 0), (116, .iadd, 1, 0, 0, 0), (117, .iload 4, 2, 0, 0, 0), (119, .iconst 4, 1, 0, 0, 0), (120, .irem, 1, 0, 0, 0), (121, .iastore, 1, 0, 0, 0), (122, .iinc 4 1, 3, 0, 0, 0), (125, .goto (-31), 3, 58, 0, 0), (128, .aload_n 0, 1, 0, 0, 0), (129, .getfield 13, 3, 8, 3, 1176), (132, .aload_n 0, 1, 0, 0, 0), (133, .getfield 83, 3, 8, 0, 1173), (136, .iconst 0, 1, 0, 0, 0), (137, .bastore, 1, 0, 0, 0), (138, .aload_n 0, 1, 0, 0, 0), (139, .dup, 1, 0, 0, 0), (140, .getfield 83, 3, 8, 0, 1173), (143, .iconst 1, 1, 0, 0, 0), (144, .iadd, 1, 0, 0, 0), (145, .putfield 83, 3, 8, 0, 1173), (148, .aload_n 0, 1, 0, 0, 0), (149, .getfield 83, 3, 8, 0, 1173), (152, .ireturn, 1, 0, 0, 0)]
def cd_162 : List aE := [(0, .iload_n 1, 1, 0, 0, 0), (1, .iconst 1, 1, 0, 0, 0), (2, .aload_n 0, 1, 0, 0, 0), (3, .getfield 83, 3, 8, 0, 1173), (6, .invokestatic 88, 3, 159, 3, 1281), (9, .ireturn, 1, 0, 0, 0)]
def cd_163 : List aE := [(0, .iload_n 0, 1, 0, 0, 0), (1, .iconst 0, 1, 0, 0, 0), (2, .bipush 51, 2, 0, 0, 0), (4, .invokestatic 88, 3, 159, 3, 1281), (7, .ireturn, 1, 0, 0, 0)]
def cd_164 : List aE := [(0, .aload_n 0, 1, 0, 0, 0), (1, .iload_n 1, 1, 0, 0, 0), (2, .invokevirtual 92, 3, 162, 129, 1277), (5, .ifCond .eq 28, 3, 17, 0, 0), (8, .iload_n 2, 1, 0, 0, 0), (9, .invokestatic 96, 3, 163, 1, 1284), (12, .ifCond .eq 21, 3, 17, 0, 0), (15, .iload_n 3, 1, 0, 0, 0), (16, .invokestatic 96, 3, 163, 1, 1284), (19, .ifCond .eq 14, 3, 17, 0, 0), (22, .aload_n 0, 1, 0, 0, 0), (23, .getfield 13, 3, 8, 3, 1176), (26, .iload_n 1, 1, 0, 0, 0), (27, .iconst 1, 1, 0, 0, 0), (28, .isub, 1, 0, 0, 0), (29, .baload, 1, 0, 0, 0), (30, .ifCond .eq 5, 3, 19, 0, 0), (33, .iconst 0, 1, 0, 0, 0), (34, .ireturn, 1, 0, 0, 0), (35, .bipush 52, 2, 0, 0, 0), (37, .iload_n 1, 1, 0, 0, 0), (38, .iconst 1, 1, 0, 0, 0), (39, .isub, 1, 0, 0, 0), (40, .imul, 1, 0, 0, 0), (41, .istore 4, 2, 0, 0, 0), (43, .aload_n 0, 1, 0, 0, 0), (44, .getfield 9, 3, 8, 2, 1175), (47, .iload 4, 2, 0, 0, 0), (49, .iload_n 2, 1, 0, 0, 0), (50, .iadd, 1, 0, 0, 0), (51, .iaload, 1, 0, 0, 0), (52, .istore 5, 2, 0, 0, 0), (54, .aload_n 0, 1, 0, 0, 0), (55, .getfield 9, 3, 8, 2, 1175), (58, .iload 4, 2, 0, 0, 0), (60, .iload_n 2, 1, 0, 0, 0), (61, .iadd, 1, 0, 0, 0), (62, .aload_n 0, 1, 0, 0, 0), (63, .getfield 9, 3, 8, 2, 1175), (66, .iload 4, 2, 0, 0, 0), (68, .iload_n 3, 1, 0, 0, 0), (69, .iadd, 1, 0, 0, 0), (70, .iaload, 1, 0, 0, 0), (71, .iastore, 1, 0, 0, 0), (72, .aload_n 0, 1, 0, 0, 0), (73, .getfield 9, 3, 8, 2, 1175), (76, .iload 4, 2, 0, 0, 0), (78, .iload_n 3, 1, 0, 0, 0), (79, .iadd, 1, 0, 0, 0), (80, .iload 5, 2, 0, 0, 0), (82, .iastore, 1, 0, 0, 0), (83, .iconst 1, 1, 0, 0, 0), (84, .ireturn, 1, 0, 0, 0)]
def cd_165 : List aE := [(0, .aload_n 0, 1, 0, 0, 0), (1, .iload_n 1, 1, 0, 0, 0), (2, .invokevirtual 92, 3, 162, 129, 1277), (5, .ifCond .eq 26, 3, 18, 0, 0), (8, .iload_n 2, 1, 0, 0, 0), (9, .invokestatic 96, 3, 163, 1, 1284), (12, .ifCond .eq 19, 3, 18, 0, 0), (15, .aload_n 0, 1, 0, 0, 0), (16, .getfield 9, 3, 8, 2, 1175), (19, .bipush 52, 2, 0, 0, 0), (21, .iload_n 1, 1, 0, 0, 0), (22, .iconst 1, 1, 0, 0, 0), (23, .isub, 1, 0, 0, 0), (24, .imul, 1, 0, 0, 0), (25, .iload_n 2, 1, 0, 0, 0), (26, .iadd, 1, 0, 0, 0), (27, .iaload, 1, 0, 0, 0), (28, .goto 4, 3, 19, 0, 0), (31, .iconst (-1), 1, 0, 0, 0), (32, .ireturn, 1, 0, 0, 0)]
def cd_166 : List aE := [(0, .iload_n 0, 1, 0, 0, 0), (1, .iconst 1, 1, 0, 0, 0), (2, .isub, 1, 0, 0, 0), (3, .iconst 4, 1, 0, 0, 0), (4, .irem, 1, 0, 0, 0), (5, .ireturn, 1, 0, 0, 0)]
def cd_167 : List aE := [(0, .iload_n 0, 1, 0, 0, 0), (1, .iconst 1, 1, 0, 0, 0), (2, .isub, 1, 0, 0, 0), (3, .bipush 16, 2, 0, 0, 0), (5, .irem, 1, 0, 0, 0), (6, .istore_n 1, 1, 0, 0, 0), (7, .iload_n 1, 1, 0, 0, 0), (8, .iload_n 1, 1, 0, 0, 0), (9, .iconst 4, 1, 0, 0, 0), (10, .idiv, 1, 0, 0, 0), (11, .iadd, 1, 0, 0, 0), (12, .iconst 4, 1, 0, 0, 0), (13, .irem, 1, 0, 0, 0), (14, .ireturn, 1, 0, 0, 0)]
def cd_168 : List aE := [(0, .iload_n 0, 1, 0, 0, 0), (1, .invokestatic 99, 3, 167, 1, 1298), (4, .istore_n 2, 1, 0, 0, 0), (5, .iload_n 2, 1, 0, 0, 0), (6, .iconst 3, 1, 0, 0, 0), (7, .if_icmp .eq 10, 3, 11, 0, 0), (10, .iload_n 2, 1, 0, 0, 0), (11, .iload_n 1, 1, 0, 0, 0), (12, .iconst 1, 1, 0, 0, 0), (13, .iadd, 1, 0, 0, 0), (14, .if_icmp .ne 7, 3, 13, 0, 0), (17, .iconst 1, 1, 0, 0, 0), (18, .goto 4, 3, 14, 0, 0), (21, .iconst 0, 1, 0, 0, 0), (22, .ireturn, 1, 0, 0, 0)]
def cd_169 : List aE := [(0, .iconst 0, 1, 0, 0, 0), (1, .istore_n 2, 1, 0, 0, 0), (2, .iload_n 2, 1, 0, 0, 0), (3, .bipush 10, 2, 0, 0, 0), (5, .if_icmp .ge 30, 3, 20, 0, 0), (8, .aload_n 0, 1, 0, 0, 0), (9, .getfield 17, 3, 8, 4, 1177), (12, .iload_n 2, 1, 0, 0, 0), (13, .iaload, 1, 0, 0, 0), (14, .ifCond .eq 15, 3, 18, 0, 0), (17, .aload_n 0, 1, 0, 0, 0), (18, .getfield 20, 3, 8, 5, 1178), (21, .iload_n 2, 1, 0, 0, 0), (22, .iaload, 1, 0, 0, 0), (23, .iload_n 1, 1, 0, 0, 0), (24, .if_icmp .ne 5, 3, 18, 0, 0), (27, .iload_n 2, 1, 0, 0, 0), (28, .ireturn, 1, 0, 0, 0), (29, .iinc 2 1, 3, 0, 0, 0), (32, .goto (-30), 3, 2, 0, 0), (35, .iconst (-1), 1, 0, 0, 0), (36, .ireturn, 1, 0, 0, 0)]
def cd_170 : List aE := [(0, .iconst 0, 1, 0, 0, 0), (1, .istore_n 2, 1, 0, 0, 0), (2, .iconst 0, 1, 0, 0, 0), (3, .istore_n 3, 1, 0, 0, 0), (4, .iload_n 3, 1, 0, 0, 0), (5, .aload_n 0, 1, 0, 0, 0), (6, .getfield 103, 3, 8, 1, 1174), (9, .if_icmp .ge 27, 3, 22, 0, 0), (12, .iload_n 2, 1, 0, 0, 0), (13, .aload_n 0, 1, 0, 0, 0), (14, .getfield 38, 3, 8, 11, 1184), (17, .iload_n 3, 1, 0, 0, 0), (18, .iaload, 1, 0, 0, 0), (19, .iload_n 1, 1, 0, 0, 0), (20, .if_icmp .ne 7, 3, 17, 0, 0), (23, .iconst 1, 1, 0, 0, 0), (24, .goto 4, 3, 18, 0, 0), (27, .iconst 0, 1, 0, 0, 0), (28, .iadd, 1, 0, 0, 0), (29, .istore_n 2, 1, 0, 0, 0), (30, .iinc 3 1, 3, 0, 0, 0), (33, .goto (-29), 3, 4, 0, 0), (36, .iload_n 2, 1, 0, 0, 0), (37, .ireturn, 1, 0, 0, 0)]
def cd_171 : List aE := [(0, .aload_n 0, 1, 0, 0, 0), (1, .iload_n 1, 1, 0, 0, 0), (2, .invokevirtual 92, 3, 162, 129, 1277), (5, .ifCond .ne 5, 3, 6, 0, 0), (8, .iconst (-1), 1, 0, 0, 0), (9, .ireturn, 1, 0, 0, 0), (10, .iload_n 2, 1, 0, 0, 0), (11, .tableswitch 51 0 3 #[29, 34, 39, 45], 29, 0, 0, 0), (40, .iload_n 1, 1, 0, 0, 0), (41, .invokestatic 106, 3, 166, 1, 1295), (44, .ireturn, 1, 0, 0, 0), (45, .iload_n 1, 1, 0, 0, 0), (46, .invokestatic 99, 3, 167, 1, 1298), (49, .ireturn, 1, 0, 0, 0), (50, .aload_n 0, 1, 0, 0, 0), (51, .iload_n 1, 1, 0, 0, 0), (52, .invokevirtual 109, 3, 170, 129, 1301), (55, .ireturn, 1, 0, 0, 0), (56, .aload_n 0, 1, 0, 0, 0), (57, .iload_n 1, 1, 0, 0, 0), (58, .invokevirtual 112, 3, 169, 129, 1305), (61, .ireturn, 1, 0, 0, 0), (62, .iconst (-1), 1, 0, 0, 0), (63, .ireturn, 1, 0, 0, 0)]
def cd_172 : List aE := [(0, .iconst 0, 1, 0, 0, 0), (1, .istore_n 2, 1, 0, 0, 0), (2, .iload_n 2, 1, 0, 0, 0), (3, .bipush 10, 2, 0, 0, 0), (5, .if_icmp .ge 46, 3, 32, 0, 0), (8, .aload_n 0, 1, 0, 0, 0), (9, .getfield 17, 3, 8, 4, 1177), (12, .iload_n 2, 1, 0, 0, 0), (13, .iaload, 1, 0, 0, 0), (14, .ifCond .eq 31, 3, 30, 0, 0), (17, .aload_n 0, 1, 0, 0, 0), (18, .getfield 23, 3, 8, 6, 1179), (21, .iconst 2, 1, 0, 0, 0), (22, .iload_n 2, 1, 0, 0, 0), (23, .imul, 1, 0, 0, 0), (24, .iaload, 1, 0, 0, 0), (25, .iload_n 1, 1, 0, 0, 0), (26, .if_icmp .eq 17, 3, 28, 0, 0), (29, .aload_n 0, 1, 0, 0, 0), (30, .getfield 23, 3, 8, 6, 1179), (33, .iconst 2, 1, 0, 0, 0), (34, .iload_n 2, 1, 0, 0, 0), (35, .imul, 1, 0, 0, 0), (36, .iconst 1, 1, 0, 0, 0), (37, .iadd, 1, 0, 0, 0), (38, .iaload, 1, 0, 0, 0), (39, .iload_n 1, 1, 0, 0, 0), (40, .if_icmp .ne 5, 3, 30, 0, 0), (43, .iconst 1, 1, 0, 0, 0), (44, .ireturn, 1, 0, 0, 0), (45, .iinc 2 1, 3, 0, 0, 0), (48, .goto (-46), 3, 2, 0, 0), (51, .iconst 0, 1, 0, 0, 0), (52, .ireturn, 1, 0, 0, 0)]
def cd_173 : List aE := [(0, .iconst 0, 1, 0, 0, 0), (1, .istore_n 3, 1, 0, 0, 0), (2, .iload_n 3, 1, 0, 0, 0), (3, .aload_n 0, 1, 0, 0, 0), (4, .getfield 103, 3, 8, 1, 1174), (7, .if_icmp .ge 47, 3, 34, 0, 0), (10, .aload_n 0, 1, 0, 0, 0), (11, .getfield 38, 3, 8, 11, 1184), (14, .iload_n 3, 1, 0, 0, 0), (15, .iaload, 1, 0, 0, 0), (16, .iload_n 2, 1, 0, 0, 0), (17, .if_icmp .ne 31, 3, 32, 0, 0), (20, .aload_n 0, 1, 0, 0, 0), (21, .getfield 41, 3, 8, 12, 1185), (24, .iconst 2, 1, 0, 0, 0), (25, .iload_n 3, 1, 0, 0, 0), (26, .imul, 1, 0, 0, 0), (27, .iaload, 1, 0, 0, 0), (28, .iload_n 1, 1, 0, 0, 0), (29, .if_icmp .eq 17, 3, 30, 0, 0), (32, .aload_n 0, 1, 0, 0, 0), (33, .getfield 41, 3, 8, 12, 1185), (36, .iconst 2, 1, 0, 0, 0), (37, .iload_n 3, 1, 0, 0, 0), (38, .imul, 1, 0, 0, 0), (39, .iconst 1, 1, 0, 0, 0), (40, .iadd, 1, 0, 0, 0), (41, .iaload, 1, 0, 0, 0), (42, .iload_n 1, 1, 0, 0, 0), (43, .if_icmp .ne 5, 3, 32, 0, 0), (46, .iconst 1, 1, 0, 0, 0), (47, .ireturn, 1, 0, 0, 0), (48, .iinc 3 1, 3, 0, 0, 0), (51, .goto (-49), 3, 2, 0, 0), (54, .iconst 0, 1, 0, 0, 0), (55, .ireturn, 1, 0, 0, 0)]
def cd_174 : List aE := [(0, .iload_n 1, 1, 0, 0, 0), (1, .iconst 0, 1, 0, 0, 0), (2, .bipush 9, 2, 0, 0, 0), (4, .invokestatic 88, 3, 159, 3, 1281), (7, .ifCond .eq 32, 3, 19, 0, 0), (10, .aload_n 0, 1, 0, 0, 0), (11, .iload_n 2, 1, 0, 0, 0), (12, .invokevirtual 92, 3, 162, 129, 1277), (15, .ifCond .eq 24, 3, 19, 0, 0), (18, .iload_n 3, 1, 0, 0, 0), (19, .iconst 0, 1, 0, 0, 0), (20, .bipush 39, 2, 0, 0, 0), (22, .invokestatic 88, 3, 159, 3, 1281), (25, .ifCond .eq 14, 3, 19, 0, 0), (28, .iload 4, 2, 0, 0, 0), (30, .iconst 0, 1, 0, 0, 0), (31, .bipush 39, 2, 0, 0, 0), (33, .invokestatic 88, 3, 159, 3, 1281), (36, .ifCond .ne 5, 3, 21, 0, 0), (39, .iconst 0, 1, 0, 0, 0), (40, .ireturn, 1, 0, 0, 0), (41, .aload_n 0, 1, 0, 0, 0), (42, .getfield 17, 3, 8, 4, 1177), (45, .iload_n 1, 1, 0, 0, 0), (46, .iaload, 1, 0, 0, 0), (47, .ifCond .ne 35, 3, 42, 0, 0), (50, .aload_n 0, 1, 0, 0, 0), (51, .iload_n 2, 1, 0, 0, 0), (52, .invokevirtual 112, 3, 169, 129, 1305), (55, .iconst (-1), 1, 0, 0, 0), (56, .if_icmp .ne 26, 3, 42, 0, 0), (59, .aload_n 0, 1, 0, 0, 0), (60, .iload_n 3, 1, 0, 0, 0), (61, .invokevirtual 115, 3, 172, 129, 1313), (64, .ifCond .ne 18, 3, 42, 0, 0), (67, .aload_n 0, 1, 0, 0, 0), (68, .iload 4, 2, 0, 0, 0), (70, .invokevirtual 115, 3, 172, 129, 1313), (73, .ifCond .ne 9, 3, 42, 0, 0), (76, .iload_n 3, 1, 0, 0, 0), (77, .iload 4, 2, 0, 0, 0), (79, .if_icmp .ne 5, 3, 44, 0, 0), (82, .iconst 0, 1, 0, 0, 0), (83, .ireturn, 1, 0, 0, 0), (84, .aload_n 0, 1, 0, 0, 0), (85, .iload_n 3, 1, 0, 0, 0), (86, .iload_n 2, 1, 0, 0, 0), (87, .invokevirtual 118, 3, 173, 130, 1317), (90, .ifCond .ne 23, 3, 58, 0, 0), (93, .aload_n 0, 1, 0, 0, 0), (94, .iload 4, 2, 0, 0, 0), (96, .iload_n 2, 1, 0, 0, 0), (97, .invokevirtual 118, 3, 173, 130, 1317), (100, .ifCond .ne 13, 3, 58, 0, 0), (103, .aload_n 0, 1, 0, 0, 0), (104, .getfield 103, 3, 8, 1, 1174), (107, .sipush 200, 3, 0, 0, 0), (110, .if_icmp .lt 5, 3, 60, 0, 0), (113, .iconst 0, 1, 0, 0, 0), (114, .ireturn, 1, 0, 0, 0), (115, .aload_n 0, 1, 0, 0, 0), (116, .getfield 17, 3, 8, 4, 1177), (119, .iload_n 1, 1, 0, 0, 0), (120, .iconst 1, 1, 0, 0, 0), (121, .iastore, 1, 0, 0, 0), (122, .aload_n 0, 1, 0, 0, 0), (123, .getfield 20, 3, 8, 5, 1178), (126, .iload_n 1, 1, 0, 0, 0), (127, .iload_n 2, 1, 0, 0, 0), (128, .iastore, 1, 0, 0, 0), (129, .aload_n 0, 1, 0, 0, 0), (130, .getfield 23, 3, 8, 6, 1179), (133, .iconst 2, 1, 0, 0, 0), (134, .iload_n 1, 1, 0, 0, 0), (135, .imul, 1, 0, 0, 0), (136, .iload_n 3, 1, 0, 0, 0), (137, .iastore, 1, 0, 0, 0), (138, .aload_n 0, 1, 0, 0, 0), (139, .getfield 23, 3, 8, 6, 1179), (142, .iconst 2, 1, 0, 0, 0), (143, .iload_n 1, 1, 0, 0, 0), (144, .imul, 1, 0, 0, 0), (145, .iconst 1, 1, 0, 0, 0), (146, .iadd, 1, 0, 0, 0), (147, .iload 4, 2, 0, 0, 0), (149, .iastore, 1, 0, 0, 0), (150, .aload_n 0, 1, 0, 0, 0), (151, .getfield 26, 3, 8, 7, 1180), (154, .iload_n 1, 1, 0, 0, 0), (155, .iconst 0, 1, 0, 0, 0), (156, .iastore, 1, 0, 0, 0), (157, .aload_n 0, 1, 0, 0, 0), (158, .getfield 29, 3, 8, 8, 1181), (161, .iload_n 1, 1, 0, 0, 0), (162, .iconst 0, 1, 0, 0, 0), (163, .iastore, 1, 0, 0, 0), (164, .aload_n 0, 1, 0, 0, 0), (165, .getfield 13, 3, 8, 3, 1176), (168, .iload_n 2, 1, 0, 0, 0), (169, .iconst 1, 1, 0, 0, 0), (170, .isub, 1, 0, 0, 0), (171, .iconst 1, 1, 0, 0, 0), (172, .bastore, 1, 0, 0, 0), (173, .iconst 1, 1, 0, 0, 0), (174, .ireturn, 1, 0, 0, 0)]
def cd_175 : List aE := [(0, .iload_n 1, 1, 0, 0, 0), (1, .iconst 0, 1, 0, 0, 0), (2, .bipush 9, 2, 0, 0, 0), (4, .invokestatic 88, 3, 159, 3, 1281), (7, .ifCond .eq 12, 3, 10, 0, 0), (10, .aload_n 0, 1, 0, 0, 0), (11, .getfield 17, 3, 8, 4, 1177), (14, .iload_n 1, 1, 0, 0, 0), (15, .iaload, 1, 0, 0, 0), (16, .goto 4, 3, 11, 0, 0), (19, .iconst 0, 1, 0, 0, 0), (20, .ireturn, 1, 0, 0, 0)]
def cd_176 : List aE := [(0, .aload_n 0, 1, 0, 0, 0), (1, .getfield 32, 3, 8, 9, 1182), (4, .sipush 340, 3, 0, 0, 0), (7, .iload_n 1, 1, 0, 0, 0), (8, .imul, 1, 0, 0, 0), (9, .iload_n 2, 1, 0, 0, 0), (10, .iadd, 1, 0, 0, 0), (11, .iaload, 1, 0, 0, 0), (12, .ireturn, 1, 0, 0, 0)]
def cd_177 : List aE := [(0, .aload_n 0, 1, 0, 0, 0), (1, .getfield 20, 3, 8, 5, 1178), (4, .iload_n 1, 1, 0, 0, 0), (5, .iaload, 1, 0, 0, 0), (6, .invokestatic 106, 3, 166, 1, 1295), (9, .iload_n 2, 1, 0, 0, 0), (10, .iadd, 1, 0, 0, 0), (11, .iconst 4, 1, 0, 0, 0), (12, .irem, 1, 0, 0, 0), (13, .ireturn, 1, 0, 0, 0)]
def cd_178 : List aE := [(0, .aload_n 0, 1, 0, 0, 0), (1, .getfield 26, 3, 8, 7, 1180), (4, .iload_n 1, 1, 0, 0, 0), (5, .iaload, 1, 0, 0, 0), (6, .iconst 1, 1, 0, 0, 0), (7, .isub, 1, 0, 0, 0), (8, .istore_n 2, 1, 0, 0, 0), (9, .iload_n 2, 1, 0, 0, 0), (10, .ifCond .lt 18, 3, 16, 0, 0), (13, .aload_n 0, 1, 0, 0, 0), (14, .iload_n 1, 1, 0, 0, 0), (15, .iload_n 2, 1, 0, 0, 0), (16, .invokevirtual 122, 3, 176, 130, 1337), (19, .ifCond .ne 9, 3, 16, 0, 0), (22, .iinc 2 (-1), 3, 0, 0, 0), (25, .goto (-16), 3, 7, 0, 0), (28, .iload_n 2, 1, 0, 0, 0), (29, .ireturn, 1, 0, 0, 0)]
def cd_179 : List aE := [(0, .aload_n 0, 1, 0, 0, 0), (1, .getfield 26, 3, 8, 7, 1180), (4, .iload_n 1, 1, 0, 0, 0), (5, .iaload, 1, 0, 0, 0), (6, .iconst 1, 1, 0, 0, 0), (7, .isub, 1, 0, 0, 0), (8, .istore_n 2, 1, 0, 0, 0), (9, .iload_n 2, 1, 0, 0, 0), (10, .ifCond .lt 19, 3, 17, 0, 0), (13, .aload_n 0, 1, 0, 0, 0), (14, .iload_n 1, 1, 0, 0, 0), (15, .iload_n 2, 1, 0, 0, 0), (16, .invokevirtual 122, 3, 176, 130, 1337), (19, .iconst 3, 1, 0, 0, 0), (20, .if_icmp .ge 9, 3, 17, 0, 0), (23, .iinc 2 (-1), 3, 0, 0, 0), (26, .goto (-17), 3, 7, 0, 0), (29, .iload_n 2, 1, 0, 0, 0), (30, .ireturn, 1, 0, 0, 0)]
def cd_180 : List aE := [(0, .aload_n 0, 1, 0, 0, 0), (1, .iload_n 1, 1, 0, 0, 0), (2, .invokevirtual 126, 3, 178, 129, 1333), (5, .istore_n 2, 1, 0, 0, 0), (6, .iload_n 2, 1, 0, 0, 0), (7, .iconst (-1), 1, 0, 0, 0), (8, .if_icmp .eq 13, 3, 13, 0, 0), (11, .aload_n 0, 1, 0, 0, 0), (12, .iload_n 1, 1, 0, 0, 0), (13, .iload_n 2, 1, 0, 0, 0), (14, .invokevirtual 122, 3, 176, 130, 1337), (17, .iconst 2, 1, 0, 0, 0), (18, .if_icmp .le 7, 3, 15, 0, 0), (21, .iconst 0, 1, 0, 0, 0), (22, .goto 9, 3, 19, 0, 0), (25, .aload_n 0, 1, 0, 0, 0), (26, .iload_n 1, 1, 0, 0, 0), (27, .iload_n 2, 1, 0, 0, 0), (28, .invokevirtual 122, 3, 176, 130, 1337), (31, .ireturn, 1, 0, 0, 0)]
def cd_181 : List aE := [(0, .iload_n 2, 1, 0, 0, 0), (1, .iconst 0, 1, 0, 0, 0), (2, .bipush 37, 2, 0, 0, 0), (4, .invokestatic 88, 3, 159, 3, 1281), (7, .ifCond .ne 5, 3, 7, 0, 0), (10, .iconst 0, 1, 0, 0, 0), (11, .ireturn, 1, 0, 0, 0), (12, .iload_n 2, 1, 0, 0, 0), (13, .ifCond .ne 5, 3, 11, 0, 0), (16, .iconst 1, 1, 0, 0, 0), (17, .ireturn, 1, 0, 0, 0), (18, .aload_n 0, 1, 0, 0, 0), (19, .iload_n 1, 1, 0, 0, 0), (20, .invokevirtual 126, 3, 178, 129, 1333), (23, .istore_n 3, 1, 0, 0, 0), (24, .iload_n 3, 1, 0, 0, 0), (25, .iconst (-1), 1, 0, 0, 0), (26, .if_icmp .eq 36, 3, 39, 0, 0), (29, .aload_n 0, 1, 0, 0, 0), (30, .iload_n 1, 1, 0, 0, 0), (31, .iload_n 3, 1, 0, 0, 0), (32, .invokevirtual 129, 3, 177, 130, 1341), (35, .aload_n 0, 1, 0, 0, 0), (36, .getfield 26, 3, 8, 7, 1180), (39, .iload_n 1, 1, 0, 0, 0), (40, .iaload, 1, 0, 0, 0), (41, .iadd, 1, 0, 0, 0), (42, .aload_n 0, 1, 0, 0, 0), (43, .getfield 20, 3, 8, 5, 1178), (46, .iload_n 1, 1, 0, 0, 0), (47, .iaload, 1, 0, 0, 0), (48, .invokestatic 106, 3, 166, 1, 1295), (51, .iadd, 1, 0, 0, 0), (52, .iconst 2, 1, 0, 0, 0), (53, .irem, 1, 0, 0, 0), (54, .iconst 1, 1, 0, 0, 0), (55, .if_icmp .ne 7, 3, 39, 0, 0), (58, .iconst 1, 1, 0, 0, 0), (59, .goto 4, 3, 40, 0, 0), (62, .iconst 0, 1, 0, 0, 0), (63, .istore 4, 2, 0, 0, 0), (65, .iload_n 2, 1, 0, 0, 0), (66, .iconst 1, 1, 0, 0, 0), (67, .if_icmp .ne 24, 3, 56, 0, 0), (70, .iload 4, 2, 0, 0, 0), (72, .ifCond .eq 17, 3, 54, 0, 0), (75, .aload_n 0, 1, 0, 0, 0), (76, .iload_n 1, 1, 0, 0, 0), (77, .iload_n 3, 1, 0, 0, 0), (78, .invokevirtual 122, 3, 176, 130, 1337), (81, .iconst 2, 1, 0, 0, 0), (82, .if_icmp .le 7, 3, 54, 0, 0), (85, .iconst 1, 1, 0, 0, 0), (86, .goto 4, 3, 55, 0, 0), (89, .iconst 0, 1, 0, 0, 0), (90, .ireturn, 1, 0, 0, 0), (91, .iload_n 2, 1, 0, 0, 0), (92, .iconst 2, 1, 0, 0, 0), (93, .if_icmp .ne 24, 3, 71, 0, 0), (96, .iload 4, 2, 0, 0, 0), (98, .ifCond .eq 17, 3, 69, 0, 0), (101, .aload_n 0, 1, 0, 0, 0), (102, .iload_n 1, 1, 0, 0, 0), (103, .iload_n 3, 1, 0, 0, 0), (104, .invokevirtual 122, 3, 176, 130, 1337), (107, .iconst 1, 1, 0, 0, 0), (108, .if_icmp .ne 7, 3, 69, 0, 0), (111, .iconst 1, 1, 0, 0, 0), (112, .goto 4, 3, 70, 0, 0), (115, .iconst 0, 1, 0, 0, 0), (116, .ireturn, 1, 0, 0, 0), (117, .aload_n 0, 1, 0, 0, 0), (118, .iload_n 1, 1, 0, 0, 0), (119, .invokevirtual 132, 3, 179, 129, 1345), (122, .istore 5, 2, 0, 0, 0), (124, .iload 5, 2, 0, 0, 0), (126, .iconst (-1), 1, 0, 0, 0), (127, .if_icmp .eq 14, 3, 84, 0, 0), (130, .iload_n 2, 1, 0, 0, 0), (131, .aload_n 0, 1, 0, 0, 0), (132, .iload_n 1, 1, 0, 0, 0), (133, .iload 5, 2, 0, 0, 0), (135, .invokevirtual 122, 3, 176, 130, 1337), (138, .if_icmp .le 7, 3, 86, 0, 0), (141, .iconst 1, 1, 0, 0, 0), (142, .goto 4, 3, 87, 0, 0), (145, .iconst 0, 1, 0, 0, 0), (146, .ireturn, 1, 0, 0, 0)]
def cd_182 : List aE := [(0, .aload_n 0, 1, 0, 0, 0), (1, .iload_n 1, 1, 0, 0, 0), (2, .aload_n 0, 1, 0, 0, 0), (3, .iload_n 1, 1, 0, 0, 0), (4, .invokevirtual 132, 3, 179, 129, 1345), (7, .invokevirtual 122, 3, 176, 130, 1337), (10, .iconst 3, 1, 0, 0, 0), (11, .isub, 1, 0, 0, 0), (12, .iconst 5, 1, 0, 0, 0), (13, .idiv, 1, 0, 0, 0), (14, .iconst 1, 1, 0, 0, 0), (15, .iadd, 1, 0, 0, 0), (16, .ireturn, 1, 0, 0, 0)]
def cd_183 : List aE := [(0, .aload_n 0, 1, 0, 0, 0), (1, .iload_n 1, 1, 0, 0, 0), (2, .aload_n 0, 1, 0, 0, 0), (3, .iload_n 1, 1, 0, 0, 0), (4, .invokevirtual 132, 3, 179, 129, 1345), (7, .invokevirtual 122, 3, 176, 130, 1337), (10, .iconst 3, 1, 0, 0, 0), (11, .isub, 1, 0, 0, 0), (12, .iconst 5, 1, 0, 0, 0), (13, .irem, 1, 0, 0, 0), (14, .ireturn, 1, 0, 0, 0)]
def cd_184 : List aE := [(0, .aload_n 0, 1, 0, 0, 0), (1, .iload_n 1, 1, 0, 0, 0), (2, .invokevirtual 132, 3, 179, 129, 1345), (5, .istore_n 2, 1, 0, 0, 0), (6, .iconst 0, 1, 0, 0, 0), (7, .istore_n 3, 1, 0, 0, 0), (8, .iload_n 3, 1, 0, 0, 0), (9, .iload_n 2, 1, 0, 0, 0), (10, .if_icmp .gt 62, 3, 46, 0, 0), (13, .aload_n 0, 1, 0, 0, 0), (14, .iload_n 1, 1, 0, 0, 0), (15, .iload_n 3, 1, 0, 0, 0), (16, .invokevirtual 122, 3, 176, 130, 1337), (19, .iconst 2, 1, 0, 0, 0), (20, .if_icmp .le 46, 3, 44, 0, 0), (23, .aload_n 0, 1, 0, 0, 0), (24, .iload_n 1, 1, 0, 0, 0), (25, .iload_n 3, 1, 0, 0, 0), (26, .invokevirtual 122, 3, 176, 130, 1337), (29, .iconst 3, 1, 0, 0, 0), (30, .isub, 1, 0, 0, 0), (31, .iconst 5, 1, 0, 0, 0), (32, .irem, 1, 0, 0, 0), (33, .aload_n 0, 1, 0, 0, 0), (34, .iload_n 1, 1, 0, 0, 0), (35, .invokevirtual 135, 3, 183, 129, 1357), (38, .if_icmp .ne 28, 3, 44, 0, 0), (41, .aload_n 0, 1, 0, 0, 0), (42, .iload_n 1, 1, 0, 0, 0), (43, .iload_n 3, 1, 0, 0, 0), (44, .invokevirtual 129, 3, 177, 130, 1341), (47, .aload_n 0, 1, 0, 0, 0), (48, .iload_n 1, 1, 0, 0, 0), (49, .iload_n 2, 1, 0, 0, 0), (50, .invokevirtual 129, 3, 177, 130, 1341), (53, .iadd, 1, 0, 0, 0), (54, .iconst 2, 1, 0, 0, 0), (55, .irem, 1, 0, 0, 0), (56, .ifCond .ne 10, 3, 44, 0, 0), (59, .aload_n 0, 1, 0, 0, 0), (60, .iload_n 1, 1, 0, 0, 0), (61, .iload_n 3, 1, 0, 0, 0), (62, .invokevirtual 129, 3, 177, 130, 1341), (65, .ireturn, 1, 0, 0, 0), (66, .iinc 3 1, 3, 0, 0, 0), (69, .goto (-61), 3, 6, 0, 0), (72, .iconst (-1), 1, 0, 0, 0), (73, .ireturn, 1, 0, 0, 0)]
def cd_185 : List aE := [(0, .aload_n 0, 1, 0, 0, 0), (1, .iload_n 1, 1, 0, 0, 0), (2, .invokevirtual 138, 3, 175, 129, 1325), (5, .iconst 1, 1, 0, 0, 0), (6, .if_icmp .ne 12, 3, 10, 0, 0), (9, .aload_n 0, 1, 0, 0, 0), (10, .iload_n 1, 1, 0, 0, 0), (11, .iload_n 2, 1, 0, 0, 0), (12, .invokevirtual 141, 3, 181, 130, 1329), (15, .ifCond .ne 5, 3, 12, 0, 0), (18, .iconst (-1), 1, 0, 0, 0), (19, .ireturn, 1, 0, 0, 0), (20, .aload_n 0, 1, 0, 0, 0), (21, .getfield 32, 3, 8, 9, 1182), (24, .sipush 340, 3, 0, 0, 0), (27, .iload_n 1, 1, 0, 0, 0), (28, .imul, 1, 0, 0, 0), (29, .aload_n 0, 1, 0, 0, 0), (30, .getfield 26, 3, 8, 7, 1180), (33, .iload_n 1, 1, 0, 0, 0), (34, .iaload, 1, 0, 0, 0), (35, .iadd, 1, 0, 0, 0), (36, .iload_n 2, 1, 0, 0, 0), (37, .iastore, 1, 0, 0, 0), (38, .aload_n 0, 1, 0, 0, 0), (39, .getfield 26, 3, 8, 7, 1180), (42, .iload_n 1, 1, 0, 0, 0), (43, .dup2, 1, 0, 0, 0), (44, .iaload, 1, 0, 0, 0), (45, .iconst 1, 1, 0, 0, 0), (46, .iadd, 1, 0, 0, 0), (47, .iastore, 1, 0, 0, 0), (48, .iconst 0, 1, 0, 0, 0), (49, .istore_n 3, 1, 0, 0, 0), (50, .iload_n 3, 1, 0, 0, 0), (51, .aload_n 0, 1, 0, 0, 0), (52, .getfield 26, 3, 8, 7, 1180), (55, .iload_n 1, 1, 0, 0, 0), (56, .iaload, 1, 0, 0, 0), (57, .if_icmp .ge 27, 3, 54, 0, 0), (60, .aload_n 0, 1, 0, 0, 0), (61, .iload_n 1, 1, 0, 0, 0), (62, .aload_n 0, 1, 0, 0, 0), (63, .getfield 26, 3, 8, 7, 1180), (66, .iload_n 1, 1, 0, 0, 0), (67, .iaload, 1, 0, 0, 0), (68, .iconst 1, 1, 0, 0, 0), (69, .isub, 1, 0, 0, 0), (70, .iload_n 3, 1, 0, 0, 0), (71, .isub, 1, 0, 0, 0), (72, .invokevirtual 122, 3, 176, 130, 1337), (75, .ifCond .ne 9, 3, 54, 0, 0), (78, .iinc 3 1, 3, 0, 0, 0), (81, .goto (-31), 3, 34, 0, 0), (84, .iload_n 3, 1, 0, 0, 0), (85, .aload_n 0, 1, 0, 0, 0), (86, .getfield 26, 3, 8, 7, 1180), (89, .iload_n 1, 1, 0, 0, 0), (90, .iaload, 1, 0, 0, 0), (91, .if_icmp .ne 16, 3, 69, 0, 0), (94, .iload_n 3, 1, 0, 0, 0), (95, .iconst 4, 1, 0, 0, 0), (96, .if_icmp .ne 11, 3, 69, 0, 0), (99, .aload_n 0, 1, 0, 0, 0), (100, .iload_n 1, 1, 0, 0, 0), (101, .iconst (-1), 1, 0, 0, 0), (102, .invokevirtual 144, 3, 197, 130, 1349), (105, .iconst 2, 1, 0, 0, 0), (106, .ireturn, 1, 0, 0, 0), (107, .iload_n 3, 1, 0, 0, 0), (108, .aload_n 0, 1, 0, 0, 0), (109, .getfield 26, 3, 8, 7, 1180), (112, .iload_n 1, 1, 0, 0, 0), (113, .iaload, 1, 0, 0, 0), (114, .if_icmp .ge 17, 3, 85, 0, 0), (117, .iload_n 3, 1, 0, 0, 0), (118, .iconst 3, 1, 0, 0, 0), (119, .if_icmp .ne 12, 3, 85, 0, 0), (122, .aload_n 0, 1, 0, 0, 0), (123, .getfield 17, 3, 8, 4, 1177), (126, .iload_n 1, 1, 0, 0, 0), (127, .iconst 2, 1, 0, 0, 0), (128, .iastore, 1, 0, 0, 0), (129, .iconst 1, 1, 0, 0, 0), (130, .ireturn, 1, 0, 0, 0), (131, .iconst 0, 1, 0, 0, 0), (132, .ireturn, 1, 0, 0, 0)]
def cd_186 : List aE := [(0, .iload_n 0, 1, 0, 0, 0), (1, .bipush 13, 2, 0, 0, 0), (3, .idiv, 1, 0, 0, 0), (4, .ireturn, 1, 0, 0, 0)]
def cd_187 : List aE := [(0, .iload_n 0, 1, 0, 0, 0), (1, .invokestatic 148, 3, 186, 1, 1399), (4, .iload_n 1, 1, 0, 0, 0), (5, .invokestatic 148, 3, 186, 1, 1399), (8, .if_icmp .ne 14, 3, 12, 0, 0), (11, .iload_n 0, 1, 0, 0, 0), (12, .iload_n 1, 1, 0, 0, 0), (13, .if_icmp .le 7, 3, 10, 0, 0), (16, .iconst 1, 1, 0, 0, 0), (17, .goto 4, 3, 11, 0, 0), (20, .iconst 0, 1, 0, 0, 0), (21, .ireturn, 1, 0, 0, 0), (22, .iload_n 0, 1, 0, 0, 0), (23, .invokestatic 148, 3, 186, 1, 1399), (26, .iload_n 2, 1, 0, 0, 0), (27, .if_icmp .ne 7, 3, 18, 0, 0), (30, .iconst 1, 1, 0, 0, 0), (31, .goto 4, 3, 19, 0, 0), (34, .iconst 0, 1, 0, 0, 0), (35, .ireturn, 1, 0, 0, 0)]
def cd_188 : List aE := [(0, .aload_n 0, 1, 0, 0, 0), (1, .iload_n 1, 1, 0, 0, 0), (2, .invokevirtual 135, 3, 183, 129, 1357), (5, .istore_n 2, 1, 0, 0, 0), (6, .aload_n 0, 1, 0, 0, 0), (7, .aload_n 0, 1, 0, 0, 0), (8, .iload_n 1, 1, 0, 0, 0), (9, .invokevirtual 151, 3, 184, 129, 1361), (12, .iconst 1, 1, 0, 0, 0), (13, .iadd, 1, 0, 0, 0), (14, .iconst 4, 1, 0, 0, 0), (15, .irem, 1, 0, 0, 0), (16, .putfield 154, 3, 8, 25, 1198), (19, .aload_n 0, 1, 0, 0, 0), (20, .iconst 0, 1, 0, 0, 0), (21, .putfield 157, 3, 8, 26, 1199), (24, .aload_n 0, 1, 0, 0, 0), (25, .getfield 74, 3, 8, 24, 1197), (28, .iconst 0, 1, 0, 0, 0), (29, .iconst 0, 1, 0, 0, 0), (30, .iastore, 1, 0, 0, 0), (31, .aload_n 0, 1, 0, 0, 0), (32, .getfield 74, 3, 8, 24, 1197), (35, .iconst 1, 1, 0, 0, 0), (36, .iconst 0, 1, 0, 0, 0), (37, .iastore, 1, 0, 0, 0), (38, .aload_n 0, 1, 0, 0, 0), (39, .getfield 157, 3, 8, 26, 1199), (42, .iconst 4, 1, 0, 0, 0), (43, .iadd, 1, 0, 0, 0), (44, .aload_n 0, 1, 0, 0, 0), (45, .getfield 29, 3, 8, 8, 1181), (48, .iload_n 1, 1, 0, 0, 0), (49, .iaload, 1, 0, 0, 0), (50, .if_icmp .gt 103, 3, 97, 0, 0), (53, .iconst 0, 1, 0, 0, 0), (54, .istore_n 3, 1, 0, 0, 0), (55, .iconst 1, 1, 0, 0, 0), (56, .istore 4, 2, 0, 0, 0), (58, .iload 4, 2, 0, 0, 0), (60, .iconst 4, 1, 0, 0, 0), (61, .if_icmp .ge 52, 3, 71, 0, 0), (64, .aload_n 0, 1, 0, 0, 0), (65, .getfield 35, 3, 8, 10, 1183), (68, .bipush 52, 2, 0, 0, 0), (70, .iload_n 1, 1, 0, 0, 0), (71, .imul, 1, 0, 0, 0), (72, .aload_n 0, 1, 0, 0, 0), (73, .getfield 157, 3, 8, 26, 1199), (76, .iadd, 1, 0, 0, 0), (77, .iload 4, 2, 0, 0, 0), (79, .iadd, 1, 0, 0, 0), (80, .iaload, 1, 0, 0, 0), (81, .aload_n 0, 1, 0, 0, 0), (82, .getfield 35, 3, 8, 10, 1183), (85, .bipush 52, 2, 0, 0, 0), (87, .iload_n 1, 1, 0, 0, 0), (88, .imul, 1, 0, 0, 0), (89, .aload_n 0, 1, 0, 0, 0), (90, .getfield 157, 3, 8, 26, 1199), (93, .iadd, 1, 0, 0, 0), (94, .iload_n 3, 1, 0, 0, 0), (95, .iadd, 1, 0, 0, 0), (96, .iaload, 1, 0, 0, 0), (97, .iload_n 2, 1, 0, 0, 0), (98, .invokestatic 160, 3, 187, 3, 1396), (101, .ifCond .eq 6, 3, 69, 0, 0), (104, .iload 4, 2, 0, 0, 0), (106, .istore_n 3, 1, 0, 0, 0), (107, .iinc 4 1, 3, 0, 0, 0), (110, .goto (-52), 3, 39, 0, 0), (113, .aload_n 0, 1, 0, 0, 0), (114, .aload_n 0, 1, 0, 0, 0), (115, .getfield 154, 3, 8, 25, 1198), (118, .iload_n 3, 1, 0, 0, 0), (119, .iadd, 1, 0, 0, 0), (120, .iconst 4, 1, 0, 0, 0), (121, .irem, 1, 0, 0, 0), (122, .putfield 154, 3, 8, 25, 1198), (125, .aload_n 0, 1, 0, 0, 0), (126, .getfield 74, 3, 8, 24, 1197), (129, .aload_n 0, 1, 0, 0, 0), (130, .getfield 154, 3, 8, 25, 1198), (133, .iconst 2, 1, 0, 0, 0), (134, .irem, 1, 0, 0, 0), (135, .dup2, 1, 0, 0, 0), (136, .iaload, 1, 0, 0, 0), (137, .iconst 1, 1, 0, 0, 0), (138, .iadd, 1, 0, 0, 0), (139, .iastore, 1, 0, 0, 0), (140, .aload_n 0, 1, 0, 0, 0), (141, .dup, 1, 0, 0, 0), (142, .getfield 157, 3, 8, 26, 1199), (145, .iconst 4, 1, 0, 0, 0), (146, .iadd, 1, 0, 0, 0), (147, .putfield 157, 3, 8, 26, 1199), (150, .goto (-112), 3, 26, 0, 0), (153, .return_, 1, 0, 0, 0)]
def cd_189 : List aE := [(0, .aload_n 0, 1, 0, 0, 0), (1, .getfield 17, 3, 8, 4, 1177), (4, .iload_n 1, 1, 0, 0, 0), (5, .iaload, 1, 0, 0, 0), (6, .iconst 1, 1, 0, 0, 0), (7, .if_icmp .ne 15, 3, 14, 0, 0), (10, .aload_n 0, 1, 0, 0, 0), (11, .iload_n 1, 1, 0, 0, 0), (12, .aload_n 0, 1, 0, 0, 0), (13, .getfield 26, 3, 8, 7, 1180), (16, .iload_n 1, 1, 0, 0, 0), (17, .iaload, 1, 0, 0, 0), (18, .invokevirtual 129, 3, 177, 130, 1341), (21, .ireturn, 1, 0, 0, 0), (22, .aload_n 0, 1, 0, 0, 0), (23, .iload_n 1, 1, 0, 0, 0), (24, .invokevirtual 163, 3, 188, 129, 1392), (27, .aload_n 0, 1, 0, 0, 0), (28, .getfield 154, 3, 8, 25, 1198), (31, .aload_n 0, 1, 0, 0, 0), (32, .getfield 29, 3, 8, 8, 1181), (35, .iload_n 1, 1, 0, 0, 0), (36, .iaload, 1, 0, 0, 0), (37, .iadd, 1, 0, 0, 0), (38, .aload_n 0, 1, 0, 0, 0), (39, .getfield 157, 3, 8, 26, 1199), (42, .isub, 1, 0, 0, 0), (43, .iconst 4, 1, 0, 0, 0), (44, .irem, 1, 0, 0, 0), (45, .ireturn, 1, 0, 0, 0)]
def cd_190 : List aE := [(0, .iconst 0, 1, 0, 0, 0), (1, .istore_n 3, 1, 0, 0, 0), (2, .iload_n 3, 1, 0, 0, 0), (3, .aload_n 0, 1, 0, 0, 0), (4, .getfield 29, 3, 8, 8, 1181), (7, .iload_n 1, 1, 0, 0, 0), (8, .iaload, 1, 0, 0, 0), (9, .if_icmp .ge 26, 3, 22, 0, 0), (12, .aload_n 0, 1, 0, 0, 0), (13, .getfield 35, 3, 8, 10, 1183), (16, .bipush 52, 2, 0, 0, 0), (18, .iload_n 1, 1, 0, 0, 0), (19, .imul, 1, 0, 0, 0), (20, .iload_n 3, 1, 0, 0, 0), (21, .iadd, 1, 0, 0, 0), (22, .iaload, 1, 0, 0, 0), (23, .iload_n 2, 1, 0, 0, 0), (24, .if_icmp .ne 5, 3, 20, 0, 0), (27, .iconst 1, 1, 0, 0, 0), (28, .ireturn, 1, 0, 0, 0), (29, .iinc 3 1, 3, 0, 0, 0), (32, .goto (-30), 3, 2, 0, 0), (35, .iconst 0, 1, 0, 0, 0), (36, .ireturn, 1, 0, 0, 0)]
def cd_191 : List aE := [(0, .aload_n 0, 1, 0, 0, 0), (1, .aload_n 0, 1, 0, 0, 0), (2, .getfield 20, 3, 8, 5, 1178), (5, .iload_n 1, 1, 0, 0, 0), (6, .iaload, 1, 0, 0, 0), (7, .iload_n 3, 1, 0, 0, 0), (8, .invokevirtual 167, 3, 165, 130, 1406), (11, .iload_n 2, 1, 0, 0, 0), (12, .if_icmp .ne 16, 3, 16, 0, 0), (15, .aload_n 0, 1, 0, 0, 0), (16, .iload_n 1, 1, 0, 0, 0), (17, .iload_n 3, 1, 0, 0, 0), (18, .invokevirtual 170, 3, 190, 130, 1407), (21, .ifCond .ne 7, 3, 16, 0, 0), (24, .iconst 1, 1, 0, 0, 0), (25, .goto 4, 3, 17, 0, 0), (28, .iconst 0, 1, 0, 0, 0), (29, .ireturn, 1, 0, 0, 0)]
def cd_192 : List aE := [(0, .iload_n 2, 1, 0, 0, 0), (1, .invokestatic 96, 3, 163, 1, 1284), (4, .ifCond .ne 5, 3, 5, 0, 0), (7, .iconst 0, 1, 0, 0, 0), (8, .ireturn, 1, 0, 0, 0), (9, .aload_n 0, 1, 0, 0, 0), (10, .iload_n 1, 1, 0, 0, 0), (11, .invokevirtual 173, 3, 189, 129, 1388), (14, .istore_n 3, 1, 0, 0, 0), (15, .aload_n 0, 1, 0, 0, 0), (16, .iload_n 1, 1, 0, 0, 0), (17, .iload_n 3, 1, 0, 0, 0), (18, .iload_n 2, 1, 0, 0, 0), (19, .invokevirtual 176, 3, 191, 131, 1402), (22, .ifCond .ne 5, 3, 17, 0, 0), (25, .iconst 0, 1, 0, 0, 0), (26, .ireturn, 1, 0, 0, 0), (27, .aload_n 0, 1, 0, 0, 0), (28, .getfield 157, 3, 8, 26, 1199), (31, .aload_n 0, 1, 0, 0, 0), (32, .getfield 29, 3, 8, 8, 1181), (35, .iload_n 1, 1, 0, 0, 0), (36, .iaload, 1, 0, 0, 0), (37, .if_icmp .ne 5, 3, 26, 0, 0), (40, .iconst 1, 1, 0, 0, 0), (41, .ireturn, 1, 0, 0, 0), (42, .aload_n 0, 1, 0, 0, 0), (43, .getfield 35, 3, 8, 10, 1183), (46, .bipush 52, 2, 0, 0, 0), (48, .iload_n 1, 1, 0, 0, 0), (49, .imul, 1, 0, 0, 0), (50, .aload_n 0, 1, 0, 0, 0), (51, .getfield 157, 3, 8, 26, 1199), (54, .iadd, 1, 0, 0, 0), (55, .iaload, 1, 0, 0, 0), (56, .invokestatic 148, 3, 186, 1, 1399), (59, .istore 4, 2, 0, 0, 0), (61, .iload_n 2, 1, 0, 0, 0), (62, .invokestatic 148, 3, 186, 1, 1399), (65, .iload 4, 2, 0, 0, 0), (67, .if_icmp .ne 5, 3, 43, 0, 0), (70, .iconst 1, 1, 0, 0, 0), (71, .ireturn, 1, 0, 0, 0), (72, .bipush 13, 2, 0, 0, 0), (74, .iload 4, 2, 0, 0, 0), (76, .imul, 1, 0, 0, 0), (77, .istore 5, 2, 0, 0, 0), (79, .iload 5, 2, 0, 0, 0), (81, .bipush 13, 2, 0, 0, 0), (83, .iload 4, 2, 0, 0, 0), (85, .imul, 1, 0, 0, 0), (86, .bipush 13, 2, 0, 0, 0), (88, .iadd, 1, 0, 0, 0), (89, .if_icmp .ge 22, 3, 64, 0, 0), (92, .aload_n 0, 1, 0, 0, 0), (93, .iload_n 1, 1, 0, 0, 0), (94, .iload_n 3, 1, 0, 0, 0), (95, .iload 5, 2, 0, 0, 0), (97, .invokevirtual 176, 3, 191, 131, 1402), (100, .ifCond .eq 5, 3, 62, 0, 0), (103, .iconst 0, 1, 0, 0, 0), (104, .ireturn, 1, 0, 0, 0), (105, .iinc 5 1, 3, 0, 0, 0), (108, .goto (-29), 3, 47, 0, 0), (111, .iconst 1, 1, 0, 0, 0), (112, .ireturn, 1, 0, 0, 0)]
def cd_193 : List aE := [(0, .aload_n 0, 1, 0, 0, 0), (1, .iload_n 1, 1, 0, 0, 0), (2, .invokevirtual 138, 3, 175, 129, 1325), (5, .iconst 2, 1, 0, 0, 0), (6, .if_icmp .ne 12, 3, 10, 0, 0), (9, .aload_n 0, 1, 0, 0, 0), (10, .iload_n 1, 1, 0, 0, 0), (11, .iload_n 2, 1, 0, 0, 0), (12, .invokevirtual 179, 3, 192, 130, 1384), (15, .ifCond .ne 5, 3, 12, 0, 0), (18, .iconst (-1), 1, 0, 0, 0), (19, .ireturn, 1, 0, 0, 0), (20, .aload_n 0, 1, 0, 0, 0), (21, .getfield 35, 3, 8, 10, 1183), (24, .bipush 52, 2, 0, 0, 0), (26, .iload_n 1, 1, 0, 0, 0), (27, .imul, 1, 0, 0, 0), (28, .aload_n 0, 1, 0, 0, 0), (29, .getfield 29, 3, 8, 8, 1181), (32, .iload_n 1, 1, 0, 0, 0), (33, .iaload, 1, 0, 0, 0), (34, .iadd, 1, 0, 0, 0), (35, .iload_n 2, 1, 0, 0, 0), (36, .iastore, 1, 0, 0, 0), (37, .aload_n 0, 1, 0, 0, 0), (38, .getfield 29, 3, 8, 8, 1181), (41, .iload_n 1, 1, 0, 0, 0), (42, .dup2, 1, 0, 0, 0), (43, .iaload, 1, 0, 0, 0), (44, .iconst 1, 1, 0, 0, 0), (45, .iadd, 1, 0, 0, 0), (46, .iastore, 1, 0, 0, 0), (47, .aload_n 0, 1, 0, 0, 0), (48, .getfield 29, 3, 8, 8, 1181), (51, .iload_n 1, 1, 0, 0, 0), (52, .iaload, 1, 0, 0, 0), (53, .iconst 4, 1, 0, 0, 0), (54, .irem, 1, 0, 0, 0), (55, .ifCond .eq 5, 3, 41, 0, 0), (58, .iconst 0, 1, 0, 0, 0), (59, .ireturn, 1, 0, 0, 0), (60, .aload_n 0, 1, 0, 0, 0), (61, .getfield 29, 3, 8, 8, 1181), (64, .iload_n 1, 1, 0, 0, 0), (65, .iaload, 1, 0, 0, 0), (66, .bipush 52, 2, 0, 0, 0), (68, .if_icmp .ge 5, 3, 49, 0, 0), (71, .iconst 1, 1, 0, 0, 0), (72, .ireturn, 1, 0, 0, 0), (73, .aload_n 0, 1, 0, 0, 0), (74, .iload_n 1, 1, 0, 0, 0), (75, .invokevirtual 163, 3, 188, 129, 1392), (78, .aload_n 0, 1, 0, 0, 0), (79, .iload_n 1, 1, 0, 0, 0), (80, .aload_n 0, 1, 0, 0, 0), (81, .getfield 74, 3, 8, 24, 1197), (84, .aload_n 0, 1, 0, 0, 0), (85, .iload_n 1, 1, 0, 0, 0), (86, .invokevirtual 151, 3, 184, 129, 1361), (89, .iconst 2, 1, 0, 0, 0), (90, .irem, 1, 0, 0, 0), (91, .iaload, 1, 0, 0, 0), (92, .invokevirtual 144, 3, 197, 130, 1349), (95, .iconst 2, 1, 0, 0, 0), (96, .ireturn, 1, 0, 0, 0)]
def cd_194 : List aE := [(0, .aload_n 0, 1, 0, 0, 0), (1, .iload_n 1, 1, 0, 0, 0), (2, .invokevirtual 138, 3, 175, 129, 1325), (5, .iconst 2, 1, 0, 0, 0), (6, .if_icmp .ne 16, 3, 12, 0, 0), (9, .iload_n 2, 1, 0, 0, 0), (10, .ifCond .lt 12, 3, 12, 0, 0), (13, .aload_n 0, 1, 0, 0, 0), (14, .iload_n 1, 1, 0, 0, 0), (15, .invokevirtual 182, 3, 207, 129, 1415), (18, .iload_n 2, 1, 0, 0, 0), (19, .if_icmp .eq 5, 3, 14, 0, 0), (22, .iconst 0, 1, 0, 0, 0), (23, .ireturn, 1, 0, 0, 0), (24, .aload_n 0, 1, 0, 0, 0), (25, .iload_n 1, 1, 0, 0, 0), (26, .invokevirtual 163, 3, 188, 129, 1392), (29, .aload_n 0, 1, 0, 0, 0), (30, .iload_n 1, 1, 0, 0, 0), (31, .aload_n 0, 1, 0, 0, 0), (32, .getfield 74, 3, 8, 24, 1197), (35, .aload_n 0, 1, 0, 0, 0), (36, .iload_n 1, 1, 0, 0, 0), (37, .invokevirtual 151, 3, 184, 129, 1361), (40, .iconst 2, 1, 0, 0, 0), (41, .irem, 1, 0, 0, 0), (42, .iaload, 1, 0, 0, 0), (43, .iload_n 2, 1, 0, 0, 0), (44, .iadd, 1, 0, 0, 0), (45, .invokevirtual 144, 3, 197, 130, 1349), (48, .iconst 1, 1, 0, 0, 0), (49, .ireturn, 1, 0, 0, 0)]
def cd_195 : List aE := [(0, .aload_n 0, 1, 0, 0, 0), (1, .iload_n 1, 1, 0, 0, 0), (2, .invokevirtual 138, 3, 175, 129, 1325), (5, .ifCond .eq 12, 3, 9, 0, 0), (8, .aload_n 0, 1, 0, 0, 0), (9, .getfield 26, 3, 8, 7, 1180), (12, .iload_n 1, 1, 0, 0, 0), (13, .iaload, 1, 0, 0, 0), (14, .ifCond .ne 5, 3, 11, 0, 0), (17, .iconst 0, 1, 0, 0, 0), (18, .ireturn, 1, 0, 0, 0), (19, .aload_n 0, 1, 0, 0, 0), (20, .getfield 29, 3, 8, 8, 1181), (23, .iload_n 1, 1, 0, 0, 0), (24, .iaload, 1, 0, 0, 0), (25, .ifCond .le 15, 3, 26, 0, 0), (28, .aload_n 0, 1, 0, 0, 0), (29, .getfield 29, 3, 8, 8, 1181), (32, .iload_n 1, 1, 0, 0, 0), (33, .dup2, 1, 0, 0, 0), (34, .iaload, 1, 0, 0, 0), (35, .iconst 1, 1, 0, 0, 0), (36, .isub, 1, 0, 0, 0), (37, .iastore, 1, 0, 0, 0), (38, .iconst 1, 1, 0, 0, 0), (39, .ireturn, 1, 0, 0, 0), (40, .aload_n 0, 1, 0, 0, 0), (41, .getfield 26, 3, 8, 7, 1180), (44, .iload_n 1, 1, 0, 0, 0), (45, .dup2, 1, 0, 0, 0), (46, .iaload, 1, 0, 0, 0), (47, .iconst 1, 1, 0, 0, 0), (48, .isub, 1, 0, 0, 0), (49, .iastore, 1, 0, 0, 0), (50, .aload_n 0, 1, 0, 0, 0), (51, .getfield 17, 3, 8, 4, 1177), (54, .iload_n 1, 1, 0, 0, 0), (55, .iconst 1, 1, 0, 0, 0), (56, .iastore, 1, 0, 0, 0), (57, .iconst 1, 1, 0, 0, 0), (58, .ireturn, 1, 0, 0, 0)]
def cd_196 : List aE := [(0, .aload_n 0, 1, 0, 0, 0), (1, .iload_n 1, 1, 0, 0, 0), (2, .invokevirtual 138, 3, 175, 129, 1325), (5, .ifCond .ne 5, 3, 6, 0, 0), (8, .iconst 0, 1, 0, 0, 0), (9, .ireturn, 1, 0, 0, 0), (10, .aload_n 0, 1, 0, 0, 0), (11, .getfield 17, 3, 8, 4, 1177), (14, .iload_n 1, 1, 0, 0, 0), (15, .iconst 0, 1, 0, 0, 0), (16, .iastore, 1, 0, 0, 0), (17, .iconst 1, 1, 0, 0, 0), (18, .ireturn, 1, 0, 0, 0)]
def cd_197 : List aE := [(0, .aload_n 0, 1, 0, 0, 0), (1, .getfield 103, 3, 8, 1, 1174), (4, .istore_n 3, 1, 0, 0, 0), (5, .aload_n 0, 1, 0, 0, 0), (6, .getfield 20, 3, 8, 5, 1178), (9, .iload_n 1, 1, 0, 0, 0), (10, .iaload, 1, 0, 0, 0), (11, .istore 4, 2, 0, 0, 0), (13, .aload_n 0, 1, 0, 0, 0), (14, .getfield 38, 3, 8, 11, 1184), (17, .iload_n 3, 1, 0, 0, 0), (18, .iload 4, 2, 0, 0, 0), (20, .iastore, 1, 0, 0, 0), (21, .aload_n 0, 1, 0, 0, 0), (22, .getfield 41, 3, 8, 12, 1185), (25, .iconst 2, 1, 0, 0, 0), (26, .iload_n 3, 1, 0, 0, 0), (27, .imul, 1, 0, 0, 0), (28, .aload_n 0, 1, 0, 0, 0), (29, .getfield 23, 3, 8, 6, 1179), (32, .iconst 2, 1, 0, 0, 0), (33, .iload_n 1, 1, 0, 0, 0), (34, .imul, 1, 0, 0, 0), (35, .iaload, 1, 0, 0, 0), (36, .iastore, 1, 0, 0, 0), (37, .aload_n 0, 1, 0, 0, 0), (38, .getfield 41, 3, 8, 12, 1185), (41, .iconst 2, 1, 0, 0, 0), (42, .iload_n 3, 1, 0, 0, 0), (43, .imul, 1, 0, 0, 0), (44, .iconst 1, 1, 0, 0, 0), (45, .iadd, 1, 0, 0, 0), (46, .aload_n 0, 1, 0, 0, 0), (47, .getfield 23, 3, 8, 6, 1179), (50, .iconst 2, 1, 0, 0, 0), (51, .iload_n 1, 1, 0, 0, 0), (52, .imul, 1, 0, 0, 0), (53, .iconst 1, 1, 0, 0, 0), (54, .iadd, 1, 0, 0, 0), (55, .iaload, 1, 0, 0, 0), (56, .iastore, 1, 0, 0, 0), (57, .aload_n 0, 1, 0, 0, 0), (58, .getfield 44, 3, 8, 13, 1186), (61, .iload_n 3, 1, 0, 0, 0), (62, .iconst 0, 1, 0, 0, 0), (63, .iastore, 1, 0, 0, 0), (64, .aload_n 0, 1, 0, 0, 0), (65, .getfield 47, 3, 8, 14, 1187), (68, .iload_n 3, 1, 0, 0, 0), (69, .iconst (-1), 1, 0, 0, 0), (70, .iastore, 1, 0, 0, 0), (71, .aload_n 0, 1, 0, 0, 0), (72, .getfield 50, 3, 8, 15, 1188), (75, .iload_n 3, 1, 0, 0, 0), (76, .iconst (-1), 1, 0, 0, 0), (77, .iastore, 1, 0, 0, 0), (78, .aload_n 0, 1, 0, 0, 0), (79, .getfield 53, 3, 8, 16, 1189), (82, .iload_n 3, 1, 0, 0, 0), (83, .iconst (-1), 1, 0, 0, 0), (84, .iastore, 1, 0, 0, 0), (85, .aload_n 0, 1, 0, 0, 0), (86, .getfield 56, 3, 8, 17, 1190), (89, .iload_n 3, 1, 0, 0, 0), (90, .iload_n 2, 1, 0, 0, 0), (91, .iastore, 1, 0, 0, 0), (92, .aload_n 0, 1, 0, 0, 0), (93, .getfield 59, 3, 8, 18, 1191), (96, .iload_n 3, 1, 0, 0, 0), (97, .iconst 0, 1, 0, 0, 0), (98, .iastore, 1, 0, 0, 0), (99, .aload_n 0, 1, 0, 0, 0), (100, .getfield 65, 3, 8, 20, 1193), (103, .iload_n 3, 1, 0, 0, 0), (104, .iconst 0, 1, 0, 0, 0), (105, .bastore, 1, 0, 0, 0), (106, .iload_n 2, 1, 0, 0, 0), (107, .iconst (-1), 1, 0, 0, 0), (108, .if_icmp .eq 108, 3, 143, 0, 0), (111, .aload_n 0, 1, 0, 0, 0), (112, .getfield 44, 3, 8, 13, 1186), (115, .iload_n 3, 1, 0, 0, 0), (116, .aload_n 0, 1, 0, 0, 0), (117, .iload_n 1, 1, 0, 0, 0), (118, .invokevirtual 185, 3, 182, 129, 1353), (121, .iastore, 1, 0, 0, 0), (122, .aload_n 0, 1, 0, 0, 0), (123, .getfield 47, 3, 8, 14, 1187), (126, .iload_n 3, 1, 0, 0, 0), (127, .aload_n 0, 1, 0, 0, 0), (128, .iload_n 1, 1, 0, 0, 0), (129, .invokevirtual 135, 3, 183, 129, 1357), (132, .iastore, 1, 0, 0, 0), (133, .aload_n 0, 1, 0, 0, 0), (134, .getfield 50, 3, 8, 15, 1188), (137, .iload_n 3, 1, 0, 0, 0), (138, .aload_n 0, 1, 0, 0, 0), (139, .iload_n 1, 1, 0, 0, 0), (140, .invokevirtual 151, 3, 184, 129, 1361), (143, .iastore, 1, 0, 0, 0), (144, .aload_n 0, 1, 0, 0, 0), (145, .getfield 53, 3, 8, 16, 1189), (148, .iload_n 3, 1, 0, 0, 0), (149, .aload_n 0, 1, 0, 0, 0), (150, .iload_n 1, 1, 0, 0, 0), (151, .invokevirtual 188, 3, 180, 129, 1365), (154, .iastore, 1, 0, 0, 0), (155, .aload_n 0, 1, 0, 0, 0), (156, .getfield 50, 3, 8, 15, 1188), (159, .iload_n 3, 1, 0, 0, 0), (160, .iaload, 1, 0, 0, 0), (161, .iconst 2, 1, 0, 0, 0), (162, .irem, 1, 0, 0, 0), (163, .istore 5, 2, 0, 0, 0), (165, .aload_n 0, 1, 0, 0, 0), (166, .aload_n 0, 1, 0, 0, 0), (167, .getfield 44, 3, 8, 13, 1186), (170, .iload_n 3, 1, 0, 0, 0), (171, .iaload, 1, 0, 0, 0), (172, .aload_n 0, 1, 0, 0, 0), (173, .getfield 47, 3, 8, 14, 1187), (176, .iload_n 3, 1, 0, 0, 0), (177, .iaload, 1, 0, 0, 0), (178, .aload_n 0, 1, 0, 0, 0), (179, .getfield 53, 3, 8, 16, 1189), (182, .iload_n 3, 1, 0, 0, 0), (183, .iaload, 1, 0, 0, 0), (184, .iload 4, 2, 0, 0, 0), (186, .iload 5, 2, 0, 0, 0), (188, .invokestatic 191, 3, 168, 2, 1369), (191, .iload_n 2, 1, 0, 0, 0), (192, .invokevirtual 194, 3, 209, 133, 1372), (195, .istore 6, 2, 0, 0, 0), (197, .aload_n 0, 1, 0, 0, 0), (198, .getfield 59, 3, 8, 18, 1191), (201, .iload_n 3, 1, 0, 0, 0), (202, .iload 5, 2, 0, 0, 0), (204, .ifCond .ne 8, 3, 140, 0, 0), (207, .iload 6, 2, 0, 0, 0), (209, .goto 6, 3, 142, 0, 0), (212, .iload 6, 2, 0, 0, 0), (214, .ineg, 1, 0, 0, 0), (215, .iastore, 1, 0, 0, 0), (216, .aload_n 0, 1, 0, 0, 0), (217, .dup, 1, 0, 0, 0), (218, .getfield 103, 3, 8, 1, 1174), (221, .iconst 1, 1, 0, 0, 0), (222, .iadd, 1, 0, 0, 0), (223, .putfield 103, 3, 8, 1, 1174), (226, .aload_n 0, 1, 0, 0, 0), (227, .getfield 17, 3, 8, 4, 1177), (230, .iload_n 1, 1, 0, 0, 0), (231, .iconst 0, 1, 0, 0, 0), (232, .iastore, 1, 0, 0, 0), (233, .return_, 1, 0, 0, 0)]
def cd_198 : List aE := [(0, .iload_n 1, 1, 0, 0, 0), (1, .iconst 0, 1, 0, 0, 0), (2, .bipush 9, 2, 0, 0, 0), (4, .invokestatic 88, 3, 159, 3, 1281), (7, .ifCond .ne 5, 3, 7, 0, 0), (10, .iconst (-1), 1, 0, 0, 0), (11, .ireturn, 1, 0, 0, 0), (12, .iload_n 2, 1, 0, 0, 0), (13, .iconst 3, 1, 0, 0, 0), (14, .if_icmp .ne 10, 3, 15, 0, 0), (17, .aload_n 0, 1, 0, 0, 0), (18, .getfield 17, 3, 8, 4, 1177), (21, .iload_n 1, 1, 0, 0, 0), (22, .iaload, 1, 0, 0, 0), (23, .ireturn, 1, 0, 0, 0), (24, .aload_n 0, 1, 0, 0, 0), (25, .getfield 17, 3, 8, 4, 1177), (28, .iload_n 1, 1, 0, 0, 0), (29, .iaload, 1, 0, 0, 0), (30, .ifCond .ne 5, 3, 22, 0, 0), (33, .iconst (-1), 1, 0, 0, 0), (34, .ireturn, 1, 0, 0, 0), (35, .aload_n 0, 1, 0, 0, 0), (36, .getfield 17, 3, 8, 4, 1177), (39, .iload_n 1, 1, 0, 0, 0), (40, .iaload, 1, 0, 0, 0), (41, .iconst 2, 1, 0, 0, 0), (42, .if_icmp .ne 7, 3, 30, 0, 0), (45, .iconst 1, 1, 0, 0, 0), (46, .goto 4, 3, 31, 0, 0), (49, .iconst 0, 1, 0, 0, 0), (50, .istore_n 3, 1, 0, 0, 0), (51, .aload_n 0, 1, 0, 0, 0), (52, .iload_n 1, 1, 0, 0, 0), (53, .invokevirtual 132, 3, 179, 129, 1345), (56, .iconst (-1), 1, 0, 0, 0), (57, .if_icmp .eq 7, 3, 39, 0, 0), (60, .iconst 1, 1, 0, 0, 0), (61, .goto 4, 3, 40, 0, 0), (64, .iconst 0, 1, 0, 0, 0), (65, .istore 4, 2, 0, 0, 0), (67, .aload_n 0, 1, 0, 0, 0), (68, .iload_n 1, 1, 0, 0, 0), (69, .invokevirtual 173, 3, 189, 129, 1388), (72, .istore 5, 2, 0, 0, 0), (74, .iload_n 2, 1, 0, 0, 0), (75, .tableswitch 228 0 13 #[69, 76, 85, 228, 96, 99, 114, 129, 143, 158, 173, 188, 208, 215], 69, 0, 0, 0), (144, .aload_n 0, 1, 0, 0, 0), (145, .getfield 20, 3, 8, 5, 1178), (148, .iload_n 1, 1, 0, 0, 0), (149, .iaload, 1, 0, 0, 0), (150, .ireturn, 1, 0, 0, 0), (151, .aload_n 0, 1, 0, 0, 0), (152, .getfield 23, 3, 8, 6, 1179), (155, .iconst 2, 1, 0, 0, 0), (156, .iload_n 1, 1, 0, 0, 0), (157, .imul, 1, 0, 0, 0), (158, .iaload, 1, 0, 0, 0), (159, .ireturn, 1, 0, 0, 0), (160, .aload_n 0, 1, 0, 0, 0), (161, .getfield 23, 3, 8, 6, 1179), (164, .iconst 2, 1, 0, 0, 0), (165, .iload_n 1, 1, 0, 0, 0), (166, .imul, 1, 0, 0, 0), (167, .iconst 1, 1, 0, 0, 0), (168, .iadd, 1, 0, 0, 0), (169, .iaload, 1, 0, 0, 0), (170, .ireturn, 1, 0, 0, 0), (171, .iload 5, 2, 0, 0, 0), (173, .ireturn, 1, 0, 0, 0), (174, .iload 4, 2, 0, 0, 0), (176, .ifCond .eq 11, 3, 76, 0, 0), (179, .aload_n 0, 1, 0, 0, 0), (180, .iload_n 1, 1, 0, 0, 0), (181, .invokevirtual 185, 3, 182, 129, 1353), (184, .goto 4, 3, 77, 0, 0), (187, .iconst (-1), 1, 0, 0, 0), (188, .ireturn, 1, 0, 0, 0), (189, .iload 4, 2, 0, 0, 0), (191, .ifCond .eq 11, 3, 84, 0, 0), (194, .aload_n 0, 1, 0, 0, 0), (195, .iload_n 1, 1, 0, 0, 0), (196, .invokevirtual 135, 3, 183, 129, 1357), (199, .goto 4, 3, 85, 0, 0), (202, .iconst (-1), 1, 0, 0, 0), (203, .ireturn, 1, 0, 0, 0), (204, .iload_n 3, 1, 0, 0, 0), (205, .ifCond .eq 11, 3, 92, 0, 0), (208, .aload_n 0, 1, 0, 0, 0), (209, .iload_n 1, 1, 0, 0, 0), (210, .invokevirtual 151, 3, 184, 129, 1361), (213, .goto 4, 3, 93, 0, 0), (216, .iconst (-1), 1, 0, 0, 0), (217, .ireturn, 1, 0, 0, 0), (218, .iload 4, 2, 0, 0, 0), (220, .ifCond .eq 11, 3, 100, 0, 0), (223, .aload_n 0, 1, 0, 0, 0), (224, .iload_n 1, 1, 0, 0, 0), (225, .invokevirtual 188, 3, 180, 129, 1365), (228, .goto 4, 3, 101, 0, 0), (231, .iconst (-1), 1, 0, 0, 0), (232, .ireturn, 1, 0, 0, 0), (233, .iload_n 3, 1, 0, 0, 0), (234, .ifCond .eq 12, 3, 109, 0, 0), (237, .aload_n 0, 1, 0, 0, 0), (238, .getfield 74, 3, 8, 24, 1197), (241, .iconst 0, 1, 0, 0, 0), (242, .iaload, 1, 0, 0, 0), (243, .goto 4, 3, 110, 0, 0), (246, .iconst 0, 1, 0, 0, 0), (247, .ireturn, 1, 0, 0, 0), (248, .iload_n 3, 1, 0, 0, 0), (249, .ifCond .eq 12, 3, 118, 0, 0), (252, .aload_n 0, 1, 0, 0, 0), (253, .getfield 74, 3, 8, 24, 1197), (256, .iconst 1, 1, 0, 0, 0), (257, .iaload, 1, 0, 0, 0), (258, .goto 4, 3, 119, 0, 0), (261, .iconst 0, 1, 0, 0, 0), (262, .ireturn, 1, 0, 0, 0), (263, .iload_n 3, 1, 0, 0, 0), (264, .ifCond .eq 17, 3, 130, 0, 0), (267, .aload_n 0, 1, 0, 0, 0), (268, .getfield 29, 3, 8, 8, 1181), (271, .iload_n 1, 1, 0, 0, 0), (272, .iaload, 1, 0, 0, 0), (273, .aload_n 0, 1, 0, 0, 0), (274, .getfield 157, 3, 8, 26, 1199), (277, .isub, 1, 0, 0, 0), (278, .goto 4, 3, 131, 0, 0), (281, .iconst 0, 1, 0, 0, 0), (282, .ireturn, 1, 0, 0, 0), (283, .aload_n 0, 1, 0, 0, 0), (284, .getfield 26, 3, 8, 7, 1180), (287, .iload_n 1, 1, 0, 0, 0), (288, .iaload, 1, 0, 0, 0), (289, .ireturn, 1, 0, 0, 0), (290, .iload_n 3, 1, 0, 0, 0), (291, .ifCond .eq 10, 3, 142, 0, 0), (294, .aload_n 0, 1, 0, 0, 0), (295, .getfield 154, 3, 8, 25, 1198), (298, .goto 4, 3, 143, 0, 0), (301, .iconst (-1), 1, 0, 0, 0), (302, .ireturn, 1, 0, 0, 0), (303, .iconst (-1), 1, 0, 0, 0), (304, .ireturn, 1, 0, 0, 0)]
def cd_199 : List aE := [(0, .aload_n 0, 1, 0, 0, 0), (1, .iload_n 1, 1, 0, 0, 0), (2, .invokevirtual 138, 3, 175, 129, 1325), (5, .ifCond .eq 28, 3, 19, 0, 0), (8, .iload_n 2, 1, 0, 0, 0), (9, .iconst 0, 1, 0, 0, 0), (10, .aload_n 0, 1, 0, 0, 0), (11, .getfield 26, 3, 8, 7, 1180), (14, .iload_n 1, 1, 0, 0, 0), (15, .iaload, 1, 0, 0, 0), (16, .iconst 1, 1, 0, 0, 0), (17, .isub, 1, 0, 0, 0), (18, .invokestatic 88, 3, 159, 3, 1281), (21, .ifCond .eq 12, 3, 19, 0, 0), (24, .aload_n 0, 1, 0, 0, 0), (25, .iload_n 1, 1, 0, 0, 0), (26, .iload_n 2, 1, 0, 0, 0), (27, .invokevirtual 122, 3, 176, 130, 1337), (30, .goto 4, 3, 20, 0, 0), (33, .iconst (-1), 1, 0, 0, 0), (34, .ireturn, 1, 0, 0, 0)]
def cd_200 : List aE := [(0, .aload_n 0, 1, 0, 0, 0), (1, .iload_n 1, 1, 0, 0, 0), (2, .invokevirtual 138, 3, 175, 129, 1325), (5, .ifCond .eq 33, 3, 23, 0, 0), (8, .iload_n 2, 1, 0, 0, 0), (9, .iconst 0, 1, 0, 0, 0), (10, .aload_n 0, 1, 0, 0, 0), (11, .getfield 29, 3, 8, 8, 1181), (14, .iload_n 1, 1, 0, 0, 0), (15, .iaload, 1, 0, 0, 0), (16, .iconst 1, 1, 0, 0, 0), (17, .isub, 1, 0, 0, 0), (18, .invokestatic 88, 3, 159, 3, 1281), (21, .ifCond .eq 17, 3, 23, 0, 0), (24, .aload_n 0, 1, 0, 0, 0), (25, .getfield 35, 3, 8, 10, 1183), (28, .bipush 52, 2, 0, 0, 0), (30, .iload_n 1, 1, 0, 0, 0), (31, .imul, 1, 0, 0, 0), (32, .iload_n 2, 1, 0, 0, 0), (33, .iadd, 1, 0, 0, 0), (34, .iaload, 1, 0, 0, 0), (35, .goto 4, 3, 24, 0, 0), (38, .iconst (-1), 1, 0, 0, 0), (39, .ireturn, 1, 0, 0, 0)]
def cd_201 : List aE := [(0, .aload_n 0, 1, 0, 0, 0), (1, .iload_n 1, 1, 0, 0, 0), (2, .invokevirtual 138, 3, 175, 129, 1325), (5, .iconst 1, 1, 0, 0, 0), (6, .if_icmp .ne 12, 3, 10, 0, 0), (9, .aload_n 0, 1, 0, 0, 0), (10, .iload_n 1, 1, 0, 0, 0), (11, .iload_n 2, 1, 0, 0, 0), (12, .invokevirtual 141, 3, 181, 130, 1329), (15, .goto 26, 3, 23, 0, 0), (18, .aload_n 0, 1, 0, 0, 0), (19, .iload_n 1, 1, 0, 0, 0), (20, .invokevirtual 138, 3, 175, 129, 1325), (23, .iconst 2, 1, 0, 0, 0), (24, .if_icmp .ne 16, 3, 22, 0, 0), (27, .aload_n 0, 1, 0, 0, 0), (28, .iload_n 1, 1, 0, 0, 0), (29, .iload_n 2, 1, 0, 0, 0), (30, .invokevirtual 179, 3, 192, 130, 1384), (33, .ifCond .eq 7, 3, 22, 0, 0), (36, .iconst 1, 1, 0, 0, 0), (37, .goto 4, 3, 23, 0, 0), (40, .iconst 0, 1, 0, 0, 0), (41, .ireturn, 1, 0, 0, 0)]
def cd_202 : List aE := [(0, .aload_n 0, 1, 0, 0, 0), (1, .iload_n 1, 1, 0, 0, 0), (2, .invokevirtual 138, 3, 175, 129, 1325), (5, .ifCond .eq 19, 3, 12, 0, 0), (8, .iload_n 2, 1, 0, 0, 0), (9, .iconst 0, 1, 0, 0, 0), (10, .iconst 3, 1, 0, 0, 0), (11, .invokestatic 88, 3, 159, 3, 1281), (14, .ifCond .eq 10, 3, 12, 0, 0), (17, .iload_n 3, 1, 0, 0, 0), (18, .invokestatic 96, 3, 163, 1, 1284), (21, .ifCond .ne 5, 3, 14, 0, 0), (24, .iconst 0, 1, 0, 0, 0), (25, .ireturn, 1, 0, 0, 0), (26, .aload_n 0, 1, 0, 0, 0), (27, .aload_n 0, 1, 0, 0, 0), (28, .getfield 20, 3, 8, 5, 1178), (31, .iload_n 1, 1, 0, 0, 0), (32, .iaload, 1, 0, 0, 0), (33, .iload_n 3, 1, 0, 0, 0), (34, .invokevirtual 167, 3, 165, 130, 1406), (37, .istore 4, 2, 0, 0, 0), (39, .iload 4, 2, 0, 0, 0), (41, .iload_n 2, 1, 0, 0, 0), (42, .if_icmp .eq 12, 3, 30, 0, 0), (45, .aload_n 0, 1, 0, 0, 0), (46, .iload_n 1, 1, 0, 0, 0), (47, .iload_n 3, 1, 0, 0, 0), (48, .invokevirtual 170, 3, 190, 130, 1407), (51, .ifCond .eq 5, 3, 32, 0, 0), (54, .iconst 1, 1, 0, 0, 0), (55, .ireturn, 1, 0, 0, 0), (56, .aload_n 0, 1, 0, 0, 0), (57, .getfield 29, 3, 8, 8, 1181), (60, .iload_n 1, 1, 0, 0, 0), (61, .iaload, 1, 0, 0, 0), (62, .ifCond .le 21, 3, 48, 0, 0), (65, .iload 4, 2, 0, 0, 0), (67, .aload_n 0, 1, 0, 0, 0), (68, .iload_n 1, 1, 0, 0, 0), (69, .invokevirtual 151, 3, 184, 129, 1361), (72, .iconst 2, 1, 0, 0, 0), (73, .iadd, 1, 0, 0, 0), (74, .iconst 4, 1, 0, 0, 0), (75, .irem, 1, 0, 0, 0), (76, .if_icmp .ne 7, 3, 48, 0, 0), (79, .iconst 1, 1, 0, 0, 0), (80, .goto 4, 3, 49, 0, 0), (83, .iconst 0, 1, 0, 0, 0), (84, .ireturn, 1, 0, 0, 0)]
def cd_203 : List aE := [(0, .aload_n 0, 1, 0, 0, 0), (1, .iload_n 1, 1, 0, 0, 0), (2, .invokevirtual 138, 3, 175, 129, 1325), (5, .iconst 2, 1, 0, 0, 0), (6, .if_icmp .ne 21, 3, 15, 0, 0), (9, .iload_n 2, 1, 0, 0, 0), (10, .iconst 0, 1, 0, 0, 0), (11, .iconst 3, 1, 0, 0, 0), (12, .invokestatic 88, 3, 159, 3, 1281), (15, .ifCond .eq 12, 3, 15, 0, 0), (18, .iload_n 3, 1, 0, 0, 0), (19, .iconst 0, 1, 0, 0, 0), (20, .iconst 3, 1, 0, 0, 0), (21, .invokestatic 88, 3, 159, 3, 1281), (24, .ifCond .ne 5, 3, 17, 0, 0), (27, .iconst 0, 1, 0, 0, 0), (28, .ireturn, 1, 0, 0, 0), (29, .iconst 0, 1, 0, 0, 0), (30, .istore 4, 2, 0, 0, 0), (32, .iload 4, 2, 0, 0, 0), (34, .aload_n 0, 1, 0, 0, 0), (35, .getfield 29, 3, 8, 8, 1181), (38, .iload_n 1, 1, 0, 0, 0), (39, .iaload, 1, 0, 0, 0), (40, .if_icmp .ge 74, 3, 66, 0, 0), (43, .aload_n 0, 1, 0, 0, 0), (44, .getfield 35, 3, 8, 10, 1183), (47, .bipush 52, 2, 0, 0, 0), (49, .iload_n 1, 1, 0, 0, 0), (50, .imul, 1, 0, 0, 0), (51, .iload 4, 2, 0, 0, 0), (53, .iadd, 1, 0, 0, 0), (54, .iaload, 1, 0, 0, 0), (55, .istore 5, 2, 0, 0, 0), (57, .aload_n 0, 1, 0, 0, 0), (58, .aload_n 0, 1, 0, 0, 0), (59, .getfield 20, 3, 8, 5, 1178), (62, .iload_n 1, 1, 0, 0, 0), (63, .iaload, 1, 0, 0, 0), (64, .iload 5, 2, 0, 0, 0), (66, .invokevirtual 167, 3, 165, 130, 1406), (69, .iload_n 2, 1, 0, 0, 0), (70, .if_icmp .ne 38, 3, 64, 0, 0), (73, .aload_n 0, 1, 0, 0, 0), (74, .getfield 35, 3, 8, 10, 1183), (77, .bipush 52, 2, 0, 0, 0), (79, .iload_n 1, 1, 0, 0, 0), (80, .imul, 1, 0, 0, 0), (81, .iload 4, 2, 0, 0, 0), (83, .iadd, 1, 0, 0, 0), (84, .iload 4, 2, 0, 0, 0), (86, .iconst 4, 1, 0, 0, 0), (87, .irem, 1, 0, 0, 0), (88, .isub, 1, 0, 0, 0), (89, .iaload, 1, 0, 0, 0), (90, .invokestatic 148, 3, 186, 1, 1399), (93, .iload_n 3, 1, 0, 0, 0), (94, .if_icmp .ne 14, 3, 64, 0, 0), (97, .iload 5, 2, 0, 0, 0), (99, .invokestatic 148, 3, 186, 1, 1399), (102, .iload_n 3, 1, 0, 0, 0), (103, .if_icmp .eq 5, 3, 64, 0, 0), (106, .iconst 1, 1, 0, 0, 0), (107, .ireturn, 1, 0, 0, 0), (108, .iinc 4 1, 3, 0, 0, 0), (111, .goto (-79), 3, 19, 0, 0), (114, .iconst 0, 1, 0, 0, 0), (115, .ireturn, 1, 0, 0, 0)]
def cd_204 : List aE := [(0, .iconst 0, 1, 0, 0, 0), (1, .istore_n 3, 1, 0, 0, 0), (2, .iconst 1, 1, 0, 0, 0), (3, .istore 4, 2, 0, 0, 0), (5, .iload 4, 2, 0, 0, 0), (7, .iload_n 2, 1, 0, 0, 0), (8, .if_icmp .ge 35, 3, 23, 0, 0), (11, .aload_n 0, 1, 0, 0, 0), (12, .getfield 80, 3, 8, 28, 1201), (15, .iload 4, 2, 0, 0, 0), (17, .iaload, 1, 0, 0, 0), (18, .aload_n 0, 1, 0, 0, 0), (19, .getfield 80, 3, 8, 28, 1201), (22, .iload_n 3, 1, 0, 0, 0), (23, .iaload, 1, 0, 0, 0), (24, .aload_n 0, 1, 0, 0, 0), (25, .getfield 198, 3, 8, 29, 1202), (28, .invokestatic 160, 3, 187, 3, 1396), (31, .ifCond .eq 6, 3, 21, 0, 0), (34, .iload 4, 2, 0, 0, 0), (36, .istore_n 3, 1, 0, 0, 0), (37, .iinc 4 1, 3, 0, 0, 0), (40, .goto (-35), 3, 4, 0, 0), (43, .iload_n 1, 1, 0, 0, 0), (44, .iload_n 3, 1, 0, 0, 0), (45, .iadd, 1, 0, 0, 0), (46, .iconst 4, 1, 0, 0, 0), (47, .irem, 1, 0, 0, 0), (48, .ireturn, 1, 0, 0, 0)]
def cd_205 : List aE := [(0, .iload_n 2, 1, 0, 0, 0), (1, .iconst 4, 1, 0, 0, 0), (2, .if_icmp .ne 119, 3, 75, 0, 0), (5, .aload_n 0, 1, 0, 0, 0), (6, .iload_n 1, 1, 0, 0, 0), (7, .iconst 4, 1, 0, 0, 0), (8, .invokevirtual 201, 3, 204, 130, 1427), (11, .istore 4, 2, 0, 0, 0), (13, .iload 4, 2, 0, 0, 0), (15, .iconst 2, 1, 0, 0, 0), (16, .irem, 1, 0, 0, 0), (17, .aload_n 0, 1, 0, 0, 0), (18, .getfield 204, 3, 8, 30, 1203), (21, .if_icmp .ne 7, 3, 16, 0, 0), (24, .iconst 1, 1, 0, 0, 0), (25, .goto 4, 3, 17, 0, 0), (28, .iconst 0, 1, 0, 0, 0), (29, .istore 5, 2, 0, 0, 0), (31, .iload_n 3, 1, 0, 0, 0), (32, .iconst 1, 1, 0, 0, 0), (33, .if_icmp .ne 6, 3, 23, 0, 0), (36, .iload 5, 2, 0, 0, 0), (38, .ireturn, 1, 0, 0, 0), (39, .aload_n 0, 1, 0, 0, 0), (40, .getfield 80, 3, 8, 28, 1201), (43, .iconst 0, 1, 0, 0, 0), (44, .iaload, 1, 0, 0, 0), (45, .istore 6, 2, 0, 0, 0), (47, .aload_n 0, 1, 0, 0, 0), (48, .getfield 80, 3, 8, 28, 1201), (51, .iconst 1, 1, 0, 0, 0), (52, .iaload, 1, 0, 0, 0), (53, .istore 7, 2, 0, 0, 0), (55, .aload_n 0, 1, 0, 0, 0), (56, .getfield 80, 3, 8, 28, 1201), (59, .iconst 2, 1, 0, 0, 0), (60, .iaload, 1, 0, 0, 0), (61, .istore 8, 2, 0, 0, 0), (63, .aload_n 0, 1, 0, 0, 0), (64, .getfield 80, 3, 8, 28, 1201), (67, .iconst 3, 1, 0, 0, 0), (68, .iaload, 1, 0, 0, 0), (69, .istore 9, 2, 0, 0, 0), (71, .aload_n 0, 1, 0, 0, 0), (72, .iload 4, 2, 0, 0, 0), (74, .iconst 0, 1, 0, 0, 0), (75, .iload_n 3, 1, 0, 0, 0), (76, .iconst 1, 1, 0, 0, 0), (77, .isub, 1, 0, 0, 0), (78, .invokevirtual 207, 3, 205, 131, 1423), (81, .istore 10, 2, 0, 0, 0), (83, .aload_n 0, 1, 0, 0, 0), (84, .getfield 80, 3, 8, 28, 1201), (87, .iconst 0, 1, 0, 0, 0), (88, .iload 6, 2, 0, 0, 0), (90, .iastore, 1, 0, 0, 0), (91, .aload_n 0, 1, 0, 0, 0), (92, .getfield 80, 3, 8, 28, 1201), (95, .iconst 1, 1, 0, 0, 0), (96, .iload 7, 2, 0, 0, 0), (98, .iastore, 1, 0, 0, 0), (99, .aload_n 0, 1, 0, 0, 0), (100, .getfield 80, 3, 8, 28, 1201), (103, .iconst 2, 1, 0, 0, 0), (104, .iload 8, 2, 0, 0, 0), (106, .iastore, 1, 0, 0, 0), (107, .aload_n 0, 1, 0, 0, 0), (108, .getfield 80, 3, 8, 28, 1201), (111, .iconst 3, 1, 0, 0, 0), (112, .iload 9, 2, 0, 0, 0), (114, .iastore, 1, 0, 0, 0), (115, .iload 5, 2, 0, 0, 0), (117, .iload 10, 2, 0, 0, 0), (119, .iadd, 1, 0, 0, 0), (120, .ireturn, 1, 0, 0, 0), (121, .iload_n 1, 1, 0, 0, 0), (122, .iload_n 2, 1, 0, 0, 0), (123, .iadd, 1, 0, 0, 0), (124, .iconst 4, 1, 0, 0, 0), (125, .irem, 1, 0, 0, 0), (126, .istore 4, 2, 0, 0, 0), (128, .iload 4, 2, 0, 0, 0), (130, .iconst 2, 1, 0, 0, 0), (131, .irem, 1, 0, 0, 0), (132, .aload_n 0, 1, 0, 0, 0), (133, .getfield 204, 3, 8, 30, 1203), (136, .if_icmp .ne 7, 3, 89, 0, 0), (139, .iconst 1, 1, 0, 0, 0), (140, .goto 4, 3, 90, 0, 0), (143, .iconst 0, 1, 0, 0, 0), (144, .istore 5, 2, 0, 0, 0), (146, .iconst (-1), 1, 0, 0, 0), (147, .istore 6, 2, 0, 0, 0), (149, .iconst 0, 1, 0, 0, 0), (150, .istore 7, 2, 0, 0, 0), (152, .iconst 4, 1, 0, 0, 0), (153, .iload 4, 2, 0, 0, 0), (155, .imul, 1, 0, 0, 0), (156, .istore 8, 2, 0, 0, 0), (158, .iload 8, 2, 0, 0, 0), (160, .iconst 4, 1, 0, 0, 0), (161, .iload 4, 2, 0, 0, 0), (163, .imul, 1, 0, 0, 0), (164, .iconst 4, 1, 0, 0, 0), (165, .iadd, 1, 0, 0, 0), (166, .if_icmp .ge 58, 3, 133, 0, 0), (169, .iload_n 2, 1, 0, 0, 0), (170, .ifCond .le 54, 3, 133, 0, 0), (173, .iload 7, 2, 0, 0, 0), (175, .ifCond .ne 36, 3, 127, 0, 0), (178, .aload_n 0, 1, 0, 0, 0), (179, .getfield 77, 3, 8, 27, 1200), (182, .iload 8, 2, 0, 0, 0), (184, .iaload, 1, 0, 0, 0), (185, .iconst (-1), 1, 0, 0, 0), (186, .if_icmp .eq 29, 3, 129, 0, 0), (189, .aload_n 0, 1, 0, 0, 0), (190, .getfield 77, 3, 8, 27, 1200), (193, .iload 8, 2, 0, 0, 0), (195, .iaload, 1, 0, 0, 0), (196, .invokestatic 148, 3, 186, 1, 1399), (199, .aload_n 0, 1, 0, 0, 0), (200, .getfield 80, 3, 8, 28, 1201), (203, .iconst 0, 1, 0, 0, 0), (204, .iaload, 1, 0, 0, 0), (205, .invokestatic 148, 3, 186, 1, 1399), (208, .if_icmp .ne 7, 3, 129, 0, 0), (211, .iconst 1, 1, 0, 0, 0), (212, .goto 4, 3, 130, 0, 0), (215, .iconst 0, 1, 0, 0, 0), (216, .istore 7, 2, 0, 0, 0), (218, .iinc 8 1, 3, 0, 0, 0), (221, .goto (-63), 3, 99, 0, 0), (224, .iconst 4, 1, 0, 0, 0), (225, .iload 4, 2, 0, 0, 0), (227, .imul, 1, 0, 0, 0), (228, .istore 8, 2, 0, 0, 0), (230, .iload 8, 2, 0, 0, 0), (232, .iconst 4, 1, 0, 0, 0), (233, .iload 4, 2, 0, 0, 0), (235, .imul, 1, 0, 0, 0), (236, .iconst 4, 1, 0, 0, 0), (237, .iadd, 1, 0, 0, 0), (238, .if_icmp .ge 135, 3, 210, 0, 0), (241, .aload_n 0, 1, 0, 0, 0), (242, .getfield 77, 3, 8, 27, 1200), (245, .iload 8, 2, 0, 0, 0), (247, .iaload, 1, 0, 0, 0), (248, .istore 9, 2, 0, 0, 0), (250, .iload 9, 2, 0, 0, 0), (252, .iconst (-1), 1, 0, 0, 0), (253, .if_icmp .eq 114, 3, 208, 0, 0), (256, .iload 7, 2, 0, 0, 0), (258, .ifCond .eq 23, 3, 163, 0, 0), (261, .iload 9, 2, 0, 0, 0), (263, .invokestatic 148, 3, 186, 1, 1399), (266, .aload_n 0, 1, 0, 0, 0), (267, .getfield 80, 3, 8, 28, 1201), (270, .iconst 0, 1, 0, 0, 0), (271, .iaload, 1, 0, 0, 0), (272, .invokestatic 148, 3, 186, 1, 1399), (275, .if_icmp .eq 6, 3, 163, 0, 0), (278, .goto 89, 3, 208, 0, 0), (281, .aload_n 0, 1, 0, 0, 0), (282, .getfield 77, 3, 8, 27, 1200), (285, .iload 8, 2, 0, 0, 0), (287, .iconst (-1), 1, 0, 0, 0), (288, .iastore, 1, 0, 0, 0), (289, .aload_n 0, 1, 0, 0, 0), (290, .getfield 80, 3, 8, 28, 1201), (293, .iload_n 2, 1, 0, 0, 0), (294, .iload 9, 2, 0, 0, 0), (296, .iastore, 1, 0, 0, 0), (297, .aload_n 0, 1, 0, 0, 0), (298, .iload_n 1, 1, 0, 0, 0), (299, .iload_n 2, 1, 0, 0, 0), (300, .iconst 1, 1, 0, 0, 0), (301, .iadd, 1, 0, 0, 0), (302, .iload_n 3, 1, 0, 0, 0), (303, .invokevirtual 207, 3, 205, 131, 1423), (306, .istore 10, 2, 0, 0, 0), (308, .aload_n 0, 1, 0, 0, 0), (309, .getfield 77, 3, 8, 27, 1200), (312, .iload 8, 2, 0, 0, 0), (314, .iload 9, 2, 0, 0, 0), (316, .iastore, 1, 0, 0, 0), (317, .iload 6, 2, 0, 0, 0), (319, .iconst (-1), 1, 0, 0, 0), (320, .if_icmp .eq 25, 3, 198, 0, 0), (323, .iload 5, 2, 0, 0, 0), (325, .ifCond .eq 13, 3, 195, 0, 0), (328, .iload 10, 2, 0, 0, 0), (330, .iload 6, 2, 0, 0, 0), (332, .if_icmp .le 17, 3, 200, 0, 0), (335, .goto 10, 3, 198, 0, 0), (338, .iload 10, 2, 0, 0, 0), (340, .iload 6, 2, 0, 0, 0), (342, .if_icmp .ge 7, 3, 200, 0, 0), (345, .iload 10, 2, 0, 0, 0), (347, .istore 6, 2, 0, 0, 0), (349, .iload 6, 2, 0, 0, 0), (351, .iload 5, 2, 0, 0, 0), (353, .ifCond .eq 7, 3, 205, 0, 0), (356, .iload_n 3, 1, 0, 0, 0), (357, .goto 4, 3, 206, 0, 0), (360, .iconst 0, 1, 0, 0, 0), (361, .if_icmp .ne 6, 3, 208, 0, 0), (364, .goto 9, 3, 210, 0, 0), (367, .iinc 8 1, 3, 0, 0, 0), (370, .goto (-140), 3, 137, 0, 0), (373, .iload 6, 2, 0, 0, 0), (375, .ireturn, 1, 0, 0, 0)]
def cd_206 : List aE := [(0, .aload_n 0, 1, 0, 0, 0), (1, .iload_n 1, 1, 0, 0, 0), (2, .invokevirtual 138, 3, 175, 129, 1325), (5, .iconst 2, 1, 0, 0, 0), (6, .if_icmp .eq 5, 3, 7, 0, 0), (9, .iconst (-1), 1, 0, 0, 0), (10, .ireturn, 1, 0, 0, 0), (11, .aload_n 0, 1, 0, 0, 0), (12, .iload_n 1, 1, 0, 0, 0), (13, .invokevirtual 163, 3, 188, 129, 1392), (16, .bipush 13, 2, 0, 0, 0), (18, .aload_n 0, 1, 0, 0, 0), (19, .getfield 157, 3, 8, 26, 1199), (22, .iconst 4, 1, 0, 0, 0), (23, .idiv, 1, 0, 0, 0), (24, .isub, 1, 0, 0, 0), (25, .istore_n 2, 1, 0, 0, 0), (26, .iload_n 2, 1, 0, 0, 0), (27, .iconst 4, 1, 0, 0, 0), (28, .if_icmp .le 5, 3, 22, 0, 0), (31, .iconst (-1), 1, 0, 0, 0), (32, .ireturn, 1, 0, 0, 0), (33, .aload_n 0, 1, 0, 0, 0), (34, .aload_n 0, 1, 0, 0, 0), (35, .iload_n 1, 1, 0, 0, 0), (36, .invokevirtual 135, 3, 183, 129, 1357), (39, .putfield 198, 3, 8, 29, 1202), (42, .aload_n 0, 1, 0, 0, 0), (43, .aload_n 0, 1, 0, 0, 0), (44, .iload_n 1, 1, 0, 0, 0), (45, .invokevirtual 151, 3, 184, 129, 1361), (48, .iconst 2, 1, 0, 0, 0), (49, .irem, 1, 0, 0, 0), (50, .putfield 204, 3, 8, 30, 1203), (53, .iconst 0, 1, 0, 0, 0), (54, .istore_n 3, 1, 0, 0, 0), (55, .iload_n 3, 1, 0, 0, 0), (56, .iconst 4, 1, 0, 0, 0), (57, .if_icmp .ge 86, 3, 83, 0, 0), (60, .iconst 0, 1, 0, 0, 0), (61, .istore 4, 2, 0, 0, 0), (63, .iconst 0, 1, 0, 0, 0), (64, .istore 5, 2, 0, 0, 0), (66, .iload 5, 2, 0, 0, 0), (68, .bipush 52, 2, 0, 0, 0), (70, .if_icmp .ge 39, 3, 65, 0, 0), (73, .aload_n 0, 1, 0, 0, 0), (74, .iload_n 1, 1, 0, 0, 0), (75, .iload_n 3, 1, 0, 0, 0), (76, .iload 5, 2, 0, 0, 0), (78, .invokevirtual 176, 3, 191, 131, 1402), (81, .ifCond .ne 6, 3, 53, 0, 0), (84, .goto 19, 3, 63, 0, 0), (87, .aload_n 0, 1, 0, 0, 0), (88, .getfield 77, 3, 8, 27, 1200), (91, .iconst 4, 1, 0, 0, 0), (92, .iload_n 3, 1, 0, 0, 0), (93, .imul, 1, 0, 0, 0), (94, .iload 4, 2, 0, 0, 0), (96, .iadd, 1, 0, 0, 0), (97, .iload 5, 2, 0, 0, 0), (99, .iastore, 1, 0, 0, 0), (100, .iinc 4 1, 3, 0, 0, 0), (103, .iinc 5 1, 3, 0, 0, 0), (106, .goto (-40), 3, 43, 0, 0), (109, .iload 4, 2, 0, 0, 0), (111, .istore 5, 2, 0, 0, 0), (113, .iload 5, 2, 0, 0, 0), (115, .iconst 4, 1, 0, 0, 0), (116, .if_icmp .ge 21, 3, 81, 0, 0), (119, .aload_n 0, 1, 0, 0, 0), (120, .getfield 77, 3, 8, 27, 1200), (123, .iconst 4, 1, 0, 0, 0), (124, .iload_n 3, 1, 0, 0, 0), (125, .imul, 1, 0, 0, 0), (126, .iload 5, 2, 0, 0, 0), (128, .iadd, 1, 0, 0, 0), (129, .iconst (-1), 1, 0, 0, 0), (130, .iastore, 1, 0, 0, 0), (131, .iinc 5 1, 3, 0, 0, 0), (134, .goto (-21), 3, 67, 0, 0), (137, .iinc 3 1, 3, 0, 0, 0), (140, .goto (-85), 3, 36, 0, 0), (143, .aload_n 0, 1, 0, 0, 0), (144, .getfield 157, 3, 8, 26, 1199), (147, .istore_n 3, 1, 0, 0, 0), (148, .iload_n 3, 1, 0, 0, 0), (149, .aload_n 0, 1, 0, 0, 0), (150, .getfield 29, 3, 8, 8, 1181), (153, .iload_n 1, 1, 0, 0, 0), (154, .iaload, 1, 0, 0, 0), (155, .if_icmp .ge 31, 3, 109, 0, 0), (158, .aload_n 0, 1, 0, 0, 0), (159, .getfield 80, 3, 8, 28, 1201), (162, .iload_n 3, 1, 0, 0, 0), (163, .aload_n 0, 1, 0, 0, 0), (164, .getfield 157, 3, 8, 26, 1199), (167, .isub, 1, 0, 0, 0), (168, .aload_n 0, 1, 0, 0, 0), (169, .getfield 35, 3, 8, 10, 1183), (172, .bipush 52, 2, 0, 0, 0), (174, .iload_n 1, 1, 0, 0, 0), (175, .imul, 1, 0, 0, 0), (176, .iload_n 3, 1, 0, 0, 0), (177, .iadd, 1, 0, 0, 0), (178, .iaload, 1, 0, 0, 0), (179, .iastore, 1, 0, 0, 0), (180, .iinc 3 1, 3, 0, 0, 0), (183, .goto (-35), 3, 86, 0, 0), (186, .iload_n 2, 1, 0, 0, 0), (187, .ireturn, 1, 0, 0, 0)]
def cd_207 : List aE := [(0, .aload_n 0, 1, 0, 0, 0), (1, .iload_n 1, 1, 0, 0, 0), (2, .invokevirtual 211, 3, 206, 129, 1419), (5, .istore_n 2, 1, 0, 0, 0), (6, .iload_n 2, 1, 0, 0, 0), (7, .iconst (-1), 1, 0, 0, 0), (8, .if_icmp .ne 7, 3, 9, 0, 0), (11, .iconst (-1), 1, 0, 0, 0), (12, .goto 23, 3, 21, 0, 0), (15, .aload_n 0, 1, 0, 0, 0), (16, .aload_n 0, 1, 0, 0, 0), (17, .getfield 154, 3, 8, 25, 1198), (20, .aload_n 0, 1, 0, 0, 0), (21, .getfield 29, 3, 8, 8, 1181), (24, .iload_n 1, 1, 0, 0, 0), (25, .iaload, 1, 0, 0, 0), (26, .aload_n 0, 1, 0, 0, 0), (27, .getfield 157, 3, 8, 26, 1199), (30, .isub, 1, 0, 0, 0), (31, .iload_n 2, 1, 0, 0, 0), (32, .invokevirtual 207, 3, 205, 131, 1423), (35, .ireturn, 1, 0, 0, 0)]
def cd_208 : List aE := [(0, .aload_n 0, 1, 0, 0, 0), (1, .iload_n 1, 1, 0, 0, 0), (2, .invokevirtual 182, 3, 207, 129, 1415), (5, .istore_n 2, 1, 0, 0, 0), (6, .iload_n 2, 1, 0, 0, 0), (7, .iconst (-1), 1, 0, 0, 0), (8, .if_icmp .ne 5, 3, 9, 0, 0), (11, .iconst (-1), 1, 0, 0, 0), (12, .ireturn, 1, 0, 0, 0), (13, .iconst 0, 1, 0, 0, 0), (14, .istore_n 3, 1, 0, 0, 0), (15, .iload_n 3, 1, 0, 0, 0), (16, .bipush 52, 2, 0, 0, 0), (18, .if_icmp .ge 104, 3, 69, 0, 0), (21, .aload_n 0, 1, 0, 0, 0), (22, .iload_n 1, 1, 0, 0, 0), (23, .iload_n 3, 1, 0, 0, 0), (24, .invokevirtual 179, 3, 192, 130, 1384), (27, .ifCond .ne 6, 3, 20, 0, 0), (30, .goto 86, 3, 67, 0, 0), (33, .aload_n 0, 1, 0, 0, 0), (34, .iload_n 1, 1, 0, 0, 0), (35, .invokevirtual 211, 3, 206, 129, 1419), (38, .istore 4, 2, 0, 0, 0), (40, .aload_n 0, 1, 0, 0, 0), (41, .getfield 29, 3, 8, 8, 1181), (44, .iload_n 1, 1, 0, 0, 0), (45, .iaload, 1, 0, 0, 0), (46, .aload_n 0, 1, 0, 0, 0), (47, .getfield 157, 3, 8, 26, 1199), (50, .isub, 1, 0, 0, 0), (51, .istore 5, 2, 0, 0, 0), (53, .iconst 0, 1, 0, 0, 0), (54, .istore 6, 2, 0, 0, 0), (56, .iload 6, 2, 0, 0, 0), (58, .bipush 16, 2, 0, 0, 0), (60, .if_icmp .ge 28, 3, 50, 0, 0), (63, .aload_n 0, 1, 0, 0, 0), (64, .getfield 77, 3, 8, 27, 1200), (67, .iload 6, 2, 0, 0, 0), (69, .iaload, 1, 0, 0, 0), (70, .iload_n 3, 1, 0, 0, 0), (71, .if_icmp .ne 11, 3, 48, 0, 0), (74, .aload_n 0, 1, 0, 0, 0), (75, .getfield 77, 3, 8, 27, 1200), (78, .iload 6, 2, 0, 0, 0), (80, .iconst (-1), 1, 0, 0, 0), (81, .iastore, 1, 0, 0, 0), (82, .iinc 6 1, 3, 0, 0, 0), (85, .goto (-29), 3, 34, 0, 0), (88, .aload_n 0, 1, 0, 0, 0), (89, .getfield 80, 3, 8, 28, 1201), (92, .iload 5, 2, 0, 0, 0), (94, .iload_n 3, 1, 0, 0, 0), (95, .iastore, 1, 0, 0, 0), (96, .aload_n 0, 1, 0, 0, 0), (97, .aload_n 0, 1, 0, 0, 0), (98, .getfield 154, 3, 8, 25, 1198), (101, .iload 5, 2, 0, 0, 0), (103, .iconst 1, 1, 0, 0, 0), (104, .iadd, 1, 0, 0, 0), (105, .iload 4, 2, 0, 0, 0), (107, .invokevirtual 207, 3, 205, 131, 1423), (110, .iload_n 2, 1, 0, 0, 0), (111, .if_icmp .ne 5, 3, 67, 0, 0), (114, .iload_n 3, 1, 0, 0, 0), (115, .ireturn, 1, 0, 0, 0), (116, .iinc 3 1, 3, 0, 0, 0), (119, .goto (-104), 3, 11, 0, 0), (122, .iconst (-1), 1, 0, 0, 0), (123, .ireturn, 1, 0, 0, 0)]
def cd_209 : List aE := [(0, .iload_n 1, 1, 0, 0, 0), (1, .iconst 1, 1, 0, 0, 0), (2, .bipush 7, 2, 0, 0, 0), (4, .invokestatic 88, 3, 159, 3, 1281), (7, .ifCond .eq 32, 3, 20, 0, 0), (10, .iload_n 2, 1, 0, 0, 0), (11, .iconst 0, 1, 0, 0, 0), (12, .iconst 4, 1, 0, 0, 0), (13, .invokestatic 88, 3, 159, 3, 1281), (16, .ifCond .eq 23, 3, 20, 0, 0), (19, .iload_n 3, 1, 0, 0, 0), (20, .iconst 0, 1, 0, 0, 0), (21, .iconst 2, 1, 0, 0, 0), (22, .invokestatic 88, 3, 159, 3, 1281), (25, .ifCond .eq 14, 3, 20, 0, 0), (28, .iload 5, 2, 0, 0, 0), (30, .iconst 0, 1, 0, 0, 0), (31, .bipush 13, 2, 0, 0, 0), (33, .invokestatic 88, 3, 159, 3, 1281), (36, .ifCond .ne 6, 3, 22, 0, 0), (39, .ldc 214, 2, 2147483648, 0, 1376), (41, .ireturn, 1, 0, 0, 0), (42, .iload 5, 2, 0, 0, 0), (44, .iload_n 1, 1, 0, 0, 0), (45, .isub, 1, 0, 0, 0), (46, .bipush 6, 2, 0, 0, 0), (48, .isub, 1, 0, 0, 0), (49, .istore 6, 2, 0, 0, 0), (51, .iload 6, 2, 0, 0, 0), (53, .ifCond .ge 14, 3, 37, 0, 0), (56, .iload 6, 2, 0, 0, 0), (58, .ineg, 1, 0, 0, 0), (59, .iload_n 3, 1, 0, 0, 0), (60, .iload 4, 2, 0, 0, 0), (62, .invokestatic 215, 3, 210, 3, 1377), (65, .ineg, 1, 0, 0, 0), (66, .ireturn, 1, 0, 0, 0), (67, .iload_n 2, 1, 0, 0, 0), (68, .iconst 2, 1, 0, 0, 0), (69, .if_icmp .ge 8, 3, 42, 0, 0), (72, .bipush 20, 2, 0, 0, 0), (74, .goto 5, 3, 43, 0, 0), (77, .bipush 30, 2, 0, 0, 0), (79, .istore 7, 2, 0, 0, 0), (81, .iload_n 1, 1, 0, 0, 0), (82, .iload 7, 2, 0, 0, 0), (84, .imul, 1, 0, 0, 0), (85, .iload_n 2, 1, 0, 0, 0), (86, .iconst 4, 1, 0, 0, 0), (87, .if_icmp .ne 8, 3, 52, 0, 0), (90, .bipush 10, 2, 0, 0, 0), (92, .goto 4, 3, 53, 0, 0), (95, .iconst 0, 1, 0, 0, 0), (96, .iadd, 1, 0, 0, 0), (97, .iload_n 3, 1, 0, 0, 0), (98, .ifCond .ne 7, 3, 58, 0, 0), (101, .iconst 1, 1, 0, 0, 0), (102, .goto 6, 3, 61, 0, 0), (105, .iconst 2, 1, 0, 0, 0), (106, .iload_n 3, 1, 0, 0, 0), (107, .imul, 1, 0, 0, 0), (108, .imul, 1, 0, 0, 0), (109, .istore 8, 2, 0, 0, 0), (111, .iload 8, 2, 0, 0, 0), (113, .iload 8, 2, 0, 0, 0), (115, .bipush 100, 2, 0, 0, 0), (117, .if_icmp .ge 8, 3, 69, 0, 0), (120, .bipush 50, 2, 0, 0, 0), (122, .goto 17, 3, 74, 0, 0), (125, .iload 4, 2, 0, 0, 0), (127, .ifCond .eq 9, 3, 73, 0, 0), (130, .sipush 500, 3, 0, 0, 0), (133, .goto 6, 3, 74, 0, 0), (136, .sipush 300, 3, 0, 0, 0), (139, .iadd, 1, 0, 0, 0), (140, .istore 8, 2, 0, 0, 0), (142, .iload_n 1, 1, 0, 0, 0), (143, .bipush 6, 2, 0, 0, 0), (145, .if_icmp .ne 22, 3, 87, 0, 0), (148, .iload 8, 2, 0, 0, 0), (150, .iload 4, 2, 0, 0, 0), (152, .ifCond .eq 9, 3, 84, 0, 0), (155, .sipush 750, 3, 0, 0, 0), (158, .goto 6, 3, 85, 0, 0), (161, .sipush 500, 3, 0, 0, 0), (164, .iadd, 1, 0, 0, 0), (165, .istore 8, 2, 0, 0, 0), (167, .iload_n 1, 1, 0, 0, 0), (168, .bipush 7, 2, 0, 0, 0), (170, .if_icmp .ne 22, 3, 98, 0, 0), (173, .iload 8, 2, 0, 0, 0), (175, .iload 4, 2, 0, 0, 0), (177, .ifCond .eq 9, 3, 95, 0, 0), (180, .sipush 1500, 3, 0, 0, 0), (183, .goto 6, 3, 96, 0, 0), (186, .sipush 1000, 3, 0, 0, 0), (189, .iadd, 1, 0, 0, 0), (190, .istore 8, 2, 0, 0, 0), (192, .iload 8, 2, 0, 0, 0), (194, .bipush 50, 2, 0, 0, 0), (196, .iload_n 3, 1, 0, 0, 0), (197, .imul, 1, 0, 0, 0), (198, .iadd, 1, 0, 0, 0), (199, .istore 8, 2, 0, 0, 0), (201, .iload_n 3, 1, 0, 0, 0), (202, .ifCond .ne 8, 3, 108, 0, 0), (205, .iload 7, 2, 0, 0, 0), (207, .goto 18, 3, 115, 0, 0), (210, .iload 4, 2, 0, 0, 0), (212, .ifCond .eq 9, 3, 112, 0, 0), (215, .sipush 200, 3, 0, 0, 0), (218, .goto 5, 3, 113, 0, 0), (221, .bipush 100, 2, 0, 0, 0), (223, .iload_n 3, 1, 0, 0, 0), (224, .imul, 1, 0, 0, 0), (225, .istore 9, 2, 0, 0, 0), (227, .iload 8, 2, 0, 0, 0), (229, .iload 6, 2, 0, 0, 0), (231, .iload 9, 2, 0, 0, 0), (233, .imul, 1, 0, 0, 0), (234, .iadd, 1, 0, 0, 0), (235, .ireturn, 1, 0, 0, 0)]
def cd_210 : List aE := [(0, .iload_n 1, 1, 0, 0, 0), (1, .ifCond .ne 17, 3, 10, 0, 0), (4, .iload_n 0, 1, 0, 0, 0), (5, .iload_n 2, 1, 0, 0, 0), (6, .ifCond .eq 8, 3, 7, 0, 0), (9, .bipush 100, 2, 0, 0, 0), (11, .goto 5, 3, 8, 0, 0), (14, .bipush 50, 2, 0, 0, 0), (16, .imul, 1, 0, 0, 0), (17, .ireturn, 1, 0, 0, 0), (18, .iconst 0, 1, 0, 0, 0), (19, .istore_n 3, 1, 0, 0, 0), (20, .iconst 1, 1, 0, 0, 0), (21, .istore 4, 2, 0, 0, 0), (23, .iload 4, 2, 0, 0, 0), (25, .iload_n 0, 1, 0, 0, 0), (26, .if_icmp .gt 52, 3, 39, 0, 0), (29, .iload_n 3, 1, 0, 0, 0), (30, .iload 4, 2, 0, 0, 0), (32, .iconst 1, 1, 0, 0, 0), (33, .if_icmp .ne 18, 3, 27, 0, 0), (36, .iload_n 2, 1, 0, 0, 0), (37, .ifCond .eq 9, 3, 25, 0, 0), (40, .sipush 200, 3, 0, 0, 0), (43, .goto 27, 3, 35, 0, 0), (46, .bipush 100, 2, 0, 0, 0), (48, .goto 22, 3, 35, 0, 0), (51, .iload_n 2, 1, 0, 0, 0), (52, .ifCond .ne 9, 3, 32, 0, 0), (55, .iload 4, 2, 0, 0, 0), (57, .iconst 3, 1, 0, 0, 0), (58, .if_icmp .le 9, 3, 34, 0, 0), (61, .sipush 300, 3, 0, 0, 0), (64, .goto 6, 3, 35, 0, 0), (67, .sipush 200, 3, 0, 0, 0), (70, .iadd, 1, 0, 0, 0), (71, .istore_n 3, 1, 0, 0, 0), (72, .iinc 4 1, 3, 0, 0, 0), (75, .goto (-52), 3, 14, 0, 0), (78, .iload_n 3, 1, 0, 0, 0), (79, .iload_n 1, 1, 0, 0, 0), (80, .imul, 1, 0, 0, 0), (81, .ireturn, 1, 0, 0, 0)]
def cd_211 : List aE := [(0, .iload_n 1, 1, 0, 0, 0), (1, .i2l, 1, 0, 0, 0), (2, .iload_n 2, 1, 0, 0, 0), (3, .i2l, 1, 0, 0, 0), (4, .lsub, 1, 0, 0, 0), (5, .lstore_n 3, 1, 0, 0, 0), (6, .lload_n 3, 1, 0, 0, 0), (7, .lconst 0, 1, 0, 0, 0), (8, .lcmp, 1, 0, 0, 0), (9, .ifCond .ge 8, 3, 13, 0, 0), (12, .lload_n 3, 1, 0, 0, 0), (13, .lneg, 1, 0, 0, 0), (14, .goto 4, 3, 14, 0, 0), (17, .lload_n 3, 1, 0, 0, 0), (18, .lstore 5, 2, 0, 0, 0), (20, .iconst 0, 1, 0, 0, 0), (21, .istore 7, 2, 0, 0, 0), (23, .iconst 0, 1, 0, 0, 0), (24, .istore 8, 2, 0, 0, 0), (26, .iload 8, 2, 0, 0, 0), (28, .getstatic 219, 3, 0, 0, 0), (31, .arraylength, 1, 0, 0, 0), (32, .if_icmp .ge 32, 3, 38, 0, 0), (35, .iload 7, 2, 0, 0, 0), (37, .lload 5, 2, 0, 0, 0), (39, .getstatic 219, 3, 0, 0, 0), (42, .iload 8, 2, 0, 0, 0), (44, .iaload, 1, 0, 0, 0), (45, .i2l, 1, 0, 0, 0), (46, .lcmp, 1, 0, 0, 0), (47, .ifCond .lt 7, 3, 33, 0, 0), (50, .iconst 1, 1, 0, 0, 0), (51, .goto 4, 3, 34, 0, 0), (54, .iconst 0, 1, 0, 0, 0), (55, .iadd, 1, 0, 0, 0), (56, .istore 7, 2, 0, 0, 0), (58, .iinc 8 1, 3, 0, 0, 0), (61, .goto (-35), 3, 19, 0, 0), (64, .lload_n 3, 1, 0, 0, 0), (65, .lconst 0, 1, 0, 0, 0), (66, .lcmp, 1, 0, 0, 0), (67, .ifCond .ge 9, 3, 45, 0, 0), (70, .iload 7, 2, 0, 0, 0), (72, .ineg, 1, 0, 0, 0), (73, .goto 5, 3, 46, 0, 0), (76, .iload 7, 2, 0, 0, 0), (78, .ireturn, 1, 0, 0, 0)]
def cd_212 : List aE := [(0, .iload_n 1, 1, 0, 0, 0), (1, .iconst 0, 1, 0, 0, 0), (2, .aload_n 0, 1, 0, 0, 0), (3, .getfield 103, 3, 8, 1, 1174), (6, .iconst 1, 1, 0, 0, 0), (7, .isub, 1, 0, 0, 0), (8, .invokestatic 88, 3, 159, 3, 1281), (11, .ireturn, 1, 0, 0, 0)]
def cd_213 : List aE := [(0, .aload_n 0, 1, 0, 0, 0), (1, .iload_n 1, 1, 0, 0, 0), (2, .invokevirtual 222, 3, 212, 129, 1479), (5, .ifCond .ne 16, 3, 11, 0, 0), (8, .iload_n 2, 1, 0, 0, 0), (9, .bipush 8, 2, 0, 0, 0), (11, .if_icmp .ne 8, 3, 9, 0, 0), (14, .ldc 214, 2, 2147483648, 0, 1376), (16, .goto 4, 3, 10, 0, 0), (19, .iconst (-1), 1, 0, 0, 0), (20, .ireturn, 1, 0, 0, 0), (21, .iload_n 2, 1, 0, 0, 0), (22, .tableswitch 138 0 9 #[54, 61, 70, 81, 88, 95, 102, 109, 116, 123], 54, 0, 0, 0), (76, .aload_n 0, 1, 0, 0, 0), (77, .getfield 38, 3, 8, 11, 1184), (80, .iload_n 1, 1, 0, 0, 0), (81, .iaload, 1, 0, 0, 0), (82, .ireturn, 1, 0, 0, 0), (83, .aload_n 0, 1, 0, 0, 0), (84, .getfield 41, 3, 8, 12, 1185), (87, .iconst 2, 1, 0, 0, 0), (88, .iload_n 1, 1, 0, 0, 0), (89, .imul, 1, 0, 0, 0), (90, .iaload, 1, 0, 0, 0), (91, .ireturn, 1, 0, 0, 0), (92, .aload_n 0, 1, 0, 0, 0), (93, .getfield 41, 3, 8, 12, 1185), (96, .iconst 2, 1, 0, 0, 0), (97, .iload_n 1, 1, 0, 0, 0), (98, .imul, 1, 0, 0, 0), (99, .iconst 1, 1, 0, 0, 0), (100, .iadd, 1, 0, 0, 0), (101, .iaload, 1, 0, 0, 0), (102, .ireturn, 1, 0, 0, 0), (103, .aload_n 0, 1, 0, 0, 0), (104, .getfield 44, 3, 8, 13, 1186), (107, .iload_n 1, 1, 0, 0, 0), (108, .iaload, 1, 0, 0, 0), (109, .ireturn, 1, 0, 0, 0), (110, .aload_n 0, 1, 0, 0, 0), (111, .getfield 47, 3, 8, 14, 1187), (114, .iload_n 1, 1, 0, 0, 0), (115, .iaload, 1, 0, 0, 0), (116, .ireturn, 1, 0, 0, 0), (117, .aload_n 0, 1, 0, 0, 0), (118, .getfield 50, 3, 8, 15, 1188), (121, .iload_n 1, 1, 0, 0, 0), (122, .iaload, 1, 0, 0, 0), (123, .ireturn, 1, 0, 0, 0), (124, .aload_n 0, 1, 0, 0, 0), (125, .getfield 53, 3, 8, 16, 1189), (128, .iload_n 1, 1, 0, 0, 0), (129, .iaload, 1, 0, 0, 0), (130, .ireturn, 1, 0, 0, 0), (131, .aload_n 0, 1, 0, 0, 0), (132, .getfield 56, 3, 8, 17, 1190), (135, .iload_n 1, 1, 0, 0, 0), (136, .iaload, 1, 0, 0, 0), (137, .ireturn, 1, 0, 0, 0), (138, .aload_n 0, 1, 0, 0, 0), (139, .getfield 59, 3, 8, 18, 1191), (142, .iload_n 1, 1, 0, 0, 0), (143, .iaload, 1, 0, 0, 0), (144, .ireturn, 1, 0, 0, 0), (145, .aload_n 0, 1, 0, 0, 0), (146, .getfield 65, 3, 8, 20, 1193), (149, .iload_n 1, 1, 0, 0, 0), (150, .baload, 1, 0, 0, 0), (151, .ifCond .eq 7, 3, 71, 0, 0), (154, .iconst 1, 1, 0, 0, 0), (155, .goto 4, 3, 72, 0, 0), (158, .iconst 0, 1, 0, 0, 0), (159, .ireturn, 1, 0, 0, 0), (160, .iconst (-1), 1, 0, 0, 0), (161, .ireturn, 1, 0, 0, 0)]
def cd_214 : List aE := [(0, .aload_n 0, 1, 0, 0, 0), (1, .iload_n 1, 1, 0, 0, 0), (2, .invokevirtual 222, 3, 212, 129, 1479), (5, .ifCond .eq 23, 3, 14, 0, 0), (8, .iload_n 2, 1, 0, 0, 0), (9, .iconst 0, 1, 0, 0, 0), (10, .bipush 100, 2, 0, 0, 0), (12, .invokestatic 88, 3, 159, 3, 1281), (15, .ifCond .eq 13, 3, 14, 0, 0), (18, .iload_n 3, 1, 0, 0, 0), (19, .iconst 0, 1, 0, 0, 0), (20, .bipush 100, 2, 0, 0, 0), (22, .invokestatic 88, 3, 159, 3, 1281), (25, .ifCond .ne 5, 3, 16, 0, 0), (28, .iconst 0, 1, 0, 0, 0), (29, .ireturn, 1, 0, 0, 0), (30, .aload_n 0, 1, 0, 0, 0), (31, .getfield 65, 3, 8, 20, 1193), (34, .iload_n 1, 1, 0, 0, 0), (35, .iconst 1, 1, 0, 0, 0), (36, .bastore, 1, 0, 0, 0), (37, .aload_n 0, 1, 0, 0, 0), (38, .getfield 62, 3, 8, 19, 1192), (41, .iconst 2, 1, 0, 0, 0), (42, .iload_n 1, 1, 0, 0, 0), (43, .imul, 1, 0, 0, 0), (44, .iload_n 2, 1, 0, 0, 0), (45, .iastore, 1, 0, 0, 0), (46, .aload_n 0, 1, 0, 0, 0), (47, .getfield 62, 3, 8, 19, 1192), (50, .iconst 2, 1, 0, 0, 0), (51, .iload_n 1, 1, 0, 0, 0), (52, .imul, 1, 0, 0, 0), (53, .iconst 1, 1, 0, 0, 0), (54, .iadd, 1, 0, 0, 0), (55, .iload_n 3, 1, 0, 0, 0), (56, .iastore, 1, 0, 0, 0), (57, .iconst 1, 1, 0, 0, 0), (58, .ireturn, 1, 0, 0, 0)]
def cd_215 : List aE := [(0, .aload_n 0, 1, 0, 0, 0), (1, .iload_n 1, 1, 0, 0, 0), (2, .invokevirtual 222, 3, 212, 129, 1479), (5, .ifCond .eq 12, 3, 9, 0, 0), (8, .iload_n 2, 1, 0, 0, 0), (9, .iconst 0, 1, 0, 0, 0), (10, .iconst 1, 1, 0, 0, 0), (11, .invokestatic 88, 3, 159, 3, 1281), (14, .ifCond .ne 5, 3, 11, 0, 0), (17, .iconst (-1), 1, 0, 0, 0), (18, .ireturn, 1, 0, 0, 0), (19, .bipush 20, 2, 0, 0, 0), (21, .aload_n 0, 1, 0, 0, 0), (22, .aload_n 0, 1, 0, 0, 0), (23, .getfield 38, 3, 8, 11, 1184), (26, .iload_n 1, 1, 0, 0, 0), (27, .iaload, 1, 0, 0, 0), (28, .invokevirtual 109, 3, 170, 129, 1301), (31, .iconst 1, 1, 0, 0, 0), (32, .isub, 1, 0, 0, 0), (33, .imul, 1, 0, 0, 0), (34, .istore_n 3, 1, 0, 0, 0), (35, .aload_n 0, 1, 0, 0, 0), (36, .getfield 65, 3, 8, 20, 1193), (39, .iload_n 1, 1, 0, 0, 0), (40, .baload, 1, 0, 0, 0), (41, .ifCond .eq 19, 3, 40, 0, 0), (44, .iload_n 3, 1, 0, 0, 0), (45, .aload_n 0, 1, 0, 0, 0), (46, .getfield 62, 3, 8, 19, 1192), (49, .iconst 2, 1, 0, 0, 0), (50, .iload_n 1, 1, 0, 0, 0), (51, .imul, 1, 0, 0, 0), (52, .iload_n 2, 1, 0, 0, 0), (53, .iadd, 1, 0, 0, 0), (54, .iaload, 1, 0, 0, 0), (55, .imul, 1, 0, 0, 0), (56, .bipush 100, 2, 0, 0, 0), (58, .idiv, 1, 0, 0, 0), (59, .ireturn, 1, 0, 0, 0), (60, .iconst 0, 1, 0, 0, 0), (61, .istore 4, 2, 0, 0, 0), (63, .iconst 0, 1, 0, 0, 0), (64, .istore 5, 2, 0, 0, 0), (66, .iload 5, 2, 0, 0, 0), (68, .aload_n 0, 1, 0, 0, 0), (69, .getfield 103, 3, 8, 1, 1174), (72, .if_icmp .ge 92, 3, 94, 0, 0), (75, .iload 5, 2, 0, 0, 0), (77, .iload_n 1, 1, 0, 0, 0), (78, .if_icmp .eq 80, 3, 92, 0, 0), (81, .aload_n 0, 1, 0, 0, 0), (82, .getfield 38, 3, 8, 11, 1184), (85, .iload 5, 2, 0, 0, 0), (87, .iaload, 1, 0, 0, 0), (88, .aload_n 0, 1, 0, 0, 0), (89, .getfield 38, 3, 8, 11, 1184), (92, .iload_n 1, 1, 0, 0, 0), (93, .iaload, 1, 0, 0, 0), (94, .if_icmp .eq 6, 3, 61, 0, 0), (97, .goto 61, 3, 92, 0, 0), (100, .iload 4, 2, 0, 0, 0), (102, .aload_n 0, 1, 0, 0, 0), (103, .getfield 65, 3, 8, 20, 1193), (106, .iload 5, 2, 0, 0, 0), (108, .baload, 1, 0, 0, 0), (109, .ifCond .ne 19, 3, 76, 0, 0), (112, .aload_n 0, 1, 0, 0, 0), (113, .getfield 59, 3, 8, 18, 1191), (116, .iload 5, 2, 0, 0, 0), (118, .iaload, 1, 0, 0, 0), (119, .aload_n 0, 1, 0, 0, 0), (120, .getfield 59, 3, 8, 18, 1191), (123, .iload_n 1, 1, 0, 0, 0), (124, .iaload, 1, 0, 0, 0), (125, .if_icmp .ne 8, 3, 78, 0, 0), (128, .bipush 10, 2, 0, 0, 0), (130, .goto 25, 3, 90, 0, 0), (133, .aload_n 0, 1, 0, 0, 0), (134, .getfield 59, 3, 8, 18, 1191), (137, .iload 5, 2, 0, 0, 0), (139, .iaload, 1, 0, 0, 0), (140, .aload_n 0, 1, 0, 0, 0), (141, .getfield 59, 3, 8, 18, 1191), (144, .iload_n 1, 1, 0, 0, 0), (145, .iaload, 1, 0, 0, 0), (146, .if_icmp .ge 8, 3, 89, 0, 0), (149, .bipush 20, 2, 0, 0, 0), (151, .goto 4, 3, 90, 0, 0), (154, .iconst 0, 1, 0, 0, 0), (155, .iadd, 1, 0, 0, 0), (156, .istore 4, 2, 0, 0, 0), (158, .iinc 5 1, 3, 0, 0, 0), (161, .goto (-95), 3, 44, 0, 0), (164, .iload_n 2, 1, 0, 0, 0), (165, .ifCond .ne 8, 3, 98, 0, 0), (168, .iload 4, 2, 0, 0, 0), (170, .goto 7, 3, 101, 0, 0), (173, .iload_n 3, 1, 0, 0, 0), (174, .iload 4, 2, 0, 0, 0), (176, .isub, 1, 0, 0, 0), (177, .ireturn, 1, 0, 0, 0)]
def cd_216 : List aE := [(0, .iconst 0, 1, 0, 0, 0), (1, .istore_n 2, 1, 0, 0, 0), (2, .iload_n 2, 1, 0, 0, 0), (3, .aload_n 0, 1, 0, 0, 0), (4, .getfield 103, 3, 8, 1, 1174), (7, .if_icmp .ge 37, 3, 28, 0, 0), (10, .aload_n 0, 1, 0, 0, 0), (11, .getfield 41, 3, 8, 12, 1185), (14, .iconst 2, 1, 0, 0, 0), (15, .iload_n 2, 1, 0, 0, 0), (16, .imul, 1, 0, 0, 0), (17, .iaload, 1, 0, 0, 0), (18, .iload_n 1, 1, 0, 0, 0), (19, .if_icmp .eq 17, 3, 24, 0, 0), (22, .aload_n 0, 1, 0, 0, 0), (23, .getfield 41, 3, 8, 12, 1185), (26, .iconst 2, 1, 0, 0, 0), (27, .iload_n 2, 1, 0, 0, 0), (28, .imul, 1, 0, 0, 0), (29, .iconst 1, 1, 0, 0, 0), (30, .iadd, 1, 0, 0, 0), (31, .iaload, 1, 0, 0, 0), (32, .iload_n 1, 1, 0, 0, 0), (33, .if_icmp .ne 5, 3, 26, 0, 0), (36, .iconst 1, 1, 0, 0, 0), (37, .ireturn, 1, 0, 0, 0), (38, .iinc 2 1, 3, 0, 0, 0), (41, .goto (-39), 3, 2, 0, 0), (44, .iconst 0, 1, 0, 0, 0), (45, .ireturn, 1, 0, 0, 0)]
def cd_217 : List aE := [(0, .aload_n 0, 1, 0, 0, 0), (1, .iload_n 1, 1, 0, 0, 0), (2, .invokevirtual 225, 3, 216, 129, 1495), (5, .ifCond .ne 5, 3, 6, 0, 0), (8, .iconst (-1), 1, 0, 0, 0), (9, .ireturn, 1, 0, 0, 0), (10, .iconst 0, 1, 0, 0, 0), (11, .istore_n 2, 1, 0, 0, 0), (12, .iconst 0, 1, 0, 0, 0), (13, .istore_n 3, 1, 0, 0, 0), (14, .iload_n 3, 1, 0, 0, 0), (15, .aload_n 0, 1, 0, 0, 0), (16, .getfield 103, 3, 8, 1, 1174), (19, .if_icmp .ge 53, 3, 48, 0, 0), (22, .aload_n 0, 1, 0, 0, 0), (23, .getfield 41, 3, 8, 12, 1185), (26, .iconst 2, 1, 0, 0, 0), (27, .iload_n 3, 1, 0, 0, 0), (28, .imul, 1, 0, 0, 0), (29, .iaload, 1, 0, 0, 0), (30, .iload_n 1, 1, 0, 0, 0), (31, .if_icmp .ne 12, 3, 29, 0, 0), (34, .iload_n 2, 1, 0, 0, 0), (35, .aload_n 0, 1, 0, 0, 0), (36, .iload_n 3, 1, 0, 0, 0), (37, .iconst 0, 1, 0, 0, 0), (38, .invokevirtual 228, 3, 215, 130, 1499), (41, .iadd, 1, 0, 0, 0), (42, .istore_n 2, 1, 0, 0, 0), (43, .aload_n 0, 1, 0, 0, 0), (44, .getfield 41, 3, 8, 12, 1185), (47, .iconst 2, 1, 0, 0, 0), (48, .iload_n 3, 1, 0, 0, 0), (49, .imul, 1, 0, 0, 0), (50, .iconst 1, 1, 0, 0, 0), (51, .iadd, 1, 0, 0, 0), (52, .iaload, 1, 0, 0, 0), (53, .iload_n 1, 1, 0, 0, 0), (54, .if_icmp .ne 12, 3, 46, 0, 0), (57, .iload_n 2, 1, 0, 0, 0), (58, .aload_n 0, 1, 0, 0, 0), (59, .iload_n 3, 1, 0, 0, 0), (60, .iconst 1, 1, 0, 0, 0), (61, .invokevirtual 228, 3, 215, 130, 1499), (64, .iadd, 1, 0, 0, 0), (65, .istore_n 2, 1, 0, 0, 0), (66, .iinc 3 1, 3, 0, 0, 0), (69, .goto (-55), 3, 10, 0, 0), (72, .iload_n 2, 1, 0, 0, 0), (73, .ireturn, 1, 0, 0, 0)]
def cd_218 : List aE := [(0, .aload_n 0, 1, 0, 0, 0), (1, .iload_n 1, 1, 0, 0, 0), (2, .invokevirtual 225, 3, 216, 129, 1495), (5, .ifCond .ne 5, 3, 6, 0, 0), (8, .iconst (-1), 1, 0, 0, 0), (9, .ireturn, 1, 0, 0, 0), (10, .iconst 0, 1, 0, 0, 0), (11, .istore_n 2, 1, 0, 0, 0), (12, .iconst 0, 1, 0, 0, 0), (13, .istore_n 3, 1, 0, 0, 0), (14, .iload_n 3, 1, 0, 0, 0), (15, .aload_n 0, 1, 0, 0, 0), (16, .getfield 103, 3, 8, 1, 1174), (19, .if_icmp .ge 53, 3, 47, 0, 0), (22, .aload_n 0, 1, 0, 0, 0), (23, .getfield 41, 3, 8, 12, 1185), (26, .iconst 2, 1, 0, 0, 0), (27, .iload_n 3, 1, 0, 0, 0), (28, .imul, 1, 0, 0, 0), (29, .iaload, 1, 0, 0, 0), (30, .iload_n 1, 1, 0, 0, 0), (31, .if_icmp .eq 17, 3, 32, 0, 0), (34, .aload_n 0, 1, 0, 0, 0), (35, .getfield 41, 3, 8, 12, 1185), (38, .iconst 2, 1, 0, 0, 0), (39, .iload_n 3, 1, 0, 0, 0), (40, .imul, 1, 0, 0, 0), (41, .iconst 1, 1, 0, 0, 0), (42, .iadd, 1, 0, 0, 0), (43, .iaload, 1, 0, 0, 0), (44, .iload_n 1, 1, 0, 0, 0), (45, .if_icmp .ne 21, 3, 45, 0, 0), (48, .iload_n 2, 1, 0, 0, 0), (49, .bipush 20, 2, 0, 0, 0), (51, .aload_n 0, 1, 0, 0, 0), (52, .aload_n 0, 1, 0, 0, 0), (53, .getfield 38, 3, 8, 11, 1184), (56, .iload_n 3, 1, 0, 0, 0), (57, .iaload, 1, 0, 0, 0), (58, .invokevirtual 109, 3, 170, 129, 1301), (61, .iconst 1, 1, 0, 0, 0), (62, .isub, 1, 0, 0, 0), (63, .imul, 1, 0, 0, 0), (64, .iadd, 1, 0, 0, 0), (65, .istore_n 2, 1, 0, 0, 0), (66, .iinc 3 1, 3, 0, 0, 0), (69, .goto (-55), 3, 10, 0, 0), (72, .iload_n 2, 1, 0, 0, 0), (73, .ireturn, 1, 0, 0, 0)]
def cd_219 : List aE := [(0, .aload_n 0, 1, 0, 0, 0), (1, .iload_n 1, 1, 0, 0, 0), (2, .invokevirtual 225, 3, 216, 129, 1495), (5, .ifCond .ne 5, 3, 6, 0, 0), (8, .iconst (-1), 1, 0, 0, 0), (9, .ireturn, 1, 0, 0, 0), (10, .iconst 1, 1, 0, 0, 0), (11, .istore_n 2, 1, 0, 0, 0), (12, .aload_n 0, 1, 0, 0, 0), (13, .iload_n 1, 1, 0, 0, 0), (14, .invokevirtual 231, 3, 217, 129, 1508), (17, .i2l, 1, 0, 0, 0), (18, .lstore_n 3, 1, 0, 0, 0), (19, .aload_n 0, 1, 0, 0, 0), (20, .iload_n 1, 1, 0, 0, 0), (21, .invokevirtual 234, 3, 218, 129, 1509), (24, .i2l, 1, 0, 0, 0), (25, .lstore 5, 2, 0, 0, 0), (27, .lload 5, 2, 0, 0, 0), (29, .lconst 0, 1, 0, 0, 0), (30, .lcmp, 1, 0, 0, 0), (31, .ifCond .ne 10, 3, 26, 0, 0), (34, .lconst 1, 1, 0, 0, 0), (35, .lstore_n 3, 1, 0, 0, 0), (36, .ldc2_w 237, 3, 2, 0, 1510), (39, .lstore 5, 2, 0, 0, 0), (41, .iconst 0, 1, 0, 0, 0), (42, .istore 7, 2, 0, 0, 0), (44, .iload 7, 2, 0, 0, 0), (46, .bipush 40, 2, 0, 0, 0), (48, .if_icmp .ge 76, 3, 68, 0, 0), (51, .iload 7, 2, 0, 0, 0), (53, .iload_n 1, 1, 0, 0, 0), (54, .if_icmp .eq 64, 3, 66, 0, 0), (57, .aload_n 0, 1, 0, 0, 0), (58, .iload 7, 2, 0, 0, 0), (60, .invokevirtual 225, 3, 216, 129, 1495), (63, .ifCond .ne 6, 3, 39, 0, 0), (66, .goto 52, 3, 66, 0, 0), (69, .aload_n 0, 1, 0, 0, 0), (70, .iload 7, 2, 0, 0, 0), (72, .invokevirtual 231, 3, 217, 129, 1508), (75, .i2l, 1, 0, 0, 0), (76, .lstore 8, 2, 0, 0, 0), (78, .aload_n 0, 1, 0, 0, 0), (79, .iload 7, 2, 0, 0, 0), (81, .invokevirtual 234, 3, 218, 129, 1509), (84, .i2l, 1, 0, 0, 0), (85, .lstore 10, 2, 0, 0, 0), (87, .lload 10, 2, 0, 0, 0), (89, .lconst 0, 1, 0, 0, 0), (90, .lcmp, 1, 0, 0, 0), (91, .ifCond .ne 11, 3, 57, 0, 0), (94, .lconst 1, 1, 0, 0, 0), (95, .lstore 8, 2, 0, 0, 0), (97, .ldc2_w 237, 3, 2, 0, 1510), (100, .lstore 10, 2, 0, 0, 0), (102, .lload 8, 2, 0, 0, 0), (104, .lload 5, 2, 0, 0, 0), (106, .lmul, 1, 0, 0, 0), (107, .lload_n 3, 1, 0, 0, 0), (108, .lload 10, 2, 0, 0, 0), (110, .lmul, 1, 0, 0, 0), (111, .lcmp, 1, 0, 0, 0), (112, .ifCond .le 6, 3, 66, 0, 0), (115, .iinc 2 1, 3, 0, 0, 0), (118, .iinc 7 1, 3, 0, 0, 0), (121, .goto (-77), 3, 28, 0, 0), (124, .iload_n 2, 1, 0, 0, 0), (125, .ireturn, 1, 0, 0, 0)]
def cd_220 : List aE := [(0, .iload_n 1, 1, 0, 0, 0), (1, .iconst 3, 1, 0, 0, 0), (2, .bipush 10, 2, 0, 0, 0), (4, .invokestatic 88, 3, 159, 3, 1281), (7, .ifCond .eq 37, 3, 27, 0, 0), (10, .iload_n 2, 1, 0, 0, 0), (11, .iconst 0, 1, 0, 0, 0), (12, .iload_n 1, 1, 0, 0, 0), (13, .iconst 2, 1, 0, 0, 0), (14, .irem, 1, 0, 0, 0), (15, .ifCond .ne 9, 3, 15, 0, 0), (18, .iload_n 1, 1, 0, 0, 0), (19, .iconst 2, 1, 0, 0, 0), (20, .isub, 1, 0, 0, 0), (21, .goto 6, 3, 18, 0, 0), (24, .iload_n 1, 1, 0, 0, 0), (25, .iconst 1, 1, 0, 0, 0), (26, .isub, 1, 0, 0, 0), (27, .invokestatic 88, 3, 159, 3, 1281), (30, .ifCond .eq 14, 3, 27, 0, 0), (33, .iload_n 3, 1, 0, 0, 0), (34, .iconst 0, 1, 0, 0, 0), (35, .iload_n 1, 1, 0, 0, 0), (36, .iconst 1, 1, 0, 0, 0), (37, .isub, 1, 0, 0, 0), (38, .invokestatic 88, 3, 159, 3, 1281), (41, .ifCond .ne 5, 3, 29, 0, 0), (44, .iconst (-1), 1, 0, 0, 0), (45, .ireturn, 1, 0, 0, 0), (46, .iload_n 1, 1, 0, 0, 0), (47, .iconst 2, 1, 0, 0, 0), (48, .irem, 1, 0, 0, 0), (49, .ifCond .ne 14, 3, 40, 0, 0), (52, .iload_n 2, 1, 0, 0, 0), (53, .iload_n 1, 1, 0, 0, 0), (54, .iconst 2, 1, 0, 0, 0), (55, .idiv, 1, 0, 0, 0), (56, .if_icmp .lt 7, 3, 40, 0, 0), (59, .iconst 1, 1, 0, 0, 0), (60, .goto 4, 3, 41, 0, 0), (63, .iconst 0, 1, 0, 0, 0), (64, .istore 5, 2, 0, 0, 0), (66, .iload 4, 2, 0, 0, 0), (68, .ifCond .ne 7, 3, 46, 0, 0), (71, .iload_n 3, 1, 0, 0, 0), (72, .goto 41, 3, 69, 0, 0), (75, .iload 4, 2, 0, 0, 0), (77, .iconst 1, 1, 0, 0, 0), (78, .if_icmp .ne 18, 3, 59, 0, 0), (81, .iload_n 1, 1, 0, 0, 0), (82, .iload_n 3, 1, 0, 0, 0), (83, .iload_n 2, 1, 0, 0, 0), (84, .isub, 1, 0, 0, 0), (85, .iload 5, 2, 0, 0, 0), (87, .isub, 1, 0, 0, 0), (88, .iload_n 1, 1, 0, 0, 0), (89, .invokestatic 239, 3, 160, 2, 1515), (92, .iadd, 1, 0, 0, 0), (93, .goto 20, 3, 69, 0, 0), (96, .iload 4, 2, 0, 0, 0), (98, .iconst 2, 1, 0, 0, 0), (99, .if_icmp .ne 13, 3, 68, 0, 0), (102, .iload_n 3, 1, 0, 0, 0), (103, .iload_n 2, 1, 0, 0, 0), (104, .iadd, 1, 0, 0, 0), (105, .iload_n 1, 1, 0, 0, 0), (106, .invokestatic 239, 3, 160, 2, 1515), (109, .goto 4, 3, 69, 0, 0), (112, .iconst (-1), 1, 0, 0, 0), (113, .ireturn, 1, 0, 0, 0)]
def cd_221 : List aE := [(0, .aload_n 0, 1, 0, 0, 0), (1, .getfield 68, 3, 8, 21, 1194), (4, .aload_n 0, 1, 0, 0, 0), (5, .getfield 242, 3, 8, 22, 1195), (8, .iload_n 1, 1, 0, 0, 0), (9, .iastore, 1, 0, 0, 0), (10, .aload_n 0, 1, 0, 0, 0), (11, .dup, 1, 0, 0, 0), (12, .getfield 242, 3, 8, 22, 1195), (15, .iconst 1, 1, 0, 0, 0), (16, .iadd, 1, 0, 0, 0), (17, .putfield 242, 3, 8, 22, 1195), (20, .return_, 1, 0, 0, 0)]
def cd_222 : List aE := [(0, .aload_n 0, 1, 0, 0, 0), (1, .iload_n 1, 1, 0, 0, 0), (2, .invokevirtual 222, 3, 212, 129, 1479), (5, .ifCond .ne 5, 3, 6, 0, 0), (8, .iconst (-1), 1, 0, 0, 0), (9, .ireturn, 1, 0, 0, 0), (10, .aload_n 0, 1, 0, 0, 0), (11, .iconst 0, 1, 0, 0, 0), (12, .putfield 242, 3, 8, 22, 1195), (15, .aload_n 0, 1, 0, 0, 0), (16, .getfield 44, 3, 8, 13, 1186), (19, .iload_n 1, 1, 0, 0, 0), (20, .iaload, 1, 0, 0, 0), (21, .ifCond .ne 29, 3, 28, 0, 0), (24, .aload_n 0, 1, 0, 0, 0), (25, .bipush 112, 2, 0, 0, 0), (27, .invokevirtual 245, 3, 221, 129, 1522), (30, .aload_n 0, 1, 0, 0, 0), (31, .bipush 97, 2, 0, 0, 0), (33, .invokevirtual 245, 3, 221, 129, 1522), (36, .aload_n 0, 1, 0, 0, 0), (37, .bipush 115, 2, 0, 0, 0), (39, .invokevirtual 245, 3, 221, 129, 1522), (42, .aload_n 0, 1, 0, 0, 0), (43, .bipush 115, 2, 0, 0, 0), (45, .invokevirtual 245, 3, 221, 129, 1522), (48, .iconst 4, 1, 0, 0, 0), (49, .ireturn, 1, 0, 0, 0), (50, .aload_n 0, 1, 0, 0, 0), (51, .bipush 48, 2, 0, 0, 0), (53, .aload_n 0, 1, 0, 0, 0), (54, .getfield 44, 3, 8, 13, 1186), (57, .iload_n 1, 1, 0, 0, 0), (58, .iaload, 1, 0, 0, 0), (59, .iadd, 1, 0, 0, 0), (60, .invokevirtual 245, 3, 221, 129, 1522), (63, .aload_n 0, 1, 0, 0, 0), (64, .ldc 248, 2, 0, 1, 0), (66, .aload_n 0, 1, 0, 0, 0), (67, .getfield 47, 3, 8, 14, 1187), (70, .iload_n 1, 1, 0, 0, 0), (71, .iaload, 1, 0, 0, 0), (72, .invokevirtual 250, 3, 999, 1, 1527), (75, .invokevirtual 245, 3, 221, 129, 1522), (78, .iconst 0, 1, 0, 0, 0), (79, .istore_n 2, 1, 0, 0, 0), (80, .iload_n 2, 1, 0, 0, 0), (81, .aload_n 0, 1, 0, 0, 0), (82, .getfield 53, 3, 8, 16, 1189), (85, .iload_n 1, 1, 0, 0, 0), (86, .iaload, 1, 0, 0, 0), (87, .if_icmp .ge 15, 3, 57, 0, 0), (90, .aload_n 0, 1, 0, 0, 0), (91, .bipush 88, 2, 0, 0, 0), (93, .invokevirtual 245, 3, 221, 129, 1522), (96, .iinc 2 1, 3, 0, 0, 0), (99, .goto (-19), 3, 46, 0, 0), (102, .aload_n 0, 1, 0, 0, 0), (103, .bipush 32, 2, 0, 0, 0), (105, .invokevirtual 245, 3, 221, 129, 1522), (108, .aload_n 0, 1, 0, 0, 0), (109, .ldc_w 256, 3, 0, 1, 0), (112, .aload_n 0, 1, 0, 0, 0), (113, .getfield 50, 3, 8, 15, 1188), (116, .iload_n 1, 1, 0, 0, 0), (117, .iaload, 1, 0, 0, 0), (118, .invokevirtual 250, 3, 999, 1, 1527), (121, .invokevirtual 245, 3, 221, 129, 1522), (124, .aload_n 0, 1, 0, 0, 0), (125, .bipush 32, 2, 0, 0, 0), (127, .invokevirtual 245, 3, 221, 129, 1522), (130, .aload_n 0, 1, 0, 0, 0), (131, .getfield 56, 3, 8, 17, 1190), (134, .iload_n 1, 1, 0, 0, 0), (135, .iaload, 1, 0, 0, 0), (136, .aload_n 0, 1, 0, 0, 0), (137, .getfield 44, 3, 8, 13, 1186), (140, .iload_n 1, 1, 0, 0, 0), (141, .iaload, 1, 0, 0, 0), (142, .isub, 1, 0, 0, 0), (143, .bipush 6, 2, 0, 0, 0), (145, .isub, 1, 0, 0, 0), (146, .istore_n 2, 1, 0, 0, 0), (147, .aload_n 0, 1, 0, 0, 0), (148, .iload_n 2, 1, 0, 0, 0), (149, .ifCond .ne 8, 3, 88, 0, 0), (152, .bipush 61, 2, 0, 0, 0), (154, .goto 14, 3, 93, 0, 0), (157, .iload_n 2, 1, 0, 0, 0), (158, .ifCond .le 8, 3, 92, 0, 0), (161, .bipush 43, 2, 0, 0, 0), (163, .goto 5, 3, 93, 0, 0), (166, .bipush 45, 2, 0, 0, 0), (168, .invokevirtual 245, 3, 221, 129, 1522), (171, .iload_n 2, 1, 0, 0, 0), (172, .ifCond .ge 8, 3, 99, 0, 0), (175, .iload_n 2, 1, 0, 0, 0), (176, .ineg, 1, 0, 0, 0), (177, .goto 4, 3, 100, 0, 0), (180, .iload_n 2, 1, 0, 0, 0), (181, .istore_n 3, 1, 0, 0, 0), (182, .iload_n 3, 1, 0, 0, 0), (183, .bipush 9, 2, 0, 0, 0), (185, .if_icmp .le 14, 3, 111, 0, 0), (188, .aload_n 0, 1, 0, 0, 0), (189, .bipush 48, 2, 0, 0, 0), (191, .iload_n 3, 1, 0, 0, 0), (192, .bipush 10, 2, 0, 0, 0), (194, .idiv, 1, 0, 0, 0), (195, .iadd, 1, 0, 0, 0), (196, .invokevirtual 245, 3, 221, 129, 1522), (199, .iload_n 3, 1, 0, 0, 0), (200, .ifCond .le 14, 3, 120, 0, 0), (203, .aload_n 0, 1, 0, 0, 0), (204, .bipush 48, 2, 0, 0, 0), (206, .iload_n 3, 1, 0, 0, 0), (207, .bipush 10, 2, 0, 0, 0), (209, .irem, 1, 0, 0, 0), (210, .iadd, 1, 0, 0, 0), (211, .invokevirtual 245, 3, 221, 129, 1522), (214, .aload_n 0, 1, 0, 0, 0), (215, .getfield 242, 3, 8, 22, 1195), (218, .ireturn, 1, 0, 0, 0)]
def cd_223 : List aE := [(0, .iload_n 1, 1, 0, 0, 0), (1, .iconst 0, 1, 0, 0, 0), (2, .aload_n 0, 1, 0, 0, 0), (3, .getfield 242, 3, 8, 22, 1195), (6, .iconst 1, 1, 0, 0, 0), (7, .isub, 1, 0, 0, 0), (8, .invokestatic 88, 3, 159, 3, 1281), (11, .ifCond .eq 12, 3, 13, 0, 0), (14, .aload_n 0, 1, 0, 0, 0), (15, .getfield 68, 3, 8, 21, 1194), (18, .iload_n 1, 1, 0, 0, 0), (19, .iaload, 1, 0, 0, 0), (20, .goto 4, 3, 14, 0, 0), (23, .iconst (-1), 1, 0, 0, 0), (24, .ireturn, 1, 0, 0, 0)]
def cd_224 : List aE := [(0, .iconst 0, 1, 0, 0, 0), (1, .istore_n 2, 1, 0, 0, 0), (2, .iload_n 1, 1, 0, 0, 0), (3, .tableswitch 104 0 3 #[29, 34, 39, 72], 29, 0, 0, 0), (32, .aload_n 0, 1, 0, 0, 0), (33, .getfield 83, 3, 8, 0, 1173), (36, .ireturn, 1, 0, 0, 0), (37, .aload_n 0, 1, 0, 0, 0), (38, .getfield 103, 3, 8, 1, 1174), (41, .ireturn, 1, 0, 0, 0), (42, .iconst 0, 1, 0, 0, 0), (43, .istore_n 3, 1, 0, 0, 0), (44, .iload_n 3, 1, 0, 0, 0), (45, .bipush 10, 2, 0, 0, 0), (47, .if_icmp .ge 26, 3, 28, 0, 0), (50, .iload_n 2, 1, 0, 0, 0), (51, .aload_n 0, 1, 0, 0, 0), (52, .getfield 17, 3, 8, 4, 1177), (55, .iload_n 3, 1, 0, 0, 0), (56, .iaload, 1, 0, 0, 0), (57, .ifCond .eq 7, 3, 23, 0, 0), (60, .iconst 1, 1, 0, 0, 0), (61, .goto 4, 3, 24, 0, 0), (64, .iconst 0, 1, 0, 0, 0), (65, .iadd, 1, 0, 0, 0), (66, .istore_n 2, 1, 0, 0, 0), (67, .iinc 3 1, 3, 0, 0, 0), (70, .goto (-26), 3, 12, 0, 0), (73, .iload_n 2, 1, 0, 0, 0), (74, .ireturn, 1, 0, 0, 0), (75, .iconst 0, 1, 0, 0, 0), (76, .istore_n 3, 1, 0, 0, 0), (77, .iload_n 3, 1, 0, 0, 0), (78, .bipush 40, 2, 0, 0, 0), (80, .if_icmp .ge 25, 3, 47, 0, 0), (83, .iload_n 2, 1, 0, 0, 0), (84, .aload_n 0, 1, 0, 0, 0), (85, .iload_n 3, 1, 0, 0, 0), (86, .invokevirtual 225, 3, 216, 129, 1495), (89, .ifCond .eq 7, 3, 42, 0, 0), (92, .iconst 1, 1, 0, 0, 0), (93, .goto 4, 3, 43, 0, 0), (96, .iconst 0, 1, 0, 0, 0), (97, .iadd, 1, 0, 0, 0), (98, .istore_n 2, 1, 0, 0, 0), (99, .iinc 3 1, 3, 0, 0, 0), (102, .goto (-25), 3, 32, 0, 0), (105, .iload_n 2, 1, 0, 0, 0), (106, .ireturn, 1, 0, 0, 0), (107, .iconst (-1), 1, 0, 0, 0), (108, .ireturn, 1, 0, 0, 0)]
def cd_225 : List aE := [(0, .new 7, 3, 7, 0, 73), (3, .dup, 1, 0, 0, 0), (4, .invokespecial 9, 3, 107, 0, 75), (7, .astore_n 1, 1, 0, 0, 0), (8, .new 10, 3, 8, 0, 1167), (11, .dup, 1, 0, 0, 0), (12, .invokespecial 12, 3, 158, 0, 1169), (15, .astore_n 2, 1, 0, 0, 0), (16, .iconst 0, 1, 0, 0, 0), (17, .istore_n 3, 1, 0, 0, 0), (18, .iload_n 3, 1, 0, 0, 0), (19, .aload_n 0, 1, 0, 0, 0), (20, .arraylength, 1, 0, 0, 0), (21, .bipush 6, 2, 0, 0, 0), (23, .isub, 1, 0, 0, 0), (24, .if_icmp .gt 1156, 3, 842, 0, 0), (27, .aload_n 0, 1, 0, 0, 0), (28, .iload_n 3, 1, 0, 0, 0), (29, .iaload, 1, 0, 0, 0), (30, .bipush 31, 2, 0, 0, 0), (32, .iand, 1, 0, 0, 0), (33, .tableswitch 1141 0 29 #[135, 158, 201, 234, 267, 320, 353, 386, 419, 442, 465, 498, 531, 564, 597, 640, 683, 706, 729, 762, 805, 884, 917, 950, 973, 996, 1019, 1072, 1095, 1118], 135, 0, 0, 0), (168, .aload_n 1, 1, 0, 0, 0), (169, .aload_n 0, 1, 0, 0, 0), (170, .iload_n 3, 1, 0, 0, 0), (171, .iconst 1, 1, 0, 0, 0), (172, .iadd, 1, 0, 0, 0), (173, .iaload, 1, 0, 0, 0), (174, .invokevirtual 13, 3, 108, 113, 177), (177, .aload_n 2, 1, 0, 0, 0), (178, .aload_n 0, 1, 0, 0, 0), (179, .iload_n 3, 1, 0, 0, 0), (180, .iconst 1, 1, 0, 0, 0), (181, .iadd, 1, 0, 0, 0), (182, .iaload, 1, 0, 0, 0), (183, .invokevirtual 17, 3, 161, 129, 1268), (186, .if_icmp .eq 988, 3, 840, 0, 0), (189, .iconst 0, 1, 0, 0, 0), (190, .ireturn, 1, 0, 0, 0), (191, .aload_n 1, 1, 0, 0, 0), (192, .aload_n 0, 1, 0, 0, 0), (193, .iload_n 3, 1, 0, 0, 0), (194, .iconst 1, 1, 0, 0, 0), (195, .iadd, 1, 0, 0, 0), (196, .iaload, 1, 0, 0, 0), (197, .aload_n 0, 1, 0, 0, 0), (198, .iload_n 3, 1, 0, 0, 0), (199, .iconst 2, 1, 0, 0, 0), (200, .iadd, 1, 0, 0, 0), (201, .iaload, 1, 0, 0, 0), (202, .aload_n 0, 1, 0, 0, 0), (203, .iload_n 3, 1, 0, 0, 0), (204, .iconst 3, 1, 0, 0, 0), (205, .iadd, 1, 0, 0, 0), (206, .iaload, 1, 0, 0, 0), (207, .invokevirtual 18, 3, 109, 115, 212), (210, .aload_n 2, 1, 0, 0, 0), (211, .aload_n 0, 1, 0, 0, 0), (212, .iload_n 3, 1, 0, 0, 0), (213, .iconst 1, 1, 0, 0, 0), (214, .iadd, 1, 0, 0, 0), (215, .iaload, 1, 0, 0, 0), (216, .aload_n 0, 1, 0, 0, 0), (217, .iload_n 3, 1, 0, 0, 0), (218, .iconst 2, 1, 0, 0, 0), (219, .iadd, 1, 0, 0, 0), (220, .iaload, 1, 0, 0, 0), (221, .aload_n 0, 1, 0, 0, 0), (222, .iload_n 3, 1, 0, 0, 0), (223, .iconst 3, 1, 0, 0, 0), (224, .iadd, 1, 0, 0, 0), (225, .iaload, 1, 0, 0, 0), (226, .invokevirtual 22, 3, 164, 131, 1273), (229, .if_icmp .eq 945, 3, 840, 0, 0), (232, .iconst 0, 1, 0, 0, 0), (233, .ireturn, 1, 0, 0, 0), (234, .aload_n 1, 1, 0, 0, 0), (235, .aload_n 0, 1, 0, 0, 0), (236, .iload_n 3, 1, 0, 0, 0), (237, .iconst 1, 1, 0, 0, 0), (238, .iadd, 1, 0, 0, 0), (239, .iaload, 1, 0, 0, 0), (240, .aload_n 0, 1, 0, 0, 0), (241, .iload_n 3, 1, 0, 0, 0), (242, .iconst 2, 1, 0, 0, 0), (243, .iadd, 1, 0, 0, 0), (244, .iaload, 1, 0, 0, 0), (245, .invokevirtual 23, 3, 110, 114, 235), (248, .aload_n 2, 1, 0, 0, 0), (249, .aload_n 0, 1, 0, 0, 0), (250, .iload_n 3, 1, 0, 0, 0), (251, .iconst 1, 1, 0, 0, 0), (252, .iadd, 1, 0, 0, 0), (253, .iaload, 1, 0, 0, 0), (254, .aload_n 0, 1, 0, 0, 0), (255, .iload_n 3, 1, 0, 0, 0), (256, .iconst 2, 1, 0, 0, 0), (257, .iadd, 1, 0, 0, 0), (258, .iaload, 1, 0, 0, 0), (259, .invokevirtual 27, 3, 165, 130, 1287), (262, .if_icmp .eq 912, 3, 840, 0, 0), (265, .iconst 0, 1, 0, 0, 0), (266, .ireturn, 1, 0, 0, 0), (267, .aload_n 1, 1, 0, 0, 0), (268, .aload_n 0, 1, 0, 0, 0), (269, .iload_n 3, 1, 0, 0, 0), (270, .iconst 1, 1, 0, 0, 0), (271, .iadd, 1, 0, 0, 0), (272, .iaload, 1, 0, 0, 0), (273, .aload_n 0, 1, 0, 0, 0), (274, .iload_n 3, 1, 0, 0, 0), (275, .iconst 2, 1, 0, 0, 0), (276, .iadd, 1, 0, 0, 0), (277, .iaload, 1, 0, 0, 0), (278, .invokevirtual 28, 3, 111, 114, 239), (281, .aload_n 2, 1, 0, 0, 0), (282, .aload_n 0, 1, 0, 0, 0), (283, .iload_n 3, 1, 0, 0, 0), (284, .iconst 1, 1, 0, 0, 0), (285, .iadd, 1, 0, 0, 0), (286, .iaload, 1, 0, 0, 0), (287, .aload_n 0, 1, 0, 0, 0), (288, .iload_n 3, 1, 0, 0, 0), (289, .iconst 2, 1, 0, 0, 0), (290, .iadd, 1, 0, 0, 0), (291, .iaload, 1, 0, 0, 0), (292, .invokevirtual 31, 3, 171, 130, 1291), (295, .if_icmp .eq 879, 3, 840, 0, 0), (298, .iconst 0, 1, 0, 0, 0), (299, .ireturn, 1, 0, 0, 0), (300, .aload_n 1, 1, 0, 0, 0), (301, .aload_n 0, 1, 0, 0, 0), (302, .iload_n 3, 1, 0, 0, 0), (303, .iconst 1, 1, 0, 0, 0), (304, .iadd, 1, 0, 0, 0), (305, .iaload, 1, 0, 0, 0), (306, .aload_n 0, 1, 0, 0, 0), (307, .iload_n 3, 1, 0, 0, 0), (308, .iconst 2, 1, 0, 0, 0), (309, .iadd, 1, 0, 0, 0), (310, .iaload, 1, 0, 0, 0), (311, .aload_n 0, 1, 0, 0, 0), (312, .iload_n 3, 1, 0, 0, 0), (313, .iconst 3, 1, 0, 0, 0), (314, .iadd, 1, 0, 0, 0), (315, .iaload, 1, 0, 0, 0), (316, .aload_n 0, 1, 0, 0, 0), (317, .iload_n 3, 1, 0, 0, 0), (318, .iconst 4, 1, 0, 0, 0), (319, .iadd, 1, 0, 0, 0), (320, .iaload, 1, 0, 0, 0), (321, .invokevirtual 32, 3, 112, 116, 275), (324, .aload_n 2, 1, 0, 0, 0), (325, .aload_n 0, 1, 0, 0, 0), (326, .iload_n 3, 1, 0, 0, 0), (327, .iconst 1, 1, 0, 0, 0), (328, .iadd, 1, 0, 0, 0), (329, .iaload, 1, 0, 0, 0), (330, .aload_n 0, 1, 0, 0, 0), (331, .iload_n 3, 1, 0, 0, 0), (332, .iconst 2, 1, 0, 0, 0), (333, .iadd, 1, 0, 0, 0), (334, .iaload, 1, 0, 0, 0), (335, .aload_n 0, 1, 0, 0, 0), (336, .iload_n 3, 1, 0, 0, 0), (337, .iconst 3, 1, 0, 0, 0), (338, .iadd, 1, 0, 0, 0), (339, .iaload, 1, 0, 0, 0), (340, .aload_n 0, 1, 0, 0, 0), (341, .iload_n 3, 1, 0, 0, 0), (342, .iconst 4, 1, 0, 0, 0), (343, .iadd, 1, 0, 0, 0), (344, .iaload, 1, 0, 0, 0), (345, .invokevirtual 36, 3, 174, 132, 1309), (348, .if_icmp .eq 826, 3, 840, 0, 0), (351, .iconst 0, 1, 0, 0, 0), (352, .ireturn, 1, 0, 0, 0), (353, .aload_n 1, 1, 0, 0, 0), (354, .aload_n 0, 1, 0, 0, 0), (355, .iload_n 3, 1, 0, 0, 0), (356, .iconst 1, 1, 0, 0, 0), (357, .iadd, 1, 0, 0, 0), (358, .iaload, 1, 0, 0, 0), (359, .aload_n 0, 1, 0, 0, 0), (360, .iload_n 3, 1, 0, 0, 0), (361, .iconst 2, 1, 0, 0, 0), (362, .iadd, 1, 0, 0, 0), (363, .iaload, 1, 0, 0, 0), (364, .invokevirtual 37, 3, 113, 114, 381), (367, .aload_n 2, 1, 0, 0, 0), (368, .aload_n 0, 1, 0, 0, 0), (369, .iload_n 3, 1, 0, 0, 0), (370, .iconst 1, 1, 0, 0, 0), (371, .iadd, 1, 0, 0, 0), (372, .iaload, 1, 0, 0, 0), (373, .aload_n 0, 1, 0, 0, 0), (374, .iload_n 3, 1, 0, 0, 0), (375, .iconst 2, 1, 0, 0, 0), (376, .iadd, 1, 0, 0, 0), (377, .iaload, 1, 0, 0, 0), (378, .invokevirtual 40, 3, 185, 130, 1321), (381, .if_icmp .eq 793, 3, 840, 0, 0), (384, .iconst 0, 1, 0, 0, 0), (385, .ireturn, 1, 0, 0, 0), (386, .aload_n 1, 1, 0, 0, 0), (387, .aload_n 0, 1, 0, 0, 0), (388, .iload_n 3, 1, 0, 0, 0), (389, .iconst 1, 1, 0, 0, 0), (390, .iadd, 1, 0, 0, 0), (391, .iaload, 1, 0, 0, 0), (392, .aload_n 0, 1, 0, 0, 0), (393, .iload_n 3, 1, 0, 0, 0), (394, .iconst 2, 1, 0, 0, 0), (395, .iadd, 1, 0, 0, 0), (396, .iaload, 1, 0, 0, 0), (397, .invokevirtual 41, 3, 114, 114, 554), (400, .aload_n 2, 1, 0, 0, 0), (401, .aload_n 0, 1, 0, 0, 0), (402, .iload_n 3, 1, 0, 0, 0), (403, .iconst 1, 1, 0, 0, 0), (404, .iadd, 1, 0, 0, 0), (405, .iaload, 1, 0, 0, 0), (406, .aload_n 0, 1, 0, 0, 0), (407, .iload_n 3, 1, 0, 0, 0), (408, .iconst 2, 1, 0, 0, 0), (409, .iadd, 1, 0, 0, 0), (410, .iaload, 1, 0, 0, 0), (411, .invokevirtual 44, 3, 193, 130, 1380), (414, .if_icmp .eq 760, 3, 840, 0, 0), (417, .iconst 0, 1, 0, 0, 0), (418, .ireturn, 1, 0, 0, 0), (419, .aload_n 1, 1, 0, 0, 0), (420, .aload_n 0, 1, 0, 0, 0), (421, .iload_n 3, 1, 0, 0, 0), (422, .iconst 1, 1, 0, 0, 0), (423, .iadd, 1, 0, 0, 0), (424, .iaload, 1, 0, 0, 0), (425, .aload_n 0, 1, 0, 0, 0), (426, .iload_n 3, 1, 0, 0, 0), (427, .iconst 2, 1, 0, 0, 0), (428, .iadd, 1, 0, 0, 0), (429, .iaload, 1, 0, 0, 0), (430, .invokevirtual 45, 3, 115, 114, 641), (433, .aload_n 2, 1, 0, 0, 0), (434, .aload_n 0, 1, 0, 0, 0), (435, .iload_n 3, 1, 0, 0, 0), (436, .iconst 1, 1, 0, 0, 0), (437, .iadd, 1, 0, 0, 0), (438, .iaload, 1, 0, 0, 0), (439, .aload_n 0, 1, 0, 0, 0), (440, .iload_n 3, 1, 0, 0, 0), (441, .iconst 2, 1, 0, 0, 0), (442, .iadd, 1, 0, 0, 0), (443, .iaload, 1, 0, 0, 0), (444, .invokevirtual 49, 3, 194, 130, 1411), (447, .if_icmp .eq 727, 3, 840, 0, 0), (450, .iconst 0, 1, 0, 0, 0), (451, .ireturn, 1, 0, 0, 0), (452, .aload_n 1, 1, 0, 0, 0), (453, .aload_n 0, 1, 0, 0, 0), (454, .iload_n 3, 1, 0, 0, 0), (455, .iconst 1, 1, 0, 0, 0), (456, .iadd, 1, 0, 0, 0), (457, .iaload, 1, 0, 0, 0), (458, .invokevirtual 50, 3, 116, 113, 709), (461, .aload_n 2, 1, 0, 0, 0), (462, .aload_n 0, 1, 0, 0, 0), (463, .iload_n 3, 1, 0, 0, 0), (464, .iconst 1, 1, 0, 0, 0), (465, .iadd, 1, 0, 0, 0), (466, .iaload, 1, 0, 0, 0), (467, .invokevirtual 54, 3, 195, 129, 1431), (470, .if_icmp .eq 704, 3, 840, 0, 0), (473, .iconst 0, 1, 0, 0, 0), (474, .ireturn, 1, 0, 0, 0), (475, .aload_n 1, 1, 0, 0, 0), (476, .aload_n 0, 1, 0, 0, 0), (477, .iload_n 3, 1, 0, 0, 0), (478, .iconst 1, 1, 0, 0, 0), (479, .iadd, 1, 0, 0, 0), (480, .iaload, 1, 0, 0, 0), (481, .invokevirtual 55, 3, 117, 113, 726), (484, .aload_n 2, 1, 0, 0, 0), (485, .aload_n 0, 1, 0, 0, 0), (486, .iload_n 3, 1, 0, 0, 0), (487, .iconst 1, 1, 0, 0, 0), (488, .iadd, 1, 0, 0, 0), (489, .iaload, 1, 0, 0, 0), (490, .invokevirtual 58, 3, 196, 129, 1435), (493, .if_icmp .eq 681, 3, 840, 0, 0), (496, .iconst 0, 1, 0, 0, 0), (497, .ireturn, 1, 0, 0, 0), (498, .aload_n 1, 1, 0, 0, 0), (499, .aload_n 0, 1, 0, 0, 0), (500, .iload_n 3, 1, 0, 0, 0), (501, .iconst 1, 1, 0, 0, 0), (502, .iadd, 1, 0, 0, 0), (503, .iaload, 1, 0, 0, 0), (504, .aload_n 0, 1, 0, 0, 0), (505, .iload_n 3, 1, 0, 0, 0), (506, .iconst 2, 1, 0, 0, 0), (507, .iadd, 1, 0, 0, 0), (508, .iaload, 1, 0, 0, 0), (509, .invokevirtual 59, 3, 118, 114, 730), (512, .aload_n 2, 1, 0, 0, 0), (513, .aload_n 0, 1, 0, 0, 0), (514, .iload_n 3, 1, 0, 0, 0), (515, .iconst 1, 1, 0, 0, 0), (516, .iadd, 1, 0, 0, 0), (517, .iaload, 1, 0, 0, 0), (518, .aload_n 0, 1, 0, 0, 0), (519, .iload_n 3, 1, 0, 0, 0), (520, .iconst 2, 1, 0, 0, 0), (521, .iadd, 1, 0, 0, 0), (522, .iaload, 1, 0, 0, 0), (523, .invokevirtual 62, 3, 198, 130, 1439), (526, .if_icmp .eq 648, 3, 840, 0, 0), (529, .iconst 0, 1, 0, 0, 0), (530, .ireturn, 1, 0, 0, 0), (531, .aload_n 1, 1, 0, 0, 0), (532, .aload_n 0, 1, 0, 0, 0), (533, .iload_n 3, 1, 0, 0, 0), (534, .iconst 1, 1, 0, 0, 0), (535, .iadd, 1, 0, 0, 0), (536, .iaload, 1, 0, 0, 0), (537, .aload_n 0, 1, 0, 0, 0), (538, .iload_n 3, 1, 0, 0, 0), (539, .iconst 2, 1, 0, 0, 0), (540, .iadd, 1, 0, 0, 0), (541, .iaload, 1, 0, 0, 0), (542, .invokevirtual 63, 3, 119, 114, 747), (545, .aload_n 2, 1, 0, 0, 0), (546, .aload_n 0, 1, 0, 0, 0), (547, .iload_n 3, 1, 0, 0, 0), (548, .iconst 1, 1, 0, 0, 0), (549, .iadd, 1, 0, 0, 0), (550, .iaload, 1, 0, 0, 0), (551, .aload_n 0, 1, 0, 0, 0), (552, .iload_n 3, 1, 0, 0, 0), (553, .iconst 2, 1, 0, 0, 0), (554, .iadd, 1, 0, 0, 0), (555, .iaload, 1, 0, 0, 0), (556, .invokevirtual 66, 3, 199, 130, 1443), (559, .if_icmp .eq 615, 3, 840, 0, 0), (562, .iconst 0, 1, 0, 0, 0), (563, .ireturn, 1, 0, 0, 0), (564, .aload_n 1, 1, 0, 0, 0), (565, .aload_n 0, 1, 0, 0, 0), (566, .iload_n 3, 1, 0, 0, 0), (567, .iconst 1, 1, 0, 0, 0), (568, .iadd, 1, 0, 0, 0), (569, .iaload, 1, 0, 0, 0), (570, .aload_n 0, 1, 0, 0, 0), (571, .iload_n 3, 1, 0, 0, 0), (572, .iconst 2, 1, 0, 0, 0), (573, .iadd, 1, 0, 0, 0), (574, .iaload, 1, 0, 0, 0), (575, .invokevirtual 67, 3, 120, 114, 756), (578, .aload_n 2, 1, 0, 0, 0), (579, .aload_n 0, 1, 0, 0, 0), (580, .iload_n 3, 1, 0, 0, 0), (581, .iconst 1, 1, 0, 0, 0), (582, .iadd, 1, 0, 0, 0), (583, .iaload, 1, 0, 0, 0), (584, .aload_n 0, 1, 0, 0, 0), (585, .iload_n 3, 1, 0, 0, 0), (586, .iconst 2, 1, 0, 0, 0), (587, .iadd, 1, 0, 0, 0), (588, .iaload, 1, 0, 0, 0), (589, .invokevirtual 70, 3, 200, 130, 1447), (592, .if_icmp .eq 582, 3, 840, 0, 0), (595, .iconst 0, 1, 0, 0, 0), (596, .ireturn, 1, 0, 0, 0), (597, .aload_n 1, 1, 0, 0, 0), (598, .aload_n 0, 1, 0, 0, 0), (599, .iload_n 3, 1, 0, 0, 0), (600, .iconst 1, 1, 0, 0, 0), (601, .iadd, 1, 0, 0, 0), (602, .iaload, 1, 0, 0, 0), (603, .aload_n 0, 1, 0, 0, 0), (604, .iload_n 3, 1, 0, 0, 0), (605, .iconst 2, 1, 0, 0, 0), (606, .iadd, 1, 0, 0, 0), (607, .iaload, 1, 0, 0, 0), (608, .invokevirtual 71, 3, 121, 114, 765), (611, .aload_n 2, 1, 0, 0, 0), (612, .aload_n 0, 1, 0, 0, 0), (613, .iload_n 3, 1, 0, 0, 0), (614, .iconst 1, 1, 0, 0, 0), (615, .iadd, 1, 0, 0, 0), (616, .iaload, 1, 0, 0, 0), (617, .aload_n 0, 1, 0, 0, 0), (618, .iload_n 3, 1, 0, 0, 0), (619, .iconst 2, 1, 0, 0, 0), (620, .iadd, 1, 0, 0, 0), (621, .iaload, 1, 0, 0, 0), (622, .invokevirtual 74, 3, 201, 130, 1451), (625, .if_icmp .eq 549, 3, 840, 0, 0), (628, .iconst 0, 1, 0, 0, 0), (629, .ireturn, 1, 0, 0, 0), (630, .aload_n 1, 1, 0, 0, 0), (631, .aload_n 0, 1, 0, 0, 0), (632, .iload_n 3, 1, 0, 0, 0), (633, .iconst 1, 1, 0, 0, 0), (634, .iadd, 1, 0, 0, 0), (635, .iaload, 1, 0, 0, 0), (636, .aload_n 0, 1, 0, 0, 0), (637, .iload_n 3, 1, 0, 0, 0), (638, .iconst 2, 1, 0, 0, 0), (639, .iadd, 1, 0, 0, 0), (640, .iaload, 1, 0, 0, 0), (641, .aload_n 0, 1, 0, 0, 0), (642, .iload_n 3, 1, 0, 0, 0), (643, .iconst 3, 1, 0, 0, 0), (644, .iadd, 1, 0, 0, 0), (645, .iaload, 1, 0, 0, 0), (646, .invokevirtual 75, 3, 122, 115, 769), (649, .aload_n 2, 1, 0, 0, 0), (650, .aload_n 0, 1, 0, 0, 0), (651, .iload_n 3, 1, 0, 0, 0), (652, .iconst 1, 1, 0, 0, 0), (653, .iadd, 1, 0, 0, 0), (654, .iaload, 1, 0, 0, 0), (655, .aload_n 0, 1, 0, 0, 0), (656, .iload_n 3, 1, 0, 0, 0), (657, .iconst 2, 1, 0, 0, 0), (658, .iadd, 1, 0, 0, 0), (659, .iaload, 1, 0, 0, 0), (660, .aload_n 0, 1, 0, 0, 0), (661, .iload_n 3, 1, 0, 0, 0), (662, .iconst 3, 1, 0, 0, 0), (663, .iadd, 1, 0, 0, 0), (664, .iaload, 1, 0, 0, 0), (665, .invokevirtual 78, 3, 202, 131, 1455), (668, .if_icmp .eq 506, 3, 840, 0, 0), (671, .iconst 0, 1, 0, 0, 0), (672, .ireturn, 1, 0, 0, 0), (673, .aload_n 1, 1, 0, 0, 0), (674, .aload_n 0, 1, 0, 0, 0), (675, .iload_n 3, 1, 0, 0, 0), (676, .iconst 1, 1, 0, 0, 0), (677, .iadd, 1, 0, 0, 0), (678, .iaload, 1, 0, 0, 0), (679, .aload_n 0, 1, 0, 0, 0), (680, .iload_n 3, 1, 0, 0, 0), (681, .iconst 2, 1, 0, 0, 0), (682, .iadd, 1, 0, 0, 0), (683, .iaload, 1, 0, 0, 0), (684, .aload_n 0, 1, 0, 0, 0), (685, .iload_n 3, 1, 0, 0, 0), (686, .iconst 3, 1, 0, 0, 0), (687, .iadd, 1, 0, 0, 0), (688, .iaload, 1, 0, 0, 0), (689, .invokevirtual 79, 3, 123, 115, 783), (692, .aload_n 2, 1, 0, 0, 0), (693, .aload_n 0, 1, 0, 0, 0), (694, .iload_n 3, 1, 0, 0, 0), (695, .iconst 1, 1, 0, 0, 0), (696, .iadd, 1, 0, 0, 0), (697, .iaload, 1, 0, 0, 0), (698, .aload_n 0, 1, 0, 0, 0), (699, .iload_n 3, 1, 0, 0, 0), (700, .iconst 2, 1, 0, 0, 0), (701, .iadd, 1, 0, 0, 0), (702, .iaload, 1, 0, 0, 0), (703, .aload_n 0, 1, 0, 0, 0), (704, .iload_n 3, 1, 0, 0, 0), (705, .iconst 3, 1, 0, 0, 0), (706, .iadd, 1, 0, 0, 0), (707, .iaload, 1, 0, 0, 0), (708, .invokevirtual 82, 3, 203, 131, 1459), (711, .if_icmp .eq 463, 3, 840, 0, 0), (714, .iconst 0, 1, 0, 0, 0), (715, .ireturn, 1, 0, 0, 0), (716, .aload_n 1, 1, 0, 0, 0), (717, .aload_n 0, 1, 0, 0, 0), (718, .iload_n 3, 1, 0, 0, 0), (719, .iconst 1, 1, 0, 0, 0), (720, .iadd, 1, 0, 0, 0), (721, .iaload, 1, 0, 0, 0), (722, .invokevirtual 83, 3, 124, 113, 795), (725, .aload_n 2, 1, 0, 0, 0), (726, .aload_n 0, 1, 0, 0, 0), (727, .iload_n 3, 1, 0, 0, 0), (728, .iconst 1, 1, 0, 0, 0), (729, .iadd, 1, 0, 0, 0), (730, .iaload, 1, 0, 0, 0), (731, .invokevirtual 86, 3, 207, 129, 1463), (734, .if_icmp .eq 440, 3, 840, 0, 0), (737, .iconst 0, 1, 0, 0, 0), (738, .ireturn, 1, 0, 0, 0), (739, .aload_n 1, 1, 0, 0, 0), (740, .aload_n 0, 1, 0, 0, 0), (741, .iload_n 3, 1, 0, 0, 0), (742, .iconst 1, 1, 0, 0, 0), (743, .iadd, 1, 0, 0, 0), (744, .iaload, 1, 0, 0, 0), (745, .invokevirtual 87, 3, 125, 113, 799), (748, .aload_n 2, 1, 0, 0, 0), (749, .aload_n 0, 1, 0, 0, 0), (750, .iload_n 3, 1, 0, 0, 0), (751, .iconst 1, 1, 0, 0, 0), (752, .iadd, 1, 0, 0, 0), (753, .iaload, 1, 0, 0, 0), (754, .invokevirtual 90, 3, 208, 129, 1464), (757, .if_icmp .eq 417, 3, 840, 0, 0), (760, .iconst 0, 1, 0, 0, 0), (761, .ireturn, 1, 0, 0, 0), (762, .aload_n 1, 1, 0, 0, 0), (763, .aload_n 0, 1, 0, 0, 0), (764, .iload_n 3, 1, 0, 0, 0), (765, .iconst 1, 1, 0, 0, 0), (766, .iadd, 1, 0, 0, 0), (767, .iaload, 1, 0, 0, 0), (768, .aload_n 0, 1, 0, 0, 0), (769, .iload_n 3, 1, 0, 0, 0), (770, .iconst 2, 1, 0, 0, 0), (771, .iadd, 1, 0, 0, 0), (772, .iaload, 1, 0, 0, 0), (773, .invokevirtual 91, 3, 126, 114, 810), (776, .aload_n 2, 1, 0, 0, 0), (777, .aload_n 0, 1, 0, 0, 0), (778, .iload_n 3, 1, 0, 0, 0), (779, .iconst 1, 1, 0, 0, 0), (780, .iadd, 1, 0, 0, 0), (781, .iaload, 1, 0, 0, 0), (782, .aload_n 0, 1, 0, 0, 0), (783, .iload_n 3, 1, 0, 0, 0), (784, .iconst 2, 1, 0, 0, 0), (785, .iadd, 1, 0, 0, 0), (786, .iaload, 1, 0, 0, 0), (787, .invokevirtual 94, 3, 213, 130, 1475), (790, .if_icmp .eq 384, 3, 840, 0, 0), (793, .iconst 0, 1, 0, 0, 0), (794, .ireturn, 1, 0, 0, 0), (795, .aload_n 1, 1, 0, 0, 0), (796, .aload_n 0, 1, 0, 0, 0), (797, .iload_n 3, 1, 0, 0, 0), (798, .iconst 1, 1, 0, 0, 0), (799, .iadd, 1, 0, 0, 0), (800, .iaload, 1, 0, 0, 0), (801, .aload_n 0, 1, 0, 0, 0), (802, .iload_n 3, 1, 0, 0, 0), (803, .iconst 2, 1, 0, 0, 0), (804, .iadd, 1, 0, 0, 0), (805, .iaload, 1, 0, 0, 0), (806, .aload_n 0, 1, 0, 0, 0), (807, .iload_n 3, 1, 0, 0, 0), (808, .iconst 3, 1, 0, 0, 0), (809, .iadd, 1, 0, 0, 0), (810, .iaload, 1, 0, 0, 0), (811, .invokevirtual 95, 3, 127, 115, 819), (814, .aload_n 2, 1, 0, 0, 0), (815, .aload_n 0, 1, 0, 0, 0), (816, .iload_n 3, 1, 0, 0, 0), (817, .iconst 1, 1, 0, 0, 0), (818, .iadd, 1, 0, 0, 0), (819, .iaload, 1, 0, 0, 0), (820, .aload_n 0, 1, 0, 0, 0), (821, .iload_n 3, 1, 0, 0, 0), (822, .iconst 2, 1, 0, 0, 0), (823, .iadd, 1, 0, 0, 0), (824, .iaload, 1, 0, 0, 0), (825, .aload_n 0, 1, 0, 0, 0), (826, .iload_n 3, 1, 0, 0, 0), (827, .iconst 3, 1, 0, 0, 0), (828, .iadd, 1, 0, 0, 0), (829, .iaload, 1, 0, 0, 0), (830, .invokevirtual 98, 3, 214, 131, 1483), (833, .if_icmp .eq 341, 3, 840, 0, 0), (836, .iconst 0, 1, 0, 0, 0), (837, .ireturn, 1, 0, 0, 0), (838, .aload_n 1, 1, 0, 0, 0), (839, .aload_n 0, 1, 0, 0, 0), (840, .iload_n 3, 1, 0, 0, 0), (841, .iconst 1, 1, 0, 0, 0), (842, .iadd, 1, 0, 0, 0), (843, .iaload, 1, 0, 0, 0), (844, .aload_n 0, 1, 0, 0, 0), (845, .iload_n 3, 1, 0, 0, 0), (846, .iconst 2, 1, 0, 0, 0), (847, .iadd, 1, 0, 0, 0), (848, .iaload, 1, 0, 0, 0), (849, .aload_n 0, 1, 0, 0, 0), (850, .iload_n 3, 1, 0, 0, 0), (851, .iconst 3, 1, 0, 0, 0), (852, .iadd, 1, 0, 0, 0), (853, .iaload, 1, 0, 0, 0), (854, .aload_n 0, 1, 0, 0, 0), (855, .iload_n 3, 1, 0, 0, 0), (856, .iconst 4, 1, 0, 0, 0), (857, .iadd, 1, 0, 0, 0), (858, .iaload, 1, 0, 0, 0), (859, .ifCond .eq 7, 3, 596, 0, 0), (862, .iconst 1, 1, 0, 0, 0), (863, .goto 4, 3, 597, 0, 0), (866, .iconst 0, 1, 0, 0, 0), (867, .aload_n 0, 1, 0, 0, 0), (868, .iload_n 3, 1, 0, 0, 0), (869, .iconst 5, 1, 0, 0, 0), (870, .iadd, 1, 0, 0, 0), (871, .iaload, 1, 0, 0, 0), (872, .invokevirtual 99, 3, 128, 117, 830), (875, .aload_n 2, 1, 0, 0, 0), (876, .aload_n 0, 1, 0, 0, 0), (877, .iload_n 3, 1, 0, 0, 0), (878, .iconst 1, 1, 0, 0, 0), (879, .iadd, 1, 0, 0, 0), (880, .iaload, 1, 0, 0, 0), (881, .aload_n 0, 1, 0, 0, 0), (882, .iload_n 3, 1, 0, 0, 0), (883, .iconst 2, 1, 0, 0, 0), (884, .iadd, 1, 0, 0, 0), (885, .iaload, 1, 0, 0, 0), (886, .aload_n 0, 1, 0, 0, 0), (887, .iload_n 3, 1, 0, 0, 0), (888, .iconst 3, 1, 0, 0, 0), (889, .iadd, 1, 0, 0, 0), (890, .iaload, 1, 0, 0, 0), (891, .aload_n 0, 1, 0, 0, 0), (892, .iload_n 3, 1, 0, 0, 0), (893, .iconst 4, 1, 0, 0, 0), (894, .iadd, 1, 0, 0, 0), (895, .iaload, 1, 0, 0, 0), (896, .ifCond .eq 7, 3, 627, 0, 0), (899, .iconst 1, 1, 0, 0, 0), (900, .goto 4, 3, 628, 0, 0), (903, .iconst 0, 1, 0, 0, 0), (904, .aload_n 0, 1, 0, 0, 0), (905, .iload_n 3, 1, 0, 0, 0), (906, .iconst 5, 1, 0, 0, 0), (907, .iadd, 1, 0, 0, 0), (908, .iaload, 1, 0, 0, 0), (909, .invokevirtual 103, 3, 209, 133, 1468), (912, .if_icmp .eq 262, 3, 840, 0, 0), (915, .iconst 0, 1, 0, 0, 0), (916, .ireturn, 1, 0, 0, 0), (917, .aload_n 1, 1, 0, 0, 0), (918, .aload_n 0, 1, 0, 0, 0), (919, .iload_n 3, 1, 0, 0, 0), (920, .iconst 1, 1, 0, 0, 0), (921, .iadd, 1, 0, 0, 0), (922, .iaload, 1, 0, 0, 0), (923, .aload_n 0, 1, 0, 0, 0), (924, .iload_n 3, 1, 0, 0, 0), (925, .iconst 2, 1, 0, 0, 0), (926, .iadd, 1, 0, 0, 0), (927, .iaload, 1, 0, 0, 0), (928, .invokevirtual 104, 3, 129, 114, 835), (931, .aload_n 2, 1, 0, 0, 0), (932, .aload_n 0, 1, 0, 0, 0), (933, .iload_n 3, 1, 0, 0, 0), (934, .iconst 1, 1, 0, 0, 0), (935, .iadd, 1, 0, 0, 0), (936, .iaload, 1, 0, 0, 0), (937, .aload_n 0, 1, 0, 0, 0), (938, .iload_n 3, 1, 0, 0, 0), (939, .iconst 2, 1, 0, 0, 0), (940, .iadd, 1, 0, 0, 0), (941, .iaload, 1, 0, 0, 0), (942, .invokevirtual 107, 3, 211, 130, 1469), (945, .if_icmp .eq 229, 3, 840, 0, 0), (948, .iconst 0, 1, 0, 0, 0), (949, .ireturn, 1, 0, 0, 0), (950, .aload_n 1, 1, 0, 0, 0), (951, .aload_n 0, 1, 0, 0, 0), (952, .iload_n 3, 1, 0, 0, 0), (953, .iconst 1, 1, 0, 0, 0), (954, .iadd, 1, 0, 0, 0), (955, .iaload, 1, 0, 0, 0), (956, .aload_n 0, 1, 0, 0, 0), (957, .iload_n 3, 1, 0, 0, 0), (958, .iconst 2, 1, 0, 0, 0), (959, .iadd, 1, 0, 0, 0), (960, .iaload, 1, 0, 0, 0), (961, .invokevirtual 108, 3, 130, 114, 844), (964, .aload_n 2, 1, 0, 0, 0), (965, .aload_n 0, 1, 0, 0, 0), (966, .iload_n 3, 1, 0, 0, 0), (967, .iconst 1, 1, 0, 0, 0), (968, .iadd, 1, 0, 0, 0), (969, .iaload, 1, 0, 0, 0), (970, .aload_n 0, 1, 0, 0, 0), (971, .iload_n 3, 1, 0, 0, 0), (972, .iconst 2, 1, 0, 0, 0), (973, .iadd, 1, 0, 0, 0), (974, .iaload, 1, 0, 0, 0), (975, .invokevirtual 111, 3, 215, 130, 1487), (978, .if_icmp .eq 196, 3, 840, 0, 0), (981, .iconst 0, 1, 0, 0, 0), (982, .ireturn, 1, 0, 0, 0), (983, .aload_n 1, 1, 0, 0, 0), (984, .aload_n 0, 1, 0, 0, 0), (985, .iload_n 3, 1, 0, 0, 0), (986, .iconst 1, 1, 0, 0, 0), (987, .iadd, 1, 0, 0, 0), (988, .iaload, 1, 0, 0, 0), (989, .invokevirtual 112, 3, 131, 113, 871), (992, .aload_n 2, 1, 0, 0, 0), (993, .aload_n 0, 1, 0, 0, 0), (994, .iload_n 3, 1, 0, 0, 0), (995, .iconst 1, 1, 0, 0, 0), (996, .iadd, 1, 0, 0, 0), (997, .iaload, 1, 0, 0, 0), (998, .invokevirtual 115, 3, 217, 129, 1491), (1001, .if_icmp .eq 173, 3, 840, 0, 0), (1004, .iconst 0, 1, 0, 0, 0), (1005, .ireturn, 1, 0, 0, 0), (1006, .aload_n 1, 1, 0, 0, 0), (1007, .aload_n 0, 1, 0, 0, 0), (1008, .iload_n 3, 1, 0, 0, 0), (1009, .iconst 1, 1, 0, 0, 0), (1010, .iadd, 1, 0, 0, 0), (1011, .iaload, 1, 0, 0, 0), (1012, .invokevirtual 116, 3, 132, 113, 883), (1015, .aload_n 2, 1, 0, 0, 0), (1016, .aload_n 0, 1, 0, 0, 0), (1017, .iload_n 3, 1, 0, 0, 0), (1018, .iconst 1, 1, 0, 0, 0), (1019, .iadd, 1, 0, 0, 0), (1020, .iaload, 1, 0, 0, 0), (1021, .invokevirtual 119, 3, 218, 129, 1500), (1024, .if_icmp .eq 150, 3, 840, 0, 0), (1027, .iconst 0, 1, 0, 0, 0), (1028, .ireturn, 1, 0, 0, 0), (1029, .aload_n 1, 1, 0, 0, 0), (1030, .aload_n 0, 1, 0, 0, 0), (1031, .iload_n 3, 1, 0, 0, 0), (1032, .iconst 1, 1, 0, 0, 0), (1033, .iadd, 1, 0, 0, 0), (1034, .iaload, 1, 0, 0, 0), (1035, .invokevirtual 120, 3, 133, 113, 891), (1038, .aload_n 2, 1, 0, 0, 0), (1039, .aload_n 0, 1, 0, 0, 0), (1040, .iload_n 3, 1, 0, 0, 0), (1041, .iconst 1, 1, 0, 0, 0), (1042, .iadd, 1, 0, 0, 0), (1043, .iaload, 1, 0, 0, 0), (1044, .invokevirtual 123, 3, 219, 129, 1504), (1047, .if_icmp .eq 127, 3, 840, 0, 0), (1050, .iconst 0, 1, 0, 0, 0), (1051, .ireturn, 1, 0, 0, 0), (1052, .aload_n 1, 1, 0, 0, 0), (1053, .aload_n 0, 1, 0, 0, 0), (1054, .iload_n 3, 1, 0, 0, 0), (1055, .iconst 1, 1, 0, 0, 0), (1056, .iadd, 1, 0, 0, 0), (1057, .iaload, 1, 0, 0, 0), (1058, .aload_n 0, 1, 0, 0, 0), (1059, .iload_n 3, 1, 0, 0, 0), (1060, .iconst 2, 1, 0, 0, 0), (1061, .iadd, 1, 0, 0, 0), (1062, .iaload, 1, 0, 0, 0), (1063, .aload_n 0, 1, 0, 0, 0), (1064, .iload_n 3, 1, 0, 0, 0), (1065, .iconst 3, 1, 0, 0, 0), (1066, .iadd, 1, 0, 0, 0), (1067, .iaload, 1, 0, 0, 0), (1068, .aload_n 0, 1, 0, 0, 0), (1069, .iload_n 3, 1, 0, 0, 0), (1070, .iconst 4, 1, 0, 0, 0), (1071, .iadd, 1, 0, 0, 0), (1072, .iaload, 1, 0, 0, 0), (1073, .invokevirtual 124, 3, 134, 116, 904), (1076, .aload_n 2, 1, 0, 0, 0), (1077, .aload_n 0, 1, 0, 0, 0), (1078, .iload_n 3, 1, 0, 0, 0), (1079, .iconst 1, 1, 0, 0, 0), (1080, .iadd, 1, 0, 0, 0), (1081, .iaload, 1, 0, 0, 0), (1082, .aload_n 0, 1, 0, 0, 0), (1083, .iload_n 3, 1, 0, 0, 0), (1084, .iconst 2, 1, 0, 0, 0), (1085, .iadd, 1, 0, 0, 0), (1086, .iaload, 1, 0, 0, 0), (1087, .aload_n 0, 1, 0, 0, 0), (1088, .iload_n 3, 1, 0, 0, 0), (1089, .iconst 3, 1, 0, 0, 0), (1090, .iadd, 1, 0, 0, 0), (1091, .iaload, 1, 0, 0, 0), (1092, .aload_n 0, 1, 0, 0, 0), (1093, .iload_n 3, 1, 0, 0, 0), (1094, .iconst 4, 1, 0, 0, 0), (1095, .iadd, 1, 0, 0, 0), (1096, .iaload, 1, 0, 0, 0), (1097, .invokevirtual 128, 3, 220, 132, 1511), (1100, .if_icmp .eq 74, 3, 840, 0, 0), (1103, .iconst 0, 1, 0, 0, 0), (1104, .ireturn, 1, 0, 0, 0), (1105, .aload_n 1, 1, 0, 0, 0), (1106, .aload_n 0, 1, 0, 0, 0), (1107, .iload_n 3, 1, 0, 0, 0), (1108, .iconst 1, 1, 0, 0, 0), (1109, .iadd, 1, 0, 0, 0), (1110, .iaload, 1, 0, 0, 0), (1111, .invokevirtual 129, 3, 135, 113, 911), (1114, .aload_n 2, 1, 0, 0, 0), (1115, .aload_n 0, 1, 0, 0, 0), (1116, .iload_n 3, 1, 0, 0, 0), (1117, .iconst 1, 1, 0, 0, 0), (1118, .iadd, 1, 0, 0, 0), (1119, .iaload, 1, 0, 0, 0), (1120, .invokevirtual 132, 3, 222, 129, 1518), (1123, .if_icmp .eq 51, 3, 840, 0, 0), (1126, .iconst 0, 1, 0, 0, 0), (1127, .ireturn, 1, 0, 0, 0), (1128, .aload_n 1, 1, 0, 0, 0), (1129, .aload_n 0, 1, 0, 0, 0), (1130, .iload_n 3, 1, 0, 0, 0), (1131, .iconst 1, 1, 0, 0, 0), (1132, .iadd, 1, 0, 0, 0), (1133, .iaload, 1, 0, 0, 0), (1134, .invokevirtual 133, 3, 136, 113, 1141), (1137, .aload_n 2, 1, 0, 0, 0), (1138, .aload_n 0, 1, 0, 0, 0), (1139, .iload_n 3, 1, 0, 0, 0), (1140, .iconst 1, 1, 0, 0, 0), (1141, .iadd, 1, 0, 0, 0), (1142, .iaload, 1, 0, 0, 0), (1143, .invokevirtual 136, 3, 223, 129, 1529), (1146, .if_icmp .eq 28, 3, 840, 0, 0), (1149, .iconst 0, 1, 0, 0, 0), (1150, .ireturn, 1, 0, 0, 0), (1151, .aload_n 1, 1, 0, 0, 0), (1152, .aload_n 0, 1, 0, 0, 0), (1153, .iload_n 3, 1, 0, 0, 0), (1154, .iconst 1, 1, 0, 0, 0), (1155, .iadd, 1, 0, 0, 0), (1156, .iaload, 1, 0, 0, 0), (1157, .invokevirtual 137, 3, 137, 113, 1155), (1160, .aload_n 2, 1, 0, 0, 0), (1161, .aload_n 0, 1, 0, 0, 0), (1162, .iload_n 3, 1, 0, 0, 0), (1163, .iconst 1, 1, 0, 0, 0), (1164, .iadd, 1, 0, 0, 0), (1165, .iaload, 1, 0, 0, 0), (1166, .invokevirtual 140, 3, 224, 129, 1533), (1169, .if_icmp .eq 5, 3, 840, 0, 0), (1172, .iconst 0, 1, 0, 0, 0), (1173, .ireturn, 1, 0, 0, 0), (1174, .iinc 3 6, 3, 0, 0, 0), (1177, .goto (-1159), 3, 10, 0, 0), (1180, .iconst 1, 1, 0, 0, 0), (1181, .ireturn, 1, 0, 0, 0)]
def mi_0 : aM := (RX0, yX0_init, cX0_init, 1, none, false, cd_0)
def mi_1 : aM := (RX0, yX0_open, cX0_open, 2, none, false, cd_1)
def mi_2 : aM := (RX0, yX0_length, cX0_length, 1, (Option.some Jvm.ClassFile.FieldType.int), false, cd_2)
def mi_3 : aM := (RX0, yX0_callAt, cX0_callAt, 2, (Option.some Jvm.ClassFile.FieldType.int), false, cd_3)
def mi_4 : aM := (RX0, yX0_turn, cX0_turn, 1, (Option.some Jvm.ClassFile.FieldType.int), false, cd_4)
def mi_5 : aM := (RX0, yX0_admits, cX0_admits, 5, (Option.some Jvm.ClassFile.FieldType.boolean), false, cd_5)
def mi_6 : aM := (RX0, yX0_add, cX0_add, 2, none, false, cd_6)
def mi_7 : aM := (RX0, yX0_dropLatest, cX0_dropLatest, 1, (Option.some Jvm.ClassFile.FieldType.boolean), false, cd_7)
def mi_8 : aM := (RX0, yX0_isOver, cX0_isOver, 1, (Option.some Jvm.ClassFile.FieldType.boolean), false, cd_8)
def mi_9 : aM := (RX0, yX0_latestFrom, cX0_latestFrom, 4, (Option.some Jvm.ClassFile.FieldType.int), false, cd_9)
def mi_10 : aM := (RX0, yX0_latestBid, cX0_latestBid, 1, (Option.some Jvm.ClassFile.FieldType.int), false, cd_10)
def mi_11 : aM := (RX0, yX0_level, cX0_level, 2, (Option.some Jvm.ClassFile.FieldType.int), false, cd_11)
def mi_12 : aM := (RX0, yX0_strain, cX0_strain, 2, (Option.some Jvm.ClassFile.FieldType.int), false, cd_12)
def mi_13 : aM := (RX0, yX0_doubling, cX0_doubling, 2, (Option.some Jvm.ClassFile.FieldType.int), false, cd_13)
def mi_14 : aM := (RX0, yX0_declarer, cX0_declarer, 5, (Option.some Jvm.ClassFile.FieldType.int), false, cd_14)
def mi_15 : aM := (RX1, yX1_init, cX1_init, 2, none, false, cd_15)
def mi_16 : aM := (RX1, yX1_give, cX1_give, 4, none, false, cd_16)
def mi_17 : aM := (RX1, yX1_cardsOf, cX1_cardsOf, 2, (Option.some Jvm.ClassFile.FieldType.long), false, cd_17)
def mi_18 : aM := (RX1, yX1_holder, cX1_holder, 3, (Option.some Jvm.ClassFile.FieldType.int), false, cd_18)
def mi_19 : aM := (RX1, yX1_number, cX1_number, 1, (Option.some Jvm.ClassFile.FieldType.int), false, cd_19)
def mi_20 : aM := (RX1, yX1_dealer, cX1_dealer, 1, (Option.some Jvm.ClassFile.FieldType.int), false, cd_20)
def mi_21 : aM := (RX1, yX1_vulnerability, cX1_vulnerability, 2, (Option.some Jvm.ClassFile.FieldType.int), false, cd_21)
def mi_22 : aM := (RX1, yX1_isVulnerable, cX1_isVulnerable, 2, (Option.some Jvm.ClassFile.FieldType.boolean), false, cd_22)
def mi_23 : aM := (RX1, yX1_markBegun, cX1_markBegun, 1, none, false, cd_23)
def mi_24 : aM := (RX1, yX1_wasBegun, cX1_wasBegun, 1, (Option.some Jvm.ClassFile.FieldType.boolean), false, cd_24)
def mi_25 : aM := (RX1, yX1_addResult, cX1_addResult, 1, none, false, cd_25)
def mi_26 : aM := (RX1, yX1_resultsSoFar, cX1_resultsSoFar, 1, (Option.some Jvm.ClassFile.FieldType.int), false, cd_26)
def mi_27 : aM := (RX2, yX2_exists, cX2_exists, 1, (Option.some Jvm.ClassFile.FieldType.boolean), true, cd_27)
def mi_28 : aM := (RX2, yX2_suitOf, cX2_suitOf, 1, (Option.some Jvm.ClassFile.FieldType.int), true, cd_28)
def mi_29 : aM := (RX2, yX2_bitOf, cX2_bitOf, 1, (Option.some Jvm.ClassFile.FieldType.long), true, cd_29)
def mi_30 : aM := (RX2, yX2_has, cX2_has, 3, (Option.some Jvm.ClassFile.FieldType.boolean), true, cd_30)
def mi_31 : aM := (RX2, yX2_onlySuit, cX2_onlySuit, 3, (Option.some Jvm.ClassFile.FieldType.long), true, cd_31)
def mi_32 : aM := (RX2, yX2_choices, cX2_choices, 5, (Option.some Jvm.ClassFile.FieldType.long), true, cd_32)
def mi_33 : aM := (RX2, yX2_beats, cX2_beats, 4, (Option.some Jvm.ClassFile.FieldType.boolean), true, cd_33)
def mi_34 : aM := (RX3, yX3_init, cX3_init, 1, none, false, cd_34)
def mi_35 : aM := (RX3, yX3_load, cX3_load, 4, none, false, cd_35)
def mi_36 : aM := (RX3, yX3_most, cX3_most, 3, (Option.some Jvm.ClassFile.FieldType.int), false, cd_36)
def mi_37 : aM := (RX3, yX3_leastBestCard, cX3_leastBestCard, 8, (Option.some Jvm.ClassFile.FieldType.int), false, cd_37)
def mi_38 : aM := (RX3, yX3_wins, cX3_wins, 18, (Option.some Jvm.ClassFile.FieldType.boolean), false, cd_38)
def mi_39 : aM := (RX3, yX3_winsWith, cX3_winsWith, 12, (Option.some Jvm.ClassFile.FieldType.boolean), false, cd_39)
def mi_40 : aM := (RX3, yX3_winsLast, cX3_winsLast, 9, (Option.some Jvm.ClassFile.FieldType.boolean), false, cd_40)
def mi_41 : aM := (RX3, yX3_othersThan, cX3_othersThan, 5, (Option.some Jvm.ClassFile.FieldType.long), false, cd_41)
def mi_42 : aM := (RX3, yX3_areEqual, cX3_areEqual, 6, (Option.some Jvm.ClassFile.FieldType.boolean), true, cd_42)
def mi_43 : aM := (RX4, yX4_init, cX4_init, 1, none, false, cd_43)
def mi_44 : aM := (RX4, yX4_open, cX4_open, 3, none, false, cd_44)
def mi_45 : aM := (RX4, yX4_length, cX4_length, 1, (Option.some Jvm.ClassFile.FieldType.int), false, cd_45)
def mi_46 : aM := (RX4, yX4_cardAt, cX4_cardAt, 2, (Option.some Jvm.ClassFile.FieldType.int), false, cd_46)
def mi_47 : aM := (RX4, yX4_declarer, cX4_declarer, 1, (Option.some Jvm.ClassFile.FieldType.int), false, cd_47)
def mi_48 : aM := (RX4, yX4_dummy, cX4_dummy, 1, (Option.some Jvm.ClassFile.FieldType.int), false, cd_48)
def mi_49 : aM := (RX4, yX4_trump, cX4_trump, 1, (Option.some Jvm.ClassFile.FieldType.int), false, cd_49)
def mi_50 : aM := (RX4, yX4_gone, cX4_gone, 1, (Option.some Jvm.ClassFile.FieldType.long), false, cd_50)
def mi_51 : aM := (RX4, yX4_inTrick, cX4_inTrick, 1, (Option.some Jvm.ClassFile.FieldType.int), false, cd_51)
def mi_52 : aM := (RX4, yX4_tricksDone, cX4_tricksDone, 1, (Option.some Jvm.ClassFile.FieldType.int), false, cd_52)
def mi_53 : aM := (RX4, yX4_leaderOf, cX4_leaderOf, 2, (Option.some Jvm.ClassFile.FieldType.int), false, cd_53)
def mi_54 : aM := (RX4, yX4_turn, cX4_turn, 1, (Option.some Jvm.ClassFile.FieldType.int), false, cd_54)
def mi_55 : aM := (RX4, yX4_led, cX4_led, 1, (Option.some Jvm.ClassFile.FieldType.int), false, cd_55)
def mi_56 : aM := (RX4, yX4_add, cX4_add, 3, none, false, cd_56)
def mi_57 : aM := (RX4, yX4_dropLatest, cX4_dropLatest, 1, (Option.some Jvm.ClassFile.FieldType.boolean), false, cd_57)
def mi_58 : aM := (RX4, yX4_winningCard, cX4_winningCard, 6, (Option.some Jvm.ClassFile.FieldType.int), false, cd_58)
def mi_59 : aM := (RX4, yX4_winnerFrom, cX4_winnerFrom, 6, (Option.some Jvm.ClassFile.FieldType.int), false, cd_59)
def mi_60 : aM := (RX4, yX4_tricksOf, cX4_tricksOf, 4, (Option.some Jvm.ClassFile.FieldType.int), false, cd_60)
def mi_61 : aM := (RX4, yX4_hasShownOut, cX4_hasShownOut, 6, (Option.some Jvm.ClassFile.FieldType.boolean), false, cd_61)
def mi_62 : aM := (RX5, yX5_init, cX5_init, 4, none, false, cd_62)
def mi_63 : aM := (RX5, yX5_setContract, cX5_setContract, 4, none, false, cd_63)
def mi_64 : aM := (RX5, yX5_setOutcome, cX5_setOutcome, 5, none, false, cd_64)
def mi_65 : aM := (RX5, yX5_setParts, cX5_setParts, 3, none, false, cd_65)
def mi_66 : aM := (RX5, yX5_boardNumber, cX5_boardNumber, 1, (Option.some Jvm.ClassFile.FieldType.int), false, cd_66)
def mi_67 : aM := (RX5, yX5_sideOf, cX5_sideOf, 2, (Option.some Jvm.ClassFile.FieldType.int), false, cd_67)
def mi_68 : aM := (RX5, yX5_scoreOfNorth, cX5_scoreOfNorth, 1, (Option.some Jvm.ClassFile.FieldType.int), false, cd_68)
def mi_69 : aM := (RX5, yX5_isAdjusted, cX5_isAdjusted, 1, (Option.some Jvm.ClassFile.FieldType.boolean), false, cd_69)
def mi_70 : aM := (RX5, yX5_partOf, cX5_partOf, 2, (Option.some Jvm.ClassFile.FieldType.int), false, cd_70)
def mi_71 : aM := (RX5, yX5_tell, cX5_tell, 2, (Option.some Jvm.ClassFile.FieldType.int), false, cd_71)
def mi_72 : aM := (RX5, yX5_appendTo, cX5_appendTo, 3, none, false, cd_72)
def mi_73 : aM := (RX5, yX5_signOf, cX5_signOf, 2, (Option.some Jvm.ClassFile.FieldType.char), true, cd_73)
def mi_74 : aM := (RX6, yX6_ofContract, cX6_ofContract, 7, (Option.some Jvm.ClassFile.FieldType.int), true, cd_74)
def mi_75 : aM := (RX6, yX6_perTrick, cX6_perTrick, 1, (Option.some Jvm.ClassFile.FieldType.int), true, cd_75)
def mi_76 : aM := (RX6, yX6_trickScore, cX6_trickScore, 4, (Option.some Jvm.ClassFile.FieldType.int), true, cd_76)
def mi_77 : aM := (RX6, yX6_slam, cX6_slam, 2, (Option.some Jvm.ClassFile.FieldType.int), true, cd_77)
def mi_78 : aM := (RX6, yX6_overtrick, cX6_overtrick, 3, (Option.some Jvm.ClassFile.FieldType.int), true, cd_78)
def mi_79 : aM := (RX6, yX6_lost, cX6_lost, 4, (Option.some Jvm.ClassFile.FieldType.int), true, cd_79)
def mi_80 : aM := (RX6, yX6_lostDoubled, cX6_lostDoubled, 1, (Option.some Jvm.ClassFile.FieldType.int), true, cd_80)
def mi_81 : aM := (RX6, yX6_stepsOf, cX6_stepsOf, 6, (Option.some Jvm.ClassFile.FieldType.int), true, cd_81)
def mi_82 : aM := (RX7, yX7_init, cX7_init, 1, none, false, cd_82)
def mi_83 : aM := (RX7, yX7_start, cX7_start, 4, none, false, cd_83)
def mi_84 : aM := (RX7, yX7_stop, cX7_stop, 1, none, false, cd_84)
def mi_85 : aM := (RX7, yX7_isBusy, cX7_isBusy, 1, (Option.some Jvm.ClassFile.FieldType.boolean), false, cd_85)
def mi_86 : aM := (RX7, yX7_boardNumber, cX7_boardNumber, 1, (Option.some Jvm.ClassFile.FieldType.int), false, cd_86)
def mi_87 : aM := (RX7, yX7_sideOf, cX7_sideOf, 2, (Option.some Jvm.ClassFile.FieldType.int), false, cd_87)
def mi_88 : aM := (RX7, yX7_auctionIsOver, cX7_auctionIsOver, 1, (Option.some Jvm.ClassFile.FieldType.boolean), false, cd_88)
def mi_89 : aM := (RX7, yX7_hasContract, cX7_hasContract, 1, (Option.some Jvm.ClassFile.FieldType.boolean), false, cd_89)
def mi_90 : aM := (RX7, yX7_isInPlay, cX7_isInPlay, 1, (Option.some Jvm.ClassFile.FieldType.boolean), false, cd_90)
def mi_91 : aM := (RX7, yX7_admitsCall, cX7_admitsCall, 2, (Option.some Jvm.ClassFile.FieldType.boolean), false, cd_91)
def mi_92 : aM := (RX7, yX7_addCall, cX7_addCall, 2, none, false, cd_92)
def mi_93 : aM := (RX7, yX7_choices, cX7_choices, 1, (Option.some Jvm.ClassFile.FieldType.long), false, cd_93)
def mi_94 : aM := (RX7, yX7_admitsCard, cX7_admitsCard, 2, (Option.some Jvm.ClassFile.FieldType.boolean), false, cd_94)
def mi_95 : aM := (RX7, yX7_addCard, cX7_addCard, 2, none, false, cd_95)
def mi_96 : aM := (RX7, yX7_dropLatest, cX7_dropLatest, 1, (Option.some Jvm.ClassFile.FieldType.boolean), false, cd_96)
def mi_97 : aM := (RX7, yX7_callAt, cX7_callAt, 2, (Option.some Jvm.ClassFile.FieldType.int), false, cd_97)
def mi_98 : aM := (RX7, yX7_cardAt, cX7_cardAt, 2, (Option.some Jvm.ClassFile.FieldType.int), false, cd_98)
def mi_99 : aM := (RX7, yX7_cardsInTrick, cX7_cardsInTrick, 1, (Option.some Jvm.ClassFile.FieldType.int), false, cd_99)
def mi_100 : aM := (RX7, yX7_tricksLeft, cX7_tricksLeft, 1, (Option.some Jvm.ClassFile.FieldType.int), false, cd_100)
def mi_101 : aM := (RX7, yX7_heldBy, cX7_heldBy, 2, (Option.some Jvm.ClassFile.FieldType.long), false, cd_101)
def mi_102 : aM := (RX7, yX7_tricks, cX7_tricks, 1, (Option.some (Jvm.ClassFile.FieldType.object "BridgeClub$Play")), false, cd_102)
def mi_103 : aM := (RX7, yX7_isSeenBy, cX7_isSeenBy, 4, (Option.some Jvm.ClassFile.FieldType.boolean), false, cd_103)
def mi_104 : aM := (RX7, yX7_hasShownOut, cX7_hasShownOut, 3, (Option.some Jvm.ClassFile.FieldType.boolean), false, cd_104)
def mi_105 : aM := (RX7, yX7_tell, cX7_tell, 3, (Option.some Jvm.ClassFile.FieldType.int), false, cd_105)
def mi_106 : aM := (RX7, yX7_toResult, cX7_toResult, 4, (Option.some (Jvm.ClassFile.FieldType.object "BridgeClub$Result")), false, cd_106)
def mi_107 : aM := (RX8, yX8_init, cX8_init, 1, none, false, cd_107)
def mi_108 : aM := (RX8, yX8_deal, cX8_deal, 4, (Option.some Jvm.ClassFile.FieldType.int), false, cd_108)
def mi_109 : aM := (RX8, yX8_swap, cX8_swap, 7, (Option.some Jvm.ClassFile.FieldType.boolean), false, cd_109)
def mi_110 : aM := (RX8, yX8_hand, cX8_hand, 4, (Option.some Jvm.ClassFile.FieldType.int), false, cd_110)
def mi_111 : aM := (RX8, yX8_board, cX8_board, 4, (Option.some Jvm.ClassFile.FieldType.int), false, cd_111)
def mi_112 : aM := (RX8, yX8_begin, cX8_begin, 7, (Option.some Jvm.ClassFile.FieldType.boolean), false, cd_112)
def mi_113 : aM := (RX8, yX8_call, cX8_call, 4, (Option.some Jvm.ClassFile.FieldType.int), false, cd_113)
def mi_114 : aM := (RX8, yX8_play, cX8_play, 4, (Option.some Jvm.ClassFile.FieldType.int), false, cd_114)
def mi_115 : aM := (RX8, yX8_claim, cX8_claim, 4, (Option.some Jvm.ClassFile.FieldType.boolean), false, cd_115)
def mi_116 : aM := (RX8, yX8_back, cX8_back, 3, (Option.some Jvm.ClassFile.FieldType.boolean), false, cd_116)
def mi_117 : aM := (RX8, yX8_leave, cX8_leave, 3, (Option.some Jvm.ClassFile.FieldType.boolean), false, cd_117)
def mi_118 : aM := (RX8, yX8_table, cX8_table, 5, (Option.some Jvm.ClassFile.FieldType.int), false, cd_118)
def mi_119 : aM := (RX8, yX8_called, cX8_called, 4, (Option.some Jvm.ClassFile.FieldType.int), false, cd_119)
def mi_120 : aM := (RX8, yX8_played, cX8_played, 4, (Option.some Jvm.ClassFile.FieldType.int), false, cd_120)
def mi_121 : aM := (RX8, yX8_allowed, cX8_allowed, 4, (Option.some Jvm.ClassFile.FieldType.boolean), false, cd_121)
def mi_122 : aM := (RX8, yX8_sees, cX8_sees, 5, (Option.some Jvm.ClassFile.FieldType.boolean), false, cd_122)
def mi_123 : aM := (RX8, yX8_lacks, cX8_lacks, 5, (Option.some Jvm.ClassFile.FieldType.boolean), false, cd_123)
def mi_124 : aM := (RX8, yX8_best, cX8_best, 3, (Option.some Jvm.ClassFile.FieldType.int), false, cd_124)
def mi_125 : aM := (RX8, yX8_bestCard, cX8_bestCard, 3, (Option.some Jvm.ClassFile.FieldType.int), false, cd_125)
def mi_126 : aM := (RX8, yX8_result, cX8_result, 4, (Option.some Jvm.ClassFile.FieldType.int), false, cd_126)
def mi_127 : aM := (RX8, yX8_adjust, cX8_adjust, 5, (Option.some Jvm.ClassFile.FieldType.boolean), false, cd_127)
def mi_128 : aM := (RX8, yX8_score, cX8_score, 7, (Option.some Jvm.ClassFile.FieldType.int), false, cd_128)
def mi_129 : aM := (RX8, yX8_steps, cX8_steps, 3, (Option.some Jvm.ClassFile.FieldType.int), false, cd_129)
def mi_130 : aM := (RX8, yX8_points, cX8_points, 4, (Option.some Jvm.ClassFile.FieldType.int), false, cd_130)
def mi_131 : aM := (RX8, yX8_total, cX8_total, 2, (Option.some Jvm.ClassFile.FieldType.int), false, cd_131)
def mi_132 : aM := (RX8, yX8_top, cX8_top, 2, (Option.some Jvm.ClassFile.FieldType.int), false, cd_132)
def mi_133 : aM := (RX8, yX8_place, cX8_place, 8, (Option.some Jvm.ClassFile.FieldType.int), false, cd_133)
def mi_134 : aM := (RX8, yX8_plan, cX8_plan, 8, (Option.some Jvm.ClassFile.FieldType.int), false, cd_134)
def mi_135 : aM := (RX8, yX8_write, cX8_write, 3, (Option.some Jvm.ClassFile.FieldType.int), false, cd_135)
def mi_136 : aM := (RX8, yX8_out, cX8_out, 2, (Option.some Jvm.ClassFile.FieldType.int), false, cd_136)
def mi_137 : aM := (RX8, yX8_count, cX8_count, 2, (Option.some Jvm.ClassFile.FieldType.int), false, cd_137)
def mi_138 : aM := (RX8, yX8_shuffle, cX8_shuffle, 6, none, false, cd_138)
def mi_139 : aM := (RX8, yX8_boardNumbered, cX8_boardNumbered, 2, (Option.some (Jvm.ClassFile.FieldType.object "BridgeClub$Board")), false, cd_139)
def mi_140 : aM := (RX8, yX8_resultAt, cX8_resultAt, 2, (Option.some (Jvm.ClassFile.FieldType.object "BridgeClub$Result")), false, cd_140)
def mi_141 : aM := (RX8, yX8_busyTable, cX8_busyTable, 3, (Option.some (Jvm.ClassFile.FieldType.object "BridgeClub$Table")), false, cd_141)
def mi_142 : aM := (RX8, yX8_endingTable, cX8_endingTable, 3, (Option.some (Jvm.ClassFile.FieldType.object "BridgeClub$Table")), false, cd_142)
def mi_143 : aM := (RX8, yX8_tableWithBoard, cX8_tableWithBoard, 4, (Option.some Jvm.ClassFile.FieldType.int), false, cd_143)
def mi_144 : aM := (RX8, yX8_busyTables, cX8_busyTables, 3, (Option.some Jvm.ClassFile.FieldType.int), false, cd_144)
def mi_145 : aM := (RX8, yX8_isPair, cX8_isPair, 1, (Option.some Jvm.ClassFile.FieldType.boolean), true, cd_145)
def mi_146 : aM := (RX8, yX8_isPart, cX8_isPart, 1, (Option.some Jvm.ClassFile.FieldType.boolean), true, cd_146)
def mi_147 : aM := (RX8, yX8_isFreeFor, cX8_isFreeFor, 5, (Option.some Jvm.ClassFile.FieldType.boolean), false, cd_147)
def mi_148 : aM := (RX8, yX8_finish, cX8_finish, 4, none, false, cd_148)
def mi_149 : aM := (RX8, yX8_mostOf, cX8_mostOf, 3, (Option.some Jvm.ClassFile.FieldType.int), false, cd_149)
def mi_150 : aM := (RX8, yX8_pointsOf, cX8_pointsOf, 8, (Option.some Jvm.ClassFile.FieldType.int), false, cd_150)
def mi_151 : aM := (RX8, yX8_pointsAgainst, cX8_pointsAgainst, 2, (Option.some Jvm.ClassFile.FieldType.int), true, cd_151)
def mi_152 : aM := (RX8, yX8_hasResult, cX8_hasResult, 4, (Option.some Jvm.ClassFile.FieldType.boolean), false, cd_152)
def mi_153 : aM := (RX8, yX8_pairsWithResult, cX8_pairsWithResult, 3, (Option.some Jvm.ClassFile.FieldType.int), false, cd_153)
def mi_154 : aM := (RX8, yX8_pointsOfPair, cX8_pointsOfPair, 6, (Option.some Jvm.ClassFile.FieldType.int), false, cd_154)
def mi_155 : aM := (RX8, yX8_mostOfPair, cX8_mostOfPair, 5, (Option.some Jvm.ClassFile.FieldType.int), false, cd_155)
def mi_156 : aM := (RX8, yX8_partOver, cX8_partOver, 2, (Option.some Jvm.ClassFile.FieldType.long), false, cd_156)
def mi_157 : aM := (RX8, yX8_partUnder, cX8_partUnder, 3, (Option.some Jvm.ClassFile.FieldType.long), false, cd_157)
def mi_158 : aM := (RX9, yX9_init, cX9_init, 1, none, false, cd_158)
def mi_159 : aM := (RX9, yX9_in, cX9_in, 3, (Option.some Jvm.ClassFile.FieldType.boolean), true, cd_159)
def mi_160 : aM := (RX9, yX9_modulo, cX9_modulo, 3, (Option.some Jvm.ClassFile.FieldType.int), true, cd_160)
def mi_161 : aM := (RX9, yX9_deal, cX9_deal, 7, (Option.some Jvm.ClassFile.FieldType.int), false, cd_161)
def mi_162 : aM := (RX9, yX9_isBoard, cX9_isBoard, 2, (Option.some Jvm.ClassFile.FieldType.boolean), false, cd_162)
def mi_163 : aM := (RX9, yX9_isCard, cX9_isCard, 1, (Option.some Jvm.ClassFile.FieldType.boolean), true, cd_163)
def mi_164 : aM := (RX9, yX9_swap, cX9_swap, 6, (Option.some Jvm.ClassFile.FieldType.boolean), false, cd_164)
def mi_165 : aM := (RX9, yX9_hand, cX9_hand, 3, (Option.some Jvm.ClassFile.FieldType.int), false, cd_165)
def mi_166 : aM := (RX9, yX9_dealer, cX9_dealer, 1, (Option.some Jvm.ClassFile.FieldType.int), true, cd_166)
def mi_167 : aM := (RX9, yX9_vulnerable, cX9_vulnerable, 2, (Option.some Jvm.ClassFile.FieldType.int), true, cd_167)
def mi_168 : aM := (RX9, yX9_isVulnerable, cX9_isVulnerable, 3, (Option.some Jvm.ClassFile.FieldType.boolean), true, cd_168)
def mi_169 : aM := (RX9, yX9_tableOf, cX9_tableOf, 3, (Option.some Jvm.ClassFile.FieldType.int), false, cd_169)
def mi_170 : aM := (RX9, yX9_resultsOf, cX9_resultsOf, 4, (Option.some Jvm.ClassFile.FieldType.int), false, cd_170)
def mi_171 : aM := (RX9, yX9_board, cX9_board, 3, (Option.some Jvm.ClassFile.FieldType.int), false, cd_171)
def mi_172 : aM := (RX9, yX9_isPlaying, cX9_isPlaying, 3, (Option.some Jvm.ClassFile.FieldType.boolean), false, cd_172)
def mi_173 : aM := (RX9, yX9_hasPlayed, cX9_hasPlayed, 4, (Option.some Jvm.ClassFile.FieldType.boolean), false, cd_173)
def mi_174 : aM := (RX9, yX9_begin, cX9_begin, 5, (Option.some Jvm.ClassFile.FieldType.boolean), false, cd_174)
def mi_175 : aM := (RX9, yX9_phaseOf, cX9_phaseOf, 2, (Option.some Jvm.ClassFile.FieldType.int), false, cd_175)
def mi_176 : aM := (RX9, yX9_callAt, cX9_callAt, 3, (Option.some Jvm.ClassFile.FieldType.int), false, cd_176)
def mi_177 : aM := (RX9, yX9_callerOf, cX9_callerOf, 3, (Option.some Jvm.ClassFile.FieldType.int), false, cd_177)
def mi_178 : aM := (RX9, yX9_latestCall, cX9_latestCall, 3, (Option.some Jvm.ClassFile.FieldType.int), false, cd_178)
def mi_179 : aM := (RX9, yX9_latestBid, cX9_latestBid, 3, (Option.some Jvm.ClassFile.FieldType.int), false, cd_179)
def mi_180 : aM := (RX9, yX9_doubled, cX9_doubled, 3, (Option.some Jvm.ClassFile.FieldType.int), false, cd_180)
def mi_181 : aM := (RX9, yX9_mayCall, cX9_mayCall, 6, (Option.some Jvm.ClassFile.FieldType.boolean), false, cd_181)
def mi_182 : aM := (RX9, yX9_level, cX9_level, 2, (Option.some Jvm.ClassFile.FieldType.int), false, cd_182)
def mi_183 : aM := (RX9, yX9_strain, cX9_strain, 2, (Option.some Jvm.ClassFile.FieldType.int), false, cd_183)
def mi_184 : aM := (RX9, yX9_declarer, cX9_declarer, 4, (Option.some Jvm.ClassFile.FieldType.int), false, cd_184)
def mi_185 : aM := (RX9, yX9_call, cX9_call, 4, (Option.some Jvm.ClassFile.FieldType.int), false, cd_185)
def mi_186 : aM := (RX9, yX9_suit, cX9_suit, 1, (Option.some Jvm.ClassFile.FieldType.int), true, cd_186)
def mi_187 : aM := (RX9, yX9_beats, cX9_beats, 3, (Option.some Jvm.ClassFile.FieldType.boolean), true, cd_187)
def mi_188 : aM := (RX9, yX9_goThrough, cX9_goThrough, 5, none, false, cd_188)
def mi_189 : aM := (RX9, yX9_turn, cX9_turn, 2, (Option.some Jvm.ClassFile.FieldType.int), false, cd_189)
def mi_190 : aM := (RX9, yX9_wasPlayed, cX9_wasPlayed, 4, (Option.some Jvm.ClassFile.FieldType.boolean), false, cd_190)
def mi_191 : aM := (RX9, yX9_holds, cX9_holds, 4, (Option.some Jvm.ClassFile.FieldType.boolean), false, cd_191)
def mi_192 : aM := (RX9, yX9_mayPlay, cX9_mayPlay, 6, (Option.some Jvm.ClassFile.FieldType.boolean), false, cd_192)
def mi_193 : aM := (RX9, yX9_play, cX9_play, 3, (Option.some Jvm.ClassFile.FieldType.int), false, cd_193)
def mi_194 : aM := (RX9, yX9_claim, cX9_claim, 3, (Option.some Jvm.ClassFile.FieldType.boolean), false, cd_194)
def mi_195 : aM := (RX9, yX9_back, cX9_back, 2, (Option.some Jvm.ClassFile.FieldType.boolean), false, cd_195)
def mi_196 : aM := (RX9, yX9_leave, cX9_leave, 2, (Option.some Jvm.ClassFile.FieldType.boolean), false, cd_196)
def mi_197 : aM := (RX9, yX9_ends, cX9_ends, 7, none, false, cd_197)
def mi_198 : aM := (RX9, yX9_table, cX9_table, 6, (Option.some Jvm.ClassFile.FieldType.int), false, cd_198)
def mi_199 : aM := (RX9, yX9_called, cX9_called, 3, (Option.some Jvm.ClassFile.FieldType.int), false, cd_199)
def mi_200 : aM := (RX9, yX9_played, cX9_played, 3, (Option.some Jvm.ClassFile.FieldType.int), false, cd_200)
def mi_201 : aM := (RX9, yX9_allowed, cX9_allowed, 3, (Option.some Jvm.ClassFile.FieldType.boolean), false, cd_201)
def mi_202 : aM := (RX9, yX9_sees, cX9_sees, 5, (Option.some Jvm.ClassFile.FieldType.boolean), false, cd_202)
def mi_203 : aM := (RX9, yX9_lacks, cX9_lacks, 6, (Option.some Jvm.ClassFile.FieldType.boolean), false, cd_203)
def mi_204 : aM := (RX9, yX9_taken, cX9_taken, 5, (Option.some Jvm.ClassFile.FieldType.int), false, cd_204)
def mi_205 : aM := (RX9, yX9_search, cX9_search, 11, (Option.some Jvm.ClassFile.FieldType.int), false, cd_205)
def mi_206 : aM := (RX9, yX9_layOut, cX9_layOut, 6, (Option.some Jvm.ClassFile.FieldType.int), false, cd_206)
def mi_207 : aM := (RX9, yX9_best, cX9_best, 3, (Option.some Jvm.ClassFile.FieldType.int), false, cd_207)
def mi_208 : aM := (RX9, yX9_bestCard, cX9_bestCard, 7, (Option.some Jvm.ClassFile.FieldType.int), false, cd_208)
def mi_209 : aM := (RX9, yX9_score, cX9_score, 10, (Option.some Jvm.ClassFile.FieldType.int), false, cd_209)
def mi_210 : aM := (RX9, yX9_lost, cX9_lost, 5, (Option.some Jvm.ClassFile.FieldType.int), true, cd_210)
def mi_211 : aM := (RX9, yX9_steps, cX9_steps, 9, (Option.some Jvm.ClassFile.FieldType.int), false, cd_211)
def mi_212 : aM := (RX9, yX9_isResult, cX9_isResult, 2, (Option.some Jvm.ClassFile.FieldType.boolean), false, cd_212)
def mi_213 : aM := (RX9, yX9_result, cX9_result, 3, (Option.some Jvm.ClassFile.FieldType.int), false, cd_213)
def mi_214 : aM := (RX9, yX9_adjust, cX9_adjust, 4, (Option.some Jvm.ClassFile.FieldType.boolean), false, cd_214)
def mi_215 : aM := (RX9, yX9_points, cX9_points, 6, (Option.some Jvm.ClassFile.FieldType.int), false, cd_215)
def mi_216 : aM := (RX9, yX9_hasResult, cX9_hasResult, 3, (Option.some Jvm.ClassFile.FieldType.boolean), false, cd_216)
def mi_217 : aM := (RX9, yX9_total, cX9_total, 4, (Option.some Jvm.ClassFile.FieldType.int), false, cd_217)
def mi_218 : aM := (RX9, yX9_top, cX9_top, 4, (Option.some Jvm.ClassFile.FieldType.int), false, cd_218)
def mi_219 : aM := (RX9, yX9_place, cX9_place, 12, (Option.some Jvm.ClassFile.FieldType.int), false, cd_219)
def mi_220 : aM := (RX9, yX9_plan, cX9_plan, 6, (Option.some Jvm.ClassFile.FieldType.int), false, cd_220)
def mi_221 : aM := (RX9, yX9_puts, cX9_puts, 2, none, false, cd_221)
def mi_222 : aM := (RX9, yX9_write, cX9_write, 4, (Option.some Jvm.ClassFile.FieldType.int), false, cd_222)
def mi_223 : aM := (RX9, yX9_out, cX9_out, 2, (Option.some Jvm.ClassFile.FieldType.int), false, cd_223)
def mi_224 : aM := (RX9, yX9_count, cX9_count, 4, (Option.some Jvm.ClassFile.FieldType.int), false, cd_224)
def mi_225 : aM := (RL, yL_law, cL_law, 4, ret, true, cd_225)
def pgL : List aM := [mi_0, mi_1, mi_2, mi_3, mi_4, mi_5, mi_6, mi_7, mi_8, mi_9, mi_10, mi_11, mi_12, mi_13, mi_14, mi_15, mi_16, mi_17, mi_18, mi_19, mi_20, mi_21, mi_22, mi_23, mi_24, mi_25, mi_26, mi_27, mi_28, mi_29, mi_30, mi_31, mi_32, mi_33, mi_34, mi_35, mi_36, mi_37, mi_38, mi_39, mi_40, mi_41, mi_42, mi_43, mi_44, mi_45, mi_46, mi_47, mi_48, mi_49, mi_50, mi_51, mi_52, mi_53, mi_54, mi_55, mi_56, mi_57, mi_58, mi_59, mi_60, mi_61, mi_62, mi_63, mi_64, mi_65, mi_66, mi_67, mi_68, mi_69, mi_70, mi_71, mi_72, mi_73, mi_74, mi_75, mi_76, mi_77, mi_78, mi_79, mi_80, mi_81, mi_82, mi_83, mi_84, mi_85, mi_86, mi_87, mi_88, mi_89, mi_90, mi_91, mi_92, mi_93, mi_94, mi_95, mi_96, mi_97, mi_98, mi_99, mi_100, mi_101, mi_102, mi_103, mi_104, mi_105, mi_106, mi_107, mi_108, mi_109, mi_110, mi_111, mi_112, mi_113, mi_114, mi_115, mi_116, mi_117, mi_118, mi_119, mi_120, mi_121, mi_122, mi_123, mi_124, mi_125, mi_126, mi_127, mi_128, mi_129, mi_130, mi_131, mi_132, mi_133, mi_134, mi_135, mi_136, mi_137, mi_138, mi_139, mi_140, mi_141, mi_142, mi_143, mi_144, mi_145, mi_146, mi_147, mi_148, mi_149, mi_150, mi_151, mi_152, mi_153, mi_154, mi_155, mi_156, mi_157, mi_158, mi_159, mi_160, mi_161, mi_162, mi_163, mi_164, mi_165, mi_166, mi_167, mi_168, mi_169, mi_170, mi_171, mi_172, mi_173, mi_174, mi_175, mi_176, mi_177, mi_178, mi_179, mi_180, mi_181, mi_182, mi_183, mi_184, mi_185, mi_186, mi_187, mi_188, mi_189, mi_190, mi_191, mi_192, mi_193, mi_194, mi_195, mi_196, mi_197, mi_198, mi_199, mi_200, mi_201, mi_202, mi_203, mi_204, mi_205, mi_206, mi_207, mi_208, mi_209, mi_210, mi_211, mi_212, mi_213, mi_214, mi_215, mi_216, mi_217, mi_218, mi_219, mi_220, mi_221, mi_222, mi_223, mi_224]
def pg (j : Nat) : Option aM := pgL[j]?
end
section
/-! ===== how the AM's heap, locals and stack stand in the machine's ===== -/
abbrev aG : Type := State × (Nat → Nat) × (Nat → ClassId) × va_G
def ad (G : aG) (k : Nat) : Nat := if k < 16 then G.2.1 k else G.1.heap.size + (k - 16)
def up (G : aG) (v : Value) : Value := match v with
  | .ref a => .ref (ad G a)
  | v => v
def trU (G : aG) (u : vp_A) : vp_A := match u.2 with
  | .inr (.inr (.inr (.inr f))) => (u.1, .inr (.inr (.inr (.inr (fun j => (f j).map (ad G))))))
  | _ => u
def trE (G : aG) (e : va_E) : va_E := match e with
  | .inl (t, u) => .inl (G.2.2.1 t, trU G u)
  | .inr (ci, fs) => .inr (ci, fs.map (up G))
def aTys (G : aG) : List (ClassId × FieldType) := (List.range 7).map (fun t => (G.2.2.1 t, aTy t))
def aV (G : aG) (U : State) : Prop := G.1.vm.Alike U.vm ∧ va_K G.2.2.2 aCls (aTys G) U ∧ (∀ w ∈ aNw, va_Nw w U) ∧ va_AO RX1 U ∧ va_AO RX7 U ∧ va_AO RX5 U
def aCst (G : aG) (k : Nat) (e : va_E) : Prop := match e with
  | .inl (t, n, .inl f) => va_T (aTy t) (G.2.1 k) n (fun j => .int (f j)) (fun q => G.1.heap.size ≤ q) G.1 G.1.heap
  | _ => False
def aHp (G : aG) (H : Heap) (h : aH) : Prop := 16 ≤ h.2 ∧ H.size = G.1.heap.size + (h.2 - 16) ∧ (∀ q, q < G.1.heap.size → H[q]? = G.1.heap[q]?) ∧ (∀ k, 16 ≤ k → k < h.2 → va_at G.2.2.2 aCls (ad G k, trE G (h.1 k)) H) ∧ ∀ k e, k < 16 → h.1 k = .inl e → aCst G k (h.1 k)
def aLv (G : aG) (ls : Array Slot) (n : Nat) (l : aL) : Prop := ls.size = n ∧ l.length = n ∧ lv_wf ls ∧ ∀ (i : Nat) (v : Value), l[i]? = some (some v) → ls[i]? = some (Slot.val (up G v))
def aLs (G : aG) (l : aL) : List (Nat × Value) := (List.range l.length).filterMap (fun i => match l[i]? with
  | some (some v) => some (i, up G v)
  | _ => none)
theorem ad_hi {G : aG} {k : Nat} (h : 16 ≤ k) : ad G k = G.1.heap.size + (k - 16) := by unfold ad; rw [if_neg (by omega)]
theorem ad_lo {G : aG} {k : Nat} (h : k < 16) : ad G k = G.2.1 k := by unfold ad; rw [if_pos h]
theorem up_cat (G : aG) (v : Value) : (up G v).category = v.category := by cases v <;> rfl
theorem up_cats (G : aG) (vs : List Value) : ((vs.map (up G)).map fun v => v.category).sum = aCat vs := by
  unfold aCat
  rw [List.map_map]
  congr 1
  apply List.map_congr_left
  intro v _
  exact up_cat G v
theorem up_fit {G : aG} {ty : FieldType} {v : Value} (h1 : narrow ty v = v) (h2 : fits ty v = true) : narrow ty (up G v) = up G v ∧ fits ty (up G v) = true := by
  cases v with
  | ref a =>
    cases ty <;> first | exact ⟨rfl, rfl⟩ | exact absurd h2 (by simp [fits])
  | _ => exact ⟨h1, h2⟩
theorem up_rf (G : aG) (r : Option Nat) : up G (aRef r) = va_rf (r.map (ad G)) := by cases r <;> rfl
theorem aTys_at (G : aG) {t : Nat} (h : t < 7) : (aTys G)[t]? = some (G.2.2.1 t, aTy t) := by
  unfold aTys
  rw [List.getElem?_map, List.getElem?_range h]
  rfl
theorem aHp.at {G : aG} {H : Heap} {h : aH} (X : aHp G H h) {k : Nat} {e : va_E} (h1 : 16 ≤ k) (h2 : k < h.2) (he : h.1 k = e) : va_at G.2.2.2 aCls (ad G k, trE G e) H := by
  subst he; exact X.2.2.2.1 k h1 h2
theorem aHp.put {G : aG} {H H' : Heap} {h : aH} (X : aHp G H h) {a : Nat} {e : va_E} (h1 : 16 ≤ a) (h2 : a < h.2) (hz : H'.size = H.size) (ho : ∀ q, q ≠ ad G a → H'[q]? = H[q]?) (he : va_at G.2.2.2 aCls (ad G a, trE G e) H') : aHp G H' (aUp h a e) := by
  obtain ⟨x1, x2, x3, x4, x5⟩ := X
  refine ⟨x1, hz.trans x2, fun q hq => ?_, fun k k1 k2 => ?_, fun k u k1 hu => ?_⟩
  · rw [ho q (by rw [ad_hi h1]; omega)]; exact x3 q hq
  · by_cases hk : k = a
    · subst hk
      show va_at _ _ (_, trE G (va_up h.1 k e k)) _
      rw [va_up_self]; exact he
    · show va_at _ _ (_, trE G (va_up h.1 a e k)) _
      rw [va_up_ne _ _ hk]
      exact (x4 k k1 k2).kept (ho _ (by show ad G k ≠ ad G a; rw [ad_hi k1, ad_hi h1]; omega))
  · have hk : k ≠ a := by omega
    have : (aUp h a e).1 k = h.1 k := va_up_ne _ _ hk
    rw [this] at hu ⊢
    exact x5 k u k1 hu
theorem aHp.new {G : aG} {H H' : Heap} {h : aH} (X : aHp G H h) {e : va_E} (hz : H'.size = H.size + 1) (ho : ∀ q, q < H.size → H'[q]? = H[q]?) (he : va_at G.2.2.2 aCls (H.size, trE G e) H') : aHp G H' (aNew h e) := by
  obtain ⟨x1, x2, x3, x4, x5⟩ := X
  refine ⟨Nat.le_succ_of_le x1, ?_, fun q hq => ?_, fun k k1 k2 => ?_, fun k u k1 hu => ?_⟩
  · show _ = _ + (h.2 + 1 - 16); omega
  · rw [ho q (by omega)]; exact x3 q hq
  · by_cases hk : k = h.2
    · subst hk
      show va_at _ _ (_, trE G (va_up h.1 h.2 e h.2)) _
      rw [va_up_self, ad_hi k1, ← x2]; exact he
    · show va_at _ _ (_, trE G (va_up h.1 h.2 e k)) _
      have k2' : k < h.2 + 1 := k2
      rw [va_up_ne _ _ hk]
      exact (x4 k k1 (by omega)).kept (ho _ (by show ad G k < _; rw [ad_hi k1]; omega))
  · have hk : k ≠ h.2 := by omega
    have : (aNew h e).1 k = h.1 k := va_up_ne _ _ hk
    rw [this] at hu ⊢
    exact x5 k u k1 hu
theorem aHp.ref {G : aG} {H : Heap} {h : aH} (X : aHp G H h) : ad G h.2 = H.size := by rw [ad_hi X.1, X.2.1]
theorem aLs_mem {G : aG} {l : aL} {i : Nat} {v : Value} (h : l[i]? = some (some v)) : (i, up G v) ∈ aLs G l := by
  refine List.mem_filterMap.mpr ⟨i, List.mem_range.mpr ?_, ?_⟩
  · exact (List.getElem?_eq_some_iff.mp h).1
  · rw [h]
theorem aLv.has {G : aG} {ls : Array Slot} {n : Nat} {l : aL} (h : aLv G ls n l) : lv_has ls n (aLs G l) := by
  refine ⟨h.1, h.2.2.1, fun q hq => ?_⟩
  obtain ⟨i, -, hi⟩ := List.mem_filterMap.mp hq
  split at hi
  · rename_i v hv
    cases hi
    exact h.2.2.2 i v hv
  · cases hi
theorem aLv.at {G : aG} {ls : Array Slot} {n : Nat} {l : aL} (h : aLv G ls n l) {i : Nat} {v : Value} (hi : l[i]? = some (some v)) : ls[i]? = some (.val (up G v)) := h.2.2.2 i v hi
theorem aClr_len (l : aL) (i : Nat) : (aClr l i).length = l.length := by
  cases i with
  | zero => rfl
  | succ i =>
    rw [show aClr l (i + 1) = (match l[i]? with
      | some (some (.long _)) => l.set i none
      | some (some (.double _)) => l.set i none
      | _ => l) from rfl]
    split
    · exact List.length_set
    · exact List.length_set
    · rfl
theorem aClr_at {l : aL} {i j : Nat} {v : Value} (h : (aClr l i)[j]? = some (some v)) : l[j]? = some (some v) ∧ ¬ (j + 1 = i ∧ v.category = 2) := by
  cases i with
  | zero => exact ⟨h, by omega⟩
  | succ i =>
    rw [show aClr l (i + 1) = (match l[i]? with
      | some (some (.long _)) => l.set i none
      | some (some (.double _)) => l.set i none
      | _ => l) from rfl] at h
    split at h
    · rename_i x hx
      by_cases hj : j = i
      · subst hj
        rw [List.getElem?_set_self (List.getElem?_eq_some_iff.mp hx).1] at h
        cases h
      · rw [List.getElem?_set_ne (fun q => hj q.symm)] at h
        exact ⟨h, fun q => hj (by omega)⟩
    · rename_i x hx
      by_cases hj : j = i
      · subst hj
        rw [List.getElem?_set_self (List.getElem?_eq_some_iff.mp hx).1] at h
        cases h
      · rw [List.getElem?_set_ne (fun q => hj q.symm)] at h
        exact ⟨h, fun q => hj (by omega)⟩
    · rename_i hx hx2
      refine ⟨h, fun q => ?_⟩
      have hj : j = i := by omega
      subst hj
      cases v with
      | long x => exact hx x h
      | double x => exact hx2 x h
      | _ => exact absurd q.2 (by simp [Value.category])
theorem aSet_len (l : aL) (i : Nat) (v : Value) : (aSet l i v).length = l.length := by
  unfold aSet
  split <;> simp [aClr_len]
theorem aLv.set1 {G : aG} {ls' : Array Slot} {n : Nat} {l : aL} {i : Nat} {v : Value} (hn : l.length = n) (hi : i < n) (hc : v.category = 1) (h : lv_has ls' n ((i, up G v) :: (aLs G l).filter (fun q => !(q.1 == i) && !(q.1 + 1 == i && q.2.category == 2)))) : aLv G ls' n (aSet l i v) := by
  refine ⟨h.1, (aSet_len l i v).trans hn, h.2.1, fun j w hj => ?_⟩
  have hs : aSet l i v = (aClr l i).set i (some v) := by
    cases v <;> first | rfl | simp [Value.category] at hc
  rw [hs] at hj
  by_cases hji : j = i
  · subst hji
    rw [List.getElem?_set_self (by rw [aClr_len]; omega)] at hj
    cases hj
    exact h.2.2 (j, up G v) List.mem_cons_self
  · rw [List.getElem?_set_ne (fun q => hji q.symm)] at hj
    obtain ⟨h1, h2⟩ := aClr_at hj
    refine h.2.2 (j, up G w) (List.mem_cons_of_mem _ (List.mem_filter.mpr ⟨aLs_mem h1, ?_⟩))
    simp only [Bool.and_eq_true, Bool.not_eq_true', beq_eq_false_iff_ne, ne_eq, Bool.and_eq_false_iff, up_cat]
    refine ⟨hji, ?_⟩
    by_cases q : j + 1 = i
    · exact Or.inr (fun z => h2 ⟨q, z⟩)
    · exact Or.inl q
theorem aLv.set2 {G : aG} {ls' : Array Slot} {n : Nat} {l : aL} {i : Nat} {x : Int64} (hn : l.length = n) (hi : i + 1 < n) (h : lv_has ls' n ((i, .long x) :: (aLs G l).filter (fun q => !(q.1 == i) && (!(q.1 == i + 1) && !(q.1 + 1 == i && q.2.category == 2))))) : aLv G ls' n (aSet l i (.long x)) := by
  refine ⟨h.1, (aSet_len l i _).trans hn, h.2.1, fun j w hj => ?_⟩
  have hs : aSet l i (.long x) = ((aClr l i).set i (some (.long x))).set (i + 1) none := rfl
  rw [hs] at hj
  by_cases hj1 : j = i + 1
  · subst hj1
    rw [List.getElem?_set_self (by rw [List.length_set, aClr_len]; omega)] at hj
    cases hj
  · rw [List.getElem?_set_ne (fun q => hj1 q.symm)] at hj
    by_cases hji : j = i
    · subst hji
      rw [List.getElem?_set_self (by rw [aClr_len]; omega)] at hj
      cases hj
      exact h.2.2 (j, .long x) List.mem_cons_self
    · rw [List.getElem?_set_ne (fun q => hji q.symm)] at hj
      obtain ⟨h1, h2⟩ := aClr_at hj
      refine h.2.2 (j, up G w) (List.mem_cons_of_mem _ (List.mem_filter.mpr ⟨aLs_mem h1, ?_⟩))
      simp only [Bool.and_eq_true, Bool.not_eq_true', beq_eq_false_iff_ne, ne_eq, Bool.and_eq_false_iff, up_cat]
      refine ⟨hji, hj1, ?_⟩
      by_cases q : j + 1 = i
      · exact Or.inr (fun z => h2 ⟨q, z⟩)
      · exact Or.inl q
theorem aLv.inc {G : aG} {ls' : Array Slot} {n : Nat} {l : aL} {i : Nat} {a b : Int32} (hn : l.length = n) (ha : l[i]? = some (some (.int a))) (h : lv_has ls' n ((i, .int b) :: (aLs G l).filter (fun q => !(q.1 == i) && !(q.1 + 1 == i && q.2.category == 2)))) (hw : ∀ j w, l[j]? = some (some w) → j + 1 = i → ¬ w.category = 2) : aLv G ls' n (l.set i (some (.int b))) := by
  refine ⟨h.1, (List.length_set).trans hn, h.2.1, fun j w hj => ?_⟩
  by_cases hji : j = i
  · subst hji
    rw [List.getElem?_set_self (List.getElem?_eq_some_iff.mp ha).1] at hj
    cases hj
    exact h.2.2 (j, .int b) List.mem_cons_self
  · rw [List.getElem?_set_ne (fun q => hji q.symm)] at hj
    refine h.2.2 (j, up G w) (List.mem_cons_of_mem _ (List.mem_filter.mpr ⟨aLs_mem hj, ?_⟩))
    simp only [Bool.and_eq_true, Bool.not_eq_true', beq_eq_false_iff_ne, ne_eq, Bool.and_eq_false_iff, up_cat]
    refine ⟨hji, ?_⟩
    by_cases q : j + 1 = i
    · exact Or.inr (hw j w hj q)
    · exact Or.inl q
/-- at an int's place no long stands before -/
theorem aLv.noLong {G : aG} {ls : Array Slot} {n : Nat} {l : aL} (h : aLv G ls n l) {i : Nat} {a : Int32} (ha : l[i]? = some (some (.int a))) : ∀ j w, l[j]? = some (some w) → j + 1 = i → ¬ w.category = 2 := by
  intro j w hj hji hc
  have h1 := h.at hj
  have h2 := h.2.2.1.1 j (up G w) h1 (by rw [up_cat]; exact hc)
  rw [hji, h.at ha] at h2
  cases h2
theorem aGet_at {cd : List aE} {k : Nat} {i : Instr} {x y : Nat} (h : aGet cd k = some (i, x, y)) : ∃ len w, cd[k]? = some (aPc cd k, i, len, x, y, w) := by
  unfold aGet at h
  unfold aPc
  split at h
  · rename_i pc i' len x' y' w hk
    cases h
    exact ⟨len, w, by rw [hk]⟩
  · cases h
end
section
/-! ===== the AM's steps are the machine's: instructions without a heap ===== -/
section SIM
variable {G : aG} {pq : Nat → Option aM} {p : Program} {l : Launch} {e : Env} {R : Room} {s : State} {m : MethodId} {args : Array Value} {below : List Frame} {meth : Method} {c : Code} {mi : aM} {Q' : State → Prop}
def aCtx (G : aG) (pq : Nat → Option aM) (p : Program) (s : State) (m : MethodId) (args : Array Value) (meth : Method) (c : Code) (mi : aM) : Prop :=
  p.tables.exec = Jvm.exec ∧ c.code = mi.bs ∧ c.maxLocals = mi.nL ∧ meth.sig.returnType = mi.rt ∧ meth.locks = false ∧ s.vm.findClass mi.own = some m.cls ∧ (mi.ini = true → meth.name = "<init>") ∧ (∀ w ∈ lw_good, w.before args s = true) ∧ aV G s ∧ (∀ k e, mi.cd[k]? = some e → eChk pq mi k e = true) ∧ G.1.heap.size ≤ s.heap.size
def aW (G : aG) (p : Program) (l : Launch) (e : Env) (R : Room) (s : State) (m : MethodId) (args : Array Value) (below : List Frame) (meth : Method) (c : Code) (mi : aM) (Q' : State → Prop) : aP := fun k lo st h c1 s1 =>
  ∀ (H : Heap) (ls : Array Slot) (locs : List Loc), aHp G H h → aLv G ls mi.nL lo → (∀ q ∈ locs, G.1.heap.size ≤ q.base) → W p l e R s m args below meth c H locs c1 s1 Q' (F0 m (aPc mi.cd k) ls (st.map (up G)))
theorem aCtx.at (X : aCtx G pq p s m args meth c mi) {k x y : Nat} {i : Instr} (hg : aGet mi.cd k = some (i, x, y)) : ∃ len w, decode mi.bs (aPc mi.cd k) = .ok (i, len) ∧ (eFall i = true → aPc mi.cd (k + 1) = aPc mi.cd k + len) ∧ (eSw i = false → len = kLen i) ∧ lChk pq mi (aPc mi.cd k) i x y w = true := by
  obtain ⟨len, w, hk⟩ := aGet_at hg
  have h := X.2.2.2.2.2.2.2.2.2.1 k _ hk
  simp only [eChk, Bool.and_eq_true, decide_eq_true_eq, Bool.or_eq_true, Bool.not_eq_true'] at h
  obtain ⟨⟨⟨h1, h2⟩, h3⟩, h4⟩ := h
  refine ⟨len, w, h1, fun q => ?_, fun q => ?_, h4⟩
  · rcases h2 with z | z
    · rw [q] at z; cases z
    · exact z
  · rcases h3 with z | z
    · rw [q] at z; cases z
    · exact z
theorem aCtx.go (X : aCtx G pq p s m args meth c mi) {k x y : Nat} {i : Instr} (hg : aGet mi.cd k = some (i, x, y)) (h1 : eFall i = true) (h2 : eSw i = false) : decode mi.bs (aPc mi.cd k) = .ok (i, kLen i) ∧ aPc mi.cd (k + 1) = aPc mi.cd k + kLen i ∧ ∃ w, lChk pq mi (aPc mi.cd k) i x y w = true := by
  obtain ⟨len, w, a, b, d, f⟩ := X.at hg
  have hl := d h2
  subst hl
  exact ⟨a, b h1, w, f⟩
variable {cl : aC} {C S : Nat} {rt : Option FieldType} {ini : Bool} {Q : aQ}
theorem sm_0 (X : aCtx G pq p s m args meth c mi) : aRul cl mi.cd C S rt ini Q (aW G p l e R s m args below meth c mi Q') 0 := by
  intro k i x y v lo st h c1 s1 hg hf hP H ls locs hH hl hq
  have K := hP H ls locs hH hl hq
  unfold kConst at hf
  split at hf <;> cases hf <;> (obtain ⟨hd, hn, -⟩ := X.go hg rfl rfl; rw [hn] at K)
  · exact lv_iconst X.1 X.2.1 hd rfl K
  · exact lv_bipush X.1 X.2.1 hd rfl K
  · exact lv_sipush X.1 X.2.1 hd rfl K
  · exact lv_lconst X.1 X.2.1 hd rfl K
  · exact lv_null X.1 X.2.1 hd K
theorem sm_1 (X : aCtx G pq p s m args meth c mi) : aRul cl mi.cd C S rt ini Q (aW G p l e R s m args below meth c mi Q') 1 := by
  intro k i x y j t v lo st h c1 s1 hg hf hj ht hP H ls locs hH hl hq
  have K := hP H ls locs hH hl hq
  have hls := hl.at hj
  unfold kLoad at hf
  split at hf <;> cases hf <;> (obtain ⟨hd, hn, -⟩ := X.go hg rfl rfl; rw [hn] at K) <;> cases v <;> first | (simp [kTy] at ht; done) | skip
  · exact lv_iload X.1 X.2.1 hd hls K
  · exact lv_iload_n X.1 X.2.1 hd rfl hls K
  · exact lv_lload X.1 X.2.1 hd hls K
  · exact lv_lload_n X.1 X.2.1 hd rfl hls K
  · exact lv_aloadN X.1 X.2.1 hd hls K
  · exact lv_aload X.1 X.2.1 hd hls K
  · exact lv_aload_nN X.1 X.2.1 hd rfl hls K
  · exact lv_aload_n X.1 X.2.1 hd rfl hls K
theorem sm_2 (X : aCtx G pq p s m args meth c mi) : aRul cl mi.cd C S rt ini Q (aW G p l e R s m args below meth c mi Q') 2 := by
  intro k i x y j t v lo st h c1 s1 hg hf ht hj hP H ls locs hH hl hq
  have K := fun ls' hl' => hP H ls' locs hH hl' hq
  have hlen := hl.2.1
  unfold kStore at hf
  split at hf <;> cases hf <;> (obtain ⟨hd, hn, -⟩ := X.go hg rfl rfl; rw [hn] at K) <;> cases v <;> first | (simp [kTy] at ht; done) | skip
  · exact lv_istore X.1 X.2.1 hd hl.has (by omega) rfl (fun ls' h' => K ls' (aLv.set1 hlen (by omega) rfl h'))
  · exact lv_istore_n X.1 X.2.1 hd rfl hl.has (by omega) rfl (fun ls' h' => K ls' (aLv.set1 hlen (by omega) rfl h'))
  · exact lv_lstore X.1 X.2.1 hd hl.has (by omega) rfl (fun ls' h' => K ls' (aLv.set2 hlen (by omega) h'))
  · exact lv_lstore_n X.1 X.2.1 hd rfl hl.has (by omega) rfl (fun ls' h' => K ls' (aLv.set2 hlen (by omega) h'))
  · exact lv_astoreN X.1 X.2.1 hd hl.has (by omega) rfl (fun ls' h' => K ls' (aLv.set1 hlen (by omega) rfl h'))
  · exact lv_astore X.1 X.2.1 hd hl.has (by omega) rfl (fun ls' h' => K ls' (aLv.set1 hlen (by omega) rfl h'))
  · exact lv_astore_nN X.1 X.2.1 hd rfl hl.has (by omega) rfl (fun ls' h' => K ls' (aLv.set1 hlen (by omega) rfl h'))
  · exact lv_astore_n X.1 X.2.1 hd rfl hl.has (by omega) rfl (fun ls' h' => K ls' (aLv.set1 hlen (by omega) rfl h'))
theorem sm_3 (X : aCtx G pq p s m args meth c mi) : aRul cl mi.cd C S rt ini Q (aW G p l e R s m args below meth c mi Q') 3 := by
  intro k i x y f a b lo st h c1 s1 hg hf hP H ls locs hH hl hq
  have K := hP H ls locs hH hl hq
  unfold kBin at hf
  split at hf <;> cases hf <;> (obtain ⟨hd, hn, -⟩ := X.go hg rfl rfl; rw [hn] at K)
  · exact lv_iadd X.1 X.2.1 hd K
  · exact lv_isub X.1 X.2.1 hd K
  · exact lv_imul X.1 X.2.1 hd K
  · exact lv_iand X.1 X.2.1 hd K
  · exact lv_ior X.1 X.2.1 hd K
  · exact lv_ixor X.1 X.2.1 hd K
  · exact lv_ishl X.1 X.2.1 hd K
  · exact lv_ishr X.1 X.2.1 hd K
  · exact lv_iushr X.1 X.2.1 hd rfl K
theorem sm_4 (X : aCtx G pq p s m args meth c mi) : aRul cl mi.cd C S rt ini Q (aW G p l e R s m args below meth c mi Q') 4 := by
  intro k i x y f a b lo st h c1 s1 hg hf hb0 hP H ls locs hH hl hq
  have K := hP H ls locs hH hl hq
  unfold kDiv at hf
  split at hf <;> cases hf <;> (obtain ⟨hd, hn, -⟩ := X.go hg rfl rfl; rw [hn] at K)
  · exact lv_idiv X.1 X.2.1 hd hb0 K
  · exact lv_irem X.1 X.2.1 hd hb0 K
theorem sm_5 (X : aCtx G pq p s m args meth c mi) : aRul cl mi.cd C S rt ini Q (aW G p l e R s m args below meth c mi Q') 5 := by
  intro k i x y f a b lo st h c1 s1 hg hf hP H ls locs hH hl hq
  have K := hP H ls locs hH hl hq
  unfold kBinL at hf
  split at hf <;> cases hf <;> (obtain ⟨hd, hn, -⟩ := X.go hg rfl rfl; rw [hn] at K)
  · exact lv_ladd X.1 X.2.1 hd K
  · exact lv_lsub X.1 X.2.1 hd K
  · exact lv_lmul X.1 X.2.1 hd K
  · exact lv_land X.1 X.2.1 hd K
  · exact lv_lor X.1 X.2.1 hd K
  · exact lv_lxor X.1 X.2.1 hd K
theorem sm_6 (X : aCtx G pq p s m args meth c mi) : aRul cl mi.cd C S rt ini Q (aW G p l e R s m args below meth c mi Q') 6 := by
  intro k i x y f a b lo st h c1 s1 hg hf hP H ls locs hH hl hq
  have K := hP H ls locs hH hl hq
  unfold kShL at hf
  split at hf <;> cases hf <;> (obtain ⟨hd, hn, -⟩ := X.go hg rfl rfl; rw [hn] at K)
  · exact lv_lshl X.1 X.2.1 hd rfl K
  · exact lv_lshr X.1 X.2.1 hd rfl K
  · exact lv_lushr X.1 X.2.1 hd rfl K
theorem sm_7 (X : aCtx G pq p s m args meth c mi) : aRul cl mi.cd C S rt ini Q (aW G p l e R s m args below meth c mi Q') 7 := by
  intro k i x y f a lo st h c1 s1 hg hf hP H ls locs hH hl hq
  have K := hP H ls locs hH hl hq
  unfold kUn at hf
  split at hf <;> cases hf <;> (obtain ⟨hd, hn, -⟩ := X.go hg rfl rfl; rw [hn] at K)
  · exact lv_ineg X.1 X.2.1 hd K
  · exact lv_i2b X.1 X.2.1 hd rfl K
  · exact lv_i2c X.1 X.2.1 hd rfl K
theorem sm_8 (X : aCtx G pq p s m args meth c mi) : aRul cl mi.cd C S rt ini Q (aW G p l e R s m args below meth c mi Q') 8 := by
  intro k x y a lo st h c1 s1 hg hP H ls locs hH hl hq
  have K := hP H ls locs hH hl hq
  obtain ⟨hd, hn, -⟩ := X.go hg rfl rfl; rw [hn] at K
  exact lv_lneg X.1 X.2.1 hd K
theorem sm_9 (X : aCtx G pq p s m args meth c mi) : aRul cl mi.cd C S rt ini Q (aW G p l e R s m args below meth c mi Q') 9 := by
  intro k x y a lo st h c1 s1 hg hP H ls locs hH hl hq
  have K := hP H ls locs hH hl hq
  obtain ⟨hd, hn, -⟩ := X.go hg rfl rfl; rw [hn] at K
  exact lv_i2l X.1 X.2.1 hd rfl K
theorem sm_10 (X : aCtx G pq p s m args meth c mi) : aRul cl mi.cd C S rt ini Q (aW G p l e R s m args below meth c mi Q') 10 := by
  intro k x y a lo st h c1 s1 hg hP H ls locs hH hl hq
  have K := hP H ls locs hH hl hq
  obtain ⟨hd, hn, -⟩ := X.go hg rfl rfl; rw [hn] at K
  exact lv_l2i X.1 X.2.1 hd rfl K
theorem sm_11 (X : aCtx G pq p s m args meth c mi) : aRul cl mi.cd C S rt ini Q (aW G p l e R s m args below meth c mi Q') 11 := by
  intro k x y a b lo st h c1 s1 hg hP H ls locs hH hl hq
  have K := hP H ls locs hH hl hq
  obtain ⟨hd, hn, -⟩ := X.go hg rfl rfl; rw [hn] at K
  exact W.lcmp X.1 X.2.1 hd K
theorem sm_12 (X : aCtx G pq p s m args meth c mi) : aRul cl mi.cd C S rt ini Q (aW G p l e R s m args below meth c mi Q') 12 := by
  intro k j n x y a lo st h c1 s1 hg hj hP H ls locs hH hl hq
  have K := fun ls' hl' => hP H ls' locs hH hl' hq
  obtain ⟨hd, hn, -⟩ := X.go hg rfl rfl; rw [hn] at K
  obtain ⟨kk, hkk⟩ := List.getElem?_of_mem (aLs_mem (G := G) hj)
  have hlen := hl.2.1
  have hjl := (List.getElem?_eq_some_iff.mp hj).1
  exact lv_iinc X.1 X.2.1 hd hl.has hkk rfl (by omega) rfl (fun ls' h' => K ls' (aLv.inc hlen hj h' (hl.noLong hj)))
theorem sm_13 (X : aCtx G pq p s m args meth c mi) : aRul cl mi.cd C S rt ini Q (aW G p l e R s m args below meth c mi Q') 13 := by
  intro k x y v lo st h c1 s1 hg hv hP H ls locs hH hl hq
  have K := hP H ls locs hH hl hq
  obtain ⟨hd, hn, -⟩ := X.go hg rfl rfl; rw [hn] at K
  exact lv_dup X.1 X.2.1 hd (by rw [up_cat]; exact hv) K
theorem sm_14 (X : aCtx G pq p s m args meth c mi) : aRul cl mi.cd C S rt ini Q (aW G p l e R s m args below meth c mi Q') 14 := by
  intro k x y v lo st h c1 s1 hg hv hP H ls locs hH hl hq
  have K := hP H ls locs hH hl hq
  obtain ⟨hd, hn, -⟩ := X.go hg rfl rfl; rw [hn] at K
  exact lv_pop X.1 X.2.1 hd (by rw [up_cat]; exact hv) K
theorem sm_15 (X : aCtx G pq p s m args meth c mi) : aRul cl mi.cd C S rt ini Q (aW G p l e R s m args below meth c mi Q') 15 := by
  intro k x y v w lo st h c1 s1 hg hv hw hP H ls locs hH hl hq
  have K := hP H ls locs hH hl hq
  obtain ⟨hd, hn, -⟩ := X.go hg rfl rfl; rw [hn] at K
  exact lv_dup2_11 X.1 X.2.1 hd (by rw [up_cat]; exact hv) (by rw [up_cat]; exact hw) K
theorem sm_16 (X : aCtx G pq p s m args meth c mi) : aRul cl mi.cd C S rt ini Q (aW G p l e R s m args below meth c mi Q') 16 := by
  intro k x y v w lo st h c1 s1 hg hv hw hP H ls locs hH hl hq
  have K := hP H ls locs hH hl hq
  obtain ⟨hd, hn, -⟩ := X.go hg rfl rfl; rw [hn] at K
  exact lv_dup_x1 X.1 X.2.1 hd (by rw [up_cat]; exact hv) (by rw [up_cat]; exact hw) K
theorem sm_17 (X : aCtx G pq p s m args meth c mi) : aRul cl mi.cd C S rt ini Q (aW G p l e R s m args below meth c mi Q') 17 := by
  intro k co off x y a lo st h c1 s1 hg hT hF H ls locs hH hl hq
  obtain ⟨hd, hn, w, hk⟩ := X.go hg rfl rfl
  simp only [lChk, decide_eq_true_eq] at hk
  have KT := fun q => hT q H ls locs hH hl hq
  have KF := fun q => hF q H ls locs hH hl hq
  rw [hn] at KF
  cases co
  · exact lv_if_eq X.1 X.2.1 hd hk KT KF
  · exact lv_if_ne X.1 X.2.1 hd hk KT (fun q => KF (fun z => z q))
  · exact lv_if_lt X.1 X.2.1 hd hk KT KF
  · exact lv_if_ge X.1 X.2.1 hd hk KT KF
  · exact lv_if_gt X.1 X.2.1 hd hk KT KF
  · exact lv_if_le X.1 X.2.1 hd hk KT KF
theorem sm_18 (X : aCtx G pq p s m args meth c mi) : aRul cl mi.cd C S rt ini Q (aW G p l e R s m args below meth c mi Q') 18 := by
  intro k co off x y a b lo st h c1 s1 hg hT hF H ls locs hH hl hq
  obtain ⟨hd, hn, w, hk⟩ := X.go hg rfl rfl
  simp only [lChk, decide_eq_true_eq] at hk
  have KT := fun q => hT q H ls locs hH hl hq
  have KF := fun q => hF q H ls locs hH hl hq
  rw [hn] at KF
  cases co
  · exact lv_icmp_eq X.1 X.2.1 hd hk KT KF
  · exact lv_icmp_ne X.1 X.2.1 hd hk KT (fun q => KF (fun z => z q))
  · exact lv_icmp_lt X.1 X.2.1 hd hk KT KF
  · exact lv_icmp_ge X.1 X.2.1 hd hk KT KF
  · exact lv_icmp_gt X.1 X.2.1 hd hk KT KF
  · exact lv_icmp_le X.1 X.2.1 hd hk KT KF
theorem sm_19 (X : aCtx G pq p s m args meth c mi) : aRul cl mi.cd C S rt ini Q (aW G p l e R s m args below meth c mi Q') 19 := by
  intro k off x y lo st h c1 s1 hg hP H ls locs hH hl hq
  obtain ⟨len, w, hd, -, hlen, hk⟩ := X.at hg
  have hl3 := hlen rfl
  subst hl3
  simp only [lChk, decide_eq_true_eq] at hk
  exact lv_goto X.1 X.2.1 hd hk (hP H ls locs hH hl hq)
theorem sm_20 (X : aCtx G pq p s m args meth c mi) : aRul cl mi.cd C S rt ini Q (aW G p l e R s m args below meth c mi Q') 20 := by
  intro k off x y a lo st h c1 s1 hg hP H ls locs hH hl hq
  have K := hP H ls locs hH hl hq
  obtain ⟨hd, hn, -⟩ := X.go hg rfl rfl; rw [hn] at K
  exact lv_ifnull X.1 X.2.1 hd K
theorem sm_21 (X : aCtx G pq p s m args meth c mi) : aRul cl mi.cd C S rt ini Q (aW G p l e R s m args below meth c mi Q') 21 := by
  intro k off x y lo st h c1 s1 hg hP H ls locs hH hl hq
  obtain ⟨hd, hn, w, hk⟩ := X.go hg rfl rfl
  simp only [lChk, decide_eq_true_eq] at hk
  exact lv_ifnullN X.1 X.2.1 hd hk (hP H ls locs hH hl hq)
theorem sm_22 (X : aCtx G pq p s m args meth c mi) : aRul cl mi.cd C S rt ini Q (aW G p l e R s m args below meth c mi Q') 22 := by
  intro k off x y a lo st h c1 s1 hg hP H ls locs hH hl hq
  obtain ⟨hd, hn, w, hk⟩ := X.go hg rfl rfl
  simp only [lChk, decide_eq_true_eq] at hk
  exact lv_ifnonnull X.1 X.2.1 hd hk (hP H ls locs hH hl hq)
theorem sm_23 (X : aCtx G pq p s m args meth c mi) : aRul cl mi.cd C S rt ini Q (aW G p l e R s m args below meth c mi Q') 23 := by
  intro k off x y lo st h c1 s1 hg hP H ls locs hH hl hq
  have K := hP H ls locs hH hl hq
  obtain ⟨hd, hn, -⟩ := X.go hg rfl rfl; rw [hn] at K
  exact lv_ifnonnullN X.1 X.2.1 hd K
theorem sm_24 (X : aCtx G pq p s m args meth c mi) : aRul cl mi.cd C S rt ini Q (aW G p l e R s m args below meth c mi Q') 24 := by
  intro k d lo hi offs x y a t lo' st h c1 s1 hg hr ht hP H ls locs hH hl hq
  obtain ⟨len, w, hd, -, -, -⟩ := X.at hg
  exact lv_tableOut X.1 X.2.1 hd hr ht (hP H ls locs hH hl hq)
theorem sm_25 (X : aCtx G pq p s m args meth c mi) : aRul cl mi.cd C S rt ini Q (aW G p l e R s m args below meth c mi Q') 25 := by
  intro k d lo hi offs x y a o t lo' st h c1 s1 hg h1 h2 ho ht hP H ls locs hH hl hq
  obtain ⟨len, w, hd, -, -, -⟩ := X.at hg
  exact lv_tableIn X.1 X.2.1 hd h1 h2 ho ht (hP H ls locs hH hl hq)
end SIM
end
section
/-! ===== the AM's steps are the machine's: the heap ===== -/
def aInB (q : vw_C) : Bool := (u_ws q.1 q.2.1 q.2.2).all (fun w => decide (w ∈ lw_tbl) && goodWord w)
def aIsB (q : vw_C) : Bool := decide (Cond.instantiable q.1 q.2.2 ∈ lw_tbl) && goodWord (Cond.instantiable q.1 q.2.2) && decide (Cond.initialized q.1 ∈ lw_tbl) && goodWord (Cond.initialized q.1)
theorem aInB_0 : aInB (RJ4, TJ4, 4) = true := by decide +kernel
theorem aIsB_0 : aIsB (RJ4, TJ4, 4) = true := by decide +kernel
theorem aInB_1 : aInB (RX0, TX0, 3) = true := by decide +kernel
theorem aIsB_1 : aIsB (RX0, TX0, 3) = true := by decide +kernel
theorem aInB_2 : aInB (RX1, TX1, 4) = true := by decide +kernel
theorem aIsB_2 : aIsB (RX1, TX1, 4) = true := by decide +kernel
theorem aInB_3 : aInB (RX3, TX3, 8) = true := by decide +kernel
theorem aIsB_3 : aIsB (RX3, TX3, 8) = true := by decide +kernel
theorem aInB_4 : aInB (RX4, TX4, 6) = true := by decide +kernel
theorem aIsB_4 : aIsB (RX4, TX4, 6) = true := by decide +kernel
theorem aInB_5 : aInB (RX5, TX5, 12) = true := by decide +kernel
theorem aIsB_5 : aIsB (RX5, TX5, 12) = true := by decide +kernel
theorem aInB_6 : aInB (RX7, TX7, 5) = true := by decide +kernel
theorem aIsB_6 : aIsB (RX7, TX7, 5) = true := by decide +kernel
theorem aInB_7 : aInB (RX8, TX8, 8) = true := by decide +kernel
theorem aIsB_7 : aIsB (RX8, TX8, 8) = true := by decide +kernel
theorem aInB_8 : aInB (RX9, TX9, 31) = true := by decide +kernel
theorem aIsB_8 : aIsB (RX9, TX9, 31) = true := by decide +kernel
theorem aInB_of : ∀ (ci : Nat) {q : vw_C}, aCls[ci]? = some q → aInB q = true
  | 0, _, h => by cases h; exact aInB_0
  | 1, _, h => by cases h; exact aInB_1
  | 2, _, h => by cases h; exact aInB_2
  | 3, _, h => by cases h; exact aInB_3
  | 4, _, h => by cases h; exact aInB_4
  | 5, _, h => by cases h; exact aInB_5
  | 6, _, h => by cases h; exact aInB_6
  | 7, _, h => by cases h; exact aInB_7
  | 8, _, h => by cases h; exact aInB_8
  | _ + 9, _, h => by simp [aCls, vwCl] at h
theorem aIsB_of : ∀ (ci : Nat) {q : vw_C}, aCls[ci]? = some q → aIsB q = true
  | 0, _, h => by cases h; exact aIsB_0
  | 1, _, h => by cases h; exact aIsB_1
  | 2, _, h => by cases h; exact aIsB_2
  | 3, _, h => by cases h; exact aIsB_3
  | 4, _, h => by cases h; exact aIsB_4
  | 5, _, h => by cases h; exact aIsB_5
  | 6, _, h => by cases h; exact aIsB_6
  | 7, _, h => by cases h; exact aIsB_7
  | 8, _, h => by cases h; exact aIsB_8
  | _ + 9, _, h => by simp [aCls, vwCl] at h
theorem aNm_of : ∀ (ci : Nat) {q : vw_C}, aCls[ci]? = some q → ∀ a, a < q.2.2 → ∀ b, b < q.2.2 → a ≠ b → (q.2.1 a).2.1 ≠ (q.2.1 b).2.1
  | 0, _, h => by cases h; exact nmJ4
  | 1, _, h => by cases h; exact nmX0
  | 2, _, h => by cases h; exact nmX1
  | 3, _, h => by cases h; exact nmX3
  | 4, _, h => by cases h; exact nmX4
  | 5, _, h => by cases h; exact nmX5
  | 6, _, h => by cases h; exact nmX7
  | 7, _, h => by cases h; exact nmX8
  | 8, _, h => by cases h; exact nmX9
  | _ + 9, _, h => by simp [aCls, vwCl] at h
theorem aTyk_of : ∀ (ci : Nat) {q : vw_C}, aCls[ci]? = some q → ∃ ty : Nat → FieldType, ∀ k, k < q.2.2 → parseFieldDescriptor (q.2.1 k).2.2.1 = some (ty k)
  | 0, _, h => by cases h; exact ⟨_, tyJ4_ok⟩
  | 1, _, h => by cases h; exact ⟨_, tyX0_ok⟩
  | 2, _, h => by cases h; exact ⟨_, tyX1_ok⟩
  | 3, _, h => by cases h; exact ⟨_, tyX3_ok⟩
  | 4, _, h => by cases h; exact ⟨_, tyX4_ok⟩
  | 5, _, h => by cases h; exact ⟨_, tyX5_ok⟩
  | 6, _, h => by cases h; exact ⟨_, tyX7_ok⟩
  | 7, _, h => by cases h; exact ⟨_, tyX8_ok⟩
  | 8, _, h => by cases h; exact ⟨_, tyX9_ok⟩
  | _ + 9, _, h => by simp [aCls, vwCl] at h
theorem aIn_of {ci : Nat} {q : vw_C} (h : aCls[ci]? = some q) : ∀ w ∈ u_ws q.1 q.2.1 q.2.2, w ∈ lw_good := by
  intro w hw
  have h1 := List.all_eq_true.mp (aInB_of ci h) w hw
  simp only [Bool.and_eq_true, decide_eq_true_eq] at h1
  exact lw_good_in h1.1 h1.2
theorem aArrB : (Cond.arrayClass .int ∈ lw_tbl ∧ Cond.arrayClass .boolean ∈ lw_tbl) ∧ (Cond.arrayClass .byte ∈ lw_tbl ∧ Cond.arrayClass .long ∈ lw_tbl) := by decide +kernel
theorem aFT_at {ci k : Nat} {q : String × String × String × Bool} (h : aFT ci k = some q) : ∃ r : vw_C, aCls[ci]? = some r ∧ k < r.2.2 ∧ r.2.1 k = q := by
  unfold aFT at h
  split at h
  · rename_i r hr
    split at h
    · rename_i hk
      cases h
      exact ⟨r, hr, hk, rfl⟩
    · cases h
  · cases h
theorem aRefTy (t : Nat) (h1 : 4 ≤ t) (h2 : t < 7) : (aTy t).isReference = true := by
  rcases (show t = 4 ∨ t = 5 ∨ t = 6 by omega) with rfl | rfl | rfl <;> rfl
theorem defUp (G : aG) (ty : FieldType) : up G (defaultValue ty) = defaultValue ty := by cases ty <;> rfl
section SIM
variable {G : aG} {pq : Nat → Option aM} {p : Program} {l : Launch} {e : Env} {R : Room} {s : State} {m : MethodId} {args : Array Value} {below : List Frame} {meth : Method} {c : Code} {mi : aM} {Q' : State → Prop}
variable {cl : aC} {C S : Nat} {rt : Option FieldType} {ini : Bool} {Q : aQ}
theorem aCtx.K (X : aCtx G pq p s m args meth c mi) : va_K G.2.2.2 aCls (aTys G) s := X.2.2.2.2.2.2.2.2.1.2.1
theorem aCtx.ts (X : aCtx G pq p s m args meth c mi) : ∀ w ∈ lw_good, w.before args s = true := X.2.2.2.2.2.2.2.1
theorem aCtx.own (X : aCtx G pq p s m args meth c mi) : s.vm.findClass mi.own = some m.cls := X.2.2.2.2.2.1
theorem aCtx.alike (X : aCtx G pq p s m args meth c mi) : G.1.vm.Alike s.vm := X.2.2.2.2.2.2.2.2.1.1
theorem sm_26 (X : aCtx G pq p s m args meth c mi) : aRul cl mi.cd C S rt ini Q (aW G p l e R s m args below meth c mi Q') 26 := by
  intro k j ci f a fs v lo st h c1 s1 hg h16 hlt he hv hP H ls locs hH hl hq
  have K := hP H ls locs hH hl hq
  obtain ⟨hd, hn, w, hk⟩ := X.go hg rfl rfl
  rw [hn] at K
  simp only [lChk] at hk
  split at hk
  · rename_i q hq1
    obtain ⟨r, hr, hf, rfl⟩ := aFT_at hq1
    have hat := hH.at h16 hlt he
    have hPc : va_P G.2.2.2 aCls [(ad G a, trE G (.inr (ci, fs)))] H := fun i q hi => by
      have hz : i < 1 := (List.getElem?_eq_some_iff.mp hi).1
      rw [show i = 0 by omega] at hi
      cases hi
      exact hat
    exact va_get (cl := aCls) (D := G.2.2.2) (tys := aTys G) (C := r.1) (T := r.2.1) (N := r.2.2) (ci := ci) (own := mi.own) (fs := fs.map (up G)) X.1 X.2.1 X.ts (aIn_of hr) X.own X.K hPc 0 rfl hr f hf (X.ts _ (wIs_in hk)) (fun _ h => h) (by rw [List.getElem?_map, hv]; rfl) hd K
  · cases hk
theorem aPut {cc : ByteArray} (hexec : p.tables.exec = Jvm.exec) (hb : c.code = cc) {H : Heap} {locs : List Loc} {cells slots pc : Nat} {ls : Array Slot} {rest : List Value} {own : String} {r : vw_C} {ci index : Nat} (hts : ∀ w ∈ lw_good, w.before args s = true) (hown : s.vm.findClass own = some m.cls) (hK : va_K G.2.2.2 aCls (aTys G) s) {a : Nat} {fs : List Value} (hat : va_at G.2.2.2 aCls (a, .inr (ci, fs)) H) (hc : aCls[ci]? = some r) (k : Nat) (hk : k < r.2.2) (hlink : (Cond.fieldLink own index (r.2.1 k).1 (r.2.1 k).2.1 (r.2.1 k).2.2.1).before args s = true) (hfin : (r.2.1 k).2.2.2 = false ∨ (meth.name = "<init>" ∧ (r.2.1 k).1 = own)) {ty : FieldType} {v : Value} (hd : parseFieldDescriptor (r.2.1 k).2.2.1 = some ty) (hn : narrow ty v = v) (hfit : fits ty v = true) (hl : k < fs.length)
    (hdg : decode cc pc = .ok (.putfield index, 3)) (kk : ∀ (H1 : Heap) (f : Nat), H1.size = H.size → (∀ q, q ≠ a → H1[q]? = H[q]?) → va_at G.2.2.2 aCls (a, .inr (ci, fs.set k v)) H1 → W p l e R s m args below meth c H1 (locs ++ [⟨a, f⟩]) cells slots Q' (F0 m (pc + 3) ls rest)) : W p l e R s m args below meth c H locs cells slots Q' (F0 m pc ls (v :: .ref a :: rest)) := by
  obtain ⟨ty0, hty⟩ := aTyk_of ci hc
  have hin := aIn_of hc
  have hap := va_apart (own := own) hts hin ty0 hty (aNm_of ci hc) hK hc
  obtain ⟨r', h1, cell, q1, q2, q3, q4⟩ := hat
  have hr : r' = r := Option.some.inj (h1.symm.trans hc)
  subst hr
  obtain ⟨hS, hfc, kC, hkC, hkind⟩ := hK.1 ci _ hc
  obtain ⟨cf, kf, fi, f, hi, hsl⟩ := hS k hk
  have hlay := hts _ (hin _ (u_in_lay hk))
  have hst := (u_facts hfc hkC (u_lays hts hin hk) hi).1
  have fin : ∀ H' : Heap, H'[a]? = some (cell.setSlot f.slot v) → H'.size = H.size → (∀ q, q ≠ a → H'[q]? = H[q]?) → W p l e R s m args below meth c H' (locs ++ [⟨a, f.slot⟩]) cells slots Q' (F0 m (pc + 3) ls rest) := by
    intro H' e1 e2 e3
    rw [hsl] at e1 ⊢
    exact kk H' _ e2 e3 ⟨_, hc, t_OB.to (V := updV (vp_V fs) k v) ⟨_, e1, q2, q3, t_set q4 hap hk v⟩ (fun j _ => vp_updV_set hl v j)⟩
  by_cases hf0 : (r'.2.1 k).2.2.2 = false
  · unfold u_lay at hlay
    rw [if_neg (by rw [hf0]; decide)] at hlay
    have h6 := u_store hfc hkC hkind hlay hi hd hn hfit
    exact W.putK hexec hb (f := f) ⟨hown, hlink, ⟨_, _, _, hi⟩, hst⟩ (by rw [q2]; exact h6) q1 q3 (by rw [hsl]; exact k2_hasslot (q4 k hk)) rfl rfl hdg fin
  · have hf1 : (r'.2.1 k).2.2.2 = true := by
      cases hb2 : (r'.2.1 k).2.2.2
      · exact absurd hb2 hf0
      · rfl
    obtain ⟨hin2, hdecl⟩ := hfin.resolve_left hf0
    unfold u_lay at hlay
    rw [if_pos hf1] at hlay
    have hcf : m.cls = cf := by
      obtain ⟨_, _, c', _, _, _, -, -, hf', -, -, -, hown2, -⟩ := Cond.laysFinal_spec hlay
      have e1 : c' = cf := by have := hi.symm.trans hf'; simp at this; exact this.1.symm
      rw [hdecl] at hown2
      rw [← e1]; exact Option.some.inj (hown.symm.trans hown2)
    have h6 := u_fits hfc hkC hkind (Or.inr hlay) hi hd hn hfit
    exact W.putFinK hexec hb hown hlink hi hst hcf hin2 (by rw [q2]; exact h6) q1 q3 (by rw [hsl]; exact k2_hasslot (q4 k hk)) rfl rfl hdg fin
theorem aLocs {locs : List Loc} (hq : ∀ q ∈ locs, G.1.heap.size ≤ q.base) {a f : Nat} (h : 16 ≤ a) : ∀ q ∈ locs ++ [(⟨ad G a, f⟩ : Loc)], G.1.heap.size ≤ q.base := by
  intro q hm
  rcases List.mem_append.mp hm with h1 | h1
  · exact hq q h1
  · rw [List.mem_singleton.mp h1]
    show _ ≤ ad G a
    rw [ad_hi h]; omega
theorem sm_27 (X : aCtx G pq p s m args meth c mi) : aRul cl mi.cd C S rt ini Q (aW G p l e R s m args below meth c mi Q') 27 := by
  intro k j ci f a fs v lo st h c1 s1 hg h16 hlt he hfl hfit hP H ls locs hH hl hq
  obtain ⟨hd, hn, w, hk⟩ := X.go hg rfl rfl
  simp only [lChk] at hk
  split at hk
  · rename_i q hq1
    obtain ⟨r, hr, hf, rfl⟩ := aFT_at hq1
    simp only [Bool.and_eq_true, Bool.or_eq_true, Bool.not_eq_true', decide_eq_true_eq] at hk
    obtain ⟨q2, ty, g1, g2, g3, g4⟩ := hfit
    cases hq1.symm.trans g1
    obtain ⟨g5, g6⟩ := up_fit (G := G) g3 g4
    refine aPut (G := G) X.1 X.2.1 X.ts X.own X.K (hH.at h16 hlt he) hr f hf (X.ts _ (wIs_in hk.1)) ?_ g2 g5 g6 (by rw [List.length_map]; exact hfl) hd fun H1 sl e2 e3 e4 => ?_
    · rcases hk.2 with z | z
      · exact Or.inl z
      · exact Or.inr ⟨X.2.2.2.2.2.2.1 z.1, z.2⟩
    · have K := hP H1 ls _ (hH.put h16 hlt e2 e3 (by rw [← List.map_set] at e4; exact e4)) hl (aLocs hq (f := sl) h16)
      rw [hn] at K
      exact K
  · cases hk
theorem aArrAt (X : aCtx G pq p s m args meth c mi) {H : Heap} {h : aH} (hH : aHp G H h) {a t n : Nat} {f : Nat → Int32} (ht : t < 7) (hlt : a < h.2) (he : h.1 a = .inl (t, n, .inl f)) : ∃ cell : Cell, H[ad G a]? = some cell ∧ s.isArrayOf cell (aTy t) ∧ cell.vm ≠ .unknown ∧ n ≤ cell.slots.size ∧ cell.slots.size.toInt32 = Int32.ofNat n ∧ ∀ j : Nat, j < n → cell.slots[j]? = some (.int (f j)) := by
  by_cases h16 : 16 ≤ a
  · have h1 : H[ad G a]? = some (vp_cell (G.2.2.1 t) (n, .inl f)) := hH.at h16 hlt he
    refine ⟨_, h1, ((X.K.2 t _ (aTys_at G ht)).1 n (fun j => .int (f j))), (fun q => by cases q), ?_, ?_, fun j hj => ?_⟩
    · rw [vp_cell_i, arrV_size]; exact Nat.le_refl _
    · rw [vp_cell_i, arrV_size]
    · rw [vp_cell_i, arrV_read _ _ hj]
  · have h5 := hH.2.2.2.2 a _ (by omega) he
    rw [he] at h5
    obtain ⟨cell, b1, b2, b3, b4, b5, b6, b7⟩ := va_T.moved X.alike h5
    refine ⟨cell, ?_, b2, b3, b4, b5, b6⟩
    rw [ad_lo (by omega), hH.2.2.1 _ (by omega)]
    exact b1
theorem sm_28 (X : aCtx G pq p s m args meth c mi) : aRul cl mi.cd C S rt ini Q (aW G p l e R s m args below meth c mi Q') 28 := by
  intro k x y a t u lo st h c1 s1 hg hlt he ht hP H ls locs hH hl hq
  have K := hP H ls locs hH hl hq
  obtain ⟨hd, hn, -⟩ := X.go hg rfl rfl
  rw [hn] at K
  by_cases h16 : 16 ≤ a
  · have h1 : H[ad G a]? = some (vp_cell (G.2.2.1 t) (trU G u)) := hH.at h16 hlt he
    have hc : ∃ z, vp_cell (G.2.2.1 t) (trU G u) = arrV (G.2.2.1 t) u.1 z := by
      obtain ⟨n, w⟩ := u
      rcases w with w | w | w | w | w
      · exact ⟨fun j => .int (w j), rfl⟩
      · exact ⟨fun j => .long (w j), rfl⟩
      · exact ⟨fun j => .float (w j), rfl⟩
      · exact ⟨fun j => .double (w j), rfl⟩
      · exact ⟨fun j => va_rf ((w j).map (ad G)), rfl⟩
    obtain ⟨z, hz⟩ := hc
    rw [hz] at h1
    exact W.alen X.1 X.2.1 h1 ((X.K.2 t _ (aTys_at G ht)).1 u.1 z) (by rw [arrV_size]) rfl rfl hd K
  · have h5 := hH.2.2.2.2 a _ (by omega) he
    obtain ⟨n, w⟩ := u
    rw [he] at h5
    rcases w with w | w
    · obtain ⟨cell, b1, b2, b3, b4, b5, b6⟩ := aArrAt X hH ht hlt he
      exact W.alen X.1 X.2.1 b1 b2 b5 rfl rfl hd K
    · exact absurd h5 (by simp [aCst])
theorem sm_29 (X : aCtx G pq p s m args meth c mi) : aRul cl mi.cd C S rt ini Q (aW G p l e R s m args below meth c mi Q') 29 := by
  intro k x y a n f i lo st h c1 s1 hg hlt he hin hP H ls locs hH hl hq
  have K := hP H ls locs hH hl hq
  obtain ⟨hd, hn, -⟩ := X.go hg rfl rfl
  rw [hn] at K
  obtain ⟨cell, b1, b2, b3, b4, b5, b6⟩ := aArrAt X hH (by decide) hlt he
  exact W.iald X.1 X.2.1 b1 b2 b3 (fun q => hin (q.imp id (fun z => Nat.le_trans b4 z))) (b6 _ (Nat.not_le.mp fun q => hin (Or.inr q))) rfl rfl hd K
theorem sm_30 (X : aCtx G pq p s m args meth c mi) : aRul cl mi.cd C S rt ini Q (aW G p l e R s m args below meth c mi Q') 30 := by
  intro k x y a t n f i lo st h c1 s1 hg hlt ht he hin hP H ls locs hH hl hq
  have K := hP H ls locs hH hl hq
  obtain ⟨hd, hn, -⟩ := X.go hg rfl rfl
  rw [hn] at K
  obtain ⟨cell, b1, b2, b3, b4, b5, b6⟩ := aArrAt X hH (by rcases ht with rfl | rfl <;> decide) hlt he
  rcases ht with rfl | rfl
  · exact W.zald X.1 X.2.1 b1 b2 b3 (fun q => hin (q.imp id (fun z => Nat.le_trans b4 z))) (b6 _ (Nat.not_le.mp fun q => hin (Or.inr q))) rfl rfl hd K
  · exact W.bald X.1 X.2.1 b1 b2 b3 (fun q => hin (q.imp id (fun z => Nat.le_trans b4 z))) (b6 _ (Nat.not_le.mp fun q => hin (Or.inr q))) rfl rfl hd K
theorem sm_31 (X : aCtx G pq p s m args meth c mi) : aRul cl mi.cd C S rt ini Q (aW G p l e R s m args below meth c mi Q') 31 := by
  intro k x y a n f i lo st h c1 s1 hg h16 hlt he hin hP H ls locs hH hl hq
  have K := hP H ls locs hH hl hq
  obtain ⟨hd, hn, -⟩ := X.go hg rfl rfl
  rw [hn] at K
  have h1 : H[ad G a]? = some (vp_cell (G.2.2.1 3) (n, .inr (.inl f))) := hH.at h16 hlt he
  have hl2 : i.toNatClampNeg < n := Nat.not_le.mp fun q => hin (Or.inr q)
  exact W.lald (v := .long (f i.toNatClampNeg)) X.1 X.2.1 h1 ((X.K.2 3 _ (aTys_at G (by decide))).1 n (fun j => .long (f j))) (fun q => by cases q) (by show ¬ (i < 0 ∨ (arrV _ _ _).slots.size ≤ _); rw [arrV_size]; exact hin) (by show (arrV _ _ _).slots[_]? = _; rw [arrV_read _ _ hl2]) rfl rfl hd K
theorem sm_32 (X : aCtx G pq p s m args meth c mi) : aRul cl mi.cd C S rt ini Q (aW G p l e R s m args below meth c mi Q') 32 := by
  intro k x y a t n f i lo st h c1 s1 hg h16 hlt ht4 ht7 he hin hP H ls locs hH hl hq
  have K := hP H ls locs hH hl hq
  obtain ⟨hd, hn, -⟩ := X.go hg rfl rfl
  rw [hn] at K
  have h1 : H[ad G a]? = some (vp_cell (G.2.2.1 t) (n, .inr (.inr (.inr (.inr (fun j => (f j).map (ad G))))))) := hH.at h16 hlt he
  have hl2 : i.toNatClampNeg < n := Nat.not_le.mp fun q => hin (Or.inr q)
  have hty := aRefTy t ht4 ht7
  exact W.aald (v := up G (aRef (f i.toNatClampNeg))) (ty := aTy t) X.1 X.2.1 h1 ((X.K.2 t _ (aTys_at G ht7)).1 n (fun j => va_rf ((f j).map (ad G)))) hty (fun q => by cases q) (by show ¬ (i < 0 ∨ (arrV _ _ _).slots.size ≤ _); rw [arrV_size]; exact hin) (by show (arrV _ _ _).slots[_]? = _; rw [arrV_read _ _ hl2, up_rf]) rfl rfl hd K
theorem sm_33 (X : aCtx G pq p s m args meth c mi) : aRul cl mi.cd C S rt ini Q (aW G p l e R s m args below meth c mi Q') 33 := by
  intro k x y a n f i v lo st h c1 s1 hg h16 hlt he hin hP H ls locs hH hl hq
  obtain ⟨hd, hn, -⟩ := X.go hg rfl rfl
  have h1 : H[ad G a]? = some (vp_cell (G.2.2.1 0) (n, .inl f)) := hH.at h16 hlt he
  refine W.iast X.1 X.2.1 h1 ((X.K.2 0 _ (aTys_at G (by decide))).1 n (fun j => .int (f j))) (fun q => by cases q) (by show ¬ (i < 0 ∨ (arrV _ _ _).slots.size ≤ _); rw [arrV_size]; exact hin) rfl rfl hd fun H1 e1 z oq => ?_
  have K := hP H1 ls _ (hH.put h16 hlt z oq (by
    show H1[ad G a]? = some (vp_cell _ _)
    rw [e1]
    show _ = some (vp_cell (G.2.2.1 0) (n, .inl (upd f i.toNatClampNeg v)))
    rw [vp_cell_i, vp_cell_i, arrV_store]
    congr 2
    funext q
    by_cases hq : q = i.toNatClampNeg
    · subst hq; simp [updV, upd]
    · simp [updV, upd, hq])) hl (aLocs hq (f := i.toNatClampNeg) h16)
  rw [hn] at K
  exact K
theorem sm_34 (X : aCtx G pq p s m args meth c mi) : aRul cl mi.cd C S rt ini Q (aW G p l e R s m args below meth c mi Q') 34 := by
  intro k x y a n f i v lo st h c1 s1 hg h16 hlt he hin hP H ls locs hH hl hq
  obtain ⟨hd, hn, -⟩ := X.go hg rfl rfl
  have h1 : H[ad G a]? = some (vp_cell (G.2.2.1 1) (n, .inl f)) := hH.at h16 hlt he
  refine W.zast X.1 X.2.1 h1 ((X.K.2 1 _ (aTys_at G (by decide))).1 n (fun j => .int (f j))) (fun q => by cases q) (by show ¬ (i < 0 ∨ (arrV _ _ _).slots.size ≤ _); rw [arrV_size]; exact hin) rfl rfl hd fun H1 e1 z oq => ?_
  have K := hP H1 ls _ (hH.put h16 hlt z oq (by
    show H1[ad G a]? = some (vp_cell _ _)
    rw [e1]
    show _ = some (vp_cell (G.2.2.1 1) (n, .inl (upd f i.toNatClampNeg (vp_nar .boolean v))))
    rw [vp_cell_i, vp_cell_i, arrV_store]
    congr 2
    funext q
    by_cases hq : q = i.toNatClampNeg
    · subst hq; simp [updV, upd, vp_nar, narrow]
    · simp [updV, upd, hq])) hl (aLocs hq (f := i.toNatClampNeg) h16)
  rw [hn] at K
  exact K
theorem sm_35 (X : aCtx G pq p s m args meth c mi) : aRul cl mi.cd C S rt ini Q (aW G p l e R s m args below meth c mi Q') 35 := by
  intro k x y a n f i v lo st h c1 s1 hg h16 hlt he hin hP H ls locs hH hl hq
  obtain ⟨hd, hn, -⟩ := X.go hg rfl rfl
  have h1 : H[ad G a]? = some (vp_cell (G.2.2.1 2) (n, .inl f)) := hH.at h16 hlt he
  refine W.bast X.1 X.2.1 h1 ((X.K.2 2 _ (aTys_at G (by decide))).1 n (fun j => .int (f j))) (fun q => by cases q) (by show ¬ (i < 0 ∨ (arrV _ _ _).slots.size ≤ _); rw [arrV_size]; exact hin) rfl rfl hd fun H1 e1 z oq => ?_
  have K := hP H1 ls _ (hH.put h16 hlt z oq (by
    show H1[ad G a]? = some (vp_cell _ _)
    rw [e1]
    show _ = some (vp_cell (G.2.2.1 2) (n, .inl (upd f i.toNatClampNeg (vp_nar .byte v))))
    rw [vp_cell_i, vp_cell_i, arrV_store]
    congr 2
    funext q
    by_cases hq : q = i.toNatClampNeg
    · subst hq; simp [updV, upd, vp_nar, narrow]
    · simp [updV, upd, hq])) hl (aLocs hq (f := i.toNatClampNeg) h16)
  rw [hn] at K
  exact K
theorem sm_36 (X : aCtx G pq p s m args meth c mi) : aRul cl mi.cd C S rt ini Q (aW G p l e R s m args below meth c mi Q') 36 := by
  intro k x y a n f i v lo st h c1 s1 hg h16 hlt he hin hP H ls locs hH hl hq
  obtain ⟨hd, hn, -⟩ := X.go hg rfl rfl
  have h1 : H[ad G a]? = some (vp_cell (G.2.2.1 3) (n, .inr (.inl f))) := hH.at h16 hlt he
  refine W.last X.1 X.2.1 h1 ((X.K.2 3 _ (aTys_at G (by decide))).1 n (fun j => .long (f j))) (fun q => by cases q) (by show ¬ (i < 0 ∨ (arrV _ _ _).slots.size ≤ _); rw [arrV_size]; exact hin) rfl rfl hd fun H1 e1 z oq => ?_
  have K := hP H1 ls _ (hH.put h16 hlt z oq (by
    show H1[ad G a]? = some (vp_cell _ _)
    rw [e1]
    show _ = some (vp_cell (G.2.2.1 3) (n, .inr (.inl (vp_updL f i.toNatClampNeg v))))
    rw [vp_cell_l, vp_cell_l, arrV_store]
    congr 2
    funext q
    by_cases hq : q = i.toNatClampNeg
    · subst hq; simp [updV, vp_updL]
    · simp [updV, vp_updL, hq])) hl (aLocs hq (f := i.toNatClampNeg) h16)
  rw [hn] at K
  exact K
theorem sm_37 (X : aCtx G pq p s m args meth c mi) : aRul cl mi.cd C S rt ini Q (aW G p l e R s m args below meth c mi Q') 37 := by
  intro k x y a t n f i b ci fs q0 lo st h c1 s1 hg h16 hlt ht4 ht7 he hin hb16 hblt hbe hc hty hP H ls locs hH hl hq
  obtain ⟨hd, hn, -⟩ := X.go hg rfl rfl
  have h1 : H[ad G a]? = some (vp_cell (G.2.2.1 t) (n, .inr (.inr (.inr (.inr (fun j => (f j).map (ad G))))))) := hH.at h16 hlt he
  have hl2 : i.toNatClampNeg < n := Nat.not_le.mp fun q => hin (Or.inr q)
  have h0 : ¬ i < 0 := fun q => hin (Or.inl q)
  obtain ⟨r', hr', cellV, g1, g2, g3, -⟩ := hH.at hb16 hblt hbe
  have hcls := (X.K.1 ci q0 hc).2
  have hRA := (X.K.2 t _ (aTys_at G ht7)).2
  rw [hty] at hRA
  obtain ⟨kA, comp, k1, k2, k3, -⟩ := hRA
  have hcomp : comp = G.2.2.2.1 ci := Option.some.inj (k3.symm.trans hcls.1)
  subst hcomp
  obtain ⟨kC, hkC, -⟩ := hcls.2
  refine W.aast X.1 X.2.1 h1 (fun q h => by cases h) (fun h => by cases h) k1 k2 rfl hkC ⟨h0, by show _ < (arrV _ _ _).slots.size; rw [arrV_size]; exact hl2⟩ g1 (fun q h => by rw [g3] at h; cases h) (by rw [g2]; exact hkC) (by rw [g2]; exact va_assign hcls) rfl rfl hd fun H1 e1 z oq => ?_
  have K := hP H1 ls _ (hH.put h16 hlt z oq (by
    show H1[ad G a]? = some (vp_cell _ _)
    rw [e1]
    show _ = some (vp_cell (G.2.2.1 t) (n, .inr (.inr (.inr (.inr (fun j => (va_up f i.toNatClampNeg (some b) j).map (ad G)))))))
    rw [vp_cell_q, vp_cell_q, arrV_store]
    congr 2
    funext q
    by_cases hq : q = i.toNatClampNeg
    · subst hq; simp [updV, va_up, va_rf]
    · simp [updV, va_up, hq])) hl (aLocs hq (f := i.toNatClampNeg) h16)
  rw [hn] at K
  exact K
end SIM
end
section
/-! ===== the AM's steps are the machine's: what is made, calls, ends; and the whole method ===== -/
section SIM
variable {G : aG} {pq : Nat → Option aM} {p : Program} {l : Launch} {e : Env} {R : Room} {s : State} {m : MethodId} {args : Array Value} {below : List Frame} {meth : Method} {c : Code} {mi : aM} {Q' : State → Prop}
variable {cl : aC} {C S : Nat} {rt : Option FieldType} {ini : Bool} {Q : aQ}
theorem sm_38 (X : aCtx G pq p s m args meth c mi) (hRc : R.cells = C) (hRs : R.slots = S) : aRul cl mi.cd C S rt ini Q (aW G p l e R s m args below meth c mi Q') 38 := by
  intro k at' t y n lo st h c1 s1 hg ht hn0 hn1 hc hs hP H ls locs hH hl hq
  obtain ⟨hd, hn, w, hk⟩ := X.go hg rfl rfl
  simp only [lChk, Bool.and_eq_true, decide_eq_true_eq] at hk
  have harr : Cond.arrayClass (aTy t) ∈ lw_good := by
    have h1 := aArrB
    rcases (show t = 0 ∨ t = 1 ∨ t = 2 ∨ t = 3 by omega) with rfl | rfl | rfl | rfl
    · exact lw_good_in h1.1.1 rfl
    · exact lw_good_in h1.1.2 rfl
    · exact lw_good_in h1.2.1 rfl
    · exact lw_good_in h1.2.2 rfl
  have hcb : componentBytes (newarray.typeOf at') ≤ 8 := by rw [hk.1]; rcases (show t = 0 ∨ t = 1 ∨ t = 2 ∨ t = 3 by omega) with rfl | rfl | rfl | rfl <;> decide
  refine va_newaK X.1 X.2.1 (by rw [hk.1]; exact X.ts _ harr) rfl hd rfl hn0 rfl (Nat.le_trans (Nat.mul_le_mul hn1 hcb) (by decide)) (by rw [hRc]; exact hc) (by rw [hRs]; exact hs) rfl fun H1 cA e1 z1 o1 hAr hNm => ?_
  rw [hk.1] at e1 hNm
  have hcA : cA = G.2.2.1 t := by
    have h2 := (X.K.2 t _ (aTys_at G (by omega))).2
    rcases (show t = 0 ∨ t = 1 ∨ t = 2 ∨ t = 3 by omega) with rfl | rfl | rfl | rfl <;> exact Option.some.inj (hNm.symm.trans h2)
  subst hcA
  have K := hP H1 ls locs (hH.new z1 o1 (by
    rcases (show t = 0 ∨ t = 1 ∨ t = 2 ∨ t = 3 by omega) with rfl | rfl | rfl | rfl <;> exact e1)) hl hq
  rw [hn] at K
  rw [← hH.ref]
  exact K
theorem sm_39 (X : aCtx G pq p s m args meth c mi) (hRc : R.cells = C) (hRs : R.slots = S) : aRul cl mi.cd C S rt ini Q (aW G p l e R s m args below meth c mi Q') 39 := by
  intro k j t y n lo st h c1 s1 hg ht4 ht7 hn0 hn1 hc hs hP H ls locs hH hl hq
  obtain ⟨hd, hn, w, hk⟩ := X.go hg rfl rfl
  simp only [lChk] at hk
  split at hk
  · rename_i Cn hCn
    simp only [Bool.and_eq_true, decide_eq_true_eq] at hk
    have hov : va_AO Cn s := by
      have hv := X.2.2.2.2.2.2.2.2.1.2.2.2
      rcases (show t = 4 ∨ t = 5 ∨ t = 6 by omega) with rfl | rfl | rfl <;> cases hCn
      · exact hv.1
      · exact hv.2.1
      · exact hv.2.2
    refine W.anew X.1 X.2.1 X.own (X.ts _ (wIs_in hk.1.1)) (va_AO.use hov) rfl hd rfl hn0 (by omega) (by rw [hRc]; exact hc) (by rw [hRs]; exact hs) fun cA kA comp f1 f2 f3 f4 => ?_
    generalize hH1 : H.push ({ cls := cA, slots := Array.replicate n.toNatClampNeg .null, vm := .none } : Cell) = H1
    have z1 : H1.size = H.size + 1 := by rw [← hH1, Array.size_push]
    have e1 : H1[H.size]? = some (arrV cA n.toNatClampNeg (fun _ => .null)) := by rw [← hH1, Array.getElem?_push_size, ← arrV_new]
    have o1 : ∀ q : Nat, q < H.size → H1[q]? = H[q]? := fun q hq => by rw [← hH1, Array.getElem?_push, if_neg (Nat.ne_of_lt hq)]
    have hcA : cA = G.2.2.1 t := by
      have h2 := (X.K.2 t _ (aTys_at G ht7)).2
      rw [hCn] at h2
      obtain ⟨_, _, _, _, _, h3⟩ := h2
      exact Option.some.inj (f1.symm.trans h3)
    subst hcA
    have K := hP H1 ls locs (hH.new z1 o1 (by
      rcases (show t = 4 ∨ t = 5 ∨ t = 6 by omega) with rfl | rfl | rfl <;> exact e1)) hl hq
    rw [hn] at K
    rw [← hH.ref]
    exact K
  · cases hk
theorem aDef_at (G : aG) {ci : Nat} {r : vw_C} (hr : aCls[ci]? = some r) {ty : Nat → FieldType} (hty : ∀ k, k < r.2.2 → parseFieldDescriptor (r.2.1 k).2.2.1 = some (ty k)) : ∀ j, j < r.2.2 → defaultValue (ty j) = vp_V ((aDef ci).map (up G)) j := by
  intro j hj
  unfold aDef vp_V
  rw [hr]
  show _ = (List.map (up G) (List.map _ (List.range r.2.2))).getD j .null
  rw [List.getD_eq_getElem?_getD, List.getElem?_map, List.getElem?_map, List.getElem?_range hj]
  show _ = up G (match parseFieldDescriptor (r.2.1 j).2.2.1 with
    | some ty => defaultValue ty
    | none => .null)
  rw [hty j hj]
  exact (defUp G (ty j)).symm
theorem sm_40 (X : aCtx G pq p s m args meth c mi) (hRc : R.cells = C) (hRs : R.slots = S) : aRul cl mi.cd C S rt ini Q (aW G p l e R s m args below meth c mi Q') 40 := by
  intro k j ci y lo st h c1 s1 hg hc hs hP H ls locs hH hl hq
  obtain ⟨hd, hn, w, hk⟩ := X.go hg rfl rfl
  simp only [lChk] at hk
  split at hk
  · rename_i r hr
    have hN : aN ci = r.2.2 := by unfold aN; rw [hr]
    rw [hN] at hs hP
    have hI := aIsB_of ci hr
    simp only [aIsB, Bool.and_eq_true, decide_eq_true_eq] at hI
    have hKn := X.K.1 ci _ hr
    obtain ⟨ty, hty⟩ := aTyk_of ci hr
    refine W.newcK X.1 X.2.1 X.own (X.ts _ (wIs_in hk)) (X.ts _ (lw_good_in hI.1.1.1 hI.1.1.2)) (X.ts _ (lw_good_in hI.1.2 hI.2)) rfl hd (by rw [hRc]; exact hc) (by rw [hRs]; exact hs) hKn.2.1 rfl fun H1 kC hkC e1 z1 o1 => ?_
    have K := hP H1 ls locs (hH.new z1 o1 ⟨_, hr, (u_born ty X.ts (aIn_of hr) hKn hkC e1 hty).to (aDef_at G hr hty)⟩) hl hq
    rw [hn] at K
    rw [← hH.ref]
    exact K
  · cases hk
theorem sm_41 (X : aCtx G pq p s m args meth c mi) : aRul cl mi.cd C S rt ini Q (aW G p l e R s m args below meth c mi Q') 41 := by
  intro k j a y lo st h c1 s1 hg hP H ls locs hH hl hq
  obtain ⟨hd, hn, w, hk⟩ := X.go hg rfl rfl
  simp [lChk] at hk
theorem sm_42 (X : aCtx G pq p s m args meth c mi) : aRul cl mi.cd C S rt ini Q (aW G p l e R s m args below meth c mi Q') 42 := by
  intro k i x y lo st h c1 s1 hg hi hP H ls locs hH hl hq
  have K := hP H ls locs hH hl hq
  obtain ⟨j, rfl | rfl⟩ := hi
  · obtain ⟨hd, hn, w, hk⟩ := X.go hg rfl rfl
    simp only [lChk, Bool.and_eq_true, decide_eq_true_eq] at hk
    obtain ⟨rfl, hk⟩ := hk
    rw [hn] at K
    exact lv_ldc X.1 X.2.1 X.own (X.ts _ (wIs_in hk)) hd K
  · obtain ⟨hd, hn, w, hk⟩ := X.go hg rfl rfl
    simp only [lChk, Bool.and_eq_true, decide_eq_true_eq] at hk
    obtain ⟨rfl, hk⟩ := hk
    rw [hn] at K
    exact lv_ldcw X.1 X.2.1 X.own (X.ts _ (wIs_in hk)) hd K
theorem sm_43 (X : aCtx G pq p s m args meth c mi) : aRul cl mi.cd C S rt ini Q (aW G p l e R s m args below meth c mi Q') 43 := by
  intro k j x y lo st h c1 s1 hg hP H ls locs hH hl hq
  have K := hP H ls locs hH hl hq
  obtain ⟨hd, hn, w, hk⟩ := X.go hg rfl rfl
  simp only [lChk] at hk
  rw [hn] at K
  exact lv_ldc2 X.1 X.2.1 X.own (X.ts _ (wIs_in hk)) hd K
def aPre (G : aG) (as : List Value) (h : aH) : Array Value → State → Prop := fun a U => a = (as.map (up G)).toArray ∧ aHp G U.heap h ∧ aV G U
def aPost (G : aG) (Q : aQ) : Array Value → State → Outcome → State → Prop := fun _ _ o t => ∃ (r : Option Value) (h : aH), o = .returned (r.map (up G)) ∧ aHp G t.heap h ∧ aV G t ∧ Q r h
def aWs (mj : aM) : List Cond := Cond.code mj.y mj.bs mj.nL mj.rt :: lw_good
def aRm (d mc ms : Nat) : Room := { frames := d, cells := mc, slots := ms, locals := 60 * d }
def aMet (G : aG) (l : Launch) (mj : aM) (d : Nat) (as : List Value) (h : aH) (mc ms : Nat) (Q : aQ) : Prop := Met l mj.y (aWs mj) (aRm d mc ms) (aPre G as h) (aPost G Q) mc ms (fun q => G.1.heap.size ≤ q)
theorem aPre_blind (as : List Value) (h : aH) : FrameBlind (aPre G as h) := by
  intro a U g mk q
  obtain ⟨q1, q2, h1, h2, h3, h4, h5, h6⟩ := q
  have hvm : U.vm.Alike (U.calling g mk a).vm := Vm.Alike.refl U.vm
  refine ⟨q1, q2, h1.trans hvm, va_K.moved hvm h2, fun w hw => ?_, va_AO.moved hvm h4, va_AO.moved hvm h5, va_AO.moved hvm h6⟩
  have h7 := h3 w hw
  simp only [aNw, List.mem_cons, List.not_mem_nil, or_false] at hw
  rcases hw with rfl | rfl | rfl | rfl <;> exact va_Nw.same rfl rfl h7
theorem aV.warm {U : State} (h : aV G s) (hW : s.WarmedH U.vm) : aV G U := by
  obtain ⟨h1, h2, h3, h4, h5, h6⟩ := h
  refine ⟨h1.trans hW.alike, va_K.moved hW.alike h2, fun w hw => ?_, va_AO.moved hW.alike h4, va_AO.moved hW.alike h5, va_AO.moved hW.alike h6⟩
  have h7 := h3 w hw
  simp only [aNw, List.mem_cons, List.not_mem_nil, or_false] at hw
  rcases hw with rfl | rfl | rfl | rfl <;> exact va_Nw.warmM hW h7
theorem sm_48 (X : aCtx G pq p s m args meth c mi) (hrt : rt = mi.rt) : aRul cl mi.cd C S rt ini Q (aW G p l e R s m args below meth c mi (MQ below (aPost G Q) args s C S (fun q => G.1.heap.size ≤ q))) 48 := by
  intro k x y lo h c1 s1 hg hr hc hs hP H ls locs hH hl hq
  obtain ⟨len, w, hd, -, hlen, -⟩ := X.at hg
  have hl3 := hlen rfl
  subst hl3
  refine W.widen hc hs ?_
  exact W.vret X.1 X.2.1 (by rw [X.2.2.2.1, ← hrt]; exact hr) (fun t ht hw => ⟨none, h, rfl, by rw [ht]; exact hH, X.2.2.2.2.2.2.2.2.1.warm hw, hP⟩) hq hd X.2.2.2.2.1
theorem sm_49 (X : aCtx G pq p s m args meth c mi) (hrt : rt = mi.rt) : aRul cl mi.cd C S rt ini Q (aW G p l e R s m args below meth c mi (MQ below (aPost G Q) args s C S (fun q => G.1.heap.size ≤ q))) 49 := by
  intro k i x y v lo h c1 s1 hg hi hr hc hs hP H ls locs hH hl hq
  refine W.widen hc hs ?_
  have fin : ∀ t : State, t.heap = H → s.WarmedH t.vm → aPost G Q args s (.returned (some (up G v))) t := fun t ht hw => ⟨some v, h, rfl, by rw [ht]; exact hH, X.2.2.2.2.2.2.2.2.1.warm hw, hP⟩
  have hmr : meth.sig.returnType = rt := by rw [X.2.2.2.1, ← hrt]
  unfold kRet at hi
  split at hi
  · obtain ⟨len, w, hd, -, hlen, -⟩ := X.at hg
    have hl3 := hlen rfl
    subst hl3
    cases hrt2 : rt with
    | none => rw [hrt2] at hr; exact absurd hr (by simp [aRT])
    | some ty =>
      rw [hrt2] at hr
      exact W.zret (ty := ty) X.1 X.2.1 (hmr.trans hrt2) hr.1 fin hq hd X.2.2.2.2.1
  · obtain ⟨len, w, hd, -, hlen, -⟩ := X.at hg
    have hl3 := hlen rfl
    subst hl3
    have h4 : rt = some .long := by
      unfold aRT at hr
      split at hr <;> first | rfl | (simp at *; done) | (rename_i q; cases q)
    exact W.lret X.1 X.2.1 (hmr.trans h4) fin hq hd X.2.2.2.2.1
  · obtain ⟨len, w, hd, -, hlen, -⟩ := X.at hg
    have hl3 := hlen rfl
    subst hl3
    have h4 : ∃ ty, rt = some ty ∧ ((∃ n, ty = .object n) ∨ ∃ t, ty = .array t) := by
      unfold aRT at hr
      split at hr <;> first | exact ⟨_, rfl, Or.inl ⟨_, rfl⟩⟩ | exact ⟨_, rfl, Or.inr ⟨_, rfl⟩⟩ | (simp at *; done) | (rename_i q; cases q)
    obtain ⟨ty, h5, h6⟩ := h4
    exact W.aret (rt := ty) X.1 X.2.1 (hmr.trans h5) h6 (Or.inr ⟨_, rfl⟩) fin hq hd X.2.2.2.2.1
  · obtain ⟨len, w, hd, -, hlen, -⟩ := X.at hg
    have hl3 := hlen rfl
    subst hl3
    have h4 : ∃ ty, rt = some ty ∧ ((∃ n, ty = .object n) ∨ ∃ t, ty = .array t) := by
      unfold aRT at hr
      split at hr <;> first | exact ⟨_, rfl, Or.inl ⟨_, rfl⟩⟩ | exact ⟨_, rfl, Or.inr ⟨_, rfl⟩⟩ | (simp at *; done) | (rename_i q; cases q)
    obtain ⟨ty, h5, h6⟩ := h4
    exact W.aret (rt := ty) X.1 X.2.1 (hmr.trans h5) h6 (Or.inl rfl) fin hq hd X.2.2.2.2.1
  · cases hi
end SIM
end
section
/-! ===== the AM's calls are the machine's; the whole method ===== -/
theorem aObjB : Cond.instanceMethod objectInit ∈ lw_tbl ∧ Cond.code objectInit ⟨#[0xb1]⟩ 1 none ∈ lw_tbl := by decide +kernel
section SIM
variable {G : aG} {pq : Nat → Option aM} {p : Program} {l : Launch} {e : Env} {R : Room} {s : State} {m : MethodId} {args : Array Value} {below : List Frame} {meth : Method} {c : Code} {mi : aM} {Q' : State → Prop}
variable {cl : aC} {C S d : Nat} {rt : Option FieldType} {ini : Bool} {Q : aQ}
def aOk (pq : Nat → Option aM) : Prop := ∀ j mj, pq j = some mj → ∃ w1 w2 w3 w4, mChk pq mj w1 w2 w3 w4 = true
def aIH (G : aG) (l : Launch) (pq : Nat → Option aM) (cl : aC) (d : Nat) : Prop := ∀ j mj as h mc ms Q, pq j = some mj → cl j as h mc ms Q → aMet G l mj d as h mc ms Q
theorem mChk_spec {mj : aM} {w1 w2 w3 w4 : Nat} (h : mChk pq mj w1 w2 w3 w4 = true) : Cond.code mj.y mj.bs mj.nL mj.rt ∈ lw_good ∧ (mj.sta = true → Cond.static mj.y ∈ lw_good) ∧ (mj.sta = false → Cond.instanceMethod mj.y ∈ lw_good) ∧ (mj.sta = false → mj.ini = false → Cond.selects mj.y.cls mj.y mj.y ∈ lw_good) ∧ Cond.initialized mj.y.cls ∈ lw_good ∧ aPc mj.cd 0 = 0 ∧ plainName mj.y.cls = true ∧ mj.own = mj.y.cls ∧ ∀ k e, mj.cd[k]? = some e → eChk pq mj k e = true := by
  simp only [mChk, Bool.and_eq_true, Bool.or_eq_true, decide_eq_true_eq] at h
  obtain ⟨⟨⟨⟨⟨⟨⟨h1, h2⟩, h3⟩, h4⟩, h5⟩, h6⟩, h7⟩, h8⟩ := h
  refine ⟨wIs_in h1, fun q => ?_, fun q => ?_, fun q1 q2 => ?_, wIs_in h4, h5, h6, h7, fun k e hk => ?_⟩
  · rw [if_pos q] at h2; exact wIs_in h2
  · rw [if_neg (by rw [q]; decide)] at h2; exact wIs_in h2
  · rcases h3 with (z | z) | z
    · rw [q1] at z; cases z
    · rw [q2] at z; cases z
    · exact wIs_in z
  · have h9 := List.all_eq_true.mp h8 (e, k) (List.mem_zipIdx_iff_getElem?.mpr hk)
    exact h9
theorem aGood (ws : List Cond) (hw : ∀ w ∈ ws, w ∈ lw_good) : GoodIn lw_good ws := fun w h => lw_good_all w (hw w h)
theorem aWs_in {mj : aM} (h : Cond.code mj.y mj.bs mj.nL mj.rt ∈ lw_good) : ∀ w ∈ aWs mj, w ∈ lw_good := by
  intro w hw
  rcases List.mem_cons.mp hw with rfl | hw
  · exact h
  · exact hw
theorem aCallK {H : Heap} {locs : List Loc} {cells slots mc ms pc : Nat} {ls : Array Slot} {st0 rest : List Value} {a : Array Value} {Q0 : aQ} (hr : va_Run p l e R s m args below meth c H locs cells slots mc ms (F0 m pc ls st0) rest (aPost G Q0 a) (fun q => G.1.heap.size ≤ q)) (hq : ∀ q ∈ locs, G.1.heap.size ≤ q.base)
    (kk : ∀ (r : Option Value) (h : aH) (H1 : Heap) (locs1 : List Loc), aHp G H1 h → Q0 r h → (∀ q ∈ locs1, G.1.heap.size ≤ q.base) → W p l e R s m args below meth c H1 locs1 (cells + mc) (slots + ms) Q' (F0 m (pc + 3) ls ((r.toList).map (up G) ++ rest))) : W p l e R s m args below meth c H locs cells slots Q' (F0 m pc ls st0) := by
  intro T hT X
  obtain ⟨v, st₀, t, T', L, h0, X', hL, e1, e2, ⟨r, h, hv, hH, hV, hQ⟩, st⟩ := hr T hT X
  have hv : v = r.map (up G) := by injection hv
  subst hv
  obtain ⟨t2, a1, b1⟩ := kk r h T'.heap (locs ++ L) (by rw [e1]; exact hH) hQ (fun q hm => by
    rcases List.mem_append.mp hm with h1 | h1
    · exact hq q h1
    · exact hL q h1) T' rfl X'
  refine ⟨t2, st t2 ?_, b1⟩
  have e3 : (r.map (up G)).toList = r.toList.map (up G) := by cases r <;> rfl
  rw [e3]
  exact a1
theorem cChk_spec {mj : aM} {n : Nat} (h : cChk mj n = true) : aNp mj.y = some n ∧ mj.y.cls ≠ "java/lang/invoke/MethodHandle" ∧ mj.y.cls ≠ "java/lang/invoke/VarHandle" ∧ mj.nL ≤ 30 := by
  simp only [cChk, Bool.and_eq_true, decide_eq_true_eq] at h
  exact ⟨h.1.1.1.1.1, h.1.1.1.1.2, h.1.1.1.2, h.1.1.2⟩
theorem aRm_ok {mj : aM} {n mc ms : Nat} (h : cChk mj n = true) : (aRm d mc ms).frames + 1 ≤ (aRm (d + 1) C S).frames ∧ 8 + (mj.nL + 11) + (aRm d mc ms).locals ≤ (aRm (d + 1) C S).locals := by
  have h1 := (cChk_spec h).2.2.2
  show d + 1 ≤ d + 1 ∧ 8 + (mj.nL + 11) + 60 * d ≤ 60 * (d + 1)
  omega
theorem sm_44 (X : aCtx G pq p s m args meth c mi) (hok : aOk pq) (ih : aIH G l pq cl d) : aRul cl mi.cd C S rt ini Q (aW G p l e (aRm (d + 1) C S) s m args below meth c mi Q') 44 := by
  intro k i x n as st mc ms lo h c1 s1 hg hi hn hcat hc hs hcl H ls locs hH hl hq
  obtain ⟨j, rfl⟩ := hi
  obtain ⟨hd, hnx, w, hk⟩ := X.go hg rfl rfl
  simp only [lChk] at hk
  split at hk
  · rename_i mj hmj
    simp only [Bool.and_eq_true, Bool.not_eq_true'] at hk
    obtain ⟨⟨⟨k1, k2⟩, k3⟩, k4⟩ := hk
    obtain ⟨w1, w2, w3, w4, hm⟩ := hok x mj hmj
    obtain ⟨m1, m2, m3, m4, m5, -, -, -, -⟩ := mChk_spec hm
    have hM := ih x mj as h mc ms _ hmj hcl
    have hC := cChk_spec k2
    have hT : GoodIn lw_good (va_wsS mi.own j mj.y (aWs mj)) := aGood _ (fun w hw => by
      rcases List.mem_append.mp hw with hw | hw
      · simp only [List.mem_cons, List.not_mem_nil, or_false] at hw
        rcases hw with rfl | rfl | rfl
        · exact wIs_in k1
        · exact m2 k3
        · exact m5
      · exact aWs_in m1 w hw)
    refine aCallK (va_runS (As := as.map (up G)) (rest := st.map (up G)) (n := n) ⟨X.1, X.2.1, X.2.2.1, X.own, X.ts⟩ hM (va_cwS n X.ts hT rfl rfl rfl ⟨hC.2.1, hC.2.2.1, hC.1⟩ (aRm_ok k2)) ⟨aPre_blind as h, fun U hU hW => ⟨rfl, by rw [hU]; exact hH, X.2.2.2.2.2.2.2.2.1.warm hW⟩⟩ rfl (by rw [List.length_map]; exact hn) hl.1 (by rw [List.map_append, List.map_reverse]) (lv_room (by rw [up_cats]; exact hcat)) hd ⟨hc, hs⟩) hq ?_
    intro r h' H1 locs1 hH1 hP1 hq1
    have K := hP1 H1 ls locs1 hH1 hl hq1
    rw [hnx, List.map_append] at K
    exact K
  · cases hk
theorem sm_45 (X : aCtx G pq p s m args meth c mi) (hok : aOk pq) (ih : aIH G l pq cl d) : aRul cl mi.cd C S rt ini Q (aW G p l e (aRm (d + 1) C S) s m args below meth c mi Q') 45 := by
  intro k i x n a as st mc ms ci fs lo h c1 s1 hg hi hn16 hn h16 hlt he hcat hc hs hcl H ls locs hH hl hq
  obtain ⟨j, rfl⟩ := hi
  obtain ⟨hd, hnx, w, hk⟩ := X.go hg rfl rfl
  simp only [lChk] at hk
  split at hk
  · rename_i mj hmj
    simp only [Bool.and_eq_true, Bool.not_eq_true', decide_eq_true_eq] at hk
    obtain ⟨⟨⟨⟨k1, k2⟩, k3⟩, k4⟩, k5⟩ := hk
    obtain ⟨w1, w2, w3, w4, hm⟩ := hok x mj hmj
    obtain ⟨m1, m2, m3, m4, m5, -, -, -, -⟩ := mChk_spec hm
    have hM := ih x mj (.ref a :: as) h mc ms _ hmj hcl
    have e1 : (n + 16 * ci) % 16 = n := by omega
    have e2 : (n + 16 * ci) / 16 = ci := by omega
    rw [e1] at k2
    rw [e2] at k5
    have hC := cChk_spec k2
    obtain ⟨r, hr, cell, g1, g2, g3, g4⟩ := hH.at h16 hlt he
    have hr' : aCls[ci]? = some r := hr
    rw [hr'] at k5
    have hcn : r.1 = mj.y.cls := Option.some.inj k5
    have hT : GoodIn lw_good (wsV mi.own j mj.y.cls mj.y (aWs mj)) := aGood _ (fun w hw => by
      rcases List.mem_append.mp hw with hw | hw
      · simp only [List.mem_cons, List.not_mem_nil, or_false] at hw
        rcases hw with rfl | rfl | rfl | rfl
        · exact wIs_in k1
        · exact m3 k3
        · exact m4 k3 k4
        · exact m5
      · exact aWs_in m1 w hw)
    refine aCallK (va_runV (As := as.map (up G)) (b := ad G a) (rest := st.map (up G)) (n := n) ⟨X.1, X.2.1, X.2.2.1, X.own, X.ts⟩ hM (cwV n X.ts hT rfl rfl rfl ⟨rfl, hC.2.1, hC.2.2.1, hC.1⟩ (aRm_ok k2)) ⟨aPre_blind _ h, ⟨cell, g1, by rw [g3]; rfl, by rw [g2, ← hcn]; exact (X.K.1 ci r hr').2.1⟩, fun U hU hW => ⟨rfl, by rw [hU]; exact hH, X.2.2.2.2.2.2.2.2.1.warm hW⟩⟩ rfl (by rw [List.length_map]; exact hn) hl.1 (by rw [List.map_append, List.map_reverse]; rfl) (lv_room (by rw [up_cats]; exact hcat)) hd ⟨hc, hs⟩) hq ?_
    intro r h' H1 locs1 hH1 hP1 hq1
    have K := hP1 H1 ls locs1 hH1 hl hq1
    rw [hnx, List.map_append] at K
    exact K
  · cases hk
theorem sm_46 (X : aCtx G pq p s m args meth c mi) (hok : aOk pq) (ih : aIH G l pq cl d) : aRul cl mi.cd C S rt ini Q (aW G p l e (aRm (d + 1) C S) s m args below meth c mi Q') 46 := by
  intro k i x n a as st mc ms lo h c1 s1 hg hi hx hn hcat hc hs hcl H ls locs hH hl hq
  obtain ⟨j, rfl⟩ := hi
  obtain ⟨hd, hnx, w, hk⟩ := X.go hg rfl rfl
  simp only [lChk] at hk
  rw [if_neg (by omega)] at hk
  split at hk
  · rename_i mj hmj
    simp only [Bool.and_eq_true, decide_eq_true_eq, Bool.not_eq_true'] at hk
    obtain ⟨⟨⟨⟨k1, k2⟩, k3⟩, k4⟩, hsta⟩ := hk
    obtain ⟨w1, w2, w3, w4, hm⟩ := hok x mj hmj
    obtain ⟨m1, m2, m3, m4, m5, -, -, -, -⟩ := mChk_spec hm
    have hM := ih x mj (.ref a :: as) h mc ms _ hmj hcl
    have hC := cChk_spec k2
    have hname : mj.y.name = "<init>" := by
      have := k3
      unfold aM.ini at this
      exact eq_of_beq this
    have hws : aWs mj = Cond.code mj.y mj.bs mj.nL none :: lw_good := by unfold aWs; rw [k4]
    have kk : ∀ (r : Option Value) (h : aH) (H1 : Heap) (locs1 : List Loc), aHp G H1 h → aW G p l e (aRm (d + 1) C S) s m args below meth c mi Q' (k + 1) lo (r.toList ++ st) h (c1 + mc) (s1 + ms) → (∀ q ∈ locs1, G.1.heap.size ≤ q.base) → W p l e (aRm (d + 1) C S) s m args below meth c H1 locs1 (c1 + mc) (s1 + ms) Q' (F0 m (aPc mi.cd k + 3) ls ((r.toList).map (up G) ++ st.map (up G))) := by
      intro r h' H1 locs1 hH1 hP1 hq1
      have K := hP1 H1 ls locs1 hH1 hl hq1
      rw [hnx, List.map_append] at K
      exact K
    by_cases hw : w < 10000
    · rw [if_pos hw] at k1
      exact aCallK (va_runI (As := as.map (up G)) (b := ad G a) (rest := st.map (up G)) (n := n) ⟨X.1, X.2.1, X.2.2.1, X.own, X.ts⟩ hM (cwI n X.ts (aGood _ (aWs_in m1)) hws rfl rfl (X.ts _ m5) (X.ts _ (wIs_in k1)) (X.ts _ (m3 hsta)) hname ⟨hC.2.1, hC.2.2.1, hC.1⟩ (aRm_ok k2)) ⟨aPre_blind _ h, fun U hU hW => ⟨rfl, by rw [hU]; exact hH, X.2.2.2.2.2.2.2.2.1.warm hW⟩⟩ rfl (by rw [List.length_map]; exact hn) hl.1 (by rw [List.map_append, List.map_reverse]; rfl) (lv_room (by rw [up_cats]; exact hcat)) hd ⟨hc, hs⟩) hq kk
    · rw [if_neg hw] at k1
      have k1 := of_decide_eq_true k1
      exact aCallK (va_runIN (As := as.map (up G)) (b := ad G a) (rest := st.map (up G)) (n := n) ⟨X.1, X.2.1, X.2.2.1, X.own, X.ts⟩ hM ⟨va_cnB n X.ts (aGood _ (aWs_in m1)) hws rfl rfl (X.2.2.2.2.2.2.2.2.1.2.2.1 _ k1) (X.ts _ m5) ⟨hC.2.1, hC.2.2.1, hC.1⟩ (aRm_ok k2), hname, X.ts _ (m3 hsta)⟩ ⟨aPre_blind _ h, fun U hU hW => ⟨rfl, by rw [hU]; exact hH, X.2.2.2.2.2.2.2.2.1.warm hW⟩⟩ rfl (by rw [List.length_map]; exact hn) hl.1 (by rw [List.map_append, List.map_reverse]; rfl) (lv_room (by rw [up_cats]; exact hcat)) hd ⟨hc, hs⟩) hq kk
  · cases hk
theorem sm_47 (X : aCtx G pq p s m args meth c mi) : aRul cl mi.cd C S rt ini Q (aW G p l e (aRm (d + 1) C S) s m args below meth c mi Q') 47 := by
  intro k j n a st lo h c1 s1 hg hcat hP H ls locs hH hl hq
  have K := hP H ls locs hH hl hq
  obtain ⟨hd, hnx, w, hk⟩ := X.go hg rfl rfl
  simp only [lChk] at hk
  rw [if_pos trivial] at hk
  rw [hnx] at K
  have hr : 2 * (F0 m (aPc mi.cd k) ls (List.map (up G) (Value.ref a :: st))).monitorRoom + ((st.map (up G)).map fun v => v.category).sum ≤ 8 := lv_room (by rw [up_cats]; exact hcat)
  exact W.objInit X.1 X.2.1 X.own (X.ts _ (wIs_in hk)) (X.ts _ (lw_good_in aObjB.1 rfl)) (X.ts _ (lw_good_in aObjB.2 rfl)) rfl (hl.1.trans X.2.2.1.symm) rfl hd (by show 1 ≤ d + 1; omega) (by show _ + 12 ≤ 60 * (d + 1); omega) K
end SIM
theorem aArg_sl (G : aG) : ∀ (as : List Value) (i : Nat) (v : Value), (aArg as)[i]? = some (some v) → (lg_sl (as.map (up G)))[i]? = some (Slot.val (up G v))
  | [], i, v, h => by simp [aArg] at h
  | a :: as, i, v, h => by
    have ih := aArg_sl G as
    unfold aArg at h
    unfold lg_sl
    rw [List.flatMap_cons] at h
    rw [List.map_cons, List.flatMap_cons]
    rw [up_cat]
    by_cases hc : a.category = 2
    · rw [if_pos hc] at h ⊢
      match i, h with
      | 0, h => cases h; rfl
      | 1, h => cases h
      | i + 2, h => exact ih i v h
    · rw [if_neg hc] at h ⊢
      match i, h with
      | 0, h => cases h; rfl
      | i + 1, h => exact ih i v h
theorem aArg_len (G : aG) (as : List Value) : (lg_sl (as.map (up G))).length = (aArg as).length := by
  induction as with
  | nil => rfl
  | cons a as ih =>
    unfold aArg lg_sl at *
    rw [List.map_cons, List.flatMap_cons, List.flatMap_cons, List.length_append, List.length_append, ih, up_cat]
    split <;> rfl
theorem aEnt_lv (G : aG) (as : List Value) {n : Nat} (h : (aArg as).length ≤ n) : aLv G ((lg_sl (as.map (up G)) ++ List.replicate (n - (lg_sl (as.map (up G))).length) Slot.unset).toArray) n (aEnt n as) := by
  have h1 := lv_entry (as.map (up G)) (n := n) (by rw [aArg_len]; exact h)
  refine ⟨h1.1, ?_, h1.2.1, fun i v hi => ?_⟩
  · unfold aEnt
    rw [List.length_append, List.length_replicate]; omega
  · unfold aEnt at hi
    by_cases hl : i < (aArg as).length
    · rw [List.getElem?_append_left hl] at hi
      have h2 := aArg_sl G as i v hi
      rw [List.getElem?_toArray, List.getElem?_append_left (by rw [aArg_len]; exact hl)]
      exact h2
    · rw [List.getElem?_append_right (by omega)] at hi
      have := List.mem_of_getElem? hi
      rw [List.mem_replicate] at this
      cases this.2
section SIM
variable {G : aG} {pq : Nat → Option aM} {l : Launch} {cl : aC} {d : Nat}
/-- a run of the AM's body is the machine's -/
theorem aSim (hok : aOk pq) (ih : aIH G l pq cl d) {j : Nat} {mj : aM} (hmj : pq j = some mj) {as : List Value} {h : aH} {mc ms : Nat} {Q : aQ} {ini : Bool} (hfit : (aArg as).length ≤ mj.nL) (hB : aB cl mj.cd mc ms mj.rt ini Q 0 (aEnt mj.nL as) [] h 0 0) : aMet G l mj (d + 1) as h mc ms Q := by
  obtain ⟨w1, w2, w3, w4, hm⟩ := hok j mj hmj
  obtain ⟨m1, m2, m3, m4, m5, m6, m7, m8, m9⟩ := mChk_spec hm
  refine Met.ofW (cc := mj.bs) (maxL := mj.nL) (ret := mj.rt) m7 rfl ?_
  intro p e s m args below meth c s₁ B hml hv
  obtain ⟨rfl, hH, hV⟩ := hv
  have hts := atoms_spec (ws := aWs mj) B.pre
  have hown : s.vm.findClass mj.own = some m.cls := by rw [m8]; exact findClass_of_methodNamed B.named
  have X : aCtx G pq p s m (as.map (up G)).toArray meth c mj := ⟨B.exec, B.bytes, hml, B.returns, B.notSynchronized, hown, fun q => by
    have h1 := (name_of_methodNamed B.named B.method).1
    rw [h1]
    unfold aM.ini at q
    exact eq_of_beq q, fun w hw => hts w (List.mem_cons_of_mem _ hw), hV, m9, by rw [hH.2.1]; omega⟩
  rw [lg_entry_eq]
  have K := hB (aW G p l e (headSpec (aWs mj) (aRm (d + 1) mc ms)).room s m (as.map (up G)).toArray below meth c mj (MQ below (aPost G Q) (as.map (up G)).toArray s mc ms (fun q => G.1.heap.size ≤ q))) (fun n => by
    show aRul cl mj.cd mc ms mj.rt ini Q (aW G p l e (aRm (d + 1) mc ms) s m (as.map (up G)).toArray below meth c mj (MQ below (aPost G Q) (as.map (up G)).toArray s mc ms (fun q => G.1.heap.size ≤ q))) n
    match n with
    | 0 => exact sm_0 X
    | 1 => exact sm_1 X
    | 2 => exact sm_2 X
    | 3 => exact sm_3 X
    | 4 => exact sm_4 X
    | 5 => exact sm_5 X
    | 6 => exact sm_6 X
    | 7 => exact sm_7 X
    | 8 => exact sm_8 X
    | 9 => exact sm_9 X
    | 10 => exact sm_10 X
    | 11 => exact sm_11 X
    | 12 => exact sm_12 X
    | 13 => exact sm_13 X
    | 14 => exact sm_14 X
    | 15 => exact sm_15 X
    | 16 => exact sm_16 X
    | 17 => exact sm_17 X
    | 18 => exact sm_18 X
    | 19 => exact sm_19 X
    | 20 => exact sm_20 X
    | 21 => exact sm_21 X
    | 22 => exact sm_22 X
    | 23 => exact sm_23 X
    | 24 => exact sm_24 X
    | 25 => exact sm_25 X
    | 26 => exact sm_26 X
    | 27 => exact sm_27 X
    | 28 => exact sm_28 X
    | 29 => exact sm_29 X
    | 30 => exact sm_30 X
    | 31 => exact sm_31 X
    | 32 => exact sm_32 X
    | 33 => exact sm_33 X
    | 34 => exact sm_34 X
    | 35 => exact sm_35 X
    | 36 => exact sm_36 X
    | 37 => exact sm_37 X
    | 38 => exact sm_38 X rfl rfl
    | 39 => exact sm_39 X rfl rfl
    | 40 => exact sm_40 X rfl rfl
    | 41 => exact sm_41 X
    | 42 => exact sm_42 X
    | 43 => exact sm_43 X
    | 44 => exact sm_44 X hok ih
    | 45 => exact sm_45 X hok ih
    | 46 => exact sm_46 X hok ih
    | 47 => exact sm_47 X
    | 48 => exact sm_48 X rfl
    | 49 => exact sm_49 X rfl
    | _ + 50 => trivial)
  have K2 := K s.heap _ [] hH (aEnt_lv G as hfit) (fun q hq => by cases hq)
  rw [m6] at K2
  exact K2
/-- every run of the AM is the machine's -/
theorem aSimAll (hok : aOk pq) {pr : aC} (hpr : ∀ d, aIH G l pq pr d) : ∀ d, aIH G l pq (aRun pq pr d) d := by
  intro d
  induction d with
  | zero => intro j mj as h mc ms Q _ hf; exact hf.elim
  | succ d ih =>
    intro j mj as h mc ms Q hj hf
    rcases hf with hf | ⟨mi, h1, h2, h3⟩
    · exact hpr (d + 1) j mj as h mc ms Q hj hf
    · cases hj.symm.trans h1
      exact aSim hok ih hj h2 h3
end SIM
end
section
/-! ===== steps over an abstract state u: Rp u h says how a heap h holds it, Fr h0 h that the rest stayed ===== -/
def gB {σ : Type} (Rp : σ → aH → Prop) (Fr : aH → aH → Prop) (cl : aC) (cd : List aE) (C S : Nat) (rt : Option FieldType) (Q : Option Value → σ → Prop) (k : Nat) (l : aL) (st : List Value) (u : σ) (c s : Nat) : Prop :=
  ∀ (h0 h : aH) (QQ : aQ), Rp u h → Fr h0 h → (∀ r h' u', Rp u' h' → Fr h0 h' → Q r u' → QQ r h') → aB cl cd C S rt false QQ k l st h c s
def gR {σ : Type} (Rp : σ → aH → Prop) (Fr : aH → aH → Prop) (cl : aC) (j : Nat) (as : List Value) (u : σ) (mc ms : Nat) (Q : Option Value → σ → Prop) : Prop :=
  ∀ (h : aH) (QQ : aQ), Rp u h → (∀ r h' u', Rp u' h' → Fr h h' → Q r u' → QQ r h') → cl j as h mc ms QQ
section GB
variable {σ : Type} {Rp : σ → aH → Prop} {Fr : aH → aH → Prop} {cl : aC} {cd : List aE} {C S : Nat} {rt : Option FieldType} {Q : Option Value → σ → Prop} {k : Nat} {l : aL} {st sk : List Value} {u : σ} {c s : Nat}
theorem g_iconst {n : Int} {x y : Nat} (v : Int32) (hg : aGet cd k = some (.iconst n, x, y)) (hv : Int32.ofInt n = v) (hP : gB Rp Fr cl cd C S rt Q (k + 1) l (.int v :: st) u c s) : gB Rp Fr cl cd C S rt Q k l st u c s :=
  fun h0 h QQ hR hF hQ P hr => hr 0 k _ x y (.int v) l st h c s hg (by rw [← hv]; rfl) (hP h0 h QQ hR hF hQ P hr)
theorem g_bipush {n : Int} {x y : Nat} (v : Int32) (hg : aGet cd k = some (.bipush n, x, y)) (hv : (Int8.ofInt n).toInt32 = v) (hP : gB Rp Fr cl cd C S rt Q (k + 1) l (.int v :: st) u c s) : gB Rp Fr cl cd C S rt Q k l st u c s :=
  fun h0 h QQ hR hF hQ P hr => hr 0 k _ x y (.int v) l st h c s hg (by rw [← hv]; rfl) (hP h0 h QQ hR hF hQ P hr)
theorem g_sipush {n : Int} {x y : Nat} (v : Int32) (hg : aGet cd k = some (.sipush n, x, y)) (hv : (Int16.ofInt n).toInt32 = v) (hP : gB Rp Fr cl cd C S rt Q (k + 1) l (.int v :: st) u c s) : gB Rp Fr cl cd C S rt Q k l st u c s :=
  fun h0 h QQ hR hF hQ P hr => hr 0 k _ x y (.int v) l st h c s hg (by rw [← hv]; rfl) (hP h0 h QQ hR hF hQ P hr)
theorem g_lconst {n : Fin 2} {x y : Nat} (v : Int64) (hg : aGet cd k = some (.lconst n, x, y)) (hv : Int64.ofNat (n : Nat) = v) (hP : gB Rp Fr cl cd C S rt Q (k + 1) l (.long v :: st) u c s) : gB Rp Fr cl cd C S rt Q k l st u c s :=
  fun h0 h QQ hR hF hQ P hr => hr 0 k _ x y (.long v) l st h c s hg (by rw [← hv]; rfl) (hP h0 h QQ hR hF hQ P hr)
theorem g_null {x y : Nat} (hg : aGet cd k = some (.aconst_null, x, y)) (hP : gB Rp Fr cl cd C S rt Q (k + 1) l (.null :: st) u c s) : gB Rp Fr cl cd C S rt Q k l st u c s :=
  fun h0 h QQ hR hF hQ P hr => hr 0 k _ x y .null l st h c s hg rfl (hP h0 h QQ hR hF hQ P hr)
theorem g_load {i : Instr} {x y j t : Nat} {v : Value} (hg : aGet cd k = some (i, x, y)) (hk : kLoad i = some (j, t)) (hl : l[j]? = some (some v)) (ht : kTy t v) (hP : gB Rp Fr cl cd C S rt Q (k + 1) l (v :: st) u c s) : gB Rp Fr cl cd C S rt Q k l st u c s :=
  fun h0 h QQ hR hF hQ P hr => hr 1 k _ x y j t v l st h c s hg hk hl ht (hP h0 h QQ hR hF hQ P hr)
theorem g_store {i : Instr} {x y j t : Nat} {v : Value} (l' : aL) (hg : aGet cd k = some (i, x, y)) (hk : kStore i = some (j, t)) (ht : kTy t v) (hj : j + t % 2 < l.length) (hl : aSet l j v = l') (hP : gB Rp Fr cl cd C S rt Q (k + 1) l' st u c s) : gB Rp Fr cl cd C S rt Q k l (v :: st) u c s :=
  fun h0 h QQ hR hF hQ P hr => hr 2 k _ x y j t v l st h c s hg hk ht hj (hl ▸ hP h0 h QQ hR hF hQ P hr)
theorem g_iadd {x y : Nat} {a b : Int32} (hg : aGet cd k = some (.iadd, x, y)) (hP : gB Rp Fr cl cd C S rt Q (k + 1) l (.int (a + b) :: st) u c s) : gB Rp Fr cl cd C S rt Q k l (.int b :: .int a :: st) u c s :=
  fun h0 h QQ hR hF hQ P hr => hr 3 k _ x y _ a b l st h c s hg rfl (hP h0 h QQ hR hF hQ P hr)
theorem g_isub {x y : Nat} {a b : Int32} (hg : aGet cd k = some (.isub, x, y)) (hP : gB Rp Fr cl cd C S rt Q (k + 1) l (.int (a - b) :: st) u c s) : gB Rp Fr cl cd C S rt Q k l (.int b :: .int a :: st) u c s :=
  fun h0 h QQ hR hF hQ P hr => hr 3 k _ x y _ a b l st h c s hg rfl (hP h0 h QQ hR hF hQ P hr)
theorem g_imul {x y : Nat} {a b : Int32} (hg : aGet cd k = some (.imul, x, y)) (hP : gB Rp Fr cl cd C S rt Q (k + 1) l (.int (a * b) :: st) u c s) : gB Rp Fr cl cd C S rt Q k l (.int b :: .int a :: st) u c s :=
  fun h0 h QQ hR hF hQ P hr => hr 3 k _ x y _ a b l st h c s hg rfl (hP h0 h QQ hR hF hQ P hr)
theorem g_iand {x y : Nat} {a b : Int32} (hg : aGet cd k = some (.iand, x, y)) (hP : gB Rp Fr cl cd C S rt Q (k + 1) l (.int (a &&& b) :: st) u c s) : gB Rp Fr cl cd C S rt Q k l (.int b :: .int a :: st) u c s :=
  fun h0 h QQ hR hF hQ P hr => hr 3 k _ x y _ a b l st h c s hg rfl (hP h0 h QQ hR hF hQ P hr)
theorem g_ior {x y : Nat} {a b : Int32} (hg : aGet cd k = some (.ior, x, y)) (hP : gB Rp Fr cl cd C S rt Q (k + 1) l (.int (a ||| b) :: st) u c s) : gB Rp Fr cl cd C S rt Q k l (.int b :: .int a :: st) u c s :=
  fun h0 h QQ hR hF hQ P hr => hr 3 k _ x y _ a b l st h c s hg rfl (hP h0 h QQ hR hF hQ P hr)
theorem g_ixor {x y : Nat} {a b : Int32} (hg : aGet cd k = some (.ixor, x, y)) (hP : gB Rp Fr cl cd C S rt Q (k + 1) l (.int (a ^^^ b) :: st) u c s) : gB Rp Fr cl cd C S rt Q k l (.int b :: .int a :: st) u c s :=
  fun h0 h QQ hR hF hQ P hr => hr 3 k _ x y _ a b l st h c s hg rfl (hP h0 h QQ hR hF hQ P hr)
theorem g_ishl {x y : Nat} {a b : Int32} (hg : aGet cd k = some (.ishl, x, y)) (hP : gB Rp Fr cl cd C S rt Q (k + 1) l (.int (a <<< (b &&& 31)) :: st) u c s) : gB Rp Fr cl cd C S rt Q k l (.int b :: .int a :: st) u c s :=
  fun h0 h QQ hR hF hQ P hr => hr 3 k _ x y _ a b l st h c s hg rfl (hP h0 h QQ hR hF hQ P hr)
theorem g_ishr {x y : Nat} {a b : Int32} (hg : aGet cd k = some (.ishr, x, y)) (hP : gB Rp Fr cl cd C S rt Q (k + 1) l (.int (a >>> (b &&& 31)) :: st) u c s) : gB Rp Fr cl cd C S rt Q k l (.int b :: .int a :: st) u c s :=
  fun h0 h QQ hR hF hQ P hr => hr 3 k _ x y _ a b l st h c s hg rfl (hP h0 h QQ hR hF hQ P hr)
theorem g_iushr {x y : Nat} {a b : Int32} (hg : aGet cd k = some (.iushr, x, y)) (hP : gB Rp Fr cl cd C S rt Q (k + 1) l (.int ((a.toUInt32 >>> (b.toUInt32 &&& Int32.toUInt32 31)).toInt32) :: st) u c s) : gB Rp Fr cl cd C S rt Q k l (.int b :: .int a :: st) u c s :=
  fun h0 h QQ hR hF hQ P hr => hr 3 k _ x y _ a b l st h c s hg rfl (hP h0 h QQ hR hF hQ P hr)
theorem g_idiv {x y : Nat} {a b : Int32} (hg : aGet cd k = some (.idiv, x, y)) (hb : ¬ b = 0) (hP : gB Rp Fr cl cd C S rt Q (k + 1) l (.int (a / b) :: st) u c s) : gB Rp Fr cl cd C S rt Q k l (.int b :: .int a :: st) u c s :=
  fun h0 h QQ hR hF hQ P hr => hr 4 k _ x y _ a b l st h c s hg rfl hb (hP h0 h QQ hR hF hQ P hr)
theorem g_irem {x y : Nat} {a b : Int32} (hg : aGet cd k = some (.irem, x, y)) (hb : ¬ b = 0) (hP : gB Rp Fr cl cd C S rt Q (k + 1) l (.int (a - a / b * b) :: st) u c s) : gB Rp Fr cl cd C S rt Q k l (.int b :: .int a :: st) u c s :=
  fun h0 h QQ hR hF hQ P hr => hr 4 k _ x y _ a b l st h c s hg rfl hb (hP h0 h QQ hR hF hQ P hr)
theorem g_ladd {x y : Nat} {a b : Int64} (hg : aGet cd k = some (.ladd, x, y)) (hP : gB Rp Fr cl cd C S rt Q (k + 1) l (.long (a + b) :: st) u c s) : gB Rp Fr cl cd C S rt Q k l (.long b :: .long a :: st) u c s :=
  fun h0 h QQ hR hF hQ P hr => hr 5 k _ x y _ a b l st h c s hg rfl (hP h0 h QQ hR hF hQ P hr)
theorem g_lsub {x y : Nat} {a b : Int64} (hg : aGet cd k = some (.lsub, x, y)) (hP : gB Rp Fr cl cd C S rt Q (k + 1) l (.long (a - b) :: st) u c s) : gB Rp Fr cl cd C S rt Q k l (.long b :: .long a :: st) u c s :=
  fun h0 h QQ hR hF hQ P hr => hr 5 k _ x y _ a b l st h c s hg rfl (hP h0 h QQ hR hF hQ P hr)
theorem g_lmul {x y : Nat} {a b : Int64} (hg : aGet cd k = some (.lmul, x, y)) (hP : gB Rp Fr cl cd C S rt Q (k + 1) l (.long (a * b) :: st) u c s) : gB Rp Fr cl cd C S rt Q k l (.long b :: .long a :: st) u c s :=
  fun h0 h QQ hR hF hQ P hr => hr 5 k _ x y _ a b l st h c s hg rfl (hP h0 h QQ hR hF hQ P hr)
theorem g_land {x y : Nat} {a b : Int64} (hg : aGet cd k = some (.land, x, y)) (hP : gB Rp Fr cl cd C S rt Q (k + 1) l (.long (a &&& b) :: st) u c s) : gB Rp Fr cl cd C S rt Q k l (.long b :: .long a :: st) u c s :=
  fun h0 h QQ hR hF hQ P hr => hr 5 k _ x y _ a b l st h c s hg rfl (hP h0 h QQ hR hF hQ P hr)
theorem g_lor {x y : Nat} {a b : Int64} (hg : aGet cd k = some (.lor, x, y)) (hP : gB Rp Fr cl cd C S rt Q (k + 1) l (.long (a ||| b) :: st) u c s) : gB Rp Fr cl cd C S rt Q k l (.long b :: .long a :: st) u c s :=
  fun h0 h QQ hR hF hQ P hr => hr 5 k _ x y _ a b l st h c s hg rfl (hP h0 h QQ hR hF hQ P hr)
theorem g_lxor {x y : Nat} {a b : Int64} (hg : aGet cd k = some (.lxor, x, y)) (hP : gB Rp Fr cl cd C S rt Q (k + 1) l (.long (a ^^^ b) :: st) u c s) : gB Rp Fr cl cd C S rt Q k l (.long b :: .long a :: st) u c s :=
  fun h0 h QQ hR hF hQ P hr => hr 5 k _ x y _ a b l st h c s hg rfl (hP h0 h QQ hR hF hQ P hr)
theorem g_lshl {x y : Nat} {a : Int64} {b : Int32} (hg : aGet cd k = some (.lshl, x, y)) (hP : gB Rp Fr cl cd C S rt Q (k + 1) l (.long (a <<< (b.toInt64 &&& 63)) :: st) u c s) : gB Rp Fr cl cd C S rt Q k l (.int b :: .long a :: st) u c s :=
  fun h0 h QQ hR hF hQ P hr => hr 6 k _ x y _ a b l st h c s hg rfl (hP h0 h QQ hR hF hQ P hr)
theorem g_lshr {x y : Nat} {a : Int64} {b : Int32} (hg : aGet cd k = some (.lshr, x, y)) (hP : gB Rp Fr cl cd C S rt Q (k + 1) l (.long (a >>> (b.toInt64 &&& 63)) :: st) u c s) : gB Rp Fr cl cd C S rt Q k l (.int b :: .long a :: st) u c s :=
  fun h0 h QQ hR hF hQ P hr => hr 6 k _ x y _ a b l st h c s hg rfl (hP h0 h QQ hR hF hQ P hr)
theorem g_lushr {x y : Nat} {a : Int64} {b : Int32} (hg : aGet cd k = some (.lushr, x, y)) (hP : gB Rp Fr cl cd C S rt Q (k + 1) l (.long ((a.toUInt64 >>> (b.toInt64.toUInt64 &&& Int64.toUInt64 63)).toInt64) :: st) u c s) : gB Rp Fr cl cd C S rt Q k l (.int b :: .long a :: st) u c s :=
  fun h0 h QQ hR hF hQ P hr => hr 6 k _ x y _ a b l st h c s hg rfl (hP h0 h QQ hR hF hQ P hr)
theorem g_ineg {x y : Nat} {a : Int32} (hg : aGet cd k = some (.ineg, x, y)) (hP : gB Rp Fr cl cd C S rt Q (k + 1) l (.int (-a) :: st) u c s) : gB Rp Fr cl cd C S rt Q k l (.int a :: st) u c s :=
  fun h0 h QQ hR hF hQ P hr => hr 7 k _ x y _ a l st h c s hg rfl (hP h0 h QQ hR hF hQ P hr)
theorem g_i2b {x y : Nat} {a : Int32} (hg : aGet cd k = some (.i2b, x, y)) (hP : gB Rp Fr cl cd C S rt Q (k + 1) l (.int (a.toInt8.toInt32) :: st) u c s) : gB Rp Fr cl cd C S rt Q k l (.int a :: st) u c s :=
  fun h0 h QQ hR hF hQ P hr => hr 7 k _ x y _ a l st h c s hg rfl (hP h0 h QQ hR hF hQ P hr)
theorem g_i2c {x y : Nat} {a : Int32} (hg : aGet cd k = some (.i2c, x, y)) (hP : gB Rp Fr cl cd C S rt Q (k + 1) l (.int ((a.toUInt32 % 65536).toInt32) :: st) u c s) : gB Rp Fr cl cd C S rt Q k l (.int a :: st) u c s :=
  fun h0 h QQ hR hF hQ P hr => hr 7 k _ x y _ a l st h c s hg rfl (hP h0 h QQ hR hF hQ P hr)
theorem g_lneg {x y : Nat} {a : Int64} (hg : aGet cd k = some (.lneg, x, y)) (hP : gB Rp Fr cl cd C S rt Q (k + 1) l (.long (-a) :: st) u c s) : gB Rp Fr cl cd C S rt Q k l (.long a :: st) u c s :=
  fun h0 h QQ hR hF hQ P hr => hr 8 k x y a l st h c s hg (hP h0 h QQ hR hF hQ P hr)
theorem g_i2l {x y : Nat} {a : Int32} (hg : aGet cd k = some (.i2l, x, y)) (hP : gB Rp Fr cl cd C S rt Q (k + 1) l (.long (Int32.toInt64 a) :: st) u c s) : gB Rp Fr cl cd C S rt Q k l (.int a :: st) u c s :=
  fun h0 h QQ hR hF hQ P hr => hr 9 k x y a l st h c s hg (hP h0 h QQ hR hF hQ P hr)
theorem g_l2i {x y : Nat} {a : Int64} (hg : aGet cd k = some (.l2i, x, y)) (hP : gB Rp Fr cl cd C S rt Q (k + 1) l (.int (Int64.toInt32 a) :: st) u c s) : gB Rp Fr cl cd C S rt Q k l (.long a :: st) u c s :=
  fun h0 h QQ hR hF hQ P hr => hr 10 k x y a l st h c s hg (hP h0 h QQ hR hF hQ P hr)
theorem g_lcmp {x y : Nat} {a b : Int64} (hg : aGet cd k = some (.lcmp, x, y)) (hP : gB Rp Fr cl cd C S rt Q (k + 1) l (.int (lg_cmp a b) :: st) u c s) : gB Rp Fr cl cd C S rt Q k l (.long b :: .long a :: st) u c s :=
  fun h0 h QQ hR hF hQ P hr => hr 11 k x y a b l st h c s hg (hP h0 h QQ hR hF hQ P hr)
theorem g_iinc {j : Nat} {n : Int} {x y : Nat} {a : Int32} (v : Int32) (l' : aL) (hg : aGet cd k = some (.iinc j n, x, y)) (hj : l[j]? = some (some (.int a))) (hv : a + Int32.ofInt n = v) (hl : l.set j (some (.int v)) = l') (hP : gB Rp Fr cl cd C S rt Q (k + 1) l' st u c s) : gB Rp Fr cl cd C S rt Q k l st u c s :=
  fun h0 h QQ hR hF hQ P hr => hr 12 k j n x y a l st h c s hg hj (by rw [hv, hl]; exact hP h0 h QQ hR hF hQ P hr)
theorem g_dup {x y : Nat} {v : Value} (hg : aGet cd k = some (.dup, x, y)) (hv : v.category = 1) (hP : gB Rp Fr cl cd C S rt Q (k + 1) l (v :: v :: st) u c s) : gB Rp Fr cl cd C S rt Q k l (v :: st) u c s :=
  fun h0 h QQ hR hF hQ P hr => hr 13 k x y v l st h c s hg hv (hP h0 h QQ hR hF hQ P hr)
theorem g_pop {x y : Nat} {v : Value} (hg : aGet cd k = some (.pop, x, y)) (hv : v.category = 1) (hP : gB Rp Fr cl cd C S rt Q (k + 1) l st u c s) : gB Rp Fr cl cd C S rt Q k l (v :: st) u c s :=
  fun h0 h QQ hR hF hQ P hr => hr 14 k x y v l st h c s hg hv (hP h0 h QQ hR hF hQ P hr)
theorem g_dup2 {x y : Nat} {v w : Value} (hg : aGet cd k = some (.dup2, x, y)) (hv : v.category = 1) (hw : w.category = 1) (hP : gB Rp Fr cl cd C S rt Q (k + 1) l (v :: w :: v :: w :: st) u c s) : gB Rp Fr cl cd C S rt Q k l (v :: w :: st) u c s :=
  fun h0 h QQ hR hF hQ P hr => hr 15 k x y v w l st h c s hg hv hw (hP h0 h QQ hR hF hQ P hr)
theorem g_dup_x1 {x y : Nat} {v w : Value} (hg : aGet cd k = some (.dup_x1, x, y)) (hv : v.category = 1) (hw : w.category = 1) (hP : gB Rp Fr cl cd C S rt Q (k + 1) l (v :: w :: v :: st) u c s) : gB Rp Fr cl cd C S rt Q k l (v :: w :: st) u c s :=
  fun h0 h QQ hR hF hQ P hr => hr 16 k x y v w l st h c s hg hv hw (hP h0 h QQ hR hF hQ P hr)
theorem g_if_eq {off : Int} {x y : Nat} {a : Int32} (hg : aGet cd k = some (.ifCond .eq off, x, y)) (hT : a = 0 → gB Rp Fr cl cd C S rt Q x l st u c s) (hN : ¬ a = 0 → gB Rp Fr cl cd C S rt Q (k + 1) l st u c s) : gB Rp Fr cl cd C S rt Q k l (.int a :: st) u c s :=
  fun h0 h QQ hR hF hQ P hr => hr 17 k _ off x y a l st h c s hg (fun q => hT q h0 h QQ hR hF hQ P hr) (fun q => hN q h0 h QQ hR hF hQ P hr)
theorem g_icmp_eq {off : Int} {x y : Nat} {a b : Int32} (hg : aGet cd k = some (.if_icmp .eq off, x, y)) (hT : a = b → gB Rp Fr cl cd C S rt Q x l st u c s) (hN : ¬ a = b → gB Rp Fr cl cd C S rt Q (k + 1) l st u c s) : gB Rp Fr cl cd C S rt Q k l (.int b :: .int a :: st) u c s :=
  fun h0 h QQ hR hF hQ P hr => hr 18 k _ off x y a b l st h c s hg (fun q => hT q h0 h QQ hR hF hQ P hr) (fun q => hN q h0 h QQ hR hF hQ P hr)
theorem g_if_ne {off : Int} {x y : Nat} {a : Int32} (hg : aGet cd k = some (.ifCond .ne off, x, y)) (hT : ¬ a = 0 → gB Rp Fr cl cd C S rt Q x l st u c s) (hN : a = 0 → gB Rp Fr cl cd C S rt Q (k + 1) l st u c s) : gB Rp Fr cl cd C S rt Q k l (.int a :: st) u c s :=
  fun h0 h QQ hR hF hQ P hr => hr 17 k _ off x y a l st h c s hg (fun q => hT q h0 h QQ hR hF hQ P hr) (fun q => hN (Decidable.of_not_not q) h0 h QQ hR hF hQ P hr)
theorem g_icmp_ne {off : Int} {x y : Nat} {a b : Int32} (hg : aGet cd k = some (.if_icmp .ne off, x, y)) (hT : ¬ a = b → gB Rp Fr cl cd C S rt Q x l st u c s) (hN : a = b → gB Rp Fr cl cd C S rt Q (k + 1) l st u c s) : gB Rp Fr cl cd C S rt Q k l (.int b :: .int a :: st) u c s :=
  fun h0 h QQ hR hF hQ P hr => hr 18 k _ off x y a b l st h c s hg (fun q => hT q h0 h QQ hR hF hQ P hr) (fun q => hN (Decidable.of_not_not q) h0 h QQ hR hF hQ P hr)
theorem g_if_lt {off : Int} {x y : Nat} {a : Int32} (hg : aGet cd k = some (.ifCond .lt off, x, y)) (hT : a < 0 → gB Rp Fr cl cd C S rt Q x l st u c s) (hN : ¬ a < 0 → gB Rp Fr cl cd C S rt Q (k + 1) l st u c s) : gB Rp Fr cl cd C S rt Q k l (.int a :: st) u c s :=
  fun h0 h QQ hR hF hQ P hr => hr 17 k _ off x y a l st h c s hg (fun q => hT q h0 h QQ hR hF hQ P hr) (fun q => hN q h0 h QQ hR hF hQ P hr)
theorem g_icmp_lt {off : Int} {x y : Nat} {a b : Int32} (hg : aGet cd k = some (.if_icmp .lt off, x, y)) (hT : a < b → gB Rp Fr cl cd C S rt Q x l st u c s) (hN : ¬ a < b → gB Rp Fr cl cd C S rt Q (k + 1) l st u c s) : gB Rp Fr cl cd C S rt Q k l (.int b :: .int a :: st) u c s :=
  fun h0 h QQ hR hF hQ P hr => hr 18 k _ off x y a b l st h c s hg (fun q => hT q h0 h QQ hR hF hQ P hr) (fun q => hN q h0 h QQ hR hF hQ P hr)
theorem g_if_ge {off : Int} {x y : Nat} {a : Int32} (hg : aGet cd k = some (.ifCond .ge off, x, y)) (hT : 0 ≤ a → gB Rp Fr cl cd C S rt Q x l st u c s) (hN : ¬ 0 ≤ a → gB Rp Fr cl cd C S rt Q (k + 1) l st u c s) : gB Rp Fr cl cd C S rt Q k l (.int a :: st) u c s :=
  fun h0 h QQ hR hF hQ P hr => hr 17 k _ off x y a l st h c s hg (fun q => hT q h0 h QQ hR hF hQ P hr) (fun q => hN q h0 h QQ hR hF hQ P hr)
theorem g_icmp_ge {off : Int} {x y : Nat} {a b : Int32} (hg : aGet cd k = some (.if_icmp .ge off, x, y)) (hT : b ≤ a → gB Rp Fr cl cd C S rt Q x l st u c s) (hN : ¬ b ≤ a → gB Rp Fr cl cd C S rt Q (k + 1) l st u c s) : gB Rp Fr cl cd C S rt Q k l (.int b :: .int a :: st) u c s :=
  fun h0 h QQ hR hF hQ P hr => hr 18 k _ off x y a b l st h c s hg (fun q => hT q h0 h QQ hR hF hQ P hr) (fun q => hN q h0 h QQ hR hF hQ P hr)
theorem g_if_gt {off : Int} {x y : Nat} {a : Int32} (hg : aGet cd k = some (.ifCond .gt off, x, y)) (hT : 0 < a → gB Rp Fr cl cd C S rt Q x l st u c s) (hN : ¬ 0 < a → gB Rp Fr cl cd C S rt Q (k + 1) l st u c s) : gB Rp Fr cl cd C S rt Q k l (.int a :: st) u c s :=
  fun h0 h QQ hR hF hQ P hr => hr 17 k _ off x y a l st h c s hg (fun q => hT q h0 h QQ hR hF hQ P hr) (fun q => hN q h0 h QQ hR hF hQ P hr)
theorem g_icmp_gt {off : Int} {x y : Nat} {a b : Int32} (hg : aGet cd k = some (.if_icmp .gt off, x, y)) (hT : b < a → gB Rp Fr cl cd C S rt Q x l st u c s) (hN : ¬ b < a → gB Rp Fr cl cd C S rt Q (k + 1) l st u c s) : gB Rp Fr cl cd C S rt Q k l (.int b :: .int a :: st) u c s :=
  fun h0 h QQ hR hF hQ P hr => hr 18 k _ off x y a b l st h c s hg (fun q => hT q h0 h QQ hR hF hQ P hr) (fun q => hN q h0 h QQ hR hF hQ P hr)
theorem g_if_le {off : Int} {x y : Nat} {a : Int32} (hg : aGet cd k = some (.ifCond .le off, x, y)) (hT : a ≤ 0 → gB Rp Fr cl cd C S rt Q x l st u c s) (hN : ¬ a ≤ 0 → gB Rp Fr cl cd C S rt Q (k + 1) l st u c s) : gB Rp Fr cl cd C S rt Q k l (.int a :: st) u c s :=
  fun h0 h QQ hR hF hQ P hr => hr 17 k _ off x y a l st h c s hg (fun q => hT q h0 h QQ hR hF hQ P hr) (fun q => hN q h0 h QQ hR hF hQ P hr)
theorem g_icmp_le {off : Int} {x y : Nat} {a b : Int32} (hg : aGet cd k = some (.if_icmp .le off, x, y)) (hT : a ≤ b → gB Rp Fr cl cd C S rt Q x l st u c s) (hN : ¬ a ≤ b → gB Rp Fr cl cd C S rt Q (k + 1) l st u c s) : gB Rp Fr cl cd C S rt Q k l (.int b :: .int a :: st) u c s :=
  fun h0 h QQ hR hF hQ P hr => hr 18 k _ off x y a b l st h c s hg (fun q => hT q h0 h QQ hR hF hQ P hr) (fun q => hN q h0 h QQ hR hF hQ P hr)
theorem g_goto {off : Int} {x y : Nat} (hg : aGet cd k = some (.goto off, x, y)) (hP : gB Rp Fr cl cd C S rt Q x l st u c s) : gB Rp Fr cl cd C S rt Q k l st u c s :=
  fun h0 h QQ hR hF hQ P hr => hr 19 k off x y l st h c s hg (hP h0 h QQ hR hF hQ P hr)
theorem g_ifnull_r {off : Int} {x y a : Nat} (hg : aGet cd k = some (.ifnull off, x, y)) (hP : gB Rp Fr cl cd C S rt Q (k + 1) l st u c s) : gB Rp Fr cl cd C S rt Q k l (.ref a :: st) u c s :=
  fun h0 h QQ hR hF hQ P hr => hr 20 k off x y a l st h c s hg (hP h0 h QQ hR hF hQ P hr)
theorem g_ifnull_n {off : Int} {x y : Nat} (hg : aGet cd k = some (.ifnull off, x, y)) (hP : gB Rp Fr cl cd C S rt Q x l st u c s) : gB Rp Fr cl cd C S rt Q k l (.null :: st) u c s :=
  fun h0 h QQ hR hF hQ P hr => hr 21 k off x y l st h c s hg (hP h0 h QQ hR hF hQ P hr)
theorem g_ifnonnull_r {off : Int} {x y a : Nat} (hg : aGet cd k = some (.ifnonnull off, x, y)) (hP : gB Rp Fr cl cd C S rt Q x l st u c s) : gB Rp Fr cl cd C S rt Q k l (.ref a :: st) u c s :=
  fun h0 h QQ hR hF hQ P hr => hr 22 k off x y a l st h c s hg (hP h0 h QQ hR hF hQ P hr)
theorem g_ifnonnull_n {off : Int} {x y : Nat} (hg : aGet cd k = some (.ifnonnull off, x, y)) (hP : gB Rp Fr cl cd C S rt Q (k + 1) l st u c s) : gB Rp Fr cl cd C S rt Q k l (.null :: st) u c s :=
  fun h0 h QQ hR hF hQ P hr => hr 23 k off x y l st h c s hg (hP h0 h QQ hR hF hQ P hr)
theorem g_tabOut {d lo hi : Int} {offs : Array Int} {x y : Nat} {a : Int32} (t : Nat) (hg : aGet cd k = some (.tableswitch d lo hi offs, x, y)) (h1 : a.toInt < lo ∨ hi < a.toInt) (ht : (aPc cd k : Int) + d = (aPc cd t : Int)) (hP : gB Rp Fr cl cd C S rt Q t l st u c s) : gB Rp Fr cl cd C S rt Q k l (.int a :: st) u c s :=
  fun h0 h QQ hR hF hQ P hr => hr 24 k d lo hi offs x y a t l st h c s hg h1 ht (hP h0 h QQ hR hF hQ P hr)
theorem g_tabIn {d lo hi : Int} {offs : Array Int} {x y : Nat} {a : Int32} (o : Int) (t : Nat) (hg : aGet cd k = some (.tableswitch d lo hi offs, x, y)) (h1 : ¬ a.toInt < lo) (h2 : ¬ hi < a.toInt) (ho : offs[(a.toInt - lo).toNat]? = some o) (ht : (aPc cd k : Int) + o = (aPc cd t : Int)) (hP : gB Rp Fr cl cd C S rt Q t l st u c s) : gB Rp Fr cl cd C S rt Q k l (.int a :: st) u c s :=
  fun h0 h QQ hR hF hQ P hr => hr 25 k d lo hi offs x y a o t l st h c s hg h1 h2 ho ht (hP h0 h QQ hR hF hQ P hr)
theorem g_ldc {i : Instr} {x : Nat} (v : Int32) (hg : aGet cd k = some (i, x, 0)) (hi : ∃ j, i = .ldc j ∨ i = .ldc_w j) (hv : Int32.ofNat x = v) (hP : gB Rp Fr cl cd C S rt Q (k + 1) l (.int v :: st) u c s) : gB Rp Fr cl cd C S rt Q k l st u c s :=
  fun h0 h QQ hR hF hQ P hr => hr 42 k _ x 0 l st h c s hg hi (by rw [if_pos rfl, hv]; exact hP h0 h QQ hR hF hQ P hr)
theorem g_ldc2 {j x y : Nat} (v : Int64) (hg : aGet cd k = some (.ldc2_w j, x, y)) (hv : Int64.ofNat x = v) (hP : gB Rp Fr cl cd C S rt Q (k + 1) l (.long v :: st) u c s) : gB Rp Fr cl cd C S rt Q k l st u c s :=
  fun h0 h QQ hR hF hQ P hr => hr 43 k j x y l st h c s hg (by rw [hv]; exact hP h0 h QQ hR hF hQ P hr)
theorem g_static {j x n : Nat} (as : List Value) (mc ms : Nat) (hft : ∀ a b d, Fr a b → Fr b d → Fr a d) (hg : aGet cd k = some (.invokestatic j, x, n)) (hn : as.length = n) (hst : as.reverse ++ st = sk) (hcat : aCat st ≤ 8) (hc : c + mc ≤ C) (hs : s + ms ≤ S) (hC : gR Rp Fr cl x as u mc ms (fun r u' => gB Rp Fr cl cd C S rt Q (k + 1) l (r.toList ++ st) u' (c + mc) (s + ms))) : gB Rp Fr cl cd C S rt Q k l sk u c s :=
  fun h0 h QQ hR hF hQ P hr => hst ▸ hr 44 k _ x n as st mc ms l h c s hg ⟨j, rfl⟩ hn hcat hc hs (hC h _ hR (fun r h' u' hR' hF' hB => hB h0 h' QQ hR' (hft h0 h h' hF hF') hQ P hr))
theorem g_special {j x n a : Nat} (as : List Value) (mc ms : Nat) (hft : ∀ a b d, Fr a b → Fr b d → Fr a d) (hg : aGet cd k = some (.invokespecial j, x, n)) (hx : x < 1000) (hn : as.length = n) (hst : as.reverse ++ .ref a :: st = sk) (hcat : aCat st ≤ 8) (hc : c + mc ≤ C) (hs : s + ms ≤ S) (hC : gR Rp Fr cl x (.ref a :: as) u mc ms (fun r u' => gB Rp Fr cl cd C S rt Q (k + 1) l (r.toList ++ st) u' (c + mc) (s + ms))) : gB Rp Fr cl cd C S rt Q k l sk u c s :=
  fun h0 h QQ hR hF hQ P hr => hst ▸ hr 46 k _ x n a as st mc ms l h c s hg ⟨j, rfl⟩ hx hn hcat hc hs (hC h _ hR (fun r h' u' hR' hF' hB => hB h0 h' QQ hR' (hft h0 h h' hF hF') hQ P hr))
theorem g_virtual {j x n a ci y : Nat} (as : List Value) (mc ms : Nat) (hft : ∀ a b d, Fr a b → Fr b d → Fr a d) (hg : aGet cd k = some (.invokevirtual j, x, y)) (hy : y = n + 16 * ci) (hn16 : n < 16) (hn : as.length = n) (hob : ∀ h, Rp u h → 16 ≤ a ∧ a < h.2 ∧ ∃ fs, h.1 a = .inr (ci, fs)) (hst : as.reverse ++ .ref a :: st = sk) (hcat : aCat st ≤ 8) (hc : c + mc ≤ C) (hs : s + ms ≤ S) (hC : gR Rp Fr cl x (.ref a :: as) u mc ms (fun r u' => gB Rp Fr cl cd C S rt Q (k + 1) l (r.toList ++ st) u' (c + mc) (s + ms))) : gB Rp Fr cl cd C S rt Q k l sk u c s := by
  intro h0 h QQ hR hF hQ P hr
  obtain ⟨b1, b2, fs, b3⟩ := hob h hR
  subst hy
  exact hst ▸ hr 45 k _ x n a as st mc ms ci fs l h c s hg ⟨j, rfl⟩ hn16 hn b1 b2 b3 hcat hc hs (hC h _ hR (fun r h' u' hR' hF' hB => hB h0 h' QQ hR' (hft h0 h h' hF hF') hQ P hr))
theorem g_objInit {j n a : Nat} (hg : aGet cd k = some (.invokespecial j, 1000, n)) (hcat : aCat st ≤ 8) (hP : gB Rp Fr cl cd C S rt Q (k + 1) l st u c s) : gB Rp Fr cl cd C S rt Q k l (.ref a :: st) u c s :=
  fun h0 h QQ hR hF hQ P hr => hr 47 k j n a st l h c s hg hcat (hP h0 h QQ hR hF hQ P hr)
theorem g_ret {x y : Nat} (hg : aGet cd k = some (.return_, x, y)) (hrt : rt = none) (hc : c ≤ C) (hs : s ≤ S) (hQ : Q none u) : gB Rp Fr cl cd C S rt Q k l [] u c s :=
  fun h0 h QQ hR hF hQQ P hr => hr 48 k x y l h c s hg hrt hc hs (hQQ none h u hR hF hQ)
theorem g_vret {i : Instr} {x y : Nat} {v : Value} (hg : aGet cd k = some (i, x, y)) (hk : kRet i v) (hrt : aRT rt (some v)) (hc : c ≤ C) (hs : s ≤ S) (hQ : Q (some v) u) : gB Rp Fr cl cd C S rt Q k l [v] u c s :=
  fun h0 h QQ hR hF hQQ P hr => hr 49 k i x y v l h c s hg hk hrt hc hs (hQQ (some v) h u hR hF hQ)
theorem g_cast {k' : Nat} {l' : aL} {st' : List Value} (h1 : k = k') (h2 : l = l') (h3 : st = st') (hP : gB Rp Fr cl cd C S rt Q k' l' st' u c s) : gB Rp Fr cl cd C S rt Q k l st u c s := by subst h1; subst h2; subst h3; exact hP
theorem g_virtI {j x n a ci y : Nat} (as : List Value) (hft : ∀ a b d, Fr a b → Fr b d → Fr a d) (hg : aGet cd k = some (.invokevirtual j, x, y)) (hy : y = n + 16 * ci) (hn16 : n < 16) (hn : as.length = n) (hob : ∀ h, Rp u h → 16 ≤ a ∧ a < h.2 ∧ ∃ fs, h.1 a = .inr (ci, fs)) (hst : as.reverse ++ .ref a :: st = sk) (hcat : aCat st ≤ 8) (hc : c ≤ C) (hs : s ≤ S) (hC : gR Rp Fr cl x (.ref a :: as) u 0 0 (fun r u' => ∃ v, r = some v ∧ gB Rp Fr cl cd C S rt Q (k + 1) l (v :: st) u' c s)) : gB Rp Fr cl cd C S rt Q k l sk u c s := by
  intro h0 h QQ hR hF hQ P hr
  obtain ⟨b1, b2, fs, b3⟩ := hob h hR
  subst hy
  refine hst ▸ hr 45 k _ x n a as st 0 0 ci fs l h c s hg ⟨j, rfl⟩ hn16 hn b1 b2 b3 hcat hc hs (hC h _ hR (fun r h' u' hR' hF' hB => ?_))
  obtain ⟨v, rfl, hB⟩ := hB
  exact hB h0 h' QQ hR' (hft h0 h h' hF hF') hQ P hr
theorem g_statI {j x n : Nat} (as : List Value) (hft : ∀ a b d, Fr a b → Fr b d → Fr a d) (hg : aGet cd k = some (.invokestatic j, x, n)) (hn : as.length = n) (hst : as.reverse ++ st = sk) (hcat : aCat st ≤ 8) (hc : c ≤ C) (hs : s ≤ S) (hC : gR Rp Fr cl x as u 0 0 (fun r u' => ∃ v, r = some v ∧ gB Rp Fr cl cd C S rt Q (k + 1) l (v :: st) u' c s)) : gB Rp Fr cl cd C S rt Q k l sk u c s := by
  intro h0 h QQ hR hF hQ P hr
  refine hst ▸ hr 44 k _ x n as st 0 0 l h c s hg ⟨j, rfl⟩ hn hcat hc hs (hC h _ hR (fun r h' u' hR' hF' hB => ?_))
  obtain ⟨v, rfl, hB⟩ := hB
  exact hB h0 h' QQ hR' (hft h0 h h' hF hF') hQ P hr
theorem g_virtV {j x n a ci y : Nat} (as : List Value) (hft : ∀ a b d, Fr a b → Fr b d → Fr a d) (hg : aGet cd k = some (.invokevirtual j, x, y)) (hy : y = n + 16 * ci) (hn16 : n < 16) (hn : as.length = n) (hob : ∀ h, Rp u h → 16 ≤ a ∧ a < h.2 ∧ ∃ fs, h.1 a = .inr (ci, fs)) (hst : as.reverse ++ .ref a :: st = sk) (hcat : aCat st ≤ 8) (hc : c ≤ C) (hs : s ≤ S) (hC : gR Rp Fr cl x (.ref a :: as) u 0 0 (fun r u' => r = none ∧ gB Rp Fr cl cd C S rt Q (k + 1) l st u' c s)) : gB Rp Fr cl cd C S rt Q k l sk u c s := by
  intro h0 h QQ hR hF hQ P hr
  obtain ⟨b1, b2, fs, b3⟩ := hob h hR
  subst hy
  refine hst ▸ hr 45 k _ x n a as st 0 0 ci fs l h c s hg ⟨j, rfl⟩ hn16 hn b1 b2 b3 hcat hc hs (hC h _ hR (fun r h' u' hR' hF' hB => ?_))
  obtain ⟨rfl, hB⟩ := hB
  exact hB h0 h' QQ hR' (hft h0 h h' hF hF') hQ P hr
theorem g_statV {j x n : Nat} (as : List Value) (hft : ∀ a b d, Fr a b → Fr b d → Fr a d) (hg : aGet cd k = some (.invokestatic j, x, n)) (hn : as.length = n) (hst : as.reverse ++ st = sk) (hcat : aCat st ≤ 8) (hc : c ≤ C) (hs : s ≤ S) (hC : gR Rp Fr cl x as u 0 0 (fun r u' => r = none ∧ gB Rp Fr cl cd C S rt Q (k + 1) l st u' c s)) : gB Rp Fr cl cd C S rt Q k l sk u c s := by
  intro h0 h QQ hR hF hQ P hr
  refine hst ▸ hr 44 k _ x n as st 0 0 l h c s hg ⟨j, rfl⟩ hn hcat hc hs (hC h _ hR (fun r h' u' hR' hF' hB => ?_))
  obtain ⟨rfl, hB⟩ := hB
  exact hB h0 h' QQ hR' (hft h0 h h' hF hF') hQ P hr
end GB
/-- a method of the AM over an abstract state -/
theorem gR_of {σ : Type} {Rp : σ → aH → Prop} {Fr : aH → aH → Prop} {pq : Nat → Option aM} {pr : aC} {d j : Nat} {as : List Value} {u : σ} {mc ms : Nat} {Q : Option Value → σ → Prop} (mi : aM) (hfr : ∀ h, Fr h h) (hmi : pq j = some mi) (hl : (aArg as).length ≤ mi.2.2.2.1) (hB : gB Rp Fr (aRun pq pr d) mi.2.2.2.2.2.2 mc ms mi.2.2.2.2.1 Q 0 (aEnt mi.2.2.2.1 as) [] u 0 0) : gR Rp Fr (aRun pq pr (d + 1)) j as u mc ms Q := by
  intro h QQ hR hQ
  refine Or.inr ⟨mi, hmi, hl, fun P hr => hB h h QQ hR (hfr h) hQ P hr⟩
end
section
/-! ===== the reference's state: its whole numbers I (by slot), its rows A (by address 26 .. 49) ===== -/
abbrev rS : Type := (Nat → Int32) × (Nat → Nat → Int32)
def rN : Nat → Nat
  | 26 => 1872 | 27 => 36 | 28 => 10 | 29 => 10 | 30 => 20 | 31 => 10 | 32 => 10 | 33 => 3400 | 34 => 520
  | 36 => 440 | 43 => 440 | 45 => 20 | 46 => 52 | 47 => 2 | 48 => 16 | 49 => 4 | _ => 220
def rK : Nat → Nat
  | 27 => 1 | 44 => 1 | _ => 0
def rF (I : Nat → Int32) : List Value := [.int (I 0), .int (I 1), .ref 26, .ref 27, .ref 28, .ref 29, .ref 30, .ref 31, .ref 32, .ref 33, .ref 34, .ref 35, .ref 36, .ref 37, .ref 38, .ref 39, .ref 40, .ref 41, .ref 42, .ref 43, .ref 44, .ref 45, .int (I 22), .ref 46, .ref 47, .int (I 25), .int (I 26), .ref 48, .ref 49, .int (I 29), .int (I 30)]
def RF (u : rS) (h : aH) : Prop := 50 ≤ h.2 ∧ h.1 25 = .inr (8, rF u.1) ∧ ∀ a, 26 ≤ a → a < 50 → h.1 a = .inl (rK a, rN a, .inl (u.2 a))
def rFr (h h' : aH) : Prop := h'.2 = h.2 ∧ ∀ a, (a < 25 ∨ 50 ≤ a) → h'.1 a = h.1 a
theorem rFr_rf (h : aH) : rFr h h := ⟨rfl, fun _ _ => rfl⟩
theorem rFr_tr (a b d : aH) (h1 : rFr a b) (h2 : rFr b d) : rFr a d := ⟨h2.1.trans h1.1, fun x hx => (h2.2 x hx).trans (h1.2 x hx)⟩
def rU (A : Nat → Nat → Int32) (a n : Nat) (v : Int32) : Nat → Nat → Int32 := fun b => if b = a then upd (A a) n v else A b
theorem RF.put {u : rS} {h : aH} (hR : RF u h) {a n : Nat} {v : Int32} (h1 : 26 ≤ a) (h2 : a < 50) : RF (u.1, rU u.2 a n v) (aUp h a (.inl (rK a, rN a, .inl (upd (u.2 a) n v)))) := by
  refine ⟨hR.1, ?_, fun b b1 b2 => ?_⟩
  · show va_up h.1 a _ 25 = _
    rw [va_up_ne _ _ (by omega)]; exact hR.2.1
  · show va_up h.1 a _ b = _
    by_cases hb : b = a
    · subst hb; rw [va_up_self]; unfold rU; simp
    · rw [va_up_ne _ _ hb, hR.2.2 b b1 b2]; unfold rU; simp [hb]
theorem rFr.up {h0 h : aH} (hF : rFr h0 h) {a : Nat} {e : va_E} (h1 : 25 ≤ a) (h2 : a < 50) : rFr h0 (aUp h a e) := by
  refine ⟨hF.1, fun b hb => ?_⟩
  show va_up h.1 a _ b = _
  rw [va_up_ne _ _ (by omega)]; exact hF.2 b hb
def rIs (f : Nat) : Prop := f = 0 ∨ f = 1 ∨ f = 22 ∨ f = 25 ∨ f = 26 ∨ f = 29 ∨ f = 30
theorem rF_set {f : Nat} (hf : rIs f) (I : Nat → Int32) (v : Int32) : (rF I).set f (.int v) = rF (upd I f v) := by
  rcases hf with rfl | rfl | rfl | rfl | rfl | rfl | rfl <;> rfl
theorem rF_fit {f : Nat} (hf : rIs f) (v : Int32) : aFit 8 f (.int v) := by
  rcases hf with rfl | rfl | rfl | rfl | rfl | rfl | rfl <;> exact ⟨_, _, rfl, rfl, rfl, rfl⟩
section REF
variable {cl : aC} {cd : List aE} {C S : Nat} {rt : Option FieldType} {Q : Option Value → rS → Prop} {k : Nat} {l : aL} {st : List Value} {u : rS} {c s : Nat}
theorem r_getf {j f : Nat} {v : Value} (hg : aGet cd k = some (.getfield j, 8, f)) (hv : (rF u.1)[f]? = some v) (hP : gB RF rFr cl cd C S rt Q (k + 1) l (v :: st) u c s) : gB RF rFr cl cd C S rt Q k l (.ref 25 :: st) u c s :=
  fun h0 h QQ hR hF hQ P hr => hr 26 k j 8 f 25 _ v l st h c s hg (by decide) (Nat.lt_of_lt_of_le (by decide) hR.1) hR.2.1 hv (hP h0 h QQ hR hF hQ P hr)
theorem r_puti {j f : Nat} {v : Int32} (hg : aGet cd k = some (.putfield j, 8, f)) (hf : rIs f) (hP : gB RF rFr cl cd C S rt Q (k + 1) l st (upd u.1 f v, u.2) c s) : gB RF rFr cl cd C S rt Q k l (.int v :: .ref 25 :: st) u c s := by
  intro h0 h QQ hR hF hQ P hr
  refine hr 27 k j 8 f 25 _ (.int v) l st h c s hg (by decide) (Nat.lt_of_lt_of_le (by decide) hR.1) hR.2.1 (by show f < 31; rcases hf with rfl | rfl | rfl | rfl | rfl | rfl | rfl <;> decide) (rF_fit hf v) (hP h0 (aUp h 25 (.inr (8, (rF u.1).set f (.int v)))) QQ ⟨hR.1, ?_, fun b b1 b2 => ?_⟩ (hF.up (by decide) (by decide)) hQ P hr)
  · show va_up h.1 25 (.inr (8, (rF u.1).set f (.int v))) 25 = .inr (8, rF (upd u.1 f v))
    rw [va_up_self]; exact congrArg (fun x => Sum.inr (8, x)) (rF_set hf u.1 v)
  · show va_up h.1 25 _ b = _
    rw [va_up_ne _ _ (by omega)]; exact hR.2.2 b b1 b2
theorem r_ia {x y a : Nat} {i : Int32} (n : Nat) (hg : aGet cd k = some (.iaload, x, y)) (ha : 26 ≤ a ∧ a < 50 ∧ rK a = 0) (hi : i = nI n) (hn : n < rN a) (hP : gB RF rFr cl cd C S rt Q (k + 1) l (.int (u.2 a n) :: st) u c s) : gB RF rFr cl cd C S rt Q k l (.int i :: .ref a :: st) u c s := by
  intro h0 h QQ hR hF hQ P hr
  have hb : rN a < 2 ^ 31 := by unfold rN; split <;> decide
  have he := hR.2.2 a ha.1 ha.2.1
  rw [ha.2.2] at he
  refine hr 29 k x y a (rN a) _ i l st h c s hg (Nat.lt_of_lt_of_le ha.2.1 hR.1) he (hi ▸ vp_in_nI hn hb) ?_
  rw [hi, nI_clamp (by omega)]
  exact hP h0 h QQ hR hF hQ P hr
theorem r_za {x y a : Nat} {i : Int32} (n : Nat) (hg : aGet cd k = some (.baload, x, y)) (ha : 26 ≤ a ∧ a < 50 ∧ rK a = 1) (hi : i = nI n) (hn : n < rN a) (hP : gB RF rFr cl cd C S rt Q (k + 1) l (.int (u.2 a n) :: st) u c s) : gB RF rFr cl cd C S rt Q k l (.int i :: .ref a :: st) u c s := by
  intro h0 h QQ hR hF hQ P hr
  have hb : rN a < 2 ^ 31 := by unfold rN; split <;> decide
  have he := hR.2.2 a ha.1 ha.2.1
  rw [ha.2.2] at he
  refine hr 30 k x y a 1 (rN a) _ i l st h c s hg (Nat.lt_of_lt_of_le ha.2.1 hR.1) (Or.inl rfl) he (hi ▸ vp_in_nI hn hb) ?_
  rw [hi, nI_clamp (by omega)]
  exact hP h0 h QQ hR hF hQ P hr
theorem r_ias {x y a : Nat} {i v : Int32} (n : Nat) (hg : aGet cd k = some (.iastore, x, y)) (ha : 26 ≤ a ∧ a < 50 ∧ rK a = 0) (hi : i = nI n) (hn : n < rN a) (hP : gB RF rFr cl cd C S rt Q (k + 1) l st (u.1, rU u.2 a n v) c s) : gB RF rFr cl cd C S rt Q k l (.int v :: .int i :: .ref a :: st) u c s := by
  intro h0 h QQ hR hF hQ P hr
  have hb : rN a < 2 ^ 31 := by unfold rN; split <;> decide
  have he := hR.2.2 a ha.1 ha.2.1
  have hp := hR.put (n := n) (v := v) ha.1 ha.2.1
  rw [ha.2.2] at he hp
  refine hr 33 k x y a (rN a) _ i v l st h c s hg (Nat.le_trans (by decide) ha.1) (Nat.lt_of_lt_of_le ha.2.1 hR.1) he (hi ▸ vp_in_nI hn hb) ?_
  rw [hi, nI_clamp (by omega)]
  exact hP h0 _ QQ hp (hF.up (by omega) ha.2.1) hQ P hr
theorem r_zas {x y a : Nat} {i v : Int32} (n : Nat) (hg : aGet cd k = some (.bastore, x, y)) (ha : 26 ≤ a ∧ a < 50 ∧ rK a = 1) (hi : i = nI n) (hn : n < rN a) (hP : gB RF rFr cl cd C S rt Q (k + 1) l st (u.1, rU u.2 a n (vp_nar .boolean v)) c s) : gB RF rFr cl cd C S rt Q k l (.int v :: .int i :: .ref a :: st) u c s := by
  intro h0 h QQ hR hF hQ P hr
  have hb : rN a < 2 ^ 31 := by unfold rN; split <;> decide
  have he := hR.2.2 a ha.1 ha.2.1
  have hp := hR.put (n := n) (v := vp_nar .boolean v) ha.1 ha.2.1
  rw [ha.2.2] at he hp
  refine hr 34 k x y a (rN a) _ i v l st h c s hg (Nat.le_trans (by decide) ha.1) (Nat.lt_of_lt_of_le ha.2.1 hR.1) he (hi ▸ vp_in_nI hn hb) ?_
  rw [hi, nI_clamp (by omega)]
  exact hP h0 _ QQ hp (hF.up (by omega) ha.2.1) hQ P hr
theorem r_this (h : aH) (hR : RF u h) : 16 ≤ 25 ∧ 25 < h.2 ∧ ∃ fs, h.1 25 = .inr (8, fs) := ⟨by decide, Nat.lt_of_lt_of_le (by decide) hR.1, _, hR.2.1⟩
end REF
/-- a method of the reference, at depth d -/
abbrev rR (pr : aC) (d j : Nat) (as : List Value) (u : rS) (Q : Option Value → rS → Prop) : Prop := gR RF rFr (aRun pg pr d) j as u 0 0 Q
abbrev rB (pr : aC) (d : Nat) (cd : List aE) (rt : Option FieldType) (Q : Option Value → rS → Prop) (k : Nat) (l : aL) (st : List Value) (u : rS) : Prop := gB RF rFr (aRun pg pr d) cd 0 0 rt Q k l st u 0 0
end
section
/-! ===== the reference: small methods ===== -/
def bI (b : Bool) : Int32 := if b then 1 else 0
theorem nI1 : nI 1 = 1 := by decide
theorem bI_t : bI true = 1 := rfl
theorem bI_f : bI false = 0 := rfl
theorem bI_ne {b : Bool} : ¬ bI b = 0 ↔ b = true := by cases b <;> decide
theorem bI_eq {b : Bool} : bI b = 0 ↔ b = false := by cases b <;> decide
theorem bI_rt (b : Bool) : aRT (some .boolean) (some (.int (bI b))) := by cases b <;> exact ⟨by decide, by decide⟩
def oI (o : Option Nat) : Int32 := match o with
  | some n => nI n
  | none => -1
def pI : Nat → Int32
  | 0 => -1
  | n + 1 => nI n
theorem pI_eq (n : Nat) : nI n - nI 1 = pI n := by
  cases n with
  | zero => decide
  | succ n => exact nI_pred n
theorem Qe {Q : Option Value → rS → Prop} {u : rS} {a b : Value} (h : a = b) (hQ : Q (some a) u) : Q (some b) u := h ▸ hQ
def inF (v lo hi : Int32) : Bool := decide (lo ≤ v) && decide (v ≤ hi)
set_option maxRecDepth 20000 in
theorem r_in {pr : aC} {d : Nat} {u : rS} (v lo hi : Int32) {Q : Option Value → rS → Prop} (hQ : Q (some (.int (bI (inF v lo hi)))) u) : rR pr (d + 1) 159 [.int v, .int lo, .int hi] u Q := by
  refine gR_of mi_159 rFr_rf rfl (Nat.le_of_ble_eq_true rfl) ?_
  show rB pr (d) cd_159 (Option.some Jvm.ClassFile.FieldType.boolean) Q 0 [some (.int v), some (.int lo), some (.int hi)] [] u
  refine g_load rfl rfl rfl trivial ?_
  refine g_load rfl rfl rfl trivial ?_
  refine g_icmp_lt rfl (fun c1 => ?_) (fun c1 => ?_)
  · refine g_iconst (nI 0) rfl (by decide) ?_
    refine g_vret rfl trivial (by first | exact ⟨by decide, by decide⟩ | trivial) (Nat.le_refl _) (Nat.le_refl _) ?_
    refine Qe ?_ hQ
    simp only [inF, bI, Bool.and_eq_true, decide_eq_true_eq, Int32.le_iff_toInt_le, Int32.lt_iff_toInt_lt] at *
    split <;> first | rfl | omega
  · refine g_load rfl rfl rfl trivial ?_
    refine g_load rfl rfl rfl trivial ?_
    refine g_icmp_gt rfl (fun c2 => ?_) (fun c2 => ?_)
    · refine g_iconst (nI 0) rfl (by decide) ?_
      refine g_vret rfl trivial (by first | exact ⟨by decide, by decide⟩ | trivial) (Nat.le_refl _) (Nat.le_refl _) ?_
      refine Qe ?_ hQ
      simp only [inF, bI, Bool.and_eq_true, decide_eq_true_eq, Int32.le_iff_toInt_le, Int32.lt_iff_toInt_lt] at *
      split <;> first | rfl | omega
    · refine g_iconst (nI 1) rfl (by decide) ?_
      refine g_goto rfl ?_
      refine g_vret rfl trivial (by first | exact ⟨by decide, by decide⟩ | trivial) (Nat.le_refl _) (Nat.le_refl _) ?_
      refine Qe ?_ hQ
      simp only [inF, bI, Bool.and_eq_true, decide_eq_true_eq, Int32.le_iff_toInt_le, Int32.lt_iff_toInt_lt] at *
      split <;> first | rfl | omega
set_option maxRecDepth 20000 in
theorem r_modulo {pr : aC} {d : Nat} {u : rS} (a n : Int32) (hn : ¬ n = 0) {Q : Option Value → rS → Prop} (hQ : Q (some (.int (if a - a / n * n < 0 then a - a / n * n + n else a - a / n * n))) u) : rR pr (d + 1) 160 [.int a, .int n] u Q := by
  refine gR_of mi_160 rFr_rf rfl (Nat.le_of_ble_eq_true rfl) ?_
  show rB pr (d) cd_160 (Option.some Jvm.ClassFile.FieldType.int) Q 0 [some (.int a), some (.int n), none] [] u
  refine g_load rfl rfl rfl trivial ?_
  refine g_load rfl rfl rfl trivial ?_
  refine g_irem rfl hn ?_
  refine g_store [some (.int a), some (.int n), some (.int (a - a / n * n))] rfl rfl trivial (Nat.le_of_ble_eq_true rfl) rfl ?_
  refine g_load rfl rfl rfl trivial ?_
  refine g_if_ge rfl (fun c1 => ?_) (fun c1 => ?_)
  · refine g_load rfl rfl rfl trivial ?_
    refine g_vret rfl trivial ⟨rfl, rfl⟩ (Nat.le_refl _) (Nat.le_refl _) ?_
    refine Qe ?_ hQ
    simp only [Int32.le_iff_toInt_le, Int32.lt_iff_toInt_lt] at *
    split <;> first | rfl | omega
  · refine g_load rfl rfl rfl trivial ?_
    refine g_load rfl rfl rfl trivial ?_
    refine g_iadd rfl ?_
    refine g_goto rfl ?_
    refine g_vret rfl trivial ⟨rfl, rfl⟩ (Nat.le_refl _) (Nat.le_refl _) ?_
    refine Qe ?_ hQ
    simp only [Int32.le_iff_toInt_le, Int32.lt_iff_toInt_lt] at *
    split <;> first | rfl | omega
def isBd (u : rS) (b : Int32) : Bool := inF b 1 (u.1 0)
set_option maxRecDepth 20000 in
theorem r_isBoard {pr : aC} {d : Nat} {u : rS} (b : Int32) {Q : Option Value → rS → Prop} (hQ : Q (some (.int (bI (isBd u b)))) u) : rR pr ((d + 1) + 1) 162 [.ref 25, .int b] u Q := by
  refine gR_of mi_162 rFr_rf rfl (Nat.le_of_ble_eq_true rfl) ?_
  show rB pr ((d + 1)) cd_162 (Option.some Jvm.ClassFile.FieldType.boolean) Q 0 [some (.ref 25), some (.int b)] [] u
  refine g_load rfl rfl rfl trivial ?_
  refine g_iconst (nI 1) rfl (by decide) ?_
  refine g_load rfl rfl rfl trivial ?_
  refine r_getf rfl rfl ?_
  refine g_statI [.int b, .int (nI 1), .int (u.1 0)] rFr_tr rfl rfl rfl (Nat.le_of_ble_eq_true rfl) (Nat.le_refl _) (Nat.le_refl _) (r_in _ _ _ ⟨_, rfl, ?_⟩)
  exact g_vret rfl trivial (bI_rt _) (Nat.le_refl _) (Nat.le_refl _) hQ
def isCd (b : Int32) : Bool := inF b 0 51
set_option maxRecDepth 20000 in
theorem r_isCard {pr : aC} {d : Nat} {u : rS} (b : Int32) {Q : Option Value → rS → Prop} (hQ : Q (some (.int (bI (isCd b)))) u) : rR pr ((d + 1) + 1) 163 [.int b] u Q := by
  refine gR_of mi_163 rFr_rf rfl (Nat.le_of_ble_eq_true rfl) ?_
  show rB pr ((d + 1)) cd_163 (Option.some Jvm.ClassFile.FieldType.boolean) Q 0 [some (.int b)] [] u
  refine g_load rfl rfl rfl trivial ?_
  refine g_iconst (nI 0) rfl (by decide) ?_
  refine g_bipush (nI 51) rfl (by decide) ?_
  refine g_statI [.int b, .int (nI 0), .int (nI 51)] rFr_tr rfl rfl rfl (Nat.le_of_ble_eq_true rfl) (Nat.le_refl _) (Nat.le_refl _) (r_in _ _ _ ⟨_, rfl, ?_⟩)
  exact g_vret rfl trivial (bI_rt _) (Nat.le_refl _) (Nat.le_refl _) hQ
end
section
/-! ===== the reference: boards, tables, auctions read ===== -/
def first (p : Nat → Bool) : Nat → Nat → Option Nat
  | _, 0 => none
  | i, n + 1 => if p i then some i else first p (i + 1) n
def cnt (p : Nat → Bool) : Nat → Nat
  | 0 => 0
  | n + 1 => cnt p n + (if p n then 1 else 0)
def anyN (p : Nat → Bool) : Nat → Bool
  | 0 => false
  | n + 1 => anyN p n || p n
theorem anyN_t {p : Nat → Bool} : ∀ {n i : Nat}, i < n → p i = true → anyN p n = true
  | n + 1, i, h, hp => by
    unfold anyN
    by_cases hi : i = n
    · subst hi; simp [hp]
    · simp [anyN_t (show i < n by omega) hp]
theorem anyN_f {p : Nat → Bool} : ∀ {n : Nat}, (∀ i, i < n → p i = false) → anyN p n = false
  | 0, _ => rfl
  | n + 1, h => by
    show (anyN p n || p n) = false
    rw [anyN_f (fun i hi => h i (by omega)), h n (by omega)]; rfl
theorem anyN_iff {p : Nat → Bool} {n : Nat} : anyN p n = true ↔ ∃ i, i < n ∧ p i = true := by
  constructor
  · intro h
    apply Classical.byContradiction
    intro hn
    have : anyN p n = false := anyN_f (fun i hi => by
      cases hp : p i
      · rfl
      · exact absurd ⟨i, hi, hp⟩ hn)
    rw [this] at h; cases h
  · rintro ⟨i, h1, h2⟩; exact anyN_t h1 h2
def last (p : Int32 → Bool) (f : Nat → Int32) : Nat → Option Nat
  | 0 => none
  | n + 1 => if p (f n) then some n else last p f n
theorem cnt_le (p : Nat → Bool) : ∀ n, cnt p n ≤ n
  | 0 => Nat.le_refl 0
  | n + 1 => by
    unfold cnt
    have := cnt_le p n
    split <;> omega
theorem bd_of {u : rS} {b : Int32} {nb : Nat} (h : isBd u b = true) (h0 : u.1 0 = nI nb) (hn : nb < 2 ^ 31) : ∃ b', b' < nb ∧ b = nI (b' + 1) := by
  simp only [isBd, inF, Bool.and_eq_true, decide_eq_true_eq, h0, Int32.le_iff_toInt_le, nI_toInt hn] at h
  have h1 : (1 : Int32).toInt = 1 := by decide
  rw [h1] at h
  have h2 : (0 : Int32).toInt = 0 := by decide
  obtain ⟨j, hj, rfl⟩ := nI_of (x := b) (by rw [Int32.lt_iff_toInt_lt, h2]; omega)
  rw [nI_toInt hj] at h
  exact ⟨j - 1, by omega, by congr 1; omega⟩
theorem bd_t {u : rS} {b nb : Nat} (h0 : u.1 0 = nI nb) (hn : nb < 2 ^ 31) (hb : b < nb) : isBd u (nI (b + 1)) = true := by
  simp only [isBd, inF, Bool.and_eq_true, decide_eq_true_eq, h0]
  exact ⟨by rw [← nI1]; exact nI_le (by omega) (by omega), nI_le (by omega) hn⟩
theorem cd_of {c : Int32} (h : isCd c = true) : ∃ c', c' < 52 ∧ c = nI c' := by
  simp only [isCd, inF, Bool.and_eq_true, decide_eq_true_eq, Int32.le_iff_toInt_le] at h
  have h1 : (0 : Int32).toInt = 0 := by decide
  have h2 : (51 : Int32).toInt = 51 := by decide
  rw [h1, h2] at h
  obtain ⟨j, hj, rfl⟩ := nI_of (x := c) (by rw [Int32.lt_iff_toInt_lt]; omega)
  rw [nI_toInt hj] at h
  exact ⟨j, by omega, rfl⟩
theorem cd_t {c : Nat} (h : c < 52) : isCd (nI c) = true := by
  simp only [isCd, inF, Bool.and_eq_true, decide_eq_true_eq]
  exact ⟨by rw [← nI_0]; exact nI_le (by omega) (by omega), by rw [show (51 : Int32) = nI 51 by decide]; exact nI_le (by omega) (by omega)⟩
def handF (u : rS) (b c : Int32) : Int32 := if isBd u b && isCd c then u.2 26 (52 * (b.toNatClampNeg - 1) + c.toNatClampNeg) else -1
set_option maxRecDepth 20000 in
theorem r_dealer {pr : aC} {d : Nat} {u : rS} (b : Nat) (hb : b < 1000) {Q : Option Value → rS → Prop} (hQ : Q (some (.int (nI (b % 4)))) u) : rR pr (d + 1) 166 [.int (nI (b + 1))] u Q := by
  refine gR_of mi_166 rFr_rf rfl (Nat.le_of_ble_eq_true rfl) ?_
  show rB pr (d) cd_166 (Option.some Jvm.ClassFile.FieldType.int) Q 0 [some (.int (nI (b + 1)))] [] u
  refine g_load rfl rfl rfl trivial ?_
  refine g_iconst (nI 1) rfl (by decide) ?_
  refine g_isub rfl ?_
  refine g_iconst (nI 4) rfl (by decide) ?_
  refine g_irem rfl (by decide) ?_
  refine g_vret rfl trivial ⟨rfl, rfl⟩ (Nat.le_refl _) (Nat.le_refl _) ?_
  rw [pk_sub (by omega), show b + 1 - 1 = b by omega, pk_rem (by omega) (by omega) (by omega)]
  exact hQ
set_option maxRecDepth 20000 in
theorem r_vulnerable {pr : aC} {d : Nat} {u : rS} (b : Nat) (hb : b < 1000) {Q : Option Value → rS → Prop} (hQ : Q (some (.int (nI ((b % 16 + b % 16 / 4) % 4)))) u) : rR pr (d + 1) 167 [.int (nI (b + 1))] u Q := by
  refine gR_of mi_167 rFr_rf rfl (Nat.le_of_ble_eq_true rfl) ?_
  show rB pr (d) cd_167 (Option.some Jvm.ClassFile.FieldType.int) Q 0 [some (.int (nI (b + 1))), none] [] u
  refine g_load rfl rfl rfl trivial ?_
  refine g_iconst (nI 1) rfl (by decide) ?_
  refine g_isub rfl ?_
  refine g_bipush (nI 16) rfl (by decide) ?_
  refine g_irem rfl (by decide) ?_
  rw [pk_sub (by omega), show b + 1 - 1 = b by omega, pk_rem (by omega) (by omega) (by omega)]
  refine g_store [some (.int (nI (b + 1))), some (.int (nI (b % 16)))] rfl rfl trivial (Nat.le_of_ble_eq_true rfl) rfl ?_
  refine g_load rfl rfl rfl trivial ?_
  refine g_load rfl rfl rfl trivial ?_
  refine g_iconst (nI 4) rfl (by decide) ?_
  refine g_idiv rfl (by decide) ?_
  refine g_iadd rfl ?_
  refine g_iconst (nI 4) rfl (by decide) ?_
  refine g_irem rfl (by decide) ?_
  refine g_vret rfl trivial ⟨rfl, rfl⟩ (Nat.le_refl _) (Nat.le_refl _) ?_
  rw [pk_div (by omega) (by omega) (by omega), nI_add, pk_rem (by omega) (by omega) (by omega)]
  exact hQ
def vulF (b s : Nat) : Bool := decide ((b % 16 + b % 16 / 4) % 4 = 3 ∨ (b % 16 + b % 16 / 4) % 4 = s + 1)
set_option maxRecDepth 20000 in
theorem r_isVulnerable {pr : aC} {d : Nat} {u : rS} (b s : Nat) (hb : b < 1000) (hs : s < 2) {Q : Option Value → rS → Prop} (hQ : Q (some (.int (bI (vulF b s)))) u) : rR pr (d + 1 + 1) 168 [.int (nI (b + 1)), .int (nI s)] u Q := by
  refine gR_of mi_168 rFr_rf rfl (Nat.le_of_ble_eq_true rfl) ?_
  show rB pr (d + 1) cd_168 (Option.some Jvm.ClassFile.FieldType.boolean) Q 0 [some (.int (nI (b + 1))), some (.int (nI s)), none] [] u
  refine g_load rfl rfl rfl trivial ?_
  refine g_statI [.int (nI (b + 1))] rFr_tr rfl rfl rfl (Nat.le_of_ble_eq_true rfl) (Nat.le_refl _) (Nat.le_refl _) (r_vulnerable b hb ⟨_, rfl, ?_⟩)
  refine g_store [some (.int (nI (b + 1))), some (.int (nI s)), some (.int (nI ((b % 16 + b % 16 / 4) % 4)))] rfl rfl trivial (Nat.le_of_ble_eq_true rfl) rfl ?_
  refine g_load rfl rfl rfl trivial ?_
  refine g_iconst (nI 3) rfl (by decide) ?_
  refine g_icmp_eq rfl (fun c1 => ?_) (fun c1 => ?_)
  · rw [nI_eq (by omega) (by omega)] at c1
    refine g_iconst (nI 1) rfl (by decide) ?_
    refine g_goto rfl ?_
    refine g_vret rfl trivial (by first | exact ⟨by decide, by decide⟩ | trivial) (Nat.le_refl _) (Nat.le_refl _) ?_
    refine Qe ?_ hQ
    simp only [vulF, bI, decide_eq_true_eq]
    split <;> first | rfl | omega
  · rw [nI_eq (by omega) (by omega)] at c1
    refine g_load rfl rfl rfl trivial ?_
    refine g_load rfl rfl rfl trivial ?_
    refine g_iconst (nI 1) rfl (by decide) ?_
    refine g_iadd rfl ?_
    refine g_icmp_ne rfl (fun c2 => ?_) (fun c2 => ?_)
    · rw [nI_add, nI_eq (by omega) (by omega)] at c2
      refine g_iconst (nI 0) rfl (by decide) ?_
      refine g_vret rfl trivial (by first | exact ⟨by decide, by decide⟩ | trivial) (Nat.le_refl _) (Nat.le_refl _) ?_
      refine Qe ?_ hQ
      simp only [vulF, bI, decide_eq_true_eq]
      split <;> first | rfl | omega
    · rw [nI_add, nI_eq (by omega) (by omega)] at c2
      refine g_iconst (nI 1) rfl (by decide) ?_
      refine g_goto rfl ?_
      refine g_vret rfl trivial (by first | exact ⟨by decide, by decide⟩ | trivial) (Nat.le_refl _) (Nat.le_refl _) ?_
      refine Qe ?_ hQ
      simp only [vulF, bI, decide_eq_true_eq]
      split <;> first | rfl | omega
set_option maxRecDepth 20000 in
theorem r_hand {pr : aC} {d : Nat} {u : rS} (b c : Int32) (nb : Nat) (h0 : u.1 0 = nI nb) (hn : nb ≤ 36) {Q : Option Value → rS → Prop} (hQ : Q (some (.int (handF u b c))) u) : rR pr (d + 2 + 1) 165 [.ref 25, .int b, .int c] u Q := by
  refine gR_of mi_165 rFr_rf rfl (Nat.le_of_ble_eq_true rfl) ?_
  show rB pr (d + 2) cd_165 (Option.some Jvm.ClassFile.FieldType.int) Q 0 [some (.ref 25), some (.int b), some (.int c)] [] u
  refine g_load rfl rfl rfl trivial ?_
  refine g_load rfl rfl rfl trivial ?_
  refine g_virtI (a := 25) (ci := 8) (n := 1) [.int b] rFr_tr rfl rfl (by decide) rfl r_this rfl (Nat.le_of_ble_eq_true rfl) (Nat.le_refl _) (Nat.le_refl _) (r_isBoard b ⟨_, rfl, ?_⟩)
  refine g_if_eq rfl (fun c1 => ?_) (fun c1 => ?_)
  · rw [bI_eq] at c1
    refine g_iconst (-1) rfl (by decide) ?_
    refine g_vret rfl trivial ⟨rfl, rfl⟩ (Nat.le_refl _) (Nat.le_refl _) ?_
    refine Qe ?_ hQ
    simp only [handF, *, Bool.and_false, Bool.false_and, Bool.and_true, if_true, Bool.false_eq_true, if_false]
    try rw [nI_clamp (by omega), nI_clamp (by omega)]
    try rfl
  · rw [bI_ne] at c1
    obtain ⟨b', hb, rfl⟩ := bd_of c1 h0 (by omega)
    refine g_load rfl rfl rfl trivial ?_
    refine g_statI [.int c] rFr_tr rfl rfl rfl (Nat.le_of_ble_eq_true rfl) (Nat.le_refl _) (Nat.le_refl _) (r_isCard c ⟨_, rfl, ?_⟩)
    refine g_if_eq rfl (fun c2 => ?_) (fun c2 => ?_)
    · rw [bI_eq] at c2
      refine g_iconst (-1) rfl (by decide) ?_
      refine g_vret rfl trivial ⟨rfl, rfl⟩ (Nat.le_refl _) (Nat.le_refl _) ?_
      refine Qe ?_ hQ
      simp only [handF, *, Bool.and_false, Bool.false_and, Bool.and_true, if_true, Bool.false_eq_true, if_false]
      try rw [nI_clamp (by omega), nI_clamp (by omega)]
      try rfl
    · rw [bI_ne] at c2
      obtain ⟨c', hc, rfl⟩ := cd_of c2
      refine g_load rfl rfl rfl trivial ?_
      refine r_getf rfl rfl ?_
      refine g_bipush (nI 52) rfl (by decide) ?_
      refine g_load rfl rfl rfl trivial ?_
      refine g_iconst (nI 1) rfl (by decide) ?_
      refine g_isub rfl ?_
      refine g_imul rfl ?_
      refine g_load rfl rfl rfl trivial ?_
      refine g_iadd rfl ?_
      refine r_ia (52 * b' + c') rfl ⟨by decide, by decide, rfl⟩ (by rw [pk_sub (by omega), pk_mul, nI_add]; rfl) (by show _ < 1872; omega) ?_
      refine g_goto rfl ?_
      refine g_vret rfl trivial ⟨rfl, rfl⟩ (Nat.le_refl _) (Nat.le_refl _) ?_
      refine Qe ?_ hQ
      simp only [handF, *, Bool.and_false, Bool.false_and, Bool.and_true, if_true, Bool.false_eq_true, if_false]
      try rw [nI_clamp (by omega), nI_clamp (by omega)]
      try rfl
def tabF (u : rS) (b : Int32) (t : Nat) : Bool := decide (¬ u.2 28 t = 0 ∧ u.2 29 t = b)
theorem first_hit {p : Nat → Bool} : ∀ {n i t : Nat}, i ≤ t → t < i + n → p t = true → (∀ x, i ≤ x → x < t → p x = false) → first p i n = some t
  | 0, i, t, h1, h2, _, _ => by omega
  | n + 1, i, t, h1, h2, hp, hx => by
    unfold first
    by_cases hi : i = t
    · subst hi; rw [if_pos hp]
    · rw [if_neg (by rw [hx i (Nat.le_refl _) (by omega)]; decide)]
      exact first_hit (by omega) (by omega) hp (fun x h3 h4 => hx x (by omega) h4)
theorem first_miss {p : Nat → Bool} : ∀ {n i : Nat}, (∀ x, i ≤ x → x < i + n → p x = false) → first p i n = none
  | 0, i, _ => rfl
  | n + 1, i, hx => by
    unfold first
    rw [if_neg (by rw [hx i (Nat.le_refl _) (by omega)]; decide)]
    exact first_miss (fun x h3 h4 => hx x (by omega) (by omega))
set_option maxRecDepth 20000 in
theorem r_tableOf_l {pr : aC} {d : Nat} {u : rS} (b : Int32) {Q : Option Value → rS → Prop} (hQ : Q (some (.int (oI (first (tabF u b) 0 10)))) u) : ∀ (zz : Nat) (i : Nat) (hm : 10 - i < zz) (hle : i ≤ 10) (hinv : ∀ x, x < i → tabF u b x = false), rB pr (d) cd_169 (Option.some Jvm.ClassFile.FieldType.int) Q 2 [some (.ref 25), some (.int b), some (.int (nI i))] [] u := by
  intro zz
  induction zz with
  | zero => intro i hm hle hinv; exact absurd hm (by omega)
  | succ zz ih =>
    intro i hm hle hinv
    refine g_load rfl rfl rfl trivial ?_
    refine g_bipush (nI 10) rfl (by decide) ?_
    refine g_icmp_ge rfl (fun c1 => ?_) (fun c1 => ?_)
    · rw [nI_leI (by omega) (by omega)] at c1
      have hi : i = 10 := by omega
      subst hi
      rw [first_miss (fun x _ h => hinv x (by omega))] at hQ
      refine g_iconst (-1) rfl (by decide) ?_
      refine g_vret rfl trivial ⟨rfl, rfl⟩ (Nat.le_refl _) (Nat.le_refl _) ?_
      exact hQ
    · rw [nI_leI (by omega) (by omega)] at c1
      refine g_load rfl rfl rfl trivial ?_
      refine r_getf rfl rfl ?_
      refine g_load rfl rfl rfl trivial ?_
      refine r_ia (i) rfl ⟨by decide, by decide, rfl⟩ rfl (by show i < 10; omega) ?_
      refine g_if_eq rfl (fun c2 => ?_) (fun c2 => ?_)
      · have hf : tabF u b i = false := by simp [tabF, c2]
        refine g_iinc (nI (i + 1)) [some (.ref 25), some (.int b), some (.int (nI (i + 1)))] rfl rfl (nI_1 i) rfl ?_
        refine g_goto rfl ?_
        exact ih (i + 1) (by omega) (by omega) (fun x hx => by
          rcases Nat.lt_succ_iff_lt_or_eq.mp hx with h | h
          · exact hinv x h
          · exact h ▸ hf)
      · refine g_load rfl rfl rfl trivial ?_
        refine r_getf rfl rfl ?_
        refine g_load rfl rfl rfl trivial ?_
        refine r_ia (i) rfl ⟨by decide, by decide, rfl⟩ rfl (by show i < 10; omega) ?_
        refine g_load rfl rfl rfl trivial ?_
        refine g_icmp_ne rfl (fun c3 => ?_) (fun c3 => ?_)
        · have hf : tabF u b i = false := by simp [tabF, c3]
          refine g_iinc (nI (i + 1)) [some (.ref 25), some (.int b), some (.int (nI (i + 1)))] rfl rfl (nI_1 i) rfl ?_
          refine g_goto rfl ?_
          exact ih (i + 1) (by omega) (by omega) (fun x hx => by
            rcases Nat.lt_succ_iff_lt_or_eq.mp hx with h | h
            · exact hinv x h
            · exact h ▸ hf)
        · rw [first_hit (t := i) (by omega) (by omega) (by simp [tabF, *]) (fun x _ h => hinv x h)] at hQ
          refine g_load rfl rfl rfl trivial ?_
          refine g_vret rfl trivial ⟨rfl, rfl⟩ (Nat.le_refl _) (Nat.le_refl _) ?_
          exact hQ
set_option maxRecDepth 20000 in
theorem r_tableOf {pr : aC} {d : Nat} {u : rS} (b : Int32) {Q : Option Value → rS → Prop} (hQ : Q (some (.int (oI (first (tabF u b) 0 10)))) u) : rR pr (d + 1) 169 [.ref 25, .int b] u Q := by
  refine gR_of mi_169 rFr_rf rfl (Nat.le_of_ble_eq_true rfl) ?_
  show rB pr (d) cd_169 (Option.some Jvm.ClassFile.FieldType.int) Q 0 [some (.ref 25), some (.int b), none] [] u
  refine g_iconst (nI 0) rfl (by decide) ?_
  refine g_store [some (.ref 25), some (.int b), some (.int (nI 0))] rfl rfl trivial (Nat.le_of_ble_eq_true rfl) rfl ?_
  exact r_tableOf_l b hQ 11 0 (by omega) (by omega) (fun x h => absurd h (by omega))
set_option maxRecDepth 20000 in
theorem r_resultsOf_l {pr : aC} {d : Nat} {u : rS} (b : Int32) (nr : Nat) (h1 : u.1 1 = nI nr) (hn : nr ≤ 220) {Q : Option Value → rS → Prop} (hQ : Q (some (.int (nI (cnt (fun i => decide (u.2 35 i = b)) nr)))) u) : ∀ (zz : Nat) (i : Nat) (hm : nr - i < zz) (hle : i ≤ nr) (hinv : True), rB pr (d) cd_170 (Option.some Jvm.ClassFile.FieldType.int) Q 4 [some (.ref 25), some (.int b), some (.int (nI (cnt (fun i => decide (u.2 35 i = b)) i))), some (.int (nI i))] [] u := by
  intro zz
  induction zz with
  | zero => intro i hm hle hinv; exact absurd hm (by omega)
  | succ zz ih =>
    intro i hm hle hinv
    refine g_load rfl rfl rfl trivial ?_
    refine g_load rfl rfl rfl trivial ?_
    refine r_getf rfl rfl ?_
    rw [h1]
    refine g_icmp_ge rfl (fun c1 => ?_) (fun c1 => ?_)
    · rw [nI_leI (by omega) (by omega)] at c1
      have hi : i = nr := by omega
      subst hi
      refine g_load rfl rfl rfl trivial ?_
      exact g_vret rfl trivial ⟨rfl, rfl⟩ (Nat.le_refl _) (Nat.le_refl _) hQ
    rw [nI_leI (by omega) (by omega)] at c1
    refine g_load rfl rfl rfl trivial ?_
    refine g_load rfl rfl rfl trivial ?_
    refine r_getf rfl rfl ?_
    refine g_load rfl rfl rfl trivial ?_
    refine r_ia (i) rfl ⟨by decide, by decide, rfl⟩ rfl (by show i < 220; omega) ?_
    refine g_load rfl rfl rfl trivial ?_
    refine g_icmp_ne rfl (fun c1 => ?_) (fun c1 => ?_)
    · have hc : cnt (fun i => decide (u.2 35 i = b)) (i + 1) = cnt (fun i => decide (u.2 35 i = b)) i + 0 := by simp [cnt, c1]
      refine g_iconst (nI 0) rfl (by decide) ?_
      refine g_iadd rfl ?_
      rw [nI_add, ← hc]
      refine g_store [some (.ref 25), some (.int b), some (.int (nI (cnt (fun i => decide (u.2 35 i = b)) (i + 1)))), some (.int (nI i))] rfl rfl trivial (Nat.le_of_ble_eq_true rfl) rfl ?_
      refine g_iinc (nI (i + 1)) [some (.ref 25), some (.int b), some (.int (nI (cnt (fun i => decide (u.2 35 i = b)) (i + 1)))), some (.int (nI (i + 1)))] rfl rfl (nI_1 i) rfl ?_
      refine g_goto rfl ?_
      exact ih (i + 1) (by omega) (by omega) trivial
    · have hc : cnt (fun i => decide (u.2 35 i = b)) (i + 1) = cnt (fun i => decide (u.2 35 i = b)) i + 1 := by simp [cnt, c1]
      refine g_iconst (nI 1) rfl (by decide) ?_
      refine g_goto rfl ?_
      refine g_iadd rfl ?_
      rw [nI_add, ← hc]
      refine g_store [some (.ref 25), some (.int b), some (.int (nI (cnt (fun i => decide (u.2 35 i = b)) (i + 1)))), some (.int (nI i))] rfl rfl trivial (Nat.le_of_ble_eq_true rfl) rfl ?_
      refine g_iinc (nI (i + 1)) [some (.ref 25), some (.int b), some (.int (nI (cnt (fun i => decide (u.2 35 i = b)) (i + 1)))), some (.int (nI (i + 1)))] rfl rfl (nI_1 i) rfl ?_
      refine g_goto rfl ?_
      exact ih (i + 1) (by omega) (by omega) trivial
set_option maxRecDepth 20000 in
theorem r_resultsOf {pr : aC} {d : Nat} {u : rS} (b : Int32) (nr : Nat) (h1 : u.1 1 = nI nr) (hn : nr ≤ 220) {Q : Option Value → rS → Prop} (hQ : Q (some (.int (nI (cnt (fun i => decide (u.2 35 i = b)) nr)))) u) : rR pr (d + 1) 170 [.ref 25, .int b] u Q := by
  refine gR_of mi_170 rFr_rf rfl (Nat.le_of_ble_eq_true rfl) ?_
  show rB pr (d) cd_170 (Option.some Jvm.ClassFile.FieldType.int) Q 0 [some (.ref 25), some (.int b), none, none] [] u
  refine g_iconst (nI 0) rfl (by decide) ?_
  refine g_store [some (.ref 25), some (.int b), some (.int (nI 0)), none] rfl rfl trivial (Nat.le_of_ble_eq_true rfl) rfl ?_
  refine g_iconst (nI 0) rfl (by decide) ?_
  refine g_store [some (.ref 25), some (.int b), some (.int (nI 0)), some (.int (nI 0))] rfl rfl trivial (Nat.le_of_ble_eq_true rfl) rfl ?_
  exact r_resultsOf_l b nr h1 hn hQ (nr + 1) 0 (by omega) (by omega) trivial
def playF (u : rS) (p : Int32) (t : Nat) : Bool := decide (¬ u.2 28 t = 0 ∧ (u.2 30 (2 * t) = p ∨ u.2 30 (2 * t + 1) = p))
set_option maxRecDepth 20000 in
theorem r_isPlaying_l {pr : aC} {d : Nat} {u : rS} (p : Int32) {Q : Option Value → rS → Prop} (hQ : Q (some (.int (bI (anyN (playF u p) 10)))) u) : ∀ (zz : Nat) (i : Nat) (hm : 10 - i < zz) (hle : i ≤ 10) (hinv : ∀ x, x < i → playF u p x = false), rB pr (d) cd_172 (Option.some Jvm.ClassFile.FieldType.boolean) Q 2 [some (.ref 25), some (.int p), some (.int (nI i))] [] u := by
  intro zz
  induction zz with
  | zero => intro i hm hle hinv; exact absurd hm (by omega)
  | succ zz ih =>
    intro i hm hle hinv
    refine g_load rfl rfl rfl trivial ?_
    refine g_bipush (nI 10) rfl (by decide) ?_
    refine g_icmp_ge rfl (fun c1 => ?_) (fun c1 => ?_)
    · rw [nI_leI (by omega) (by omega)] at c1
      have hi : i = 10 := by omega
      subst hi
      rw [anyN_f (fun x h => hinv x (by omega))] at hQ
      refine g_iconst (nI 0) rfl (by decide) ?_
      refine g_vret rfl trivial (by first | exact ⟨by decide, by decide⟩ | trivial) (Nat.le_refl _) (Nat.le_refl _) ?_
      exact hQ
    · rw [nI_leI (by omega) (by omega)] at c1
      refine g_load rfl rfl rfl trivial ?_
      refine r_getf rfl rfl ?_
      refine g_load rfl rfl rfl trivial ?_
      refine r_ia (i) rfl ⟨by decide, by decide, rfl⟩ rfl (by show i < 10; omega) ?_
      refine g_if_eq rfl (fun c2 => ?_) (fun c2 => ?_)
      · have hf : playF u p i = false := by simp [playF, c2]
        refine g_iinc (nI (i + 1)) [some (.ref 25), some (.int p), some (.int (nI (i + 1)))] rfl rfl (nI_1 i) rfl ?_
        refine g_goto rfl ?_
        exact ih (i + 1) (by omega) (by omega) (fun x hx => by
          rcases Nat.lt_succ_iff_lt_or_eq.mp hx with h | h
          · exact hinv x h
          · exact h ▸ hf)
      · refine g_load rfl rfl rfl trivial ?_
        refine r_getf rfl rfl ?_
        refine g_iconst (nI 2) rfl (by decide) ?_
        refine g_load rfl rfl rfl trivial ?_
        refine g_imul rfl ?_
        refine r_ia (2 * i) rfl ⟨by decide, by decide, rfl⟩ (pk_mul 2 i) (by show _ < 20; omega) ?_
        refine g_load rfl rfl rfl trivial ?_
        refine g_icmp_eq rfl (fun c3 => ?_) (fun c3 => ?_)
        · rw [anyN_t (i := i) (by omega) (by simp [playF, *])] at hQ
          refine g_iconst (nI 1) rfl (by decide) ?_
          refine g_vret rfl trivial (by first | exact ⟨by decide, by decide⟩ | trivial) (Nat.le_refl _) (Nat.le_refl _) ?_
          exact hQ
        · refine g_load rfl rfl rfl trivial ?_
          refine r_getf rfl rfl ?_
          refine g_iconst (nI 2) rfl (by decide) ?_
          refine g_load rfl rfl rfl trivial ?_
          refine g_imul rfl ?_
          refine g_iconst (nI 1) rfl (by decide) ?_
          refine g_iadd rfl ?_
          refine r_ia (2 * i + 1) rfl ⟨by decide, by decide, rfl⟩ (by rw [pk_mul, nI_add]) (by show _ < 20; omega) ?_
          refine g_load rfl rfl rfl trivial ?_
          refine g_icmp_ne rfl (fun c4 => ?_) (fun c4 => ?_)
          · have hf : playF u p i = false := by simp [playF, *]
            refine g_iinc (nI (i + 1)) [some (.ref 25), some (.int p), some (.int (nI (i + 1)))] rfl rfl (nI_1 i) rfl ?_
            refine g_goto rfl ?_
            exact ih (i + 1) (by omega) (by omega) (fun x hx => by
              rcases Nat.lt_succ_iff_lt_or_eq.mp hx with h | h
              · exact hinv x h
              · exact h ▸ hf)
          · rw [anyN_t (i := i) (by omega) (by simp [playF, *])] at hQ
            refine g_iconst (nI 1) rfl (by decide) ?_
            refine g_vret rfl trivial (by first | exact ⟨by decide, by decide⟩ | trivial) (Nat.le_refl _) (Nat.le_refl _) ?_
            exact hQ
set_option maxRecDepth 20000 in
theorem r_isPlaying {pr : aC} {d : Nat} {u : rS} (p : Int32) {Q : Option Value → rS → Prop} (hQ : Q (some (.int (bI (anyN (playF u p) 10)))) u) : rR pr (d + 1) 172 [.ref 25, .int p] u Q := by
  refine gR_of mi_172 rFr_rf rfl (Nat.le_of_ble_eq_true rfl) ?_
  show rB pr (d) cd_172 (Option.some Jvm.ClassFile.FieldType.boolean) Q 0 [some (.ref 25), some (.int p), none] [] u
  refine g_iconst (nI 0) rfl (by decide) ?_
  refine g_store [some (.ref 25), some (.int p), some (.int (nI 0))] rfl rfl trivial (Nat.le_of_ble_eq_true rfl) rfl ?_
  exact r_isPlaying_l p hQ 11 0 (by omega) (by omega) (fun x h => absurd h (by omega))
def hasF (u : rS) (p b : Int32) (i : Nat) : Bool := decide (u.2 35 i = b ∧ (u.2 36 (2 * i) = p ∨ u.2 36 (2 * i + 1) = p))
set_option maxRecDepth 20000 in
theorem r_hasPlayed_l {pr : aC} {d : Nat} {u : rS} (p b : Int32) (nr : Nat) (h1 : u.1 1 = nI nr) (hn : nr ≤ 220) {Q : Option Value → rS → Prop} (hQ : Q (some (.int (bI (anyN (hasF u p b) nr)))) u) : ∀ (zz : Nat) (i : Nat) (hm : nr - i < zz) (hle : i ≤ nr) (hinv : ∀ x, x < i → hasF u p b x = false), rB pr (d) cd_173 (Option.some Jvm.ClassFile.FieldType.boolean) Q 2 [some (.ref 25), some (.int p), some (.int b), some (.int (nI i))] [] u := by
  intro zz
  induction zz with
  | zero => intro i hm hle hinv; exact absurd hm (by omega)
  | succ zz ih =>
    intro i hm hle hinv
    refine g_load rfl rfl rfl trivial ?_
    refine g_load rfl rfl rfl trivial ?_
    refine r_getf rfl rfl ?_
    rw [h1]
    refine g_icmp_ge rfl (fun c1 => ?_) (fun c1 => ?_)
    · rw [nI_leI (by omega) (by omega)] at c1
      have hi : i = nr := by omega
      subst hi
      rw [anyN_f (fun x h => hinv x (by omega))] at hQ
      refine g_iconst (nI 0) rfl (by decide) ?_
      exact g_vret rfl trivial ⟨by decide, by decide⟩ (Nat.le_refl _) (Nat.le_refl _) hQ
    rw [nI_leI (by omega) (by omega)] at c1
    refine g_load rfl rfl rfl trivial ?_
    refine r_getf rfl rfl ?_
    refine g_load rfl rfl rfl trivial ?_
    refine r_ia (i) rfl ⟨by decide, by decide, rfl⟩ rfl (by show i < 220; omega) ?_
    refine g_load rfl rfl rfl trivial ?_
    refine g_icmp_ne rfl (fun c1 => ?_) (fun c1 => ?_)
    · have hf : hasF u p b i = false := by simp [hasF, c1]
      refine g_iinc (nI (i + 1)) [some (.ref 25), some (.int p), some (.int b), some (.int (nI (i + 1)))] rfl rfl (nI_1 i) rfl ?_
      refine g_goto rfl ?_
      exact ih (i + 1) (by omega) (by omega) (fun x hx => by
        rcases Nat.lt_succ_iff_lt_or_eq.mp hx with h | h
        · exact hinv x h
        · exact h ▸ hf)
    · refine g_load rfl rfl rfl trivial ?_
      refine r_getf rfl rfl ?_
      refine g_iconst (nI 2) rfl (by decide) ?_
      refine g_load rfl rfl rfl trivial ?_
      refine g_imul rfl ?_
      refine r_ia (2 * i) rfl ⟨by decide, by decide, rfl⟩ (pk_mul 2 i) (by show _ < 440; omega) ?_
      refine g_load rfl rfl rfl trivial ?_
      refine g_icmp_eq rfl (fun c2 => ?_) (fun c2 => ?_)
      · rw [anyN_t (i := i) (by omega) (by simp [hasF, *])] at hQ
        refine g_iconst (nI 1) rfl (by decide) ?_
        refine g_vret rfl trivial (by first | exact ⟨by decide, by decide⟩ | trivial) (Nat.le_refl _) (Nat.le_refl _) ?_
        exact hQ
      · refine g_load rfl rfl rfl trivial ?_
        refine r_getf rfl rfl ?_
        refine g_iconst (nI 2) rfl (by decide) ?_
        refine g_load rfl rfl rfl trivial ?_
        refine g_imul rfl ?_
        refine g_iconst (nI 1) rfl (by decide) ?_
        refine g_iadd rfl ?_
        refine r_ia (2 * i + 1) rfl ⟨by decide, by decide, rfl⟩ (by rw [pk_mul, nI_add]) (by show _ < 440; omega) ?_
        refine g_load rfl rfl rfl trivial ?_
        refine g_icmp_ne rfl (fun c3 => ?_) (fun c3 => ?_)
        · have hf : hasF u p b i = false := by simp [hasF, *]
          refine g_iinc (nI (i + 1)) [some (.ref 25), some (.int p), some (.int b), some (.int (nI (i + 1)))] rfl rfl (nI_1 i) rfl ?_
          refine g_goto rfl ?_
          exact ih (i + 1) (by omega) (by omega) (fun x hx => by
            rcases Nat.lt_succ_iff_lt_or_eq.mp hx with h | h
            · exact hinv x h
            · exact h ▸ hf)
        · rw [anyN_t (i := i) (by omega) (by simp [hasF, *])] at hQ
          refine g_iconst (nI 1) rfl (by decide) ?_
          refine g_vret rfl trivial (by first | exact ⟨by decide, by decide⟩ | trivial) (Nat.le_refl _) (Nat.le_refl _) ?_
          exact hQ
set_option maxRecDepth 20000 in
theorem r_hasPlayed {pr : aC} {d : Nat} {u : rS} (p b : Int32) (nr : Nat) (h1 : u.1 1 = nI nr) (hn : nr ≤ 220) {Q : Option Value → rS → Prop} (hQ : Q (some (.int (bI (anyN (hasF u p b) nr)))) u) : rR pr (d + 1) 173 [.ref 25, .int p, .int b] u Q := by
  refine gR_of mi_173 rFr_rf rfl (Nat.le_of_ble_eq_true rfl) ?_
  show rB pr (d) cd_173 (Option.some Jvm.ClassFile.FieldType.boolean) Q 0 [some (.ref 25), some (.int p), some (.int b), none] [] u
  refine g_iconst (nI 0) rfl (by decide) ?_
  refine g_store [some (.ref 25), some (.int p), some (.int b), some (.int (nI 0))] rfl rfl trivial (Nat.le_of_ble_eq_true rfl) rfl ?_
  exact r_hasPlayed_l p b nr h1 hn hQ (nr + 1) 0 (by omega) (by omega) (fun x h => absurd h (by omega))
end
section
/-! ===== the reference: auctions ===== -/
def phF (u : rS) (t : Int32) : Int32 := if inF t 0 9 then u.2 28 t.toNatClampNeg else 0
theorem tb_of {t : Int32} (h : inF t 0 9 = true) : ∃ t', t' < 10 ∧ t = nI t' := by
  simp only [inF, Bool.and_eq_true, decide_eq_true_eq, Int32.le_iff_toInt_le] at h
  have h1 : (0 : Int32).toInt = 0 := by decide
  have h2 : (9 : Int32).toInt = 9 := by decide
  rw [h1, h2] at h
  obtain ⟨j, hj, rfl⟩ := nI_of (x := t) (by rw [Int32.lt_iff_toInt_lt]; omega)
  rw [nI_toInt hj] at h
  exact ⟨j, by omega, rfl⟩
theorem tb_t {t : Nat} (h : t < 10) : inF (nI t) 0 9 = true := by
  simp only [inF, Bool.and_eq_true, decide_eq_true_eq]
  exact ⟨by rw [← nI_0]; exact nI_le (by omega) (by omega), by rw [show (9 : Int32) = nI 9 by decide]; exact nI_le (by omega) (by omega)⟩
theorem phF_t {u : rS} {t : Nat} (h : t < 10) : phF u (nI t) = u.2 28 t := by
  unfold phF
  rw [tb_t h, if_pos rfl, nI_clamp (by omega)]
theorem ph_of {u : rS} {t : Int32} (h : ¬ phF u t = 0) : ∃ t', t' < 10 ∧ t = nI t' := by
  unfold phF at h
  split at h
  · rename_i q; exact tb_of q
  · exact absurd rfl h
/-- the calls of a table; its cards -/
def cf (u : rS) (t : Nat) : Nat → Int32 := fun i => u.2 33 (340 * t + i)
def gf (u : rS) (t : Nat) : Nat → Int32 := fun i => u.2 34 (52 * t + i)
def nz (v : Int32) : Bool := decide (¬ v = 0)
def ge3 (v : Int32) : Bool := decide (nI 3 ≤ v)
theorem last_lt {p : Int32 → Bool} {f : Nat → Int32} : ∀ {n i : Nat}, last p f n = some i → i < n ∧ p (f i) = true
  | 0, i, h => by cases h
  | n + 1, i, h => by
    unfold last at h
    split at h
    · rename_i hp
      cases h
      exact ⟨Nat.lt_succ_self _, hp⟩
    · have := last_lt h
      exact ⟨by omega, this.2⟩
set_option maxRecDepth 20000 in
theorem r_phaseOf {pr : aC} {d : Nat} {u : rS} (t : Int32) {Q : Option Value → rS → Prop} (hQ : Q (some (.int (phF u t))) u) : rR pr (d + 1 + 1) 175 [.ref 25, .int t] u Q := by
  refine gR_of mi_175 rFr_rf rfl (Nat.le_of_ble_eq_true rfl) ?_
  show rB pr (d + 1) cd_175 (Option.some Jvm.ClassFile.FieldType.int) Q 0 [some (.ref 25), some (.int t)] [] u
  refine g_load rfl rfl rfl trivial ?_
  refine g_iconst (nI 0) rfl (by decide) ?_
  refine g_bipush (nI 9) rfl (by decide) ?_
  refine g_statI [.int t, .int (nI 0), .int (nI 9)] rFr_tr rfl rfl rfl (Nat.le_of_ble_eq_true rfl) (Nat.le_refl _) (Nat.le_refl _) (r_in t 0 9 ⟨_, rfl, ?_⟩)
  refine g_if_eq rfl (fun c1 => ?_) (fun c1 => ?_)
  · rw [bI_eq] at c1
    refine g_iconst (nI 0) rfl (by decide) ?_
    refine g_vret rfl trivial ⟨rfl, rfl⟩ (Nat.le_refl _) (Nat.le_refl _) ?_
    refine Qe ?_ hQ
    first | (rw [phF_t ht]; done) | (simp only [phF, c1]; rfl)
  · rw [bI_ne] at c1
    obtain ⟨t', ht, rfl⟩ := tb_of c1
    refine g_load rfl rfl rfl trivial ?_
    refine r_getf rfl rfl ?_
    refine g_load rfl rfl rfl trivial ?_
    refine r_ia (t') rfl ⟨by decide, by decide, rfl⟩ rfl (by show _ < 10; omega) ?_
    refine g_goto rfl ?_
    refine g_vret rfl trivial ⟨rfl, rfl⟩ (Nat.le_refl _) (Nat.le_refl _) ?_
    refine Qe ?_ hQ
    first | (rw [phF_t ht]; done) | (simp only [phF, c1]; rfl)
set_option maxRecDepth 20000 in
theorem r_callAt {pr : aC} {d : Nat} {u : rS} (t i : Nat) (ht : t < 10) (hi : i < 340) {Q : Option Value → rS → Prop} (hQ : Q (some (.int (cf u t i))) u) : rR pr (d + 1) 176 [.ref 25, .int (nI t), .int (nI i)] u Q := by
  refine gR_of mi_176 rFr_rf rfl (Nat.le_of_ble_eq_true rfl) ?_
  show rB pr (d) cd_176 (Option.some Jvm.ClassFile.FieldType.int) Q 0 [some (.ref 25), some (.int (nI t)), some (.int (nI i))] [] u
  refine g_load rfl rfl rfl trivial ?_
  refine r_getf rfl rfl ?_
  refine g_sipush (nI 340) rfl (by decide) ?_
  refine g_load rfl rfl rfl trivial ?_
  refine g_imul rfl ?_
  refine g_load rfl rfl rfl trivial ?_
  refine g_iadd rfl ?_
  refine r_ia (340 * t + i) rfl ⟨by decide, by decide, rfl⟩ (by rw [pk_mul, nI_add]) (by show _ < 3400; omega) ?_
  refine g_vret rfl trivial ⟨rfl, rfl⟩ (Nat.le_refl _) (Nat.le_refl _) ?_
  exact hQ
set_option maxRecDepth 20000 in
theorem r_callerOf {pr : aC} {d : Nat} {u : rS} (t i b : Nat) (ht : t < 10) (hi : i < 340) (hb : u.2 29 t = nI (b + 1)) (hb2 : b < 36) {Q : Option Value → rS → Prop} (hQ : Q (some (.int (nI ((b % 4 + i) % 4)))) u) : rR pr (d + 1 + 1) 177 [.ref 25, .int (nI t), .int (nI i)] u Q := by
  refine gR_of mi_177 rFr_rf rfl (Nat.le_of_ble_eq_true rfl) ?_
  show rB pr (d + 1) cd_177 (Option.some Jvm.ClassFile.FieldType.int) Q 0 [some (.ref 25), some (.int (nI t)), some (.int (nI i))] [] u
  refine g_load rfl rfl rfl trivial ?_
  refine r_getf rfl rfl ?_
  refine g_load rfl rfl rfl trivial ?_
  refine r_ia (t) rfl ⟨by decide, by decide, rfl⟩ rfl (by show _ < 10; omega) ?_
  rw [hb]
  refine g_statI [.int (nI (b + 1))] rFr_tr rfl rfl rfl (Nat.le_of_ble_eq_true rfl) (Nat.le_refl _) (Nat.le_refl _) (r_dealer b (by omega) ⟨_, rfl, ?_⟩)
  refine g_load rfl rfl rfl trivial ?_
  refine g_iadd rfl ?_
  refine g_iconst (nI 4) rfl (by decide) ?_
  refine g_irem rfl (by decide) ?_
  refine g_vret rfl trivial ⟨rfl, rfl⟩ (Nat.le_refl _) (Nat.le_refl _) ?_
  rw [nI_add, pk_rem (by omega) (by omega) (by omega)]
  exact hQ
set_option maxRecDepth 20000 in
theorem r_latestCall_l {pr : aC} {d : Nat} {u : rS} (t : Nat) (ht : t < 10) {Q : Option Value → rS → Prop} : ∀ (i : Nat) (hi : i ≤ 340) (hQ : Q (some (.int (oI (last nz (cf u t) i)))) u), rB pr (d + 1) cd_178 (Option.some Jvm.ClassFile.FieldType.int) Q 7 [some (.ref 25), some (.int (nI t)), some (.int (pI i))] [] u := by
  intro i
  induction i with
  | zero =>
    intro hi hQ
    refine g_load rfl rfl rfl trivial ?_
    refine g_if_lt rfl (fun c1 => ?_) (fun c1 => ?_)
    · refine g_load rfl rfl rfl trivial ?_
      refine g_vret rfl trivial ⟨rfl, rfl⟩ (Nat.le_refl _) (Nat.le_refl _) ?_
      exact hQ
    · exact absurd (show pI 0 < 0 by decide) c1
  | succ i ih =>
    intro hi hQ
    refine g_load rfl rfl rfl trivial ?_
    refine g_if_lt rfl (fun c1 => ?_) (fun c1 => ?_)
    · exact absurd c1 (nI_pos (by omega))
    · refine g_load rfl rfl rfl trivial ?_
      refine g_load rfl rfl rfl trivial ?_
      refine g_load rfl rfl rfl trivial ?_
      refine g_virtI (a := 25) (ci := 8) (n := 2) [.int (nI t), .int (nI i)] rFr_tr rfl rfl (by decide) rfl r_this rfl (Nat.le_of_ble_eq_true rfl) (Nat.le_refl _) (Nat.le_refl _) (r_callAt t i ht (by omega) ⟨_, rfl, ?_⟩)
      refine g_if_ne rfl (fun c2 => ?_) (fun c2 => ?_)
      · have hl : last nz (cf u t) (i + 1) = some i := by simp [last, nz, c2]
        rw [hl] at hQ
        refine g_load rfl rfl rfl trivial ?_
        refine g_vret rfl trivial ⟨rfl, rfl⟩ (Nat.le_refl _) (Nat.le_refl _) ?_
        exact hQ
      · have hl : last nz (cf u t) (i + 1) = last nz (cf u t) i := by simp [last, nz, c2]
        rw [hl] at hQ
        refine g_iinc (pI i) [some (.ref 25), some (.int (nI t)), some (.int (pI i))] rfl rfl (by cases i with
      | zero => decide
      | succ i => exact pk_m1 i) rfl ?_
        refine g_goto rfl ?_
        exact ih (by omega) hQ
set_option maxRecDepth 20000 in
theorem r_latestBid_l {pr : aC} {d : Nat} {u : rS} (t : Nat) (ht : t < 10) {Q : Option Value → rS → Prop} : ∀ (i : Nat) (hi : i ≤ 340) (hQ : Q (some (.int (oI (last ge3 (cf u t) i)))) u), rB pr (d + 1) cd_179 (Option.some Jvm.ClassFile.FieldType.int) Q 7 [some (.ref 25), some (.int (nI t)), some (.int (pI i))] [] u := by
  intro i
  induction i with
  | zero =>
    intro hi hQ
    refine g_load rfl rfl rfl trivial ?_
    refine g_if_lt rfl (fun c1 => ?_) (fun c1 => ?_)
    · refine g_load rfl rfl rfl trivial ?_
      refine g_vret rfl trivial ⟨rfl, rfl⟩ (Nat.le_refl _) (Nat.le_refl _) ?_
      exact hQ
    · exact absurd (show pI 0 < 0 by decide) c1
  | succ i ih =>
    intro hi hQ
    refine g_load rfl rfl rfl trivial ?_
    refine g_if_lt rfl (fun c1 => ?_) (fun c1 => ?_)
    · exact absurd c1 (nI_pos (by omega))
    · refine g_load rfl rfl rfl trivial ?_
      refine g_load rfl rfl rfl trivial ?_
      refine g_load rfl rfl rfl trivial ?_
      refine g_virtI (a := 25) (ci := 8) (n := 2) [.int (nI t), .int (nI i)] rFr_tr rfl rfl (by decide) rfl r_this rfl (Nat.le_of_ble_eq_true rfl) (Nat.le_refl _) (Nat.le_refl _) (r_callAt t i ht (by omega) ⟨_, rfl, ?_⟩)
      refine g_iconst (nI 3) rfl (by decide) ?_
      refine g_icmp_ge rfl (fun c2 => ?_) (fun c2 => ?_)
      · have hl : last ge3 (cf u t) (i + 1) = some i := by simp [last, ge3, c2]
        rw [hl] at hQ
        refine g_load rfl rfl rfl trivial ?_
        refine g_vret rfl trivial ⟨rfl, rfl⟩ (Nat.le_refl _) (Nat.le_refl _) ?_
        exact hQ
      · have hl : last ge3 (cf u t) (i + 1) = last ge3 (cf u t) i := by simp only [last, ge3, decide_eq_true_eq, if_neg c2]
        rw [hl] at hQ
        refine g_iinc (pI i) [some (.ref 25), some (.int (nI t)), some (.int (pI i))] rfl rfl (by cases i with
      | zero => decide
      | succ i => exact pk_m1 i) rfl ?_
        refine g_goto rfl ?_
        exact ih (by omega) hQ
set_option maxRecDepth 20000 in
theorem r_latestCall {pr : aC} {d : Nat} {u : rS} (t n : Nat) (ht : t < 10) (hc : u.2 31 t = nI n) (hn : n ≤ 340) {Q : Option Value → rS → Prop} (hQ : Q (some (.int (oI (last nz (cf u t) n)))) u) : rR pr (d + 1 + 1) 178 [.ref 25, .int (nI t)] u Q := by
  refine gR_of mi_178 rFr_rf rfl (Nat.le_of_ble_eq_true rfl) ?_
  show rB pr (d + 1) cd_178 (Option.some Jvm.ClassFile.FieldType.int) Q 0 [some (.ref 25), some (.int (nI t)), none] [] u
  refine g_load rfl rfl rfl trivial ?_
  refine r_getf rfl rfl ?_
  refine g_load rfl rfl rfl trivial ?_
  refine r_ia (t) rfl ⟨by decide, by decide, rfl⟩ rfl (by show _ < 10; omega) ?_
  refine g_iconst (nI 1) rfl (by decide) ?_
  refine g_isub rfl ?_
  rw [hc, pI_eq]
  refine g_store [some (.ref 25), some (.int (nI t)), some (.int (pI n))] rfl rfl trivial (Nat.le_of_ble_eq_true rfl) rfl ?_
  exact r_latestCall_l t ht n hn hQ
set_option maxRecDepth 20000 in
theorem r_latestBid {pr : aC} {d : Nat} {u : rS} (t n : Nat) (ht : t < 10) (hc : u.2 31 t = nI n) (hn : n ≤ 340) {Q : Option Value → rS → Prop} (hQ : Q (some (.int (oI (last ge3 (cf u t) n)))) u) : rR pr (d + 1 + 1) 179 [.ref 25, .int (nI t)] u Q := by
  refine gR_of mi_179 rFr_rf rfl (Nat.le_of_ble_eq_true rfl) ?_
  show rB pr (d + 1) cd_179 (Option.some Jvm.ClassFile.FieldType.int) Q 0 [some (.ref 25), some (.int (nI t)), none] [] u
  refine g_load rfl rfl rfl trivial ?_
  refine r_getf rfl rfl ?_
  refine g_load rfl rfl rfl trivial ?_
  refine r_ia (t) rfl ⟨by decide, by decide, rfl⟩ rfl (by show _ < 10; omega) ?_
  refine g_iconst (nI 1) rfl (by decide) ?_
  refine g_isub rfl ?_
  rw [hc, pI_eq]
  refine g_store [some (.ref 25), some (.int (nI t)), some (.int (pI n))] rfl rfl trivial (Nat.le_of_ble_eq_true rfl) rfl ?_
  exact r_latestBid_l t ht n hn hQ
def dblF (f : Nat → Int32) (n : Nat) : Int32 := match last nz f n with
  | some i => if nI 2 < f i then 0 else f i
  | none => 0
theorem oI_m1 {o : Option Nat} (h : oI o = -1) (hb : ∀ i, o = some i → i < 2 ^ 31) : o = none := by
  cases o with
  | none => rfl
  | some i =>
    have h1 := congrArg Int32.toInt h
    rw [show oI (some i) = nI i from rfl, nI_toInt (hb i rfl)] at h1
    have : (-1 : Int32).toInt = -1 := by decide
    omega
theorem oI_some {o : Option Nat} (h : ¬ oI o = -1) : ∃ i, o = some i := by
  cases o with
  | none => exact absurd rfl h
  | some i => exact ⟨i, rfl⟩
set_option maxRecDepth 20000 in
theorem r_doubled {pr : aC} {d : Nat} {u : rS} (t n : Nat) (ht : t < 10) (hc : u.2 31 t = nI n) (hn : n ≤ 340) {Q : Option Value → rS → Prop} (hQ : Q (some (.int (dblF (cf u t) n))) u) : rR pr (d + 2 + 1) 180 [.ref 25, .int (nI t)] u Q := by
  refine gR_of mi_180 rFr_rf rfl (Nat.le_of_ble_eq_true rfl) ?_
  show rB pr (d + 2) cd_180 (Option.some Jvm.ClassFile.FieldType.int) Q 0 [some (.ref 25), some (.int (nI t)), none] [] u
  refine g_load rfl rfl rfl trivial ?_
  refine g_load rfl rfl rfl trivial ?_
  refine g_virtI (a := 25) (ci := 8) (n := 1) [.int (nI t)] rFr_tr rfl rfl (by decide) rfl r_this rfl (Nat.le_of_ble_eq_true rfl) (Nat.le_refl _) (Nat.le_refl _) (r_latestCall t n ht hc hn ⟨_, rfl, ?_⟩)
  refine g_store [some (.ref 25), some (.int (nI t)), some (.int (oI (last nz (cf u t) n)))] rfl rfl trivial (Nat.le_of_ble_eq_true rfl) rfl ?_
  refine g_load rfl rfl rfl trivial ?_
  refine g_iconst (-1) rfl (by decide) ?_
  refine g_icmp_eq rfl (fun c1 => ?_) (fun c1 => ?_)
  · have e1 := oI_m1 c1 (fun i hi => by have := (last_lt hi).1; omega)
    refine g_iconst (nI 0) rfl (by decide) ?_
    refine g_goto rfl ?_
    refine g_vret rfl trivial ⟨rfl, rfl⟩ (Nat.le_refl _) (Nat.le_refl _) ?_
    refine Qe ?_ hQ
    simp only [dblF, e1]
    first | rfl | (rw [if_pos (by rw [← Int32.not_le]; exact c2)]; rfl) | (rw [if_neg (by rw [Int32.not_lt]; exact c2)])
  · obtain ⟨i, e1⟩ := oI_some c1
    have hi := (last_lt e1).1
    rw [e1]
    refine g_load rfl rfl rfl trivial ?_
    refine g_load rfl rfl rfl trivial ?_
    refine g_load rfl rfl rfl trivial ?_
    refine g_virtI (a := 25) (ci := 8) (n := 2) [.int (nI t), .int (nI i)] rFr_tr rfl rfl (by decide) rfl r_this rfl (Nat.le_of_ble_eq_true rfl) (Nat.le_refl _) (Nat.le_refl _) (r_callAt t i ht (by omega) ⟨_, rfl, ?_⟩)
    refine g_iconst (nI 2) rfl (by decide) ?_
    refine g_icmp_le rfl (fun c2 => ?_) (fun c2 => ?_)
    · refine g_load rfl rfl rfl trivial ?_
      refine g_load rfl rfl rfl trivial ?_
      refine g_load rfl rfl rfl trivial ?_
      refine g_virtI (a := 25) (ci := 8) (n := 2) [.int (nI t), .int (nI i)] rFr_tr rfl rfl (by decide) rfl r_this rfl (Nat.le_of_ble_eq_true rfl) (Nat.le_refl _) (Nat.le_refl _) (r_callAt t i ht (by omega) ⟨_, rfl, ?_⟩)
      refine g_vret rfl trivial ⟨rfl, rfl⟩ (Nat.le_refl _) (Nat.le_refl _) ?_
      refine Qe ?_ hQ
      simp only [dblF, e1]
      first | rfl | (rw [if_pos (by rw [← Int32.not_le]; exact c2)]; rfl) | (rw [if_neg (by rw [Int32.not_lt]; exact c2)])
    · refine g_iconst (nI 0) rfl (by decide) ?_
      refine g_goto rfl ?_
      refine g_vret rfl trivial ⟨rfl, rfl⟩ (Nat.le_refl _) (Nat.le_refl _) ?_
      refine Qe ?_ hQ
      simp only [dblF, e1]
      first | rfl | (rw [if_pos (by rw [← Int32.not_le]; exact c2)]; rfl) | (rw [if_neg (by rw [Int32.not_lt]; exact c2)])
def lvF (f : Nat → Int32) (b : Nat) : Int32 := (f b - nI 3) / nI 5 + nI 1
def stF (f : Nat → Int32) (b : Nat) : Int32 := (f b - nI 3) - (f b - nI 3) / nI 5 * nI 5
set_option maxRecDepth 20000 in
theorem r_level {pr : aC} {d : Nat} {u : rS} (t n b : Nat) (ht : t < 10) (hc : u.2 31 t = nI n) (hn : n ≤ 340) (hb : last ge3 (cf u t) n = some b) {Q : Option Value → rS → Prop} (hQ : Q (some (.int (lvF (cf u t) b))) u) : rR pr (d + 2 + 1) 182 [.ref 25, .int (nI t)] u Q := by
  refine gR_of mi_182 rFr_rf rfl (Nat.le_of_ble_eq_true rfl) ?_
  show rB pr (d + 2) cd_182 (Option.some Jvm.ClassFile.FieldType.int) Q 0 [some (.ref 25), some (.int (nI t))] [] u
  refine g_load rfl rfl rfl trivial ?_
  refine g_load rfl rfl rfl trivial ?_
  refine g_load rfl rfl rfl trivial ?_
  refine g_load rfl rfl rfl trivial ?_
  refine g_virtI (a := 25) (ci := 8) (n := 1) [.int (nI t)] rFr_tr rfl rfl (by decide) rfl r_this rfl (Nat.le_of_ble_eq_true rfl) (Nat.le_refl _) (Nat.le_refl _) (r_latestBid t n ht hc hn ⟨_, rfl, ?_⟩)
  rw [hb]
  refine g_virtI (a := 25) (ci := 8) (n := 2) [.int (nI t), .int (nI b)] rFr_tr rfl rfl (by decide) rfl r_this rfl (Nat.le_of_ble_eq_true rfl) (Nat.le_refl _) (Nat.le_refl _) (r_callAt t b ht (by have := (last_lt hb).1; omega) ⟨_, rfl, ?_⟩)
  refine g_iconst (nI 3) rfl (by decide) ?_
  refine g_isub rfl ?_
  refine g_iconst (nI 5) rfl (by decide) ?_
  refine g_idiv rfl (by decide) ?_
  refine g_iconst (nI 1) rfl (by decide) ?_
  refine g_iadd rfl ?_
  refine g_vret rfl trivial ⟨rfl, rfl⟩ (Nat.le_refl _) (Nat.le_refl _) ?_
  exact hQ
set_option maxRecDepth 20000 in
theorem r_strain {pr : aC} {d : Nat} {u : rS} (t n b : Nat) (ht : t < 10) (hc : u.2 31 t = nI n) (hn : n ≤ 340) (hb : last ge3 (cf u t) n = some b) {Q : Option Value → rS → Prop} (hQ : Q (some (.int (stF (cf u t) b))) u) : rR pr (d + 2 + 1) 183 [.ref 25, .int (nI t)] u Q := by
  refine gR_of mi_183 rFr_rf rfl (Nat.le_of_ble_eq_true rfl) ?_
  show rB pr (d + 2) cd_183 (Option.some Jvm.ClassFile.FieldType.int) Q 0 [some (.ref 25), some (.int (nI t))] [] u
  refine g_load rfl rfl rfl trivial ?_
  refine g_load rfl rfl rfl trivial ?_
  refine g_load rfl rfl rfl trivial ?_
  refine g_load rfl rfl rfl trivial ?_
  refine g_virtI (a := 25) (ci := 8) (n := 1) [.int (nI t)] rFr_tr rfl rfl (by decide) rfl r_this rfl (Nat.le_of_ble_eq_true rfl) (Nat.le_refl _) (Nat.le_refl _) (r_latestBid t n ht hc hn ⟨_, rfl, ?_⟩)
  rw [hb]
  refine g_virtI (a := 25) (ci := 8) (n := 2) [.int (nI t), .int (nI b)] rFr_tr rfl rfl (by decide) rfl r_this rfl (Nat.le_of_ble_eq_true rfl) (Nat.le_refl _) (Nat.le_refl _) (r_callAt t b ht (by have := (last_lt hb).1; omega) ⟨_, rfl, ?_⟩)
  refine g_iconst (nI 3) rfl (by decide) ?_
  refine g_isub rfl ?_
  refine g_iconst (nI 5) rfl (by decide) ?_
  refine g_irem rfl (by decide) ?_
  refine g_vret rfl trivial ⟨rfl, rfl⟩ (Nat.le_refl _) (Nat.le_refl _) ?_
  exact hQ
def dcP (f : Nat → Int32) (b : Nat) (i : Nat) : Bool := decide (nI 2 < f i ∧ (f i - nI 3) - (f i - nI 3) / nI 5 * nI 5 = stF f b ∧ i % 2 = b % 2)
/-- the declarer: dl the dealer, b the place of the latest bid -/
def dcF (f : Nat → Int32) (dl b : Nat) : Int32 := match first (dcP f b) 0 (b + 1) with
  | some i => nI ((dl + i) % 4)
  | none => -1
set_option maxRecDepth 20000 in
theorem r_declarer_l {pr : aC} {d : Nat} {u : rS} (t n b bd : Nat) (ht : t < 10) (hc : u.2 31 t = nI n) (hn : n ≤ 340) (hb : last ge3 (cf u t) n = some b) (hbd : u.2 29 t = nI (bd + 1)) (hbd2 : bd < 36) {Q : Option Value → rS → Prop} (hQ : Q (some (.int (dcF (cf u t) (bd % 4) b))) u) : ∀ (zz : Nat) (i : Nat) (hm : (b + 1) - i < zz) (hle : i ≤ (b + 1)) (hinv : ∀ x, x < i → dcP (cf u t) b x = false), rB pr (d + 3) cd_184 (Option.some Jvm.ClassFile.FieldType.int) Q 6 [some (.ref 25), some (.int (nI t)), some (.int (nI b)), some (.int (nI i))] [] u := by
  intro zz
  induction zz with
  | zero => intro i hm hle hinv; exact absurd hm (by omega)
  | succ zz ih =>
    intro i hm hle hinv
    have hbn := (last_lt hb).1
    refine g_load rfl rfl rfl trivial ?_
    refine g_load rfl rfl rfl trivial ?_
    refine g_icmp_gt rfl (fun c1 => ?_) (fun c1 => ?_)
    · rw [nI_ltI (by omega) (by omega)] at c1
      rw [dcF, first_miss (fun x _ h => hinv x (by omega))] at hQ
      refine g_iconst (-1) rfl (by decide) ?_
      refine g_vret rfl trivial ⟨rfl, rfl⟩ (Nat.le_refl _) (Nat.le_refl _) ?_
      exact hQ
    · rw [nI_ltI (by omega) (by omega)] at c1
      refine g_load rfl rfl rfl trivial ?_
      refine g_load rfl rfl rfl trivial ?_
      refine g_load rfl rfl rfl trivial ?_
      refine g_virtI (a := 25) (ci := 8) (n := 2) [.int (nI t), .int (nI i)] rFr_tr rfl rfl (by decide) rfl r_this rfl (Nat.le_of_ble_eq_true rfl) (Nat.le_refl _) (Nat.le_refl _) (r_callAt t i ht (by omega) ⟨_, rfl, ?_⟩)
      refine g_iconst (nI 2) rfl (by decide) ?_
      refine g_icmp_le rfl (fun c2 => ?_) (fun c2 => ?_)
      · have hf : dcP (cf u t) b i = false := by simp only [dcP, decide_eq_false_iff_not]; intro q; exact absurd q.1 (by rw [Int32.not_lt]; exact c2)
        refine g_iinc (nI (i + 1)) [some (.ref 25), some (.int (nI t)), some (.int (nI b)), some (.int (nI (i + 1)))] rfl rfl (nI_1 i) rfl ?_
        refine g_goto rfl ?_
        exact ih (i + 1) (by omega) (by omega) (fun x hx => by
          rcases Nat.lt_succ_iff_lt_or_eq.mp hx with h | h
          · exact hinv x h
          · exact h ▸ hf)
      · rw [Int32.not_le] at c2
        refine g_load rfl rfl rfl trivial ?_
        refine g_load rfl rfl rfl trivial ?_
        refine g_load rfl rfl rfl trivial ?_
        refine g_virtI (a := 25) (ci := 8) (n := 2) [.int (nI t), .int (nI i)] rFr_tr rfl rfl (by decide) rfl r_this rfl (Nat.le_of_ble_eq_true rfl) (Nat.le_refl _) (Nat.le_refl _) (r_callAt t i ht (by omega) ⟨_, rfl, ?_⟩)
        refine g_iconst (nI 3) rfl (by decide) ?_
        refine g_isub rfl ?_
        refine g_iconst (nI 5) rfl (by decide) ?_
        refine g_irem rfl (by decide) ?_
        refine g_load rfl rfl rfl trivial ?_
        refine g_load rfl rfl rfl trivial ?_
        refine g_virtI (a := 25) (ci := 8) (n := 1) [.int (nI t)] rFr_tr rfl rfl (by decide) rfl r_this rfl (Nat.le_of_ble_eq_true rfl) (Nat.le_refl _) (Nat.le_refl _) (r_strain t n b ht hc hn hb ⟨_, rfl, ?_⟩)
        refine g_icmp_ne rfl (fun c3 => ?_) (fun c3 => ?_)
        · have hf : dcP (cf u t) b i = false := by simp only [dcP, decide_eq_false_iff_not]; intro q; exact c3 q.2.1
          refine g_iinc (nI (i + 1)) [some (.ref 25), some (.int (nI t)), some (.int (nI b)), some (.int (nI (i + 1)))] rfl rfl (nI_1 i) rfl ?_
          refine g_goto rfl ?_
          exact ih (i + 1) (by omega) (by omega) (fun x hx => by
            rcases Nat.lt_succ_iff_lt_or_eq.mp hx with h | h
            · exact hinv x h
            · exact h ▸ hf)
        · refine g_load rfl rfl rfl trivial ?_
          refine g_load rfl rfl rfl trivial ?_
          refine g_load rfl rfl rfl trivial ?_
          refine g_virtI (a := 25) (ci := 8) (n := 2) [.int (nI t), .int (nI i)] rFr_tr rfl rfl (by decide) rfl r_this rfl (Nat.le_of_ble_eq_true rfl) (Nat.le_refl _) (Nat.le_refl _) (r_callerOf t i bd ht (by omega) hbd hbd2 ⟨_, rfl, ?_⟩)
          refine g_load rfl rfl rfl trivial ?_
          refine g_load rfl rfl rfl trivial ?_
          refine g_load rfl rfl rfl trivial ?_
          refine g_virtI (a := 25) (ci := 8) (n := 2) [.int (nI t), .int (nI b)] rFr_tr rfl rfl (by decide) rfl r_this rfl (Nat.le_of_ble_eq_true rfl) (Nat.le_refl _) (Nat.le_refl _) (r_callerOf t b bd ht (by omega) hbd hbd2 ⟨_, rfl, ?_⟩)
          refine g_iadd rfl ?_
          rw [nI_add]
          refine g_iconst (nI 2) rfl (by decide) ?_
          refine g_irem rfl (by decide) ?_
          rw [pk_rem (by omega) (by omega) (by omega)]
          refine g_if_ne rfl (fun c4 => ?_) (fun c4 => ?_)
          · rw [← nI_0, nI_eq (by omega) (by omega)] at c4
            have hf : dcP (cf u t) b i = false := by simp only [dcP, decide_eq_false_iff_not]; intro q; have := q.2.2; omega
            refine g_iinc (nI (i + 1)) [some (.ref 25), some (.int (nI t)), some (.int (nI b)), some (.int (nI (i + 1)))] rfl rfl (nI_1 i) rfl ?_
            refine g_goto rfl ?_
            exact ih (i + 1) (by omega) (by omega) (fun x hx => by
              rcases Nat.lt_succ_iff_lt_or_eq.mp hx with h | h
              · exact hinv x h
              · exact h ▸ hf)
          · rw [← nI_0, nI_eq (by omega) (by omega)] at c4
            rw [dcF, first_hit (t := i) (by omega) (by omega) (by simp only [dcP, decide_eq_true_eq]; exact ⟨c2, c3, by omega⟩) (fun x _ h => hinv x h)] at hQ
            refine g_load rfl rfl rfl trivial ?_
            refine g_load rfl rfl rfl trivial ?_
            refine g_load rfl rfl rfl trivial ?_
            refine g_virtI (a := 25) (ci := 8) (n := 2) [.int (nI t), .int (nI i)] rFr_tr rfl rfl (by decide) rfl r_this rfl (Nat.le_of_ble_eq_true rfl) (Nat.le_refl _) (Nat.le_refl _) (r_callerOf t i bd ht (by omega) hbd hbd2 ⟨_, rfl, ?_⟩)
            refine g_vret rfl trivial ⟨rfl, rfl⟩ (Nat.le_refl _) (Nat.le_refl _) ?_
            exact hQ
set_option maxRecDepth 20000 in
theorem r_declarer {pr : aC} {d : Nat} {u : rS} (t n b bd : Nat) (ht : t < 10) (hc : u.2 31 t = nI n) (hn : n ≤ 340) (hb : last ge3 (cf u t) n = some b) (hbd : u.2 29 t = nI (bd + 1)) (hbd2 : bd < 36) {Q : Option Value → rS → Prop} (hQ : Q (some (.int (dcF (cf u t) (bd % 4) b))) u) : rR pr (d + 3 + 1) 184 [.ref 25, .int (nI t)] u Q := by
  refine gR_of mi_184 rFr_rf rfl (Nat.le_of_ble_eq_true rfl) ?_
  show rB pr (d + 3) cd_184 (Option.some Jvm.ClassFile.FieldType.int) Q 0 [some (.ref 25), some (.int (nI t)), none, none] [] u
  refine g_load rfl rfl rfl trivial ?_
  refine g_load rfl rfl rfl trivial ?_
  refine g_virtI (a := 25) (ci := 8) (n := 1) [.int (nI t)] rFr_tr rfl rfl (by decide) rfl r_this rfl (Nat.le_of_ble_eq_true rfl) (Nat.le_refl _) (Nat.le_refl _) (r_latestBid t n ht hc hn ⟨_, rfl, ?_⟩)
  rw [hb]
  refine g_store [some (.ref 25), some (.int (nI t)), some (.int (nI b)), none] rfl rfl trivial (Nat.le_of_ble_eq_true rfl) rfl ?_
  refine g_iconst (nI 0) rfl (by decide) ?_
  refine g_store [some (.ref 25), some (.int (nI t)), some (.int (nI b)), some (.int (nI 0))] rfl rfl trivial (Nat.le_of_ble_eq_true rfl) rfl ?_
  exact r_declarer_l t n b bd ht hc hn hb hbd hbd2 hQ (b + 2) 0 (by omega) (by omega) (fun x h => absurd h (by omega))
/-- whether a call may be made behind the n calls f -/
def mcF (f : Nat → Int32) (n : Nat) (c : Int32) : Bool := inF c 0 37 && (decide (c = 0) || (if c = 1 then (match last nz f n with
    | some i => decide ((i + n) % 2 = 1) && decide (nI 2 < f i)
    | none => false) else if c = 2 then (match last nz f n with
    | some i => decide ((i + n) % 2 = 1) && decide (f i = 1)
    | none => false) else match last ge3 f n with
    | some b => decide (f b < c)
    | none => true))
def otF (f : Nat → Int32) (n : Nat) : Bool := match last nz f n with
  | some i => decide ((i + n) % 2 = 1)
  | none => false
theorem otF_t {f : Nat → Int32} {n : Nat} (h : otF f n = true) : ∃ i, last nz f n = some i ∧ i < n := by
  unfold otF at h
  split at h
  · rename_i i hi; exact ⟨i, hi, (last_lt hi).1⟩
  · cases h
set_option maxRecDepth 20000 in
theorem r_mayCall_2 {pr : aC} {d : Nat} {u : rS} (t n bd : Nat) (c : Int32) (hc37 : inF c 0 37 = true) (hc0 : ¬ c = 0) (ht : t < 10) (hc : u.2 31 t = nI n) (hn : n < 340) {Q : Option Value → rS → Prop} (hQ : Q (some (.int (bI (mcF (cf u t) n c)))) u) : rB pr (d + 2) cd_181 (Option.some Jvm.ClassFile.FieldType.boolean) Q 41 [some (.ref 25), some (.int (nI t)), some (.int c), some (.int (oI (last nz (cf u t) n))), some (.int (bI (otF (cf u t) n))), none] [] u := by
  refine g_load rfl rfl rfl trivial ?_
  refine g_iconst (nI 1) rfl (by decide) ?_
  refine g_icmp_ne rfl (fun c1 => ?_) (fun c1 => ?_)
  · refine g_load rfl rfl rfl trivial ?_
    refine g_iconst (nI 2) rfl (by decide) ?_
    refine g_icmp_ne rfl (fun c2 => ?_) (fun c2 => ?_)
    · refine g_load rfl rfl rfl trivial ?_
      refine g_load rfl rfl rfl trivial ?_
      refine g_virtI (a := 25) (ci := 8) (n := 1) [.int (nI t)] rFr_tr rfl rfl (by decide) rfl r_this rfl (Nat.le_of_ble_eq_true rfl) (Nat.le_refl _) (Nat.le_refl _) (r_latestBid t n ht hc (by omega) ⟨_, rfl, ?_⟩)
      refine g_store [some (.ref 25), some (.int (nI t)), some (.int c), some (.int (oI (last nz (cf u t) n))), some (.int (bI (otF (cf u t) n))), some (.int (oI (last ge3 (cf u t) n)))] rfl rfl trivial (Nat.le_of_ble_eq_true rfl) rfl ?_
      refine g_load rfl rfl rfl trivial ?_
      refine g_iconst (-1) rfl (by decide) ?_
      refine g_icmp_eq rfl (fun c3 => ?_) (fun c3 => ?_)
      · have e2 := oI_m1 c3 (fun i hi => by have := (last_lt hi).1; omega)
        refine g_iconst (nI 1) rfl (by decide) ?_
        refine g_goto rfl ?_
        refine g_vret rfl trivial (by first | exact ⟨by decide, by decide⟩ | trivial) (Nat.le_refl _) (Nat.le_refl _) ?_
        refine Qe ?_ hQ
        have h10 : ¬ nI 1 = 0 := by decide
        have h20 : ¬ nI 2 = 0 := by decide
        have h1 : nI 1 = 1 := by decide
        have h2 : nI 2 = 2 := by decide
        have h21 : ¬ (2 : Int32) = 1 := by decide
        unfold otF at *
        cases hl : last nz (cf u t) n <;> simp_all [mcF, bI, Int32.not_le, Int32.not_lt, nI_0]
        all_goals (intro q; exact absurd q (by rw [Int32.not_lt]; assumption))
      · obtain ⟨b, e2⟩ := oI_some c3
        have hb := (last_lt e2).1
        rw [e2]
        refine g_load rfl rfl rfl trivial ?_
        refine g_load rfl rfl rfl trivial ?_
        refine g_load rfl rfl rfl trivial ?_
        refine g_load rfl rfl rfl trivial ?_
        refine g_virtI (a := 25) (ci := 8) (n := 2) [.int (nI t), .int (nI b)] rFr_tr rfl rfl (by decide) rfl r_this rfl (Nat.le_of_ble_eq_true rfl) (Nat.le_refl _) (Nat.le_refl _) (r_callAt t b ht (by omega) ⟨_, rfl, ?_⟩)
        refine g_icmp_le rfl (fun c4 => ?_) (fun c4 => ?_)
        · refine g_iconst (nI 0) rfl (by decide) ?_
          refine g_vret rfl trivial (by first | exact ⟨by decide, by decide⟩ | trivial) (Nat.le_refl _) (Nat.le_refl _) ?_
          refine Qe ?_ hQ
          have h10 : ¬ nI 1 = 0 := by decide
          have h20 : ¬ nI 2 = 0 := by decide
          have h1 : nI 1 = 1 := by decide
          have h2 : nI 2 = 2 := by decide
          have h21 : ¬ (2 : Int32) = 1 := by decide
          unfold otF at *
          cases hl : last nz (cf u t) n <;> simp_all [mcF, bI, Int32.not_le, Int32.not_lt, nI_0]
          all_goals (intro q; exact absurd q (by rw [Int32.not_lt]; assumption))
        · refine g_iconst (nI 1) rfl (by decide) ?_
          refine g_goto rfl ?_
          refine g_vret rfl trivial (by first | exact ⟨by decide, by decide⟩ | trivial) (Nat.le_refl _) (Nat.le_refl _) ?_
          refine Qe ?_ hQ
          have h10 : ¬ nI 1 = 0 := by decide
          have h20 : ¬ nI 2 = 0 := by decide
          have h1 : nI 1 = 1 := by decide
          have h2 : nI 2 = 2 := by decide
          have h21 : ¬ (2 : Int32) = 1 := by decide
          unfold otF at *
          cases hl : last nz (cf u t) n <;> simp_all [mcF, bI, Int32.not_le, Int32.not_lt, nI_0]
          all_goals (intro q; exact absurd q (by rw [Int32.not_lt]; assumption))
    · subst c2
      refine g_load rfl rfl rfl trivial ?_
      refine g_if_eq rfl (fun c5 => ?_) (fun c5 => ?_)
      · rw [bI_eq] at c5
        refine g_iconst (nI 0) rfl (by decide) ?_
        refine g_vret rfl trivial (by first | exact ⟨by decide, by decide⟩ | trivial) (Nat.le_refl _) (Nat.le_refl _) ?_
        refine Qe ?_ hQ
        have h10 : ¬ nI 1 = 0 := by decide
        have h20 : ¬ nI 2 = 0 := by decide
        have h1 : nI 1 = 1 := by decide
        have h2 : nI 2 = 2 := by decide
        have h21 : ¬ (2 : Int32) = 1 := by decide
        unfold otF at *
        cases hl : last nz (cf u t) n <;> simp_all [mcF, bI, Int32.not_le, Int32.not_lt, nI_0]
        all_goals (intro q; exact absurd q (by rw [Int32.not_lt]; assumption))
      · rw [bI_ne] at c5
        obtain ⟨i, e1, hi⟩ := otF_t c5
        rw [e1]
        refine g_load rfl rfl rfl trivial ?_
        refine g_load rfl rfl rfl trivial ?_
        refine g_load rfl rfl rfl trivial ?_
        refine g_virtI (a := 25) (ci := 8) (n := 2) [.int (nI t), .int (nI i)] rFr_tr rfl rfl (by decide) rfl r_this rfl (Nat.le_of_ble_eq_true rfl) (Nat.le_refl _) (Nat.le_refl _) (r_callAt t i ht (by omega) ⟨_, rfl, ?_⟩)
        refine g_iconst (nI 1) rfl (by decide) ?_
        refine g_icmp_ne rfl (fun c6 => ?_) (fun c6 => ?_)
        · refine g_iconst (nI 0) rfl (by decide) ?_
          refine g_vret rfl trivial (by first | exact ⟨by decide, by decide⟩ | trivial) (Nat.le_refl _) (Nat.le_refl _) ?_
          refine Qe ?_ hQ
          have h10 : ¬ nI 1 = 0 := by decide
          have h20 : ¬ nI 2 = 0 := by decide
          have h1 : nI 1 = 1 := by decide
          have h2 : nI 2 = 2 := by decide
          have h21 : ¬ (2 : Int32) = 1 := by decide
          unfold otF at *
          cases hl : last nz (cf u t) n <;> simp_all [mcF, bI, Int32.not_le, Int32.not_lt, nI_0]
          all_goals (intro q; exact absurd q (by rw [Int32.not_lt]; assumption))
        · refine g_iconst (nI 1) rfl (by decide) ?_
          refine g_goto rfl ?_
          refine g_vret rfl trivial (by first | exact ⟨by decide, by decide⟩ | trivial) (Nat.le_refl _) (Nat.le_refl _) ?_
          refine Qe ?_ hQ
          have h10 : ¬ nI 1 = 0 := by decide
          have h20 : ¬ nI 2 = 0 := by decide
          have h1 : nI 1 = 1 := by decide
          have h2 : nI 2 = 2 := by decide
          have h21 : ¬ (2 : Int32) = 1 := by decide
          unfold otF at *
          cases hl : last nz (cf u t) n <;> simp_all [mcF, bI, Int32.not_le, Int32.not_lt, nI_0]
          all_goals (intro q; exact absurd q (by rw [Int32.not_lt]; assumption))
  · subst c1
    refine g_load rfl rfl rfl trivial ?_
    refine g_if_eq rfl (fun c7 => ?_) (fun c7 => ?_)
    · rw [bI_eq] at c7
      refine g_iconst (nI 0) rfl (by decide) ?_
      refine g_vret rfl trivial (by first | exact ⟨by decide, by decide⟩ | trivial) (Nat.le_refl _) (Nat.le_refl _) ?_
      refine Qe ?_ hQ
      have h10 : ¬ nI 1 = 0 := by decide
      have h20 : ¬ nI 2 = 0 := by decide
      have h1 : nI 1 = 1 := by decide
      have h2 : nI 2 = 2 := by decide
      have h21 : ¬ (2 : Int32) = 1 := by decide
      unfold otF at *
      cases hl : last nz (cf u t) n <;> simp_all [mcF, bI, Int32.not_le, Int32.not_lt, nI_0]
      all_goals (intro q; exact absurd q (by rw [Int32.not_lt]; assumption))
    · rw [bI_ne] at c7
      obtain ⟨i, e1, hi⟩ := otF_t c7
      rw [e1]
      refine g_load rfl rfl rfl trivial ?_
      refine g_load rfl rfl rfl trivial ?_
      refine g_load rfl rfl rfl trivial ?_
      refine g_virtI (a := 25) (ci := 8) (n := 2) [.int (nI t), .int (nI i)] rFr_tr rfl rfl (by decide) rfl r_this rfl (Nat.le_of_ble_eq_true rfl) (Nat.le_refl _) (Nat.le_refl _) (r_callAt t i ht (by omega) ⟨_, rfl, ?_⟩)
      refine g_iconst (nI 2) rfl (by decide) ?_
      refine g_icmp_le rfl (fun c8 => ?_) (fun c8 => ?_)
      · refine g_iconst (nI 0) rfl (by decide) ?_
        refine g_vret rfl trivial (by first | exact ⟨by decide, by decide⟩ | trivial) (Nat.le_refl _) (Nat.le_refl _) ?_
        refine Qe ?_ hQ
        have h10 : ¬ nI 1 = 0 := by decide
        have h20 : ¬ nI 2 = 0 := by decide
        have h1 : nI 1 = 1 := by decide
        have h2 : nI 2 = 2 := by decide
        have h21 : ¬ (2 : Int32) = 1 := by decide
        unfold otF at *
        cases hl : last nz (cf u t) n <;> simp_all [mcF, bI, Int32.not_le, Int32.not_lt, nI_0]
        all_goals (intro q; exact absurd q (by rw [Int32.not_lt]; assumption))
      · refine g_iconst (nI 1) rfl (by decide) ?_
        refine g_goto rfl ?_
        refine g_vret rfl trivial (by first | exact ⟨by decide, by decide⟩ | trivial) (Nat.le_refl _) (Nat.le_refl _) ?_
        refine Qe ?_ hQ
        have h10 : ¬ nI 1 = 0 := by decide
        have h20 : ¬ nI 2 = 0 := by decide
        have h1 : nI 1 = 1 := by decide
        have h2 : nI 2 = 2 := by decide
        have h21 : ¬ (2 : Int32) = 1 := by decide
        unfold otF at *
        cases hl : last nz (cf u t) n <;> simp_all [mcF, bI, Int32.not_le, Int32.not_lt, nI_0]
        all_goals (intro q; exact absurd q (by rw [Int32.not_lt]; assumption))
set_option maxRecDepth 20000 in
theorem r_mayCall {pr : aC} {d : Nat} {u : rS} (t n bd : Nat) (c : Int32) (ht : t < 10) (hc : u.2 31 t = nI n) (hn : n < 340) (hbd : u.2 29 t = nI (bd + 1)) (hbd2 : bd < 36) {Q : Option Value → rS → Prop} (hQ : Q (some (.int (bI (mcF (cf u t) n c)))) u) : rR pr (d + 2 + 1) 181 [.ref 25, .int (nI t), .int c] u Q := by
  refine gR_of mi_181 rFr_rf rfl (Nat.le_of_ble_eq_true rfl) ?_
  show rB pr (d + 2) cd_181 (Option.some Jvm.ClassFile.FieldType.boolean) Q 0 [some (.ref 25), some (.int (nI t)), some (.int c), none, none, none] [] u
  refine g_load rfl rfl rfl trivial ?_
  refine g_iconst (nI 0) rfl (by decide) ?_
  refine g_bipush (nI 37) rfl (by decide) ?_
  refine g_statI [.int c, .int (nI 0), .int (nI 37)] rFr_tr rfl rfl rfl (Nat.le_of_ble_eq_true rfl) (Nat.le_refl _) (Nat.le_refl _) (r_in c 0 37 ⟨_, rfl, ?_⟩)
  refine g_if_ne rfl (fun c1 => ?_) (fun c1 => ?_)
  · rw [bI_ne] at c1
    refine g_load rfl rfl rfl trivial ?_
    refine g_if_ne rfl (fun c2 => ?_) (fun c2 => ?_)
    · refine g_load rfl rfl rfl trivial ?_
      refine g_load rfl rfl rfl trivial ?_
      refine g_virtI (a := 25) (ci := 8) (n := 1) [.int (nI t)] rFr_tr rfl rfl (by decide) rfl r_this rfl (Nat.le_of_ble_eq_true rfl) (Nat.le_refl _) (Nat.le_refl _) (r_latestCall t n ht hc (by omega) ⟨_, rfl, ?_⟩)
      refine g_store [some (.ref 25), some (.int (nI t)), some (.int c), some (.int (oI (last nz (cf u t) n))), none, none] rfl rfl trivial (Nat.le_of_ble_eq_true rfl) rfl ?_
      refine g_load rfl rfl rfl trivial ?_
      refine g_iconst (-1) rfl (by decide) ?_
      refine g_icmp_eq rfl (fun c3 => ?_) (fun c3 => ?_)
      · have e1 := oI_m1 c3 (fun i hi => by have := (last_lt hi).1; omega)
        have ho : nI 0 = bI (otF (cf u t) n) := by unfold otF; rw [e1]; rfl
        refine g_iconst (nI 0) rfl (by decide) ?_
        rw [ho]
        try rw [← e1]
        refine g_store [some (.ref 25), some (.int (nI t)), some (.int c), some (.int (oI (last nz (cf u t) n))), some (.int (bI (otF (cf u t) n))), none] rfl rfl trivial (Nat.le_of_ble_eq_true rfl) rfl ?_
        exact r_mayCall_2 t n bd c c1 c2 ht hc hn hQ
      · obtain ⟨i, e1⟩ := oI_some c3
        have hi := (last_lt e1).1
        rw [e1]
        refine g_load rfl rfl rfl trivial ?_
        refine g_load rfl rfl rfl trivial ?_
        refine g_load rfl rfl rfl trivial ?_
        refine g_virtI (a := 25) (ci := 8) (n := 2) [.int (nI t), .int (nI i)] rFr_tr rfl rfl (by decide) rfl r_this rfl (Nat.le_of_ble_eq_true rfl) (Nat.le_refl _) (Nat.le_refl _) (r_callerOf t i bd ht (by omega) hbd hbd2 ⟨_, rfl, ?_⟩)
        refine g_load rfl rfl rfl trivial ?_
        refine r_getf rfl rfl ?_
        refine g_load rfl rfl rfl trivial ?_
        refine r_ia (t) rfl ⟨by decide, by decide, rfl⟩ rfl (by show _ < 10; omega) ?_
        rw [hc]
        refine g_iadd rfl ?_
        rw [nI_add]
        refine g_load rfl rfl rfl trivial ?_
        refine r_getf rfl rfl ?_
        refine g_load rfl rfl rfl trivial ?_
        refine r_ia (t) rfl ⟨by decide, by decide, rfl⟩ rfl (by show _ < 10; omega) ?_
        rw [hbd]
        refine g_statI [.int (nI (bd + 1))] rFr_tr rfl rfl rfl (Nat.le_of_ble_eq_true rfl) (Nat.le_refl _) (Nat.le_refl _) (r_dealer bd (by omega) ⟨_, rfl, ?_⟩)
        refine g_iadd rfl ?_
        rw [nI_add]
        refine g_iconst (nI 2) rfl (by decide) ?_
        refine g_irem rfl (by decide) ?_
        rw [pk_rem (by omega) (by omega) (by omega)]
        refine g_iconst (nI 1) rfl (by decide) ?_
        refine g_icmp_ne rfl (fun c4 => ?_) (fun c4 => ?_)
        · rw [nI_eq (by omega) (by omega)] at c4
          have ho : nI 0 = bI (otF (cf u t) n) := by
            have : ¬ (i + n) % 2 = 1 := by omega
            unfold otF; rw [e1]; simp [bI, this, nI_0]
          refine g_iconst (nI 0) rfl (by decide) ?_
          rw [ho]
          try rw [← e1]
          refine g_store [some (.ref 25), some (.int (nI t)), some (.int c), some (.int (oI (last nz (cf u t) n))), some (.int (bI (otF (cf u t) n))), none] rfl rfl trivial (Nat.le_of_ble_eq_true rfl) rfl ?_
          exact r_mayCall_2 t n bd c c1 c2 ht hc hn hQ
        · rw [nI_eq (by omega) (by omega)] at c4
          have ho : nI 1 = bI (otF (cf u t) n) := by
            have : (i + n) % 2 = 1 := by omega
            unfold otF; rw [e1]; simp [bI, this, nI1]
          refine g_iconst (nI 1) rfl (by decide) ?_
          refine g_goto rfl ?_
          rw [ho]
          try rw [← e1]
          refine g_store [some (.ref 25), some (.int (nI t)), some (.int c), some (.int (oI (last nz (cf u t) n))), some (.int (bI (otF (cf u t) n))), none] rfl rfl trivial (Nat.le_of_ble_eq_true rfl) rfl ?_
          exact r_mayCall_2 t n bd c c1 c2 ht hc hn hQ
    · refine g_iconst (nI 1) rfl (by decide) ?_
      refine g_vret rfl trivial (by first | exact ⟨by decide, by decide⟩ | trivial) (Nat.le_refl _) (Nat.le_refl _) ?_
      refine Qe ?_ hQ
      simp [mcF, *]
      try rfl
  · rw [bI_eq] at c1
    refine g_iconst (nI 0) rfl (by decide) ?_
    refine g_vret rfl trivial (by first | exact ⟨by decide, by decide⟩ | trivial) (Nat.le_refl _) (Nat.le_refl _) ?_
    refine Qe ?_ hQ
    simp [mcF, *]
    try rfl
end
section
/-! ===== the reference: play ===== -/
section REFV
variable {cl : aC} {cd : List aE} {C S : Nat} {rt : Option FieldType} {Q : Option Value → rS → Prop} {k : Nat} {l : aL} {st : List Value} {u : rS} {c s : Nat}
theorem r_putv {j f : Nat} {v : Int32} (hg : aGet cd k = some (.putfield j, 8, f)) (hf : rIs f) (hP : ∀ u1 : rS, u1.2 = u.2 → u1.1 f = v → (∀ g, g ≠ f → u1.1 g = u.1 g) → gB RF rFr cl cd C S rt Q (k + 1) l st u1 c s) : gB RF rFr cl cd C S rt Q k l (.int v :: .ref 25 :: st) u c s :=
  r_puti hg hf (hP _ rfl (by simp [upd]) (fun g hg => by simp [upd, hg]))
theorem r_iasv {x y a : Nat} {i v : Int32} (n : Nat) (hg : aGet cd k = some (.iastore, x, y)) (ha : 26 ≤ a ∧ a < 50 ∧ rK a = 0) (hi : i = nI n) (hn : n < rN a) (hP : ∀ u1 : rS, u1.1 = u.1 → (∀ b, b ≠ a → u1.2 b = u.2 b) → u1.2 a n = v → (∀ z, z ≠ n → u1.2 a z = u.2 a z) → gB RF rFr cl cd C S rt Q (k + 1) l st u1 c s) : gB RF rFr cl cd C S rt Q k l (.int v :: .int i :: .ref a :: st) u c s :=
  r_ias n hg ha hi hn (hP _ rfl (fun b hb => by simp [rU, hb]) (by simp [rU, upd]) (fun z hz => by simp [rU, upd, hz]))
theorem r_zasv {x y a : Nat} {i v : Int32} (n : Nat) (hg : aGet cd k = some (.bastore, x, y)) (ha : 26 ≤ a ∧ a < 50 ∧ rK a = 1) (hi : i = nI n) (hn : n < rN a) (hP : ∀ u1 : rS, u1.1 = u.1 → (∀ b, b ≠ a → u1.2 b = u.2 b) → u1.2 a n = vp_nar .boolean v → (∀ z, z ≠ n → u1.2 a z = u.2 a z) → gB RF rFr cl cd C S rt Q (k + 1) l st u1 c s) : gB RF rFr cl cd C S rt Q k l (.int v :: .int i :: .ref a :: st) u c s :=
  r_zas n hg ha hi hn (hP _ rfl (fun b hb => by simp [rU, hb]) (by simp [rU, upd]) (fun z hz => by simp [rU, upd, hz]))
end REFV
/-- the same but for what is only written down on the way -/
def rSame (u u' : rS) : Prop := u'.1 0 = u.1 0 ∧ u'.1 1 = u.1 1 ∧ u'.1 22 = u.1 22 ∧ ∀ a, a < 46 → u'.2 a = u.2 a
theorem rSame.rf (u : rS) : rSame u u := ⟨rfl, rfl, rfl, fun _ _ => rfl⟩
theorem rSame.tr {a b d : rS} (h1 : rSame a b) (h2 : rSame b d) : rSame a d := ⟨h2.1.trans h1.1, h2.2.1.trans h1.2.1, h2.2.2.1.trans h1.2.2.1, fun x hx => (h2.2.2.2 x hx).trans (h1.2.2.2 x hx)⟩
theorem rSame_cf {u u' : rS} (h : rSame u u') (t : Nat) : cf u' t = cf u t := by unfold cf; rw [h.2.2.2 33 (by decide)]
theorem rSame_gf {u u' : rS} (h : rSame u u') (t : Nat) : gf u' t = gf u t := by unfold gf; rw [h.2.2.2 34 (by decide)]
def btF (a b tr : Int32) : Bool := if a / nI 13 = b / nI 13 then decide (b < a) else decide (a / nI 13 = tr)
def bst (g : Nat → Int32) (tr : Int32) (s : Nat) : Nat → Nat
  | 0 => 0
  | k + 1 => if btF (g (s + (k + 1))) (g (s + bst g tr s k)) tr then k + 1 else bst g tr s k
theorem bst_le (g : Nat → Int32) (tr : Int32) (s : Nat) : ∀ k, bst g tr s k ≤ k
  | 0 => Nat.le_refl 0
  | k + 1 => by
    unfold bst
    have := bst_le g tr s k
    split <;> omega
def ldF (g : Nat → Int32) (tr : Int32) (l0 : Nat) : Nat → Nat
  | 0 => l0
  | j + 1 => (ldF g tr l0 j + bst g tr (4 * j) 3) % 4
def wnF (g : Nat → Int32) (tr : Int32) (l0 s : Nat) : Nat → Nat
  | 0 => 0
  | j + 1 => wnF g tr l0 s j + (if ldF g tr l0 (j + 1) % 2 = s then 1 else 0)
theorem ldF_lt {g : Nat → Int32} {tr : Int32} {l0 : Nat} (h : l0 < 4) : ∀ j, ldF g tr l0 j < 4
  | 0 => h
  | j + 1 => Nat.mod_lt _ (by omega)
theorem wnF_le (g : Nat → Int32) (tr : Int32) (l0 s : Nat) : ∀ j, wnF g tr l0 s j ≤ j
  | 0 => Nat.le_refl 0
  | j + 1 => by
    unfold wnF
    have := wnF_le g tr l0 s j
    split <;> omega
def dcN (f : Nat → Int32) (dl b : Nat) : Nat := match first (dcP f b) 0 (b + 1) with
  | some i => (dl + i) % 4
  | none => 0
theorem first_some {p : Nat → Bool} : ∀ {n i t : Nat}, i ≤ t → t < i + n → p t = true → ∃ x, first p i n = some x ∧ i ≤ x ∧ x < i + n
  | 0, i, t, h1, h2, _ => by omega
  | n + 1, i, t, h1, h2, hp => by
    unfold first
    by_cases hi : p i = true
    · rw [if_pos hi]; exact ⟨i, rfl, by omega, by omega⟩
    · rw [if_neg hi]
      have : i ≠ t := fun q => hi (q ▸ hp)
      obtain ⟨x, h3, h4, h5⟩ := first_some (n := n) (i := i + 1) (t := t) (by omega) (by omega) hp
      exact ⟨x, h3, by omega, by omega⟩
theorem dcF_N {f : Nat → Int32} {dl b : Nat} (h : ge3 (f b) = true) : dcF f dl b = nI (dcN f dl b) ∧ dcN f dl b < 4 := by
  have hp : dcP f b b = true := by
    unfold dcP
    rw [decide_eq_true_eq]
    refine ⟨?_, rfl, rfl⟩
    simp only [ge3, decide_eq_true_eq] at h
    rw [Int32.le_iff_toInt_le] at h
    rw [Int32.lt_iff_toInt_lt]
    rw [show (nI 3).toInt = 3 by decide] at h
    rw [show (nI 2).toInt = 2 by decide]
    omega
  obtain ⟨x, h1, -, -⟩ := first_some (i := 0) (n := b + 1) (t := b) (by omega) (by omega) hp
  unfold dcF dcN
  rw [h1]
  exact ⟨rfl, Nat.mod_lt _ (by omega)⟩
set_option maxRecDepth 20000 in
theorem r_suit {pr : aC} {d : Nat} {u : rS} (c : Int32) {Q : Option Value → rS → Prop} (hQ : Q (some (.int (c / nI 13))) u) : rR pr (d + 1) 186 [.int c] u Q := by
  refine gR_of mi_186 rFr_rf rfl (Nat.le_of_ble_eq_true rfl) ?_
  show rB pr (d) cd_186 (Option.some Jvm.ClassFile.FieldType.int) Q 0 [some (.int c)] [] u
  refine g_load rfl rfl rfl trivial ?_
  refine g_bipush (nI 13) rfl (by decide) ?_
  refine g_idiv rfl (by decide) ?_
  refine g_vret rfl trivial ⟨rfl, rfl⟩ (Nat.le_refl _) (Nat.le_refl _) ?_
  exact hQ
set_option maxRecDepth 20000 in
theorem r_beats {pr : aC} {d : Nat} {u : rS} (a b tr : Int32) {Q : Option Value → rS → Prop} (hQ : Q (some (.int (bI (btF a b tr)))) u) : rR pr (d + 1 + 1) 187 [.int a, .int b, .int tr] u Q := by
  refine gR_of mi_187 rFr_rf rfl (Nat.le_of_ble_eq_true rfl) ?_
  show rB pr (d + 1) cd_187 (Option.some Jvm.ClassFile.FieldType.boolean) Q 0 [some (.int a), some (.int b), some (.int tr)] [] u
  refine g_load rfl rfl rfl trivial ?_
  refine g_statI [.int a] rFr_tr rfl rfl rfl (Nat.le_of_ble_eq_true rfl) (Nat.le_refl _) (Nat.le_refl _) (r_suit a ⟨_, rfl, ?_⟩)
  refine g_load rfl rfl rfl trivial ?_
  refine g_statI [.int b] rFr_tr rfl rfl rfl (Nat.le_of_ble_eq_true rfl) (Nat.le_refl _) (Nat.le_refl _) (r_suit b ⟨_, rfl, ?_⟩)
  refine g_icmp_ne rfl (fun c1 => ?_) (fun c1 => ?_)
  · refine g_load rfl rfl rfl trivial ?_
    refine g_statI [.int a] rFr_tr rfl rfl rfl (Nat.le_of_ble_eq_true rfl) (Nat.le_refl _) (Nat.le_refl _) (r_suit a ⟨_, rfl, ?_⟩)
    refine g_load rfl rfl rfl trivial ?_
    refine g_icmp_ne rfl (fun c2 => ?_) (fun c2 => ?_)
    · have hbt : btF a b tr = false := by unfold btF; rw [if_neg c1, decide_eq_false_iff_not]; exact c2
      refine g_iconst (nI 0) rfl (by decide) ?_
      refine g_vret rfl trivial (by first | exact ⟨by decide, by decide⟩ | trivial) (Nat.le_refl _) (Nat.le_refl _) ?_
      rw [hbt] at hQ
      exact hQ
    · have hbt : btF a b tr = true := by unfold btF; rw [if_neg c1, decide_eq_true_eq]; exact c2
      refine g_iconst (nI 1) rfl (by decide) ?_
      refine g_goto rfl ?_
      refine g_vret rfl trivial (by first | exact ⟨by decide, by decide⟩ | trivial) (Nat.le_refl _) (Nat.le_refl _) ?_
      rw [hbt] at hQ
      exact hQ
  · refine g_load rfl rfl rfl trivial ?_
    refine g_load rfl rfl rfl trivial ?_
    refine g_icmp_le rfl (fun c3 => ?_) (fun c3 => ?_)
    · have hbt : btF a b tr = false := by unfold btF; rw [if_pos c1, decide_eq_false_iff_not, Int32.not_lt]; exact c3
      refine g_iconst (nI 0) rfl (by decide) ?_
      refine g_vret rfl trivial (by first | exact ⟨by decide, by decide⟩ | trivial) (Nat.le_refl _) (Nat.le_refl _) ?_
      rw [hbt] at hQ
      exact hQ
    · have hbt : btF a b tr = true := by unfold btF; rw [if_pos c1, decide_eq_true_eq, ← Int32.not_le]; exact c3
      refine g_iconst (nI 1) rfl (by decide) ?_
      refine g_goto rfl ?_
      refine g_vret rfl trivial (by first | exact ⟨by decide, by decide⟩ | trivial) (Nat.le_refl _) (Nat.le_refl _) ?_
      rw [hbt] at hQ
      exact hQ
/-- the leader, the start and the tricks won, as goThrough leaves them behind j tricks -/
def gtAt (u : rS) (g : Nat → Int32) (tr : Int32) (l0 j : Nat) : Prop := u.1 25 = nI (ldF g tr l0 j) ∧ u.1 26 = nI (4 * j) ∧ u.2 47 0 = nI (wnF g tr l0 0 j) ∧ u.2 47 1 = nI (wnF g tr l0 1 j)
set_option maxRecDepth 20000 in
theorem r_goThrough_i {pr : aC} {d : Nat} {u : rS} (t j : Nat) (g : Nat → Int32) (tr : Int32) (ht : t < 10) (hj : 4 * j + 4 ≤ 52) (hg : gf u t = g) (h26 : u.1 26 = nI (4 * j)) {Q : Option Value → rS → Prop} (hQ : rB pr (d + 4) cd_188 none Q 71 [some (.ref 25), some (.int (nI t)), some (.int tr), some (.int (nI (bst g tr (4 * j) 3))), some (.int (nI 4))] [] u) : ∀ (zz : Nat) (i : Nat) (hm : 3 - i < zz) (hle : i ≤ 3), rB pr (d + 4) cd_188 none Q 39 [some (.ref 25), some (.int (nI t)), some (.int tr), some (.int (nI (bst g tr (4 * j) i))), some (.int (nI (i + 1)))] [] u := by
  intro zz
  induction zz with
  | zero => intro i hm hle; exact absurd hm (by omega)
  | succ zz ih =>
    intro i hm hle
    refine g_load rfl rfl rfl trivial ?_
    refine g_iconst (nI 4) rfl (by decide) ?_
    refine g_icmp_ge rfl (fun c1 => ?_) (fun c1 => ?_)
    · rw [nI_leI (by omega) (by omega)] at c1
      have hi : i = 3 := by omega
      subst hi
      exact hQ
    · rw [nI_leI (by omega) (by omega)] at c1
      have hbl := bst_le g tr (4 * j) i
      refine g_load rfl rfl rfl trivial ?_
      refine r_getf rfl rfl ?_
      refine g_bipush (nI 52) rfl (by decide) ?_
      refine g_load rfl rfl rfl trivial ?_
      refine g_imul rfl ?_
      refine g_load rfl rfl rfl trivial ?_
      refine r_getf rfl rfl ?_
      refine g_iadd rfl ?_
      refine g_load rfl rfl rfl trivial ?_
      refine g_iadd rfl ?_
      refine r_ia (52 * t + (4 * j + (i + 1))) rfl ⟨by decide, by decide, rfl⟩ (by rw [h26, pk_mul, nI_add, nI_add]; congr 1; omega) (by show _ < 520; omega) ?_
      refine g_load rfl rfl rfl trivial ?_
      refine r_getf rfl rfl ?_
      refine g_bipush (nI 52) rfl (by decide) ?_
      refine g_load rfl rfl rfl trivial ?_
      refine g_imul rfl ?_
      refine g_load rfl rfl rfl trivial ?_
      refine r_getf rfl rfl ?_
      refine g_iadd rfl ?_
      refine g_load rfl rfl rfl trivial ?_
      refine g_iadd rfl ?_
      refine r_ia (52 * t + (4 * j + bst g tr (4 * j) i)) rfl ⟨by decide, by decide, rfl⟩ (by rw [h26, pk_mul, nI_add, nI_add]; congr 1; omega) (by show _ < 520; omega) ?_
      refine g_load rfl rfl rfl trivial ?_
      change gB RF rFr _ _ _ _ _ _ _ _ [.int tr, .int (gf u t (4 * j + bst g tr (4 * j) i)), .int (gf u t (4 * j + (i + 1)))] _ _ _
      refine g_statI [.int (gf u t (4 * j + (i + 1))), .int (gf u t (4 * j + bst g tr (4 * j) i)), .int tr] rFr_tr rfl rfl rfl (Nat.le_of_ble_eq_true rfl) (Nat.le_refl _) (Nat.le_refl _) (r_beats (gf u t (4 * j + (i + 1))) (gf u t (4 * j + bst g tr (4 * j) i)) tr ⟨_, rfl, ?_⟩)
      refine g_if_eq rfl (fun c2 => ?_) (fun c2 => ?_)
      · rw [bI_eq, hg] at c2
        have hb1 : bst g tr (4 * j) (i + 1) = bst g tr (4 * j) i := by simp [bst, c2]
        rw [← hb1]
        refine g_iinc (nI (i + 1 + 1)) [some (.ref 25), some (.int (nI t)), some (.int tr), some (.int (nI (bst g tr (4 * j) (i + 1)))), some (.int (nI (i + 1 + 1)))] rfl rfl (nI_1 (i + 1)) rfl ?_
        refine g_goto rfl ?_
        exact ih (i + 1) (by omega) (by omega)
      · rw [bI_ne, hg] at c2
        have hb1 : bst g tr (4 * j) (i + 1) = i + 1 := by simp [bst, c2]
        refine g_load rfl rfl rfl trivial ?_
        refine g_store [some (.ref 25), some (.int (nI t)), some (.int tr), some (.int (nI (i + 1))), some (.int (nI (i + 1)))] rfl rfl trivial (Nat.le_of_ble_eq_true rfl) rfl ?_
        rw [show [some (Value.ref 25), some (Value.int (nI t)), some (Value.int tr), some (Value.int (nI (i + 1))), some (Value.int (nI (i + 1)))] = [some (Value.ref 25), some (Value.int (nI t)), some (Value.int tr), some (Value.int (nI (bst g tr (4 * j) (i + 1)))), some (Value.int (nI (i + 1)))] by rw [hb1]]
        refine g_iinc (nI (i + 1 + 1)) [some (.ref 25), some (.int (nI t)), some (.int tr), some (.int (nI (bst g tr (4 * j) (i + 1)))), some (.int (nI (i + 1 + 1)))] rfl rfl (nI_1 (i + 1)) rfl ?_
        refine g_goto rfl ?_
        exact ih (i + 1) (by omega) (by omega)
set_option maxRecDepth 20000 in
theorem r_goThrough_l {pr : aC} {d : Nat} {u0 : rS} (t m : Nat) (g : Nat → Int32) (tr : Int32) (l0 : Nat) (ht : t < 10) (hg : gf u0 t = g) (hl0 : l0 < 4) (hm0 : u0.2 32 t = nI m) (hm52 : m ≤ 52) {Q : Option Value → rS → Prop} (hQ : ∀ u1, rSame u0 u1 → gtAt u1 g tr l0 (m / 4) → Q none u1) : ∀ (zz : Nat) (j : Nat) (u : rS) (l3 l4 : Option Value) (hS : rSame u0 u) (hG : gtAt u g tr l0 j) (hj : 4 * j ≤ m) (hm : m / 4 - j < zz), rB pr (d + 4) cd_188 none Q 26 [some (.ref 25), some (.int (nI t)), some (.int tr), l3, l4] [] u := by
  intro zz
  induction zz with
  | zero => intro j u l3 l4 hS hG hj hm; exact absurd hm (by omega)
  | succ zz ih =>
    intro j u l3 l4 hS hG hj hm
    refine g_load rfl rfl rfl trivial ?_
    refine r_getf rfl rfl ?_
    refine g_iconst (nI 4) rfl (by decide) ?_
    refine g_iadd rfl ?_
    refine g_load rfl rfl rfl trivial ?_
    refine r_getf rfl rfl ?_
    refine g_load rfl rfl rfl trivial ?_
    refine r_ia (t) rfl ⟨by decide, by decide, rfl⟩ rfl (by show _ < 10; omega) ?_
    rw [hG.2.1, nI_add, hS.2.2.2 32 (by decide), hm0]
    refine g_icmp_gt rfl (fun c1 => ?_) (fun c1 => ?_)
    · rw [nI_ltI (by omega) (by omega)] at c1
      have hjm : j = m / 4 := by omega
      refine g_ret rfl rfl (Nat.le_refl _) (Nat.le_refl _) (hQ u hS (hjm ▸ hG))
    rw [nI_ltI (by omega) (by omega)] at c1
    refine g_iconst (nI 0) rfl (by decide) ?_
    refine g_store [some (.ref 25), some (.int (nI t)), some (.int tr), some (.int (nI 0)), l4] rfl rfl trivial (Nat.le_of_ble_eq_true rfl) (by cases l4 <;> rfl) ?_
    refine g_iconst (nI 1) rfl (by decide) ?_
    refine g_store [some (.ref 25), some (.int (nI t)), some (.int tr), some (.int (nI 0)), some (.int (nI 1))] rfl rfl trivial (Nat.le_of_ble_eq_true rfl) rfl ?_
    refine r_goThrough_i t j g tr ht (by omega) ((rSame_gf hS t).trans hg) hG.2.1 ?_ 4 0 (by omega) (by omega)
    have hld := ldF_lt (g := g) (tr := tr) hl0 j
    have hbl := bst_le g tr (4 * j) 3
    refine g_load rfl rfl rfl trivial ?_
    refine g_load rfl rfl rfl trivial ?_
    refine r_getf rfl rfl ?_
    refine g_load rfl rfl rfl trivial ?_
    refine g_iadd rfl ?_
    rw [hG.1, nI_add]
    refine g_iconst (nI 4) rfl (by decide) ?_
    refine g_irem rfl (by decide) ?_
    rw [pk_rem (by omega) (by omega) (by omega)]
    refine r_putv rfl (by simp [rIs]) (fun u1 p2 pf po => ?_)
    refine g_load rfl rfl rfl trivial ?_
    refine r_getf rfl rfl ?_
    refine g_load rfl rfl rfl trivial ?_
    refine r_getf rfl rfl ?_
    rw [pf]
    refine g_iconst (nI 2) rfl (by decide) ?_
    refine g_irem rfl (by decide) ?_
    rw [pk_rem (by omega) (by omega) (by omega)]
    refine g_dup2 rfl rfl rfl ?_
    refine r_ia ((ldF g tr l0 j + bst g tr (4 * j) 3) % 4 % 2) rfl ⟨by decide, by decide, rfl⟩ rfl (by show _ < 2; omega) ?_
    refine g_iconst (nI 1) rfl (by decide) ?_
    refine g_iadd rfl ?_
    refine r_iasv ((ldF g tr l0 j + bst g tr (4 * j) 3) % 4 % 2) rfl ⟨by decide, by decide, rfl⟩ rfl (by show _ < 2; omega) (fun u2 q1 q2 q3 q4 => ?_)
    refine g_load rfl rfl rfl trivial ?_
    refine g_dup rfl rfl ?_
    refine r_getf rfl rfl ?_
    refine g_iconst (nI 4) rfl (by decide) ?_
    refine g_iadd rfl ?_
    refine r_putv rfl (by simp [rIs]) (fun u3 s2 sf so => ?_)
    refine g_goto rfl ?_
    refine ih (j + 1) u3 _ _ ?_ ?_ (by omega) (by omega)
    · refine hS.tr ⟨?_, ?_, ?_, fun a ha => ?_⟩
      · rw [so 0 (by decide), q1, po 0 (by decide)]
      · rw [so 1 (by decide), q1, po 1 (by decide)]
      · rw [so 22 (by decide), q1, po 22 (by decide)]
      · rw [s2, q2 a (by omega), p2]
    · have hl' : ldF g tr l0 (j + 1) = (ldF g tr l0 j + bst g tr (4 * j) 3) % 4 := rfl
      have hw : ∀ x, x < 2 → u3.2 47 x = nI (wnF g tr l0 x (j + 1)) := by
        intro x hx
        have hx0 : u.2 47 x = nI (wnF g tr l0 x j) := by
          rcases (show x = 0 ∨ x = 1 by omega) with rfl | rfl
          · exact hG.2.2.1
          · exact hG.2.2.2
        rw [s2]
        by_cases hxe : x = (ldF g tr l0 j + bst g tr (4 * j) 3) % 4 % 2
        · rw [← hxe] at q3
          rw [q3, p2, hx0, nI_add]
          simp only [wnF, hl', ← hxe, if_true]
        · rw [q4 x hxe, p2, hx0]
          have hxe' : ¬ (ldF g tr l0 j + bst g tr (4 * j) 3) % 4 % 2 = x := fun q => hxe q.symm
          simp only [wnF, hl', if_neg hxe', Nat.add_zero]
      refine ⟨?_, ?_, hw 0 (by omega), hw 1 (by omega)⟩
      · rw [so 25 (by decide), q1, pf, hl']
      · rw [sf, q1, po 26 (by decide), hG.2.1, nI_add]
        congr 1
set_option maxRecDepth 20000 in
theorem r_goThrough {pr : aC} {d : Nat} {u : rS} (t n b bd m : Nat) (ht : t < 10) (hc : u.2 31 t = nI n) (hn : n ≤ 340) (hb : last ge3 (cf u t) n = some b) (hbd : u.2 29 t = nI (bd + 1)) (hbd2 : bd < 36) (hm0 : u.2 32 t = nI m) (hm52 : m ≤ 52) {Q : Option Value → rS → Prop} (hQ : ∀ u1, rSame u u1 → gtAt u1 (gf u t) (stF (cf u t) b) ((dcN (cf u t) (bd % 4) b + 1) % 4) (m / 4) → Q none u1) : rR pr (d + 4 + 1) 188 [.ref 25, .int (nI t)] u Q := by
  refine gR_of mi_188 rFr_rf rfl (Nat.le_of_ble_eq_true rfl) ?_
  show rB pr (d + 4) cd_188 none Q 0 [some (.ref 25), some (.int (nI t)), none, none, none] [] u
  refine g_load rfl rfl rfl trivial ?_
  refine g_load rfl rfl rfl trivial ?_
  refine g_virtI (a := 25) (ci := 8) (n := 1) [.int (nI t)] rFr_tr rfl rfl (by decide) rfl r_this rfl (Nat.le_of_ble_eq_true rfl) (Nat.le_refl _) (Nat.le_refl _) (r_strain t n b ht hc hn hb ⟨_, rfl, ?_⟩)
  refine g_store [some (.ref 25), some (.int (nI t)), some (.int (stF (cf u t) b)), none, none] rfl rfl trivial (Nat.le_of_ble_eq_true rfl) rfl ?_
  refine g_load rfl rfl rfl trivial ?_
  refine g_load rfl rfl rfl trivial ?_
  refine g_load rfl rfl rfl trivial ?_
  refine g_virtI (a := 25) (ci := 8) (n := 1) [.int (nI t)] rFr_tr rfl rfl (by decide) rfl r_this rfl (Nat.le_of_ble_eq_true rfl) (Nat.le_refl _) (Nat.le_refl _) (r_declarer t n b bd ht hc hn hb hbd hbd2 ⟨_, rfl, ?_⟩)
  obtain ⟨hd1, hd4⟩ := dcF_N (dl := bd % 4) (last_lt hb).2
  rw [hd1]
  refine g_iconst (nI 1) rfl (by decide) ?_
  refine g_iadd rfl ?_
  rw [nI_add]
  refine g_iconst (nI 4) rfl (by decide) ?_
  refine g_irem rfl (by decide) ?_
  rw [pk_rem (by omega) (by omega) (by omega)]
  refine r_putv rfl (by simp [rIs]) (fun u1 p2 pf po => ?_)
  refine g_load rfl rfl rfl trivial ?_
  refine g_iconst (nI 0) rfl (by decide) ?_
  refine r_putv rfl (by simp [rIs]) (fun u2 q2 qf qo => ?_)
  refine g_load rfl rfl rfl trivial ?_
  refine r_getf rfl rfl ?_
  refine g_iconst (nI 0) rfl (by decide) ?_
  refine g_iconst (nI 0) rfl (by decide) ?_
  refine r_iasv (0) rfl ⟨by decide, by decide, rfl⟩ rfl (by decide) (fun u3 r1 r2 r3 r4 => ?_)
  refine g_load rfl rfl rfl trivial ?_
  refine r_getf rfl rfl ?_
  refine g_iconst (nI 1) rfl (by decide) ?_
  refine g_iconst (nI 0) rfl (by decide) ?_
  refine r_iasv (1) rfl ⟨by decide, by decide, rfl⟩ rfl (by decide) (fun u4 s1 s2 s3 s4 => ?_)
  refine r_goThrough_l t m (gf u t) (stF (cf u t) b) ((dcN (cf u t) (bd % 4) b + 1) % 4) (u0 := u) ht rfl (by omega) hm0 hm52 hQ (m / 4 + 1) 0 u4 none none ?_ ?_ (by omega) (by omega)
  · refine ⟨?_, ?_, ?_, fun a ha => ?_⟩
    · rw [s1, r1, qo 0 (by decide), po 0 (by decide)]
    · rw [s1, r1, qo 1 (by decide), po 1 (by decide)]
    · rw [s1, r1, qo 22 (by decide), po 22 (by decide)]
    · rw [s2 a (by omega), r2 a (by omega), q2, p2]
  · refine ⟨?_, ?_, ?_, ?_⟩
    · rw [s1, r1, qo 25 (by decide), pf]; rfl
    · rw [s1, r1, qf]
    · rw [s4 0 (by decide), r3]; rfl
    · rw [s3]; rfl
set_option maxRecDepth 20000 in
theorem r_turn_p {pr : aC} {d : Nat} {u : rS} (t n b bd m : Nat) (ht : t < 10) (hc : u.2 31 t = nI n) (hn : n ≤ 340) (hb : last ge3 (cf u t) n = some b) (hbd : u.2 29 t = nI (bd + 1)) (hbd2 : bd < 36) (hm0 : u.2 32 t = nI m) (hm52 : m ≤ 52) (hph : ¬ u.2 28 t = nI 1) {Q : Option Value → rS → Prop} (hQ : ∀ u1, rSame u u1 → gtAt u1 (gf u t) (stF (cf u t) b) ((dcN (cf u t) (bd % 4) b + 1) % 4) (m / 4) → Q (some (.int (nI ((ldF (gf u t) (stF (cf u t) b) ((dcN (cf u t) (bd % 4) b + 1) % 4) (m / 4) + m % 4) % 4)))) u1) : rR pr (d + 5 + 1) 189 [.ref 25, .int (nI t)] u Q := by
  refine gR_of mi_189 rFr_rf rfl (Nat.le_of_ble_eq_true rfl) ?_
  show rB pr (d + 5) cd_189 (Option.some Jvm.ClassFile.FieldType.int) Q 0 [some (.ref 25), some (.int (nI t))] [] u
  refine g_load rfl rfl rfl trivial ?_
  refine r_getf rfl rfl ?_
  refine g_load rfl rfl rfl trivial ?_
  refine r_ia (t) rfl ⟨by decide, by decide, rfl⟩ rfl (by show _ < 10; omega) ?_
  refine g_iconst (nI 1) rfl (by decide) ?_
  refine g_icmp_ne rfl (fun c1 => ?_) (fun c1 => ?_)
  · refine g_load rfl rfl rfl trivial ?_
    refine g_load rfl rfl rfl trivial ?_
    refine g_virtV (a := 25) (ci := 8) (n := 1) [.int (nI t)] rFr_tr rfl rfl (by decide) rfl r_this rfl (Nat.le_of_ble_eq_true rfl) (Nat.le_refl _) (Nat.le_refl _) (r_goThrough t n b bd m ht hc hn hb hbd hbd2 hm0 hm52 (fun u1 hS hG => ⟨rfl, ?_⟩))
    refine g_load rfl rfl rfl trivial ?_
    refine r_getf rfl rfl ?_
    refine g_load rfl rfl rfl trivial ?_
    refine r_getf rfl rfl ?_
    refine g_load rfl rfl rfl trivial ?_
    refine r_ia (t) rfl ⟨by decide, by decide, rfl⟩ rfl (by show _ < 10; omega) ?_
    rw [hS.2.2.2 32 (by decide), hm0, hG.1]
    refine g_iadd rfl ?_
    rw [nI_add]
    refine g_load rfl rfl rfl trivial ?_
    refine r_getf rfl rfl ?_
    rw [hG.2.1]
    refine g_isub rfl ?_
    have hld := ldF_lt (g := gf u t) (tr := stF (cf u t) b) (show (dcN (cf u t) (bd % 4) b + 1) % 4 < 4 by omega) (m / 4)
    rw [pk_sub (by omega)]
    refine g_iconst (nI 4) rfl (by decide) ?_
    refine g_irem rfl (by decide) ?_
    rw [pk_rem (by omega) (by omega) (by omega)]
    refine g_vret rfl trivial ⟨rfl, rfl⟩ (Nat.le_refl _) (Nat.le_refl _) ?_
    have e1 : ldF (gf u t) (stF (cf u t) b) ((dcN (cf u t) (bd % 4) b + 1) % 4) (m / 4) + m - 4 * (m / 4) = ldF (gf u t) (stF (cf u t) b) ((dcN (cf u t) (bd % 4) b + 1) % 4) (m / 4) + m % 4 := by omega
    rw [e1]
    exact hQ u1 hS hG
  · exact absurd c1 hph
set_option maxRecDepth 20000 in
theorem r_turn_a {pr : aC} {d : Nat} {u : rS} (t n bd : Nat) (ht : t < 10) (hc : u.2 31 t = nI n) (hn : n < 340) (hbd : u.2 29 t = nI (bd + 1)) (hbd2 : bd < 36) (hph : u.2 28 t = nI 1) {Q : Option Value → rS → Prop} (hQ : Q (some (.int (nI ((bd % 4 + n) % 4)))) u) : rR pr (d + 2 + 1) 189 [.ref 25, .int (nI t)] u Q := by
  refine gR_of mi_189 rFr_rf rfl (Nat.le_of_ble_eq_true rfl) ?_
  show rB pr (d + 2) cd_189 (Option.some Jvm.ClassFile.FieldType.int) Q 0 [some (.ref 25), some (.int (nI t))] [] u
  refine g_load rfl rfl rfl trivial ?_
  refine r_getf rfl rfl ?_
  refine g_load rfl rfl rfl trivial ?_
  refine r_ia (t) rfl ⟨by decide, by decide, rfl⟩ rfl (by show _ < 10; omega) ?_
  refine g_iconst (nI 1) rfl (by decide) ?_
  refine g_icmp_ne rfl (fun c1 => ?_) (fun c1 => ?_)
  · exact absurd hph c1
  · refine g_load rfl rfl rfl trivial ?_
    refine g_load rfl rfl rfl trivial ?_
    refine g_load rfl rfl rfl trivial ?_
    refine r_getf rfl rfl ?_
    refine g_load rfl rfl rfl trivial ?_
    refine r_ia (t) rfl ⟨by decide, by decide, rfl⟩ rfl (by show _ < 10; omega) ?_
    rw [hc]
    refine g_virtI (a := 25) (ci := 8) (n := 2) [.int (nI t), .int (nI n)] rFr_tr rfl rfl (by decide) rfl r_this rfl (Nat.le_of_ble_eq_true rfl) (Nat.le_refl _) (Nat.le_refl _) (r_callerOf t n bd ht hn hbd hbd2 ⟨_, rfl, ?_⟩)
    refine g_vret rfl trivial ⟨rfl, rfl⟩ (Nat.le_refl _) (Nat.le_refl _) ?_
    exact hQ
set_option maxRecDepth 20000 in
theorem r_wasPlayed_l {pr : aC} {d : Nat} {u : rS} (t m : Nat) (c : Int32) (ht : t < 10) (hm0 : u.2 32 t = nI m) (hm52 : m ≤ 52) {Q : Option Value → rS → Prop} (hQ : Q (some (.int (bI (anyN (fun k => decide (gf u t k = c)) m)))) u) : ∀ (zz : Nat) (i : Nat) (hm : m - i < zz) (hle : i ≤ m) (hinv : ∀ x, x < i → decide (gf u t x = c) = false), rB pr (d) cd_190 (Option.some Jvm.ClassFile.FieldType.boolean) Q 2 [some (.ref 25), some (.int (nI t)), some (.int c), some (.int (nI i))] [] u := by
  intro zz
  induction zz with
  | zero => intro i hm hle hinv; exact absurd hm (by omega)
  | succ zz ih =>
    intro i hm hle hinv
    refine g_load rfl rfl rfl trivial ?_
    refine g_load rfl rfl rfl trivial ?_
    refine r_getf rfl rfl ?_
    refine g_load rfl rfl rfl trivial ?_
    refine r_ia (t) rfl ⟨by decide, by decide, rfl⟩ rfl (by show _ < 10; omega) ?_
    rw [hm0]
    refine g_icmp_ge rfl (fun c1 => ?_) (fun c1 => ?_)
    · rw [nI_leI (by omega) (by omega)] at c1
      rw [anyN_f (fun x h => hinv x (by omega))] at hQ
      refine g_iconst (nI 0) rfl (by decide) ?_
      exact g_vret rfl trivial ⟨by decide, by decide⟩ (Nat.le_refl _) (Nat.le_refl _) hQ
    rw [nI_leI (by omega) (by omega)] at c1
    refine g_load rfl rfl rfl trivial ?_
    refine r_getf rfl rfl ?_
    refine g_bipush (nI 52) rfl (by decide) ?_
    refine g_load rfl rfl rfl trivial ?_
    refine g_imul rfl ?_
    refine g_load rfl rfl rfl trivial ?_
    refine g_iadd rfl ?_
    refine r_ia (52 * t + i) rfl ⟨by decide, by decide, rfl⟩ (by rw [pk_mul, nI_add]) (by show _ < 520; omega) ?_
    refine g_load rfl rfl rfl trivial ?_
    refine g_icmp_ne rfl (fun c1 => ?_) (fun c1 => ?_)
    · have hf : decide (gf u t i = c) = false := decide_eq_false c1
      refine g_iinc (nI (i + 1)) [some (.ref 25), some (.int (nI t)), some (.int c), some (.int (nI (i + 1)))] rfl rfl (nI_1 i) rfl ?_
      refine g_goto rfl ?_
      exact ih (i + 1) (by omega) (by omega) (fun x hx => by
        rcases Nat.lt_succ_iff_lt_or_eq.mp hx with h | h
        · exact hinv x h
        · exact h ▸ hf)
    · rw [anyN_t (i := i) (by omega) (decide_eq_true c1)] at hQ
      refine g_iconst (nI 1) rfl (by decide) ?_
      refine g_vret rfl trivial (by first | exact ⟨by decide, by decide⟩ | trivial) (Nat.le_refl _) (Nat.le_refl _) ?_
      exact hQ
set_option maxRecDepth 20000 in
theorem r_wasPlayed {pr : aC} {d : Nat} {u : rS} (t m : Nat) (c : Int32) (ht : t < 10) (hm0 : u.2 32 t = nI m) (hm52 : m ≤ 52) {Q : Option Value → rS → Prop} (hQ : Q (some (.int (bI (anyN (fun k => decide (gf u t k = c)) m)))) u) : rR pr (d + 1) 190 [.ref 25, .int (nI t), .int c] u Q := by
  refine gR_of mi_190 rFr_rf rfl (Nat.le_of_ble_eq_true rfl) ?_
  show rB pr (d) cd_190 (Option.some Jvm.ClassFile.FieldType.boolean) Q 0 [some (.ref 25), some (.int (nI t)), some (.int c), none] [] u
  refine g_iconst (nI 0) rfl (by decide) ?_
  refine g_store [some (.ref 25), some (.int (nI t)), some (.int c), some (.int (nI 0))] rfl rfl trivial (Nat.le_of_ble_eq_true rfl) rfl ?_
  exact r_wasPlayed_l t m c ht hm0 hm52 hQ (m + 1) 0 (by omega) (by omega) (fun x h => absurd h (by omega))
def hdF (u : rS) (t m : Nat) (s c : Int32) : Bool := decide (handF u (u.2 29 t) c = s) && !(anyN (fun k => decide (gf u t k = c)) m)
set_option maxRecDepth 20000 in
theorem r_holds {pr : aC} {d : Nat} {u : rS} (t m nb : Nat) (s c : Int32) (ht : t < 10) (h0 : u.1 0 = nI nb) (hnb : nb ≤ 36) (hm0 : u.2 32 t = nI m) (hm52 : m ≤ 52) {Q : Option Value → rS → Prop} (hQ : Q (some (.int (bI (hdF u t m s c)))) u) : rR pr (d + 3 + 1) 191 [.ref 25, .int (nI t), .int s, .int c] u Q := by
  refine gR_of mi_191 rFr_rf rfl (Nat.le_of_ble_eq_true rfl) ?_
  show rB pr (d + 3) cd_191 (Option.some Jvm.ClassFile.FieldType.boolean) Q 0 [some (.ref 25), some (.int (nI t)), some (.int s), some (.int c)] [] u
  refine g_load rfl rfl rfl trivial ?_
  refine g_load rfl rfl rfl trivial ?_
  refine r_getf rfl rfl ?_
  refine g_load rfl rfl rfl trivial ?_
  refine r_ia (t) rfl ⟨by decide, by decide, rfl⟩ rfl (by show _ < 10; omega) ?_
  refine g_load rfl rfl rfl trivial ?_
  refine g_virtI (a := 25) (ci := 8) (n := 2) [.int (u.2 29 t), .int c] rFr_tr rfl rfl (by decide) rfl r_this rfl (Nat.le_of_ble_eq_true rfl) (Nat.le_refl _) (Nat.le_refl _) (r_hand (u.2 29 t) c nb h0 hnb ⟨_, rfl, ?_⟩)
  refine g_load rfl rfl rfl trivial ?_
  refine g_icmp_ne rfl (fun c1 => ?_) (fun c1 => ?_)
  · have hh : hdF u t m s c = false := by unfold hdF; rw [decide_eq_false c1]; rfl
    refine g_iconst (nI 0) rfl (by decide) ?_
    refine g_vret rfl trivial (by first | exact ⟨by decide, by decide⟩ | trivial) (Nat.le_refl _) (Nat.le_refl _) ?_
    rw [hh] at hQ
    exact hQ
  · refine g_load rfl rfl rfl trivial ?_
    refine g_load rfl rfl rfl trivial ?_
    refine g_load rfl rfl rfl trivial ?_
    refine g_virtI (a := 25) (ci := 8) (n := 2) [.int (nI t), .int c] rFr_tr rfl rfl (by decide) rfl r_this rfl (Nat.le_of_ble_eq_true rfl) (Nat.le_refl _) (Nat.le_refl _) (r_wasPlayed t m c ht hm0 hm52 ⟨_, rfl, ?_⟩)
    refine g_if_ne rfl (fun c2 => ?_) (fun c2 => ?_)
    · rw [bI_ne] at c2
      have hh : hdF u t m s c = false := by unfold hdF; rw [c2]; simp
      refine g_iconst (nI 0) rfl (by decide) ?_
      refine g_vret rfl trivial (by first | exact ⟨by decide, by decide⟩ | trivial) (Nat.le_refl _) (Nat.le_refl _) ?_
      rw [hh] at hQ
      exact hQ
    · rw [bI_eq] at c2
      have hh : hdF u t m s c = true := by unfold hdF; rw [c2, decide_eq_true c1]; rfl
      refine g_iconst (nI 1) rfl (by decide) ?_
      refine g_goto rfl ?_
      refine g_vret rfl trivial (by first | exact ⟨by decide, by decide⟩ | trivial) (Nat.le_refl _) (Nat.le_refl _) ?_
      rw [hh] at hQ
      exact hQ
end
section
/-! ===== the reference: scores ===== -/
def lsK (v : Bool) (k : Nat) : Nat := if k = 1 then (if v then 200 else 100) else if v || decide (3 < k) then 300 else 200
def lsS (v : Bool) : Nat → Nat
  | 0 => 0
  | k + 1 => lsS v k + lsK v (k + 1)
theorem lsS_le (v : Bool) : ∀ k, lsS v k ≤ 300 * k
  | 0 => Nat.le_refl 0
  | k + 1 => by
    have := lsS_le v k
    have h : lsK v (k + 1) ≤ 300 := by unfold lsK; split <;> split <;> omega
    unfold lsS; omega
def lsF (n db : Nat) (v : Bool) : Nat := if db = 0 then n * (if v then 100 else 50) else lsS v n * db
set_option maxRecDepth 20000 in
theorem r_lost_l {pr : aC} {d : Nat} {u : rS} (n db : Nat) (v : Bool) (hn : n ≤ 13) (hdb : db ≤ 2) {Q : Option Value → rS → Prop} (hQ : Q (some (.int (nI (lsS v n * db)))) u) : ∀ (zz : Nat) (i : Nat) (hm : n - i < zz) (hle : i ≤ n), rB pr (d) cd_210 (Option.some Jvm.ClassFile.FieldType.int) Q 14 [some (.int (nI n)), some (.int (nI db)), some (.int (bI v)), some (.int (nI (lsS v i))), some (.int (nI (i + 1)))] [] u := by
  intro zz
  induction zz with
  | zero => intro i hm hle; exact absurd hm (by omega)
  | succ zz ih =>
    intro i hm hle
    refine g_load rfl rfl rfl trivial ?_
    refine g_load rfl rfl rfl trivial ?_
    refine g_icmp_gt rfl (fun c1 => ?_) (fun c1 => ?_)
    · rw [nI_ltI (by omega) (by omega)] at c1
      have hi : i = n := by omega
      subst hi
      refine g_load rfl rfl rfl trivial ?_
      refine g_load rfl rfl rfl trivial ?_
      refine g_imul rfl ?_
      rw [pk_mul]
      exact g_vret rfl trivial ⟨rfl, rfl⟩ (Nat.le_refl _) (Nat.le_refl _) hQ
    · rw [nI_ltI (by omega) (by omega)] at c1
      refine g_load rfl rfl rfl trivial ?_
      refine g_load rfl rfl rfl trivial ?_
      refine g_iconst (nI 1) rfl (by decide) ?_
      have K2 : ∀ e2 : Int32, e2 = nI (lsK v (i + 1)) → rB pr (d) cd_210 (Option.some Jvm.ClassFile.FieldType.int) Q 35 [some (.int (nI n)), some (.int (nI db)), some (.int (bI v)), some (.int (nI (lsS v i))), some (.int (nI (i + 1)))] [.int e2, .int (nI (lsS v i))] u := by
        intro e2 he2
        subst he2
        refine g_iadd rfl ?_
        rw [nI_add]
        refine g_store [some (.int (nI n)), some (.int (nI db)), some (.int (bI v)), some (.int (nI (lsS v (i + 1)))), some (.int (nI (i + 1)))] rfl rfl trivial (Nat.le_of_ble_eq_true rfl) rfl ?_
        refine g_iinc (nI (i + 1 + 1)) [some (.int (nI n)), some (.int (nI db)), some (.int (bI v)), some (.int (nI (lsS v (i + 1)))), some (.int (nI (i + 1 + 1)))] rfl rfl (nI_1 (i + 1)) rfl ?_
        refine g_goto rfl ?_
        exact ih (i + 1) (by omega) (by omega)
      refine g_icmp_ne rfl (fun c2 => ?_) (fun c2 => ?_)
      · rw [nI_eq (by omega) (by omega)] at c2
        have hk1 : ¬ i = 0 := by omega
        refine g_load rfl rfl rfl trivial ?_
        refine g_if_ne rfl (fun c3 => ?_) (fun c3 => ?_)
        · rw [bI_ne] at c3
          subst c3
          refine g_sipush (nI 300) rfl (by decide) ?_
          refine g_goto rfl ?_
          exact K2 _ (by simp [lsK, *])
        · rw [bI_eq] at c3
          subst c3
          refine g_load rfl rfl rfl trivial ?_
          refine g_iconst (nI 3) rfl (by decide) ?_
          refine g_icmp_le rfl (fun c4 => ?_) (fun c4 => ?_)
          · rw [nI_leI (by omega) (by omega)] at c4
            have h3 : ¬ 3 < i + 1 := by omega
            refine g_sipush (nI 200) rfl (by decide) ?_
            exact K2 _ (by simp [lsK, *])
          · rw [nI_leI (by omega) (by omega)] at c4
            have h3 : 3 < i + 1 := by omega
            refine g_sipush (nI 300) rfl (by decide) ?_
            refine g_goto rfl ?_
            exact K2 _ (by simp [lsK, *])
      · rw [nI_eq (by omega) (by omega)] at c2
        have hk1 : i = 0 := by omega
        refine g_load rfl rfl rfl trivial ?_
        refine g_if_eq rfl (fun c5 => ?_) (fun c5 => ?_)
        · rw [bI_eq] at c5
          subst c5
          refine g_bipush (nI 100) rfl (by decide) ?_
          refine g_goto rfl ?_
          exact K2 _ (by simp [lsK, *])
        · rw [bI_ne] at c5
          subst c5
          refine g_sipush (nI 200) rfl (by decide) ?_
          refine g_goto rfl ?_
          exact K2 _ (by simp [lsK, *])
set_option maxRecDepth 20000 in
theorem r_lost {pr : aC} {d : Nat} {u : rS} (n db : Nat) (v : Bool) (hn : n ≤ 13) (hdb : db ≤ 2) {Q : Option Value → rS → Prop} (hQ : Q (some (.int (nI (lsF n db v)))) u) : rR pr (d + 1) 210 [.int (nI n), .int (nI db), .int (bI v)] u Q := by
  refine gR_of mi_210 rFr_rf rfl (Nat.le_of_ble_eq_true rfl) ?_
  show rB pr (d) cd_210 (Option.some Jvm.ClassFile.FieldType.int) Q 0 [some (.int (nI n)), some (.int (nI db)), some (.int (bI v)), none, none] [] u
  refine g_load rfl rfl rfl trivial ?_
  refine g_if_ne rfl (fun c1 => ?_) (fun c1 => ?_)
  · rw [← nI_0, nI_eq (by omega) (by omega)] at c1
    rw [show lsF n db v = lsS v n * db by unfold lsF; rw [if_neg c1]] at hQ
    refine g_iconst (nI 0) rfl (by decide) ?_
    refine g_store [some (.int (nI n)), some (.int (nI db)), some (.int (bI v)), some (.int (nI 0)), none] rfl rfl trivial (Nat.le_of_ble_eq_true rfl) rfl ?_
    refine g_iconst (nI 1) rfl (by decide) ?_
    refine g_store [some (.int (nI n)), some (.int (nI db)), some (.int (bI v)), some (.int (nI 0)), some (.int (nI 1))] rfl rfl trivial (Nat.le_of_ble_eq_true rfl) rfl ?_
    exact r_lost_l n db v hn hdb hQ (n + 1) 0 (by omega) (by omega)
  · rw [← nI_0, nI_eq (by omega) (by omega)] at c1
    rw [show lsF n db v = n * (if v then 100 else 50) by unfold lsF; rw [if_pos c1]] at hQ
    refine g_load rfl rfl rfl trivial ?_
    refine g_load rfl rfl rfl trivial ?_
    refine g_if_eq rfl (fun c2 => ?_) (fun c2 => ?_)
    · rw [bI_eq] at c2
      subst c2
      refine g_bipush (nI 50) rfl (by decide) ?_
      refine g_imul rfl ?_
      rw [pk_mul]
      exact g_vret rfl trivial ⟨rfl, rfl⟩ (Nat.le_refl _) (Nat.le_refl _) hQ
    · rw [bI_ne] at c2
      subst c2
      refine g_bipush (nI 100) rfl (by decide) ?_
      refine g_goto rfl ?_
      refine g_imul rfl ?_
      rw [pk_mul]
      exact g_vret rfl trivial ⟨rfl, rfl⟩ (Nat.le_refl _) (Nat.le_refl _) hQ
/-- a contract's score: level lv (1 .. 7), strain sr (0 .. 4), db 0 .. 2, tricks tk (0 .. 13) -/
def scE (sr : Nat) : Nat := if sr < 2 then 20 else 30
def sc1 (lv sr db : Nat) : Nat := (lv * scE sr + (if sr = 4 then 10 else 0)) * (if db = 0 then 1 else 2 * db)
def sc2 (lv sr db : Nat) (v : Bool) : Nat := sc1 lv sr db + (if sc1 lv sr db < 100 then 50 else if v then 500 else 300)
def sc3 (lv sr db : Nat) (v : Bool) : Nat := sc2 lv sr db v + (if lv = 6 then (if v then 750 else 500) else 0)
def sc4 (lv sr db : Nat) (v : Bool) : Nat := sc3 lv sr db v + (if lv = 7 then (if v then 1500 else 1000) else 0)
def scM (sr db : Nat) (v : Bool) : Nat := if db = 0 then scE sr else (if v then 200 else 100) * db
def scF (lv sr db : Nat) (v : Bool) (tk : Nat) : Int32 := if tk < lv + 6 then -nI (lsF (lv + 6 - tk) db v) else nI (sc4 lv sr db v + 50 * db + (tk - lv - 6) * scM sr db v)
theorem scE_le (sr : Nat) : scE sr ≤ 30 := by unfold scE; split <;> omega
theorem sc1_le {lv sr db : Nat} (h1 : lv ≤ 7) (h3 : db ≤ 2) : sc1 lv sr db ≤ 880 := by
  have := scE_le sr
  have h : lv * scE sr ≤ 7 * 30 := Nat.mul_le_mul h1 this
  unfold sc1
  rcases (show db = 0 ∨ db = 1 ∨ db = 2 by omega) with rfl | rfl | rfl <;> split <;> simp <;> omega
theorem sc2_le {lv sr db : Nat} {v : Bool} (h1 : lv ≤ 7) (h3 : db ≤ 2) : sc2 lv sr db v ≤ 1400 := by
  have := sc1_le (sr := sr) h1 h3
  unfold sc2; split <;> (try split) <;> omega
set_option maxRecDepth 20000 in
theorem r_score_d {pr : aC} {d : Nat} {u : rS} (lv sr db tk : Nat) (v : Bool) (h1 : 1 ≤ lv ∧ lv ≤ 7) (h2 : sr ≤ 4) (h3 : db ≤ 2) (h5 : tk ≤ 13) (hov : lv + 6 ≤ tk) {Q : Option Value → rS → Prop} (hQ : Q (some (.int (nI (sc4 lv sr db v + 50 * db + (tk - lv - 6) * scM sr db v)))) u) : rB pr (d) cd_209 (Option.some Jvm.ClassFile.FieldType.int) Q 98 [some (.ref 25), some (.int (nI lv)), some (.int (nI sr)), some (.int (nI db)), some (.int (bI v)), some (.int (nI tk)), some (.int (nI (tk - lv - 6))), some (.int (nI (scE sr))), some (.int (nI (sc4 lv sr db v))), none] [] u := by
  refine g_load rfl rfl rfl trivial ?_
  refine g_bipush (nI 50) rfl (by decide) ?_
  refine g_load rfl rfl rfl trivial ?_
  refine g_imul rfl ?_
  refine g_iadd rfl ?_
  rw [pk_mul, nI_add]
  refine g_store [some (.ref 25), some (.int (nI lv)), some (.int (nI sr)), some (.int (nI db)), some (.int (bI v)), some (.int (nI tk)), some (.int (nI (tk - lv - 6))), some (.int (nI (scE sr))), some (.int (nI (sc4 lv sr db v + 50 * db))), none] rfl rfl trivial (Nat.le_of_ble_eq_true rfl) rfl ?_
  refine g_load rfl rfl rfl trivial ?_
  have K1 : ∀ e1 : Int32, e1 = nI (scM sr db v) → rB pr (d) cd_209 (Option.some Jvm.ClassFile.FieldType.int) Q 115 [some (.ref 25), some (.int (nI lv)), some (.int (nI sr)), some (.int (nI db)), some (.int (bI v)), some (.int (nI tk)), some (.int (nI (tk - lv - 6))), some (.int (nI (scE sr))), some (.int (nI (sc4 lv sr db v + 50 * db))), none] [.int e1] u := by
    intro e1 he1
    subst he1
    refine g_store [some (.ref 25), some (.int (nI lv)), some (.int (nI sr)), some (.int (nI db)), some (.int (bI v)), some (.int (nI tk)), some (.int (nI (tk - lv - 6))), some (.int (nI (scE sr))), some (.int (nI (sc4 lv sr db v + 50 * db))), some (.int (nI (scM sr db v)))] rfl rfl trivial (Nat.le_of_ble_eq_true rfl) rfl ?_
    refine g_load rfl rfl rfl trivial ?_
    refine g_load rfl rfl rfl trivial ?_
    refine g_load rfl rfl rfl trivial ?_
    refine g_imul rfl ?_
    refine g_iadd rfl ?_
    rw [pk_mul, nI_add]
    exact g_vret rfl trivial ⟨rfl, rfl⟩ (Nat.le_refl _) (Nat.le_refl _) hQ
  refine g_if_ne rfl (fun c1 => ?_) (fun c1 => ?_)
  · rw [← nI_0, nI_eq (by omega) (by omega)] at c1
    refine g_load rfl rfl rfl trivial ?_
    refine g_if_eq rfl (fun c2 => ?_) (fun c2 => ?_)
    · rw [bI_eq] at c2
      subst c2
      refine g_bipush (nI 100) rfl (by decide) ?_
      refine g_load rfl rfl rfl trivial ?_
      refine g_imul rfl ?_
      exact K1 _ (by simp [scM, *, pk_mul])
    · rw [bI_ne] at c2
      subst c2
      refine g_sipush (nI 200) rfl (by decide) ?_
      refine g_goto rfl ?_
      refine g_load rfl rfl rfl trivial ?_
      refine g_imul rfl ?_
      exact K1 _ (by simp [scM, *, pk_mul])
  · rw [← nI_0, nI_eq (by omega) (by omega)] at c1
    refine g_load rfl rfl rfl trivial ?_
    refine g_goto rfl ?_
    exact K1 _ (by simp [scM, *, pk_mul])
set_option maxRecDepth 20000 in
theorem r_score_c {pr : aC} {d : Nat} {u : rS} (lv sr db tk : Nat) (v : Bool) (h1 : 1 ≤ lv ∧ lv ≤ 7) (h2 : sr ≤ 4) (h3 : db ≤ 2) (h5 : tk ≤ 13) (hov : lv + 6 ≤ tk) {Q : Option Value → rS → Prop} (hQ : Q (some (.int (nI (sc4 lv sr db v + 50 * db + (tk - lv - 6) * scM sr db v)))) u) : rB pr (d) cd_209 (Option.some Jvm.ClassFile.FieldType.int) Q 87 [some (.ref 25), some (.int (nI lv)), some (.int (nI sr)), some (.int (nI db)), some (.int (bI v)), some (.int (nI tk)), some (.int (nI (tk - lv - 6))), some (.int (nI (scE sr))), some (.int (nI (sc3 lv sr db v))), none] [] u := by
  refine g_load rfl rfl rfl trivial ?_
  refine g_bipush (nI 7) rfl (by decide) ?_
  refine g_icmp_ne rfl (fun c1 => ?_) (fun c1 => ?_)
  · rw [nI_eq (by omega) (by omega)] at c1
    rw [show sc3 lv sr db v = sc4 lv sr db v by simp [sc4, c1]]
    exact r_score_d lv sr db tk v h1 h2 h3 h5 hov hQ
  · rw [nI_eq (by omega) (by omega)] at c1
    refine g_load rfl rfl rfl trivial ?_
    refine g_load rfl rfl rfl trivial ?_
    have K2 : ∀ e2 : Int32, e2 = nI (if v then 1500 else 1000) → rB pr (d) cd_209 (Option.some Jvm.ClassFile.FieldType.int) Q 96 [some (.ref 25), some (.int (nI lv)), some (.int (nI sr)), some (.int (nI db)), some (.int (bI v)), some (.int (nI tk)), some (.int (nI (tk - lv - 6))), some (.int (nI (scE sr))), some (.int (nI (sc3 lv sr db v))), none] [.int e2, .int (nI (sc3 lv sr db v))] u := by
      intro e2 he2
      subst he2
      refine g_iadd rfl ?_
      rw [nI_add, show sc3 lv sr db v + (if v then 1500 else 1000) = sc4 lv sr db v by simp [sc4, c1]]
      refine g_store [some (.ref 25), some (.int (nI lv)), some (.int (nI sr)), some (.int (nI db)), some (.int (bI v)), some (.int (nI tk)), some (.int (nI (tk - lv - 6))), some (.int (nI (scE sr))), some (.int (nI (sc4 lv sr db v))), none] rfl rfl trivial (Nat.le_of_ble_eq_true rfl) rfl ?_
      exact r_score_d lv sr db tk v h1 h2 h3 h5 hov hQ
    refine g_if_eq rfl (fun c2 => ?_) (fun c2 => ?_)
    · rw [bI_eq] at c2
      subst c2
      refine g_sipush (nI 1000) rfl (by decide) ?_
      exact K2 _ (by simp [*])
    · rw [bI_ne] at c2
      subst c2
      refine g_sipush (nI 1500) rfl (by decide) ?_
      refine g_goto rfl ?_
      exact K2 _ (by simp [*])
set_option maxRecDepth 20000 in
theorem r_score_b {pr : aC} {d : Nat} {u : rS} (lv sr db tk : Nat) (v : Bool) (h1 : 1 ≤ lv ∧ lv ≤ 7) (h2 : sr ≤ 4) (h3 : db ≤ 2) (h5 : tk ≤ 13) (hov : lv + 6 ≤ tk) {Q : Option Value → rS → Prop} (hQ : Q (some (.int (nI (sc4 lv sr db v + 50 * db + (tk - lv - 6) * scM sr db v)))) u) : rB pr (d) cd_209 (Option.some Jvm.ClassFile.FieldType.int) Q 37 [some (.ref 25), some (.int (nI lv)), some (.int (nI sr)), some (.int (nI db)), some (.int (bI v)), some (.int (nI tk)), some (.int (nI (tk - lv - 6))), none, none, none] [] u := by
  refine g_load rfl rfl rfl trivial ?_
  refine g_iconst (nI 2) rfl (by decide) ?_
  have K1 : ∀ e1 : Int32, e1 = nI (scE sr) → rB pr (d) cd_209 (Option.some Jvm.ClassFile.FieldType.int) Q 43 [some (.ref 25), some (.int (nI lv)), some (.int (nI sr)), some (.int (nI db)), some (.int (bI v)), some (.int (nI tk)), some (.int (nI (tk - lv - 6))), none, none, none] [.int e1] u := by
    intro e1 he1
    subst he1
    refine g_store [some (.ref 25), some (.int (nI lv)), some (.int (nI sr)), some (.int (nI db)), some (.int (bI v)), some (.int (nI tk)), some (.int (nI (tk - lv - 6))), some (.int (nI (scE sr))), none, none] rfl rfl trivial (Nat.le_of_ble_eq_true rfl) rfl ?_
    refine g_load rfl rfl rfl trivial ?_
    refine g_load rfl rfl rfl trivial ?_
    refine g_imul rfl ?_
    refine g_load rfl rfl rfl trivial ?_
    refine g_iconst (nI 4) rfl (by decide) ?_
    have K2 : ∀ e2 : Int32, e2 = nI (if sr = 4 then 10 else 0) → rB pr (d) cd_209 (Option.some Jvm.ClassFile.FieldType.int) Q 53 [some (.ref 25), some (.int (nI lv)), some (.int (nI sr)), some (.int (nI db)), some (.int (bI v)), some (.int (nI tk)), some (.int (nI (tk - lv - 6))), some (.int (nI (scE sr))), none, none] [.int e2, .int ((nI lv) * (nI (scE sr)))] u := by
      intro e2 he2
      subst he2
      refine g_iadd rfl ?_
      refine g_load rfl rfl rfl trivial ?_
      have K3 : ∀ e3 : Int32, e3 = nI (if db = 0 then 1 else 2 * db) → rB pr (d) cd_209 (Option.some Jvm.ClassFile.FieldType.int) Q 61 [some (.ref 25), some (.int (nI lv)), some (.int (nI sr)), some (.int (nI db)), some (.int (bI v)), some (.int (nI tk)), some (.int (nI (tk - lv - 6))), some (.int (nI (scE sr))), none, none] [.int e3, .int (((nI lv) * (nI (scE sr))) + (nI (if sr = 4 then 10 else 0)))] u := by
        intro e3 he3
        subst he3
        refine g_imul rfl ?_
        rw [pk_mul, nI_add, pk_mul]
        refine g_store [some (.ref 25), some (.int (nI lv)), some (.int (nI sr)), some (.int (nI db)), some (.int (bI v)), some (.int (nI tk)), some (.int (nI (tk - lv - 6))), some (.int (nI (scE sr))), some (.int (nI (sc1 lv sr db))), none] rfl rfl trivial (Nat.le_of_ble_eq_true rfl) rfl ?_
        refine g_load rfl rfl rfl trivial ?_
        refine g_load rfl rfl rfl trivial ?_
        refine g_bipush (nI 100) rfl (by decide) ?_
        have K4 : ∀ e4 : Int32, e4 = nI (if sc1 lv sr db < 100 then 50 else if v then 500 else 300) → rB pr (d) cd_209 (Option.some Jvm.ClassFile.FieldType.int) Q 74 [some (.ref 25), some (.int (nI lv)), some (.int (nI sr)), some (.int (nI db)), some (.int (bI v)), some (.int (nI tk)), some (.int (nI (tk - lv - 6))), some (.int (nI (scE sr))), some (.int (nI (sc1 lv sr db))), none] [.int e4, .int (nI (sc1 lv sr db))] u := by
          intro e4 he4
          subst he4
          refine g_iadd rfl ?_
          rw [nI_add]
          refine g_store [some (.ref 25), some (.int (nI lv)), some (.int (nI sr)), some (.int (nI db)), some (.int (bI v)), some (.int (nI tk)), some (.int (nI (tk - lv - 6))), some (.int (nI (scE sr))), some (.int (nI (sc2 lv sr db v))), none] rfl rfl trivial (Nat.le_of_ble_eq_true rfl) rfl ?_
          refine g_load rfl rfl rfl trivial ?_
          refine g_bipush (nI 6) rfl (by decide) ?_
          refine g_icmp_ne rfl (fun c5 => ?_) (fun c5 => ?_)
          · rw [nI_eq (by omega) (by omega)] at c5
            rw [show sc2 lv sr db v = sc3 lv sr db v by simp [sc3, c5]]
            exact r_score_c lv sr db tk v h1 h2 h3 h5 hov hQ
          · rw [nI_eq (by omega) (by omega)] at c5
            refine g_load rfl rfl rfl trivial ?_
            refine g_load rfl rfl rfl trivial ?_
            have K6 : ∀ e6 : Int32, e6 = nI (if v then 750 else 500) → rB pr (d) cd_209 (Option.some Jvm.ClassFile.FieldType.int) Q 85 [some (.ref 25), some (.int (nI lv)), some (.int (nI sr)), some (.int (nI db)), some (.int (bI v)), some (.int (nI tk)), some (.int (nI (tk - lv - 6))), some (.int (nI (scE sr))), some (.int (nI (sc2 lv sr db v))), none] [.int e6, .int (nI (sc2 lv sr db v))] u := by
              intro e6 he6
              subst he6
              refine g_iadd rfl ?_
              rw [nI_add, show sc2 lv sr db v + (if v then 750 else 500) = sc3 lv sr db v by simp [sc3, *]]
              refine g_store [some (.ref 25), some (.int (nI lv)), some (.int (nI sr)), some (.int (nI db)), some (.int (bI v)), some (.int (nI tk)), some (.int (nI (tk - lv - 6))), some (.int (nI (scE sr))), some (.int (nI (sc3 lv sr db v))), none] rfl rfl trivial (Nat.le_of_ble_eq_true rfl) rfl ?_
              exact r_score_c lv sr db tk v h1 h2 h3 h5 hov hQ
            refine g_if_eq rfl (fun c6 => ?_) (fun c6 => ?_)
            · rw [bI_eq] at c6
              subst c6
              refine g_sipush (nI 500) rfl (by decide) ?_
              exact K6 _ (by simp [*])
            · rw [bI_ne] at c6
              subst c6
              refine g_sipush (nI 750) rfl (by decide) ?_
              refine g_goto rfl ?_
              exact K6 _ (by simp [*])
        refine g_icmp_ge rfl (fun c4 => ?_) (fun c4 => ?_)
        · have hs1 := sc1_le (sr := sr) h1.2 h3
          rw [nI_leI (by omega) (by omega)] at c4
          refine g_load rfl rfl rfl trivial ?_
          refine g_if_eq rfl (fun c7 => ?_) (fun c7 => ?_)
          · rw [bI_eq] at c7
            subst c7
            refine g_sipush (nI 300) rfl (by decide) ?_
            exact K4 _ (by first | (rw [if_neg (by omega)]; simp [*]; done) | (rw [if_pos (by omega)]))
          · rw [bI_ne] at c7
            subst c7
            refine g_sipush (nI 500) rfl (by decide) ?_
            refine g_goto rfl ?_
            exact K4 _ (by first | (rw [if_neg (by omega)]; simp [*]; done) | (rw [if_pos (by omega)]))
        · have hs1 := sc1_le (sr := sr) h1.2 h3
          rw [nI_leI (by omega) (by omega)] at c4
          refine g_bipush (nI 50) rfl (by decide) ?_
          refine g_goto rfl ?_
          exact K4 _ (by first | (rw [if_neg (by omega)]; simp [*]; done) | (rw [if_pos (by omega)]))
      refine g_if_ne rfl (fun c3 => ?_) (fun c3 => ?_)
      · rw [← nI_0, nI_eq (by omega) (by omega)] at c3
        refine g_iconst (nI 2) rfl (by decide) ?_
        refine g_load rfl rfl rfl trivial ?_
        refine g_imul rfl ?_
        exact K3 _ (by simp [*, pk_mul])
      · rw [← nI_0, nI_eq (by omega) (by omega)] at c3
        refine g_iconst (nI 1) rfl (by decide) ?_
        refine g_goto rfl ?_
        exact K3 _ (by simp [*, pk_mul])
    refine g_icmp_ne rfl (fun c2 => ?_) (fun c2 => ?_)
    · rw [nI_eq (by omega) (by omega)] at c2
      refine g_iconst (nI 0) rfl (by decide) ?_
      exact K2 _ (by simp [*])
    · rw [nI_eq (by omega) (by omega)] at c2
      refine g_bipush (nI 10) rfl (by decide) ?_
      refine g_goto rfl ?_
      exact K2 _ (by simp [*])
  refine g_icmp_ge rfl (fun c1 => ?_) (fun c1 => ?_)
  · rw [nI_leI (by omega) (by omega)] at c1
    refine g_bipush (nI 30) rfl (by decide) ?_
    exact K1 _ (by unfold scE; first | rw [if_neg (by omega)] | rw [if_pos (by omega)])
  · rw [nI_leI (by omega) (by omega)] at c1
    refine g_bipush (nI 20) rfl (by decide) ?_
    refine g_goto rfl ?_
    exact K1 _ (by unfold scE; first | rw [if_neg (by omega)] | rw [if_pos (by omega)])
def scOk (lv sr db tk : Int32) : Bool := inF lv 1 7 && (inF sr 0 4 && (inF db 0 2 && inF tk 0 13))
def scG (lv sr db : Int32) (v : Bool) (tk : Int32) : Int32 := if scOk lv sr db tk then scF lv.toNatClampNeg sr.toNatClampNeg db.toNatClampNeg v tk.toNatClampNeg else -2147483648
theorem in_of {x a b : Int32} {n m : Nat} (h : inF x a b = true) (ha : a = nI n) (hb : b = nI m) (hm : m < 2 ^ 31) (hn : n < 2 ^ 31) : ∃ y, n ≤ y ∧ y ≤ m ∧ x = nI y := by
  subst ha; subst hb
  simp only [inF, Bool.and_eq_true, decide_eq_true_eq, Int32.le_iff_toInt_le, nI_toInt hm, nI_toInt hn] at h
  obtain ⟨j, hj, rfl⟩ := nI_of (x := x) (by rw [Int32.lt_iff_toInt_lt, show (0 : Int32).toInt = 0 by decide]; omega)
  rw [nI_toInt hj] at h
  exact ⟨j, by omega, by omega, rfl⟩

set_option maxRecDepth 20000 in
theorem r_score {pr : aC} {d : Nat} {u : rS} (lv sr db tk : Int32) (v : Bool) {Q : Option Value → rS → Prop} (hQ : Q (some (.int (scG lv sr db v tk))) u) : rR pr (d + 1 + 1) 209 [.ref 25, .int lv, .int sr, .int db, .int (bI v), .int tk] u Q := by
  refine gR_of mi_209 rFr_rf rfl (Nat.le_of_ble_eq_true rfl) ?_
  show rB pr (d + 1) cd_209 (Option.some Jvm.ClassFile.FieldType.int) Q 0 [some (.ref 25), some (.int lv), some (.int sr), some (.int db), some (.int (bI v)), some (.int tk), none, none, none, none] [] u
  refine g_load rfl rfl rfl trivial ?_
  refine g_iconst (nI 1) rfl (by decide) ?_
  refine g_bipush (nI 7) rfl (by decide) ?_
  refine g_statI [.int lv, .int (nI 1), .int (nI 7)] rFr_tr rfl rfl rfl (Nat.le_of_ble_eq_true rfl) (Nat.le_refl _) (Nat.le_refl _) (r_in lv 1 7 ⟨_, rfl, ?_⟩)
  refine g_if_eq rfl (fun c1 => ?_) (fun c1 => ?_)
  · rw [bI_eq] at c1
    rw [show scG lv sr db v tk = -2147483648 by simp [scG, scOk, *]] at hQ
    refine g_ldc (-2147483648) rfl ⟨_, Or.inl rfl⟩ (by decide) ?_
    refine g_vret rfl trivial ⟨rfl, rfl⟩ (Nat.le_refl _) (Nat.le_refl _) ?_
    exact hQ
  · rw [bI_ne] at c1
    refine g_load rfl rfl rfl trivial ?_
    refine g_iconst (nI 0) rfl (by decide) ?_
    refine g_iconst (nI 4) rfl (by decide) ?_
    refine g_statI [.int sr, .int (nI 0), .int (nI 4)] rFr_tr rfl rfl rfl (Nat.le_of_ble_eq_true rfl) (Nat.le_refl _) (Nat.le_refl _) (r_in sr 0 4 ⟨_, rfl, ?_⟩)
    refine g_if_eq rfl (fun c2 => ?_) (fun c2 => ?_)
    · rw [bI_eq] at c2
      rw [show scG lv sr db v tk = -2147483648 by simp [scG, scOk, *]] at hQ
      refine g_ldc (-2147483648) rfl ⟨_, Or.inl rfl⟩ (by decide) ?_
      refine g_vret rfl trivial ⟨rfl, rfl⟩ (Nat.le_refl _) (Nat.le_refl _) ?_
      exact hQ
    · rw [bI_ne] at c2
      refine g_load rfl rfl rfl trivial ?_
      refine g_iconst (nI 0) rfl (by decide) ?_
      refine g_iconst (nI 2) rfl (by decide) ?_
      refine g_statI [.int db, .int (nI 0), .int (nI 2)] rFr_tr rfl rfl rfl (Nat.le_of_ble_eq_true rfl) (Nat.le_refl _) (Nat.le_refl _) (r_in db 0 2 ⟨_, rfl, ?_⟩)
      refine g_if_eq rfl (fun c3 => ?_) (fun c3 => ?_)
      · rw [bI_eq] at c3
        rw [show scG lv sr db v tk = -2147483648 by simp [scG, scOk, *]] at hQ
        refine g_ldc (-2147483648) rfl ⟨_, Or.inl rfl⟩ (by decide) ?_
        refine g_vret rfl trivial ⟨rfl, rfl⟩ (Nat.le_refl _) (Nat.le_refl _) ?_
        exact hQ
      · rw [bI_ne] at c3
        refine g_load rfl rfl rfl trivial ?_
        refine g_iconst (nI 0) rfl (by decide) ?_
        refine g_bipush (nI 13) rfl (by decide) ?_
        refine g_statI [.int tk, .int (nI 0), .int (nI 13)] rFr_tr rfl rfl rfl (Nat.le_of_ble_eq_true rfl) (Nat.le_refl _) (Nat.le_refl _) (r_in tk 0 13 ⟨_, rfl, ?_⟩)
        refine g_if_ne rfl (fun c4 => ?_) (fun c4 => ?_)
        · rw [bI_ne] at c4
          rw [show scG lv sr db v tk = scF lv.toNatClampNeg sr.toNatClampNeg db.toNatClampNeg v tk.toNatClampNeg by simp [scG, scOk, *]] at hQ
          obtain ⟨lv', l1, l2, rfl⟩ := in_of (n := 1) (m := 7) c1 (by decide) (by decide) (by decide) (by decide)
          obtain ⟨sr', s1, s2, rfl⟩ := in_of (n := 0) (m := 4) c2 (by decide) (by decide) (by decide) (by decide)
          obtain ⟨db', d1, d2, rfl⟩ := in_of (n := 0) (m := 2) c3 (by decide) (by decide) (by decide) (by decide)
          obtain ⟨tk', t1, t2, rfl⟩ := in_of (n := 0) (m := 13) c4 (by decide) (by decide) (by decide) (by decide)
          rw [nI_clamp (by omega), nI_clamp (by omega), nI_clamp (by omega), nI_clamp (by omega)] at hQ
          by_cases hov : lv' + 6 ≤ tk'
          · refine g_load rfl rfl rfl trivial ?_
            refine g_load rfl rfl rfl trivial ?_
            refine g_isub rfl ?_
            refine g_bipush (nI 6) rfl (by decide) ?_
            refine g_isub rfl ?_
            rw [pk_sub (by omega), pk_sub (by omega)]
            refine g_store [some (.ref 25), some (.int (nI lv')), some (.int (nI sr')), some (.int (nI db')), some (.int (bI v)), some (.int (nI tk')), some (.int (nI (tk' - lv' - 6))), none, none, none] rfl rfl trivial (Nat.le_of_ble_eq_true rfl) rfl ?_
            refine g_load rfl rfl rfl trivial ?_
            refine g_if_ge rfl (fun c5 => ?_) (fun c5 => absurd (nI_pos' (by omega)) c5)
            rw [show scF lv' sr' db' v tk' = nI (sc4 lv' sr' db' v + 50 * db' + (tk' - lv' - 6) * scM sr' db' v) by unfold scF; rw [if_neg (by omega)]] at hQ
            exact r_score_b lv' sr' db' tk' v ⟨l1, l2⟩ s2 d2 t2 hov hQ
          · have hx : nI tk' - nI lv' - nI 6 = -nI (lv' + 6 - tk') := (by decide +kernel : ∀ a, a < 14 → ∀ b, b < 8 → ¬ b + 6 ≤ a → nI a - nI b - nI 6 = -nI (b + 6 - a)) tk' (by omega) lv' (by omega) hov
            refine g_load rfl rfl rfl trivial ?_
            refine g_load rfl rfl rfl trivial ?_
            refine g_isub rfl ?_
            refine g_bipush (nI 6) rfl (by decide) ?_
            refine g_isub rfl ?_
            rw [hx]
            refine g_store [some (.ref 25), some (.int (nI lv')), some (.int (nI sr')), some (.int (nI db')), some (.int (bI v)), some (.int (nI tk')), some (.int (-nI (lv' + 6 - tk'))), none, none, none] rfl rfl trivial (Nat.le_of_ble_eq_true rfl) rfl ?_
            refine g_load rfl rfl rfl trivial ?_
            refine g_if_ge rfl (fun c5 => ?_) (fun c5 => ?_)
            · exfalso
              rw [Int32.le_iff_toInt_le, sb_negT (by omega), show (0 : Int32).toInt = 0 by decide] at c5
              omega
            · refine g_load rfl rfl rfl trivial ?_
              refine g_ineg rfl ?_
              rw [Int32.neg_neg]
              refine g_load rfl rfl rfl trivial ?_
              refine g_load rfl rfl rfl trivial ?_
              refine g_statI [.int (nI (lv' + 6 - tk')), .int (nI db'), .int (bI v)] rFr_tr rfl rfl rfl (Nat.le_of_ble_eq_true rfl) (Nat.le_refl _) (Nat.le_refl _) (r_lost (lv' + 6 - tk') db' v (by omega) d2 ⟨_, rfl, ?_⟩)
              refine g_ineg rfl ?_
              rw [show scF lv' sr' db' v tk' = -nI (lsF (lv' + 6 - tk') db' v) by unfold scF; rw [if_pos (by omega)]] at hQ
              exact g_vret rfl trivial ⟨rfl, rfl⟩ (Nat.le_refl _) (Nat.le_refl _) hQ
        · rw [bI_eq] at c4
          rw [show scG lv sr db v tk = -2147483648 by simp [scG, scOk, *]] at hQ
          refine g_ldc (-2147483648) rfl ⟨_, Or.inl rfl⟩ (by decide) ?_
          refine g_vret rfl trivial ⟨rfl, rfl⟩ (Nat.le_refl _) (Nat.le_refl _) ?_
          exact hQ
end
section
/-! ===== the reference: play, second part ===== -/
theorem rSame_hand {u u' : rS} (h : rSame u u') (b c : Int32) : handF u' b c = handF u b c := by
  unfold handF isBd; rw [h.1, h.2.2.2 26 (by decide)]
theorem rSame_hd {u u' : rS} (h : rSame u u') (t m : Nat) (s c : Int32) : hdF u' t m s c = hdF u t m s c := by
  unfold hdF; rw [rSame_hand h, rSame_gf h, h.2.2.2 29 (by decide)]
def cN (g : Nat → Int32) (i : Nat) : Nat := (g i).toNatClampNeg
/-- the cards are cards -/
def cdOk (g : Nat → Int32) (m : Nat) : Prop := ∀ i, i < m → cN g i < 52 ∧ g i = nI (cN g i)
def seatF (u : rS) (t b bd m : Nat) : Nat := (ldF (gf u t) (stF (cf u t) b) ((dcN (cf u t) (bd % 4) b + 1) % 4) (m / 4) + m % 4) % 4
def mpF (u : rS) (t m s : Nat) (c : Int32) : Bool := isCd c && (hdF u t m (nI s) c && (decide (m % 4 = 0) || (decide (c / nI 13 = nI (cN (gf u t) (4 * (m / 4)) / 13)) || !(anyN (fun k => hdF u t m (nI s) (nI (13 * (cN (gf u t) (4 * (m / 4)) / 13) + k))) 13))))
set_option maxRecDepth 20000 in
theorem r_mayPlay_l {pr : aC} {d : Nat} {u u1 : rS} (t m nb s L : Nat) (c : Int32) (hS : rSame u u1) (ht : t < 10) (h0 : u.1 0 = nI nb) (hnb : nb ≤ 36) (hm0 : u.2 32 t = nI m) (hm52 : m ≤ 52) (hL : L < 4) {Q : Option Value → rS → Prop} (hQ : Q (some (.int (bI (!(anyN (fun k => hdF u t m (nI s) (nI (13 * L + k))) 13))))) u1) : ∀ (zz : Nat) (i : Nat) (hm : 13 - i < zz) (hle : i ≤ 13) (hinv : ∀ x, x < i → hdF u t m (nI s) (nI (13 * L + x)) = false), rB pr (d + 4) cd_192 (Option.some Jvm.ClassFile.FieldType.boolean) Q 47 [some (.ref 25), some (.int (nI t)), some (.int c), some (.int (nI s)), some (.int (nI L)), some (.int (nI (13 * L + i)))] [] u1 := by
  intro zz
  induction zz with
  | zero => intro i hm hle hinv; exact absurd hm (by omega)
  | succ zz ih =>
    intro i hm hle hinv
    refine g_load rfl rfl rfl trivial ?_
    refine g_bipush (nI 13) rfl (by decide) ?_
    refine g_load rfl rfl rfl trivial ?_
    refine g_imul rfl ?_
    refine g_bipush (nI 13) rfl (by decide) ?_
    refine g_iadd rfl ?_
    rw [pk_mul, nI_add]
    refine g_icmp_ge rfl (fun c1 => ?_) (fun c1 => ?_)
    · rw [nI_leI (by omega) (by omega)] at c1
      rw [anyN_f (fun x h => hinv x (by omega))] at hQ
      refine g_iconst (nI 1) rfl (by decide) ?_
      exact g_vret rfl trivial ⟨by decide, by decide⟩ (Nat.le_refl _) (Nat.le_refl _) hQ
    rw [nI_leI (by omega) (by omega)] at c1
    refine g_load rfl rfl rfl trivial ?_
    refine g_load rfl rfl rfl trivial ?_
    refine g_load rfl rfl rfl trivial ?_
    refine g_load rfl rfl rfl trivial ?_
    refine g_virtI (a := 25) (ci := 8) (n := 3) [.int (nI t), .int (nI s), .int (nI (13 * L + i))] rFr_tr rfl rfl (by decide) rfl r_this rfl (Nat.le_of_ble_eq_true rfl) (Nat.le_refl _) (Nat.le_refl _) (r_holds t m nb (nI s) (nI (13 * L + i)) ht (hS.1.trans h0) hnb (by rw [hS.2.2.2 32 (by decide)]; exact hm0) hm52 ⟨_, rfl, ?_⟩)
    refine g_if_eq rfl (fun c1 => ?_) (fun c1 => ?_)
    · rw [bI_eq, rSame_hd hS] at c1
      have hf := c1
      refine g_iinc (nI (13 * L + (i + 1))) [some (.ref 25), some (.int (nI t)), some (.int c), some (.int (nI s)), some (.int (nI L)), some (.int (nI (13 * L + (i + 1))))] rfl rfl (nI_1 (13 * L + i)) rfl ?_
      refine g_goto rfl ?_
      exact ih (i + 1) (by omega) (by omega) (fun x hx => by
        rcases Nat.lt_succ_iff_lt_or_eq.mp hx with h | h
        · exact hinv x h
        · exact h ▸ hf)
    · rw [bI_ne, rSame_hd hS] at c1
      rw [anyN_t (i := i) (by omega) c1] at hQ
      refine g_iconst (nI 0) rfl (by decide) ?_
      refine g_vret rfl trivial (by first | exact ⟨by decide, by decide⟩ | trivial) (Nat.le_refl _) (Nat.le_refl _) ?_
      exact hQ
set_option maxRecDepth 20000 in
theorem r_mayPlay_2 {pr : aC} {d : Nat} {u u1 : rS} (t m nb s : Nat) (c : Int32) (hS : rSame u u1) (h26 : u1.1 26 = nI (4 * (m / 4))) (ht : t < 10) (h0 : u.1 0 = nI nb) (hnb : nb ≤ 36) (hm0 : u.2 32 t = nI m) (hm52 : m ≤ 52) (hm4 : ¬ m % 4 = 0) (hck : cdOk (gf u t) m) {Q : Option Value → rS → Prop} (hQ : Q (some (.int (bI (decide (c / nI 13 = nI (cN (gf u t) (4 * (m / 4)) / 13)) || !(anyN (fun k => hdF u t m (nI s) (nI (13 * (cN (gf u t) (4 * (m / 4)) / 13) + k))) 13))))) u1) : rB pr (d + 4) cd_192 (Option.some Jvm.ClassFile.FieldType.boolean) Q 26 [some (.ref 25), some (.int (nI t)), some (.int c), some (.int (nI s)), none, none] [] u1 := by
  have hcd := hck (4 * (m / 4)) (by omega)
  refine g_load rfl rfl rfl trivial ?_
  refine r_getf rfl rfl ?_
  refine g_bipush (nI 52) rfl (by decide) ?_
  refine g_load rfl rfl rfl trivial ?_
  refine g_imul rfl ?_
  refine g_load rfl rfl rfl trivial ?_
  refine r_getf rfl rfl ?_
  refine g_iadd rfl ?_
  refine r_ia (52 * t + 4 * (m / 4)) rfl ⟨by decide, by decide, rfl⟩ (by rw [h26, pk_mul, nI_add]) (by show _ < 520; omega) ?_
  rw [show u1.2 34 (52 * t + 4 * (m / 4)) = nI (cN (gf u t) (4 * (m / 4))) by rw [← hcd.2, hS.2.2.2 34 (by decide)]; rfl]
  refine g_statI [.int (nI (cN (gf u t) (4 * (m / 4))))] rFr_tr rfl rfl rfl (Nat.le_of_ble_eq_true rfl) (Nat.le_refl _) (Nat.le_refl _) (r_suit (nI (cN (gf u t) (4 * (m / 4)))) ⟨_, rfl, ?_⟩)
  rw [pk_div (by omega) (by omega) (by omega)]
  refine g_store [some (.ref 25), some (.int (nI t)), some (.int c), some (.int (nI s)), some (.int (nI (cN (gf u t) (4 * (m / 4)) / 13))), none] rfl rfl trivial (Nat.le_of_ble_eq_true rfl) rfl ?_
  refine g_load rfl rfl rfl trivial ?_
  refine g_statI [.int c] rFr_tr rfl rfl rfl (Nat.le_of_ble_eq_true rfl) (Nat.le_refl _) (Nat.le_refl _) (r_suit c ⟨_, rfl, ?_⟩)
  refine g_load rfl rfl rfl trivial ?_
  refine g_icmp_ne rfl (fun c1 => ?_) (fun c1 => ?_)
  · rw [decide_eq_false c1, Bool.false_or] at hQ
    refine g_bipush (nI 13) rfl (by decide) ?_
    refine g_load rfl rfl rfl trivial ?_
    refine g_imul rfl ?_
    rw [pk_mul]
    refine g_store [some (.ref 25), some (.int (nI t)), some (.int c), some (.int (nI s)), some (.int (nI (cN (gf u t) (4 * (m / 4)) / 13))), some (.int (nI (13 * (cN (gf u t) (4 * (m / 4)) / 13) + 0)))] rfl rfl trivial (Nat.le_of_ble_eq_true rfl) rfl ?_
    exact r_mayPlay_l t m nb s (cN (gf u t) (4 * (m / 4)) / 13) c hS ht h0 hnb hm0 hm52 (by omega) hQ 14 0 (by omega) (by omega) (fun x h => absurd h (by omega))
  · rw [decide_eq_true c1, Bool.true_or] at hQ
    refine g_iconst (nI 1) rfl (by decide) ?_
    refine g_vret rfl trivial (by first | exact ⟨by decide, by decide⟩ | trivial) (Nat.le_refl _) (Nat.le_refl _) ?_
    exact hQ
set_option maxRecDepth 20000 in
theorem r_mayPlay {pr : aC} {d : Nat} {u : rS} (t n b bd m : Nat) (ht : t < 10) (hc : u.2 31 t = nI n) (hn : n ≤ 340) (hb : last ge3 (cf u t) n = some b) (hbd : u.2 29 t = nI (bd + 1)) (hbd2 : bd < 36) (hm0 : u.2 32 t = nI m) (hm52 : m ≤ 52) (nb : Nat) (c : Int32) (h0 : u.1 0 = nI nb) (hnb : nb ≤ 36) (hph : ¬ u.2 28 t = nI 1) (hck : cdOk (gf u t) m) {Q : Option Value → rS → Prop} (hQ : ∀ u1, rSame u u1 → Q (some (.int (bI (mpF u t m (seatF u t b bd m) c)))) u1) : rR pr (d + 6 + 1) 192 [.ref 25, .int (nI t), .int c] u Q := by
  refine gR_of mi_192 rFr_rf rfl (Nat.le_of_ble_eq_true rfl) ?_
  show rB pr (d + 6) cd_192 (Option.some Jvm.ClassFile.FieldType.boolean) Q 0 [some (.ref 25), some (.int (nI t)), some (.int c), none, none, none] [] u
  refine g_load rfl rfl rfl trivial ?_
  refine g_statI [.int c] rFr_tr rfl rfl rfl (Nat.le_of_ble_eq_true rfl) (Nat.le_refl _) (Nat.le_refl _) (r_isCard c ⟨_, rfl, ?_⟩)
  refine g_if_ne rfl (fun c1 => ?_) (fun c1 => ?_)
  · rw [bI_ne] at c1
    refine g_load rfl rfl rfl trivial ?_
    refine g_load rfl rfl rfl trivial ?_
    refine g_virtI (a := 25) (ci := 8) (n := 1) [.int (nI t)] rFr_tr rfl rfl (by decide) rfl r_this rfl (Nat.le_of_ble_eq_true rfl) (Nat.le_refl _) (Nat.le_refl _) (r_turn_p t n b bd m ht hc hn hb hbd hbd2 hm0 hm52 hph (fun u1 hS hG => ⟨_, rfl, ?_⟩))
    refine g_store [some (.ref 25), some (.int (nI t)), some (.int c), some (.int (nI (seatF u t b bd m))), none, none] rfl rfl trivial (Nat.le_of_ble_eq_true rfl) rfl ?_
    refine g_load rfl rfl rfl trivial ?_
    refine g_load rfl rfl rfl trivial ?_
    refine g_load rfl rfl rfl trivial ?_
    refine g_load rfl rfl rfl trivial ?_
    refine g_virtI (a := 25) (ci := 8) (n := 3) [.int (nI t), .int (nI (seatF u t b bd m)), .int c] rFr_tr rfl rfl (by decide) rfl r_this rfl (Nat.le_of_ble_eq_true rfl) (Nat.le_refl _) (Nat.le_refl _) (r_holds t m nb (nI (seatF u t b bd m)) c ht (hS.1.trans h0) hnb (by rw [hS.2.2.2 32 (by decide)]; exact hm0) hm52 ⟨_, rfl, ?_⟩)
    refine g_if_ne rfl (fun c2 => ?_) (fun c2 => ?_)
    · rw [bI_ne, rSame_hd hS] at c2
      refine g_load rfl rfl rfl trivial ?_
      refine r_getf rfl rfl ?_
      refine g_load rfl rfl rfl trivial ?_
      refine r_getf rfl rfl ?_
      refine g_load rfl rfl rfl trivial ?_
      refine r_ia (t) rfl ⟨by decide, by decide, rfl⟩ rfl (by show _ < 10; omega) ?_
      rw [hS.2.2.2 32 (by decide), hm0, hG.2.1]
      have hQ := hQ u1 hS
      unfold mpF at hQ
      rw [c1, c2, Bool.true_and, Bool.true_and] at hQ
      refine g_icmp_ne rfl (fun c3 => ?_) (fun c3 => ?_)
      · rw [nI_eq (by omega) (by omega)] at c3
        have hm4 : ¬ m % 4 = 0 := by omega
        rw [decide_eq_false hm4, Bool.false_or] at hQ
        exact r_mayPlay_2 t m nb (seatF u t b bd m) c hS hG.2.1 ht h0 hnb hm0 hm52 hm4 hck hQ
      · rw [nI_eq (by omega) (by omega)] at c3
        have hm4 : m % 4 = 0 := by omega
        rw [decide_eq_true hm4, Bool.true_or] at hQ
        refine g_iconst (nI 1) rfl (by decide) ?_
        exact g_vret rfl trivial ⟨by decide, by decide⟩ (Nat.le_refl _) (Nat.le_refl _) hQ
    · rw [bI_eq, rSame_hd hS] at c2
      have hQ := hQ u1 hS
      rw [show mpF u t m (seatF u t b bd m) c = false by unfold mpF; rw [c1, c2]; rfl] at hQ
      refine g_iconst (nI 0) rfl (by decide) ?_
      refine g_vret rfl trivial (by first | exact ⟨by decide, by decide⟩ | trivial) (Nat.le_refl _) (Nat.le_refl _) ?_
      exact hQ
  · rw [bI_eq] at c1
    have hQ := hQ u (rSame.rf u)
    rw [show mpF u t m (seatF u t b bd m) c = false by unfold mpF; rw [c1]; rfl] at hQ
    refine g_iconst (nI 0) rfl (by decide) ?_
    refine g_vret rfl trivial (by first | exact ⟨by decide, by decide⟩ | trivial) (Nat.le_refl _) (Nat.le_refl _) ?_
    exact hQ
/-- call i, card i of what is played at a table -/
def clF (u : rS) (t i : Int32) : Int32 := if ¬ phF u t = 0 ∧ inF i 0 (u.2 31 t.toNatClampNeg - nI 1) = true then u.2 33 (340 * t.toNatClampNeg + i.toNatClampNeg) else -1
def plF (u : rS) (t i : Int32) : Int32 := if ¬ phF u t = 0 ∧ inF i 0 (u.2 32 t.toNatClampNeg - nI 1) = true then u.2 34 (52 * t.toNatClampNeg + i.toNatClampNeg) else -1
theorem in_pI {i : Int32} {n : Nat} (h : inF i 0 (pI n) = true) (hn : n < 2 ^ 31) : ∃ j, j < n ∧ i = nI j := by
  simp only [inF, Bool.and_eq_true, decide_eq_true_eq, Int32.le_iff_toInt_le, show (0 : Int32).toInt = 0 by decide] at h
  obtain ⟨j, hj, rfl⟩ := nI_of (x := i) (by rw [Int32.lt_iff_toInt_lt, show (0 : Int32).toInt = 0 by decide]; omega)
  rw [nI_toInt hj] at h
  cases n with
  | zero => have : (pI 0).toInt = -1 := by decide
            omega
  | succ n =>
    rw [show pI (n + 1) = nI n from rfl, nI_toInt (by omega)] at h
    exact ⟨j, by omega, rfl⟩
set_option maxRecDepth 20000 in
theorem r_called {pr : aC} {d : Nat} {u : rS} (t i : Int32) (hN : ∀ t', t' < 10 → ¬ u.2 28 t' = 0 → ∃ n, n ≤ 340 ∧ u.2 31 t' = nI n) {Q : Option Value → rS → Prop} (hQ : Q (some (.int (clF u t i))) u) : rR pr (d + 2 + 1) 199 [.ref 25, .int t, .int i] u Q := by
  refine gR_of mi_199 rFr_rf rfl (Nat.le_of_ble_eq_true rfl) ?_
  show rB pr (d + 2) cd_199 (Option.some Jvm.ClassFile.FieldType.int) Q 0 [some (.ref 25), some (.int t), some (.int i)] [] u
  refine g_load rfl rfl rfl trivial ?_
  refine g_load rfl rfl rfl trivial ?_
  refine g_virtI (a := 25) (ci := 8) (n := 1) [.int t] rFr_tr rfl rfl (by decide) rfl r_this rfl (Nat.le_of_ble_eq_true rfl) (Nat.le_refl _) (Nat.le_refl _) (r_phaseOf t ⟨_, rfl, ?_⟩)
  refine g_if_eq rfl (fun c1 => ?_) (fun c1 => ?_)
  · rw [show clF u t i = -1 by unfold clF; rw [if_neg (fun q => q.1 c1)]] at hQ
    refine g_iconst (-1) rfl (by decide) ?_
    refine g_vret rfl trivial ⟨rfl, rfl⟩ (Nat.le_refl _) (Nat.le_refl _) ?_
    exact hQ
  · obtain ⟨t', ht, rfl⟩ := ph_of c1
    obtain ⟨n, hn, hc⟩ := hN t' ht (by rw [← phF_t ht]; exact c1)
    refine g_load rfl rfl rfl trivial ?_
    refine g_iconst (nI 0) rfl (by decide) ?_
    refine g_load rfl rfl rfl trivial ?_
    refine r_getf rfl rfl ?_
    refine g_load rfl rfl rfl trivial ?_
    refine r_ia (t') rfl ⟨by decide, by decide, rfl⟩ rfl (by show _ < 10; omega) ?_
    refine g_iconst (nI 1) rfl (by decide) ?_
    refine g_isub rfl ?_
    rw [hc, pI_eq]
    refine g_statI [.int i, .int (nI 0), .int (pI n)] rFr_tr rfl rfl rfl (Nat.le_of_ble_eq_true rfl) (Nat.le_refl _) (Nat.le_refl _) (r_in i 0 (pI n) ⟨_, rfl, ?_⟩)
    refine g_if_eq rfl (fun c2 => ?_) (fun c2 => ?_)
    · rw [bI_eq] at c2
      rw [show clF u (nI t') i = -1 by unfold clF; rw [nI_clamp (by omega), hc, pI_eq, c2]; simp] at hQ
      refine g_iconst (-1) rfl (by decide) ?_
      refine g_vret rfl trivial ⟨rfl, rfl⟩ (Nat.le_refl _) (Nat.le_refl _) ?_
      exact hQ
    · rw [bI_ne] at c2
      obtain ⟨i', hi, rfl⟩ := in_pI c2 (by omega)
      rw [show clF u (nI t') (nI i') = u.2 33 (340 * t' + i') by unfold clF; rw [nI_clamp (by omega), hc, pI_eq, if_pos ⟨c1, c2⟩, nI_clamp (by omega)]] at hQ
      refine g_load rfl rfl rfl trivial ?_
      refine g_load rfl rfl rfl trivial ?_
      refine g_load rfl rfl rfl trivial ?_
      refine g_virtI (a := 25) (ci := 8) (n := 2) [(.int (nI t')), (.int (nI i'))] rFr_tr rfl rfl (by decide) rfl r_this rfl (Nat.le_of_ble_eq_true rfl) (Nat.le_refl _) (Nat.le_refl _) (r_callAt t' i' ht (by omega) ⟨_, rfl, ?_⟩)
      refine g_goto rfl ?_
      refine g_vret rfl trivial ⟨rfl, rfl⟩ (Nat.le_refl _) (Nat.le_refl _) ?_
      exact hQ
set_option maxRecDepth 20000 in
theorem r_played {pr : aC} {d : Nat} {u : rS} (t i : Int32) (hN : ∀ t', t' < 10 → ¬ u.2 28 t' = 0 → ∃ n, n ≤ 52 ∧ u.2 32 t' = nI n) {Q : Option Value → rS → Prop} (hQ : Q (some (.int (plF u t i))) u) : rR pr (d + 2 + 1) 200 [.ref 25, .int t, .int i] u Q := by
  refine gR_of mi_200 rFr_rf rfl (Nat.le_of_ble_eq_true rfl) ?_
  show rB pr (d + 2) cd_200 (Option.some Jvm.ClassFile.FieldType.int) Q 0 [some (.ref 25), some (.int t), some (.int i)] [] u
  refine g_load rfl rfl rfl trivial ?_
  refine g_load rfl rfl rfl trivial ?_
  refine g_virtI (a := 25) (ci := 8) (n := 1) [.int t] rFr_tr rfl rfl (by decide) rfl r_this rfl (Nat.le_of_ble_eq_true rfl) (Nat.le_refl _) (Nat.le_refl _) (r_phaseOf t ⟨_, rfl, ?_⟩)
  refine g_if_eq rfl (fun c1 => ?_) (fun c1 => ?_)
  · rw [show plF u t i = -1 by unfold plF; rw [if_neg (fun q => q.1 c1)]] at hQ
    refine g_iconst (-1) rfl (by decide) ?_
    refine g_vret rfl trivial ⟨rfl, rfl⟩ (Nat.le_refl _) (Nat.le_refl _) ?_
    exact hQ
  · obtain ⟨t', ht, rfl⟩ := ph_of c1
    obtain ⟨n, hn, hc⟩ := hN t' ht (by rw [← phF_t ht]; exact c1)
    refine g_load rfl rfl rfl trivial ?_
    refine g_iconst (nI 0) rfl (by decide) ?_
    refine g_load rfl rfl rfl trivial ?_
    refine r_getf rfl rfl ?_
    refine g_load rfl rfl rfl trivial ?_
    refine r_ia (t') rfl ⟨by decide, by decide, rfl⟩ rfl (by show _ < 10; omega) ?_
    refine g_iconst (nI 1) rfl (by decide) ?_
    refine g_isub rfl ?_
    rw [hc, pI_eq]
    refine g_statI [.int i, .int (nI 0), .int (pI n)] rFr_tr rfl rfl rfl (Nat.le_of_ble_eq_true rfl) (Nat.le_refl _) (Nat.le_refl _) (r_in i 0 (pI n) ⟨_, rfl, ?_⟩)
    refine g_if_eq rfl (fun c2 => ?_) (fun c2 => ?_)
    · rw [bI_eq] at c2
      rw [show plF u (nI t') i = -1 by unfold plF; rw [nI_clamp (by omega), hc, pI_eq, c2]; simp] at hQ
      refine g_iconst (-1) rfl (by decide) ?_
      refine g_vret rfl trivial ⟨rfl, rfl⟩ (Nat.le_refl _) (Nat.le_refl _) ?_
      exact hQ
    · rw [bI_ne] at c2
      obtain ⟨i', hi, rfl⟩ := in_pI c2 (by omega)
      rw [show plF u (nI t') (nI i') = u.2 34 (52 * t' + i') by unfold plF; rw [nI_clamp (by omega), hc, pI_eq, if_pos ⟨c1, c2⟩, nI_clamp (by omega)]] at hQ
      refine g_load rfl rfl rfl trivial ?_
      refine r_getf rfl rfl ?_
      refine g_bipush (nI 52) rfl (by decide) ?_
      refine g_load rfl rfl rfl trivial ?_
      refine g_imul rfl ?_
      refine g_load rfl rfl rfl trivial ?_
      refine g_iadd rfl ?_
      refine r_ia (52 * t' + i') rfl ⟨by decide, by decide, rfl⟩ (by rw [pk_mul, nI_add]) (by show _ < 520; omega) ?_
      refine g_goto rfl ?_
      refine g_vret rfl trivial ⟨rfl, rfl⟩ (Nat.le_refl _) (Nat.le_refl _) ?_
      exact hQ
end
section
/-! ===== the reference: what is told of tables; small changes ===== -/
def nC (u : rS) (t : Nat) : Nat := (u.2 31 t).toNatClampNeg
def mC (u : rS) (t : Nat) : Nat := (u.2 32 t).toNatClampNeg
def bD (u : rS) (t : Nat) : Nat := (u.2 29 t).toNatClampNeg - 1
def bB (u : rS) (t : Nat) : Nat := (last ge3 (cf u t) (nC u t)).getD 0
/-- what holds of a table of the reference between calls -/
def tOk (u : rS) (nb t : Nat) : Prop := u.2 28 t = 0 ∨ (u.2 29 t = nI (bD u t + 1) ∧ bD u t < nb ∧ u.2 31 t = nI (nC u t) ∧ nC u t < 340 ∧ u.2 32 t = nI (mC u t) ∧ mC u t < 52 ∧ cdOk (gf u t) (mC u t) ∧ ((u.2 28 t = nI 1 ∧ mC u t = 0) ∨ (u.2 28 t = nI 2 ∧ last ge3 (cf u t) (nC u t) = some (bB u t))))
def rOkT (u : rS) (nb : Nat) : Prop := u.1 0 = nI nb ∧ nb ≤ 36 ∧ ∀ t, t < 10 → tOk u nb t
def alF (u : rS) (t x : Int32) : Bool := if phF u t = nI 1 then mcF (cf u t.toNatClampNeg) (nC u t.toNatClampNeg) x else if phF u t = nI 2 then mpF u t.toNatClampNeg (mC u t.toNatClampNeg) (seatF u t.toNatClampNeg (bB u t.toNatClampNeg) (bD u t.toNatClampNeg) (mC u t.toNatClampNeg)) x else false
theorem n1 : ¬ nI 1 = 0 := by decide
theorem n2 : ¬ nI 2 = 0 := by decide
theorem n12 : ¬ nI 1 = nI 2 := by decide
theorem n21 : ¬ nI 2 = nI 1 := by decide
theorem n01 : ¬ (0 : Int32) = nI 1 := by decide
theorem n02 : ¬ (0 : Int32) = nI 2 := by decide
set_option maxRecDepth 20000 in
theorem r_allowed {pr : aC} {d : Nat} {u : rS} (t x : Int32) (nb : Nat) (hk : rOkT u nb) {Q : Option Value → rS → Prop} (hQ : ∀ u1, rSame u u1 → Q (some (.int (bI (alF u t x)))) u1) : rR pr (d + 7 + 1) 201 [.ref 25, .int t, .int x] u Q := by
  refine gR_of mi_201 rFr_rf rfl (Nat.le_of_ble_eq_true rfl) ?_
  show rB pr (d + 7) cd_201 (Option.some Jvm.ClassFile.FieldType.boolean) Q 0 [some (.ref 25), some (.int t), some (.int x)] [] u
  refine g_load rfl rfl rfl trivial ?_
  refine g_load rfl rfl rfl trivial ?_
  refine g_virtI (a := 25) (ci := 8) (n := 1) [.int t] rFr_tr rfl rfl (by decide) rfl r_this rfl (Nat.le_of_ble_eq_true rfl) (Nat.le_refl _) (Nat.le_refl _) (r_phaseOf t ⟨_, rfl, ?_⟩)
  refine g_iconst (nI 1) rfl (by decide) ?_
  refine g_icmp_ne rfl (fun c1 => ?_) (fun c1 => ?_)
  · refine g_load rfl rfl rfl trivial ?_
    refine g_load rfl rfl rfl trivial ?_
    refine g_virtI (a := 25) (ci := 8) (n := 1) [.int t] rFr_tr rfl rfl (by decide) rfl r_this rfl (Nat.le_of_ble_eq_true rfl) (Nat.le_refl _) (Nat.le_refl _) (r_phaseOf t ⟨_, rfl, ?_⟩)
    refine g_iconst (nI 2) rfl (by decide) ?_
    refine g_icmp_ne rfl (fun c2 => ?_) (fun c2 => ?_)
    · have hQ := hQ u (rSame.rf u)
      rw [show alF u t x = false by unfold alF; rw [if_neg c1, if_neg c2]] at hQ
      refine g_iconst (nI 0) rfl (by decide) ?_
      exact g_vret rfl trivial (by first | exact bI_rt _ | exact ⟨by decide, by decide⟩) (Nat.le_refl _) (Nat.le_refl _) hQ
    · obtain ⟨t', ht, rfl⟩ := ph_of (by rw [c2]; decide)
      obtain ⟨a1, a2, a3, a4, a5, a6, a7, a8⟩ := (hk.2.2 t' ht).resolve_left (fun q => absurd (c2.symm.trans ((phF_t ht).trans q)) (by decide))
      have a9 := a8.resolve_left (fun q => absurd (((phF_t ht).symm.trans c2).symm.trans q.1) (by decide))
      have hp1 : ¬ u.2 28 t' = nI 1 := by rw [a9.1]; decide
      have e1 : alF u (nI t') x = mpF u t' (mC u t') (seatF u t' (bB u t') (bD u t') (mC u t')) x := by unfold alF; rw [if_neg c1, if_pos c2, nI_clamp (by omega)]
      rw [e1] at hQ
      refine g_load rfl rfl rfl trivial ?_
      refine g_load rfl rfl rfl trivial ?_
      refine g_load rfl rfl rfl trivial ?_
      refine g_virtI (a := 25) (ci := 8) (n := 2) [.int (nI t'), .int x] rFr_tr rfl rfl (by decide) rfl r_this rfl (Nat.le_of_ble_eq_true rfl) (Nat.le_refl _) (Nat.le_refl _) (r_mayPlay t' (nC u t') (bB u t') (bD u t') (mC u t') ht a3 (by omega) a9.2 a1 (by have := hk.2.1; omega) a5 (by omega) nb x hk.1 hk.2.1 hp1 a7 (fun u1 hS => ⟨_, rfl, ?_⟩))
      refine g_if_eq rfl (fun c3 => ?_) (fun c3 => ?_)
      · rw [bI_eq] at c3
        have hQ := hQ u1 hS
        rw [c3] at hQ
        refine g_iconst (nI 0) rfl (by decide) ?_
        exact g_vret rfl trivial (by first | exact bI_rt _ | exact ⟨by decide, by decide⟩) (Nat.le_refl _) (Nat.le_refl _) hQ
      · rw [bI_ne] at c3
        have hQ := hQ u1 hS
        rw [c3] at hQ
        refine g_iconst (nI 1) rfl (by decide) ?_
        refine g_goto rfl ?_
        exact g_vret rfl trivial (by first | exact bI_rt _ | exact ⟨by decide, by decide⟩) (Nat.le_refl _) (Nat.le_refl _) hQ
  · obtain ⟨t', ht, rfl⟩ := ph_of (by rw [c1]; decide)
    obtain ⟨a1, a2, a3, a4, a5, a6, a7, a8⟩ := (hk.2.2 t' ht).resolve_left (fun q => absurd (c1.symm.trans ((phF_t ht).trans q)) (by decide))
    have hQ := hQ u (rSame.rf u)
    rw [show alF u (nI t') x = mcF (cf u t') (nC u t') x by unfold alF; rw [if_pos c1, nI_clamp (by omega)]] at hQ
    refine g_load rfl rfl rfl trivial ?_
    refine g_load rfl rfl rfl trivial ?_
    refine g_load rfl rfl rfl trivial ?_
    refine g_virtI (a := 25) (ci := 8) (n := 2) [(.int (nI t')), (.int x)] rFr_tr rfl rfl (by decide) rfl r_this rfl (Nat.le_of_ble_eq_true rfl) (Nat.le_refl _) (Nat.le_refl _) (r_mayCall t' (nC u t') (bD u t') x ht a3 a4 a1 (by have := hk.2.1; omega) ⟨_, rfl, ?_⟩)
    refine g_goto rfl ?_
    exact g_vret rfl trivial (by first | exact bI_rt _ | exact ⟨by decide, by decide⟩) (Nat.le_refl _) (Nat.le_refl _) hQ
def seF (u : rS) (t s c : Int32) : Bool := !decide (phF u t = 0) && (inF s 0 3 && (isCd c && (decide (handF u (u.2 29 t.toNatClampNeg) c = s) || (anyN (fun k => decide (gf u t.toNatClampNeg k = c)) (mC u t.toNatClampNeg) || (decide (0 < mC u t.toNatClampNeg) && decide (handF u (u.2 29 t.toNatClampNeg) c = nI ((dcN (cf u t.toNatClampNeg) (bD u t.toNatClampNeg % 4) (bB u t.toNatClampNeg) + 2) % 4)))))))
set_option maxRecDepth 20000 in
theorem r_sees {pr : aC} {d : Nat} {u : rS} (t s c : Int32) (nb : Nat) (hk : rOkT u nb) {Q : Option Value → rS → Prop} (hQ : Q (some (.int (bI (seF u t s c)))) u) : rR pr (d + 4 + 1) 202 [.ref 25, .int t, .int s, .int c] u Q := by
  refine gR_of mi_202 rFr_rf rfl (Nat.le_of_ble_eq_true rfl) ?_
  show rB pr (d + 4) cd_202 (Option.some Jvm.ClassFile.FieldType.boolean) Q 0 [some (.ref 25), some (.int t), some (.int s), some (.int c), none] [] u
  refine g_load rfl rfl rfl trivial ?_
  refine g_load rfl rfl rfl trivial ?_
  refine g_virtI (a := 25) (ci := 8) (n := 1) [.int t] rFr_tr rfl rfl (by decide) rfl r_this rfl (Nat.le_of_ble_eq_true rfl) (Nat.le_refl _) (Nat.le_refl _) (r_phaseOf t ⟨_, rfl, ?_⟩)
  refine g_if_eq rfl (fun c1 => ?_) (fun c1 => ?_)
  · rw [show seF u t s c = false by simp [seF, *]] at hQ
    refine g_iconst (nI 0) rfl (by decide) ?_
    refine g_vret rfl trivial (by first | exact ⟨by decide, by decide⟩ | trivial) (Nat.le_refl _) (Nat.le_refl _) ?_
    exact hQ
  · refine g_load rfl rfl rfl trivial ?_
    refine g_iconst (nI 0) rfl (by decide) ?_
    refine g_iconst (nI 3) rfl (by decide) ?_
    refine g_statI [.int s, .int (nI 0), .int (nI 3)] rFr_tr rfl rfl rfl (Nat.le_of_ble_eq_true rfl) (Nat.le_refl _) (Nat.le_refl _) (r_in s 0 3 ⟨_, rfl, ?_⟩)
    refine g_if_eq rfl (fun c2 => ?_) (fun c2 => ?_)
    · rw [bI_eq] at c2
      rw [show seF u t s c = false by simp [seF, *]] at hQ
      refine g_iconst (nI 0) rfl (by decide) ?_
      refine g_vret rfl trivial (by first | exact ⟨by decide, by decide⟩ | trivial) (Nat.le_refl _) (Nat.le_refl _) ?_
      exact hQ
    · rw [bI_ne] at c2
      refine g_load rfl rfl rfl trivial ?_
      refine g_statI [.int c] rFr_tr rfl rfl rfl (Nat.le_of_ble_eq_true rfl) (Nat.le_refl _) (Nat.le_refl _) (r_isCard c ⟨_, rfl, ?_⟩)
      refine g_if_ne rfl (fun c3 => ?_) (fun c3 => ?_)
      · rw [bI_ne] at c3
        have c33 := c3
        obtain ⟨t', ht, rfl⟩ := ph_of c1
        obtain ⟨a1, a2, a3, a4, a5, a6, a7, a8⟩ := (hk.2.2 t' ht).resolve_left (fun q => c1 ((phF_t ht).trans q))
        have e0 : (nI t').toNatClampNeg = t' := nI_clamp (by omega)
        refine g_load rfl rfl rfl trivial ?_
        refine g_load rfl rfl rfl trivial ?_
        refine r_getf rfl rfl ?_
        refine g_load rfl rfl rfl trivial ?_
        refine r_ia (t') rfl ⟨by decide, by decide, rfl⟩ rfl (by show _ < 10; omega) ?_
        refine g_load rfl rfl rfl trivial ?_
        refine g_virtI (a := 25) (ci := 8) (n := 2) [(.int (u.2 29 t')), (.int c)] rFr_tr rfl rfl (by decide) rfl r_this rfl (Nat.le_of_ble_eq_true rfl) (Nat.le_refl _) (Nat.le_refl _) (r_hand (u.2 29 t') c nb hk.1 hk.2.1 ⟨_, rfl, ?_⟩)
        refine g_store [some (.ref 25), some (.int (nI t')), some (.int s), some (.int c), some ((.int (handF u (u.2 29 t') c)))] rfl rfl trivial (Nat.le_of_ble_eq_true rfl) rfl ?_
        refine g_load rfl rfl rfl trivial ?_
        refine g_load rfl rfl rfl trivial ?_
        refine g_icmp_eq rfl (fun c4 => ?_) (fun c4 => ?_)
        · rw [show seF u (nI t') s c = true by simp [seF, e0, c1, c2, c33, c4]] at hQ
          refine g_iconst (nI 1) rfl (by decide) ?_
          refine g_vret rfl trivial (by first | exact ⟨by decide, by decide⟩ | trivial) (Nat.le_refl _) (Nat.le_refl _) ?_
          exact hQ
        · refine g_load rfl rfl rfl trivial ?_
          refine g_load rfl rfl rfl trivial ?_
          refine g_load rfl rfl rfl trivial ?_
          refine g_virtI (a := 25) (ci := 8) (n := 2) [(.int (nI t')), (.int c)] rFr_tr rfl rfl (by decide) rfl r_this rfl (Nat.le_of_ble_eq_true rfl) (Nat.le_refl _) (Nat.le_refl _) (r_wasPlayed t' (mC u t') c ht a5 (by omega) ⟨_, rfl, ?_⟩)
          refine g_if_eq rfl (fun c5 => ?_) (fun c5 => ?_)
          · rw [bI_eq] at c5
            refine g_load rfl rfl rfl trivial ?_
            refine r_getf rfl rfl ?_
            refine g_load rfl rfl rfl trivial ?_
            refine r_ia (t') rfl ⟨by decide, by decide, rfl⟩ rfl (by show _ < 10; omega) ?_
            rw [a5]
            refine g_if_le rfl (fun c6 => ?_) (fun c6 => ?_)
            · rw [← nI_0, nI_leI (by omega) (by omega)] at c6
              rw [show seF u (nI t') s c = false by
                have h0 : ¬ 0 < mC u t' := by omega
                simp [seF, e0, c1, c2, c33, c4, c5, h0]] at hQ
              refine g_iconst (nI 0) rfl (by decide) ?_
              exact g_vret rfl trivial ⟨by decide, by decide⟩ (Nat.le_refl _) (Nat.le_refl _) hQ
            rw [← nI_0, nI_leI (by omega) (by omega)] at c6
            have h0 : 0 < mC u t' := by omega
            have a9 := a8.resolve_left (fun q => by omega)
            obtain ⟨hd1, hd4⟩ := dcF_N (dl := bD u t' % 4) (last_lt a9.2).2
            refine g_load rfl rfl rfl trivial ?_
            refine g_load rfl rfl rfl trivial ?_
            refine g_load rfl rfl rfl trivial ?_
            refine g_virtI (a := 25) (ci := 8) (n := 1) [(.int (nI t'))] rFr_tr rfl rfl (by decide) rfl r_this rfl (Nat.le_of_ble_eq_true rfl) (Nat.le_refl _) (Nat.le_refl _) (r_declarer t' (nC u t') (bB u t') (bD u t') ht a3 (by omega) a9.2 a1 (by have := hk.2.1; omega) ⟨_, rfl, ?_⟩)
            rw [hd1]
            refine g_iconst (nI 2) rfl (by decide) ?_
            refine g_iadd rfl ?_
            rw [nI_add]
            refine g_iconst (nI 4) rfl (by decide) ?_
            refine g_irem rfl (by decide) ?_
            rw [pk_rem (by omega) (by omega) (by omega)]
            refine g_icmp_ne rfl (fun c6 => ?_) (fun c6 => ?_)
            · rw [show seF u (nI t') s c = false by simp [seF, e0, c1, c2, c33, c4, c5, h0, c6]] at hQ
              refine g_iconst (nI 0) rfl (by decide) ?_
              refine g_vret rfl trivial (by first | exact ⟨by decide, by decide⟩ | trivial) (Nat.le_refl _) (Nat.le_refl _) ?_
              exact hQ
            · rw [show seF u (nI t') s c = true by simp [seF, e0, c1, c2, c33, h0, c6]] at hQ
              refine g_iconst (nI 1) rfl (by decide) ?_
              refine g_goto rfl ?_
              refine g_vret rfl trivial (by first | exact ⟨by decide, by decide⟩ | trivial) (Nat.le_refl _) (Nat.le_refl _) ?_
              exact hQ
          · rw [bI_ne] at c5
            rw [show seF u (nI t') s c = true by simp [seF, e0, c1, c2, c33, c5]] at hQ
            refine g_iconst (nI 1) rfl (by decide) ?_
            refine g_vret rfl trivial (by first | exact ⟨by decide, by decide⟩ | trivial) (Nat.le_refl _) (Nat.le_refl _) ?_
            exact hQ
      · rw [bI_eq] at c3
        rw [show seF u t s c = false by simp [seF, *]] at hQ
        refine g_iconst (nI 0) rfl (by decide) ?_
        refine g_vret rfl trivial (by first | exact ⟨by decide, by decide⟩ | trivial) (Nat.le_refl _) (Nat.le_refl _) ?_
        exact hQ
end
section
/-! ===== the reference: results ===== -/
theorem sw_of {x : Int32} {n : Nat} (h : ¬ (x.toInt < 0 ∨ (n : Int) < x.toInt)) : ∃ k : Nat, k ≤ n ∧ x = nI k := by
  obtain ⟨j, hj, rfl⟩ := nI_of (x := x) (by rw [Int32.lt_iff_toInt_lt, show (0 : Int32).toInt = 0 by decide]; omega)
  rw [nI_toInt hj] at h
  exact ⟨j, by omega, rfl⟩
theorem sw_ne {x : Int32} {n k : Nat} (h : x.toInt < 0 ∨ (n : Int) < x.toInt) (hk : k ≤ n) (hn : n < 2 ^ 31) : ¬ x = nI k := by
  intro e
  rw [e, nI_toInt (by omega)] at h
  omega
def irF (nr : Nat) (i : Int32) : Bool := inF i 0 (pI nr)
def rsF (u : rS) (nr : Nat) (i w : Int32) : Int32 := if irF nr i then
    (if w = nI 0 then u.2 35 i.toNatClampNeg else if w = nI 1 then u.2 36 (2 * i.toNatClampNeg) else if w = nI 2 then u.2 36 (2 * i.toNatClampNeg + 1) else if w = nI 3 then u.2 37 i.toNatClampNeg else if w = nI 4 then u.2 38 i.toNatClampNeg else if w = nI 5 then u.2 39 i.toNatClampNeg else if w = nI 6 then u.2 40 i.toNatClampNeg else if w = nI 7 then u.2 41 i.toNatClampNeg else if w = nI 8 then u.2 42 i.toNatClampNeg else if w = nI 9 then (if u.2 44 i.toNatClampNeg = 0 then 0 else 1) else -1)
  else if w = nI 8 then -2147483648 else -1
set_option maxRecDepth 20000 in
theorem r_isResult {pr : aC} {d : Nat} {u : rS} (i : Int32) (nr : Nat) (h1 : u.1 1 = nI nr) (hn : nr ≤ 220) {Q : Option Value → rS → Prop} (hQ : Q (some (.int (bI (irF nr i)))) u) : rR pr (d + 1 + 1) 212 [.ref 25, .int i] u Q := by
  refine gR_of mi_212 rFr_rf rfl (Nat.le_of_ble_eq_true rfl) ?_
  show rB pr (d + 1) cd_212 (Option.some Jvm.ClassFile.FieldType.boolean) Q 0 [some (.ref 25), some (.int i)] [] u
  refine g_load rfl rfl rfl trivial ?_
  refine g_iconst (nI 0) rfl (by decide) ?_
  refine g_load rfl rfl rfl trivial ?_
  refine r_getf rfl rfl ?_
  refine g_iconst (nI 1) rfl (by decide) ?_
  refine g_isub rfl ?_
  rw [h1, pI_eq]
  refine g_statI [.int i, .int (nI 0), .int (pI nr)] rFr_tr rfl rfl rfl (Nat.le_of_ble_eq_true rfl) (Nat.le_refl _) (Nat.le_refl _) (r_in i 0 (pI nr) ⟨_, rfl, ?_⟩)
  exact g_vret rfl trivial (bI_rt _) (Nat.le_refl _) (Nat.le_refl _) hQ
set_option maxRecDepth 40000 in
set_option maxRecDepth 20000 in
theorem r_result {pr : aC} {d : Nat} {u : rS} (i w : Int32) (nr : Nat) (h1 : u.1 1 = nI nr) (hn : nr ≤ 220) {Q : Option Value → rS → Prop} (hQ : Q (some (.int (rsF u nr i w))) u) : rR pr (d + 2 + 1) 213 [.ref 25, .int i, .int w] u Q := by
  refine gR_of mi_213 rFr_rf rfl (Nat.le_of_ble_eq_true rfl) ?_
  show rB pr (d + 2) cd_213 (Option.some Jvm.ClassFile.FieldType.int) Q 0 [some (.ref 25), some (.int i), some (.int w)] [] u
  refine g_load rfl rfl rfl trivial ?_
  refine g_load rfl rfl rfl trivial ?_
  refine g_virtI (a := 25) (ci := 8) (n := 1) [.int i] rFr_tr rfl rfl (by decide) rfl r_this rfl (Nat.le_of_ble_eq_true rfl) (Nat.le_refl _) (Nat.le_refl _) (r_isResult i nr h1 hn ⟨_, rfl, ?_⟩)
  refine g_if_ne rfl (fun c1 => ?_) (fun c1 => ?_)
  · rw [bI_ne] at c1
    obtain ⟨i', hi, rfl⟩ := in_pI c1 (by omega)
    refine g_load rfl rfl rfl trivial ?_
    by_cases hsw : w.toInt < 0 ∨ 9 < w.toInt
    · refine g_tabOut 73 rfl hsw rfl ?_
      have hs := fun k (hk : k ≤ 9) => sw_ne (k := k) hsw hk (by decide)
      rw [show rsF u nr (nI i') w = -1 by unfold rsF; rw [c1, if_pos rfl, if_neg (hs 0 (by omega)), if_neg (hs 1 (by omega)), if_neg (hs 2 (by omega)), if_neg (hs 3 (by omega)), if_neg (hs 4 (by omega)), if_neg (hs 5 (by omega)), if_neg (hs 6 (by omega)), if_neg (hs 7 (by omega)), if_neg (hs 8 (by omega)), if_neg (hs 9 (by omega))]] at hQ
      refine g_iconst (-1) rfl (by decide) ?_
      refine g_vret rfl trivial ⟨rfl, rfl⟩ (Nat.le_refl _) (Nat.le_refl _) ?_
      exact hQ
    obtain ⟨ksw, hk, rfl⟩ := sw_of (x := w) (n := 9) hsw
    rcases (show ksw = 0 ∨ ksw = 1 ∨ ksw = 2 ∨ ksw = 3 ∨ ksw = 4 ∨ ksw = 5 ∨ ksw = 6 ∨ ksw = 7 ∨ ksw = 8 ∨ ksw = 9 by omega) with rfl | rfl | rfl | rfl | rfl | rfl | rfl | rfl | rfl | rfl
    · refine g_tabIn (54) 13 rfl (by decide) (by decide) rfl rfl ?_
      rw [show rsF u nr (nI i') (nI 0) = u.2 35 i' by unfold rsF; rw [c1, nI_clamp (by omega)]; rfl] at hQ
      refine g_load rfl rfl rfl trivial ?_
      refine r_getf rfl rfl ?_
      refine g_load rfl rfl rfl trivial ?_
      refine r_ia (i') rfl ⟨by decide, by decide, rfl⟩ rfl (by show _ < 220; omega) ?_
      refine g_vret rfl trivial ⟨rfl, rfl⟩ (Nat.le_refl _) (Nat.le_refl _) ?_
      exact hQ
    · refine g_tabIn (61) 18 rfl (by decide) (by decide) rfl rfl ?_
      rw [show rsF u nr (nI i') (nI 1) = u.2 36 (2 * i') by unfold rsF; rw [c1, nI_clamp (by omega)]; rfl] at hQ
      refine g_load rfl rfl rfl trivial ?_
      refine r_getf rfl rfl ?_
      refine g_iconst (nI 2) rfl (by decide) ?_
      refine g_load rfl rfl rfl trivial ?_
      refine g_imul rfl ?_
      refine r_ia (2 * i') rfl ⟨by decide, by decide, rfl⟩ (pk_mul 2 i') (by show _ < 440; omega) ?_
      refine g_vret rfl trivial ⟨rfl, rfl⟩ (Nat.le_refl _) (Nat.le_refl _) ?_
      exact hQ
    · refine g_tabIn (70) 25 rfl (by decide) (by decide) rfl rfl ?_
      rw [show rsF u nr (nI i') (nI 2) = u.2 36 (2 * i' + 1) by unfold rsF; rw [c1, nI_clamp (by omega)]; rfl] at hQ
      refine g_load rfl rfl rfl trivial ?_
      refine r_getf rfl rfl ?_
      refine g_iconst (nI 2) rfl (by decide) ?_
      refine g_load rfl rfl rfl trivial ?_
      refine g_imul rfl ?_
      refine g_iconst (nI 1) rfl (by decide) ?_
      refine g_iadd rfl ?_
      refine r_ia (2 * i' + 1) rfl ⟨by decide, by decide, rfl⟩ (by rw [pk_mul, nI_add]) (by show _ < 440; omega) ?_
      refine g_vret rfl trivial ⟨rfl, rfl⟩ (Nat.le_refl _) (Nat.le_refl _) ?_
      exact hQ
    · refine g_tabIn (81) 34 rfl (by decide) (by decide) rfl rfl ?_
      rw [show rsF u nr (nI i') (nI 3) = u.2 37 i' by unfold rsF; rw [c1, nI_clamp (by omega)]; rfl] at hQ
      refine g_load rfl rfl rfl trivial ?_
      refine r_getf rfl rfl ?_
      refine g_load rfl rfl rfl trivial ?_
      refine r_ia (i') rfl ⟨by decide, by decide, rfl⟩ rfl (by show _ < 220; omega) ?_
      refine g_vret rfl trivial ⟨rfl, rfl⟩ (Nat.le_refl _) (Nat.le_refl _) ?_
      exact hQ
    · refine g_tabIn (88) 39 rfl (by decide) (by decide) rfl rfl ?_
      rw [show rsF u nr (nI i') (nI 4) = u.2 38 i' by unfold rsF; rw [c1, nI_clamp (by omega)]; rfl] at hQ
      refine g_load rfl rfl rfl trivial ?_
      refine r_getf rfl rfl ?_
      refine g_load rfl rfl rfl trivial ?_
      refine r_ia (i') rfl ⟨by decide, by decide, rfl⟩ rfl (by show _ < 220; omega) ?_
      refine g_vret rfl trivial ⟨rfl, rfl⟩ (Nat.le_refl _) (Nat.le_refl _) ?_
      exact hQ
    · refine g_tabIn (95) 44 rfl (by decide) (by decide) rfl rfl ?_
      rw [show rsF u nr (nI i') (nI 5) = u.2 39 i' by unfold rsF; rw [c1, nI_clamp (by omega)]; rfl] at hQ
      refine g_load rfl rfl rfl trivial ?_
      refine r_getf rfl rfl ?_
      refine g_load rfl rfl rfl trivial ?_
      refine r_ia (i') rfl ⟨by decide, by decide, rfl⟩ rfl (by show _ < 220; omega) ?_
      refine g_vret rfl trivial ⟨rfl, rfl⟩ (Nat.le_refl _) (Nat.le_refl _) ?_
      exact hQ
    · refine g_tabIn (102) 49 rfl (by decide) (by decide) rfl rfl ?_
      rw [show rsF u nr (nI i') (nI 6) = u.2 40 i' by unfold rsF; rw [c1, nI_clamp (by omega)]; rfl] at hQ
      refine g_load rfl rfl rfl trivial ?_
      refine r_getf rfl rfl ?_
      refine g_load rfl rfl rfl trivial ?_
      refine r_ia (i') rfl ⟨by decide, by decide, rfl⟩ rfl (by show _ < 220; omega) ?_
      refine g_vret rfl trivial ⟨rfl, rfl⟩ (Nat.le_refl _) (Nat.le_refl _) ?_
      exact hQ
    · refine g_tabIn (109) 54 rfl (by decide) (by decide) rfl rfl ?_
      rw [show rsF u nr (nI i') (nI 7) = u.2 41 i' by unfold rsF; rw [c1, nI_clamp (by omega)]; rfl] at hQ
      refine g_load rfl rfl rfl trivial ?_
      refine r_getf rfl rfl ?_
      refine g_load rfl rfl rfl trivial ?_
      refine r_ia (i') rfl ⟨by decide, by decide, rfl⟩ rfl (by show _ < 220; omega) ?_
      refine g_vret rfl trivial ⟨rfl, rfl⟩ (Nat.le_refl _) (Nat.le_refl _) ?_
      exact hQ
    · refine g_tabIn (116) 59 rfl (by decide) (by decide) rfl rfl ?_
      rw [show rsF u nr (nI i') (nI 8) = u.2 42 i' by unfold rsF; rw [c1, nI_clamp (by omega)]; rfl] at hQ
      refine g_load rfl rfl rfl trivial ?_
      refine r_getf rfl rfl ?_
      refine g_load rfl rfl rfl trivial ?_
      refine r_ia (i') rfl ⟨by decide, by decide, rfl⟩ rfl (by show _ < 220; omega) ?_
      refine g_vret rfl trivial ⟨rfl, rfl⟩ (Nat.le_refl _) (Nat.le_refl _) ?_
      exact hQ
    · refine g_tabIn (123) 64 rfl (by decide) (by decide) rfl rfl ?_
      rw [show rsF u nr (nI i') (nI 9) = (if u.2 44 i' = 0 then 0 else 1) by unfold rsF; rw [c1, nI_clamp (by omega)]; rfl] at hQ
      refine g_load rfl rfl rfl trivial ?_
      refine r_getf rfl rfl ?_
      refine g_load rfl rfl rfl trivial ?_
      refine r_za (i') rfl ⟨by decide, by decide, rfl⟩ rfl (by show _ < 220; omega) ?_
      refine g_if_eq rfl (fun c2 => ?_) (fun c2 => ?_)
      · rw [if_pos c2] at hQ
        refine g_iconst (nI 0) rfl (by decide) ?_
        refine g_vret rfl trivial ⟨rfl, rfl⟩ (Nat.le_refl _) (Nat.le_refl _) ?_
        exact hQ
      · rw [if_neg c2] at hQ
        refine g_iconst (nI 1) rfl (by decide) ?_
        refine g_goto rfl ?_
        refine g_vret rfl trivial ⟨rfl, rfl⟩ (Nat.le_refl _) (Nat.le_refl _) ?_
        exact hQ
  · rw [bI_eq] at c1
    refine g_load rfl rfl rfl trivial ?_
    refine g_bipush (nI 8) rfl (by decide) ?_
    refine g_icmp_ne rfl (fun c3 => ?_) (fun c3 => ?_)
    · rw [show rsF u nr i w = -1 by unfold rsF; rw [c1]; simp only [Bool.false_eq_true, if_false]; rw [if_neg c3]] at hQ
      refine g_iconst (-1) rfl (by decide) ?_
      refine g_vret rfl trivial ⟨rfl, rfl⟩ (Nat.le_refl _) (Nat.le_refl _) ?_
      exact hQ
    · rw [show rsF u nr i w = -2147483648 by unfold rsF; rw [c1]; simp only [Bool.false_eq_true, if_false]; rw [if_pos c3]] at hQ
      refine g_ldc (-2147483648) rfl ⟨_, Or.inl rfl⟩ (by decide) ?_
      refine g_goto rfl ?_
      refine g_vret rfl trivial ⟨rfl, rfl⟩ (Nat.le_refl _) (Nat.le_refl _) ?_
      exact hQ
def adF (nr : Nat) (i a b : Int32) : Bool := irF nr i && (inF a 0 100 && inF b 0 100)
def uAdj (u : rS) (i : Nat) (a b : Int32) : rS := (u.1, rU (rU (rU u.2 44 i 1) 43 (2 * i) a) 43 (2 * i + 1) b)
set_option maxRecDepth 20000 in
theorem r_adjust {pr : aC} {d : Nat} {u : rS} (i a b : Int32) (nr : Nat) (h1 : u.1 1 = nI nr) (hn : nr ≤ 220) {Q : Option Value → rS → Prop} (hF : adF nr i a b = false → Q (some (.int 0)) u) (hT : adF nr i a b = true → ∀ i', i' < nr → i = nI i' → Q (some (.int 1)) (uAdj u i' a b)) : rR pr (d + 2 + 1) 214 [.ref 25, .int i, .int a, .int b] u Q := by
  refine gR_of mi_214 rFr_rf rfl (Nat.le_of_ble_eq_true rfl) ?_
  show rB pr (d + 2) cd_214 (Option.some Jvm.ClassFile.FieldType.boolean) Q 0 [some (.ref 25), some (.int i), some (.int a), some (.int b)] [] u
  refine g_load rfl rfl rfl trivial ?_
  refine g_load rfl rfl rfl trivial ?_
  refine g_virtI (a := 25) (ci := 8) (n := 1) [.int i] rFr_tr rfl rfl (by decide) rfl r_this rfl (Nat.le_of_ble_eq_true rfl) (Nat.le_refl _) (Nat.le_refl _) (r_isResult i nr h1 hn ⟨_, rfl, ?_⟩)
  refine g_if_eq rfl (fun c1 => ?_) (fun c1 => ?_)
  · rw [bI_eq] at c1
    have hQ := hF (by simp [adF, *])
    refine g_iconst (nI 0) rfl (by decide) ?_
    refine g_vret rfl trivial (by first | exact ⟨by decide, by decide⟩ | trivial) (Nat.le_refl _) (Nat.le_refl _) ?_
    exact hQ
  · rw [bI_ne] at c1
    refine g_load rfl rfl rfl trivial ?_
    refine g_iconst (nI 0) rfl (by decide) ?_
    refine g_bipush (nI 100) rfl (by decide) ?_
    refine g_statI [.int a, .int (nI 0), .int (nI 100)] rFr_tr rfl rfl rfl (Nat.le_of_ble_eq_true rfl) (Nat.le_refl _) (Nat.le_refl _) (r_in a 0 100 ⟨_, rfl, ?_⟩)
    refine g_if_eq rfl (fun c2 => ?_) (fun c2 => ?_)
    · rw [bI_eq] at c2
      have hQ := hF (by simp [adF, *])
      refine g_iconst (nI 0) rfl (by decide) ?_
      refine g_vret rfl trivial (by first | exact ⟨by decide, by decide⟩ | trivial) (Nat.le_refl _) (Nat.le_refl _) ?_
      exact hQ
    · rw [bI_ne] at c2
      refine g_load rfl rfl rfl trivial ?_
      refine g_iconst (nI 0) rfl (by decide) ?_
      refine g_bipush (nI 100) rfl (by decide) ?_
      refine g_statI [.int b, .int (nI 0), .int (nI 100)] rFr_tr rfl rfl rfl (Nat.le_of_ble_eq_true rfl) (Nat.le_refl _) (Nat.le_refl _) (r_in b 0 100 ⟨_, rfl, ?_⟩)
      refine g_if_ne rfl (fun c3 => ?_) (fun c3 => ?_)
      · rw [bI_ne] at c3
        obtain ⟨i', hi, rfl⟩ := in_pI c1 (by omega)
        have hQ := hT (by simp [adF, *]) i' hi rfl
        refine g_load rfl rfl rfl trivial ?_
        refine r_getf rfl rfl ?_
        refine g_load rfl rfl rfl trivial ?_
        refine g_iconst (nI 1) rfl (by decide) ?_
        refine r_zas (i') rfl ⟨by decide, by decide, rfl⟩ rfl (by show _ < 220; omega) ?_
        refine g_load rfl rfl rfl trivial ?_
        refine r_getf rfl rfl ?_
        refine g_iconst (nI 2) rfl (by decide) ?_
        refine g_load rfl rfl rfl trivial ?_
        refine g_imul rfl ?_
        refine g_load rfl rfl rfl trivial ?_
        refine r_ias (2 * i') rfl ⟨by decide, by decide, rfl⟩ (pk_mul 2 i') (by show _ < 440; omega) ?_
        refine g_load rfl rfl rfl trivial ?_
        refine r_getf rfl rfl ?_
        refine g_iconst (nI 2) rfl (by decide) ?_
        refine g_load rfl rfl rfl trivial ?_
        refine g_imul rfl ?_
        refine g_iconst (nI 1) rfl (by decide) ?_
        refine g_iadd rfl ?_
        refine g_load rfl rfl rfl trivial ?_
        refine r_ias (2 * i' + 1) rfl ⟨by decide, by decide, rfl⟩ (by rw [pk_mul, nI_add]) (by show _ < 440; omega) ?_
        refine g_iconst (nI 1) rfl (by decide) ?_
        refine g_vret rfl trivial (by first | exact ⟨by decide, by decide⟩ | trivial) (Nat.le_refl _) (Nat.le_refl _) ?_
        exact hQ
      · rw [bI_eq] at c3
        have hQ := hF (by simp [adF, *])
        refine g_iconst (nI 0) rfl (by decide) ?_
        refine g_vret rfl trivial (by first | exact ⟨by decide, by decide⟩ | trivial) (Nat.le_refl _) (Nat.le_refl _) ?_
        exact hQ
/-- how many results the board of result i has; what each other result gives; the points -/
def rcF (u : rS) (nr i : Nat) : Nat := cnt (fun k => decide (u.2 35 k = u.2 35 i)) nr
def pqF (u : rS) (i k : Nat) : Nat := if k = i ∨ ¬ u.2 35 k = u.2 35 i then 0 else if ¬ u.2 44 k = 0 ∨ u.2 42 k = u.2 42 i then 10 else if u.2 42 k < u.2 42 i then 20 else 0
def nsum (q : Nat → Nat) : Nat → Nat
  | 0 => 0
  | n + 1 => nsum q n + q n
theorem nsum_le {q : Nat → Nat} {b : Nat} (h : ∀ k, q k ≤ b) : ∀ n, nsum q n ≤ b * n
  | 0 => Nat.le_refl 0
  | n + 1 => by
    have := nsum_le h n
    have := h n
    unfold nsum
    rw [Nat.mul_succ]; omega
theorem pqF_le (u : rS) (i k : Nat) : pqF u i k ≤ 20 := by unfold pqF; split <;> (try split) <;> (try split) <;> omega
def alN (u : rS) (nr i : Nat) : Int32 := nI 20 * (nI (rcF u nr i) - nI 1)
def ptF (u : rS) (nr i s : Nat) : Int32 := if u.2 44 i = 0 then (if s = 0 then nI (nsum (pqF u i) nr) else alN u nr i - nI (nsum (pqF u i) nr)) else alN u nr i * u.2 43 (2 * i + s) / nI 100
end
section
/-! ===== the reference: points, totals, places ===== -/
set_option maxRecDepth 20000 in
theorem r_points_l {pr : aC} {d : Nat} {u : rS} (i s : Nat) (al : Int32) (nr : Nat) (h1 : u.1 1 = nI nr) (hn : nr ≤ 220) (hi : i < nr) (hs : s < 2) {Q : Option Value → rS → Prop} (hQ : Q (some (.int (if s = 0 then nI (nsum (pqF u i) nr) else al - nI (nsum (pqF u i) nr)))) u) : ∀ (zz : Nat) (x : Nat) (hm : nr - x < zz) (hle : x ≤ nr), rB pr (d) cd_215 (Option.some Jvm.ClassFile.FieldType.int) Q 44 [some (.ref 25), some (.int (nI i)), some (.int (nI s)), some (.int al), some (.int (nI (nsum (pqF u i) x))), some (.int (nI x))] [] u := by
  intro zz
  induction zz with
  | zero => intro x hm hle; exact absurd hm (by omega)
  | succ zz ih =>
    intro x hm hle
    refine g_load rfl rfl rfl trivial ?_
    refine g_load rfl rfl rfl trivial ?_
    refine r_getf rfl rfl ?_
    rw [h1]
    have hb := nsum_le (pqF_le u i) x
    refine g_icmp_ge rfl (fun c1 => ?_) (fun c1 => ?_)
    · rw [nI_leI (by omega) (by omega)] at c1
      have hx : x = nr := by omega
      subst hx
      refine g_load rfl rfl rfl trivial ?_
      refine g_if_ne rfl (fun c2 => ?_) (fun c2 => ?_)
      · rw [← nI_0, nI_eq (by omega) (by omega)] at c2
        rw [if_neg c2] at hQ
        refine g_load rfl rfl rfl trivial ?_
        refine g_load rfl rfl rfl trivial ?_
        refine g_isub rfl ?_
        exact g_vret rfl trivial ⟨rfl, rfl⟩ (Nat.le_refl _) (Nat.le_refl _) hQ
      · rw [← nI_0, nI_eq (by omega) (by omega)] at c2
        rw [if_pos c2] at hQ
        refine g_load rfl rfl rfl trivial ?_
        refine g_goto rfl ?_
        exact g_vret rfl trivial ⟨rfl, rfl⟩ (Nat.le_refl _) (Nat.le_refl _) hQ
    rw [nI_leI (by omega) (by omega)] at c1
    refine g_load rfl rfl rfl trivial ?_
    refine g_load rfl rfl rfl trivial ?_
    refine g_icmp_eq rfl (fun c1 => ?_) (fun c1 => ?_)
    · rw [nI_eq (by omega) (by omega)] at c1
      have e1 : nsum (pqF u i) (x + 1) = nsum (pqF u i) x := by simp [nsum, pqF, c1]
      rw [← e1]
      refine g_iinc (nI (x + 1)) [some (.ref 25), some (.int (nI i)), some (.int (nI s)), some (.int al), some (.int (nI (nsum (pqF u i) (x + 1)))), some (.int (nI (x + 1)))] rfl rfl (nI_1 x) rfl ?_
      refine g_goto rfl ?_
      exact ih (x + 1) (by omega) (by omega)
    · rw [nI_eq (by omega) (by omega)] at c1
      have hxi := c1
      refine g_load rfl rfl rfl trivial ?_
      refine r_getf rfl rfl ?_
      refine g_load rfl rfl rfl trivial ?_
      refine r_ia (x) rfl ⟨by decide, by decide, rfl⟩ rfl (by show _ < 220; omega) ?_
      refine g_load rfl rfl rfl trivial ?_
      refine r_getf rfl rfl ?_
      refine g_load rfl rfl rfl trivial ?_
      refine r_ia (i) rfl ⟨by decide, by decide, rfl⟩ rfl (by show _ < 220; omega) ?_
      refine g_icmp_eq rfl (fun c2 => ?_) (fun c2 => ?_)
      · have hbd := c2
        refine g_load rfl rfl rfl trivial ?_
        refine g_load rfl rfl rfl trivial ?_
        refine r_getf rfl rfl ?_
        refine g_load rfl rfl rfl trivial ?_
        refine r_za (x) rfl ⟨by decide, by decide, rfl⟩ rfl (by show _ < 220; omega) ?_
        have K3 : ∀ e3 : Int32, e3 = nI (pqF u i x) → rB pr (d) cd_215 (Option.some Jvm.ClassFile.FieldType.int) Q 90 [some (.ref 25), some (.int (nI i)), some (.int (nI s)), some (.int al), some (.int (nI (nsum (pqF u i) x))), some (.int (nI x))] [.int e3, .int (nI (nsum (pqF u i) x))] u := by
          intro e3 he3
          subst he3
          refine g_iadd rfl ?_
          rw [nI_add]
          refine g_store [some (.ref 25), some (.int (nI i)), some (.int (nI s)), some (.int al), some (.int (nI (nsum (pqF u i) (x + 1)))), some (.int (nI x))] rfl rfl trivial (Nat.le_of_ble_eq_true rfl) rfl ?_
          refine g_iinc (nI (x + 1)) [some (.ref 25), some (.int (nI i)), some (.int (nI s)), some (.int al), some (.int (nI (nsum (pqF u i) (x + 1)))), some (.int (nI (x + 1)))] rfl rfl (nI_1 x) rfl ?_
          refine g_goto rfl ?_
          exact ih (x + 1) (by omega) (by omega)
        refine g_if_ne rfl (fun c3 => ?_) (fun c3 => ?_)
        · have ha := c3
          refine g_bipush (nI 10) rfl (by decide) ?_
          refine g_goto rfl ?_
          exact K3 _ (by simp [pqF, *])
        · have ha := c3
          refine g_load rfl rfl rfl trivial ?_
          refine r_getf rfl rfl ?_
          refine g_load rfl rfl rfl trivial ?_
          refine r_ia (x) rfl ⟨by decide, by decide, rfl⟩ rfl (by show _ < 220; omega) ?_
          refine g_load rfl rfl rfl trivial ?_
          refine r_getf rfl rfl ?_
          refine g_load rfl rfl rfl trivial ?_
          refine r_ia (i) rfl ⟨by decide, by decide, rfl⟩ rfl (by show _ < 220; omega) ?_
          refine g_icmp_ne rfl (fun c4 => ?_) (fun c4 => ?_)
          · refine g_load rfl rfl rfl trivial ?_
            refine r_getf rfl rfl ?_
            refine g_load rfl rfl rfl trivial ?_
            refine r_ia (x) rfl ⟨by decide, by decide, rfl⟩ rfl (by show _ < 220; omega) ?_
            refine g_load rfl rfl rfl trivial ?_
            refine r_getf rfl rfl ?_
            refine g_load rfl rfl rfl trivial ?_
            refine r_ia (i) rfl ⟨by decide, by decide, rfl⟩ rfl (by show _ < 220; omega) ?_
            refine g_icmp_ge rfl (fun c5 => ?_) (fun c5 => ?_)
            · have hl : ¬ u.2 42 x < u.2 42 i := by rw [Int32.not_lt]; exact c5
              refine g_iconst (nI 0) rfl (by decide) ?_
              exact K3 _ (by simp [pqF, *])
            · have hl : u.2 42 x < u.2 42 i := by rw [← Int32.not_le]; exact c5
              refine g_bipush (nI 20) rfl (by decide) ?_
              refine g_goto rfl ?_
              exact K3 _ (by simp [pqF, *])
          · refine g_bipush (nI 10) rfl (by decide) ?_
            refine g_goto rfl ?_
            exact K3 _ (by simp [pqF, *])
      · have e1 : nsum (pqF u i) (x + 1) = nsum (pqF u i) x := by simp [nsum, pqF, c2]
        rw [← e1]
        refine g_goto rfl ?_
        refine g_iinc (nI (x + 1)) [some (.ref 25), some (.int (nI i)), some (.int (nI s)), some (.int al), some (.int (nI (nsum (pqF u i) (x + 1)))), some (.int (nI (x + 1)))] rfl rfl (nI_1 x) rfl ?_
        refine g_goto rfl ?_
        exact ih (x + 1) (by omega) (by omega)
theorem ir_t {nr i : Nat} (h : i < nr) (hn : nr < 2 ^ 31) : irF nr (nI i) = true := by
  cases nr with
  | zero => omega
  | succ n =>
    unfold irF inF
    rw [show pI (n + 1) = nI n from rfl, decide_eq_true (by rw [← nI_0]; exact nI_le (by omega) (by omega)), decide_eq_true (nI_le (by omega) (by omega))]; rfl
set_option maxRecDepth 20000 in
theorem r_points {pr : aC} {d : Nat} {u : rS} (i s : Nat) (nr : Nat) (h1 : u.1 1 = nI nr) (hn : nr ≤ 220) (hi : i < nr) (hs : s < 2) {Q : Option Value → rS → Prop} (hQ : Q (some (.int (ptF u nr i s))) u) : rR pr (d + 2 + 1) 215 [.ref 25, .int (nI i), .int (nI s)] u Q := by
  refine gR_of mi_215 rFr_rf rfl (Nat.le_of_ble_eq_true rfl) ?_
  show rB pr (d + 2) cd_215 (Option.some Jvm.ClassFile.FieldType.int) Q 0 [some (.ref 25), some (.int (nI i)), some (.int (nI s)), none, none, none] [] u
  refine g_load rfl rfl rfl trivial ?_
  refine g_load rfl rfl rfl trivial ?_
  refine g_virtI (a := 25) (ci := 8) (n := 1) [.int (nI i)] rFr_tr rfl rfl (by decide) rfl r_this rfl (Nat.le_of_ble_eq_true rfl) (Nat.le_refl _) (Nat.le_refl _) (r_isResult (nI i) nr h1 hn ⟨_, rfl, ?_⟩)
  refine g_if_eq rfl (fun c1 => ?_) (fun c1 => ?_)
  · rw [bI_eq] at c1
    exact absurd (ir_t hi (by omega)) (by rw [c1]; decide)
  · refine g_load rfl rfl rfl trivial ?_
    refine g_iconst (nI 0) rfl (by decide) ?_
    refine g_iconst (nI 1) rfl (by decide) ?_
    refine g_statI [.int (nI s), .int (nI 0), .int (nI 1)] rFr_tr rfl rfl rfl (Nat.le_of_ble_eq_true rfl) (Nat.le_refl _) (Nat.le_refl _) (r_in (nI s) 0 1 ⟨_, rfl, ?_⟩)
    refine g_if_ne rfl (fun c2 => ?_) (fun c2 => ?_)
    · refine g_bipush (nI 20) rfl (by decide) ?_
      refine g_load rfl rfl rfl trivial ?_
      refine g_load rfl rfl rfl trivial ?_
      refine r_getf rfl rfl ?_
      refine g_load rfl rfl rfl trivial ?_
      refine r_ia (i) rfl ⟨by decide, by decide, rfl⟩ rfl (by show _ < 220; omega) ?_
      refine g_virtI (a := 25) (ci := 8) (n := 1) [.int (u.2 35 i)] rFr_tr rfl rfl (by decide) rfl r_this rfl (Nat.le_of_ble_eq_true rfl) (Nat.le_refl _) (Nat.le_refl _) (r_resultsOf (u.2 35 i) nr h1 hn ⟨_, rfl, ?_⟩)
      refine g_iconst (nI 1) rfl (by decide) ?_
      refine g_isub rfl ?_
      refine g_imul rfl ?_
      refine g_store [some (.ref 25), some (.int (nI i)), some (.int (nI s)), some (.int (alN u nr i)), none, none] rfl rfl trivial (Nat.le_of_ble_eq_true rfl) rfl ?_
      refine g_load rfl rfl rfl trivial ?_
      refine r_getf rfl rfl ?_
      refine g_load rfl rfl rfl trivial ?_
      refine r_za (i) rfl ⟨by decide, by decide, rfl⟩ rfl (by show _ < 220; omega) ?_
      refine g_if_eq rfl (fun c3 => ?_) (fun c3 => ?_)
      · rw [show ptF u nr i s = _ from if_pos c3] at hQ
        refine g_iconst (nI 0) rfl (by decide) ?_
        refine g_store [some (.ref 25), some (.int (nI i)), some (.int (nI s)), some (.int (alN u nr i)), some (.int (nI 0)), none] rfl rfl trivial (Nat.le_of_ble_eq_true rfl) rfl ?_
        refine g_iconst (nI 0) rfl (by decide) ?_
        refine g_store [some (.ref 25), some (.int (nI i)), some (.int (nI s)), some (.int (alN u nr i)), some (.int (nI 0)), some (.int (nI 0))] rfl rfl trivial (Nat.le_of_ble_eq_true rfl) rfl ?_
        exact r_points_l i s (alN u nr i) nr h1 hn hi hs hQ (nr + 1) 0 (by omega) (by omega)
      · rw [show ptF u nr i s = _ from if_neg c3] at hQ
        refine g_load rfl rfl rfl trivial ?_
        refine g_load rfl rfl rfl trivial ?_
        refine r_getf rfl rfl ?_
        refine g_iconst (nI 2) rfl (by decide) ?_
        refine g_load rfl rfl rfl trivial ?_
        refine g_imul rfl ?_
        refine g_load rfl rfl rfl trivial ?_
        refine g_iadd rfl ?_
        refine r_ia (2 * i + s) rfl ⟨by decide, by decide, rfl⟩ (by rw [pk_mul, nI_add]) (by show _ < 440; omega) ?_
        refine g_imul rfl ?_
        refine g_bipush (nI 100) rfl (by decide) ?_
        refine g_idiv rfl (by decide) ?_
        refine g_vret rfl trivial ⟨rfl, rfl⟩ (Nat.le_refl _) (Nat.le_refl _) ?_
        exact hQ
    · rw [bI_eq] at c2
      exact absurd (show inF (nI s) 0 1 = true from (by decide : ∀ s, s < 2 → inF (nI s) 0 1 = true) s hs) (by rw [c2]; decide)
def hrF (u : rS) (p : Int32) (i : Nat) : Bool := decide (u.2 36 (2 * i) = p ∨ u.2 36 (2 * i + 1) = p)
set_option maxRecDepth 20000 in
theorem r_hasResult_l {pr : aC} {d : Nat} {u : rS} (p : Int32) (nr : Nat) (h1 : u.1 1 = nI nr) (hn : nr ≤ 220) {Q : Option Value → rS → Prop} (hQ : Q (some (.int (bI (anyN (hrF u p) nr)))) u) : ∀ (zz : Nat) (x : Nat) (hm : nr - x < zz) (hle : x ≤ nr) (hinv : ∀ y, y < x → hrF u p y = false), rB pr (d) cd_216 (Option.some Jvm.ClassFile.FieldType.boolean) Q 2 [some (.ref 25), some (.int p), some (.int (nI x))] [] u := by
  intro zz
  induction zz with
  | zero => intro x hm hle hinv; exact absurd hm (by omega)
  | succ zz ih =>
    intro x hm hle hinv
    refine g_load rfl rfl rfl trivial ?_
    refine g_load rfl rfl rfl trivial ?_
    refine r_getf rfl rfl ?_
    rw [h1]
    refine g_icmp_ge rfl (fun c1 => ?_) (fun c1 => ?_)
    · rw [nI_leI (by omega) (by omega)] at c1
      rw [anyN_f (fun y h => hinv y (by omega))] at hQ
      refine g_iconst (nI 0) rfl (by decide) ?_
      exact g_vret rfl trivial ⟨by decide, by decide⟩ (Nat.le_refl _) (Nat.le_refl _) hQ
    rw [nI_leI (by omega) (by omega)] at c1
    refine g_load rfl rfl rfl trivial ?_
    refine r_getf rfl rfl ?_
    refine g_iconst (nI 2) rfl (by decide) ?_
    refine g_load rfl rfl rfl trivial ?_
    refine g_imul rfl ?_
    refine r_ia (2 * x) rfl ⟨by decide, by decide, rfl⟩ (by rw [pk_mul]) (by show _ < 440; omega) ?_
    refine g_load rfl rfl rfl trivial ?_
    refine g_icmp_eq rfl (fun c1 => ?_) (fun c1 => ?_)
    · rw [anyN_t (i := x) (by omega) (by simp [hrF, c1])] at hQ
      refine g_iconst (nI 1) rfl (by decide) ?_
      refine g_vret rfl trivial (by first | exact ⟨by decide, by decide⟩ | trivial) (Nat.le_refl _) (Nat.le_refl _) ?_
      exact hQ
    · refine g_load rfl rfl rfl trivial ?_
      refine r_getf rfl rfl ?_
      refine g_iconst (nI 2) rfl (by decide) ?_
      refine g_load rfl rfl rfl trivial ?_
      refine g_imul rfl ?_
      refine g_iconst (nI 1) rfl (by decide) ?_
      refine g_iadd rfl ?_
      refine r_ia (2 * x + 1) rfl ⟨by decide, by decide, rfl⟩ (by rw [pk_mul, nI_add]) (by show _ < 440; omega) ?_
      refine g_load rfl rfl rfl trivial ?_
      refine g_icmp_ne rfl (fun c2 => ?_) (fun c2 => ?_)
      · have hf : hrF u p x = false := by simp [hrF, *]
        refine g_iinc (nI (x + 1)) [some (.ref 25), some (.int p), some (.int (nI (x + 1)))] rfl rfl (nI_1 x) rfl ?_
        refine g_goto rfl ?_
        exact ih (x + 1) (by omega) (by omega) (fun y hy => by
          rcases Nat.lt_succ_iff_lt_or_eq.mp hy with h | h
          · exact hinv y h
          · exact h ▸ hf)
      · rw [anyN_t (i := x) (by omega) (by simp [hrF, c2])] at hQ
        refine g_iconst (nI 1) rfl (by decide) ?_
        refine g_vret rfl trivial (by first | exact ⟨by decide, by decide⟩ | trivial) (Nat.le_refl _) (Nat.le_refl _) ?_
        exact hQ
set_option maxRecDepth 20000 in
theorem r_hasResult {pr : aC} {d : Nat} {u : rS} (p : Int32) (nr : Nat) (h1 : u.1 1 = nI nr) (hn : nr ≤ 220) {Q : Option Value → rS → Prop} (hQ : Q (some (.int (bI (anyN (hrF u p) nr)))) u) : rR pr (d + 1) 216 [.ref 25, .int p] u Q := by
  refine gR_of mi_216 rFr_rf rfl (Nat.le_of_ble_eq_true rfl) ?_
  show rB pr (d) cd_216 (Option.some Jvm.ClassFile.FieldType.boolean) Q 0 [some (.ref 25), some (.int p), none] [] u
  refine g_iconst (nI 0) rfl (by decide) ?_
  refine g_store [some (.ref 25), some (.int p), some (.int (nI 0))] rfl rfl trivial (Nat.le_of_ble_eq_true rfl) rfl ?_
  exact r_hasResult_l p nr h1 hn hQ (nr + 1) 0 (by omega) (by omega) (fun y h => absurd h (by omega))
def isum (q : Nat → Int32) : Nat → Int32
  | 0 => 0
  | n + 1 => isum q n + q n
def ttQ (u : rS) (nr : Nat) (p : Int32) (i : Nat) : Int32 := (if u.2 36 (2 * i) = p then ptF u nr i 0 else 0) + (if u.2 36 (2 * i + 1) = p then ptF u nr i 1 else 0)
def tpQ (u : rS) (nr : Nat) (p : Int32) (i : Nat) : Int32 := if hrF u p i then alN u nr i else 0
def ttF (u : rS) (nr : Nat) (p : Int32) : Int32 := if anyN (hrF u p) nr then isum (ttQ u nr p) nr else -1
def tpF (u : rS) (nr : Nat) (p : Int32) : Int32 := if anyN (hrF u p) nr then isum (tpQ u nr p) nr else -1
set_option maxRecDepth 20000 in
theorem r_total_l {pr : aC} {d : Nat} {u : rS} (p : Int32) (nr : Nat) (h1 : u.1 1 = nI nr) (hn : nr ≤ 220) {Q : Option Value → rS → Prop} (hQ : Q (some (.int (isum (ttQ u nr p) nr))) u) : ∀ (zz : Nat) (x : Nat) (hm : nr - x < zz) (hle : x ≤ nr), rB pr (d + 3) cd_217 (Option.some Jvm.ClassFile.FieldType.int) Q 10 [some (.ref 25), some (.int p), some (.int (isum (ttQ u nr p) x)), some (.int (nI x))] [] u := by
  intro zz
  induction zz with
  | zero => intro x hm hle; exact absurd hm (by omega)
  | succ zz ih =>
    intro x hm hle
    refine g_load rfl rfl rfl trivial ?_
    refine g_load rfl rfl rfl trivial ?_
    refine r_getf rfl rfl ?_
    rw [h1]
    refine g_icmp_ge rfl (fun c1 => ?_) (fun c1 => ?_)
    · rw [nI_leI (by omega) (by omega)] at c1
      have hx : x = nr := by omega
      subst hx
      refine g_load rfl rfl rfl trivial ?_
      exact g_vret rfl trivial ⟨rfl, rfl⟩ (Nat.le_refl _) (Nat.le_refl _) hQ
    rw [nI_leI (by omega) (by omega)] at c1
    refine g_load rfl rfl rfl trivial ?_
    refine r_getf rfl rfl ?_
    refine g_iconst (nI 2) rfl (by decide) ?_
    refine g_load rfl rfl rfl trivial ?_
    refine g_imul rfl ?_
    refine r_ia (2 * x) rfl ⟨by decide, by decide, rfl⟩ (by rw [pk_mul]) (by show _ < 440; omega) ?_
    refine g_load rfl rfl rfl trivial ?_
    refine g_icmp_ne rfl (fun c1 => ?_) (fun c1 => ?_)
    · have hA : isum (ttQ u nr p) x = isum (ttQ u nr p) x + (if u.2 36 (2 * x) = p then ptF u nr x 0 else 0) := by rw [if_neg c1, Int32.add_zero]
      refine g_load rfl rfl rfl trivial ?_
      refine r_getf rfl rfl ?_
      refine g_iconst (nI 2) rfl (by decide) ?_
      refine g_load rfl rfl rfl trivial ?_
      refine g_imul rfl ?_
      refine g_iconst (nI 1) rfl (by decide) ?_
      refine g_iadd rfl ?_
      refine r_ia (2 * x + 1) rfl ⟨by decide, by decide, rfl⟩ (by rw [pk_mul, nI_add]) (by show _ < 440; omega) ?_
      refine g_load rfl rfl rfl trivial ?_
      refine g_icmp_ne rfl (fun c2 => ?_) (fun c2 => ?_)
      · have hB : (if u.2 36 (2 * x + 1) = p then ptF u nr x 1 else 0) = 0 := if_neg c2
        refine g_iinc (nI (x + 1)) [some (.ref 25), some (.int p), some (.int (isum (ttQ u nr p) x)), some (.int (nI (x + 1)))] rfl rfl (nI_1 x) rfl ?_
        refine g_goto rfl ?_
        have K := ih (x + 1) (by omega) (by omega)
        have hE : isum (ttQ u nr p) (x + 1) = (isum (ttQ u nr p) x) := by
          show isum (ttQ u nr p) x + ((if u.2 36 (2 * x) = p then ptF u nr x 0 else 0) + (if u.2 36 (2 * x + 1) = p then ptF u nr x 1 else 0)) = _
          rw [hB, ← Int32.add_assoc, ← hA]
          try rw [Int32.add_zero]
        rw [hE] at K
        exact K
      · have hB : (if u.2 36 (2 * x + 1) = p then ptF u nr x 1 else 0) = ptF u nr x 1 := if_pos c2
        refine g_load rfl rfl rfl trivial ?_
        refine g_load rfl rfl rfl trivial ?_
        refine g_load rfl rfl rfl trivial ?_
        refine g_iconst (nI 1) rfl (by decide) ?_
        refine g_virtI (a := 25) (ci := 8) (n := 2) [.int (nI x), .int (nI 1)] rFr_tr rfl rfl (by decide) rfl r_this rfl (Nat.le_of_ble_eq_true rfl) (Nat.le_refl _) (Nat.le_refl _) (r_points x 1 nr h1 hn (by omega) (by omega) ⟨_, rfl, ?_⟩)
        refine g_iadd rfl ?_
        refine g_store [some (.ref 25), some (.int p), some (.int ((isum (ttQ u nr p) x) + (ptF u nr x 1))), some (.int (nI x))] rfl rfl trivial (Nat.le_of_ble_eq_true rfl) rfl ?_
        refine g_iinc (nI (x + 1)) [some (.ref 25), some (.int p), some (.int ((isum (ttQ u nr p) x) + (ptF u nr x 1))), some (.int (nI (x + 1)))] rfl rfl (nI_1 x) rfl ?_
        refine g_goto rfl ?_
        have K := ih (x + 1) (by omega) (by omega)
        have hE : isum (ttQ u nr p) (x + 1) = ((isum (ttQ u nr p) x) + (ptF u nr x 1)) := by
          show isum (ttQ u nr p) x + ((if u.2 36 (2 * x) = p then ptF u nr x 0 else 0) + (if u.2 36 (2 * x + 1) = p then ptF u nr x 1 else 0)) = _
          rw [hB, ← Int32.add_assoc, ← hA]
          try rw [Int32.add_zero]
        rw [hE] at K
        exact K
    · have hA : isum (ttQ u nr p) x + ptF u nr x 0 = isum (ttQ u nr p) x + (if u.2 36 (2 * x) = p then ptF u nr x 0 else 0) := by rw [if_pos c1]
      refine g_load rfl rfl rfl trivial ?_
      refine g_load rfl rfl rfl trivial ?_
      refine g_load rfl rfl rfl trivial ?_
      refine g_iconst (nI 0) rfl (by decide) ?_
      refine g_virtI (a := 25) (ci := 8) (n := 2) [.int (nI x), .int (nI 0)] rFr_tr rfl rfl (by decide) rfl r_this rfl (Nat.le_of_ble_eq_true rfl) (Nat.le_refl _) (Nat.le_refl _) (r_points x 0 nr h1 hn (by omega) (by omega) ⟨_, rfl, ?_⟩)
      refine g_iadd rfl ?_
      refine g_store [some (.ref 25), some (.int p), some (.int (isum (ttQ u nr p) x + ptF u nr x 0)), some (.int (nI x))] rfl rfl trivial (Nat.le_of_ble_eq_true rfl) rfl ?_
      refine g_load rfl rfl rfl trivial ?_
      refine r_getf rfl rfl ?_
      refine g_iconst (nI 2) rfl (by decide) ?_
      refine g_load rfl rfl rfl trivial ?_
      refine g_imul rfl ?_
      refine g_iconst (nI 1) rfl (by decide) ?_
      refine g_iadd rfl ?_
      refine r_ia (2 * x + 1) rfl ⟨by decide, by decide, rfl⟩ (by rw [pk_mul, nI_add]) (by show _ < 440; omega) ?_
      refine g_load rfl rfl rfl trivial ?_
      refine g_icmp_ne rfl (fun c3 => ?_) (fun c3 => ?_)
      · have hB : (if u.2 36 (2 * x + 1) = p then ptF u nr x 1 else 0) = 0 := if_neg c3
        refine g_iinc (nI (x + 1)) [some (.ref 25), some (.int p), some (.int (isum (ttQ u nr p) x + ptF u nr x 0)), some (.int (nI (x + 1)))] rfl rfl (nI_1 x) rfl ?_
        refine g_goto rfl ?_
        have K := ih (x + 1) (by omega) (by omega)
        have hE : isum (ttQ u nr p) (x + 1) = (isum (ttQ u nr p) x + ptF u nr x 0) := by
          show isum (ttQ u nr p) x + ((if u.2 36 (2 * x) = p then ptF u nr x 0 else 0) + (if u.2 36 (2 * x + 1) = p then ptF u nr x 1 else 0)) = _
          rw [hB, ← Int32.add_assoc, ← hA]
          try rw [Int32.add_zero]
        rw [hE] at K
        exact K
      · have hB : (if u.2 36 (2 * x + 1) = p then ptF u nr x 1 else 0) = ptF u nr x 1 := if_pos c3
        refine g_load rfl rfl rfl trivial ?_
        refine g_load rfl rfl rfl trivial ?_
        refine g_load rfl rfl rfl trivial ?_
        refine g_iconst (nI 1) rfl (by decide) ?_
        refine g_virtI (a := 25) (ci := 8) (n := 2) [.int (nI x), .int (nI 1)] rFr_tr rfl rfl (by decide) rfl r_this rfl (Nat.le_of_ble_eq_true rfl) (Nat.le_refl _) (Nat.le_refl _) (r_points x 1 nr h1 hn (by omega) (by omega) ⟨_, rfl, ?_⟩)
        refine g_iadd rfl ?_
        refine g_store [some (.ref 25), some (.int p), some (.int ((isum (ttQ u nr p) x + ptF u nr x 0) + (ptF u nr x 1))), some (.int (nI x))] rfl rfl trivial (Nat.le_of_ble_eq_true rfl) rfl ?_
        refine g_iinc (nI (x + 1)) [some (.ref 25), some (.int p), some (.int ((isum (ttQ u nr p) x + ptF u nr x 0) + (ptF u nr x 1))), some (.int (nI (x + 1)))] rfl rfl (nI_1 x) rfl ?_
        refine g_goto rfl ?_
        have K := ih (x + 1) (by omega) (by omega)
        have hE : isum (ttQ u nr p) (x + 1) = ((isum (ttQ u nr p) x + ptF u nr x 0) + (ptF u nr x 1)) := by
          show isum (ttQ u nr p) x + ((if u.2 36 (2 * x) = p then ptF u nr x 0 else 0) + (if u.2 36 (2 * x + 1) = p then ptF u nr x 1 else 0)) = _
          rw [hB, ← Int32.add_assoc, ← hA]
          try rw [Int32.add_zero]
        rw [hE] at K
        exact K
set_option maxRecDepth 20000 in
theorem r_total {pr : aC} {d : Nat} {u : rS} (p : Int32) (nr : Nat) (h1 : u.1 1 = nI nr) (hn : nr ≤ 220) {Q : Option Value → rS → Prop} (hQ : Q (some (.int (ttF u nr p))) u) : rR pr (d + 3 + 1) 217 [.ref 25, .int p] u Q := by
  refine gR_of mi_217 rFr_rf rfl (Nat.le_of_ble_eq_true rfl) ?_
  show rB pr (d + 3) cd_217 (Option.some Jvm.ClassFile.FieldType.int) Q 0 [some (.ref 25), some (.int p), none, none] [] u
  refine g_load rfl rfl rfl trivial ?_
  refine g_load rfl rfl rfl trivial ?_
  refine g_virtI (a := 25) (ci := 8) (n := 1) [.int p] rFr_tr rfl rfl (by decide) rfl r_this rfl (Nat.le_of_ble_eq_true rfl) (Nat.le_refl _) (Nat.le_refl _) (r_hasResult p nr h1 hn ⟨_, rfl, ?_⟩)
  refine g_if_ne rfl (fun c1 => ?_) (fun c1 => ?_)
  · rw [bI_ne] at c1
    unfold ttF at hQ
    rw [if_pos c1] at hQ
    refine g_iconst (nI 0) rfl (by decide) ?_
    refine g_store [some (.ref 25), some (.int p), some (.int (nI 0)), none] rfl rfl trivial (Nat.le_of_ble_eq_true rfl) rfl ?_
    refine g_iconst (nI 0) rfl (by decide) ?_
    refine g_store [some (.ref 25), some (.int p), some (.int (nI 0)), some (.int (nI 0))] rfl rfl trivial (Nat.le_of_ble_eq_true rfl) rfl ?_
    exact r_total_l p nr h1 hn hQ (nr + 1) 0 (by omega) (by omega)
  · rw [bI_eq] at c1
    unfold ttF at hQ
    rw [c1] at hQ
    refine g_iconst (-1) rfl (by decide) ?_
    refine g_vret rfl trivial ⟨rfl, rfl⟩ (Nat.le_refl _) (Nat.le_refl _) ?_
    exact hQ
set_option maxRecDepth 20000 in
theorem r_top_l {pr : aC} {d : Nat} {u : rS} (p : Int32) (nr : Nat) (h1 : u.1 1 = nI nr) (hn : nr ≤ 220) {Q : Option Value → rS → Prop} (hQ : Q (some (.int (isum (tpQ u nr p) nr))) u) : ∀ (zz : Nat) (x : Nat) (hm : nr - x < zz) (hle : x ≤ nr), rB pr (d + 1) cd_218 (Option.some Jvm.ClassFile.FieldType.int) Q 10 [some (.ref 25), some (.int p), some (.int (isum (tpQ u nr p) x)), some (.int (nI x))] [] u := by
  intro zz
  induction zz with
  | zero => intro x hm hle; exact absurd hm (by omega)
  | succ zz ih =>
    intro x hm hle
    refine g_load rfl rfl rfl trivial ?_
    refine g_load rfl rfl rfl trivial ?_
    refine r_getf rfl rfl ?_
    rw [h1]
    refine g_icmp_ge rfl (fun c1 => ?_) (fun c1 => ?_)
    · rw [nI_leI (by omega) (by omega)] at c1
      have hx : x = nr := by omega
      subst hx
      refine g_load rfl rfl rfl trivial ?_
      exact g_vret rfl trivial ⟨rfl, rfl⟩ (Nat.le_refl _) (Nat.le_refl _) hQ
    rw [nI_leI (by omega) (by omega)] at c1
    refine g_load rfl rfl rfl trivial ?_
    refine r_getf rfl rfl ?_
    refine g_iconst (nI 2) rfl (by decide) ?_
    refine g_load rfl rfl rfl trivial ?_
    refine g_imul rfl ?_
    refine r_ia (2 * x) rfl ⟨by decide, by decide, rfl⟩ (by rw [pk_mul]) (by show _ < 440; omega) ?_
    refine g_load rfl rfl rfl trivial ?_
    refine g_icmp_eq rfl (fun c1 => ?_) (fun c1 => ?_)
    · have hB : tpQ u nr p x = alN u nr x := by simp [tpQ, hrF, c1]
      refine g_load rfl rfl rfl trivial ?_
      refine g_bipush (nI 20) rfl (by decide) ?_
      refine g_load rfl rfl rfl trivial ?_
      refine g_load rfl rfl rfl trivial ?_
      refine r_getf rfl rfl ?_
      refine g_load rfl rfl rfl trivial ?_
      refine r_ia (x) rfl ⟨by decide, by decide, rfl⟩ rfl (by show _ < 220; omega) ?_
      refine g_virtI (a := 25) (ci := 8) (n := 1) [.int (u.2 35 x)] rFr_tr rfl rfl (by decide) rfl r_this rfl (Nat.le_of_ble_eq_true rfl) (Nat.le_refl _) (Nat.le_refl _) (r_resultsOf (u.2 35 x) nr h1 hn ⟨_, rfl, ?_⟩)
      refine g_iconst (nI 1) rfl (by decide) ?_
      refine g_isub rfl ?_
      refine g_imul rfl ?_
      refine g_iadd rfl ?_
      refine g_store [some (.ref 25), some (.int p), some (.int (isum (tpQ u nr p) x + alN u nr x)), some (.int (nI x))] rfl rfl trivial (Nat.le_of_ble_eq_true rfl) rfl ?_
      refine g_iinc (nI (x + 1)) [some (.ref 25), some (.int p), some (.int (isum (tpQ u nr p) x + alN u nr x)), some (.int (nI (x + 1)))] rfl rfl (nI_1 x) rfl ?_
      refine g_goto rfl ?_
      have K := ih (x + 1) (by omega) (by omega)
      rw [show isum (tpQ u nr p) (x + 1) = (isum (tpQ u nr p) x + alN u nr x) by show isum (tpQ u nr p) x + tpQ u nr p x = _; rw [hB]; try rw [Int32.add_zero]] at K
      exact K
    · refine g_load rfl rfl rfl trivial ?_
      refine r_getf rfl rfl ?_
      refine g_iconst (nI 2) rfl (by decide) ?_
      refine g_load rfl rfl rfl trivial ?_
      refine g_imul rfl ?_
      refine g_iconst (nI 1) rfl (by decide) ?_
      refine g_iadd rfl ?_
      refine r_ia (2 * x + 1) rfl ⟨by decide, by decide, rfl⟩ (by rw [pk_mul, nI_add]) (by show _ < 440; omega) ?_
      refine g_load rfl rfl rfl trivial ?_
      refine g_icmp_ne rfl (fun c2 => ?_) (fun c2 => ?_)
      · have hB : tpQ u nr p x = 0 := by simp [tpQ, hrF, *]
        refine g_iinc (nI (x + 1)) [some (.ref 25), some (.int p), some (.int (isum (tpQ u nr p) x)), some (.int (nI (x + 1)))] rfl rfl (nI_1 x) rfl ?_
        refine g_goto rfl ?_
        have K := ih (x + 1) (by omega) (by omega)
        rw [show isum (tpQ u nr p) (x + 1) = (isum (tpQ u nr p) x) by show isum (tpQ u nr p) x + tpQ u nr p x = _; rw [hB]; try rw [Int32.add_zero]] at K
        exact K
      · have hB : tpQ u nr p x = alN u nr x := by simp [tpQ, hrF, c2]
        refine g_load rfl rfl rfl trivial ?_
        refine g_bipush (nI 20) rfl (by decide) ?_
        refine g_load rfl rfl rfl trivial ?_
        refine g_load rfl rfl rfl trivial ?_
        refine r_getf rfl rfl ?_
        refine g_load rfl rfl rfl trivial ?_
        refine r_ia (x) rfl ⟨by decide, by decide, rfl⟩ rfl (by show _ < 220; omega) ?_
        refine g_virtI (a := 25) (ci := 8) (n := 1) [.int (u.2 35 x)] rFr_tr rfl rfl (by decide) rfl r_this rfl (Nat.le_of_ble_eq_true rfl) (Nat.le_refl _) (Nat.le_refl _) (r_resultsOf (u.2 35 x) nr h1 hn ⟨_, rfl, ?_⟩)
        refine g_iconst (nI 1) rfl (by decide) ?_
        refine g_isub rfl ?_
        refine g_imul rfl ?_
        refine g_iadd rfl ?_
        refine g_store [some (.ref 25), some (.int p), some (.int (isum (tpQ u nr p) x + alN u nr x)), some (.int (nI x))] rfl rfl trivial (Nat.le_of_ble_eq_true rfl) rfl ?_
        refine g_iinc (nI (x + 1)) [some (.ref 25), some (.int p), some (.int (isum (tpQ u nr p) x + alN u nr x)), some (.int (nI (x + 1)))] rfl rfl (nI_1 x) rfl ?_
        refine g_goto rfl ?_
        have K := ih (x + 1) (by omega) (by omega)
        rw [show isum (tpQ u nr p) (x + 1) = (isum (tpQ u nr p) x + alN u nr x) by show isum (tpQ u nr p) x + tpQ u nr p x = _; rw [hB]; try rw [Int32.add_zero]] at K
        exact K
set_option maxRecDepth 20000 in
theorem r_top {pr : aC} {d : Nat} {u : rS} (p : Int32) (nr : Nat) (h1 : u.1 1 = nI nr) (hn : nr ≤ 220) {Q : Option Value → rS → Prop} (hQ : Q (some (.int (tpF u nr p))) u) : rR pr (d + 1 + 1) 218 [.ref 25, .int p] u Q := by
  refine gR_of mi_218 rFr_rf rfl (Nat.le_of_ble_eq_true rfl) ?_
  show rB pr (d + 1) cd_218 (Option.some Jvm.ClassFile.FieldType.int) Q 0 [some (.ref 25), some (.int p), none, none] [] u
  refine g_load rfl rfl rfl trivial ?_
  refine g_load rfl rfl rfl trivial ?_
  refine g_virtI (a := 25) (ci := 8) (n := 1) [.int p] rFr_tr rfl rfl (by decide) rfl r_this rfl (Nat.le_of_ble_eq_true rfl) (Nat.le_refl _) (Nat.le_refl _) (r_hasResult p nr h1 hn ⟨_, rfl, ?_⟩)
  refine g_if_ne rfl (fun c1 => ?_) (fun c1 => ?_)
  · rw [bI_ne] at c1
    unfold tpF at hQ
    rw [if_pos c1] at hQ
    refine g_iconst (nI 0) rfl (by decide) ?_
    refine g_store [some (.ref 25), some (.int p), some (.int (nI 0)), none] rfl rfl trivial (Nat.le_of_ble_eq_true rfl) rfl ?_
    refine g_iconst (nI 0) rfl (by decide) ?_
    refine g_store [some (.ref 25), some (.int p), some (.int (nI 0)), some (.int (nI 0))] rfl rfl trivial (Nat.le_of_ble_eq_true rfl) rfl ?_
    exact r_top_l p nr h1 hn hQ (nr + 1) 0 (by omega) (by omega)
  · rw [bI_eq] at c1
    unfold tpF at hQ
    rw [c1] at hQ
    refine g_iconst (-1) rfl (by decide) ?_
    refine g_vret rfl trivial ⟨rfl, rfl⟩ (Nat.le_refl _) (Nat.le_refl _) ?_
    exact hQ
/-- a part as two longs: over, under -/
def ovL (u : rS) (nr : Nat) (p : Int32) : Int64 := if (tpF u nr p).toInt64 = 0 then 1 else (ttF u nr p).toInt64
def unL (u : rS) (nr : Nat) (p : Int32) : Int64 := if (tpF u nr p).toInt64 = 0 then 2 else (tpF u nr p).toInt64
def bpF (u : rS) (nr : Nat) (p : Int32) (q : Nat) : Bool := decide (¬ nI q = p) && (anyN (hrF u (nI q)) nr && decide (ovL u nr p * unL u nr (nI q) < ovL u nr (nI q) * unL u nr p))
def pcF (u : rS) (nr : Nat) (p : Int32) : Int32 := if anyN (hrF u p) nr then nI (1 + cnt (bpF u nr p) 40) else -1
theorem lcmp0 (a : Int64) : lg_cmp a 0 = 0 ↔ a = 0 := by
  unfold lg_cmp
  constructor
  · intro h
    split at h
    · exact absurd h (by decide)
    · rename_i h1
      split at h
      · rename_i h2; exact h2
      · exact absurd h (by decide)
  · intro h; subst h; decide

set_option maxRecDepth 20000 in
theorem r_place_l {pr : aC} {d : Nat} {u : rS} (p : Int32) (nr : Nat) (h1 : u.1 1 = nI nr) (hn : nr ≤ 220) {Q : Option Value → rS → Prop} (hQ : Q (some (.int (nI (1 + cnt (bpF u nr p) 40)))) u) : ∀ (zz : Nat) (x : Nat) (l8 l9 l10 l11 : Option Value) (hm : 40 - x < zz) (hle : x ≤ 40), rB pr (d + 4) cd_219 (Option.some Jvm.ClassFile.FieldType.int) Q 28 [some (.ref 25), some (.int p), some (.int (nI (1 + cnt (bpF u nr p) x))), some (.long (ovL u nr p)), none, some (.long (unL u nr p)), none, some (.int (nI x)), l8, l9, l10, l11] [] u := by
  intro zz
  induction zz with
  | zero => intro x l8 l9 l10 l11 hm hle; exact absurd hm (by omega)
  | succ zz ih =>
    intro x l8 l9 l10 l11 hm hle
    refine g_load rfl rfl rfl trivial ?_
    refine g_bipush (nI 40) rfl (by decide) ?_
    refine g_icmp_ge rfl (fun c1 => ?_) (fun c1 => ?_)
    · rw [nI_leI (by omega) (by omega)] at c1
      have hx : x = 40 := by omega
      subst hx
      refine g_load rfl rfl rfl trivial ?_
      refine g_vret rfl trivial ⟨rfl, rfl⟩ (Nat.le_refl _) (Nat.le_refl _) ?_
      exact hQ
    · rw [nI_leI (by omega) (by omega)] at c1
      refine g_load rfl rfl rfl trivial ?_
      refine g_load rfl rfl rfl trivial ?_
      refine g_icmp_eq rfl (fun c2 => ?_) (fun c2 => ?_)
      · have hc : cnt (bpF u nr p) (x + 1) = cnt (bpF u nr p) x := by simp [cnt, bpF, c2]
        rw [← hc]
        refine g_iinc (nI (x + 1)) [some (.ref 25), some (.int p), some (.int (nI (1 + cnt (bpF u nr p) (x + 1)))), some (.long (ovL u nr p)), none, some (.long (unL u nr p)), none, some (.int (nI (x + 1))), l8, l9, l10, l11] rfl rfl (nI_1 x) rfl ?_
        refine g_goto rfl ?_
        exact ih (x + 1) _ _ _ _ (by omega) (by omega)
      · have hx3 := c2
        refine g_load rfl rfl rfl trivial ?_
        refine g_load rfl rfl rfl trivial ?_
        refine g_virtI (a := 25) (ci := 8) (n := 1) [.int (nI x)] rFr_tr rfl rfl (by decide) rfl r_this rfl (Nat.le_of_ble_eq_true rfl) (Nat.le_refl _) (Nat.le_refl _) (r_hasResult (nI x) nr h1 hn ⟨_, rfl, ?_⟩)
        refine g_if_ne rfl (fun c3 => ?_) (fun c3 => ?_)
        · rw [bI_ne] at c3
          have hx4 := c3
          refine g_load rfl rfl rfl trivial ?_
          refine g_load rfl rfl rfl trivial ?_
          refine g_virtI (a := 25) (ci := 8) (n := 1) [.int (nI x)] rFr_tr rfl rfl (by decide) rfl r_this rfl (Nat.le_of_ble_eq_true rfl) (Nat.le_refl _) (Nat.le_refl _) (r_total (nI x) nr h1 hn ⟨_, rfl, ?_⟩)
          refine g_i2l rfl ?_
          refine g_store [some (.ref 25), some (.int p), some (.int (nI (1 + cnt (bpF u nr p) x))), some (.long (ovL u nr p)), none, some (.long (unL u nr p)), none, some (.int (nI x)), some (.long (Int32.toInt64 (ttF u nr (nI x)))), none, l10, l11] rfl rfl trivial (Nat.le_of_ble_eq_true rfl) rfl ?_
          refine g_load rfl rfl rfl trivial ?_
          refine g_load rfl rfl rfl trivial ?_
          refine g_virtI (a := 25) (ci := 8) (n := 1) [.int (nI x)] rFr_tr rfl rfl (by decide) rfl r_this rfl (Nat.le_of_ble_eq_true rfl) (Nat.le_refl _) (Nat.le_refl _) (r_top (nI x) nr h1 hn ⟨_, rfl, ?_⟩)
          refine g_i2l rfl ?_
          refine g_store [some (.ref 25), some (.int p), some (.int (nI (1 + cnt (bpF u nr p) x))), some (.long (ovL u nr p)), none, some (.long (unL u nr p)), none, some (.int (nI x)), some (.long (Int32.toInt64 (ttF u nr (nI x)))), none, some (.long (Int32.toInt64 (tpF u nr (nI x)))), none] rfl rfl trivial (Nat.le_of_ble_eq_true rfl) rfl ?_
          refine g_load rfl rfl rfl trivial ?_
          refine g_lconst (lN 0) rfl rfl ?_
          refine g_lcmp rfl ?_
          refine g_if_ne rfl (fun c4 => ?_) (fun c4 => ?_)
          · rw [show lN 0 = 0 from rfl, lcmp0] at c4
            have ho : ovL u nr (nI x) = Int32.toInt64 (ttF u nr (nI x)) := if_neg c4
            have hu : unL u nr (nI x) = Int32.toInt64 (tpF u nr (nI x)) := if_neg c4
            refine g_load rfl rfl rfl trivial ?_
            refine g_load rfl rfl rfl trivial ?_
            refine g_lmul rfl ?_
            refine g_load rfl rfl rfl trivial ?_
            refine g_load rfl rfl rfl trivial ?_
            refine g_lmul rfl ?_
            refine g_lcmp rfl ?_
            refine g_if_le rfl (fun c9 => ?_) (fun c9 => ?_)
            · have hc : cnt (bpF u nr p) (x + 1) = cnt (bpF u nr p) x := by
                have hbp : bpF u nr p x = false := by unfold bpF; rw [ho, hu, decide_eq_false (fun q => absurd ((lg_cmp_le _ _).mp c9) (Int64.not_le.mpr q))]; simp
                simp [cnt, hbp]
              rw [← hc]
              refine g_iinc (nI (x + 1)) [some (.ref 25), some (.int p), some (.int (nI (1 + cnt (bpF u nr p) (x + 1)))), some (.long (ovL u nr p)), none, some (.long (unL u nr p)), none, some (.int (nI (x + 1))), some (.long (Int32.toInt64 (ttF u nr (nI x)))), none, some (.long (Int32.toInt64 (tpF u nr (nI x)))), none] rfl rfl (nI_1 x) rfl ?_
              refine g_goto rfl ?_
              exact ih (x + 1) _ _ _ _ (by omega) (by omega)
            · have hc : cnt (bpF u nr p) (x + 1) = cnt (bpF u nr p) x + 1 := by
                have hbp : bpF u nr p x = true := by unfold bpF; rw [ho, hu, decide_eq_true hx3, hx4, decide_eq_true (Int64.not_le.mp (fun q => c9 ((lg_cmp_le _ _).mpr q)))]; rfl
                simp [cnt, hbp]
              refine g_iinc (nI (1 + cnt (bpF u nr p) (x + 1))) [some (.ref 25), some (.int p), some (.int (nI (1 + cnt (bpF u nr p) (x + 1)))), some (.long (ovL u nr p)), none, some (.long (unL u nr p)), none, some (.int (nI x)), some (.long (Int32.toInt64 (ttF u nr (nI x)))), none, some (.long (Int32.toInt64 (tpF u nr (nI x)))), none] rfl rfl (by rw [hc]; exact nI_1 _) rfl ?_
              refine g_iinc (nI (x + 1)) [some (.ref 25), some (.int p), some (.int (nI (1 + cnt (bpF u nr p) (x + 1)))), some (.long (ovL u nr p)), none, some (.long (unL u nr p)), none, some (.int (nI (x + 1))), some (.long (Int32.toInt64 (ttF u nr (nI x)))), none, some (.long (Int32.toInt64 (tpF u nr (nI x)))), none] rfl rfl (nI_1 x) rfl ?_
              refine g_goto rfl ?_
              exact ih (x + 1) _ _ _ _ (by omega) (by omega)
          · rw [show lN 0 = 0 from rfl, lcmp0] at c4
            have ho : ovL u nr (nI x) = lN 1 := if_pos c4
            have hu : unL u nr (nI x) = 2 := if_pos c4
            refine g_lconst (lN 1) rfl rfl ?_
            refine g_store [some (.ref 25), some (.int p), some (.int (nI (1 + cnt (bpF u nr p) x))), some (.long (ovL u nr p)), none, some (.long (unL u nr p)), none, some (.int (nI x)), some (.long (lN 1)), none, some (.long (Int32.toInt64 (tpF u nr (nI x)))), none] rfl rfl trivial (Nat.le_of_ble_eq_true rfl) rfl ?_
            refine g_ldc2 (2) rfl (by decide) ?_
            refine g_store [some (.ref 25), some (.int p), some (.int (nI (1 + cnt (bpF u nr p) x))), some (.long (ovL u nr p)), none, some (.long (unL u nr p)), none, some (.int (nI x)), some (.long (lN 1)), none, some (.long 2), none] rfl rfl trivial (Nat.le_of_ble_eq_true rfl) rfl ?_
            refine g_load rfl rfl rfl trivial ?_
            refine g_load rfl rfl rfl trivial ?_
            refine g_lmul rfl ?_
            refine g_load rfl rfl rfl trivial ?_
            refine g_load rfl rfl rfl trivial ?_
            refine g_lmul rfl ?_
            refine g_lcmp rfl ?_
            refine g_if_le rfl (fun c9 => ?_) (fun c9 => ?_)
            · have hc : cnt (bpF u nr p) (x + 1) = cnt (bpF u nr p) x := by
                have hbp : bpF u nr p x = false := by unfold bpF; rw [ho, hu, decide_eq_false (fun q => absurd ((lg_cmp_le _ _).mp c9) (Int64.not_le.mpr q))]; simp
                simp [cnt, hbp]
              rw [← hc]
              refine g_iinc (nI (x + 1)) [some (.ref 25), some (.int p), some (.int (nI (1 + cnt (bpF u nr p) (x + 1)))), some (.long (ovL u nr p)), none, some (.long (unL u nr p)), none, some (.int (nI (x + 1))), some (.long (lN 1)), none, some (.long 2), none] rfl rfl (nI_1 x) rfl ?_
              refine g_goto rfl ?_
              exact ih (x + 1) _ _ _ _ (by omega) (by omega)
            · have hc : cnt (bpF u nr p) (x + 1) = cnt (bpF u nr p) x + 1 := by
                have hbp : bpF u nr p x = true := by unfold bpF; rw [ho, hu, decide_eq_true hx3, hx4, decide_eq_true (Int64.not_le.mp (fun q => c9 ((lg_cmp_le _ _).mpr q)))]; rfl
                simp [cnt, hbp]
              refine g_iinc (nI (1 + cnt (bpF u nr p) (x + 1))) [some (.ref 25), some (.int p), some (.int (nI (1 + cnt (bpF u nr p) (x + 1)))), some (.long (ovL u nr p)), none, some (.long (unL u nr p)), none, some (.int (nI x)), some (.long (lN 1)), none, some (.long 2), none] rfl rfl (by rw [hc]; exact nI_1 _) rfl ?_
              refine g_iinc (nI (x + 1)) [some (.ref 25), some (.int p), some (.int (nI (1 + cnt (bpF u nr p) (x + 1)))), some (.long (ovL u nr p)), none, some (.long (unL u nr p)), none, some (.int (nI (x + 1))), some (.long (lN 1)), none, some (.long 2), none] rfl rfl (nI_1 x) rfl ?_
              refine g_goto rfl ?_
              exact ih (x + 1) _ _ _ _ (by omega) (by omega)
        · rw [bI_eq] at c3
          have hc : cnt (bpF u nr p) (x + 1) = cnt (bpF u nr p) x := by simp [cnt, bpF, c3]
          rw [← hc]
          refine g_goto rfl ?_
          refine g_iinc (nI (x + 1)) [some (.ref 25), some (.int p), some (.int (nI (1 + cnt (bpF u nr p) (x + 1)))), some (.long (ovL u nr p)), none, some (.long (unL u nr p)), none, some (.int (nI (x + 1))), l8, l9, l10, l11] rfl rfl (nI_1 x) rfl ?_
          refine g_goto rfl ?_
          exact ih (x + 1) _ _ _ _ (by omega) (by omega)
set_option maxRecDepth 20000 in
theorem r_place_2 {pr : aC} {d : Nat} {u : rS} (p : Int32) (nr : Nat) (h1 : u.1 1 = nI nr) (hn : nr ≤ 220) {Q : Option Value → rS → Prop} (hQ : Q (some (.int (nI (1 + cnt (bpF u nr p) 40)))) u) : rB pr (d + 4) cd_219 (Option.some Jvm.ClassFile.FieldType.int) Q 26 [some (.ref 25), some (.int p), some (.int (nI 1)), some (.long (ovL u nr p)), none, some (.long (unL u nr p)), none, none, none, none, none, none] [] u := by
  refine g_iconst (nI 0) rfl (by decide) ?_
  refine g_store [some (.ref 25), some (.int p), some (.int (nI 1)), some (.long (ovL u nr p)), none, some (.long (unL u nr p)), none, some (.int (nI 0)), none, none, none, none] rfl rfl trivial (Nat.le_of_ble_eq_true rfl) rfl ?_
  exact r_place_l p nr h1 hn hQ 41 0 _ _ _ _ (by omega) (by omega)
set_option maxRecDepth 20000 in
theorem r_place {pr : aC} {d : Nat} {u : rS} (p : Int32) (nr : Nat) (h1 : u.1 1 = nI nr) (hn : nr ≤ 220) {Q : Option Value → rS → Prop} (hQ : Q (some (.int (pcF u nr p))) u) : rR pr (d + 4 + 1) 219 [.ref 25, .int p] u Q := by
  refine gR_of mi_219 rFr_rf rfl (Nat.le_of_ble_eq_true rfl) ?_
  show rB pr (d + 4) cd_219 (Option.some Jvm.ClassFile.FieldType.int) Q 0 [some (.ref 25), some (.int p), none, none, none, none, none, none, none, none, none, none] [] u
  refine g_load rfl rfl rfl trivial ?_
  refine g_load rfl rfl rfl trivial ?_
  refine g_virtI (a := 25) (ci := 8) (n := 1) [.int p] rFr_tr rfl rfl (by decide) rfl r_this rfl (Nat.le_of_ble_eq_true rfl) (Nat.le_refl _) (Nat.le_refl _) (r_hasResult p nr h1 hn ⟨_, rfl, ?_⟩)
  refine g_if_ne rfl (fun c1 => ?_) (fun c1 => ?_)
  · rw [bI_ne] at c1
    unfold pcF at hQ
    rw [if_pos c1] at hQ
    refine g_iconst (nI 1) rfl (by decide) ?_
    refine g_store [some (.ref 25), some (.int p), some (.int (nI 1)), none, none, none, none, none, none, none, none, none] rfl rfl trivial (Nat.le_of_ble_eq_true rfl) rfl ?_
    refine g_load rfl rfl rfl trivial ?_
    refine g_load rfl rfl rfl trivial ?_
    refine g_virtI (a := 25) (ci := 8) (n := 1) [.int p] rFr_tr rfl rfl (by decide) rfl r_this rfl (Nat.le_of_ble_eq_true rfl) (Nat.le_refl _) (Nat.le_refl _) (r_total p nr h1 hn ⟨_, rfl, ?_⟩)
    refine g_i2l rfl ?_
    refine g_store [some (.ref 25), some (.int p), some (.int (nI 1)), some (.long (Int32.toInt64 (ttF u nr p))), none, none, none, none, none, none, none, none] rfl rfl trivial (Nat.le_of_ble_eq_true rfl) rfl ?_
    refine g_load rfl rfl rfl trivial ?_
    refine g_load rfl rfl rfl trivial ?_
    refine g_virtI (a := 25) (ci := 8) (n := 1) [.int p] rFr_tr rfl rfl (by decide) rfl r_this rfl (Nat.le_of_ble_eq_true rfl) (Nat.le_refl _) (Nat.le_refl _) (r_top p nr h1 hn ⟨_, rfl, ?_⟩)
    refine g_i2l rfl ?_
    refine g_store [some (.ref 25), some (.int p), some (.int (nI 1)), some (.long (Int32.toInt64 (ttF u nr p))), none, some (.long (Int32.toInt64 (tpF u nr p))), none, none, none, none, none, none] rfl rfl trivial (Nat.le_of_ble_eq_true rfl) rfl ?_
    refine g_load rfl rfl rfl trivial ?_
    refine g_lconst (lN 0) rfl rfl ?_
    refine g_lcmp rfl ?_
    refine g_if_ne rfl (fun c2 => ?_) (fun c2 => ?_)
    · rw [show lN 0 = 0 from rfl, lcmp0] at c2
      have ho : ovL u nr p = Int32.toInt64 (ttF u nr p) := if_neg c2
      have hu : unL u nr p = Int32.toInt64 (tpF u nr p) := if_neg c2
      rw [← ho, ← hu]
      exact r_place_2 p nr h1 hn hQ
    · rw [show lN 0 = 0 from rfl, lcmp0] at c2
      have ho : ovL u nr p = lN 1 := if_pos c2
      have hu : unL u nr p = 2 := if_pos c2
      refine g_lconst (lN 1) rfl rfl ?_
      rw [← ho]
      refine g_store [some (.ref 25), some (.int p), some (.int (nI 1)), some (.long (ovL u nr p)), none, some (.long (Int32.toInt64 (tpF u nr p))), none, none, none, none, none, none] rfl rfl trivial (Nat.le_of_ble_eq_true rfl) rfl ?_
      refine g_ldc2 (2) rfl (by decide) ?_
      rw [← hu]
      refine g_store [some (.ref 25), some (.int p), some (.int (nI 1)), some (.long (ovL u nr p)), none, some (.long (unL u nr p)), none, none, none, none, none, none] rfl rfl trivial (Nat.le_of_ble_eq_true rfl) rfl ?_
      exact r_place_2 p nr h1 hn hQ
  · rw [bI_eq] at c1
    unfold pcF at hQ
    rw [c1] at hQ
    refine g_iconst (-1) rfl (by decide) ?_
    refine g_vret rfl trivial ⟨rfl, rfl⟩ (Nat.le_refl _) (Nat.le_refl _) ?_
    exact hQ
end
section
/-! ===== the reference: plans, signs, counts, boards, swaps ===== -/
def moF (a n : Int32) : Int32 := if a - a / n * n < 0 then a - a / n * n + n else a - a / n * n
def evN (t : Int32) : Bool := decide (t - t / nI 2 * nI 2 = 0)
def pnS (t r : Int32) : Int32 := if evN t && decide (t / nI 2 ≤ r) then 1 else 0
def pnOk (t r k : Int32) : Bool := inF t 3 10 && (inF r 0 (if evN t then t - nI 2 else t - nI 1) && inF k 0 (t - nI 1))
def pnF (t r k w : Int32) : Int32 := if pnOk t r k then (if w = 0 then k else if w = nI 1 then t + moF (k - r - pnS t r) t else if w = nI 2 then moF (k + r) t else -1) else -1
set_option maxRecDepth 20000 in
theorem r_plan_2 {pr : aC} {d : Nat} {u : rS} (t r k w : Int32) (hok : pnOk t r k = true) (ht : ¬ t = 0) {Q : Option Value → rS → Prop} (hQ : Q (some (.int (pnF t r k w))) u) : rB pr (d + 1) cd_220 (Option.some Jvm.ClassFile.FieldType.int) Q 42 [some (.ref 25), some (.int t), some (.int r), some (.int k), some (.int w), some (.int (pnS t r))] [] u := by
  refine g_load rfl rfl rfl trivial ?_
  refine g_if_ne rfl (fun c1 => ?_) (fun c1 => ?_)
  · have w0 := c1
    refine g_load rfl rfl rfl trivial ?_
    refine g_iconst (nI 1) rfl (by decide) ?_
    refine g_icmp_ne rfl (fun c2 => ?_) (fun c2 => ?_)
    · have w1 := c2
      refine g_load rfl rfl rfl trivial ?_
      refine g_iconst (nI 2) rfl (by decide) ?_
      refine g_icmp_ne rfl (fun c3 => ?_) (fun c3 => ?_)
      · rw [show pnF t r k w = -1 by unfold pnF; rw [hok, if_pos rfl, if_neg w0, if_neg w1, if_neg c3]] at hQ
        refine g_iconst (-1) rfl (by decide) ?_
        refine g_vret rfl trivial ⟨rfl, rfl⟩ (Nat.le_refl _) (Nat.le_refl _) ?_
        exact hQ
      · rw [show pnF t r k w = moF (k + r) t by unfold pnF; rw [hok, if_pos rfl, if_neg w0, if_neg w1, if_pos c3]] at hQ
        refine g_load rfl rfl rfl trivial ?_
        refine g_load rfl rfl rfl trivial ?_
        refine g_iadd rfl ?_
        refine g_load rfl rfl rfl trivial ?_
        refine g_statI [.int (k + r), .int t] rFr_tr rfl rfl rfl (Nat.le_of_ble_eq_true rfl) (Nat.le_refl _) (Nat.le_refl _) (r_modulo (k + r) t ht ⟨_, rfl, ?_⟩)
        refine g_goto rfl ?_
        refine g_vret rfl trivial ⟨rfl, rfl⟩ (Nat.le_refl _) (Nat.le_refl _) ?_
        exact hQ
    · rw [show pnF t r k w = t + moF (k - r - pnS t r) t by unfold pnF; rw [hok, if_pos rfl, if_neg w0, if_pos c2]] at hQ
      refine g_load rfl rfl rfl trivial ?_
      refine g_load rfl rfl rfl trivial ?_
      refine g_load rfl rfl rfl trivial ?_
      refine g_isub rfl ?_
      refine g_load rfl rfl rfl trivial ?_
      refine g_isub rfl ?_
      refine g_load rfl rfl rfl trivial ?_
      refine g_statI [.int (k - r - pnS t r), .int t] rFr_tr rfl rfl rfl (Nat.le_of_ble_eq_true rfl) (Nat.le_refl _) (Nat.le_refl _) (r_modulo (k - r - pnS t r) t ht ⟨_, rfl, ?_⟩)
      refine g_iadd rfl ?_
      refine g_goto rfl ?_
      refine g_vret rfl trivial ⟨rfl, rfl⟩ (Nat.le_refl _) (Nat.le_refl _) ?_
      exact hQ
  · rw [show pnF t r k w = k by unfold pnF; rw [hok, if_pos rfl, if_pos c1]] at hQ
    refine g_load rfl rfl rfl trivial ?_
    refine g_goto rfl ?_
    refine g_vret rfl trivial ⟨rfl, rfl⟩ (Nat.le_refl _) (Nat.le_refl _) ?_
    exact hQ
set_option maxRecDepth 20000 in
theorem r_plan {pr : aC} {d : Nat} {u : rS} (t r k w : Int32) {Q : Option Value → rS → Prop} (hQ : Q (some (.int (pnF t r k w))) u) : rR pr (d + 1 + 1) 220 [.ref 25, .int t, .int r, .int k, .int w] u Q := by
  refine gR_of mi_220 rFr_rf rfl (Nat.le_of_ble_eq_true rfl) ?_
  show rB pr (d + 1) cd_220 (Option.some Jvm.ClassFile.FieldType.int) Q 0 [some (.ref 25), some (.int t), some (.int r), some (.int k), some (.int w), none] [] u
  refine g_load rfl rfl rfl trivial ?_
  refine g_iconst (nI 3) rfl (by decide) ?_
  refine g_bipush (nI 10) rfl (by decide) ?_
  refine g_statI [.int t, .int (nI 3), .int (nI 10)] rFr_tr rfl rfl rfl (Nat.le_of_ble_eq_true rfl) (Nat.le_refl _) (Nat.le_refl _) (r_in t 3 10 ⟨_, rfl, ?_⟩)
  refine g_if_eq rfl (fun c1 => ?_) (fun c1 => ?_)
  · rw [bI_eq] at c1
    rw [show pnF t r k w = -1 by simp [pnF, pnOk, *]] at hQ
    refine g_iconst (-1) rfl (by decide) ?_
    refine g_vret rfl trivial ⟨rfl, rfl⟩ (Nat.le_refl _) (Nat.le_refl _) ?_
    exact hQ
  · rw [bI_ne] at c1
    have ht0 : ¬ t = 0 := by intro q; subst q; exact absurd c1 (by decide)
    refine g_load rfl rfl rfl trivial ?_
    refine g_iconst (nI 0) rfl (by decide) ?_
    refine g_load rfl rfl rfl trivial ?_
    refine g_iconst (nI 2) rfl (by decide) ?_
    refine g_irem rfl (by decide) ?_
    have K2 : ∀ e2 : Int32, e2 = (if evN t then t - nI 2 else t - nI 1) → rB pr (d + 1) cd_220 (Option.some Jvm.ClassFile.FieldType.int) Q 18 [some (.ref 25), some (.int t), some (.int r), some (.int k), some (.int w), none] [.int e2, .int (nI 0), .int r] u := by
      intro e2 he2
      subst he2
      refine g_statI [.int r, .int (nI 0), .int (if evN t then t - nI 2 else t - nI 1)] rFr_tr rfl rfl rfl (Nat.le_of_ble_eq_true rfl) (Nat.le_refl _) (Nat.le_refl _) (r_in r 0 (if evN t then t - nI 2 else t - nI 1) ⟨_, rfl, ?_⟩)
      refine g_if_eq rfl (fun c3 => ?_) (fun c3 => ?_)
      · rw [bI_eq] at c3
        rw [show pnF t r k w = -1 by simp [pnF, pnOk, *]] at hQ
        refine g_iconst (-1) rfl (by decide) ?_
        refine g_vret rfl trivial ⟨rfl, rfl⟩ (Nat.le_refl _) (Nat.le_refl _) ?_
        exact hQ
      · rw [bI_ne] at c3
        refine g_load rfl rfl rfl trivial ?_
        refine g_iconst (nI 0) rfl (by decide) ?_
        refine g_load rfl rfl rfl trivial ?_
        refine g_iconst (nI 1) rfl (by decide) ?_
        refine g_isub rfl ?_
        refine g_statI [.int k, .int (nI 0), .int (t - nI 1)] rFr_tr rfl rfl rfl (Nat.le_of_ble_eq_true rfl) (Nat.le_refl _) (Nat.le_refl _) (r_in k 0 (t - nI 1) ⟨_, rfl, ?_⟩)
        refine g_if_ne rfl (fun c4 => ?_) (fun c4 => ?_)
        · rw [bI_ne] at c4
          have hok : pnOk t r k = true := by simp [pnOk, *]
          refine g_load rfl rfl rfl trivial ?_
          refine g_iconst (nI 2) rfl (by decide) ?_
          refine g_irem rfl (by decide) ?_
          refine g_if_ne rfl (fun c5 => ?_) (fun c5 => ?_)
          · have hs : nI 0 = pnS t r := by simp [pnS, evN, c5, nI_0]
            refine g_iconst (nI 0) rfl (by decide) ?_
            rw [hs]
            refine g_store [some (.ref 25), some (.int t), some (.int r), some (.int k), some (.int w), some (.int (pnS t r))] rfl rfl trivial (Nat.le_of_ble_eq_true rfl) rfl ?_
            exact r_plan_2 t r k w hok ht0 hQ
          · have hev := c5
            refine g_load rfl rfl rfl trivial ?_
            refine g_load rfl rfl rfl trivial ?_
            refine g_iconst (nI 2) rfl (by decide) ?_
            refine g_idiv rfl (by decide) ?_
            refine g_icmp_lt rfl (fun c6 => ?_) (fun c6 => ?_)
            · have hs : nI 0 = pnS t r := by
                have : ¬ t / nI 2 ≤ r := by rw [Int32.not_le]; exact c6
                simp [pnS, this, nI_0]
              refine g_iconst (nI 0) rfl (by decide) ?_
              rw [hs]
              refine g_store [some (.ref 25), some (.int t), some (.int r), some (.int k), some (.int w), some (.int (pnS t r))] rfl rfl trivial (Nat.le_of_ble_eq_true rfl) rfl ?_
              exact r_plan_2 t r k w hok ht0 hQ
            · have hs : nI 1 = pnS t r := by
                have : t / nI 2 ≤ r := by rw [← Int32.not_lt]; exact c6
                simp [pnS, evN, hev, this, nI1]
              refine g_iconst (nI 1) rfl (by decide) ?_
              refine g_goto rfl ?_
              rw [hs]
              refine g_store [some (.ref 25), some (.int t), some (.int r), some (.int k), some (.int w), some (.int (pnS t r))] rfl rfl trivial (Nat.le_of_ble_eq_true rfl) rfl ?_
              exact r_plan_2 t r k w hok ht0 hQ
        · rw [bI_eq] at c4
          rw [show pnF t r k w = -1 by simp [pnF, pnOk, *]] at hQ
          refine g_iconst (-1) rfl (by decide) ?_
          refine g_vret rfl trivial ⟨rfl, rfl⟩ (Nat.le_refl _) (Nat.le_refl _) ?_
          exact hQ
    refine g_if_ne rfl (fun c2 => ?_) (fun c2 => ?_)
    · refine g_load rfl rfl rfl trivial ?_
      refine g_iconst (nI 1) rfl (by decide) ?_
      refine g_isub rfl ?_
      exact K2 _ (by simp [evN, *])
    · refine g_load rfl rfl rfl trivial ?_
      refine g_iconst (nI 2) rfl (by decide) ?_
      refine g_isub rfl ?_
      refine g_goto rfl ?_
      exact K2 _ (by simp [evN, *])
set_option maxRecDepth 20000 in
theorem r_puts {pr : aC} {d : Nat} {u : rS} (c : Int32) (n : Nat) (hn : u.1 22 = nI n) (hn2 : n < 20) {Q : Option Value → rS → Prop} (hQ : Q none (upd u.1 22 (nI (n + 1)), rU u.2 45 n c)) : rR pr (d + 1) 221 [.ref 25, .int c] u Q := by
  refine gR_of mi_221 rFr_rf rfl (Nat.le_of_ble_eq_true rfl) ?_
  show rB pr (d) cd_221 none Q 0 [some (.ref 25), some (.int c)] [] u
  refine g_load rfl rfl rfl trivial ?_
  refine r_getf rfl rfl ?_
  refine g_load rfl rfl rfl trivial ?_
  refine r_getf rfl rfl ?_
  refine g_load rfl rfl rfl trivial ?_
  rw [hn]
  refine r_ias (n) rfl ⟨by decide, by decide, rfl⟩ rfl (by show _ < 20; omega) ?_
  refine g_load rfl rfl rfl trivial ?_
  refine g_dup rfl rfl ?_
  refine r_getf rfl rfl ?_
  refine g_iconst (nI 1) rfl (by decide) ?_
  rw [show ((u.1, rU u.2 45 n c) : rS).1 22 = nI n from hn]
  refine g_iadd rfl ?_
  rw [nI_add]
  refine r_puti rfl (by simp [rIs]) ?_
  refine g_ret rfl rfl (Nat.le_refl _) (Nat.le_refl _) ?_
  exact hQ
def otG (u : rS) (i : Int32) : Int32 := if inF i 0 (u.1 22 - nI 1) then u.2 45 i.toNatClampNeg else -1
set_option maxRecDepth 20000 in
theorem r_out {pr : aC} {d : Nat} {u : rS} (i : Int32) (n : Nat) (hn : u.1 22 = nI n) (hn2 : n ≤ 20) {Q : Option Value → rS → Prop} (hQ : Q (some (.int (otG u i))) u) : rR pr (d + 1 + 1) 223 [.ref 25, .int i] u Q := by
  refine gR_of mi_223 rFr_rf rfl (Nat.le_of_ble_eq_true rfl) ?_
  show rB pr (d + 1) cd_223 (Option.some Jvm.ClassFile.FieldType.int) Q 0 [some (.ref 25), some (.int i)] [] u
  refine g_load rfl rfl rfl trivial ?_
  refine g_iconst (nI 0) rfl (by decide) ?_
  refine g_load rfl rfl rfl trivial ?_
  refine r_getf rfl rfl ?_
  refine g_iconst (nI 1) rfl (by decide) ?_
  refine g_isub rfl ?_
  rw [hn, pI_eq]
  refine g_statI [.int i, .int (nI 0), .int (pI n)] rFr_tr rfl rfl rfl (Nat.le_of_ble_eq_true rfl) (Nat.le_refl _) (Nat.le_refl _) (r_in i 0 (pI n) ⟨_, rfl, ?_⟩)
  refine g_if_eq rfl (fun c1 => ?_) (fun c1 => ?_)
  · rw [bI_eq] at c1
    rw [show otG u i = -1 by unfold otG; rw [hn, pI_eq, c1]; rfl] at hQ
    refine g_iconst (-1) rfl (by decide) ?_
    refine g_vret rfl trivial ⟨rfl, rfl⟩ (Nat.le_refl _) (Nat.le_refl _) ?_
    exact hQ
  · rw [bI_ne] at c1
    obtain ⟨i', hi, rfl⟩ := in_pI c1 (by omega)
    rw [show otG u (nI i') = u.2 45 i' by unfold otG; rw [hn, pI_eq, if_pos c1, nI_clamp (by omega)]] at hQ
    refine g_load rfl rfl rfl trivial ?_
    refine r_getf rfl rfl ?_
    refine g_load rfl rfl rfl trivial ?_
    refine r_ia (i') rfl ⟨by decide, by decide, rfl⟩ rfl (by show _ < 20; omega) ?_
    refine g_goto rfl ?_
    refine g_vret rfl trivial ⟨rfl, rfl⟩ (Nat.le_refl _) (Nat.le_refl _) ?_
    exact hQ
set_option maxRecDepth 20000 in
theorem r_count_t {pr : aC} {d : Nat} {u : rS} (w : Int32) {Q : Option Value → rS → Prop} (hQ : Q (some (.int (nI (cnt (fun t => decide (¬ u.2 28 t = 0)) 10)))) u) : ∀ (zz : Nat) (x : Nat) (hm : 10 - x < zz) (hle : x ≤ 10), rB pr (d) cd_224 (Option.some Jvm.ClassFile.FieldType.int) Q 12 [some (.ref 25), some (.int w), some (.int (nI (cnt (fun t => decide (¬ u.2 28 t = 0)) x))), some (.int (nI x))] [] u := by
  intro zz
  induction zz with
  | zero => intro x hm hle; exact absurd hm (by omega)
  | succ zz ih =>
    intro x hm hle
    refine g_load rfl rfl rfl trivial ?_
    refine g_bipush (nI 10) rfl (by decide) ?_
    refine g_icmp_ge rfl (fun c1 => ?_) (fun c1 => ?_)
    · rw [nI_leI (by omega) (by omega)] at c1
      have hx : x = 10 := by omega
      subst hx
      refine g_load rfl rfl rfl trivial ?_
      refine g_vret rfl trivial ⟨rfl, rfl⟩ (Nat.le_refl _) (Nat.le_refl _) ?_
      exact hQ
    · rw [nI_leI (by omega) (by omega)] at c1
      refine g_load rfl rfl rfl trivial ?_
      refine g_load rfl rfl rfl trivial ?_
      refine r_getf rfl rfl ?_
      refine g_load rfl rfl rfl trivial ?_
      refine r_ia (x) rfl ⟨by decide, by decide, rfl⟩ rfl (by show _ < 10; omega) ?_
      have K2 : ∀ e2 : Int32, e2 = nI (if ¬ u.2 28 x = 0 then 1 else 0) → rB pr (d) cd_224 (Option.some Jvm.ClassFile.FieldType.int) Q 24 [some (.ref 25), some (.int w), some (.int (nI (cnt (fun t => decide (¬ u.2 28 t = 0)) x))), some (.int (nI x))] [.int e2, .int (nI (cnt (fun t => decide (¬ u.2 28 t = 0)) x))] u := by
        intro e2 he2
        subst he2
        refine g_iadd rfl ?_
        rw [nI_add, show cnt (fun t => decide (¬ u.2 28 t = 0)) x + (if ¬ u.2 28 x = 0 then 1 else 0) = cnt (fun t => decide (¬ u.2 28 t = 0)) (x + 1) by simp [cnt]]
        refine g_store [some (.ref 25), some (.int w), some (.int (nI (cnt (fun t => decide (¬ u.2 28 t = 0)) (x + 1)))), some (.int (nI x))] rfl rfl trivial (Nat.le_of_ble_eq_true rfl) rfl ?_
        refine g_iinc (nI (x + 1)) [some (.ref 25), some (.int w), some (.int (nI (cnt (fun t => decide (¬ u.2 28 t = 0)) (x + 1)))), some (.int (nI (x + 1)))] rfl rfl (nI_1 x) rfl ?_
        refine g_goto rfl ?_
        exact ih (x + 1) (by omega) (by omega)
      refine g_if_eq rfl (fun c2 => ?_) (fun c2 => ?_)
      · refine g_iconst (nI 0) rfl (by decide) ?_
        exact K2 _ (by simp [*])
      · refine g_iconst (nI 1) rfl (by decide) ?_
        refine g_goto rfl ?_
        exact K2 _ (by simp [*])
set_option maxRecDepth 20000 in
theorem r_count_p {pr : aC} {d : Nat} {u : rS} (w : Int32) (nr : Nat) (h1 : u.1 1 = nI nr) (hn : nr ≤ 220) {Q : Option Value → rS → Prop} (hQ : Q (some (.int (nI (cnt (fun p => anyN (hrF u (nI p)) nr) 40)))) u) : ∀ (zz : Nat) (x : Nat) (hm : 40 - x < zz) (hle : x ≤ 40), rB pr (d + 1) cd_224 (Option.some Jvm.ClassFile.FieldType.int) Q 32 [some (.ref 25), some (.int w), some (.int (nI (cnt (fun p => anyN (hrF u (nI p)) nr) x))), some (.int (nI x))] [] u := by
  intro zz
  induction zz with
  | zero => intro x hm hle; exact absurd hm (by omega)
  | succ zz ih =>
    intro x hm hle
    refine g_load rfl rfl rfl trivial ?_
    refine g_bipush (nI 40) rfl (by decide) ?_
    refine g_icmp_ge rfl (fun c1 => ?_) (fun c1 => ?_)
    · rw [nI_leI (by omega) (by omega)] at c1
      have hx : x = 40 := by omega
      subst hx
      refine g_load rfl rfl rfl trivial ?_
      refine g_vret rfl trivial ⟨rfl, rfl⟩ (Nat.le_refl _) (Nat.le_refl _) ?_
      exact hQ
    · rw [nI_leI (by omega) (by omega)] at c1
      refine g_load rfl rfl rfl trivial ?_
      refine g_load rfl rfl rfl trivial ?_
      refine g_load rfl rfl rfl trivial ?_
      refine g_virtI (a := 25) (ci := 8) (n := 1) [.int (nI x)] rFr_tr rfl rfl (by decide) rfl r_this rfl (Nat.le_of_ble_eq_true rfl) (Nat.le_refl _) (Nat.le_refl _) (r_hasResult (nI x) nr h1 hn ⟨_, rfl, ?_⟩)
      have K2 : ∀ e2 : Int32, e2 = nI (if anyN (hrF u (nI x)) nr = true then 1 else 0) → rB pr (d + 1) cd_224 (Option.some Jvm.ClassFile.FieldType.int) Q 43 [some (.ref 25), some (.int w), some (.int (nI (cnt (fun p => anyN (hrF u (nI p)) nr) x))), some (.int (nI x))] [.int e2, .int (nI (cnt (fun p => anyN (hrF u (nI p)) nr) x))] u := by
        intro e2 he2
        subst he2
        refine g_iadd rfl ?_
        rw [nI_add, show cnt (fun p => anyN (hrF u (nI p)) nr) x + (if anyN (hrF u (nI x)) nr = true then 1 else 0) = cnt (fun p => anyN (hrF u (nI p)) nr) (x + 1) by simp [cnt]]
        refine g_store [some (.ref 25), some (.int w), some (.int (nI (cnt (fun p => anyN (hrF u (nI p)) nr) (x + 1)))), some (.int (nI x))] rfl rfl trivial (Nat.le_of_ble_eq_true rfl) rfl ?_
        refine g_iinc (nI (x + 1)) [some (.ref 25), some (.int w), some (.int (nI (cnt (fun p => anyN (hrF u (nI p)) nr) (x + 1)))), some (.int (nI (x + 1)))] rfl rfl (nI_1 x) rfl ?_
        refine g_goto rfl ?_
        exact ih (x + 1) (by omega) (by omega)
      refine g_if_eq rfl (fun c2 => ?_) (fun c2 => ?_)
      · rw [bI_eq] at c2
        refine g_iconst (nI 0) rfl (by decide) ?_
        exact K2 _ (by simp [*])
      · rw [bI_ne] at c2
        refine g_iconst (nI 1) rfl (by decide) ?_
        refine g_goto rfl ?_
        exact K2 _ (by simp [*])
def ctF (u : rS) (nr : Nat) (w : Int32) : Int32 := if w = nI 0 then u.1 0 else if w = nI 1 then u.1 1 else if w = nI 2 then nI (cnt (fun t => decide (¬ u.2 28 t = 0)) 10) else if w = nI 3 then nI (cnt (fun p => anyN (hrF u (nI p)) nr) 40) else -1
theorem nI_ne' : ∀ a, a < 4 → ∀ b, b < 4 → a ≠ b → ¬ nI a = nI b := by decide
set_option maxRecDepth 20000 in
theorem r_count {pr : aC} {d : Nat} {u : rS} (w : Int32) (nr : Nat) (h1 : u.1 1 = nI nr) (hn : nr ≤ 220) {Q : Option Value → rS → Prop} (hQ : Q (some (.int (ctF u nr w))) u) : rR pr (d + 1 + 1) 224 [.ref 25, .int w] u Q := by
  refine gR_of mi_224 rFr_rf rfl (Nat.le_of_ble_eq_true rfl) ?_
  show rB pr (d + 1) cd_224 (Option.some Jvm.ClassFile.FieldType.int) Q 0 [some (.ref 25), some (.int w), none, none] [] u
  refine g_iconst (nI 0) rfl (by decide) ?_
  refine g_store [some (.ref 25), some (.int w), some (.int (nI 0)), none] rfl rfl trivial (Nat.le_of_ble_eq_true rfl) rfl ?_
  refine g_load rfl rfl rfl trivial ?_
  by_cases hsw : w.toInt < 0 ∨ 3 < w.toInt
  · refine g_tabOut 49 rfl hsw rfl ?_
    have hs := fun k (hk : k ≤ 3) => sw_ne (k := k) hsw hk (by decide)
    rw [show ctF u nr w = -1 by unfold ctF; rw [if_neg (hs 0 (by omega)), if_neg (hs 1 (by omega)), if_neg (hs 2 (by omega)), if_neg (hs 3 (by omega))]] at hQ
    refine g_iconst (-1) rfl (by decide) ?_
    refine g_vret rfl trivial ⟨rfl, rfl⟩ (Nat.le_refl _) (Nat.le_refl _) ?_
    exact hQ
  obtain ⟨ksw, hk, rfl⟩ := sw_of (x := w) (n := 3) hsw
  rcases (show ksw = 0 ∨ ksw = 1 ∨ ksw = 2 ∨ ksw = 3 by omega) with rfl | rfl | rfl | rfl
  · refine g_tabIn (29) 4 rfl (by decide) (by decide) rfl rfl ?_
    rw [show ctF u nr (nI 0) = u.1 0 by rfl] at hQ
    refine g_load rfl rfl rfl trivial ?_
    refine r_getf rfl rfl ?_
    refine g_vret rfl trivial ⟨rfl, rfl⟩ (Nat.le_refl _) (Nat.le_refl _) ?_
    exact hQ
  · refine g_tabIn (34) 7 rfl (by decide) (by decide) rfl rfl ?_
    rw [show ctF u nr (nI 1) = u.1 1 by rfl] at hQ
    refine g_load rfl rfl rfl trivial ?_
    refine r_getf rfl rfl ?_
    refine g_vret rfl trivial ⟨rfl, rfl⟩ (Nat.le_refl _) (Nat.le_refl _) ?_
    exact hQ
  · refine g_tabIn (39) 10 rfl (by decide) (by decide) rfl rfl ?_
    rw [show ctF u nr (nI 2) = nI (cnt (fun t => decide (¬ u.2 28 t = 0)) 10) by rfl] at hQ
    refine g_iconst (nI 0) rfl (by decide) ?_
    refine g_store [some (.ref 25), some (.int (nI 2)), some (.int (nI 0)), some (.int (nI 0))] rfl rfl trivial (Nat.le_of_ble_eq_true rfl) rfl ?_
    exact r_count_t _ hQ 11 0 (by omega) (by omega)
  · refine g_tabIn (72) 30 rfl (by decide) (by decide) rfl rfl ?_
    rw [show ctF u nr (nI 3) = nI (cnt (fun p => anyN (hrF u (nI p)) nr) 40) by rfl] at hQ
    refine g_iconst (nI 0) rfl (by decide) ?_
    refine g_store [some (.ref 25), some (.int (nI 3)), some (.int (nI 0)), some (.int (nI 0))] rfl rfl trivial (Nat.le_of_ble_eq_true rfl) rfl ?_
    exact r_count_p _ nr h1 hn hQ 41 0 (by omega) (by omega)
def bdF (u : rS) (nr : Nat) (b w : Int32) : Int32 := if isBd u b then (if w = nI 0 then nI ((b.toNatClampNeg - 1) % 4) else if w = nI 1 then nI (((b.toNatClampNeg - 1) % 16 + (b.toNatClampNeg - 1) % 16 / 4) % 4) else if w = nI 2 then nI (cnt (fun i => decide (u.2 35 i = b)) nr) else if w = nI 3 then oI (first (tabF u b) 0 10) else -1) else -1
set_option maxRecDepth 20000 in
theorem r_board {pr : aC} {d : Nat} {u : rS} (b w : Int32) (nr : Nat) (h1 : u.1 1 = nI nr) (hn : nr ≤ 220) (nb : Nat) (h0 : u.1 0 = nI nb) (hnb : nb ≤ 36) {Q : Option Value → rS → Prop} (hQ : Q (some (.int (bdF u nr b w))) u) : rR pr (d + 2 + 1) 171 [.ref 25, .int b, .int w] u Q := by
  refine gR_of mi_171 rFr_rf rfl (Nat.le_of_ble_eq_true rfl) ?_
  show rB pr (d + 2) cd_171 (Option.some Jvm.ClassFile.FieldType.int) Q 0 [some (.ref 25), some (.int b), some (.int w)] [] u
  refine g_load rfl rfl rfl trivial ?_
  refine g_load rfl rfl rfl trivial ?_
  refine g_virtI (a := 25) (ci := 8) (n := 1) [.int b] rFr_tr rfl rfl (by decide) rfl r_this rfl (Nat.le_of_ble_eq_true rfl) (Nat.le_refl _) (Nat.le_refl _) (r_isBoard b ⟨_, rfl, ?_⟩)
  refine g_if_ne rfl (fun c1 => ?_) (fun c1 => ?_)
  · rw [bI_ne] at c1
    obtain ⟨b', hb, rfl⟩ := bd_of c1 h0 (by omega)
    refine g_load rfl rfl rfl trivial ?_
    by_cases hsw : w.toInt < 0 ∨ 3 < w.toInt
    · refine g_tabOut 22 rfl hsw rfl ?_
      have hs := fun k (hk : k ≤ 3) => sw_ne (k := k) hsw hk (by decide)
      rw [show bdF u nr (nI (b' + 1)) w = -1 by unfold bdF; rw [c1, if_pos rfl, if_neg (hs 0 (by omega)), if_neg (hs 1 (by omega)), if_neg (hs 2 (by omega)), if_neg (hs 3 (by omega))]] at hQ
      refine g_iconst (-1) rfl (by decide) ?_
      refine g_vret rfl trivial ⟨rfl, rfl⟩ (Nat.le_refl _) (Nat.le_refl _) ?_
      exact hQ
    obtain ⟨ksw, hk, rfl⟩ := sw_of (x := w) (n := 3) hsw
    rcases (show ksw = 0 ∨ ksw = 1 ∨ ksw = 2 ∨ ksw = 3 by omega) with rfl | rfl | rfl | rfl
    · refine g_tabIn (29) 8 rfl (by decide) (by decide) rfl rfl ?_
      rw [show bdF u nr (nI (b' + 1)) (nI 0) = nI (b' % 4) by unfold bdF; rw [c1, nI_clamp (by omega)]; rfl] at hQ
      refine g_load rfl rfl rfl trivial ?_
      refine g_statI [(.int (nI (b' + 1)))] rFr_tr rfl rfl rfl (Nat.le_of_ble_eq_true rfl) (Nat.le_refl _) (Nat.le_refl _) (r_dealer b' (by omega) ⟨_, rfl, ?_⟩)
      refine g_vret rfl trivial ⟨rfl, rfl⟩ (Nat.le_refl _) (Nat.le_refl _) ?_
      exact hQ
    · refine g_tabIn (34) 11 rfl (by decide) (by decide) rfl rfl ?_
      rw [show bdF u nr (nI (b' + 1)) (nI 1) = nI ((b' % 16 + b' % 16 / 4) % 4) by unfold bdF; rw [c1, nI_clamp (by omega)]; rfl] at hQ
      refine g_load rfl rfl rfl trivial ?_
      refine g_statI [(.int (nI (b' + 1)))] rFr_tr rfl rfl rfl (Nat.le_of_ble_eq_true rfl) (Nat.le_refl _) (Nat.le_refl _) (r_vulnerable b' (by omega) ⟨_, rfl, ?_⟩)
      refine g_vret rfl trivial ⟨rfl, rfl⟩ (Nat.le_refl _) (Nat.le_refl _) ?_
      exact hQ
    · refine g_tabIn (39) 14 rfl (by decide) (by decide) rfl rfl ?_
      rw [show bdF u nr (nI (b' + 1)) (nI 2) = nI (cnt (fun i => decide (u.2 35 i = nI (b' + 1))) nr) by unfold bdF; rw [c1, nI_clamp (by omega)]; rfl] at hQ
      refine g_load rfl rfl rfl trivial ?_
      refine g_load rfl rfl rfl trivial ?_
      refine g_virtI (a := 25) (ci := 8) (n := 1) [(.int (nI (b' + 1)))] rFr_tr rfl rfl (by decide) rfl r_this rfl (Nat.le_of_ble_eq_true rfl) (Nat.le_refl _) (Nat.le_refl _) (r_resultsOf (nI (b' + 1)) nr h1 hn ⟨_, rfl, ?_⟩)
      refine g_vret rfl trivial ⟨rfl, rfl⟩ (Nat.le_refl _) (Nat.le_refl _) ?_
      exact hQ
    · refine g_tabIn (45) 18 rfl (by decide) (by decide) rfl rfl ?_
      rw [show bdF u nr (nI (b' + 1)) (nI 3) = oI (first (tabF u (nI (b' + 1))) 0 10) by unfold bdF; rw [c1, nI_clamp (by omega)]; rfl] at hQ
      refine g_load rfl rfl rfl trivial ?_
      refine g_load rfl rfl rfl trivial ?_
      refine g_virtI (a := 25) (ci := 8) (n := 1) [(.int (nI (b' + 1)))] rFr_tr rfl rfl (by decide) rfl r_this rfl (Nat.le_of_ble_eq_true rfl) (Nat.le_refl _) (Nat.le_refl _) (r_tableOf (nI (b' + 1)) ⟨_, rfl, ?_⟩)
      refine g_vret rfl trivial ⟨rfl, rfl⟩ (Nat.le_refl _) (Nat.le_refl _) ?_
      exact hQ
  · rw [bI_eq] at c1
    rw [show bdF u nr b w = -1 by unfold bdF; rw [c1]; rfl] at hQ
    refine g_iconst (-1) rfl (by decide) ?_
    refine g_vret rfl trivial ⟨rfl, rfl⟩ (Nat.le_refl _) (Nat.le_refl _) ?_
    exact hQ
end
section
/-! ===== the reference: what changes its state ===== -/
def uLeave (u : rS) (t : Nat) : rS := (u.1, rU u.2 28 t 0)
set_option maxRecDepth 20000 in
theorem r_leave {pr : aC} {d : Nat} {u : rS} (t : Int32) {Q : Option Value → rS → Prop} (hF : phF u t = 0 → Q (some (.int 0)) u) (hT : ∀ t', t' < 10 → t = nI t' → ¬ u.2 28 t' = 0 → Q (some (.int 1)) (uLeave u t')) : rR pr (d + 2 + 1) 196 [.ref 25, .int t] u Q := by
  refine gR_of mi_196 rFr_rf rfl (Nat.le_of_ble_eq_true rfl) ?_
  show rB pr (d + 2) cd_196 (Option.some Jvm.ClassFile.FieldType.boolean) Q 0 [some (.ref 25), some (.int t)] [] u
  refine g_load rfl rfl rfl trivial ?_
  refine g_load rfl rfl rfl trivial ?_
  refine g_virtI (a := 25) (ci := 8) (n := 1) [.int t] rFr_tr rfl rfl (by decide) rfl r_this rfl (Nat.le_of_ble_eq_true rfl) (Nat.le_refl _) (Nat.le_refl _) (r_phaseOf t ⟨_, rfl, ?_⟩)
  refine g_if_ne rfl (fun c1 => ?_) (fun c1 => ?_)
  · obtain ⟨t', ht, rfl⟩ := ph_of c1
    have hQ := hT t' ht rfl (by rw [← phF_t ht]; exact c1)
    refine g_load rfl rfl rfl trivial ?_
    refine r_getf rfl rfl ?_
    refine g_load rfl rfl rfl trivial ?_
    refine g_iconst (nI 0) rfl (by decide) ?_
    refine r_ias (t') rfl ⟨by decide, by decide, rfl⟩ rfl (by show _ < 10; omega) ?_
    refine g_iconst (nI 1) rfl (by decide) ?_
    refine g_vret rfl trivial (by first | exact ⟨by decide, by decide⟩ | trivial) (Nat.le_refl _) (Nat.le_refl _) ?_
    exact hQ
  · have hQ := hF c1
    refine g_iconst (nI 0) rfl (by decide) ?_
    refine g_vret rfl trivial (by first | exact ⟨by decide, by decide⟩ | trivial) (Nat.le_refl _) (Nat.le_refl _) ?_
    exact hQ
def uBack (u : rS) (t n m : Nat) : rS := if 0 < m then (u.1, rU u.2 32 t (nI (m - 1))) else (u.1, rU (rU u.2 31 t (nI (n - 1))) 28 t (nI 1))
set_option maxRecDepth 20000 in
theorem r_back {pr : aC} {d : Nat} {u : rS} (t : Int32) (nb : Nat) (hk : rOkT u nb) {Q : Option Value → rS → Prop} (hF : (phF u t = 0 ∨ nC u t.toNatClampNeg = 0) → Q (some (.int 0)) u) (hT : ∀ t', t' < 10 → t = nI t' → ¬ u.2 28 t' = 0 → 0 < nC u t' → Q (some (.int 1)) (uBack u t' (nC u t') (mC u t'))) : rR pr (d + 2 + 1) 195 [.ref 25, .int t] u Q := by
  refine gR_of mi_195 rFr_rf rfl (Nat.le_of_ble_eq_true rfl) ?_
  show rB pr (d + 2) cd_195 (Option.some Jvm.ClassFile.FieldType.boolean) Q 0 [some (.ref 25), some (.int t)] [] u
  refine g_load rfl rfl rfl trivial ?_
  refine g_load rfl rfl rfl trivial ?_
  refine g_virtI (a := 25) (ci := 8) (n := 1) [.int t] rFr_tr rfl rfl (by decide) rfl r_this rfl (Nat.le_of_ble_eq_true rfl) (Nat.le_refl _) (Nat.le_refl _) (r_phaseOf t ⟨_, rfl, ?_⟩)
  refine g_if_eq rfl (fun c1 => ?_) (fun c1 => ?_)
  · have hQ := hF (Or.inl c1)
    refine g_iconst (nI 0) rfl (by decide) ?_
    refine g_vret rfl trivial (by first | exact ⟨by decide, by decide⟩ | trivial) (Nat.le_refl _) (Nat.le_refl _) ?_
    exact hQ
  · obtain ⟨t', ht, rfl⟩ := ph_of c1
    have hp0 : ¬ u.2 28 t' = 0 := by rw [← phF_t ht]; exact c1
    obtain ⟨a1, a2, a3, a4, a5, a6, a7, a8⟩ := (hk.2.2 t' ht).resolve_left hp0
    refine g_load rfl rfl rfl trivial ?_
    refine r_getf rfl rfl ?_
    refine g_load rfl rfl rfl trivial ?_
    refine r_ia (t') rfl ⟨by decide, by decide, rfl⟩ rfl (by show _ < 10; omega) ?_
    rw [a3]
    refine g_if_ne rfl (fun c2 => ?_) (fun c2 => ?_)
    · rw [← nI_0, nI_eq (by omega) (by omega)] at c2
      have hQ := hT t' ht rfl hp0 (by omega)
      refine g_load rfl rfl rfl trivial ?_
      refine r_getf rfl rfl ?_
      refine g_load rfl rfl rfl trivial ?_
      refine r_ia (t') rfl ⟨by decide, by decide, rfl⟩ rfl (by show _ < 10; omega) ?_
      rw [a5]
      refine g_if_le rfl (fun c3 => ?_) (fun c3 => ?_)
      · rw [← nI_0, nI_leI (by omega) (by omega)] at c3
        rw [show uBack u t' (nC u t') (mC u t') = (u.1, rU (rU u.2 31 t' (nI (nC u t' - 1))) 28 t' (nI 1)) by unfold uBack; rw [if_neg (by omega)]] at hQ
        refine g_load rfl rfl rfl trivial ?_
        refine r_getf rfl rfl ?_
        refine g_load rfl rfl rfl trivial ?_
        refine g_dup2 rfl rfl rfl ?_
        refine r_ia (t') rfl ⟨by decide, by decide, rfl⟩ rfl (by show _ < 10; omega) ?_
        refine g_iconst (nI 1) rfl (by decide) ?_
        rw [a3]
        refine g_isub rfl ?_
        rw [pk_sub (by omega)]
        refine r_ias (t') rfl ⟨by decide, by decide, rfl⟩ rfl (by show _ < 10; omega) ?_
        refine g_load rfl rfl rfl trivial ?_
        refine r_getf rfl rfl ?_
        refine g_load rfl rfl rfl trivial ?_
        refine g_iconst (nI 1) rfl (by decide) ?_
        refine r_ias (t') rfl ⟨by decide, by decide, rfl⟩ rfl (by show _ < 10; omega) ?_
        refine g_iconst (nI 1) rfl (by decide) ?_
        refine g_vret rfl trivial (by first | exact ⟨by decide, by decide⟩ | trivial) (Nat.le_refl _) (Nat.le_refl _) ?_
        exact hQ
      · rw [← nI_0, nI_leI (by omega) (by omega)] at c3
        rw [show uBack u t' (nC u t') (mC u t') = (u.1, rU u.2 32 t' (nI (mC u t' - 1))) by unfold uBack; rw [if_pos (by omega)]] at hQ
        refine g_load rfl rfl rfl trivial ?_
        refine r_getf rfl rfl ?_
        refine g_load rfl rfl rfl trivial ?_
        refine g_dup2 rfl rfl rfl ?_
        refine r_ia (t') rfl ⟨by decide, by decide, rfl⟩ rfl (by show _ < 10; omega) ?_
        refine g_iconst (nI 1) rfl (by decide) ?_
        rw [a5]
        refine g_isub rfl ?_
        rw [pk_sub (by omega)]
        refine r_ias (t') rfl ⟨by decide, by decide, rfl⟩ rfl (by show _ < 10; omega) ?_
        refine g_iconst (nI 1) rfl (by decide) ?_
        refine g_vret rfl trivial (by first | exact ⟨by decide, by decide⟩ | trivial) (Nat.le_refl _) (Nat.le_refl _) ?_
        exact hQ
    · rw [← nI_0, nI_eq (by omega) (by omega)] at c2
      have hQ := hF (Or.inr (by rw [nI_clamp (by omega)]; exact c2))
      refine g_iconst (nI 0) rfl (by decide) ?_
      refine g_vret rfl trivial (by first | exact ⟨by decide, by decide⟩ | trivial) (Nat.le_refl _) (Nat.le_refl _) ?_
      exact hQ
def swOk (u : rS) (b a c : Int32) : Bool := isBd u b && (isCd a && (isCd c && decide (u.2 27 (b.toNatClampNeg - 1) = 0)))
def uSwap (u : rS) (b a c : Nat) : rS := (u.1, rU (rU u.2 26 (52 * b + a) (u.2 26 (52 * b + c))) 26 (52 * b + c) (u.2 26 (52 * b + a)))
set_option maxRecDepth 20000 in
theorem r_swap {pr : aC} {d : Nat} {u : rS} (b a c : Int32) (nb : Nat) (h0 : u.1 0 = nI nb) (hnb : nb ≤ 36) {Q : Option Value → rS → Prop} (hF : swOk u b a c = false → Q (some (.int 0)) u) (hT : ∀ b' a' c', b' < nb → a' < 52 → c' < 52 → b = nI (b' + 1) → a = nI a' → c = nI c' → u.2 27 b' = 0 → Q (some (.int 1)) (uSwap u b' a' c')) : rR pr (d + 2 + 1) 164 [.ref 25, .int b, .int a, .int c] u Q := by
  refine gR_of mi_164 rFr_rf rfl (Nat.le_of_ble_eq_true rfl) ?_
  show rB pr (d + 2) cd_164 (Option.some Jvm.ClassFile.FieldType.boolean) Q 0 [some (.ref 25), some (.int b), some (.int a), some (.int c), none, none] [] u
  refine g_load rfl rfl rfl trivial ?_
  refine g_load rfl rfl rfl trivial ?_
  refine g_virtI (a := 25) (ci := 8) (n := 1) [.int b] rFr_tr rfl rfl (by decide) rfl r_this rfl (Nat.le_of_ble_eq_true rfl) (Nat.le_refl _) (Nat.le_refl _) (r_isBoard b ⟨_, rfl, ?_⟩)
  refine g_if_eq rfl (fun c1 => ?_) (fun c1 => ?_)
  · rw [bI_eq] at c1
    have hQ := hF (by simp [swOk, *])
    refine g_iconst (nI 0) rfl (by decide) ?_
    refine g_vret rfl trivial (by first | exact ⟨by decide, by decide⟩ | trivial) (Nat.le_refl _) (Nat.le_refl _) ?_
    exact hQ
  · rw [bI_ne] at c1
    refine g_load rfl rfl rfl trivial ?_
    refine g_statI [.int a] rFr_tr rfl rfl rfl (Nat.le_of_ble_eq_true rfl) (Nat.le_refl _) (Nat.le_refl _) (r_isCard a ⟨_, rfl, ?_⟩)
    refine g_if_eq rfl (fun c2 => ?_) (fun c2 => ?_)
    · rw [bI_eq] at c2
      have hQ := hF (by simp [swOk, *])
      refine g_iconst (nI 0) rfl (by decide) ?_
      refine g_vret rfl trivial (by first | exact ⟨by decide, by decide⟩ | trivial) (Nat.le_refl _) (Nat.le_refl _) ?_
      exact hQ
    · rw [bI_ne] at c2
      refine g_load rfl rfl rfl trivial ?_
      refine g_statI [.int c] rFr_tr rfl rfl rfl (Nat.le_of_ble_eq_true rfl) (Nat.le_refl _) (Nat.le_refl _) (r_isCard c ⟨_, rfl, ?_⟩)
      refine g_if_eq rfl (fun c3 => ?_) (fun c3 => ?_)
      · rw [bI_eq] at c3
        have hQ := hF (by simp [swOk, *])
        refine g_iconst (nI 0) rfl (by decide) ?_
        refine g_vret rfl trivial (by first | exact ⟨by decide, by decide⟩ | trivial) (Nat.le_refl _) (Nat.le_refl _) ?_
        exact hQ
      · rw [bI_ne] at c3
        obtain ⟨b', hb, rfl⟩ := bd_of c1 h0 (by omega)
        obtain ⟨a', ha, rfl⟩ := cd_of c2
        obtain ⟨c', hc, rfl⟩ := cd_of c3
        refine g_load rfl rfl rfl trivial ?_
        refine r_getf rfl rfl ?_
        refine g_load rfl rfl rfl trivial ?_
        refine g_iconst (nI 1) rfl (by decide) ?_
        refine g_isub rfl ?_
        refine r_za (b') rfl ⟨by decide, by decide, rfl⟩ (nI_pred b') (by show _ < 36; omega) ?_
        refine g_if_eq rfl (fun c4 => ?_) (fun c4 => ?_)
        · have hQ := hT b' a' c' hb ha hc rfl rfl rfl c4
          refine g_bipush (nI 52) rfl (by decide) ?_
          refine g_load rfl rfl rfl trivial ?_
          refine g_iconst (nI 1) rfl (by decide) ?_
          refine g_isub rfl ?_
          refine g_imul rfl ?_
          rw [show nI (b' + 1) - nI 1 = nI b' from nI_pred b', pk_mul]
          refine g_store [some (.ref 25), some (.int (nI (b' + 1))), some (.int (nI a')), some (.int (nI c')), some ((.int (nI (52 * b')))), none] rfl rfl trivial (Nat.le_of_ble_eq_true rfl) rfl ?_
          refine g_load rfl rfl rfl trivial ?_
          refine r_getf rfl rfl ?_
          refine g_load rfl rfl rfl trivial ?_
          refine g_load rfl rfl rfl trivial ?_
          refine g_iadd rfl ?_
          refine r_ia (52 * b' + a') rfl ⟨by decide, by decide, rfl⟩ (nI_add _ _) (by show _ < 1872; omega) ?_
          refine g_store [some (.ref 25), some (.int (nI (b' + 1))), some (.int (nI a')), some (.int (nI c')), some ((.int (nI (52 * b')))), some ((.int (u.2 26 (52 * b' + a'))))] rfl rfl trivial (Nat.le_of_ble_eq_true rfl) rfl ?_
          refine g_load rfl rfl rfl trivial ?_
          refine r_getf rfl rfl ?_
          refine g_load rfl rfl rfl trivial ?_
          refine g_load rfl rfl rfl trivial ?_
          refine g_iadd rfl ?_
          refine g_load rfl rfl rfl trivial ?_
          refine r_getf rfl rfl ?_
          refine g_load rfl rfl rfl trivial ?_
          refine g_load rfl rfl rfl trivial ?_
          refine g_iadd rfl ?_
          refine r_ia (52 * b' + c') rfl ⟨by decide, by decide, rfl⟩ (nI_add _ _) (by show _ < 1872; omega) ?_
          refine r_ias (52 * b' + a') rfl ⟨by decide, by decide, rfl⟩ (nI_add _ _) (by show _ < 1872; omega) ?_
          refine g_load rfl rfl rfl trivial ?_
          refine r_getf rfl rfl ?_
          refine g_load rfl rfl rfl trivial ?_
          refine g_load rfl rfl rfl trivial ?_
          refine g_iadd rfl ?_
          refine g_load rfl rfl rfl trivial ?_
          refine r_ias (52 * b' + c') rfl ⟨by decide, by decide, rfl⟩ (nI_add _ _) (by show _ < 1872; omega) ?_
          refine g_iconst (nI 1) rfl (by decide) ?_
          refine g_vret rfl trivial (by first | exact ⟨by decide, by decide⟩ | trivial) (Nat.le_refl _) (Nat.le_refl _) ?_
          exact hQ
        · have hQ := hF (by
            have : ¬ u.2 27 ((nI (b' + 1)).toNatClampNeg - 1) = 0 := by rw [nI_clamp (by omega)]; exact c4
            simp [swOk, this])
          refine g_iconst (nI 0) rfl (by decide) ?_
          refine g_vret rfl trivial (by first | exact ⟨by decide, by decide⟩ | trivial) (Nat.le_refl _) (Nat.le_refl _) ?_
          exact hQ
/-- whether a board may begin -/
def bgOk (u : rS) (nr : Nat) (t b n e : Int32) : Bool := inF t 0 9 && (isBd u b && (inF n 0 39 && (inF e 0 39 && (decide (u.2 28 t.toNatClampNeg = 0) && (decide (first (tabF u b) 0 10 = none) && (!(anyN (playF u n) 10) && (!(anyN (playF u e) 10) && (decide (¬ n = e) && (!(anyN (hasF u n b) nr) && (!(anyN (hasF u e b) nr) && decide (nr < 200)))))))))))
def uBegin (u : rS) (t b : Nat) (n e : Int32) : rS := (u.1, rU (rU (rU (rU (rU (rU (rU u.2 28 t (nI 1)) 29 t (nI (b + 1))) 30 (2 * t) n) 30 (2 * t + 1) e) 31 t (nI 0)) 32 t (nI 0)) 27 b 1)
theorem first_lt {p : Nat → Bool} : ∀ {n i t : Nat}, first p i n = some t → t < i + n ∧ i ≤ t ∧ p t = true
  | 0, i, t, h => by cases h
  | n + 1, i, t, h => by
    unfold first at h
    split at h
    · rename_i hp; cases h; exact ⟨by omega, by omega, hp⟩
    · have := first_lt h
      exact ⟨by omega, by omega, this.2.2⟩
theorem oI_none {o : Option Nat} (h : o = none) : oI o = -1 := by subst h; rfl
set_option maxRecDepth 20000 in
theorem r_begin {pr : aC} {d : Nat} {u : rS} (t b n e : Int32) (nr : Nat) (h1 : u.1 1 = nI nr) (hn : nr ≤ 220) (nb : Nat) (h0 : u.1 0 = nI nb) (hnb : nb ≤ 36) {Q : Option Value → rS → Prop} (hF : bgOk u nr t b n e = false → Q (some (.int 0)) u) (hT : ∀ t' b', t' < 10 → b' < nb → t = nI t' → b = nI (b' + 1) → bgOk u nr t b n e = true → Q (some (.int 1)) (uBegin u t' b' n e)) : rR pr (d + 2 + 1) 174 [.ref 25, .int t, .int b, .int n, .int e] u Q := by
  refine gR_of mi_174 rFr_rf rfl (Nat.le_of_ble_eq_true rfl) ?_
  show rB pr (d + 2) cd_174 (Option.some Jvm.ClassFile.FieldType.boolean) Q 0 [some (.ref 25), some (.int t), some (.int b), some (.int n), some (.int e)] [] u
  refine g_load rfl rfl rfl trivial ?_
  refine g_iconst (nI 0) rfl (by decide) ?_
  refine g_bipush (nI 9) rfl (by decide) ?_
  refine g_statI [.int t, .int (nI 0), .int (nI 9)] rFr_tr rfl rfl rfl (Nat.le_of_ble_eq_true rfl) (Nat.le_refl _) (Nat.le_refl _) (r_in t 0 9 ⟨_, rfl, ?_⟩)
  refine g_if_eq rfl (fun c1 => ?_) (fun c1 => ?_)
  · rw [bI_eq] at c1
    have hQ := hF (by simp [bgOk, *])
    refine g_iconst (nI 0) rfl (by decide) ?_
    refine g_vret rfl trivial (by first | exact ⟨by decide, by decide⟩ | trivial) (Nat.le_refl _) (Nat.le_refl _) ?_
    exact hQ
  · rw [bI_ne] at c1
    refine g_load rfl rfl rfl trivial ?_
    refine g_load rfl rfl rfl trivial ?_
    refine g_virtI (a := 25) (ci := 8) (n := 1) [.int b] rFr_tr rfl rfl (by decide) rfl r_this rfl (Nat.le_of_ble_eq_true rfl) (Nat.le_refl _) (Nat.le_refl _) (r_isBoard b ⟨_, rfl, ?_⟩)
    refine g_if_eq rfl (fun c2 => ?_) (fun c2 => ?_)
    · rw [bI_eq] at c2
      have hQ := hF (by simp [bgOk, *])
      refine g_iconst (nI 0) rfl (by decide) ?_
      refine g_vret rfl trivial (by first | exact ⟨by decide, by decide⟩ | trivial) (Nat.le_refl _) (Nat.le_refl _) ?_
      exact hQ
    · rw [bI_ne] at c2
      refine g_load rfl rfl rfl trivial ?_
      refine g_iconst (nI 0) rfl (by decide) ?_
      refine g_bipush (nI 39) rfl (by decide) ?_
      refine g_statI [.int n, .int (nI 0), .int (nI 39)] rFr_tr rfl rfl rfl (Nat.le_of_ble_eq_true rfl) (Nat.le_refl _) (Nat.le_refl _) (r_in n 0 39 ⟨_, rfl, ?_⟩)
      refine g_if_eq rfl (fun c3 => ?_) (fun c3 => ?_)
      · rw [bI_eq] at c3
        have hQ := hF (by simp [bgOk, *])
        refine g_iconst (nI 0) rfl (by decide) ?_
        refine g_vret rfl trivial (by first | exact ⟨by decide, by decide⟩ | trivial) (Nat.le_refl _) (Nat.le_refl _) ?_
        exact hQ
      · rw [bI_ne] at c3
        refine g_load rfl rfl rfl trivial ?_
        refine g_iconst (nI 0) rfl (by decide) ?_
        refine g_bipush (nI 39) rfl (by decide) ?_
        refine g_statI [.int e, .int (nI 0), .int (nI 39)] rFr_tr rfl rfl rfl (Nat.le_of_ble_eq_true rfl) (Nat.le_refl _) (Nat.le_refl _) (r_in e 0 39 ⟨_, rfl, ?_⟩)
        refine g_if_ne rfl (fun c4 => ?_) (fun c4 => ?_)
        · rw [bI_ne] at c4
          obtain ⟨t', ht, rfl⟩ := tb_of c1
          obtain ⟨b', hb, rfl⟩ := bd_of c2 h0 (by omega)
          have e0 : (nI t').toNatClampNeg = t' := nI_clamp (by omega)
          refine g_load rfl rfl rfl trivial ?_
          refine r_getf rfl rfl ?_
          refine g_load rfl rfl rfl trivial ?_
          refine r_ia (t') rfl ⟨by decide, by decide, rfl⟩ rfl (by show _ < 10; omega) ?_
          refine g_if_ne rfl (fun c5 => ?_) (fun c5 => ?_)
          · have hQ := hF (by simp [bgOk, *])
            refine g_iconst (nI 0) rfl (by decide) ?_
            refine g_vret rfl trivial (by first | exact ⟨by decide, by decide⟩ | trivial) (Nat.le_refl _) (Nat.le_refl _) ?_
            exact hQ
          · refine g_load rfl rfl rfl trivial ?_
            refine g_load rfl rfl rfl trivial ?_
            refine g_virtI (a := 25) (ci := 8) (n := 1) [(.int (nI (b' + 1)))] rFr_tr rfl rfl (by decide) rfl r_this rfl (Nat.le_of_ble_eq_true rfl) (Nat.le_refl _) (Nat.le_refl _) (r_tableOf (nI (b' + 1)) ⟨_, rfl, ?_⟩)
            refine g_iconst (-1) rfl (by decide) ?_
            refine g_icmp_ne rfl (fun c6 => ?_) (fun c6 => ?_)
            · have hfn : ¬ first (tabF u (nI (b' + 1))) 0 10 = none := fun q => c6 (oI_none q)
              have hQ := hF (by simp [bgOk, *])
              refine g_iconst (nI 0) rfl (by decide) ?_
              refine g_vret rfl trivial (by first | exact ⟨by decide, by decide⟩ | trivial) (Nat.le_refl _) (Nat.le_refl _) ?_
              exact hQ
            · have hfn : first (tabF u (nI (b' + 1))) 0 10 = none := oI_m1 c6 (fun i hi => by have := first_lt hi; omega)
              refine g_load rfl rfl rfl trivial ?_
              refine g_load rfl rfl rfl trivial ?_
              refine g_virtI (a := 25) (ci := 8) (n := 1) [.int n] rFr_tr rfl rfl (by decide) rfl r_this rfl (Nat.le_of_ble_eq_true rfl) (Nat.le_refl _) (Nat.le_refl _) (r_isPlaying n ⟨_, rfl, ?_⟩)
              refine g_if_ne rfl (fun c7 => ?_) (fun c7 => ?_)
              · rw [bI_ne] at c7
                have hQ := hF (by simp [bgOk, *])
                refine g_iconst (nI 0) rfl (by decide) ?_
                refine g_vret rfl trivial (by first | exact ⟨by decide, by decide⟩ | trivial) (Nat.le_refl _) (Nat.le_refl _) ?_
                exact hQ
              · rw [bI_eq] at c7
                refine g_load rfl rfl rfl trivial ?_
                refine g_load rfl rfl rfl trivial ?_
                refine g_virtI (a := 25) (ci := 8) (n := 1) [.int e] rFr_tr rfl rfl (by decide) rfl r_this rfl (Nat.le_of_ble_eq_true rfl) (Nat.le_refl _) (Nat.le_refl _) (r_isPlaying e ⟨_, rfl, ?_⟩)
                refine g_if_ne rfl (fun c8 => ?_) (fun c8 => ?_)
                · rw [bI_ne] at c8
                  have hQ := hF (by simp [bgOk, *])
                  refine g_iconst (nI 0) rfl (by decide) ?_
                  refine g_vret rfl trivial (by first | exact ⟨by decide, by decide⟩ | trivial) (Nat.le_refl _) (Nat.le_refl _) ?_
                  exact hQ
                · rw [bI_eq] at c8
                  refine g_load rfl rfl rfl trivial ?_
                  refine g_load rfl rfl rfl trivial ?_
                  refine g_icmp_ne rfl (fun c9 => ?_) (fun c9 => ?_)
                  · have hne := c9
                    refine g_load rfl rfl rfl trivial ?_
                    refine g_load rfl rfl rfl trivial ?_
                    refine g_load rfl rfl rfl trivial ?_
                    refine g_virtI (a := 25) (ci := 8) (n := 2) [(.int n), (.int (nI (b' + 1)))] rFr_tr rfl rfl (by decide) rfl r_this rfl (Nat.le_of_ble_eq_true rfl) (Nat.le_refl _) (Nat.le_refl _) (r_hasPlayed n (nI (b' + 1)) nr h1 hn ⟨_, rfl, ?_⟩)
                    refine g_if_ne rfl (fun c10 => ?_) (fun c10 => ?_)
                    · rw [bI_ne] at c10
                      have hQ := hF (by simp [bgOk, *])
                      refine g_iconst (nI 0) rfl (by decide) ?_
                      refine g_vret rfl trivial (by first | exact ⟨by decide, by decide⟩ | trivial) (Nat.le_refl _) (Nat.le_refl _) ?_
                      exact hQ
                    · rw [bI_eq] at c10
                      refine g_load rfl rfl rfl trivial ?_
                      refine g_load rfl rfl rfl trivial ?_
                      refine g_load rfl rfl rfl trivial ?_
                      refine g_virtI (a := 25) (ci := 8) (n := 2) [(.int e), (.int (nI (b' + 1)))] rFr_tr rfl rfl (by decide) rfl r_this rfl (Nat.le_of_ble_eq_true rfl) (Nat.le_refl _) (Nat.le_refl _) (r_hasPlayed e (nI (b' + 1)) nr h1 hn ⟨_, rfl, ?_⟩)
                      refine g_if_ne rfl (fun c11 => ?_) (fun c11 => ?_)
                      · rw [bI_ne] at c11
                        have hQ := hF (by simp [bgOk, *])
                        refine g_iconst (nI 0) rfl (by decide) ?_
                        refine g_vret rfl trivial (by first | exact ⟨by decide, by decide⟩ | trivial) (Nat.le_refl _) (Nat.le_refl _) ?_
                        exact hQ
                      · rw [bI_eq] at c11
                        refine g_load rfl rfl rfl trivial ?_
                        refine r_getf rfl rfl ?_
                        refine g_sipush (nI 200) rfl (by decide) ?_
                        rw [h1]
                        refine g_icmp_lt rfl (fun c12 => ?_) (fun c12 => ?_)
                        · rw [nI_ltI (by omega) (by omega)] at c12
                          have hQ := hT t' b' ht hb rfl rfl (by simp [bgOk, *])
                          refine g_load rfl rfl rfl trivial ?_
                          refine r_getf rfl rfl ?_
                          refine g_load rfl rfl rfl trivial ?_
                          refine g_iconst (nI 1) rfl (by decide) ?_
                          refine r_ias (t') rfl ⟨by decide, by decide, rfl⟩ rfl (by show _ < 10; omega) ?_
                          refine g_load rfl rfl rfl trivial ?_
                          refine r_getf rfl rfl ?_
                          refine g_load rfl rfl rfl trivial ?_
                          refine g_load rfl rfl rfl trivial ?_
                          refine r_ias (t') rfl ⟨by decide, by decide, rfl⟩ rfl (by show _ < 10; omega) ?_
                          refine g_load rfl rfl rfl trivial ?_
                          refine r_getf rfl rfl ?_
                          refine g_iconst (nI 2) rfl (by decide) ?_
                          refine g_load rfl rfl rfl trivial ?_
                          refine g_imul rfl ?_
                          refine g_load rfl rfl rfl trivial ?_
                          refine r_ias (2 * t') rfl ⟨by decide, by decide, rfl⟩ (pk_mul 2 t') (by show _ < 20; omega) ?_
                          refine g_load rfl rfl rfl trivial ?_
                          refine r_getf rfl rfl ?_
                          refine g_iconst (nI 2) rfl (by decide) ?_
                          refine g_load rfl rfl rfl trivial ?_
                          refine g_imul rfl ?_
                          refine g_iconst (nI 1) rfl (by decide) ?_
                          refine g_iadd rfl ?_
                          refine g_load rfl rfl rfl trivial ?_
                          refine r_ias (2 * t' + 1) rfl ⟨by decide, by decide, rfl⟩ (by rw [pk_mul, nI_add]) (by show _ < 20; omega) ?_
                          refine g_load rfl rfl rfl trivial ?_
                          refine r_getf rfl rfl ?_
                          refine g_load rfl rfl rfl trivial ?_
                          refine g_iconst (nI 0) rfl (by decide) ?_
                          refine r_ias (t') rfl ⟨by decide, by decide, rfl⟩ rfl (by show _ < 10; omega) ?_
                          refine g_load rfl rfl rfl trivial ?_
                          refine r_getf rfl rfl ?_
                          refine g_load rfl rfl rfl trivial ?_
                          refine g_iconst (nI 0) rfl (by decide) ?_
                          refine r_ias (t') rfl ⟨by decide, by decide, rfl⟩ rfl (by show _ < 10; omega) ?_
                          refine g_load rfl rfl rfl trivial ?_
                          refine r_getf rfl rfl ?_
                          refine g_load rfl rfl rfl trivial ?_
                          refine g_iconst (nI 1) rfl (by decide) ?_
                          refine g_isub rfl ?_
                          refine g_iconst (nI 1) rfl (by decide) ?_
                          refine r_zas (b') rfl ⟨by decide, by decide, rfl⟩ (nI_pred b') (by show _ < 36; omega) ?_
                          refine g_iconst (nI 1) rfl (by decide) ?_
                          refine g_vret rfl trivial (by first | exact ⟨by decide, by decide⟩ | trivial) (Nat.le_refl _) (Nat.le_refl _) ?_
                          exact hQ
                        · rw [nI_ltI (by omega) (by omega)] at c12
                          have hQ := hF (by simp [bgOk, *])
                          refine g_iconst (nI 0) rfl (by decide) ?_
                          refine g_vret rfl trivial (by first | exact ⟨by decide, by decide⟩ | trivial) (Nat.le_refl _) (Nat.le_refl _) ?_
                          exact hQ
                  · have hQ := hF (by simp [bgOk, *])
                    refine g_iconst (nI 0) rfl (by decide) ?_
                    refine g_vret rfl trivial (by first | exact ⟨by decide, by decide⟩ | trivial) (Nat.le_refl _) (Nat.le_refl _) ?_
                    exact hQ
        · rw [bI_eq] at c4
          have hQ := hF (by simp [bgOk, *])
          refine g_iconst (nI 0) rfl (by decide) ?_
          refine g_vret rfl trivial (by first | exact ⟨by decide, by decide⟩ | trivial) (Nat.le_refl _) (Nat.le_refl _) ?_
          exact hQ
end
section
/-! ===== the reference: deal ===== -/
def sdN (seed : Int32) : Nat → Int32
  | 0 => seed
  | n + 1 => sdN seed n * 1103515245 + nI 12345
def jN (s : Int32) (i : Nat) : Nat := s.toBitVec.toNat / 65536 % (i + 1)
def swp (f : Nat → Int32) (i j : Nat) : Nat → Int32 := upd (upd f i (f j)) j (f i)
/-- the row behind n exchanges -/
def rwN (seed : Int32) : Nat → Nat → Int32
  | 0 => nI
  | n + 1 => swp (rwN seed n) (51 - n) (jN (sdN seed (n + 1)) (51 - n))
/-- a row of all cards -/
def rowOk (f : Nat → Int32) : Prop := cdOk f 52 ∧ ∀ x y, x < 52 → y < 52 → cN f x = cN f y → x = y
theorem rowOk_0 : rowOk nI := by
  have h : ∀ i, i < 52 → cN nI i = i := fun i hi => by unfold cN; exact nI_clamp (by omega)
  refine ⟨fun i hi => ?_, fun x y hx hy e => ?_⟩
  · rw [h i hi]; exact ⟨hi, rfl⟩
  · rw [h x hx, h y hy] at e; exact e
theorem swp_at (f : Nat → Int32) {i j k : Nat} : swp f i j k = f (if k = j then i else if k = i then j else k) := by
  unfold swp upd
  by_cases h1 : k = j
  · simp [h1]
  · by_cases h2 : k = i
    · subst h2; simp [h1]
    · simp [h1, h2]
theorem rowOk_swp {f : Nat → Int32} (h : rowOk f) {i j : Nat} (hi : i < 52) (hj : j < 52) : rowOk (swp f i j) := by
  have hc : ∀ k, cN (swp f i j) k = cN f (if k = j then i else if k = i then j else k) := fun k => by unfold cN; rw [swp_at]
  have hb : ∀ k, k < 52 → (if k = j then i else if k = i then j else k) < 52 := fun k hk => by split <;> (try split) <;> omega
  refine ⟨fun k hk => ?_, fun x y hx hy e => ?_⟩
  · rw [hc, swp_at]; exact h.1 _ (hb k hk)
  · rw [hc, hc] at e
    have := h.2 _ _ (hb x hx) (hb y hy) e
    split at this <;> split at this <;> (try split at this) <;> (try split at this) <;> omega
theorem rowOk_N (seed : Int32) : ∀ n, n ≤ 51 → rowOk (rwN seed n)
  | 0, _ => rowOk_0
  | n + 1, h => rowOk_swp (rowOk_N seed n (by omega)) (by omega) (by have := Nat.mod_lt ((sdN seed (n + 1)).toBitVec.toNat / 65536) (show 0 < 51 - n + 1 by omega); unfold jN; omega)
theorem jN_eq (s : Int32) (i : Nat) (hi : i < 52) : (s.toUInt32 >>> ((nI 16).toUInt32 &&& Int32.toUInt32 31)).toInt32 - (s.toUInt32 >>> ((nI 16).toUInt32 &&& Int32.toUInt32 31)).toInt32 / nI (i + 1) * nI (i + 1) = nI (jN s i) := by
  have h1 : (s.toUInt32 >>> ((nI 16).toUInt32 &&& Int32.toUInt32 31)).toInt32 = nI (s.toBitVec.toNat / 65536) := by
    apply Int32.toBitVec_inj.mp
    apply BitVec.eq_of_toNat_eq
    rw [pk_ushr s (nI 16) 16 (by decide), pk_tn (by have := s.toBitVec.isLt; omega)]
  rw [h1, pk_rem (by have := s.toBitVec.isLt; omega) (by omega) (by omega)]
  rfl
/-- while a board is dealt: only the free row (46) has changed, and holds f -/
def dSt (u0 u : rS) (f : Nat → Int32) : Prop := u.1 = u0.1 ∧ (∀ b, b ≠ 46 → u.2 b = u0.2 b) ∧ ∀ k, k < 52 → u.2 46 k = f k
set_option maxRecDepth 20000 in
theorem r_deal_1 {pr : aC} {d : Nat} {u0 : rS} (seed : Int32) {Q : Option Value → rS → Prop} (hQ : ∀ u, dSt u0 u nI → rB pr d cd_161 (some .int) Q 20 [some (.ref 25), some (.int seed), some (.ref 46), some (.int (nI 52)), none, none, none] [] u) : ∀ (zz : Nat) (x : Nat) (u : rS) (h1 : u.1 = u0.1) (h2 : ∀ b, b ≠ 46 → u.2 b = u0.2 b) (h3 : ∀ k, k < x → u.2 46 k = nI k) (hm : 52 - x < zz) (hle : x ≤ 52), rB pr (d) cd_161 (Option.some Jvm.ClassFile.FieldType.int) Q 11 [some (.ref 25), some (.int seed), some (.ref 46), some (.int (nI x)), none, none, none] [] u := by
  intro zz
  induction zz with
  | zero => intro x u h1 h2 h3 hm hle; exact absurd hm (by omega)
  | succ zz ih =>
    intro x u h1 h2 h3 hm hle
    refine g_load rfl rfl rfl trivial ?_
    refine g_bipush (nI 52) rfl (by decide) ?_
    refine g_icmp_ge rfl (fun c1 => ?_) (fun c1 => ?_)
    · rw [nI_leI (by omega) (by omega)] at c1
      have hx : x = 52 := by omega
      subst hx
      exact hQ u ⟨h1, h2, h3⟩
    · rw [nI_leI (by omega) (by omega)] at c1
      refine g_load rfl rfl rfl trivial ?_
      refine g_load rfl rfl rfl trivial ?_
      refine g_load rfl rfl rfl trivial ?_
      refine r_iasv (x) rfl ⟨by decide, by decide, rfl⟩ rfl (by show _ < 52; omega) (fun u1 q1 q2 q3 q4 => ?_)
      refine g_iinc (nI (x + 1)) [some (.ref 25), some (.int seed), some (.ref 46), some (.int (nI (x + 1))), none, none, none] rfl rfl (nI_1 x) rfl ?_
      refine g_goto rfl ?_
      exact ih (x + 1) u1 (q1.trans h1) (fun b hb => (q2 b hb).trans (h2 b hb)) (fun k hk => by
        by_cases hkx : k = x
        · subst hkx; exact q3
        · rw [q4 k hkx]; exact h3 k (by omega)) (by omega) (by omega)
set_option maxRecDepth 20000 in
theorem r_deal_2 {pr : aC} {d : Nat} {u0 : rS} (seed : Int32) {Q : Option Value → rS → Prop} (hQ : ∀ u l5 l6, dSt u0 u (rwN seed 51) → rB pr d cd_161 (some .int) Q 56 [some (.ref 25), some (.int seed), some (.ref 46), some (.int (sdN seed 51)), some (.int (nI 0)), l5, l6] [] u) : ∀ (zz : Nat) (x : Nat) (u : rS) (l5 l6 : Option Value) (hD : dSt u0 u (rwN seed x)) (hm : 51 - x < zz) (hle : x ≤ 51), rB pr (d) cd_161 (Option.some Jvm.ClassFile.FieldType.int) Q 24 [some (.ref 25), some (.int seed), some (.ref 46), some (.int (sdN seed x)), some (.int (nI (51 - x))), l5, l6] [] u := by
  intro zz
  induction zz with
  | zero => intro x u l5 l6 hD hm hle; exact absurd hm (by omega)
  | succ zz ih =>
    intro x u l5 l6 hD hm hle
    refine g_load rfl rfl rfl trivial ?_
    refine g_if_le rfl (fun c1 => ?_) (fun c1 => ?_)
    · rw [← nI_0, nI_leI (by omega) (by omega)] at c1
      have hx : x = 51 := by omega
      subst hx
      exact hQ u l5 l6 hD
    · rw [← nI_0, nI_leI (by omega) (by omega)] at c1
      refine g_load rfl rfl rfl trivial ?_
      refine g_ldc (1103515245) rfl ⟨_, Or.inl rfl⟩ (by decide) ?_
      refine g_imul rfl ?_
      refine g_sipush (nI 12345) rfl (by decide) ?_
      refine g_iadd rfl ?_
      refine g_store [some (.ref 25), some (.int seed), some (.ref 46), some (.int (sdN seed (x + 1))), some (.int (nI (51 - x))), l5, l6] rfl rfl trivial (Nat.le_of_ble_eq_true rfl) rfl ?_
      refine g_load rfl rfl rfl trivial ?_
      refine g_bipush (nI 16) rfl (by decide) ?_
      refine g_iushr rfl ?_
      refine g_load rfl rfl rfl trivial ?_
      refine g_iconst (nI 1) rfl (by decide) ?_
      refine g_iadd rfl ?_
      rw [nI_add]
      refine g_irem rfl (by rw [← nI_0, nI_eq (by omega) (by omega)]; omega) ?_
      rw [jN_eq _ _ (by omega)]
      have hj : jN (sdN seed (x + 1)) (51 - x) < 51 - x + 1 := Nat.mod_lt _ (by omega)
      refine g_store [some (.ref 25), some (.int seed), some (.ref 46), some (.int (sdN seed (x + 1))), some (.int (nI (51 - x))), some (.int (nI (jN (sdN seed (x + 1)) (51 - x)))), l6] rfl rfl trivial (Nat.le_of_ble_eq_true rfl) rfl ?_
      refine g_load rfl rfl rfl trivial ?_
      refine g_load rfl rfl rfl trivial ?_
      refine r_ia (51 - x) rfl ⟨by decide, by decide, rfl⟩ rfl (by show _ < 52; omega) ?_
      rw [hD.2.2 (51 - x) (by omega)]
      refine g_store [some (.ref 25), some (.int seed), some (.ref 46), some (.int (sdN seed (x + 1))), some (.int (nI (51 - x))), some (.int (nI (jN (sdN seed (x + 1)) (51 - x)))), some (.int (rwN seed x (51 - x)))] rfl rfl trivial (Nat.le_of_ble_eq_true rfl) rfl ?_
      refine g_load rfl rfl rfl trivial ?_
      refine g_load rfl rfl rfl trivial ?_
      refine g_load rfl rfl rfl trivial ?_
      refine g_load rfl rfl rfl trivial ?_
      refine r_ia (jN (sdN seed (x + 1)) (51 - x)) rfl ⟨by decide, by decide, rfl⟩ rfl (by show _ < 52; omega) ?_
      rw [hD.2.2 (jN (sdN seed (x + 1)) (51 - x)) (by omega)]
      refine r_iasv (51 - x) rfl ⟨by decide, by decide, rfl⟩ rfl (by show _ < 52; omega) (fun u1 q1 q2 q3 q4 => ?_)
      refine g_load rfl rfl rfl trivial ?_
      refine g_load rfl rfl rfl trivial ?_
      refine g_load rfl rfl rfl trivial ?_
      refine r_iasv (jN (sdN seed (x + 1)) (51 - x)) rfl ⟨by decide, by decide, rfl⟩ rfl (by show _ < 52; omega) (fun u2 s1 s2 s3 s4 => ?_)
      refine g_iinc (nI (51 - (x + 1))) [some (.ref 25), some (.int seed), some (.ref 46), some (.int (sdN seed (x + 1))), some (.int (nI (51 - (x + 1)))), some (.int (nI (jN (sdN seed (x + 1)) (51 - x)))), some (.int (rwN seed x (51 - x)))] rfl rfl (by rw [show 51 - x = 51 - (x + 1) + 1 by omega]; exact pk_m1 _) rfl ?_
      refine g_goto rfl ?_
      refine ih (x + 1) u2 _ _ ⟨s1.trans (q1.trans hD.1), fun b hb => (s2 b hb).trans ((q2 b hb).trans (hD.2.1 b hb)), fun k hk => ?_⟩ (by omega) (by omega)
      show u2.2 46 k = swp (rwN seed x) (51 - x) (jN (sdN seed (x + 1)) (51 - x)) k
      unfold swp upd
      by_cases h1 : k = jN (sdN seed (x + 1)) (51 - x)
      · rw [if_pos h1, h1, s3]
      · rw [if_neg h1, s4 k h1]
        by_cases h2 : k = 51 - x
        · rw [if_pos h2, h2, q3]
        · rw [if_neg h2, q4 k h2, hD.2.2 k hk]
/-- what a deal leaves -/
def dealt (u u' : rS) (nb : Nat) (f : Nat → Int32) (k : Nat) : Prop := u'.1 = u.1 ∧ (∀ a, a ≠ 26 → a ≠ 46 → u'.2 a = u.2 a) ∧ (∀ z, z < 52 * nb → u'.2 26 z = u.2 26 z) ∧ ∀ x, x < k → u'.2 26 (52 * nb + cN f x) = nI (x % 4)
set_option maxRecDepth 20000 in
theorem r_deal_3 {pr : aC} {d : Nat} {u0 : rS} (seed : Int32) (nb : Nat) (f : Nat → Int32) (h0 : u0.1 0 = nI nb) (hnb : nb < 36) (hf : rowOk f) {Q : Option Value → rS → Prop} (s3 : Int32) (hQ : ∀ u l4 l5 l6, dealt u0 u nb f 52 → rB pr d cd_161 (some .int) Q 77 [some (.ref 25), some (.int seed), some (.ref 46), some (.int s3), l4, l5, l6] [] u) : ∀ (zz : Nat) (x : Nat) (u : rS) (l5 l6 : Option Value) (hD : dealt u0 u nb f x) (hr : ∀ k, k < 52 → u.2 46 k = f k) (hm : 52 - x < zz) (hle : x ≤ 52), rB pr (d) cd_161 (Option.some Jvm.ClassFile.FieldType.int) Q 58 [some (.ref 25), some (.int seed), some (.ref 46), some (.int s3), some (.int (nI x)), l5, l6] [] u := by
  intro zz
  induction zz with
  | zero => intro x u l5 l6 hD hr hm hle; exact absurd hm (by omega)
  | succ zz ih =>
    intro x u l5 l6 hD hr hm hle
    refine g_load rfl rfl rfl trivial ?_
    refine g_bipush (nI 52) rfl (by decide) ?_
    refine g_icmp_ge rfl (fun c1 => ?_) (fun c1 => ?_)
    · rw [nI_leI (by omega) (by omega)] at c1
      have hx : x = 52 := by omega
      subst hx
      exact hQ u _ _ _ hD
    · rw [nI_leI (by omega) (by omega)] at c1
      have hcx := hf.1 x (by omega)
      refine g_load rfl rfl rfl trivial ?_
      refine r_getf rfl rfl ?_
      refine g_bipush (nI 52) rfl (by decide) ?_
      refine g_load rfl rfl rfl trivial ?_
      refine r_getf rfl rfl ?_
      refine g_imul rfl ?_
      refine g_load rfl rfl rfl trivial ?_
      refine g_load rfl rfl rfl trivial ?_
      refine r_ia (x) rfl ⟨by decide, by decide, rfl⟩ rfl (by show _ < 52; omega) ?_
      rw [hr x (by omega), hcx.2, show u.1 0 = nI nb by rw [hD.1]; exact h0, pk_mul]
      refine g_iadd rfl ?_
      rw [nI_add]
      refine g_load rfl rfl rfl trivial ?_
      refine g_iconst (nI 4) rfl (by decide) ?_
      refine g_irem rfl (by decide) ?_
      rw [pk_rem (by omega) (by omega) (by omega)]
      refine r_iasv (52 * nb + cN f x) rfl ⟨by decide, by decide, rfl⟩ rfl (by show _ < 1872; omega) (fun u1 q1 q2 q3 q4 => ?_)
      refine g_iinc (nI (x + 1)) [some (.ref 25), some (.int seed), some (.ref 46), some (.int s3), some (.int (nI (x + 1))), l5, l6] rfl rfl (nI_1 x) rfl ?_
      refine g_goto rfl ?_
      refine ih (x + 1) u1 _ _ ⟨q1.trans hD.1, fun a h1 h2 => (q2 a h1).trans (hD.2.1 a h1 h2), fun z hz => (q4 z (by omega)).trans (hD.2.2.1 z hz), fun y hy => ?_⟩ (fun k hk => by rw [q2 46 (by decide)]; exact hr k hk) (by omega) (by omega)
      by_cases hyx : y = x
      · subst hyx; exact q3
      · rw [q4 _ (fun q => hyx (hf.2 y x (by omega) (by omega) (by omega)))]
        exact hD.2.2.2 y (by omega)
set_option maxRecDepth 20000 in
theorem r_deal {pr : aC} {d : Nat} {u : rS} (seed : Int32) (nb : Nat) (h0 : u.1 0 = nI nb) (hnb : nb ≤ 36) {Q : Option Value → rS → Prop} (hF : nb = 36 → Q (some (.int (-1))) u) (hT : nb < 36 → ∀ u1 u', dealt u u1 nb (rwN seed 51) 52 → u'.1 = upd u.1 0 (nI (nb + 1)) → u'.2 = rU u1.2 27 nb 0 → Q (some (.int (nI (nb + 1)))) u') : rR pr (d + 1) 161 [.ref 25, .int seed] u Q := by
  refine gR_of mi_161 rFr_rf rfl (Nat.le_of_ble_eq_true rfl) ?_
  show rB pr (d) cd_161 (Option.some Jvm.ClassFile.FieldType.int) Q 0 [some (.ref 25), some (.int seed), none, none, none, none, none] [] u
  refine g_load rfl rfl rfl trivial ?_
  refine r_getf rfl rfl ?_
  refine g_bipush (nI 36) rfl (by decide) ?_
  rw [h0]
  refine g_icmp_ne rfl (fun c1 => ?_) (fun c1 => ?_)
  · rw [nI_eq (by omega) (by omega)] at c1
    refine g_load rfl rfl rfl trivial ?_
    refine r_getf rfl rfl ?_
    refine g_store [some (.ref 25), some (.int seed), some (.ref 46), none, none, none, none] rfl rfl trivial (Nat.le_of_ble_eq_true rfl) rfl ?_
    refine g_iconst (nI 0) rfl (by decide) ?_
    refine g_store [some (.ref 25), some (.int seed), some (.ref 46), some (.int (nI 0)), none, none, none] rfl rfl trivial (Nat.le_of_ble_eq_true rfl) rfl ?_
    refine r_deal_1 seed (fun u1 hD => ?_) 53 0 u rfl (fun _ _ => rfl) (fun k hk => absurd hk (by omega)) (by omega) (by omega)
    refine g_load rfl rfl rfl trivial ?_
    refine g_store [some (.ref 25), some (.int seed), some (.ref 46), some (.int seed), none, none, none] rfl rfl trivial (Nat.le_of_ble_eq_true rfl) rfl ?_
    refine g_bipush (nI 51) rfl (by decide) ?_
    refine g_store [some (.ref 25), some (.int seed), some (.ref 46), some (.int seed), some (.int (nI 51)), none, none] rfl rfl trivial (Nat.le_of_ble_eq_true rfl) rfl ?_
    refine r_deal_2 seed (fun u2 l5 l6 hD2 => ?_) 52 0 u1 none none hD (by omega) (by omega)
    refine g_iconst (nI 0) rfl (by decide) ?_
    refine g_store [some (.ref 25), some (.int seed), some (.ref 46), some (.int (sdN seed 51)), some (.int (nI 0)), l5, l6] rfl rfl trivial (Nat.le_of_ble_eq_true rfl) rfl ?_
    refine r_deal_3 (u0 := u) seed nb (rwN seed 51) h0 (by omega) (rowOk_N seed 51 (by omega)) (sdN seed 51) (fun u3 l4 l5 l6 hD3 => ?_) 53 0 u2 l5 l6 ⟨hD2.1, fun a h1 h2 => hD2.2.1 a h2, fun z hz => by rw [hD2.2.1 26 (by decide)], fun x hx => absurd hx (by omega)⟩ hD2.2.2 (by omega) (by omega)
    have h3 : u3.1 0 = nI nb := by rw [hD3.1]; exact h0
    refine g_load rfl rfl rfl trivial ?_
    refine r_getf rfl rfl ?_
    refine g_load rfl rfl rfl trivial ?_
    refine r_getf rfl rfl ?_
    refine g_iconst (nI 0) rfl (by decide) ?_
    rw [h3]
    refine r_zas (nb) rfl ⟨by decide, by decide, rfl⟩ rfl (by show _ < 36; omega) ?_
    refine g_load rfl rfl rfl trivial ?_
    refine g_dup rfl rfl ?_
    refine r_getf rfl rfl ?_
    refine g_iconst (nI 1) rfl (by decide) ?_
    refine g_iadd rfl ?_
    rw [show ((u3.1, rU u3.2 27 nb (vp_nar .boolean (nI 0))) : rS).1 0 = nI nb from h3, nI_add]
    refine r_puti rfl (by simp [rIs]) ?_
    refine g_load rfl rfl rfl trivial ?_
    refine r_getf rfl rfl ?_
    refine g_vret rfl trivial ⟨rfl, rfl⟩ (Nat.le_refl _) (Nat.le_refl _) ?_
    exact hT (by omega) u3 _ hD3 (by rw [← hD3.1]) (by rfl)
  · rw [nI_eq (by omega) (by omega)] at c1
    have hQ := hF c1
    refine g_iconst (-1) rfl (by decide) ?_
    refine g_vret rfl trivial ⟨rfl, rfl⟩ (Nat.le_refl _) (Nat.le_refl _) ?_
    exact hQ
end
section
/-! ===== the reference: a result comes; call, play ===== -/
def kS (u v : rS) : Prop := v.1 = u.1 ∧ ∀ a, a < 35 → v.2 a = u.2 a
theorem kS.rf (u : rS) : kS u u := ⟨rfl, fun _ _ => rfl⟩
theorem kS.st {u v w : rS} (h : kS u v) {a : Nat} (q1 : w.1 = v.1) (q2 : ∀ b, b ≠ a → w.2 b = v.2 b) (ha : 35 ≤ a) : kS u w := ⟨q1.trans h.1, fun b hb => (q2 b (by omega)).trans (h.2 b hb)⟩
theorem kS_cf {u v : rS} (h : kS u v) (t : Nat) : cf v t = cf u t := by unfold cf; rw [h.2 33 (by decide)]
/-- a result has come at table t: R says what it holds (36, 0: its pairs) -/
def ended (u v : rS) (t nr : Nat) (R : Nat → Int32) : Prop := v.1 1 = nI (nr + 1) ∧ (∀ g, g ≠ 1 → v.1 g = u.1 g) ∧ v.2 28 t = 0 ∧ (∀ z, z ≠ t → v.2 28 z = u.2 28 z) ∧ (∀ a, a ≠ 28 → (a < 35 ∨ a = 43 ∨ 44 < a) → v.2 a = u.2 a) ∧ (∀ a, ((35 ≤ a ∧ a ≤ 42 ∧ a ≠ 36) ∨ a = 44) → v.2 a nr = R a ∧ ∀ z, z ≠ nr → v.2 a z = u.2 a z) ∧ v.2 36 (2 * nr) = R 36 ∧ v.2 36 (2 * nr + 1) = R 0 ∧ ∀ z, z ≠ 2 * nr → z ≠ 2 * nr + 1 → v.2 36 z = u.2 36 z
def rec0 (u : rS) (t : Nat) (tk : Int32) (a : Nat) : Int32 := if a = 35 then u.2 29 t else if a = 36 then u.2 30 (2 * t) else if a = 0 then u.2 30 (2 * t + 1) else if a = 37 then 0 else if a = 38 then -1 else if a = 39 then -1 else if a = 40 then -1 else if a = 41 then tk else 0
def recC (u : rS) (t n b bd : Nat) (k : Nat) (a : Nat) : Int32 := if a = 35 then u.2 29 t else if a = 36 then u.2 30 (2 * t) else if a = 0 then u.2 30 (2 * t + 1) else if a = 37 then lvF (cf u t) b else if a = 38 then stF (cf u t) b else if a = 39 then nI (dcN (cf u t) (bd % 4) b) else if a = 40 then dblF (cf u t) n else if a = 41 then nI k else if a = 42 then (if dcN (cf u t) (bd % 4) b % 2 = 0 then scG (lvF (cf u t) b) (stF (cf u t) b) (dblF (cf u t) n) (vulF bd (dcN (cf u t) (bd % 4) b % 2)) (nI k) else -(scG (lvF (cf u t) b) (stF (cf u t) b) (dblF (cf u t) n) (vulF bd (dcN (cf u t) (bd % 4) b % 2)) (nI k))) else 0
set_option maxRecDepth 20000 in
theorem r_ends_p {pr : aC} {d : Nat} {u : rS} (t : Nat) (ht : t < 10) (nr : Nat) (h1 : u.1 1 = nI nr) (hn : nr < 220) {Q : Option Value → rS → Prop} (hQ : ∀ v, ended u v t nr (rec0 u t (-1)) → Q none v) : rR pr (d + 5 + 1) 197 [.ref 25, .int (nI t), .int (-1)] u Q := by
  refine gR_of mi_197 rFr_rf rfl (Nat.le_of_ble_eq_true rfl) ?_
  show rB pr (d + 5) cd_197 none Q 0 [some (.ref 25), some (.int (nI t)), some (.int (-1)), none, none, none, none] [] u
  refine g_load rfl rfl rfl trivial ?_
  refine r_getf rfl rfl ?_
  rw [h1]
  refine g_store [some (.ref 25), some (.int (nI t)), some (.int (-1)), some (.int (nI nr)), none, none, none] rfl rfl trivial (Nat.le_of_ble_eq_true rfl) rfl ?_
  refine g_load rfl rfl rfl trivial ?_
  refine r_getf rfl rfl ?_
  refine g_load rfl rfl rfl trivial ?_
  refine r_ia (t) rfl ⟨by decide, by decide, rfl⟩ rfl (by show _ < 10; omega) ?_
  refine g_store [some (.ref 25), some (.int (nI t)), some (.int (-1)), some (.int (nI nr)), some (.int (u.2 29 t)), none, none] rfl rfl trivial (Nat.le_of_ble_eq_true rfl) rfl ?_
  refine g_load rfl rfl rfl trivial ?_
  refine r_getf rfl rfl ?_
  refine g_load rfl rfl rfl trivial ?_
  refine g_load rfl rfl rfl trivial ?_
  refine r_iasv (nr) rfl ⟨by decide, by decide, rfl⟩ rfl (by show _ < 220; omega) (fun v1 xa1 xb1 xc1 xd1 => ?_)
  have hS1 : kS u v1 := (kS.rf u).st xa1 xb1 (by decide)
  refine g_load rfl rfl rfl trivial ?_
  refine r_getf rfl rfl ?_
  refine g_iconst (nI 2) rfl (by decide) ?_
  refine g_load rfl rfl rfl trivial ?_
  refine g_imul rfl ?_
  refine g_load rfl rfl rfl trivial ?_
  refine r_getf rfl rfl ?_
  refine g_iconst (nI 2) rfl (by decide) ?_
  refine g_load rfl rfl rfl trivial ?_
  refine g_imul rfl ?_
  refine r_ia (2 * t) rfl ⟨by decide, by decide, rfl⟩ (pk_mul 2 t) (by show _ < 20; omega) ?_
  refine r_iasv (2 * nr) rfl ⟨by decide, by decide, rfl⟩ (pk_mul 2 nr) (by show _ < 440; omega) (fun v2 xa2 xb2 xc2 xd2 => ?_)
  have hS2 : kS u v2 := (hS1).st xa2 xb2 (by decide)
  refine g_load rfl rfl rfl trivial ?_
  refine r_getf rfl rfl ?_
  refine g_iconst (nI 2) rfl (by decide) ?_
  refine g_load rfl rfl rfl trivial ?_
  refine g_imul rfl ?_
  refine g_iconst (nI 1) rfl (by decide) ?_
  refine g_iadd rfl ?_
  refine g_load rfl rfl rfl trivial ?_
  refine r_getf rfl rfl ?_
  refine g_iconst (nI 2) rfl (by decide) ?_
  refine g_load rfl rfl rfl trivial ?_
  refine g_imul rfl ?_
  refine g_iconst (nI 1) rfl (by decide) ?_
  refine g_iadd rfl ?_
  refine r_ia (2 * t + 1) rfl ⟨by decide, by decide, rfl⟩ (by rw [pk_mul, nI_add]) (by show _ < 20; omega) ?_
  refine r_iasv (2 * nr + 1) rfl ⟨by decide, by decide, rfl⟩ (by rw [pk_mul, nI_add]) (by show _ < 440; omega) (fun v3 xa3 xb3 xc3 xd3 => ?_)
  have hS3 : kS u v3 := (hS2).st xa3 xb3 (by decide)
  refine g_load rfl rfl rfl trivial ?_
  refine r_getf rfl rfl ?_
  refine g_load rfl rfl rfl trivial ?_
  refine g_iconst (nI 0) rfl (by decide) ?_
  refine r_iasv (nr) rfl ⟨by decide, by decide, rfl⟩ rfl (by show _ < 220; omega) (fun v4 xa4 xb4 xc4 xd4 => ?_)
  have hS4 : kS u v4 := (hS3).st xa4 xb4 (by decide)
  refine g_load rfl rfl rfl trivial ?_
  refine r_getf rfl rfl ?_
  refine g_load rfl rfl rfl trivial ?_
  refine g_iconst (-1) rfl (by decide) ?_
  refine r_iasv (nr) rfl ⟨by decide, by decide, rfl⟩ rfl (by show _ < 220; omega) (fun v5 xa5 xb5 xc5 xd5 => ?_)
  have hS5 : kS u v5 := (hS4).st xa5 xb5 (by decide)
  refine g_load rfl rfl rfl trivial ?_
  refine r_getf rfl rfl ?_
  refine g_load rfl rfl rfl trivial ?_
  refine g_iconst (-1) rfl (by decide) ?_
  refine r_iasv (nr) rfl ⟨by decide, by decide, rfl⟩ rfl (by show _ < 220; omega) (fun v6 xa6 xb6 xc6 xd6 => ?_)
  have hS6 : kS u v6 := (hS5).st xa6 xb6 (by decide)
  refine g_load rfl rfl rfl trivial ?_
  refine r_getf rfl rfl ?_
  refine g_load rfl rfl rfl trivial ?_
  refine g_iconst (-1) rfl (by decide) ?_
  refine r_iasv (nr) rfl ⟨by decide, by decide, rfl⟩ rfl (by show _ < 220; omega) (fun v7 xa7 xb7 xc7 xd7 => ?_)
  have hS7 : kS u v7 := (hS6).st xa7 xb7 (by decide)
  refine g_load rfl rfl rfl trivial ?_
  refine r_getf rfl rfl ?_
  refine g_load rfl rfl rfl trivial ?_
  refine g_load rfl rfl rfl trivial ?_
  refine r_iasv (nr) rfl ⟨by decide, by decide, rfl⟩ rfl (by show _ < 220; omega) (fun v8 xa8 xb8 xc8 xd8 => ?_)
  have hS8 : kS u v8 := (hS7).st xa8 xb8 (by decide)
  refine g_load rfl rfl rfl trivial ?_
  refine r_getf rfl rfl ?_
  refine g_load rfl rfl rfl trivial ?_
  refine g_iconst (nI 0) rfl (by decide) ?_
  refine r_iasv (nr) rfl ⟨by decide, by decide, rfl⟩ rfl (by show _ < 220; omega) (fun v9 xa9 xb9 xc9 xd9 => ?_)
  have hS9 : kS u v9 := (hS8).st xa9 xb9 (by decide)
  refine g_load rfl rfl rfl trivial ?_
  refine r_getf rfl rfl ?_
  refine g_load rfl rfl rfl trivial ?_
  refine g_iconst (nI 0) rfl (by decide) ?_
  refine r_zasv (nr) rfl ⟨by decide, by decide, rfl⟩ rfl (by show _ < 220; omega) (fun v10 xa10 xb10 xc10 xd10 => ?_)
  have hS10 : kS u v10 := (hS9).st xa10 xb10 (by decide)
  refine g_load rfl rfl rfl trivial ?_
  refine g_iconst (-1) rfl (by decide) ?_
  refine g_icmp_eq rfl (fun c1 => ?_) (fun c1 => ?_)
  · refine g_load rfl rfl rfl trivial ?_
    refine g_dup rfl rfl ?_
    refine r_getf rfl rfl ?_
    refine g_iconst (nI 1) rfl (by decide) ?_
    refine g_iadd rfl ?_
    rw [show v10.1 1 = nI nr by rw [hS10.1]; exact h1, nI_add]
    refine r_putv rfl (by simp [rIs]) (fun w1 p2 pf po => ?_)
    refine g_load rfl rfl rfl trivial ?_
    refine r_getf rfl rfl ?_
    refine g_load rfl rfl rfl trivial ?_
    refine g_iconst (nI 0) rfl (by decide) ?_
    refine r_iasv (t) rfl ⟨by decide, by decide, rfl⟩ rfl (by show _ < 10; omega) (fun w2 f1 f2 f3 f4 => ?_)
    refine g_ret rfl rfl (Nat.le_refl _) (Nat.le_refl _) ?_
    refine hQ w2 ⟨?_, ?_, ?_, ?_, ?_, ?_, ?_, ?_, ?_⟩
    · rw [f1, pf]
    · intro g hg; rw [f1, po g hg, xa10, xa9, xa8, xa7, xa6, xa5, xa4, xa3, xa2, xa1]
    · exact f3
    · intro z hz; rw [f4 z hz, p2, hS10.2 28 (by decide)]
    · intro a h28 ha; rw [f2 a h28, p2, xb10 a (by omega), xb9 a (by omega), xb8 a (by omega), xb7 a (by omega), xb6 a (by omega), xb5 a (by omega), xb4 a (by omega), xb3 a (by omega), xb2 a (by omega), xb1 a (by omega)]
    · intro a ha
      rcases (show a = 35 ∨ a = 37 ∨ a = 38 ∨ a = 39 ∨ a = 40 ∨ a = 41 ∨ a = 42 ∨ a = 44 by omega) with rfl | rfl | rfl | rfl | rfl | rfl | rfl | rfl
      · refine ⟨?_, fun z hz => ?_⟩
        · rw [f2 35 (by decide), p2, xb10 35 (by decide), xb9 35 (by decide), xb8 35 (by decide), xb7 35 (by decide), xb6 35 (by decide), xb5 35 (by decide), xb4 35 (by decide), xb3 35 (by decide), xb2 35 (by decide), xc1]
          all_goals first | rfl | exact rfl
        · rw [f2 35 (by decide), p2, xb10 35 (by decide), xb9 35 (by decide), xb8 35 (by decide), xb7 35 (by decide), xb6 35 (by decide), xb5 35 (by decide), xb4 35 (by decide), xb3 35 (by decide), xb2 35 (by decide), xd1 z hz]
      · refine ⟨?_, fun z hz => ?_⟩
        · rw [f2 37 (by decide), p2, xb10 37 (by decide), xb9 37 (by decide), xb8 37 (by decide), xb7 37 (by decide), xb6 37 (by decide), xb5 37 (by decide), xc4]
          all_goals first | rfl | exact rfl
        · rw [f2 37 (by decide), p2, xb10 37 (by decide), xb9 37 (by decide), xb8 37 (by decide), xb7 37 (by decide), xb6 37 (by decide), xb5 37 (by decide), xd4 z hz, xb3 37 (by decide), xb2 37 (by decide), xb1 37 (by decide)]
      · refine ⟨?_, fun z hz => ?_⟩
        · rw [f2 38 (by decide), p2, xb10 38 (by decide), xb9 38 (by decide), xb8 38 (by decide), xb7 38 (by decide), xb6 38 (by decide), xc5]
          all_goals first | rfl | exact rfl
        · rw [f2 38 (by decide), p2, xb10 38 (by decide), xb9 38 (by decide), xb8 38 (by decide), xb7 38 (by decide), xb6 38 (by decide), xd5 z hz, xb4 38 (by decide), xb3 38 (by decide), xb2 38 (by decide), xb1 38 (by decide)]
      · refine ⟨?_, fun z hz => ?_⟩
        · rw [f2 39 (by decide), p2, xb10 39 (by decide), xb9 39 (by decide), xb8 39 (by decide), xb7 39 (by decide), xc6]
          all_goals first | rfl | exact rfl
        · rw [f2 39 (by decide), p2, xb10 39 (by decide), xb9 39 (by decide), xb8 39 (by decide), xb7 39 (by decide), xd6 z hz, xb5 39 (by decide), xb4 39 (by decide), xb3 39 (by decide), xb2 39 (by decide), xb1 39 (by decide)]
      · refine ⟨?_, fun z hz => ?_⟩
        · rw [f2 40 (by decide), p2, xb10 40 (by decide), xb9 40 (by decide), xb8 40 (by decide), xc7]
          all_goals first | rfl | exact rfl
        · rw [f2 40 (by decide), p2, xb10 40 (by decide), xb9 40 (by decide), xb8 40 (by decide), xd7 z hz, xb6 40 (by decide), xb5 40 (by decide), xb4 40 (by decide), xb3 40 (by decide), xb2 40 (by decide), xb1 40 (by decide)]
      · refine ⟨?_, fun z hz => ?_⟩
        · rw [f2 41 (by decide), p2, xb10 41 (by decide), xb9 41 (by decide), xc8]
          all_goals first | rfl | exact rfl
        · rw [f2 41 (by decide), p2, xb10 41 (by decide), xb9 41 (by decide), xd8 z hz, xb7 41 (by decide), xb6 41 (by decide), xb5 41 (by decide), xb4 41 (by decide), xb3 41 (by decide), xb2 41 (by decide), xb1 41 (by decide)]
      · refine ⟨?_, fun z hz => ?_⟩
        · rw [f2 42 (by decide), p2, xb10 42 (by decide), xc9]
          all_goals first | rfl | exact rfl
        · rw [f2 42 (by decide), p2, xb10 42 (by decide), xd9 z hz, xb8 42 (by decide), xb7 42 (by decide), xb6 42 (by decide), xb5 42 (by decide), xb4 42 (by decide), xb3 42 (by decide), xb2 42 (by decide), xb1 42 (by decide)]
      · refine ⟨?_, fun z hz => ?_⟩
        · rw [f2 44 (by decide), p2, xc10]
          all_goals first | rfl | exact rfl
        · rw [f2 44 (by decide), p2, xd10 z hz, xb9 44 (by decide), xb8 44 (by decide), xb7 44 (by decide), xb6 44 (by decide), xb5 44 (by decide), xb4 44 (by decide), xb3 44 (by decide), xb2 44 (by decide), xb1 44 (by decide)]
    · rw [f2 36 (by decide), p2, xb10 36 (by decide), xb9 36 (by decide), xb8 36 (by decide), xb7 36 (by decide), xb6 36 (by decide), xb5 36 (by decide), xb4 36 (by decide), xd3 (2 * nr) (by omega), xc2, hS1.2 30 (by decide)]; rfl
    · rw [f2 36 (by decide), p2, xb10 36 (by decide), xb9 36 (by decide), xb8 36 (by decide), xb7 36 (by decide), xb6 36 (by decide), xb5 36 (by decide), xb4 36 (by decide), xc3, hS2.2 30 (by decide)]; rfl
    · intro z h1z h2z; rw [f2 36 (by decide), p2, xb10 36 (by decide), xb9 36 (by decide), xb8 36 (by decide), xb7 36 (by decide), xb6 36 (by decide), xb5 36 (by decide), xb4 36 (by decide), xd3 z h2z, xd2 z h1z, xb1 36 (by decide)]
  · exact absurd rfl c1
theorem nI_m1 {k : Nat} (h : k < 2 ^ 31) : ¬ nI k = -1 := by
  intro e
  have h1 := congrArg Int32.toInt e
  rw [nI_toInt h, show (-1 : Int32).toInt = -1 by decide] at h1
  omega
set_option maxRecDepth 20000 in
theorem r_ends_c {pr : aC} {d : Nat} {u : rS} (t : Nat) (ht : t < 10) (nr : Nat) (h1 : u.1 1 = nI nr) (hn : nr < 220) (n b bd k : Nat) (hc : u.2 31 t = nI n) (hn3 : n ≤ 340) (hb : last ge3 (cf u t) n = some b) (hbd : u.2 29 t = nI (bd + 1)) (hbd2 : bd < 36) (hk : k < 1000) {Q : Option Value → rS → Prop} (hQ : ∀ v, ended u v t nr (recC u t n b bd k) → Q none v) : rR pr (d + 5 + 1) 197 [.ref 25, .int (nI t), .int (nI k)] u Q := by
  refine gR_of mi_197 rFr_rf rfl (Nat.le_of_ble_eq_true rfl) ?_
  show rB pr (d + 5) cd_197 none Q 0 [some (.ref 25), some (.int (nI t)), some (.int (nI k)), none, none, none, none] [] u
  refine g_load rfl rfl rfl trivial ?_
  refine r_getf rfl rfl ?_
  rw [h1]
  refine g_store [some (.ref 25), some (.int (nI t)), some (.int (nI k)), some (.int (nI nr)), none, none, none] rfl rfl trivial (Nat.le_of_ble_eq_true rfl) rfl ?_
  refine g_load rfl rfl rfl trivial ?_
  refine r_getf rfl rfl ?_
  refine g_load rfl rfl rfl trivial ?_
  refine r_ia (t) rfl ⟨by decide, by decide, rfl⟩ rfl (by show _ < 10; omega) ?_
  rw [hbd]
  refine g_store [some (.ref 25), some (.int (nI t)), some (.int (nI k)), some (.int (nI nr)), some (.int (nI (bd + 1))), none, none] rfl rfl trivial (Nat.le_of_ble_eq_true rfl) rfl ?_
  refine g_load rfl rfl rfl trivial ?_
  refine r_getf rfl rfl ?_
  refine g_load rfl rfl rfl trivial ?_
  refine g_load rfl rfl rfl trivial ?_
  refine r_iasv (nr) rfl ⟨by decide, by decide, rfl⟩ rfl (by show _ < 220; omega) (fun v1 xa1 xb1 xc1 xd1 => ?_)
  have hS1 : kS u v1 := (kS.rf u).st xa1 xb1 (by decide)
  refine g_load rfl rfl rfl trivial ?_
  refine r_getf rfl rfl ?_
  refine g_iconst (nI 2) rfl (by decide) ?_
  refine g_load rfl rfl rfl trivial ?_
  refine g_imul rfl ?_
  refine g_load rfl rfl rfl trivial ?_
  refine r_getf rfl rfl ?_
  refine g_iconst (nI 2) rfl (by decide) ?_
  refine g_load rfl rfl rfl trivial ?_
  refine g_imul rfl ?_
  refine r_ia (2 * t) rfl ⟨by decide, by decide, rfl⟩ (pk_mul 2 t) (by show _ < 20; omega) ?_
  refine r_iasv (2 * nr) rfl ⟨by decide, by decide, rfl⟩ (pk_mul 2 nr) (by show _ < 440; omega) (fun v2 xa2 xb2 xc2 xd2 => ?_)
  have hS2 : kS u v2 := (hS1).st xa2 xb2 (by decide)
  refine g_load rfl rfl rfl trivial ?_
  refine r_getf rfl rfl ?_
  refine g_iconst (nI 2) rfl (by decide) ?_
  refine g_load rfl rfl rfl trivial ?_
  refine g_imul rfl ?_
  refine g_iconst (nI 1) rfl (by decide) ?_
  refine g_iadd rfl ?_
  refine g_load rfl rfl rfl trivial ?_
  refine r_getf rfl rfl ?_
  refine g_iconst (nI 2) rfl (by decide) ?_
  refine g_load rfl rfl rfl trivial ?_
  refine g_imul rfl ?_
  refine g_iconst (nI 1) rfl (by decide) ?_
  refine g_iadd rfl ?_
  refine r_ia (2 * t + 1) rfl ⟨by decide, by decide, rfl⟩ (by rw [pk_mul, nI_add]) (by show _ < 20; omega) ?_
  refine r_iasv (2 * nr + 1) rfl ⟨by decide, by decide, rfl⟩ (by rw [pk_mul, nI_add]) (by show _ < 440; omega) (fun v3 xa3 xb3 xc3 xd3 => ?_)
  have hS3 : kS u v3 := (hS2).st xa3 xb3 (by decide)
  refine g_load rfl rfl rfl trivial ?_
  refine r_getf rfl rfl ?_
  refine g_load rfl rfl rfl trivial ?_
  refine g_iconst (nI 0) rfl (by decide) ?_
  refine r_iasv (nr) rfl ⟨by decide, by decide, rfl⟩ rfl (by show _ < 220; omega) (fun v4 xa4 xb4 xc4 xd4 => ?_)
  have hS4 : kS u v4 := (hS3).st xa4 xb4 (by decide)
  refine g_load rfl rfl rfl trivial ?_
  refine r_getf rfl rfl ?_
  refine g_load rfl rfl rfl trivial ?_
  refine g_iconst (-1) rfl (by decide) ?_
  refine r_iasv (nr) rfl ⟨by decide, by decide, rfl⟩ rfl (by show _ < 220; omega) (fun v5 xa5 xb5 xc5 xd5 => ?_)
  have hS5 : kS u v5 := (hS4).st xa5 xb5 (by decide)
  refine g_load rfl rfl rfl trivial ?_
  refine r_getf rfl rfl ?_
  refine g_load rfl rfl rfl trivial ?_
  refine g_iconst (-1) rfl (by decide) ?_
  refine r_iasv (nr) rfl ⟨by decide, by decide, rfl⟩ rfl (by show _ < 220; omega) (fun v6 xa6 xb6 xc6 xd6 => ?_)
  have hS6 : kS u v6 := (hS5).st xa6 xb6 (by decide)
  refine g_load rfl rfl rfl trivial ?_
  refine r_getf rfl rfl ?_
  refine g_load rfl rfl rfl trivial ?_
  refine g_iconst (-1) rfl (by decide) ?_
  refine r_iasv (nr) rfl ⟨by decide, by decide, rfl⟩ rfl (by show _ < 220; omega) (fun v7 xa7 xb7 xc7 xd7 => ?_)
  have hS7 : kS u v7 := (hS6).st xa7 xb7 (by decide)
  refine g_load rfl rfl rfl trivial ?_
  refine r_getf rfl rfl ?_
  refine g_load rfl rfl rfl trivial ?_
  refine g_load rfl rfl rfl trivial ?_
  refine r_iasv (nr) rfl ⟨by decide, by decide, rfl⟩ rfl (by show _ < 220; omega) (fun v8 xa8 xb8 xc8 xd8 => ?_)
  have hS8 : kS u v8 := (hS7).st xa8 xb8 (by decide)
  refine g_load rfl rfl rfl trivial ?_
  refine r_getf rfl rfl ?_
  refine g_load rfl rfl rfl trivial ?_
  refine g_iconst (nI 0) rfl (by decide) ?_
  refine r_iasv (nr) rfl ⟨by decide, by decide, rfl⟩ rfl (by show _ < 220; omega) (fun v9 xa9 xb9 xc9 xd9 => ?_)
  have hS9 : kS u v9 := (hS8).st xa9 xb9 (by decide)
  refine g_load rfl rfl rfl trivial ?_
  refine r_getf rfl rfl ?_
  refine g_load rfl rfl rfl trivial ?_
  refine g_iconst (nI 0) rfl (by decide) ?_
  refine r_zasv (nr) rfl ⟨by decide, by decide, rfl⟩ rfl (by show _ < 220; omega) (fun v10 xa10 xb10 xc10 xd10 => ?_)
  have hS10 : kS u v10 := (hS9).st xa10 xb10 (by decide)
  refine g_load rfl rfl rfl trivial ?_
  refine g_iconst (-1) rfl (by decide) ?_
  refine g_icmp_eq rfl (fun c1 => ?_) (fun c1 => ?_)
  · exact absurd c1 (nI_m1 (by omega))
  · refine g_load rfl rfl rfl trivial ?_
    refine r_getf rfl rfl ?_
    refine g_load rfl rfl rfl trivial ?_
    refine g_load rfl rfl rfl trivial ?_
    refine g_load rfl rfl rfl trivial ?_
    refine g_virtI (a := 25) (ci := 8) (n := 1) [.int (nI t)] rFr_tr rfl rfl (by decide) rfl r_this rfl (Nat.le_of_ble_eq_true rfl) (Nat.le_refl _) (Nat.le_refl _) (r_level t n b ht (by rw [hS10.2 31 (by decide)]; exact hc) hn3 (by rw [kS_cf hS10]; exact hb) ⟨_, rfl, ?_⟩)
    rw [kS_cf hS10]
    refine r_iasv (nr) rfl ⟨by decide, by decide, rfl⟩ rfl (by show _ < 220; omega) (fun v11 xa11 xb11 xc11 xd11 => ?_)
    have hS11 : kS u v11 := (hS10).st xa11 xb11 (by decide)
    refine g_load rfl rfl rfl trivial ?_
    refine r_getf rfl rfl ?_
    refine g_load rfl rfl rfl trivial ?_
    refine g_load rfl rfl rfl trivial ?_
    refine g_load rfl rfl rfl trivial ?_
    refine g_virtI (a := 25) (ci := 8) (n := 1) [.int (nI t)] rFr_tr rfl rfl (by decide) rfl r_this rfl (Nat.le_of_ble_eq_true rfl) (Nat.le_refl _) (Nat.le_refl _) (r_strain t n b ht (by rw [hS11.2 31 (by decide)]; exact hc) hn3 (by rw [kS_cf hS11]; exact hb) ⟨_, rfl, ?_⟩)
    rw [kS_cf hS11]
    refine r_iasv (nr) rfl ⟨by decide, by decide, rfl⟩ rfl (by show _ < 220; omega) (fun v12 xa12 xb12 xc12 xd12 => ?_)
    have hS12 : kS u v12 := (hS11).st xa12 xb12 (by decide)
    refine g_load rfl rfl rfl trivial ?_
    refine r_getf rfl rfl ?_
    refine g_load rfl rfl rfl trivial ?_
    refine g_load rfl rfl rfl trivial ?_
    refine g_load rfl rfl rfl trivial ?_
    refine g_virtI (a := 25) (ci := 8) (n := 1) [.int (nI t)] rFr_tr rfl rfl (by decide) rfl r_this rfl (Nat.le_of_ble_eq_true rfl) (Nat.le_refl _) (Nat.le_refl _) (r_declarer t n b bd ht (by rw [hS12.2 31 (by decide)]; exact hc) hn3 (by rw [kS_cf hS12]; exact hb) (by rw [hS12.2 29 (by decide)]; exact hbd) hbd2 ⟨_, rfl, ?_⟩)
    rw [kS_cf hS12]
    obtain ⟨hd1, hd4⟩ := dcF_N (dl := bd % 4) (last_lt hb).2
    rw [hd1]
    refine r_iasv (nr) rfl ⟨by decide, by decide, rfl⟩ rfl (by show _ < 220; omega) (fun v13 xa13 xb13 xc13 xd13 => ?_)
    have hS13 : kS u v13 := (hS12).st xa13 xb13 (by decide)
    refine g_load rfl rfl rfl trivial ?_
    refine r_getf rfl rfl ?_
    refine g_load rfl rfl rfl trivial ?_
    refine g_load rfl rfl rfl trivial ?_
    refine g_load rfl rfl rfl trivial ?_
    refine g_virtI (a := 25) (ci := 8) (n := 1) [.int (nI t)] rFr_tr rfl rfl (by decide) rfl r_this rfl (Nat.le_of_ble_eq_true rfl) (Nat.le_refl _) (Nat.le_refl _) (r_doubled t n ht (by rw [hS13.2 31 (by decide)]; exact hc) hn3 ⟨_, rfl, ?_⟩)
    rw [kS_cf hS13]
    refine r_iasv (nr) rfl ⟨by decide, by decide, rfl⟩ rfl (by show _ < 220; omega) (fun v14 xa14 xb14 xc14 xd14 => ?_)
    have hS14 : kS u v14 := (hS13).st xa14 xb14 (by decide)
    refine g_load rfl rfl rfl trivial ?_
    refine r_getf rfl rfl ?_
    refine g_load rfl rfl rfl trivial ?_
    refine r_ia (nr) rfl ⟨by decide, by decide, rfl⟩ rfl (by show _ < 220; omega) ?_
    rw [xb14 39 (by decide), xc13]
    refine g_iconst (nI 2) rfl (by decide) ?_
    refine g_irem rfl (by decide) ?_
    rw [pk_rem (by omega) (by omega) (by omega)]
    refine g_store [some (.ref 25), some (.int (nI t)), some (.int (nI k)), some (.int (nI nr)), some (.int (nI (bd + 1))), some (.int (nI (dcN (cf u t) (bd % 4) b % 2))), none] rfl rfl trivial (Nat.le_of_ble_eq_true rfl) rfl ?_
    refine g_load rfl rfl rfl trivial ?_
    refine g_load rfl rfl rfl trivial ?_
    refine r_getf rfl rfl ?_
    refine g_load rfl rfl rfl trivial ?_
    refine r_ia (nr) rfl ⟨by decide, by decide, rfl⟩ rfl (by show _ < 220; omega) ?_
    rw [xb14 37 (by decide), xb13 37 (by decide), xb12 37 (by decide), xc11]
    refine g_load rfl rfl rfl trivial ?_
    refine r_getf rfl rfl ?_
    refine g_load rfl rfl rfl trivial ?_
    refine r_ia (nr) rfl ⟨by decide, by decide, rfl⟩ rfl (by show _ < 220; omega) ?_
    rw [xb14 38 (by decide), xb13 38 (by decide), xc12]
    refine g_load rfl rfl rfl trivial ?_
    refine r_getf rfl rfl ?_
    refine g_load rfl rfl rfl trivial ?_
    refine r_ia (nr) rfl ⟨by decide, by decide, rfl⟩ rfl (by show _ < 220; omega) ?_
    rw [xc14]
    refine g_load rfl rfl rfl trivial ?_
    refine g_load rfl rfl rfl trivial ?_
    refine g_statI [.int (nI (bd + 1)), .int (nI (dcN (cf u t) (bd % 4) b % 2))] rFr_tr rfl rfl rfl (Nat.le_of_ble_eq_true rfl) (Nat.le_refl _) (Nat.le_refl _) (r_isVulnerable bd (dcN (cf u t) (bd % 4) b % 2) (by omega) (by omega) ⟨_, rfl, ?_⟩)
    refine g_load rfl rfl rfl trivial ?_
    refine g_virtI (a := 25) (ci := 8) (n := 5) [.int (lvF (cf u t) b), .int (stF (cf u t) b), .int (dblF (cf u t) n), .int (bI (vulF bd (dcN (cf u t) (bd % 4) b % 2))), .int (nI k)] rFr_tr rfl rfl (by decide) rfl r_this rfl (Nat.le_of_ble_eq_true rfl) (Nat.le_refl _) (Nat.le_refl _) (r_score (lvF (cf u t) b) (stF (cf u t) b) (dblF (cf u t) n) (nI k) (vulF bd (dcN (cf u t) (bd % 4) b % 2)) ⟨_, rfl, ?_⟩)
    refine g_store [some (.ref 25), some (.int (nI t)), some (.int (nI k)), some (.int (nI nr)), some (.int (nI (bd + 1))), some (.int (nI (dcN (cf u t) (bd % 4) b % 2))), some (.int (scG (lvF (cf u t) b) (stF (cf u t) b) (dblF (cf u t) n) (vulF bd (dcN (cf u t) (bd % 4) b % 2)) (nI k)))] rfl rfl trivial (Nat.le_of_ble_eq_true rfl) rfl ?_
    refine g_load rfl rfl rfl trivial ?_
    refine r_getf rfl rfl ?_
    refine g_load rfl rfl rfl trivial ?_
    refine g_load rfl rfl rfl trivial ?_
    have K2 : ∀ e2 : Int32, e2 = (recC u t n b bd k 42) → rB pr (d + 5) cd_197 none Q 142 [some (.ref 25), some (.int (nI t)), some (.int (nI k)), some (.int (nI nr)), some (.int (nI (bd + 1))), some (.int (nI (dcN (cf u t) (bd % 4) b % 2))), some (.int (scG (lvF (cf u t) b) (stF (cf u t) b) (dblF (cf u t) n) (vulF bd (dcN (cf u t) (bd % 4) b % 2)) (nI k)))] [.int e2, .int (nI nr), .ref 42] v14 := by
      intro e2 he2
      subst he2
      refine r_iasv (nr) rfl ⟨by decide, by decide, rfl⟩ rfl (by show _ < 220; omega) (fun v15 xa15 xb15 xc15 xd15 => ?_)
      have hS15 : kS u v15 := (hS14).st xa15 xb15 (by decide)
      refine g_load rfl rfl rfl trivial ?_
      refine g_dup rfl rfl ?_
      refine r_getf rfl rfl ?_
      refine g_iconst (nI 1) rfl (by decide) ?_
      refine g_iadd rfl ?_
      rw [show v15.1 1 = nI nr by rw [hS15.1]; exact h1, nI_add]
      refine r_putv rfl (by simp [rIs]) (fun w1 p2 pf po => ?_)
      refine g_load rfl rfl rfl trivial ?_
      refine r_getf rfl rfl ?_
      refine g_load rfl rfl rfl trivial ?_
      refine g_iconst (nI 0) rfl (by decide) ?_
      refine r_iasv (t) rfl ⟨by decide, by decide, rfl⟩ rfl (by show _ < 10; omega) (fun w2 f1 f2 f3 f4 => ?_)
      refine g_ret rfl rfl (Nat.le_refl _) (Nat.le_refl _) ?_
      refine hQ w2 ⟨?_, ?_, ?_, ?_, ?_, ?_, ?_, ?_, ?_⟩
      · rw [f1, pf]
      · intro g hg; rw [f1, po g hg, xa15, xa14, xa13, xa12, xa11, xa10, xa9, xa8, xa7, xa6, xa5, xa4, xa3, xa2, xa1]
      · exact f3
      · intro z hz; rw [f4 z hz, p2, hS15.2 28 (by decide)]
      · intro a h28 ha; rw [f2 a h28, p2, xb15 a (by omega), xb14 a (by omega), xb13 a (by omega), xb12 a (by omega), xb11 a (by omega), xb10 a (by omega), xb9 a (by omega), xb8 a (by omega), xb7 a (by omega), xb6 a (by omega), xb5 a (by omega), xb4 a (by omega), xb3 a (by omega), xb2 a (by omega), xb1 a (by omega)]
      · intro a ha
        rcases (show a = 35 ∨ a = 37 ∨ a = 38 ∨ a = 39 ∨ a = 40 ∨ a = 41 ∨ a = 42 ∨ a = 44 by omega) with rfl | rfl | rfl | rfl | rfl | rfl | rfl | rfl
        · refine ⟨?_, fun z hz => ?_⟩
          · rw [f2 35 (by decide), p2, xb15 35 (by decide), xb14 35 (by decide), xb13 35 (by decide), xb12 35 (by decide), xb11 35 (by decide), xb10 35 (by decide), xb9 35 (by decide), xb8 35 (by decide), xb7 35 (by decide), xb6 35 (by decide), xb5 35 (by decide), xb4 35 (by decide), xb3 35 (by decide), xb2 35 (by decide), xc1]
            all_goals first | rfl | exact hbd.symm
          · rw [f2 35 (by decide), p2, xb15 35 (by decide), xb14 35 (by decide), xb13 35 (by decide), xb12 35 (by decide), xb11 35 (by decide), xb10 35 (by decide), xb9 35 (by decide), xb8 35 (by decide), xb7 35 (by decide), xb6 35 (by decide), xb5 35 (by decide), xb4 35 (by decide), xb3 35 (by decide), xb2 35 (by decide), xd1 z hz]
        · refine ⟨?_, fun z hz => ?_⟩
          · rw [f2 37 (by decide), p2, xb15 37 (by decide), xb14 37 (by decide), xb13 37 (by decide), xb12 37 (by decide), xc11]
            all_goals first | rfl | exact rfl
          · rw [f2 37 (by decide), p2, xb15 37 (by decide), xb14 37 (by decide), xb13 37 (by decide), xb12 37 (by decide), xd11 z hz, xb10 37 (by decide), xb9 37 (by decide), xb8 37 (by decide), xb7 37 (by decide), xb6 37 (by decide), xb5 37 (by decide), xd4 z hz, xb3 37 (by decide), xb2 37 (by decide), xb1 37 (by decide)]
        · refine ⟨?_, fun z hz => ?_⟩
          · rw [f2 38 (by decide), p2, xb15 38 (by decide), xb14 38 (by decide), xb13 38 (by decide), xc12]
            all_goals first | rfl | exact rfl
          · rw [f2 38 (by decide), p2, xb15 38 (by decide), xb14 38 (by decide), xb13 38 (by decide), xd12 z hz, xb11 38 (by decide), xb10 38 (by decide), xb9 38 (by decide), xb8 38 (by decide), xb7 38 (by decide), xb6 38 (by decide), xd5 z hz, xb4 38 (by decide), xb3 38 (by decide), xb2 38 (by decide), xb1 38 (by decide)]
        · refine ⟨?_, fun z hz => ?_⟩
          · rw [f2 39 (by decide), p2, xb15 39 (by decide), xb14 39 (by decide), xc13]
            all_goals first | rfl | exact rfl
          · rw [f2 39 (by decide), p2, xb15 39 (by decide), xb14 39 (by decide), xd13 z hz, xb12 39 (by decide), xb11 39 (by decide), xb10 39 (by decide), xb9 39 (by decide), xb8 39 (by decide), xb7 39 (by decide), xd6 z hz, xb5 39 (by decide), xb4 39 (by decide), xb3 39 (by decide), xb2 39 (by decide), xb1 39 (by decide)]
        · refine ⟨?_, fun z hz => ?_⟩
          · rw [f2 40 (by decide), p2, xb15 40 (by decide), xc14]
            all_goals first | rfl | exact rfl
          · rw [f2 40 (by decide), p2, xb15 40 (by decide), xd14 z hz, xb13 40 (by decide), xb12 40 (by decide), xb11 40 (by decide), xb10 40 (by decide), xb9 40 (by decide), xb8 40 (by decide), xd7 z hz, xb6 40 (by decide), xb5 40 (by decide), xb4 40 (by decide), xb3 40 (by decide), xb2 40 (by decide), xb1 40 (by decide)]
        · refine ⟨?_, fun z hz => ?_⟩
          · rw [f2 41 (by decide), p2, xb15 41 (by decide), xb14 41 (by decide), xb13 41 (by decide), xb12 41 (by decide), xb11 41 (by decide), xb10 41 (by decide), xb9 41 (by decide), xc8]
            all_goals first | rfl | exact rfl
          · rw [f2 41 (by decide), p2, xb15 41 (by decide), xb14 41 (by decide), xb13 41 (by decide), xb12 41 (by decide), xb11 41 (by decide), xb10 41 (by decide), xb9 41 (by decide), xd8 z hz, xb7 41 (by decide), xb6 41 (by decide), xb5 41 (by decide), xb4 41 (by decide), xb3 41 (by decide), xb2 41 (by decide), xb1 41 (by decide)]
        · refine ⟨?_, fun z hz => ?_⟩
          · rw [f2 42 (by decide), p2, xc15]
            all_goals first | rfl | exact rfl
          · rw [f2 42 (by decide), p2, xd15 z hz, xb14 42 (by decide), xb13 42 (by decide), xb12 42 (by decide), xb11 42 (by decide), xb10 42 (by decide), xd9 z hz, xb8 42 (by decide), xb7 42 (by decide), xb6 42 (by decide), xb5 42 (by decide), xb4 42 (by decide), xb3 42 (by decide), xb2 42 (by decide), xb1 42 (by decide)]
        · refine ⟨?_, fun z hz => ?_⟩
          · rw [f2 44 (by decide), p2, xb15 44 (by decide), xb14 44 (by decide), xb13 44 (by decide), xb12 44 (by decide), xb11 44 (by decide), xc10]
            all_goals first | rfl | exact rfl
          · rw [f2 44 (by decide), p2, xb15 44 (by decide), xb14 44 (by decide), xb13 44 (by decide), xb12 44 (by decide), xb11 44 (by decide), xd10 z hz, xb9 44 (by decide), xb8 44 (by decide), xb7 44 (by decide), xb6 44 (by decide), xb5 44 (by decide), xb4 44 (by decide), xb3 44 (by decide), xb2 44 (by decide), xb1 44 (by decide)]
      · rw [f2 36 (by decide), p2, xb15 36 (by decide), xb14 36 (by decide), xb13 36 (by decide), xb12 36 (by decide), xb11 36 (by decide), xb10 36 (by decide), xb9 36 (by decide), xb8 36 (by decide), xb7 36 (by decide), xb6 36 (by decide), xb5 36 (by decide), xb4 36 (by decide), xd3 (2 * nr) (by omega), xc2, hS1.2 30 (by decide)]; rfl
      · rw [f2 36 (by decide), p2, xb15 36 (by decide), xb14 36 (by decide), xb13 36 (by decide), xb12 36 (by decide), xb11 36 (by decide), xb10 36 (by decide), xb9 36 (by decide), xb8 36 (by decide), xb7 36 (by decide), xb6 36 (by decide), xb5 36 (by decide), xb4 36 (by decide), xc3, hS2.2 30 (by decide)]; rfl
      · intro z h1z h2z; rw [f2 36 (by decide), p2, xb15 36 (by decide), xb14 36 (by decide), xb13 36 (by decide), xb12 36 (by decide), xb11 36 (by decide), xb10 36 (by decide), xb9 36 (by decide), xb8 36 (by decide), xb7 36 (by decide), xb6 36 (by decide), xb5 36 (by decide), xb4 36 (by decide), xd3 z h2z, xd2 z h1z, xb1 36 (by decide)]
    refine g_if_ne rfl (fun c2 => ?_) (fun c2 => ?_)
    · rw [← nI_0, nI_eq (by omega) (by omega)] at c2
      have hz0 := c2
      refine g_load rfl rfl rfl trivial ?_
      refine g_ineg rfl ?_
      exact K2 _ (by show _ = (if dcN (cf u t) (bd % 4) b % 2 = 0 then _ else _); first | rw [if_pos hz0] | rw [if_neg hz0])
    · rw [← nI_0, nI_eq (by omega) (by omega)] at c2
      have hz0 := c2
      refine g_load rfl rfl rfl trivial ?_
      refine g_goto rfl ?_
      exact K2 _ (by show _ = (if dcN (cf u t) (bd % 4) b % 2 = 0 then _ else _); first | rw [if_pos hz0] | rw [if_neg hz0])
end
section
/-! ===== the reference: call, play ===== -/
theorem upd_of {f g : Nat → Int32} {n : Nat} {v : Int32} (h1 : g n = v) (h2 : ∀ z, z ≠ n → g z = f z) : g = upd f n v := by
  funext z
  unfold upd
  by_cases hz : z = n
  · rw [if_pos hz, hz, h1]
  · rw [if_neg hz, h2 z hz]
theorem last_none {p : Int32 → Bool} {f : Nat → Int32} : ∀ {n : Nat}, (∀ j, j < n → p (f j) = false) → last p f n = none
  | 0, _ => rfl
  | n + 1, h => by
    unfold last
    rw [h n (by omega), if_neg (by decide)]
    exact last_none (fun j hj => h j (by omega))
theorem last_some {p : Int32 → Bool} {f : Nat → Int32} : ∀ {n i : Nat}, i < n → p (f i) = true → (∀ j, i < j → j < n → p (f j) = false) → last p f n = some i
  | 0, i, h, _, _ => by omega
  | n + 1, i, h, hp, hj => by
    unfold last
    by_cases hi : i = n
    · subst hi; rw [if_pos hp]
    · rw [hj n (by omega) (by omega), if_neg (by decide)]
      exact last_some (by omega) hp (fun j h1 h2 => hj j h1 (by omega))
/-- table t has got call c behind its n calls -/
def calledP (u v : rS) (t n : Nat) (c : Int32) : Prop := v.1 = u.1 ∧ (∀ a, a ≠ 33 → a ≠ 31 → v.2 a = u.2 a) ∧ v.2 33 = upd (u.2 33) (340 * t + n) c ∧ v.2 31 = upd (u.2 31) t (nI (n + 1))
set_option maxRecDepth 20000 in
theorem r_call_l {pr : aC} {d : Nat} {v : rS} (t' n : Nat) (c : Int32) (ht : t' < 10) (hn : n < 340) (hc : v.2 31 t' = nI (n + 1)) {Q : Option Value → rS → Prop} (hQ : ∀ p, p ≤ n + 1 → (p = n + 1 → last nz (cf v t') (n + 1) = none) → (p < n + 1 → last nz (cf v t') (n + 1) = some (n - p)) → rB pr (d + 7) cd_185 (some .int) Q 54 [some (.ref 25), some (.int (nI t')), some (.int c), some (.int (nI p))] [] v) : ∀ (zz : Nat) (x : Nat) (hinv : ∀ y, y < x → cf v t' (n - y) = 0) (hm : n + 1 - x < zz) (hle : x ≤ n + 1), rB pr (d + 7) cd_185 (Option.some Jvm.ClassFile.FieldType.int) Q 34 [some (.ref 25), some ((.int (nI t'))), some (.int c), some (.int (nI x))] [] v := by
  intro zz
  induction zz with
  | zero => intro x hinv hm hle; exact absurd hm (by omega)
  | succ zz ih =>
    intro x hinv hm hle
    refine g_load rfl rfl rfl trivial ?_
    refine g_load rfl rfl rfl trivial ?_
    refine r_getf rfl rfl ?_
    refine g_load rfl rfl rfl trivial ?_
    refine r_ia (t') rfl ⟨by decide, by decide, rfl⟩ rfl (by show _ < 10; omega) ?_
    rw [hc]
    refine g_icmp_ge rfl (fun c1 => ?_) (fun c1 => ?_)
    · rw [nI_leI (by omega) (by omega)] at c1
      have hx : x = n + 1 := by omega
      exact hQ x hle (fun _ => last_none (fun j hj => by have := hinv (n - j) (by omega); rw [show n - (n - j) = j by omega] at this; simp [nz, this])) (fun q => by omega)
    · rw [nI_leI (by omega) (by omega)] at c1
      refine g_load rfl rfl rfl trivial ?_
      refine g_load rfl rfl rfl trivial ?_
      refine g_load rfl rfl rfl trivial ?_
      refine r_getf rfl rfl ?_
      refine g_load rfl rfl rfl trivial ?_
      refine r_ia (t') rfl ⟨by decide, by decide, rfl⟩ rfl (by show _ < 10; omega) ?_
      refine g_iconst (nI 1) rfl (by decide) ?_
      rw [hc]
      refine g_isub rfl ?_
      refine g_load rfl rfl rfl trivial ?_
      rw [pk_sub (by omega), show n + 1 - 1 = n by omega]
      refine g_isub rfl ?_
      rw [pk_sub (by omega)]
      refine g_virtI (a := 25) (ci := 8) (n := 2) [(.int (nI t')), (.int (nI (n - x)))] rFr_tr rfl rfl (by decide) rfl r_this rfl (Nat.le_of_ble_eq_true rfl) (Nat.le_refl _) (Nat.le_refl _) (r_callAt t' (n - x) ht (by omega) ⟨_, rfl, ?_⟩)
      refine g_if_ne rfl (fun c2 => ?_) (fun c2 => ?_)
      · exact hQ x hle (fun q => by omega) (fun _ => last_some (by omega) (by simp [nz, c2]) (fun j h1 h2 => by have := hinv (n - j) (by omega); rw [show n - (n - j) = j by omega] at this; simp [nz, this]))
      · have h0 := c2
        refine g_iinc (nI (x + 1)) [some (.ref 25), some ((.int (nI t'))), some (.int c), some (.int (nI (x + 1)))] rfl rfl (nI_1 x) rfl ?_
        refine g_goto rfl ?_
        exact ih (x + 1) (fun y hy => by
          rcases Nat.lt_succ_iff_lt_or_eq.mp hy with h | h
          · exact hinv y h
          · exact h ▸ h0) (by omega) (by omega)
def clOk (u : rS) (t c : Int32) : Prop := phF u t = nI 1 ∧ mcF (cf u t.toNatClampNeg) (nC u t.toNatClampNeg) c = true
set_option maxRecDepth 20000 in
theorem r_call {pr : aC} {d : Nat} {u : rS} (t c : Int32) (nb nr : Nat) (hk : rOkT u nb) (h1 : u.1 1 = nI nr) (hnr : nr < 220) {Q : Option Value → rS → Prop} (hF : ¬ clOk u t c → Q (some (.int (-1))) u) (hT : ∀ t' v, t' < 10 → t = nI t' → clOk u t c → calledP u v t' (nC u t') c → (last nz (cf v t') (nC u t' + 1) = none → nC u t' = 3 → ∀ w, ended v w t' nr (rec0 v t' (-1)) → Q (some (.int 2)) w) ∧ (∀ i, last nz (cf v t') (nC u t' + 1) = some i → nC u t' - i = 3 → ∀ w, w.1 = v.1 → (∀ a, a ≠ 28 → w.2 a = v.2 a) → w.2 28 = upd (v.2 28) t' (nI 2) → Q (some (.int 1)) w) ∧ ((¬ (last nz (cf v t') (nC u t' + 1) = none ∧ nC u t' = 3)) → (∀ i, last nz (cf v t') (nC u t' + 1) = some i → ¬ nC u t' - i = 3) → Q (some (.int 0)) v)) : rR pr (d + 7 + 1) 185 [.ref 25, .int t, .int c] u Q := by
  refine gR_of mi_185 rFr_rf rfl (Nat.le_of_ble_eq_true rfl) ?_
  show rB pr (d + 7) cd_185 (Option.some Jvm.ClassFile.FieldType.int) Q 0 [some (.ref 25), some (.int t), some (.int c), none] [] u
  refine g_load rfl rfl rfl trivial ?_
  refine g_load rfl rfl rfl trivial ?_
  refine g_virtI (a := 25) (ci := 8) (n := 1) [.int t] rFr_tr rfl rfl (by decide) rfl r_this rfl (Nat.le_of_ble_eq_true rfl) (Nat.le_refl _) (Nat.le_refl _) (r_phaseOf t ⟨_, rfl, ?_⟩)
  refine g_iconst (nI 1) rfl (by decide) ?_
  refine g_icmp_ne rfl (fun c1 => ?_) (fun c1 => ?_)
  · have hQ := hF (fun q => c1 q.1)
    refine g_iconst (-1) rfl (by decide) ?_
    refine g_vret rfl trivial ⟨rfl, rfl⟩ (Nat.le_refl _) (Nat.le_refl _) ?_
    exact hQ
  · obtain ⟨t', ht, rfl⟩ := ph_of (by rw [c1]; decide)
    obtain ⟨a1, a2, a3, a4, a5, a6, a7, a8⟩ := (hk.2.2 t' ht).resolve_left (fun q => absurd (c1.symm.trans ((phF_t ht).trans q)) (by decide))
    have e0 : (nI t').toNatClampNeg = t' := nI_clamp (by omega)
    have hnb := hk.2.1
    refine g_load rfl rfl rfl trivial ?_
    refine g_load rfl rfl rfl trivial ?_
    refine g_load rfl rfl rfl trivial ?_
    refine g_virtI (a := 25) (ci := 8) (n := 2) [(.int (nI t')), (.int c)] rFr_tr rfl rfl (by decide) rfl r_this rfl (Nat.le_of_ble_eq_true rfl) (Nat.le_refl _) (Nat.le_refl _) (r_mayCall t' (nC u t') (bD u t') c ht a3 a4 a1 (by omega) ⟨_, rfl, ?_⟩)
    refine g_if_ne rfl (fun c2 => ?_) (fun c2 => ?_)
    · rw [bI_ne] at c2
      have hok : clOk u (nI t') c := ⟨c1, by rw [e0]; exact c2⟩
      refine g_load rfl rfl rfl trivial ?_
      refine r_getf rfl rfl ?_
      refine g_sipush (nI 340) rfl (by decide) ?_
      refine g_load rfl rfl rfl trivial ?_
      refine g_imul rfl ?_
      refine g_load rfl rfl rfl trivial ?_
      refine r_getf rfl rfl ?_
      refine g_load rfl rfl rfl trivial ?_
      refine r_ia (t') rfl ⟨by decide, by decide, rfl⟩ rfl (by show _ < 10; omega) ?_
      rw [a3]
      refine g_iadd rfl ?_
      refine g_load rfl rfl rfl trivial ?_
      refine r_iasv (340 * t' + nC u t') rfl ⟨by decide, by decide, rfl⟩ (by rw [pk_mul, nI_add]) (by show _ < 3400; omega) (fun v1 xa1 xb1 xc1 xd1 => ?_)
      refine g_load rfl rfl rfl trivial ?_
      refine r_getf rfl rfl ?_
      refine g_load rfl rfl rfl trivial ?_
      refine g_dup2 rfl rfl rfl ?_
      refine r_ia (t') rfl ⟨by decide, by decide, rfl⟩ rfl (by show _ < 10; omega) ?_
      rw [xb1 31 (by decide), a3]
      refine g_iconst (nI 1) rfl (by decide) ?_
      refine g_iadd rfl ?_
      rw [nI_add]
      refine r_iasv (t') rfl ⟨by decide, by decide, rfl⟩ rfl (by show _ < 10; omega) (fun v2 xa2 xb2 xc2 xd2 => ?_)
      refine g_iconst (nI 0) rfl (by decide) ?_
      refine g_store [some (.ref 25), some ((.int (nI t'))), some (.int c), some (.int (nI 0))] rfl rfl trivial (Nat.le_of_ble_eq_true rfl) rfl ?_
      have hP : calledP u v2 t' (nC u t') c := ⟨xa2.trans xa1, fun a h33 h31 => (xb2 a h31).trans (xb1 a h33), by rw [xb2 33 (by decide)]; exact upd_of xc1 xd1, by rw [upd_of xc2 xd2, xb1 31 (by decide)]⟩
      obtain ⟨hT2, hT1, hT0⟩ := hT t' v2 ht rfl hok hP
      have hv31 : v2.2 31 t' = nI (nC u t' + 1) := xc2
      have hv1 : v2.1 1 = nI nr := by rw [hP.1]; exact h1
      refine r_call_l t' (nC u t') c ht a4 hv31 (fun p hp hpn hps => ?_) (nC u t' + 2) 0 (fun y hy => absurd hy (by omega)) (by omega) (by omega)
      refine g_load rfl rfl rfl trivial ?_
      refine g_load rfl rfl rfl trivial ?_
      refine r_getf rfl rfl ?_
      refine g_load rfl rfl rfl trivial ?_
      refine r_ia (t') rfl ⟨by decide, by decide, rfl⟩ rfl (by show _ < 10; omega) ?_
      rw [hv31]
      have K : (p < nC u t' + 1 ∨ ¬ p = 4) → rB pr (d + 7) cd_185 (some .int) Q 69 [some (.ref 25), some (.int (nI t')), some (.int c), some (.int (nI p))] [] v2 := by
        intro hor
        refine g_load rfl rfl rfl trivial ?_
        refine g_load rfl rfl rfl trivial ?_
        refine r_getf rfl rfl ?_
        refine g_load rfl rfl rfl trivial ?_
        refine r_ia (t') rfl ⟨by decide, by decide, rfl⟩ rfl (by show _ < 10; omega) ?_
        rw [hv31]
        refine g_icmp_ge rfl (fun k1 => ?_) (fun k1 => ?_)
        · rw [nI_leI (by omega) (by omega)] at k1
          refine g_iconst (nI 0) rfl (by decide) ?_
          refine g_vret rfl trivial ⟨rfl, rfl⟩ (Nat.le_refl _) (Nat.le_refl _) ?_
          have hpe : p = nC u t' + 1 := by omega
          exact hT0 (fun q => by omega) (fun i hi => by rw [hpn hpe] at hi; cases hi)
        · rw [nI_leI (by omega) (by omega)] at k1
          have hs := hps (by omega)
          refine g_load rfl rfl rfl trivial ?_
          refine g_iconst (nI 3) rfl (by decide) ?_
          refine g_icmp_ne rfl (fun k2 => ?_) (fun k2 => ?_)
          · rw [nI_eq (by omega) (by omega)] at k2
            refine g_iconst (nI 0) rfl (by decide) ?_
            refine g_vret rfl trivial ⟨rfl, rfl⟩ (Nat.le_refl _) (Nat.le_refl _) ?_
            exact hT0 (fun q => by rw [hs] at q; cases q.1) (fun i hi => by rw [hs] at hi; cases hi; omega)
          · rw [nI_eq (by omega) (by omega)] at k2
            refine g_load rfl rfl rfl trivial ?_
            refine r_getf rfl rfl ?_
            refine g_load rfl rfl rfl trivial ?_
            refine g_iconst (nI 2) rfl (by decide) ?_
            refine r_iasv (t') rfl ⟨by decide, by decide, rfl⟩ rfl (by show _ < 10; omega) (fun w g1 g2 g3 g4 => ?_)
            refine g_iconst (nI 1) rfl (by decide) ?_
            refine g_vret rfl trivial ⟨rfl, rfl⟩ (Nat.le_refl _) (Nat.le_refl _) ?_
            exact hT1 (nC u t' - p) hs (by omega) w g1 g2 (upd_of g3 g4)
      refine g_icmp_ne rfl (fun k1 => ?_) (fun k1 => ?_)
      · rw [nI_eq (by omega) (by omega)] at k1
        exact K (Or.inl (by omega))
      · rw [nI_eq (by omega) (by omega)] at k1
        refine g_load rfl rfl rfl trivial ?_
        refine g_iconst (nI 4) rfl (by decide) ?_
        refine g_icmp_ne rfl (fun k2 => ?_) (fun k2 => ?_)
        · rw [nI_eq (by omega) (by omega)] at k2
          exact K (Or.inr k2)
        · rw [nI_eq (by omega) (by omega)] at k2
          refine g_load rfl rfl rfl trivial ?_
          refine g_load rfl rfl rfl trivial ?_
          refine g_iconst (-1) rfl (by decide) ?_
          refine g_virtV (a := 25) (ci := 8) (n := 2) [.int (nI t'), .int (-1)] rFr_tr rfl rfl (by decide) rfl r_this rfl (Nat.le_of_ble_eq_true rfl) (Nat.le_refl _) (Nat.le_refl _) (r_ends_p t' ht nr hv1 hnr (fun w hw => ⟨rfl, ?_⟩))
          refine g_iconst (nI 2) rfl (by decide) ?_
          refine g_vret rfl trivial ⟨rfl, rfl⟩ (Nat.le_refl _) (Nat.le_refl _) ?_
          exact hT2 (hpn k1) (by omega) w hw
    · rw [bI_eq] at c2
      have hQ := hF (fun q => absurd q.2 (by rw [e0, c2]; decide))
      refine g_iconst (-1) rfl (by decide) ?_
      refine g_vret rfl trivial ⟨rfl, rfl⟩ (Nat.le_refl _) (Nat.le_refl _) ?_
      exact hQ
end
section
/-! ===== the reference: play, lacks, table ===== -/
def playedP (u v : rS) (t m : Nat) (c : Int32) : Prop := v.1 0 = u.1 0 ∧ v.1 1 = u.1 1 ∧ v.1 22 = u.1 22 ∧ (∀ a, a < 46 → a ≠ 34 → a ≠ 32 → v.2 a = u.2 a) ∧ v.2 34 = upd (u.2 34) (52 * t + m) c ∧ v.2 32 = upd (u.2 32) t (nI (m + 1))
def plOk (u : rS) (t c : Int32) : Prop := phF u t = nI 2 ∧ mpF u t.toNatClampNeg (mC u t.toNatClampNeg) (seatF u t.toNatClampNeg (bB u t.toNatClampNeg) (bD u t.toNatClampNeg) (mC u t.toNatClampNeg)) c = true
def wonF (u : rS) (t b bd j : Nat) : Nat := wnF (gf u t) (stF (cf u t) b) ((dcN (cf u t) (bd % 4) b + 1) % 4) (dcN (cf u t) (bd % 4) b % 2) j
theorem won_at {u1 : rS} {g : Nat → Int32} {tr : Int32} {l0 j D : Nat} (h : gtAt u1 g tr l0 j) : u1.2 47 (D % 2) = nI (wnF g tr l0 (D % 2) j) := by
  rcases (show D % 2 = 0 ∨ D % 2 = 1 by omega) with e | e <;> rw [e]
  · exact h.2.2.1
  · exact h.2.2.2
set_option maxRecDepth 20000 in
theorem r_play {pr : aC} {d : Nat} {u : rS} (t c : Int32) (nb nr : Nat) (hk : rOkT u nb) (h1 : u.1 1 = nI nr) (hnr : nr < 220) {Q : Option Value → rS → Prop} (hF : ¬ plOk u t c → ∀ u1, rSame u u1 → Q (some (.int (-1))) u1) (hT : ∀ t' v, t' < 10 → t = nI t' → plOk u t c → playedP u v t' (mC u t') c → (¬ (mC u t' + 1) % 4 = 0 → Q (some (.int 0)) v) ∧ ((mC u t' + 1) % 4 = 0 → mC u t' + 1 < 52 → Q (some (.int 1)) v) ∧ (mC u t' + 1 = 52 → ∀ v1 w, rSame v v1 → ended v1 w t' nr (recC v1 t' (nC u t') (bB u t') (bD u t') (wonF v t' (bB u t') (bD u t') 13)) → Q (some (.int 2)) w)) : rR pr (d + 7 + 1) 193 [.ref 25, .int t, .int c] u Q := by
  refine gR_of mi_193 rFr_rf rfl (Nat.le_of_ble_eq_true rfl) ?_
  show rB pr (d + 7) cd_193 (Option.some Jvm.ClassFile.FieldType.int) Q 0 [some (.ref 25), some (.int t), some (.int c)] [] u
  refine g_load rfl rfl rfl trivial ?_
  refine g_load rfl rfl rfl trivial ?_
  refine g_virtI (a := 25) (ci := 8) (n := 1) [.int t] rFr_tr rfl rfl (by decide) rfl r_this rfl (Nat.le_of_ble_eq_true rfl) (Nat.le_refl _) (Nat.le_refl _) (r_phaseOf t ⟨_, rfl, ?_⟩)
  refine g_iconst (nI 2) rfl (by decide) ?_
  refine g_icmp_ne rfl (fun c1 => ?_) (fun c1 => ?_)
  · have hQ := hF (fun q => c1 q.1) u (rSame.rf u)
    refine g_iconst (-1) rfl (by decide) ?_
    refine g_vret rfl trivial ⟨rfl, rfl⟩ (Nat.le_refl _) (Nat.le_refl _) ?_
    exact hQ
  · obtain ⟨t', ht, rfl⟩ := ph_of (by rw [c1]; decide)
    obtain ⟨a1, a2, a3, a4, a5, a6, a7, a8⟩ := (hk.2.2 t' ht).resolve_left (fun q => absurd (c1.symm.trans ((phF_t ht).trans q)) (by decide))
    have e0 : (nI t').toNatClampNeg = t' := nI_clamp (by omega)
    have hnb := hk.2.1
    have a9 := a8.resolve_left (fun q => absurd (((phF_t ht).symm.trans c1).symm.trans q.1) (by decide))
    have hp1 : ¬ u.2 28 t' = nI 1 := by rw [a9.1]; decide
    refine g_load rfl rfl rfl trivial ?_
    refine g_load rfl rfl rfl trivial ?_
    refine g_load rfl rfl rfl trivial ?_
    refine g_virtI (a := 25) (ci := 8) (n := 2) [.int (nI t'), .int c] rFr_tr rfl rfl (by decide) rfl r_this rfl (Nat.le_of_ble_eq_true rfl) (Nat.le_refl _) (Nat.le_refl _) (r_mayPlay t' (nC u t') (bB u t') (bD u t') (mC u t') ht a3 (by omega) a9.2 a1 (by omega) a5 (by omega) nb c hk.1 hk.2.1 hp1 a7 (fun u1 hS => ⟨_, rfl, ?_⟩))
    refine g_if_ne rfl (fun c2 => ?_) (fun c2 => ?_)
    · rw [bI_ne] at c2
      have hok : plOk u (nI t') c := ⟨c1, by rw [e0]; exact c2⟩
      have h32 : u1.2 32 t' = nI (mC u t') := by rw [hS.2.2.2 32 (by decide)]; exact a5
      refine g_load rfl rfl rfl trivial ?_
      refine r_getf rfl rfl ?_
      refine g_bipush (nI 52) rfl (by decide) ?_
      refine g_load rfl rfl rfl trivial ?_
      refine g_imul rfl ?_
      refine g_load rfl rfl rfl trivial ?_
      refine r_getf rfl rfl ?_
      refine g_load rfl rfl rfl trivial ?_
      refine r_ia (t') rfl ⟨by decide, by decide, rfl⟩ rfl (by show _ < 10; omega) ?_
      rw [h32]
      refine g_iadd rfl ?_
      refine g_load rfl rfl rfl trivial ?_
      refine r_iasv (52 * t' + mC u t') rfl ⟨by decide, by decide, rfl⟩ (by rw [pk_mul, nI_add]) (by show _ < 520; omega) (fun v1 xa1 xb1 xc1 xd1 => ?_)
      refine g_load rfl rfl rfl trivial ?_
      refine r_getf rfl rfl ?_
      refine g_load rfl rfl rfl trivial ?_
      refine g_dup2 rfl rfl rfl ?_
      refine r_ia (t') rfl ⟨by decide, by decide, rfl⟩ rfl (by show _ < 10; omega) ?_
      rw [xb1 32 (by decide), h32]
      refine g_iconst (nI 1) rfl (by decide) ?_
      refine g_iadd rfl ?_
      rw [nI_add]
      refine r_iasv (t') rfl ⟨by decide, by decide, rfl⟩ rfl (by show _ < 10; omega) (fun v2 xa2 xb2 xc2 xd2 => ?_)
      have hP : playedP u v2 t' (mC u t') c := ⟨by rw [xa2, xa1]; exact hS.1, by rw [xa2, xa1]; exact hS.2.1, by rw [xa2, xa1]; exact hS.2.2.1, fun a ha h34 h32 => by rw [xb2 a h32, xb1 a h34]; exact hS.2.2.2 a ha, by rw [xb2 34 (by decide), upd_of xc1 xd1, hS.2.2.2 34 (by decide)], by rw [upd_of xc2 xd2, xb1 32 (by decide), hS.2.2.2 32 (by decide)]⟩
      obtain ⟨hT0, hT1, hT2⟩ := hT t' v2 ht rfl hok hP
      refine g_load rfl rfl rfl trivial ?_
      refine r_getf rfl rfl ?_
      refine g_load rfl rfl rfl trivial ?_
      refine r_ia (t') rfl ⟨by decide, by decide, rfl⟩ rfl (by show _ < 10; omega) ?_
      rw [xc2]
      refine g_iconst (nI 4) rfl (by decide) ?_
      refine g_irem rfl (by decide) ?_
      rw [pk_rem (by omega) (by omega) (by omega)]
      refine g_if_eq rfl (fun c3 => ?_) (fun c3 => ?_)
      · rw [← nI_0, nI_eq (by omega) (by omega)] at c3
        refine g_load rfl rfl rfl trivial ?_
        refine r_getf rfl rfl ?_
        refine g_load rfl rfl rfl trivial ?_
        refine r_ia (t') rfl ⟨by decide, by decide, rfl⟩ rfl (by show _ < 10; omega) ?_
        rw [xc2]
        refine g_bipush (nI 52) rfl (by decide) ?_
        refine g_icmp_ge rfl (fun c4 => ?_) (fun c4 => ?_)
        · rw [nI_leI (by omega) (by omega)] at c4
          have hQ := hT2 (by omega)
          have k31 : v2.2 31 t' = nI (nC u t') := by rw [hP.2.2.2.1 31 (by decide) (by decide) (by decide)]; exact a3
          have k29 : v2.2 29 t' = nI (bD u t' + 1) := by rw [hP.2.2.2.1 29 (by decide) (by decide) (by decide)]; exact a1
          have kcf : cf v2 t' = cf u t' := by unfold cf; rw [hP.2.2.2.1 33 (by decide) (by decide) (by decide)]
          have kl : last ge3 (cf v2 t') (nC u t') = some (bB u t') := by rw [kcf]; exact a9.2
          refine g_load rfl rfl rfl trivial ?_
          refine g_load rfl rfl rfl trivial ?_
          refine g_virtV (a := 25) (ci := 8) (n := 1) [.int (nI t')] rFr_tr rfl rfl (by decide) rfl r_this rfl (Nat.le_of_ble_eq_true rfl) (Nat.le_refl _) (Nat.le_refl _) (r_goThrough t' (nC u t') (bB u t') (bD u t') (mC u t' + 1) ht k31 (by omega) kl k29 (by omega) xc2 (by omega) (fun w1 hW hG => ⟨rfl, ?_⟩))
          have w31 : w1.2 31 t' = nI (nC u t') := by rw [hW.2.2.2 31 (by decide)]; exact k31
          have w29 : w1.2 29 t' = nI (bD u t' + 1) := by rw [hW.2.2.2 29 (by decide)]; exact k29
          have wl : last ge3 (cf w1 t') (nC u t') = some (bB u t') := by rw [rSame_cf hW]; exact kl
          obtain ⟨hd1, hd4⟩ := dcF_N (dl := bD u t' % 4) (last_lt wl).2
          refine g_load rfl rfl rfl trivial ?_
          refine g_load rfl rfl rfl trivial ?_
          refine g_load rfl rfl rfl trivial ?_
          refine r_getf rfl rfl ?_
          refine g_load rfl rfl rfl trivial ?_
          refine g_load rfl rfl rfl trivial ?_
          refine g_virtI (a := 25) (ci := 8) (n := 1) [(.int (nI t'))] rFr_tr rfl rfl (by decide) rfl r_this rfl (Nat.le_of_ble_eq_true rfl) (Nat.le_refl _) (Nat.le_refl _) (r_declarer t' (nC u t') (bB u t') (bD u t') ht w31 (by omega) wl w29 (by omega) ⟨_, rfl, ?_⟩)
          rw [hd1]
          refine g_iconst (nI 2) rfl (by decide) ?_
          refine g_irem rfl (by decide) ?_
          rw [pk_rem (by omega) (by omega) (by omega)]
          refine r_ia (dcN (cf w1 t') (bD u t' % 4) (bB u t') % 2) rfl ⟨by decide, by decide, rfl⟩ rfl (by show _ < 2; omega) ?_
          rw [won_at hG, rSame_cf hW, show (mC u t' + 1) / 4 = 13 by omega]
          have hwl := wnF_le (gf v2 t') (stF (cf v2 t') (bB u t')) ((dcN (cf v2 t') (bD u t' % 4) (bB u t') + 1) % 4) (dcN (cf v2 t') (bD u t' % 4) (bB u t') % 2) 13
          refine g_virtV (a := 25) (ci := 8) (n := 2) [.int (nI t'), .int (nI (wonF v2 t' (bB u t') (bD u t') 13))] rFr_tr rfl rfl (by decide) rfl r_this rfl (Nat.le_of_ble_eq_true rfl) (Nat.le_refl _) (Nat.le_refl _) (r_ends_c t' ht nr (by rw [hW.2.1, hP.2.1]; exact h1) hnr (nC u t') (bB u t') (bD u t') (wonF v2 t' (bB u t') (bD u t') 13) w31 (by omega) wl w29 (by omega) (by unfold wonF; omega) (fun w hw => ⟨rfl, ?_⟩))
          have hQ := hQ w1 w hW hw
          refine g_iconst (nI 2) rfl (by decide) ?_
          refine g_vret rfl trivial ⟨rfl, rfl⟩ (Nat.le_refl _) (Nat.le_refl _) ?_
          exact hQ
        · rw [nI_leI (by omega) (by omega)] at c4
          have hQ := hT1 (by omega) (by omega)
          refine g_iconst (nI 1) rfl (by decide) ?_
          refine g_vret rfl trivial ⟨rfl, rfl⟩ (Nat.le_refl _) (Nat.le_refl _) ?_
          exact hQ
      · rw [← nI_0, nI_eq (by omega) (by omega)] at c3
        have hQ := hT0 c3
        refine g_iconst (nI 0) rfl (by decide) ?_
        refine g_vret rfl trivial ⟨rfl, rfl⟩ (Nat.le_refl _) (Nat.le_refl _) ?_
        exact hQ
    · rw [bI_eq] at c2
      have hQ := hF (fun q => absurd q.2 (by rw [e0, c2]; decide)) u1 hS
      refine g_iconst (-1) rfl (by decide) ?_
      refine g_vret rfl trivial ⟨rfl, rfl⟩ (Nat.le_refl _) (Nat.le_refl _) ?_
      exact hQ
def laQ (u : rS) (t : Nat) (s q : Int32) (k : Nat) : Bool := decide (handF u (u.2 29 t) (gf u t k) = s ∧ gf u t (k - k % 4) / nI 13 = q ∧ ¬ gf u t k / nI 13 = q)
def laF (u : rS) (t s q : Int32) : Bool := decide (phF u t = nI 2) && (inF s 0 3 && (inF q 0 3 && anyN (laQ u t.toNatClampNeg s q) (mC u t.toNatClampNeg)))
set_option maxRecDepth 20000 in
theorem r_lacks_l {pr : aC} {d : Nat} {u : rS} (t' m nb : Nat) (s q : Int32) (ht : t' < 10) (h0 : u.1 0 = nI nb) (hnb : nb ≤ 36) (hm0 : u.2 32 t' = nI m) (hm52 : m < 52) {Q : Option Value → rS → Prop} (hQ : Q (some (.int (bI (anyN (laQ u t' s q) m)))) u) : ∀ (zz : Nat) (x : Nat) (l5 : Option Value) (hinv : ∀ y, y < x → laQ u t' s q y = false) (hm : m - x < zz) (hle : x ≤ m), rB pr (d + 3) cd_203 (Option.some Jvm.ClassFile.FieldType.boolean) Q 19 [some (.ref 25), some ((.int (nI t'))), some (.int s), some (.int q), some (.int (nI x)), l5] [] u := by
  intro zz
  induction zz with
  | zero => intro x l5 hinv hm hle; exact absurd hm (by omega)
  | succ zz ih =>
    intro x l5 hinv hm hle
    refine g_load rfl rfl rfl trivial ?_
    refine g_load rfl rfl rfl trivial ?_
    refine r_getf rfl rfl ?_
    refine g_load rfl rfl rfl trivial ?_
    refine r_ia (t') rfl ⟨by decide, by decide, rfl⟩ rfl (by show _ < 10; omega) ?_
    rw [hm0]
    refine g_icmp_ge rfl (fun c1 => ?_) (fun c1 => ?_)
    · rw [nI_leI (by omega) (by omega)] at c1
      rw [anyN_f (fun y h => hinv y (by omega))] at hQ
      refine g_iconst (nI 0) rfl (by decide) ?_
      refine g_vret rfl trivial (by first | exact ⟨by decide, by decide⟩ | trivial) (Nat.le_refl _) (Nat.le_refl _) ?_
      exact hQ
    · rw [nI_leI (by omega) (by omega)] at c1
      refine g_load rfl rfl rfl trivial ?_
      refine r_getf rfl rfl ?_
      refine g_bipush (nI 52) rfl (by decide) ?_
      refine g_load rfl rfl rfl trivial ?_
      refine g_imul rfl ?_
      refine g_load rfl rfl rfl trivial ?_
      refine g_iadd rfl ?_
      refine r_ia (52 * t' + x) rfl ⟨by decide, by decide, rfl⟩ (by rw [pk_mul, nI_add]) (by show _ < 520; omega) ?_
      refine g_store [some (.ref 25), some ((.int (nI t'))), some (.int s), some (.int q), some (.int (nI x)), some ((.int (gf u t' x)))] rfl rfl trivial (Nat.le_of_ble_eq_true rfl) rfl ?_
      refine g_load rfl rfl rfl trivial ?_
      refine g_load rfl rfl rfl trivial ?_
      refine r_getf rfl rfl ?_
      refine g_load rfl rfl rfl trivial ?_
      refine r_ia (t') rfl ⟨by decide, by decide, rfl⟩ rfl (by show _ < 10; omega) ?_
      refine g_load rfl rfl rfl trivial ?_
      refine g_virtI (a := 25) (ci := 8) (n := 2) [(.int (u.2 29 t')), (.int (gf u t' x))] rFr_tr rfl rfl (by decide) rfl r_this rfl (Nat.le_of_ble_eq_true rfl) (Nat.le_refl _) (Nat.le_refl _) (r_hand (u.2 29 t') (gf u t' x) nb h0 hnb ⟨_, rfl, ?_⟩)
      refine g_load rfl rfl rfl trivial ?_
      refine g_icmp_ne rfl (fun c2 => ?_) (fun c2 => ?_)
      · have hf : laQ u t' s q x = false := decide_eq_false (fun z => c2 z.1)
        refine g_iinc (nI (x + 1)) [some (.ref 25), some ((.int (nI t'))), some (.int s), some (.int q), some (.int (nI (x + 1))), some ((.int (gf u t' x)))] rfl rfl (nI_1 x) rfl ?_
        refine g_goto rfl ?_
        exact ih (x + 1) _ (fun y hy => by
          rcases Nat.lt_succ_iff_lt_or_eq.mp hy with h | h
          · exact hinv y h
          · exact h ▸ hf) (by omega) (by omega)
      · have g1 := c2
        refine g_load rfl rfl rfl trivial ?_
        refine r_getf rfl rfl ?_
        refine g_bipush (nI 52) rfl (by decide) ?_
        refine g_load rfl rfl rfl trivial ?_
        refine g_imul rfl ?_
        refine g_load rfl rfl rfl trivial ?_
        refine g_iadd rfl ?_
        refine g_load rfl rfl rfl trivial ?_
        refine g_iconst (nI 4) rfl (by decide) ?_
        refine g_irem rfl (by decide) ?_
        rw [pk_mul, nI_add, pk_rem (by omega) (by omega) (by omega)]
        refine g_isub rfl ?_
        rw [pk_sub (by omega)]
        refine r_ia (52 * t' + (x - x % 4)) rfl ⟨by decide, by decide, rfl⟩ (by congr 1; omega) (by show _ < 520; omega) ?_
        change gB RF rFr _ _ _ _ _ _ _ _ [.int (gf u t' (x - x % 4))] _ _ _
        refine g_statI [(.int (gf u t' (x - x % 4)))] rFr_tr rfl rfl rfl (Nat.le_of_ble_eq_true rfl) (Nat.le_refl _) (Nat.le_refl _) (r_suit (gf u t' (x - x % 4)) ⟨_, rfl, ?_⟩)
        refine g_load rfl rfl rfl trivial ?_
        refine g_icmp_ne rfl (fun c3 => ?_) (fun c3 => ?_)
        · have hf : laQ u t' s q x = false := decide_eq_false (fun z => c3 z.2.1)
          refine g_iinc (nI (x + 1)) [some (.ref 25), some ((.int (nI t'))), some (.int s), some (.int q), some (.int (nI (x + 1))), some ((.int (gf u t' x)))] rfl rfl (nI_1 x) rfl ?_
          refine g_goto rfl ?_
          exact ih (x + 1) _ (fun y hy => by
            rcases Nat.lt_succ_iff_lt_or_eq.mp hy with h | h
            · exact hinv y h
            · exact h ▸ hf) (by omega) (by omega)
        · have g2 := c3
          refine g_load rfl rfl rfl trivial ?_
          refine g_statI [(.int (gf u t' x))] rFr_tr rfl rfl rfl (Nat.le_of_ble_eq_true rfl) (Nat.le_refl _) (Nat.le_refl _) (r_suit (gf u t' x) ⟨_, rfl, ?_⟩)
          refine g_load rfl rfl rfl trivial ?_
          refine g_icmp_eq rfl (fun c4 => ?_) (fun c4 => ?_)
          · have hf : laQ u t' s q x = false := decide_eq_false (fun z => z.2.2 c4)
            refine g_iinc (nI (x + 1)) [some (.ref 25), some ((.int (nI t'))), some (.int s), some (.int q), some (.int (nI (x + 1))), some ((.int (gf u t' x)))] rfl rfl (nI_1 x) rfl ?_
            refine g_goto rfl ?_
            exact ih (x + 1) _ (fun y hy => by
              rcases Nat.lt_succ_iff_lt_or_eq.mp hy with h | h
              · exact hinv y h
              · exact h ▸ hf) (by omega) (by omega)
          · rw [anyN_t (i := x) (by omega) (show laQ u t' s q x = true from decide_eq_true ⟨g1, g2, c4⟩)] at hQ
            refine g_iconst (nI 1) rfl (by decide) ?_
            refine g_vret rfl trivial (by first | exact ⟨by decide, by decide⟩ | trivial) (Nat.le_refl _) (Nat.le_refl _) ?_
            exact hQ
set_option maxRecDepth 20000 in
theorem r_lacks {pr : aC} {d : Nat} {u : rS} (t s q : Int32) (nb : Nat) (hk : rOkT u nb) {Q : Option Value → rS → Prop} (hQ : Q (some (.int (bI (laF u t s q)))) u) : rR pr (d + 3 + 1) 203 [.ref 25, .int t, .int s, .int q] u Q := by
  refine gR_of mi_203 rFr_rf rfl (Nat.le_of_ble_eq_true rfl) ?_
  show rB pr (d + 3) cd_203 (Option.some Jvm.ClassFile.FieldType.boolean) Q 0 [some (.ref 25), some (.int t), some (.int s), some (.int q), none, none] [] u
  refine g_load rfl rfl rfl trivial ?_
  refine g_load rfl rfl rfl trivial ?_
  refine g_virtI (a := 25) (ci := 8) (n := 1) [.int t] rFr_tr rfl rfl (by decide) rfl r_this rfl (Nat.le_of_ble_eq_true rfl) (Nat.le_refl _) (Nat.le_refl _) (r_phaseOf t ⟨_, rfl, ?_⟩)
  refine g_iconst (nI 2) rfl (by decide) ?_
  refine g_icmp_ne rfl (fun c1 => ?_) (fun c1 => ?_)
  · rw [show laF u t s q = false by simp [laF, c1]] at hQ
    refine g_iconst (nI 0) rfl (by decide) ?_
    refine g_vret rfl trivial (by first | exact ⟨by decide, by decide⟩ | trivial) (Nat.le_refl _) (Nat.le_refl _) ?_
    exact hQ
  · obtain ⟨t', ht, rfl⟩ := ph_of (by rw [c1]; decide)
    obtain ⟨a1, a2, a3, a4, a5, a6, a7, a8⟩ := (hk.2.2 t' ht).resolve_left (fun q => absurd (c1.symm.trans ((phF_t ht).trans q)) (by decide))
    have e0 : (nI t').toNatClampNeg = t' := nI_clamp (by omega)
    have hnb := hk.2.1
    have a9 := a8.resolve_left (fun q => absurd (((phF_t ht).symm.trans c1).symm.trans q.1) (by decide))
    rw [show laF u (nI t') s q = (inF s 0 3 && (inF q 0 3 && anyN (laQ u t' s q) (mC u t'))) by unfold laF; rw [decide_eq_true c1, e0]; rfl] at hQ
    refine g_load rfl rfl rfl trivial ?_
    refine g_iconst (nI 0) rfl (by decide) ?_
    refine g_iconst (nI 3) rfl (by decide) ?_
    refine g_statI [.int s, .int (nI 0), .int (nI 3)] rFr_tr rfl rfl rfl (Nat.le_of_ble_eq_true rfl) (Nat.le_refl _) (Nat.le_refl _) (r_in s 0 3 ⟨_, rfl, ?_⟩)
    refine g_if_eq rfl (fun c2 => ?_) (fun c2 => ?_)
    · rw [bI_eq] at c2
      rw [c2] at hQ
      refine g_iconst (nI 0) rfl (by decide) ?_
      refine g_vret rfl trivial (by first | exact ⟨by decide, by decide⟩ | trivial) (Nat.le_refl _) (Nat.le_refl _) ?_
      exact hQ
    · rw [bI_ne] at c2
      rw [c2, Bool.true_and] at hQ
      refine g_load rfl rfl rfl trivial ?_
      refine g_iconst (nI 0) rfl (by decide) ?_
      refine g_iconst (nI 3) rfl (by decide) ?_
      refine g_statI [.int q, .int (nI 0), .int (nI 3)] rFr_tr rfl rfl rfl (Nat.le_of_ble_eq_true rfl) (Nat.le_refl _) (Nat.le_refl _) (r_in q 0 3 ⟨_, rfl, ?_⟩)
      refine g_if_ne rfl (fun c3 => ?_) (fun c3 => ?_)
      · rw [bI_ne] at c3
        rw [c3, Bool.true_and] at hQ
        refine g_iconst (nI 0) rfl (by decide) ?_
        refine g_store [some (.ref 25), some ((.int (nI t'))), some (.int s), some (.int q), some (.int (nI 0)), none] rfl rfl trivial (Nat.le_of_ble_eq_true rfl) rfl ?_
        exact r_lacks_l t' (mC u t') nb s q ht hk.1 hk.2.1 a5 a6 hQ (mC u t' + 1) 0 _ (fun y hy => absurd hy (by omega)) (by omega) (by omega)
      · rw [bI_eq] at c3
        rw [c3] at hQ
        refine g_iconst (nI 0) rfl (by decide) ?_
        refine g_vret rfl trivial (by first | exact ⟨by decide, by decide⟩ | trivial) (Nat.le_refl _) (Nat.le_refl _) ?_
        exact hQ
def hbF (u : rS) (t n : Nat) : Bool := (last ge3 (cf u t) n).isSome
def tbA (u : rS) (t n bd : Nat) (w : Nat) : Int32 := match w with
  | 0 => u.2 29 t
  | 1 => u.2 30 (2 * t)
  | 2 => u.2 30 (2 * t + 1)
  | 4 => nI ((bd % 4 + n) % 4)
  | 5 => if hbF u t n then lvF (cf u t) (bB u t) else -1
  | 6 => if hbF u t n then stF (cf u t) (bB u t) else -1
  | 8 => if hbF u t n then dblF (cf u t) n else -1
  | 9 => 0
  | 10 => 0
  | 11 => 0
  | 12 => nI n
  | _ => -1
def tbP (u : rS) (t n b bd m : Nat) (w : Nat) : Int32 := match w with
  | 0 => u.2 29 t
  | 1 => u.2 30 (2 * t)
  | 2 => u.2 30 (2 * t + 1)
  | 4 => nI (seatF u t b bd m)
  | 5 => lvF (cf u t) b
  | 6 => stF (cf u t) b
  | 7 => nI (dcN (cf u t) (bd % 4) b)
  | 8 => dblF (cf u t) n
  | 9 => nI (wnF (gf u t) (stF (cf u t) b) ((dcN (cf u t) (bd % 4) b + 1) % 4) 0 (m / 4))
  | 10 => nI (wnF (gf u t) (stF (cf u t) b) ((dcN (cf u t) (bd % 4) b + 1) % 4) 1 (m / 4))
  | 11 => nI (m % 4)
  | 12 => nI n
  | 13 => nI (ldF (gf u t) (stF (cf u t) b) ((dcN (cf u t) (bd % 4) b + 1) % 4) (m / 4))
  | _ => -1
def swN (w : Int32) : Nat := if w.toInt < 0 ∨ 13 < w.toInt then 99 else w.toNatClampNeg
theorem swN_out {w : Int32} (h : w.toInt < 0 ∨ ((13 : Nat) : Int) < w.toInt) : swN w = 99 := if_pos h
theorem swN_in : ∀ k, k ≤ 13 → swN (nI k) = k := by decide

set_option maxRecDepth 40000 in
set_option maxRecDepth 20000 in
theorem r_table_a {pr : aC} {d : Nat} {u : rS} (t n bd : Nat) (w : Int32) (ht : t < 10) (hc : u.2 31 t = nI n) (hn : n < 340) (hbd : u.2 29 t = nI (bd + 1)) (hbl : hbF u t n = true → last ge3 (cf u t) n = some (bB u t)) {Q : Option Value → rS → Prop} (hQ : Q (some (.int (tbA u t n bd (swN w)))) u) : rB pr (d + 5) cd_198 (Option.some Jvm.ClassFile.FieldType.int) Q 45 [some (.ref 25), some (.int (nI t)), some (.int w), some (.int (nI 0)), some (.int (bI (hbF u t n))), some (.int (nI ((bd % 4 + n) % 4)))] [] u := by
  refine g_load rfl rfl rfl trivial ?_
  by_cases hsw : w.toInt < 0 ∨ 13 < w.toInt
  · refine g_tabOut 144 rfl hsw rfl ?_
    rw [swN_out hsw] at hQ
    refine g_iconst (-1) rfl (by decide) ?_
    refine g_vret rfl trivial ⟨rfl, rfl⟩ (Nat.le_refl _) (Nat.le_refl _) ?_
    exact hQ
  obtain ⟨ksw, hk, rfl⟩ := sw_of (x := w) (n := 13) hsw
  rcases (show ksw = 0 ∨ ksw = 1 ∨ ksw = 2 ∨ ksw = 3 ∨ ksw = 4 ∨ ksw = 5 ∨ ksw = 6 ∨ ksw = 7 ∨ ksw = 8 ∨ ksw = 9 ∨ ksw = 10 ∨ ksw = 11 ∨ ksw = 12 ∨ ksw = 13 by omega) with rfl | rfl | rfl | rfl | rfl | rfl | rfl | rfl | rfl | rfl | rfl | rfl | rfl | rfl
  · refine g_tabIn (69) 47 rfl (by decide) (by decide) rfl rfl ?_
    rw [swN_in 0 (by decide)] at hQ
    refine g_load rfl rfl rfl trivial ?_
    refine r_getf rfl rfl ?_
    refine g_load rfl rfl rfl trivial ?_
    refine r_ia (t) rfl ⟨by decide, by decide, rfl⟩ rfl (by show _ < 10; omega) ?_
    refine g_vret rfl trivial ⟨rfl, rfl⟩ (Nat.le_refl _) (Nat.le_refl _) ?_
    exact hQ
  · refine g_tabIn (76) 52 rfl (by decide) (by decide) rfl rfl ?_
    rw [swN_in 1 (by decide)] at hQ
    refine g_load rfl rfl rfl trivial ?_
    refine r_getf rfl rfl ?_
    refine g_iconst (nI 2) rfl (by decide) ?_
    refine g_load rfl rfl rfl trivial ?_
    refine g_imul rfl ?_
    refine r_ia (2 * t) rfl ⟨by decide, by decide, rfl⟩ (pk_mul 2 t) (by show _ < 20; omega) ?_
    refine g_vret rfl trivial ⟨rfl, rfl⟩ (Nat.le_refl _) (Nat.le_refl _) ?_
    exact hQ
  · refine g_tabIn (85) 59 rfl (by decide) (by decide) rfl rfl ?_
    rw [swN_in 2 (by decide)] at hQ
    refine g_load rfl rfl rfl trivial ?_
    refine r_getf rfl rfl ?_
    refine g_iconst (nI 2) rfl (by decide) ?_
    refine g_load rfl rfl rfl trivial ?_
    refine g_imul rfl ?_
    refine g_iconst (nI 1) rfl (by decide) ?_
    refine g_iadd rfl ?_
    refine r_ia (2 * t + 1) rfl ⟨by decide, by decide, rfl⟩ (by rw [pk_mul, nI_add]) (by show _ < 20; omega) ?_
    refine g_vret rfl trivial ⟨rfl, rfl⟩ (Nat.le_refl _) (Nat.le_refl _) ?_
    exact hQ
  · refine g_tabIn (228) 144 rfl (by decide) (by decide) rfl rfl ?_
    rw [swN_in 3 (by decide)] at hQ
    refine g_iconst (-1) rfl (by decide) ?_
    refine g_vret rfl trivial ⟨rfl, rfl⟩ (Nat.le_refl _) (Nat.le_refl _) ?_
    exact hQ
  · refine g_tabIn (96) 68 rfl (by decide) (by decide) rfl rfl ?_
    rw [swN_in 4 (by decide)] at hQ
    refine g_load rfl rfl rfl trivial ?_
    refine g_vret rfl trivial ⟨rfl, rfl⟩ (Nat.le_refl _) (Nat.le_refl _) ?_
    exact hQ
  · refine g_tabIn (99) 70 rfl (by decide) (by decide) rfl rfl ?_
    rw [swN_in 5 (by decide)] at hQ
    refine g_load rfl rfl rfl trivial ?_
    refine g_if_eq rfl (fun c1 => ?_) (fun c1 => ?_)
    · rw [bI_eq] at c1
      simp only [tbA, c1, Bool.false_eq_true, if_false] at hQ
      refine g_iconst (-1) rfl (by decide) ?_
      refine g_vret rfl trivial ⟨rfl, rfl⟩ (Nat.le_refl _) (Nat.le_refl _) ?_
      exact hQ
    · rw [bI_ne] at c1
      simp only [tbA, c1, if_true] at hQ
      have hlb : last ge3 (cf u t) n = some (bB u t) := hbl c1
      refine g_load rfl rfl rfl trivial ?_
      refine g_load rfl rfl rfl trivial ?_
      refine g_virtI (a := 25) (ci := 8) (n := 1) [.int (nI t)] rFr_tr rfl rfl (by decide) rfl r_this rfl (Nat.le_of_ble_eq_true rfl) (Nat.le_refl _) (Nat.le_refl _) (r_level t n (bB u t) ht hc (by omega) hlb ⟨_, rfl, ?_⟩)
      refine g_goto rfl ?_
      refine g_vret rfl trivial ⟨rfl, rfl⟩ (Nat.le_refl _) (Nat.le_refl _) ?_
      exact hQ
  · refine g_tabIn (114) 78 rfl (by decide) (by decide) rfl rfl ?_
    rw [swN_in 6 (by decide)] at hQ
    refine g_load rfl rfl rfl trivial ?_
    refine g_if_eq rfl (fun c2 => ?_) (fun c2 => ?_)
    · rw [bI_eq] at c2
      simp only [tbA, c2, Bool.false_eq_true, if_false] at hQ
      refine g_iconst (-1) rfl (by decide) ?_
      refine g_vret rfl trivial ⟨rfl, rfl⟩ (Nat.le_refl _) (Nat.le_refl _) ?_
      exact hQ
    · rw [bI_ne] at c2
      simp only [tbA, c2, if_true] at hQ
      have hlb : last ge3 (cf u t) n = some (bB u t) := hbl c2
      refine g_load rfl rfl rfl trivial ?_
      refine g_load rfl rfl rfl trivial ?_
      refine g_virtI (a := 25) (ci := 8) (n := 1) [.int (nI t)] rFr_tr rfl rfl (by decide) rfl r_this rfl (Nat.le_of_ble_eq_true rfl) (Nat.le_refl _) (Nat.le_refl _) (r_strain t n (bB u t) ht hc (by omega) hlb ⟨_, rfl, ?_⟩)
      refine g_goto rfl ?_
      refine g_vret rfl trivial ⟨rfl, rfl⟩ (Nat.le_refl _) (Nat.le_refl _) ?_
      exact hQ
  · refine g_tabIn (129) 86 rfl (by decide) (by decide) rfl rfl ?_
    rw [swN_in 7 (by decide)] at hQ
    refine g_load rfl rfl rfl trivial ?_
    refine g_if_eq rfl (fun c3 => ?_) (fun c3 => ?_)
    · refine g_iconst (-1) rfl (by decide) ?_
      refine g_vret rfl trivial ⟨rfl, rfl⟩ (Nat.le_refl _) (Nat.le_refl _) ?_
      exact hQ
    · exact absurd nI_0 c3
  · refine g_tabIn (143) 94 rfl (by decide) (by decide) rfl rfl ?_
    rw [swN_in 8 (by decide)] at hQ
    refine g_load rfl rfl rfl trivial ?_
    refine g_if_eq rfl (fun c4 => ?_) (fun c4 => ?_)
    · rw [bI_eq] at c4
      simp only [tbA, c4, Bool.false_eq_true, if_false] at hQ
      refine g_iconst (-1) rfl (by decide) ?_
      refine g_vret rfl trivial ⟨rfl, rfl⟩ (Nat.le_refl _) (Nat.le_refl _) ?_
      exact hQ
    · rw [bI_ne] at c4
      simp only [tbA, c4, if_true] at hQ
      have hlb : last ge3 (cf u t) n = some (bB u t) := hbl c4
      refine g_load rfl rfl rfl trivial ?_
      refine g_load rfl rfl rfl trivial ?_
      refine g_virtI (a := 25) (ci := 8) (n := 1) [.int (nI t)] rFr_tr rfl rfl (by decide) rfl r_this rfl (Nat.le_of_ble_eq_true rfl) (Nat.le_refl _) (Nat.le_refl _) (r_doubled t n ht hc (by omega) ⟨_, rfl, ?_⟩)
      refine g_goto rfl ?_
      refine g_vret rfl trivial ⟨rfl, rfl⟩ (Nat.le_refl _) (Nat.le_refl _) ?_
      exact hQ
  · refine g_tabIn (158) 102 rfl (by decide) (by decide) rfl rfl ?_
    rw [swN_in 9 (by decide)] at hQ
    refine g_load rfl rfl rfl trivial ?_
    refine g_if_eq rfl (fun c5 => ?_) (fun c5 => ?_)
    · refine g_iconst (nI 0) rfl (by decide) ?_
      refine g_vret rfl trivial ⟨rfl, rfl⟩ (Nat.le_refl _) (Nat.le_refl _) ?_
      exact hQ
    · exact absurd nI_0 c5
  · refine g_tabIn (173) 111 rfl (by decide) (by decide) rfl rfl ?_
    rw [swN_in 10 (by decide)] at hQ
    refine g_load rfl rfl rfl trivial ?_
    refine g_if_eq rfl (fun c6 => ?_) (fun c6 => ?_)
    · refine g_iconst (nI 0) rfl (by decide) ?_
      refine g_vret rfl trivial ⟨rfl, rfl⟩ (Nat.le_refl _) (Nat.le_refl _) ?_
      exact hQ
    · exact absurd nI_0 c6
  · refine g_tabIn (188) 120 rfl (by decide) (by decide) rfl rfl ?_
    rw [swN_in 11 (by decide)] at hQ
    refine g_load rfl rfl rfl trivial ?_
    refine g_if_eq rfl (fun c7 => ?_) (fun c7 => ?_)
    · refine g_iconst (nI 0) rfl (by decide) ?_
      refine g_vret rfl trivial ⟨rfl, rfl⟩ (Nat.le_refl _) (Nat.le_refl _) ?_
      exact hQ
    · exact absurd nI_0 c7
  · refine g_tabIn (208) 132 rfl (by decide) (by decide) rfl rfl ?_
    rw [swN_in 12 (by decide)] at hQ
    refine g_load rfl rfl rfl trivial ?_
    refine r_getf rfl rfl ?_
    refine g_load rfl rfl rfl trivial ?_
    refine r_ia (t) rfl ⟨by decide, by decide, rfl⟩ rfl (by show _ < 10; omega) ?_
    rw [hc]
    refine g_vret rfl trivial ⟨rfl, rfl⟩ (Nat.le_refl _) (Nat.le_refl _) ?_
    exact hQ
  · refine g_tabIn (215) 137 rfl (by decide) (by decide) rfl rfl ?_
    rw [swN_in 13 (by decide)] at hQ
    refine g_load rfl rfl rfl trivial ?_
    refine g_if_eq rfl (fun c8 => ?_) (fun c8 => ?_)
    · refine g_iconst (-1) rfl (by decide) ?_
      refine g_vret rfl trivial ⟨rfl, rfl⟩ (Nat.le_refl _) (Nat.le_refl _) ?_
      exact hQ
    · exact absurd nI_0 c8
set_option maxRecDepth 40000 in
set_option maxRecDepth 20000 in
theorem r_table_p {pr : aC} {d : Nat} {u u1 : rS} (t n b bd m : Nat) (w : Int32) (hS : rSame u u1) (hG : gtAt u1 (gf u t) (stF (cf u t) b) ((dcN (cf u t) (bd % 4) b + 1) % 4) (m / 4)) (ht : t < 10) (hc : u1.2 31 t = nI n) (hn : n ≤ 340) (hb : last ge3 (cf u1 t) n = some b) (hbd : u1.2 29 t = nI (bd + 1)) (hbd2 : bd < 36) (hm0 : u1.2 32 t = nI m) (hm52 : m ≤ 52) {Q : Option Value → rS → Prop} (hQ : Q (some (.int (tbP u t n b bd m (swN w)))) u1) : rB pr (d + 5) cd_198 (Option.some Jvm.ClassFile.FieldType.int) Q 45 [some (.ref 25), some (.int (nI t)), some (.int w), some (.int (nI 1)), some (.int (nI 1)), some (.int (nI (seatF u t b bd m)))] [] u1 := by
  refine g_load rfl rfl rfl trivial ?_
  by_cases hsw : w.toInt < 0 ∨ 13 < w.toInt
  · refine g_tabOut 144 rfl hsw rfl ?_
    rw [swN_out hsw] at hQ
    refine g_iconst (-1) rfl (by decide) ?_
    refine g_vret rfl trivial ⟨rfl, rfl⟩ (Nat.le_refl _) (Nat.le_refl _) ?_
    exact hQ
  obtain ⟨ksw, hk, rfl⟩ := sw_of (x := w) (n := 13) hsw
  rcases (show ksw = 0 ∨ ksw = 1 ∨ ksw = 2 ∨ ksw = 3 ∨ ksw = 4 ∨ ksw = 5 ∨ ksw = 6 ∨ ksw = 7 ∨ ksw = 8 ∨ ksw = 9 ∨ ksw = 10 ∨ ksw = 11 ∨ ksw = 12 ∨ ksw = 13 by omega) with rfl | rfl | rfl | rfl | rfl | rfl | rfl | rfl | rfl | rfl | rfl | rfl | rfl | rfl
  · refine g_tabIn (69) 47 rfl (by decide) (by decide) rfl rfl ?_
    rw [swN_in 0 (by decide)] at hQ
    refine g_load rfl rfl rfl trivial ?_
    refine r_getf rfl rfl ?_
    refine g_load rfl rfl rfl trivial ?_
    refine r_ia (t) rfl ⟨by decide, by decide, rfl⟩ rfl (by show _ < 10; omega) ?_
    rw [hS.2.2.2 29 (by decide)]
    refine g_vret rfl trivial ⟨rfl, rfl⟩ (Nat.le_refl _) (Nat.le_refl _) ?_
    exact hQ
  · refine g_tabIn (76) 52 rfl (by decide) (by decide) rfl rfl ?_
    rw [swN_in 1 (by decide)] at hQ
    refine g_load rfl rfl rfl trivial ?_
    refine r_getf rfl rfl ?_
    refine g_iconst (nI 2) rfl (by decide) ?_
    refine g_load rfl rfl rfl trivial ?_
    refine g_imul rfl ?_
    refine r_ia (2 * t) rfl ⟨by decide, by decide, rfl⟩ (pk_mul 2 t) (by show _ < 20; omega) ?_
    rw [hS.2.2.2 30 (by decide)]
    refine g_vret rfl trivial ⟨rfl, rfl⟩ (Nat.le_refl _) (Nat.le_refl _) ?_
    exact hQ
  · refine g_tabIn (85) 59 rfl (by decide) (by decide) rfl rfl ?_
    rw [swN_in 2 (by decide)] at hQ
    refine g_load rfl rfl rfl trivial ?_
    refine r_getf rfl rfl ?_
    refine g_iconst (nI 2) rfl (by decide) ?_
    refine g_load rfl rfl rfl trivial ?_
    refine g_imul rfl ?_
    refine g_iconst (nI 1) rfl (by decide) ?_
    refine g_iadd rfl ?_
    refine r_ia (2 * t + 1) rfl ⟨by decide, by decide, rfl⟩ (by rw [pk_mul, nI_add]) (by show _ < 20; omega) ?_
    rw [hS.2.2.2 30 (by decide)]
    refine g_vret rfl trivial ⟨rfl, rfl⟩ (Nat.le_refl _) (Nat.le_refl _) ?_
    exact hQ
  · refine g_tabIn (228) 144 rfl (by decide) (by decide) rfl rfl ?_
    rw [swN_in 3 (by decide)] at hQ
    refine g_iconst (-1) rfl (by decide) ?_
    refine g_vret rfl trivial ⟨rfl, rfl⟩ (Nat.le_refl _) (Nat.le_refl _) ?_
    exact hQ
  · refine g_tabIn (96) 68 rfl (by decide) (by decide) rfl rfl ?_
    rw [swN_in 4 (by decide)] at hQ
    refine g_load rfl rfl rfl trivial ?_
    refine g_vret rfl trivial ⟨rfl, rfl⟩ (Nat.le_refl _) (Nat.le_refl _) ?_
    exact hQ
  · refine g_tabIn (99) 70 rfl (by decide) (by decide) rfl rfl ?_
    rw [swN_in 5 (by decide)] at hQ
    refine g_load rfl rfl rfl trivial ?_
    refine g_if_eq rfl (fun c1 => ?_) (fun c1 => ?_)
    · exact absurd c1 (by decide)
    · refine g_load rfl rfl rfl trivial ?_
      refine g_load rfl rfl rfl trivial ?_
      refine g_virtI (a := 25) (ci := 8) (n := 1) [.int (nI t)] rFr_tr rfl rfl (by decide) rfl r_this rfl (Nat.le_of_ble_eq_true rfl) (Nat.le_refl _) (Nat.le_refl _) (r_level t n b ht hc hn hb ⟨_, rfl, ?_⟩)
      rw [rSame_cf hS]
      refine g_goto rfl ?_
      refine g_vret rfl trivial ⟨rfl, rfl⟩ (Nat.le_refl _) (Nat.le_refl _) ?_
      exact hQ
  · refine g_tabIn (114) 78 rfl (by decide) (by decide) rfl rfl ?_
    rw [swN_in 6 (by decide)] at hQ
    refine g_load rfl rfl rfl trivial ?_
    refine g_if_eq rfl (fun c2 => ?_) (fun c2 => ?_)
    · exact absurd c2 (by decide)
    · refine g_load rfl rfl rfl trivial ?_
      refine g_load rfl rfl rfl trivial ?_
      refine g_virtI (a := 25) (ci := 8) (n := 1) [.int (nI t)] rFr_tr rfl rfl (by decide) rfl r_this rfl (Nat.le_of_ble_eq_true rfl) (Nat.le_refl _) (Nat.le_refl _) (r_strain t n b ht hc hn hb ⟨_, rfl, ?_⟩)
      rw [rSame_cf hS]
      refine g_goto rfl ?_
      refine g_vret rfl trivial ⟨rfl, rfl⟩ (Nat.le_refl _) (Nat.le_refl _) ?_
      exact hQ
  · refine g_tabIn (129) 86 rfl (by decide) (by decide) rfl rfl ?_
    rw [swN_in 7 (by decide)] at hQ
    refine g_load rfl rfl rfl trivial ?_
    refine g_if_eq rfl (fun c3 => ?_) (fun c3 => ?_)
    · exact absurd c3 (by decide)
    · refine g_load rfl rfl rfl trivial ?_
      refine g_load rfl rfl rfl trivial ?_
      refine g_virtI (a := 25) (ci := 8) (n := 1) [.int (nI t)] rFr_tr rfl rfl (by decide) rfl r_this rfl (Nat.le_of_ble_eq_true rfl) (Nat.le_refl _) (Nat.le_refl _) (r_declarer t n b bd ht hc hn hb hbd hbd2 ⟨_, rfl, ?_⟩)
      rw [(dcF_N (dl := bd % 4) (last_lt hb).2).1, rSame_cf hS]
      refine g_goto rfl ?_
      refine g_vret rfl trivial ⟨rfl, rfl⟩ (Nat.le_refl _) (Nat.le_refl _) ?_
      exact hQ
  · refine g_tabIn (143) 94 rfl (by decide) (by decide) rfl rfl ?_
    rw [swN_in 8 (by decide)] at hQ
    refine g_load rfl rfl rfl trivial ?_
    refine g_if_eq rfl (fun c4 => ?_) (fun c4 => ?_)
    · exact absurd c4 (by decide)
    · refine g_load rfl rfl rfl trivial ?_
      refine g_load rfl rfl rfl trivial ?_
      refine g_virtI (a := 25) (ci := 8) (n := 1) [.int (nI t)] rFr_tr rfl rfl (by decide) rfl r_this rfl (Nat.le_of_ble_eq_true rfl) (Nat.le_refl _) (Nat.le_refl _) (r_doubled t n ht hc hn ⟨_, rfl, ?_⟩)
      rw [rSame_cf hS]
      refine g_goto rfl ?_
      refine g_vret rfl trivial ⟨rfl, rfl⟩ (Nat.le_refl _) (Nat.le_refl _) ?_
      exact hQ
  · refine g_tabIn (158) 102 rfl (by decide) (by decide) rfl rfl ?_
    rw [swN_in 9 (by decide)] at hQ
    refine g_load rfl rfl rfl trivial ?_
    refine g_if_eq rfl (fun c5 => ?_) (fun c5 => ?_)
    · exact absurd c5 (by decide)
    · refine g_load rfl rfl rfl trivial ?_
      refine r_getf rfl rfl ?_
      refine g_iconst (nI 0) rfl (by decide) ?_
      refine r_ia (0) rfl ⟨by decide, by decide, rfl⟩ rfl (by decide) ?_
      rw [hG.2.2.1]
      refine g_goto rfl ?_
      refine g_vret rfl trivial ⟨rfl, rfl⟩ (Nat.le_refl _) (Nat.le_refl _) ?_
      exact hQ
  · refine g_tabIn (173) 111 rfl (by decide) (by decide) rfl rfl ?_
    rw [swN_in 10 (by decide)] at hQ
    refine g_load rfl rfl rfl trivial ?_
    refine g_if_eq rfl (fun c6 => ?_) (fun c6 => ?_)
    · exact absurd c6 (by decide)
    · refine g_load rfl rfl rfl trivial ?_
      refine r_getf rfl rfl ?_
      refine g_iconst (nI 1) rfl (by decide) ?_
      refine r_ia (1) rfl ⟨by decide, by decide, rfl⟩ rfl (by decide) ?_
      rw [hG.2.2.2]
      refine g_goto rfl ?_
      refine g_vret rfl trivial ⟨rfl, rfl⟩ (Nat.le_refl _) (Nat.le_refl _) ?_
      exact hQ
  · refine g_tabIn (188) 120 rfl (by decide) (by decide) rfl rfl ?_
    rw [swN_in 11 (by decide)] at hQ
    refine g_load rfl rfl rfl trivial ?_
    refine g_if_eq rfl (fun c7 => ?_) (fun c7 => ?_)
    · exact absurd c7 (by decide)
    · refine g_load rfl rfl rfl trivial ?_
      refine r_getf rfl rfl ?_
      refine g_load rfl rfl rfl trivial ?_
      refine r_ia (t) rfl ⟨by decide, by decide, rfl⟩ rfl (by show _ < 10; omega) ?_
      refine g_load rfl rfl rfl trivial ?_
      refine r_getf rfl rfl ?_
      rw [hm0, hG.2.1]
      refine g_isub rfl ?_
      rw [pk_sub (by omega), show m - 4 * (m / 4) = m % 4 by omega]
      refine g_goto rfl ?_
      refine g_vret rfl trivial ⟨rfl, rfl⟩ (Nat.le_refl _) (Nat.le_refl _) ?_
      exact hQ
  · refine g_tabIn (208) 132 rfl (by decide) (by decide) rfl rfl ?_
    rw [swN_in 12 (by decide)] at hQ
    refine g_load rfl rfl rfl trivial ?_
    refine r_getf rfl rfl ?_
    refine g_load rfl rfl rfl trivial ?_
    refine r_ia (t) rfl ⟨by decide, by decide, rfl⟩ rfl (by show _ < 10; omega) ?_
    rw [hc]
    refine g_vret rfl trivial ⟨rfl, rfl⟩ (Nat.le_refl _) (Nat.le_refl _) ?_
    exact hQ
  · refine g_tabIn (215) 137 rfl (by decide) (by decide) rfl rfl ?_
    rw [swN_in 13 (by decide)] at hQ
    refine g_load rfl rfl rfl trivial ?_
    refine g_if_eq rfl (fun c8 => ?_) (fun c8 => ?_)
    · exact absurd c8 (by decide)
    · refine g_load rfl rfl rfl trivial ?_
      refine r_getf rfl rfl ?_
      rw [hG.1]
      refine g_goto rfl ?_
      refine g_vret rfl trivial ⟨rfl, rfl⟩ (Nat.le_refl _) (Nat.le_refl _) ?_
      exact hQ
def tbF (u : rS) (t w : Int32) : Int32 := if inF t 0 9 then (if w = nI 3 then u.2 28 t.toNatClampNeg else if u.2 28 t.toNatClampNeg = 0 then -1 else if u.2 28 t.toNatClampNeg = nI 2 then tbP u t.toNatClampNeg (nC u t.toNatClampNeg) (bB u t.toNatClampNeg) (bD u t.toNatClampNeg) (mC u t.toNatClampNeg) (swN w) else tbA u t.toNatClampNeg (nC u t.toNatClampNeg) (bD u t.toNatClampNeg) (swN w)) else -1
theorem hb_bB {u : rS} {t : Nat} (h : hbF u t (nC u t) = true) : last ge3 (cf u t) (nC u t) = some (bB u t) := by
  unfold hbF at h
  unfold bB
  cases hl : last ge3 (cf u t) (nC u t) with
  | none => rw [hl] at h; cases h
  | some b => rfl
set_option maxRecDepth 20000 in
theorem r_table {pr : aC} {d : Nat} {u : rS} (t w : Int32) (nb : Nat) (hk : rOkT u nb) {Q : Option Value → rS → Prop} (hQ : ∀ u1, rSame u u1 → Q (some (.int (tbF u t w))) u1) : rR pr (d + 6 + 1) 198 [.ref 25, .int t, .int w] u Q := by
  refine gR_of mi_198 rFr_rf rfl (Nat.le_of_ble_eq_true rfl) ?_
  show rB pr (d + 6) cd_198 (Option.some Jvm.ClassFile.FieldType.int) Q 0 [some (.ref 25), some (.int t), some (.int w), none, none, none] [] u
  refine g_load rfl rfl rfl trivial ?_
  refine g_iconst (nI 0) rfl (by decide) ?_
  refine g_bipush (nI 9) rfl (by decide) ?_
  refine g_statI [.int t, .int (nI 0), .int (nI 9)] rFr_tr rfl rfl rfl (Nat.le_of_ble_eq_true rfl) (Nat.le_refl _) (Nat.le_refl _) (r_in t 0 9 ⟨_, rfl, ?_⟩)
  refine g_if_ne rfl (fun c1 => ?_) (fun c1 => ?_)
  · rw [bI_ne] at c1
    obtain ⟨t', ht, rfl⟩ := tb_of c1
    have e0 : (nI t').toNatClampNeg = t' := nI_clamp (by omega)
    unfold tbF at hQ
    rw [c1, if_pos rfl, e0] at hQ
    refine g_load rfl rfl rfl trivial ?_
    refine g_iconst (nI 3) rfl (by decide) ?_
    refine g_icmp_ne rfl (fun c2 => ?_) (fun c2 => ?_)
    · rw [if_neg c2] at hQ
      refine g_load rfl rfl rfl trivial ?_
      refine r_getf rfl rfl ?_
      refine g_load rfl rfl rfl trivial ?_
      refine r_ia (t') rfl ⟨by decide, by decide, rfl⟩ rfl (by show _ < 10; omega) ?_
      refine g_if_ne rfl (fun c3 => ?_) (fun c3 => ?_)
      · rw [if_neg c3] at hQ
        obtain ⟨a1, a2, a3, a4, a5, a6, a7, a8⟩ := (hk.2.2 t' ht).resolve_left c3
        have hnb := hk.2.1
        refine g_load rfl rfl rfl trivial ?_
        refine r_getf rfl rfl ?_
        refine g_load rfl rfl rfl trivial ?_
        refine r_ia (t') rfl ⟨by decide, by decide, rfl⟩ rfl (by show _ < 10; omega) ?_
        refine g_iconst (nI 2) rfl (by decide) ?_
        refine g_icmp_ne rfl (fun c4 => ?_) (fun c4 => ?_)
        · rw [if_neg c4] at hQ
          have hp := c4
          refine g_iconst (nI 0) rfl (by decide) ?_
          refine g_store [some (.ref 25), some ((.int (nI t'))), some (.int w), some (.int (nI 0)), none, none] rfl rfl trivial (Nat.le_of_ble_eq_true rfl) rfl ?_
          refine g_load rfl rfl rfl trivial ?_
          refine g_load rfl rfl rfl trivial ?_
          refine g_virtI (a := 25) (ci := 8) (n := 1) [(.int (nI t'))] rFr_tr rfl rfl (by decide) rfl r_this rfl (Nat.le_of_ble_eq_true rfl) (Nat.le_refl _) (Nat.le_refl _) (r_latestBid t' (nC u t') ht a3 (by omega) ⟨_, rfl, ?_⟩)
          refine g_iconst (-1) rfl (by decide) ?_
          refine g_icmp_eq rfl (fun c5 => ?_) (fun c5 => ?_)
          · have e1 := oI_m1 c5 (fun i hi => by have := (last_lt hi).1; omega)
            refine g_iconst (nI 0) rfl (by decide) ?_
            have a9 := a8.resolve_right (fun q => hp q.1)
            have hv : nI 0 = bI (hbF u t' (nC u t')) := by unfold hbF; rw [e1]; rfl
            refine g_store [some (.ref 25), some (.int (nI t')), some (.int w), some (.int (nI 0)), some (.int (bI (hbF u t' (nC u t')))), none] rfl rfl trivial (Nat.le_of_ble_eq_true rfl) (by rw [← hv]; rfl) ?_
            refine g_load rfl rfl rfl trivial ?_
            refine g_load rfl rfl rfl trivial ?_
            refine g_virtI (a := 25) (ci := 8) (n := 1) [.int (nI t')] rFr_tr rfl rfl (by decide) rfl r_this rfl (Nat.le_of_ble_eq_true rfl) (Nat.le_refl _) (Nat.le_refl _) (r_turn_a t' (nC u t') (bD u t') ht a3 a4 a1 (by omega) a9.1 ⟨_, rfl, ?_⟩)
            refine g_store [some (.ref 25), some (.int (nI t')), some (.int w), some (.int (nI 0)), some (.int (bI (hbF u t' (nC u t')))), some (.int (nI ((bD u t' % 4 + nC u t') % 4)))] rfl rfl trivial (Nat.le_of_ble_eq_true rfl) rfl ?_
            exact r_table_a t' (nC u t') (bD u t') w ht a3 a4 a1 hb_bB (hQ u (rSame.rf u))
          · obtain ⟨bb, e1⟩ := oI_some c5
            refine g_iconst (nI 1) rfl (by decide) ?_
            refine g_goto rfl ?_
            have a9 := a8.resolve_right (fun q => hp q.1)
            have hv : nI 1 = bI (hbF u t' (nC u t')) := by unfold hbF; rw [e1]; rfl
            refine g_store [some (.ref 25), some (.int (nI t')), some (.int w), some (.int (nI 0)), some (.int (bI (hbF u t' (nC u t')))), none] rfl rfl trivial (Nat.le_of_ble_eq_true rfl) (by rw [← hv]; rfl) ?_
            refine g_load rfl rfl rfl trivial ?_
            refine g_load rfl rfl rfl trivial ?_
            refine g_virtI (a := 25) (ci := 8) (n := 1) [.int (nI t')] rFr_tr rfl rfl (by decide) rfl r_this rfl (Nat.le_of_ble_eq_true rfl) (Nat.le_refl _) (Nat.le_refl _) (r_turn_a t' (nC u t') (bD u t') ht a3 a4 a1 (by omega) a9.1 ⟨_, rfl, ?_⟩)
            refine g_store [some (.ref 25), some (.int (nI t')), some (.int w), some (.int (nI 0)), some (.int (bI (hbF u t' (nC u t')))), some (.int (nI ((bD u t' % 4 + nC u t') % 4)))] rfl rfl trivial (Nat.le_of_ble_eq_true rfl) rfl ?_
            exact r_table_a t' (nC u t') (bD u t') w ht a3 a4 a1 hb_bB (hQ u (rSame.rf u))
        · rw [if_pos c4] at hQ
          have hp := c4
          refine g_iconst (nI 1) rfl (by decide) ?_
          refine g_goto rfl ?_
          refine g_store [some (.ref 25), some ((.int (nI t'))), some (.int w), some (.int (nI 1)), none, none] rfl rfl trivial (Nat.le_of_ble_eq_true rfl) rfl ?_
          refine g_load rfl rfl rfl trivial ?_
          refine g_load rfl rfl rfl trivial ?_
          refine g_virtI (a := 25) (ci := 8) (n := 1) [(.int (nI t'))] rFr_tr rfl rfl (by decide) rfl r_this rfl (Nat.le_of_ble_eq_true rfl) (Nat.le_refl _) (Nat.le_refl _) (r_latestBid t' (nC u t') ht a3 (by omega) ⟨_, rfl, ?_⟩)
          refine g_iconst (-1) rfl (by decide) ?_
          refine g_icmp_eq rfl (fun c6 => ?_) (fun c6 => ?_)
          · have e1 := oI_m1 c6 (fun i hi => by have := (last_lt hi).1; omega)
            refine g_iconst (nI 0) rfl (by decide) ?_
            have a9 := a8.resolve_left (fun q => absurd (hp.symm.trans q.1) (by decide))
            exact absurd (e1.symm.trans a9.2) (by simp)
          · obtain ⟨bb, e1⟩ := oI_some c6
            refine g_iconst (nI 1) rfl (by decide) ?_
            refine g_goto rfl ?_
            have a9 := a8.resolve_left (fun q => absurd (hp.symm.trans q.1) (by decide))
            have hp1 : ¬ u.2 28 t' = nI 1 := by rw [hp]; decide
            refine g_store [some (.ref 25), some (.int (nI t')), some (.int w), some (.int (nI 1)), some (.int (nI 1)), none] rfl rfl trivial (Nat.le_of_ble_eq_true rfl) rfl ?_
            refine g_load rfl rfl rfl trivial ?_
            refine g_load rfl rfl rfl trivial ?_
            refine g_virtI (a := 25) (ci := 8) (n := 1) [.int (nI t')] rFr_tr rfl rfl (by decide) rfl r_this rfl (Nat.le_of_ble_eq_true rfl) (Nat.le_refl _) (Nat.le_refl _) (r_turn_p t' (nC u t') (bB u t') (bD u t') (mC u t') ht a3 (by omega) a9.2 a1 (by omega) a5 (by omega) hp1 (fun u1 hS hG => ⟨_, rfl, ?_⟩))
            refine g_store [some (.ref 25), some (.int (nI t')), some (.int w), some (.int (nI 1)), some (.int (nI 1)), some (.int (nI (seatF u t' (bB u t') (bD u t') (mC u t'))))] rfl rfl trivial (Nat.le_of_ble_eq_true rfl) rfl ?_
            exact r_table_p t' (nC u t') (bB u t') (bD u t') (mC u t') w hS hG ht (by rw [hS.2.2.2 31 (by decide)]; exact a3) (by omega) (by rw [rSame_cf hS]; exact a9.2) (by rw [hS.2.2.2 29 (by decide)]; exact a1) (by omega) (by rw [hS.2.2.2 32 (by decide)]; exact a5) (by omega) (hQ u1 hS)
      · rw [if_pos c3] at hQ
        have hQ := hQ u (rSame.rf u)
        refine g_iconst (-1) rfl (by decide) ?_
        refine g_vret rfl trivial ⟨rfl, rfl⟩ (Nat.le_refl _) (Nat.le_refl _) ?_
        exact hQ
    · rw [if_pos c2] at hQ
      have hQ := hQ u (rSame.rf u)
      refine g_load rfl rfl rfl trivial ?_
      refine r_getf rfl rfl ?_
      refine g_load rfl rfl rfl trivial ?_
      refine r_ia (t') rfl ⟨by decide, by decide, rfl⟩ rfl (by show _ < 10; omega) ?_
      refine g_vret rfl trivial ⟨rfl, rfl⟩ (Nat.le_refl _) (Nat.le_refl _) ?_
      exact hQ
  · rw [bI_eq] at c1
    have hQ := hQ u (rSame.rf u)
    rw [show tbF u t w = -1 by unfold tbF; rw [c1]; rfl] at hQ
    refine g_iconst (-1) rfl (by decide) ?_
    refine g_vret rfl trivial ⟨rfl, rfl⟩ (Nat.le_refl _) (Nat.le_refl _) ?_
    exact hQ
end
section
/-! ===== the last tricks as a game: gw n need .. : the declarer's side (sd) wins at least need of the tricks that the n cards left make ===== -/
def gLg (H : Nat → Nat → Bool) (s : Nat) (led : Option Nat) (c : Nat) : Prop := c < 52 ∧ H s c = true ∧ ∀ q, led = some q → c / 13 = q ∨ ∀ c', c' < 52 → H s c' = true → ¬ c' / 13 = q
def gBt (c top tr : Nat) : Prop := if c / 13 = top / 13 then top < c else c / 13 = tr
def gTk (k c top tr : Nat) : Bool := decide (k = 0) || (if c / 13 = top / 13 then decide (top < c) else decide (c / 13 = tr))
def gRm (H : Nat → Nat → Bool) (s c : Nat) : Nat → Nat → Bool := fun s' c' => if s' = s ∧ c' = c then false else H s' c'
def gw (tr sd : Nat) : Nat → Nat → (Nat → Nat → Bool) → Nat → Nat → Option Nat → Nat → Nat → Prop
  | 0, need, _, _, _, _, _, _ => need = 0
  | n + 1, need, H, s, k, led, top, w =>
    if s % 2 = sd then ∃ c, gLg H s led c ∧ (if k = 3 then gw tr sd n (need - (if (if gTk k c top tr then s else w) % 2 = sd then 1 else 0)) (gRm H s c) (if gTk k c top tr then s else w) 0 none 0 0 else gw tr sd n need (gRm H s c) ((s + 1) % 4) (k + 1) (some (led.getD (c / 13))) (if gTk k c top tr then c else top) (if gTk k c top tr then s else w))
    else ∀ c, gLg H s led c → (if k = 3 then gw tr sd n (need - (if (if gTk k c top tr then s else w) % 2 = sd then 1 else 0)) (gRm H s c) (if gTk k c top tr then s else w) 0 none 0 0 else gw tr sd n need (gRm H s c) ((s + 1) % 4) (k + 1) (some (led.getD (c / 13))) (if gTk k c top tr then c else top) (if gTk k c top tr then s else w))
/-- what comes of a card -/
def gCh (tr sd n need : Nat) (H : Nat → Nat → Bool) (s k : Nat) (led : Option Nat) (top w c : Nat) : Prop := if k = 3 then gw tr sd n (need - (if (if gTk k c top tr then s else w) % 2 = sd then 1 else 0)) (gRm H s c) (if gTk k c top tr then s else w) 0 none 0 0 else gw tr sd n need (gRm H s c) ((s + 1) % 4) (k + 1) (some (led.getD (c / 13))) (if gTk k c top tr then c else top) (if gTk k c top tr then s else w)
theorem gw_s (tr sd n need : Nat) (H : Nat → Nat → Bool) (s k : Nat) (led : Option Nat) (top w : Nat) : gw tr sd (n + 1) need H s k led top w = (if s % 2 = sd then ∃ c, gLg H s led c ∧ gCh tr sd n need H s k led top w c else ∀ c, gLg H s led c → gCh tr sd n need H s k led top w c) := rfl
/-- how many cards a seat holds -/
def hN (H : Nat → Nat → Bool) (s : Nat) : Nat := cnt (H s) 52
/-- the hands fit: t tricks are left, k cards lie in the one under way, s plays next -/
def gOk (H : Nat → Nat → Bool) (s k t : Nat) : Prop := s < 4 ∧ k < 4 ∧ 1 ≤ t ∧ ∀ j, j < 4 → hN H ((s + j) % 4) = if j < 4 - k then t else t - 1
theorem cnt_pos {p : Nat → Bool} : ∀ {n : Nat}, 0 < cnt p n → ∃ i, i < n ∧ p i = true
  | 0, h => by simp [cnt] at h
  | n + 1, h => by
    unfold cnt at h
    by_cases hp : p n = true
    · exact ⟨n, Nat.lt_succ_self n, hp⟩
    · rw [if_neg hp] at h
      obtain ⟨i, h1, h2⟩ := cnt_pos (n := n) (by omega)
      exact ⟨i, by omega, h2⟩
theorem cnt_congr {p q : Nat → Bool} : ∀ {n : Nat}, (∀ i, i < n → p i = q i) → cnt p n = cnt q n
  | 0, _ => rfl
  | n + 1, h => by
    unfold cnt
    rw [cnt_congr (n := n) (fun i hi => h i (by omega)), h n (by omega)]
theorem cnt_rm {p q : Nat → Bool} : ∀ {n c : Nat}, c < n → p c = true → (∀ i, i < n → q i = if i = c then false else p i) → cnt q n + 1 = cnt p n
  | 0, c, h, _, _ => by omega
  | n + 1, c, h, hp, hq => by
    unfold cnt
    by_cases hc : c = n
    · subst hc
      rw [hq c (by omega), if_pos rfl, hp]
      rw [cnt_congr (p := q) (q := p) (fun i hi => by rw [hq i (by omega), if_neg (by omega)])]
      simp
    · have e : q n = p n := by rw [hq n (by omega), if_neg (fun z => hc z.symm)]
      rw [e]
      have := cnt_rm (n := n) (c := c) (p := p) (q := q) (by omega) hp (fun i hi => hq i (by omega))
      omega
theorem hN_rm {H : Nat → Nat → Bool} {s c : Nat} (hc : c < 52) (h : H s c = true) : hN (gRm H s c) s + 1 = hN H s :=
  cnt_rm hc h (fun i hi => by unfold gRm; by_cases q : i = c <;> simp [q])
theorem hN_ne {H : Nat → Nat → Bool} {s c s' : Nat} (h : s' ≠ s) : hN (gRm H s c) s' = hN H s' :=
  cnt_congr (fun i hi => by unfold gRm; rw [if_neg (fun q => h q.1)])
theorem gLg_some {H : Nat → Nat → Bool} {s : Nat} (led : Option Nat) (h : 0 < hN H s) : ∃ c, gLg H s led c := by
  obtain ⟨c, h1, h2⟩ := cnt_pos h
  cases led with
  | none => exact ⟨c, h1, h2, fun q hq => by cases hq⟩
  | some q =>
    by_cases hf : ∃ c', c' < 52 ∧ H s c' = true ∧ c' / 13 = q
    · obtain ⟨c', h3, h4, h5⟩ := hf
      exact ⟨c', h3, h4, fun q' hq => by cases hq; exact Or.inl h5⟩
    · exact ⟨c, h1, h2, fun q' hq => by cases hq; exact Or.inr (fun c' h3 h4 h5 => hf ⟨c', h3, h4, h5⟩)⟩
theorem gOk.next {H : Nat → Nat → Bool} {s k t c : Nat} (h : gOk H s k t) (hk : k < 3) (hc : c < 52) (hh : H s c = true) : gOk (gRm H s c) ((s + 1) % 4) (k + 1) t := by
  obtain ⟨h1, h2, h3, h4⟩ := h
  refine ⟨Nat.mod_lt _ (by omega), by omega, h3, fun j hj => ?_⟩
  by_cases hj3 : j = 3
  · subst hj3
    have e : ((s + 1) % 4 + 3) % 4 = s := by omega
    rw [e, if_neg (by omega)]
    have := hN_rm hc hh
    have h0 := h4 0 (by omega)
    rw [show (s + 0) % 4 = s by omega, if_pos (by omega)] at h0
    omega
  · have e : ((s + 1) % 4 + j) % 4 = (s + (j + 1)) % 4 := by omega
    rw [e, hN_ne (by omega), h4 (j + 1) (by omega)]
    by_cases q : j < 4 - (k + 1)
    · rw [if_pos q, if_pos (by omega)]
    · rw [if_neg q, if_neg (by omega)]
theorem gOk.trick {H : Nat → Nat → Bool} {s t c w : Nat} (h : gOk H s 3 t) (ht : 2 ≤ t) (hw : w < 4) (hc : c < 52) (hh : H s c = true) : gOk (gRm H s c) w 0 (t - 1) := by
  obtain ⟨h1, h2, h3, h4⟩ := h
  refine ⟨hw, by omega, by omega, fun j hj => ?_⟩
  rw [if_pos (by omega)]
  have key : ∀ x, x < 4 → hN (gRm H s c) x = t - 1 := by
    intro x hx
    by_cases q : x = s
    · subst q
      have := hN_rm hc hh
      have h0 := h4 0 (by omega)
      rw [show (x + 0) % 4 = x by omega, if_pos (by omega)] at h0
      omega
    · rw [hN_ne q]
      obtain ⟨j, hj, e⟩ : ∃ j, j < 4 ∧ (s + j) % 4 = x := ⟨(x + 4 - s) % 4, by omega, by omega⟩
      rw [← e, h4 j hj, if_neg (by omega)]
  exact key _ (by omega)
theorem gOk.pos {H : Nat → Nat → Bool} {s k t : Nat} (h : gOk H s k t) : 0 < hN H s := by
  have h0 := h.2.2.2 0 (by omega)
  rw [show (s + 0) % 4 = s by have := h.1; omega, if_pos (by have := h.2.1; omega)] at h0
  have := h.2.2.1
  omega
theorem ite01 (a b : Nat) : (if a = b then 1 else 0 : Nat) ≤ 1 := by split <;> omega
/-- no more than the tricks that are left -/
theorem gw_le (tr sd : Nat) : ∀ (n need t : Nat) (H : Nat → Nat → Bool) (s k : Nat) (led : Option Nat) (top w : Nat), n + k = 4 * t → gOk H s k t → w < 4 → gw tr sd n need H s k led top w → need ≤ t
  | 0, need, t, H, s, k, led, top, w, hn, hok, hw, h => by
    have : need = 0 := h
    omega
  | n + 1, need, t, H, s, k, led, top, w, hn, hok, hw, h => by
    rw [gw_s] at h
    have key : ∃ c, gLg H s led c ∧ gCh tr sd n need H s k led top w c := by
      split at h
      · exact h
      · obtain ⟨c, hc⟩ := gLg_some led hok.pos
        exact ⟨c, hc, h c hc⟩
    obtain ⟨c, hc, hch⟩ := key
    have h2 := hok.2.1
    have h1 := hok.1
    unfold gCh at hch
    by_cases hk : k = 3
    · subst hk
      rw [if_pos rfl] at hch
      by_cases ht : t = 1
      · subst ht
        have hn0 : n = 0 := by omega
        subst hn0
        have e : need - (if (if gTk 3 c top tr then s else w) % 2 = sd then 1 else 0) = 0 := hch
        have h01 := ite01 ((if gTk 3 c top tr then s else w) % 2) sd
        omega
      · have hlt : (if gTk 3 c top tr then s else w) < 4 := by split <;> omega
        have := gw_le tr sd n _ (t - 1) _ _ _ _ _ _ (by omega) (hok.trick (by omega) hlt hc.1 hc.2.1) (by omega) hch
        have h01 := ite01 ((if gTk 3 c top tr then s else w) % 2) sd
        omega
    · rw [if_neg hk] at hch
      have hlt : (if gTk k c top tr then s else w) < 4 := by split <;> omega
      exact gw_le tr sd n need t _ _ _ _ _ _ (by omega) (hok.next (by omega) hc.1 hc.2.1) hlt hch
/-- at least none -/
theorem gw_0 (tr sd : Nat) : ∀ (n t : Nat) (H : Nat → Nat → Bool) (s k : Nat) (led : Option Nat) (top w : Nat), n + k = 4 * t → gOk H s k t → w < 4 → gw tr sd n 0 H s k led top w
  | 0, t, H, s, k, led, top, w, hn, hok, hw => rfl
  | n + 1, t, H, s, k, led, top, w, hn, hok, hw => by
    rw [gw_s]
    have key : ∀ c, gLg H s led c → gCh tr sd n 0 H s k led top w c := by
      intro c hc
      have h2 := hok.2.1
      have h1 := hok.1
      unfold gCh
      by_cases hk : k = 3
      · subst hk
        rw [if_pos rfl, Nat.zero_sub]
        by_cases ht : t = 1
        · have hn0 : n = 0 := by omega
          subst hn0; rfl
        · have hlt : (if gTk 3 c top tr then s else w) < 4 := by split <;> omega
          exact gw_0 tr sd n (t - 1) _ _ _ _ _ _ (by omega) (hok.trick (by omega) hlt hc.1 hc.2.1) (by omega)
      · rw [if_neg hk]
        have hlt : (if gTk k c top tr then s else w) < 4 := by split <;> omega
        exact gw_0 tr sd n t _ _ _ _ _ _ (by omega) (hok.next (by omega) hc.1 hc.2.1) hlt
    split
    · obtain ⟨c, hc⟩ := gLg_some led hok.pos
      exact ⟨c, hc, key c hc⟩
    · exact key
/-- r is how many the declarer's side wins -/
def gVal (tr sd n : Nat) (H : Nat → Nat → Bool) (s k : Nat) (led : Option Nat) (top w r : Nat) : Prop := ∀ need, gw tr sd n need H s k led top w ↔ need ≤ r
def gVc (tr sd n : Nat) (H : Nat → Nat → Bool) (s k : Nat) (led : Option Nat) (top w c r : Nat) : Prop := ∀ need, gCh tr sd n need H s k led top w c ↔ need ≤ r
theorem gVal_inj {tr sd n : Nat} {H : Nat → Nat → Bool} {s k : Nat} {led : Option Nat} {top w r r' : Nat} (h : gVal tr sd n H s k led top w r) (h' : gVal tr sd n H s k led top w r') : r = r' :=
  Nat.le_antisymm ((h' r).mp ((h r).mpr (Nat.le_refl r))) ((h r').mp ((h' r').mpr (Nat.le_refl r')))
/-- the hands alone matter, and only the cards -/
theorem gw_congr (tr sd : Nat) : ∀ (n need : Nat) (H H' : Nat → Nat → Bool) (s k : Nat) (led : Option Nat) (top w : Nat), s < 4 → w < 4 → (∀ x c, x < 4 → c < 52 → H x c = H' x c) → gw tr sd n need H s k led top w → gw tr sd n need H' s k led top w
  | 0, need, H, H', s, k, led, top, w, _, _, _, h => h
  | n + 1, need, H, H', s, k, led, top, w, hs, hw, he, h => by
    rw [gw_s] at h ⊢
    have hl : ∀ c, gLg H s led c ↔ gLg H' s led c := by
      intro c
      unfold gLg
      constructor
      · rintro ⟨a, b, d⟩
        refine ⟨a, by rw [← he s c hs a]; exact b, fun q hq => (d q hq).imp id (fun z c' h1 h2 => z c' h1 (by rw [he s c' hs h1]; exact h2))⟩
      · rintro ⟨a, b, d⟩
        refine ⟨a, by rw [he s c hs a]; exact b, fun q hq => (d q hq).imp id (fun z c' h1 h2 => z c' h1 (by rw [← he s c' hs h1]; exact h2))⟩
    have hr : ∀ c x c', x < 4 → c' < 52 → gRm H s c x c' = gRm H' s c x c' := fun c x c' h1 h2 => by unfold gRm; rw [he x c' h1 h2]
    have hc : ∀ c, gCh tr sd n need H s k led top w c → gCh tr sd n need H' s k led top w c := by
      intro c h
      unfold gCh at h ⊢
      have hlt : (if gTk k c top tr then s else w) < 4 := by split <;> omega
      split
      · rename_i q; rw [if_pos q] at h
        exact gw_congr tr sd n _ _ _ _ _ _ _ _ hlt (by omega) (hr c) h
      · rename_i q; rw [if_neg q] at h
        exact gw_congr tr sd n _ _ _ _ _ _ _ _ (Nat.mod_lt _ (by omega)) hlt (hr c) h
    split
    · rename_i q; rw [if_pos q] at h
      obtain ⟨c, h1, h2⟩ := h
      exact ⟨c, (hl c).mp h1, hc c h2⟩
    · rename_i q; rw [if_neg q] at h
      exact fun c h1 => hc c (h c ((hl c).mpr h1))
end
section
/-! ===== the reference: taken, search ===== -/
theorem btF_N {c t tr : Nat} (hc : c < 52) (ht : t < 52) (htr : tr < 5) : btF (nI c) (nI t) (nI tr) = (if c / 13 = t / 13 then decide (t < c) else decide (c / 13 = tr)) := by
  unfold btF
  rw [pk_div (by omega) (by omega) (by omega), pk_div (by omega) (by omega) (by omega)]
  by_cases h : c / 13 = t / 13
  · rw [if_pos h, if_pos (by rw [h])]
    by_cases q : t < c
    · rw [decide_eq_true q, decide_eq_true ((nI_ltI (by omega) (by omega)).mpr q)]
    · rw [decide_eq_false q, decide_eq_false (fun z => q ((nI_ltI (by omega) (by omega)).mp z))]
  · rw [if_neg h, if_neg (fun z => h ((nI_eq (by omega) (by omega)).mp z))]
    by_cases q : c / 13 = tr
    · rw [decide_eq_true q, q]; simp
    · rw [decide_eq_false q, decide_eq_false (fun z => q ((nI_eq (by omega) (by omega)).mp z))]
set_option maxRecDepth 20000 in
theorem r_taken_l {pr : aC} {d : Nat} {u : rS} (ld mn : Nat) (g : Nat → Int32) (tr : Int32) (hg : u.2 49 = g) (htr : u.1 29 = tr) (hmn : mn ≤ 3) {Q : Option Value → rS → Prop} (hQ : rB pr (d + 2) cd_204 (some .int) Q 23 [some (.ref 25), some (.int (nI ld)), some (.int (nI (mn + 1))), some (.int (nI (bst g tr 0 mn))), some (.int (nI (mn + 1)))] [] u) : ∀ (zz : Nat) (x : Nat) (hm : mn - x < zz) (hle : x ≤ mn), rB pr (d + 2) cd_204 (Option.some Jvm.ClassFile.FieldType.int) Q 4 [some (.ref 25), some (.int (nI ld)), some (.int (nI (mn + 1))), some (.int (nI (bst g tr 0 x))), some (.int (nI (x + 1)))] [] u := by
  intro zz
  induction zz with
  | zero => intro x hm hle; exact absurd hm (by omega)
  | succ zz ih =>
    intro x hm hle
    refine g_load rfl rfl rfl trivial ?_
    refine g_load rfl rfl rfl trivial ?_
    refine g_icmp_ge rfl (fun c1 => ?_) (fun c1 => ?_)
    · rw [nI_leI (by omega) (by omega)] at c1
      have hx : x = mn := by omega
      subst hx
      exact hQ
    · rw [nI_leI (by omega) (by omega)] at c1
      have hbl := bst_le g tr 0 x
      refine g_load rfl rfl rfl trivial ?_
      refine r_getf rfl rfl ?_
      refine g_load rfl rfl rfl trivial ?_
      refine r_ia (x + 1) rfl ⟨by decide, by decide, rfl⟩ rfl (by show _ < 4; omega) ?_
      refine g_load rfl rfl rfl trivial ?_
      refine r_getf rfl rfl ?_
      refine g_load rfl rfl rfl trivial ?_
      refine r_ia (bst g tr 0 x) rfl ⟨by decide, by decide, rfl⟩ rfl (by show _ < 4; omega) ?_
      refine g_load rfl rfl rfl trivial ?_
      refine r_getf rfl rfl ?_
      rw [hg, htr]
      change gB RF rFr _ _ _ _ _ _ _ _ _ _ _ _
      rw [show g (x + 1) = g (0 + (x + 1)) by rw [Nat.zero_add], show g (bst g tr 0 x) = g (0 + bst g tr 0 x) by rw [Nat.zero_add]]
      refine g_statI [.int (g (0 + (x + 1))), .int (g (0 + bst g tr 0 x)), .int tr] rFr_tr rfl rfl rfl (Nat.le_of_ble_eq_true rfl) (Nat.le_refl _) (Nat.le_refl _) (r_beats (g (0 + (x + 1))) (g (0 + bst g tr 0 x)) tr ⟨_, rfl, ?_⟩)
      refine g_if_eq rfl (fun c2 => ?_) (fun c2 => ?_)
      · rw [bI_eq] at c2
        have hb1 : bst g tr 0 (x + 1) = bst g tr 0 x := by show (if btF (g (0 + (x + 1))) (g (0 + bst g tr 0 x)) tr then x + 1 else bst g tr 0 x) = _; rw [if_neg (by rw [c2]; decide)]
        rw [← hb1]
        refine g_iinc (nI (x + 1 + 1)) [some (.ref 25), some (.int (nI ld)), some (.int (nI (mn + 1))), some (.int (nI (bst g tr 0 (x + 1)))), some (.int (nI (x + 1 + 1)))] rfl rfl (nI_1 (x + 1)) rfl ?_
        refine g_goto rfl ?_
        exact ih (x + 1) (by omega) (by omega)
      · rw [bI_ne] at c2
        have hb1 : bst g tr 0 (x + 1) = x + 1 := by show (if btF (g (0 + (x + 1))) (g (0 + bst g tr 0 x)) tr then x + 1 else bst g tr 0 x) = _; rw [if_pos c2]
        refine g_load rfl rfl rfl trivial ?_
        refine g_store [some (.ref 25), some (.int (nI ld)), some (.int (nI (mn + 1))), some (.int (nI (bst g tr 0 (x + 1)))), some (.int (nI (x + 1)))] rfl rfl trivial (Nat.le_of_ble_eq_true rfl) (by rw [hb1]; rfl) ?_
        refine g_iinc (nI (x + 1 + 1)) [some (.ref 25), some (.int (nI ld)), some (.int (nI (mn + 1))), some (.int (nI (bst g tr 0 (x + 1)))), some (.int (nI (x + 1 + 1)))] rfl rfl (nI_1 (x + 1)) rfl ?_
        refine g_goto rfl ?_
        exact ih (x + 1) (by omega) (by omega)
set_option maxRecDepth 20000 in
theorem r_taken {pr : aC} {d : Nat} {u : rS} (ld : Nat) (hld : ld < 4) {Q : Option Value → rS → Prop} (hQ : Q (some (.int (nI ((ld + bst (u.2 49) (u.1 29) 0 3) % 4)))) u) : rR pr (d + 2 + 1) 204 [.ref 25, .int (nI ld), .int (nI 4)] u Q := by
  refine gR_of mi_204 rFr_rf rfl (Nat.le_of_ble_eq_true rfl) ?_
  show rB pr (d + 2) cd_204 (Option.some Jvm.ClassFile.FieldType.int) Q 0 [some (.ref 25), some (.int (nI ld)), some (.int (nI 4)), none, none] [] u
  refine g_iconst (nI 0) rfl (by decide) ?_
  refine g_store [some (.ref 25), some (.int (nI ld)), some (.int (nI 4)), some (.int (nI 0)), none] rfl rfl trivial (Nat.le_of_ble_eq_true rfl) rfl ?_
  refine g_iconst (nI 1) rfl (by decide) ?_
  refine g_store [some (.ref 25), some (.int (nI ld)), some (.int (nI 4)), some (.int (nI 0)), some (.int (nI 1))] rfl rfl trivial (Nat.le_of_ble_eq_true rfl) rfl ?_
  refine r_taken_l ld 3 (u.2 49) (u.1 29) rfl rfl (by omega) ?_ 4 0 (by omega) (by omega)
  have hbl := bst_le (u.2 49) (u.1 29) 0 3
  refine g_load rfl rfl rfl trivial ?_
  refine g_load rfl rfl rfl trivial ?_
  refine g_iadd rfl ?_
  rw [nI_add]
  refine g_iconst (nI 4) rfl (by decide) ?_
  refine g_irem rfl (by decide) ?_
  rw [pk_rem (by omega) (by omega) (by omega)]
  exact g_vret rfl trivial ⟨rfl, rfl⟩ (Nat.le_refl _) (Nat.le_refl _) hQ
/-- the sixteen places hold the hands H -/
def sRep (lf : Nat → Int32) (H : Nat → Nat → Bool) : Prop := (∀ s k, s < 4 → k < 4 → lf (4 * s + k) = -1 ∨ ∃ c, c < 52 ∧ lf (4 * s + k) = nI c ∧ H s c = true) ∧ (∀ s c, s < 4 → c < 52 → H s c = true → ∃ k, k < 4 ∧ lf (4 * s + k) = nI c) ∧ ∀ s k k' c, s < 4 → k < 4 → k' < 4 → c < 52 → lf (4 * s + k) = nI c → lf (4 * s + k') = nI c → k = k'
theorem sRep.rm {lf : Nat → Int32} {H : Nat → Nat → Bool} (h : sRep lf H) {s k c : Nat} (hs : s < 4) (hk : k < 4) (hc : c < 52) (he : lf (4 * s + k) = nI c) : sRep (upd lf (4 * s + k) (-1)) (gRm H s c) := by
  obtain ⟨h1, h2, h3⟩ := h
  have hm1 : ∀ c, c < 52 → ¬ (-1 : Int32) = nI c := fun c hc q => nI_m1 (by omega) q.symm
  refine ⟨fun s' k' hs' hk' => ?_, fun s' c' hs' hc' hh => ?_, fun s' k1 k2 c' hs' hk1 hk2 hc' e1 e2 => ?_⟩
  · unfold upd
    by_cases q : 4 * s' + k' = 4 * s + k
    · rw [if_pos q]; exact Or.inl rfl
    · rw [if_neg q]
      rcases h1 s' k' hs' hk' with z | ⟨c', z1, z2, z3⟩
      · exact Or.inl z
      · refine Or.inr ⟨c', z1, z2, ?_⟩
        unfold gRm
        rw [if_neg]
        · exact z3
        · rintro ⟨rfl, rfl⟩
          exact q (by rw [h3 s' k' k c' hs hk' hk hc z2 he])
  · unfold gRm at hh
    split at hh
    · cases hh
    · rename_i q
      obtain ⟨k', z1, z2⟩ := h2 s' c' hs' hc' hh
      refine ⟨k', z1, ?_⟩
      unfold upd
      rw [if_neg]
      · exact z2
      · intro e
        have es : s' = s := by omega
        have ek : k' = k := by omega
        subst es; subst ek
        rw [he] at z2
        exact q ⟨rfl, ((nI_eq (by omega) (by omega)).mp z2).symm⟩
  · unfold upd at e1 e2
    split at e1
    · exact absurd e1 (hm1 c' hc')
    · split at e2
      · exact absurd e2 (hm1 c' hc')
      · exact h3 s' k1 k2 c' hs' hk1 hk2 hc' e1 e2
/-- the trick under way: mn cards g from ld on, trumps tr -/
def ledF (g : Nat → Int32) (mn : Nat) : Option Nat := if mn = 0 then none else some (cN g 0 / 13)
def topF (g : Nat → Int32) (tr mn : Nat) : Nat := if mn = 0 then 0 else cN g (bst g (nI tr) 0 (mn - 1))
def winF (g : Nat → Int32) (tr ld mn : Nat) : Nat := if mn = 0 then 0 else (ld + bst g (nI tr) 0 (mn - 1)) % 4
/-- what search answers -/
def sVal (tr sd : Nat) (H : Nat → Nat → Bool) (g : Nat → Int32) (ld mn t r : Nat) : Prop := if mn = 4 then ∀ need, gw tr sd (4 * (t - 1)) (need - (if winF g tr ld 4 % 2 = sd then 1 else 0)) H (winF g tr ld 4) 0 none 0 0 ↔ need ≤ r else gVal tr sd (4 * t - mn) H ((ld + mn) % 4) mn (ledF g mn) (topF g tr mn) (winF g tr ld mn) r
def sOk (H : Nat → Nat → Bool) (ld mn t : Nat) : Prop := ld < 4 ∧ mn ≤ 4 ∧ 1 ≤ t ∧ t ≤ 4 ∧ (mn < 4 → gOk H ((ld + mn) % 4) mn t) ∧ (mn = 4 → ∀ s, s < 4 → hN H s = t - 1)
theorem sOk_0 {H : Nat → Nat → Bool} {ld t w : Nat} (h : sOk H ld 4 t) (ht : 2 ≤ t) (hw : w < 4) : sOk H w 0 (t - 1) := by
  obtain ⟨h1, h2, h3, h4, h5, h6⟩ := h
  refine ⟨hw, by omega, by omega, by omega, fun _ => ⟨by omega, by omega, by omega, fun j hj => ?_⟩, fun q => by omega⟩
  rw [if_pos (by omega)]
  exact h6 rfl _ (by omega)
theorem sOk_n {H : Nat → Nat → Bool} {ld mn t c : Nat} (h : sOk H ld mn t) (hm : mn < 4) (hc : c < 52) (hh : H ((ld + mn) % 4) c = true) : sOk (gRm H ((ld + mn) % 4) c) ld (mn + 1) t := by
  obtain ⟨h1, h2, h3, h4, h5, h6⟩ := h
  have hg := h5 hm
  refine ⟨h1, by omega, h3, h4, fun q => ?_, fun q s hs => ?_⟩
  · have := hg.next (by omega) hc hh
    rw [show ((ld + mn) % 4 + 1) % 4 = (ld + (mn + 1)) % 4 by omega] at this
    exact this
  · have hm3 : mn = 3 := by omega
    subst hm3
    by_cases e : s = (ld + 3) % 4
    · subst e
      have a := hN_rm hc hh
      have b := hg.2.2.2 0 (by omega)
      rw [show ((ld + 3) % 4 + 0) % 4 = (ld + 3) % 4 by omega, if_pos (by omega)] at b
      omega
    · rw [hN_ne e]
      obtain ⟨j, hj, ej⟩ : ∃ j, j < 4 ∧ ((ld + 3) % 4 + j) % 4 = s := ⟨(s + 4 - (ld + 3) % 4) % 4, by omega, by omega⟩
      have b := hg.2.2.2 j hj
      rw [ej, if_neg (by omega)] at b
      exact b
theorem cN_nI {g : Nat → Int32} {i c : Nat} (h : g i = nI c) (hc : c < 52) : cN g i = c := by unfold cN; rw [h, nI_clamp (by omega)]
theorem bst_congr {g g' : Nat → Int32} {tr : Int32} : ∀ {k : Nat}, (∀ j, j ≤ k → g j = g' j) → bst g tr 0 k = bst g' tr 0 k
  | 0, _ => rfl
  | k + 1, h => by
    have e := bst_congr (g := g) (g' := g') (tr := tr) (k := k) (fun j hj => h j (by omega))
    have hb := bst_le g' tr 0 k
    unfold bst
    rw [e, h (0 + (k + 1)) (by omega), h (0 + bst g' tr 0 k) (by omega)]
/-- the value of a card is what search answers behind it -/
theorem sVal_ch {tr sd : Nat} {H : Nat → Nat → Bool} {g g' : Nat → Int32} {ld mn t r c : Nat} (hld : ld < 4) (hm : mn < 4) (htr : tr < 5) (hck : ∀ j, j < mn → ∃ c, c < 52 ∧ g j = nI c) (hc : c < 52) (hg : ∀ j, j < mn → g' j = g j) (hgc : g' mn = nI c) (h : sVal tr sd (gRm H ((ld + mn) % 4) c) g' ld (mn + 1) t r) : gVc tr sd (4 * t - mn - 1) H ((ld + mn) % 4) mn (ledF g mn) (topF g tr mn) (winF g tr ld mn) c r := by
  have key : bst g' (nI tr) 0 mn = (if gTk mn c (topF g tr mn) tr then mn else bst g (nI tr) 0 (mn - 1)) ∧ (gTk mn c (topF g tr mn) tr = false → mn ≠ 0) := by
    cases mn with
    | zero => exact ⟨rfl, fun q => by simp [gTk] at q⟩
    | succ k =>
      refine ⟨?_, fun _ => by omega⟩
      have e : bst g' (nI tr) 0 k = bst g (nI tr) 0 k := bst_congr (fun j hj => hg j (by omega))
      have hb := bst_le g (nI tr) 0 k
      obtain ⟨c2, hc2, e2⟩ := hck (bst g (nI tr) 0 k) (by omega)
      have et : topF g tr (k + 1) = c2 := by
        unfold topF
        rw [if_neg (by omega), Nat.add_sub_cancel]
        exact cN_nI e2 hc2
      rw [et]
      show (if btF (g' (0 + (k + 1))) (g' (0 + bst g' (nI tr) 0 k)) (nI tr) then k + 1 else bst g' (nI tr) 0 k) = _
      rw [e, Nat.zero_add, Nat.zero_add, hgc, hg _ (by omega), e2, btF_N hc hc2 htr]
      unfold gTk
      rw [show decide (k + 1 = 0) = false by simp, Bool.false_or]
      rfl
  have hw : winF g' tr ld (mn + 1) = (if gTk mn c (topF g tr mn) tr then (ld + mn) % 4 else winF g tr ld mn) := by
    unfold winF
    rw [if_neg (by omega), Nat.add_sub_cancel, key.1]
    by_cases q : gTk mn c (topF g tr mn) tr = true
    · rw [if_pos q, if_pos q]
    · rw [if_neg q, if_neg q, if_neg (key.2 (by simpa using q))]
  have htop : topF g' tr (mn + 1) = (if gTk mn c (topF g tr mn) tr then c else topF g tr mn) := by
    rw [show topF g' tr (mn + 1) = cN g' (bst g' (nI tr) 0 mn) by unfold topF; rw [if_neg (by omega), Nat.add_sub_cancel], key.1]
    by_cases q : gTk mn c (topF g tr mn) tr = true
    · rw [if_pos q, if_pos q]; exact cN_nI hgc hc
    · rw [if_neg q, if_neg q]
      have hz := key.2 (by simpa using q)
      have hb := bst_le g (nI tr) 0 (mn - 1)
      rw [show topF g tr mn = cN g (bst g (nI tr) 0 (mn - 1)) by unfold topF; rw [if_neg hz]]
      unfold cN
      rw [hg _ (by omega)]
  intro need
  unfold gCh
  by_cases h3 : mn = 3
  · subst h3
    unfold sVal at h
    rw [if_pos rfl] at h
    rw [if_pos rfl, ← hw, show 4 * t - 3 - 1 = 4 * (t - 1) by omega]
    exact h need
  · unfold sVal at h
    rw [if_neg (by omega)] at h
    rw [if_neg h3, ← hw, ← htop, show 4 * t - mn - 1 = 4 * t - (mn + 1) by omega, show ((ld + mn) % 4 + 1) % 4 = (ld + (mn + 1)) % 4 by omega]
    have hl : some ((ledF g mn).getD (c / 13)) = ledF g' (mn + 1) := by
      unfold ledF
      rw [if_neg (by omega : ¬ mn + 1 = 0)]
      by_cases hz : mn = 0
      · subst hz
        rw [if_pos rfl, cN_nI hgc hc]; rfl
      · rw [if_neg hz]
        unfold cN
        rw [hg 0 (by omega)]; rfl
    rw [hl]
    exact h need
end
section
/-! ===== the reference: search ===== -/
/-- what search leaves: the places as they were, and the cards ahead in the trick -/
def sPost (u v : rS) (mn : Nat) : Prop := v.1 = u.1 ∧ (∀ a, a ≠ 48 → a ≠ 49 → v.2 a = u.2 a) ∧ (∀ j, j < 16 → v.2 48 j = u.2 48 j) ∧ ∀ j, j < mn → v.2 49 j = u.2 49 j
theorem sPost.rf (u : rS) (mn : Nat) : sPost u u mn := ⟨rfl, fun _ _ _ => rfl, fun _ _ => rfl, fun _ _ => rfl⟩
/-- what search needs -/
def sPre (u : rS) (H : Nat → Nat → Bool) (tr sd ld mn t : Nat) : Prop := u.1 29 = nI tr ∧ u.1 30 = nI sd ∧ tr < 5 ∧ sd < 2 ∧ sRep (u.2 48) H ∧ sOk H ld mn t ∧ ∀ j, j < mn → ∃ c, c < 52 ∧ u.2 49 j = nI c
theorem sRep_congr {f g : Nat → Int32} {H : Nat → Nat → Bool} (h : sRep f H) (e : ∀ j, j < 16 → g j = f j) : sRep g H := by
  obtain ⟨h1, h2, h3⟩ := h
  refine ⟨fun s k hs hk => ?_, fun s c hs hc hh => ?_, fun s k k' c hs hk hk' hc e1 e2 => ?_⟩
  · rw [e _ (by omega)]; exact h1 s k hs hk
  · obtain ⟨k, z1, z2⟩ := h2 s c hs hc hh
    exact ⟨k, z1, by rw [e _ (by omega)]; exact z2⟩
  · rw [e _ (by omega)] at e1 e2; exact h3 s k k' c hs hk hk' hc e1 e2
/-- whether a place of seat s holds a card of the suit that was led -/
def flQ (f g : Nat → Int32) (s k : Nat) : Bool := decide (¬ f (4 * s + k) = -1 ∧ f (4 * s + k) / nI 13 = g 0 / nI 13)
def flF (f g : Nat → Int32) (s mn : Nat) : Bool := decide (0 < mn) && anyN (flQ f g s) 4
set_option maxRecDepth 20000 in
theorem r_search_f {pr : aC} {d : Nat} {u : rS} (ld mn t s : Nat) (o5 o6 : Int32) (hs : s < 4) (hmn : mn < 4) {Q : Option Value → rS → Prop} (hQ : ∀ k8, rB pr (d + 2) cd_205 (some .int) Q 133 [some (.ref 25), some (.int (nI ld)), some (.int (nI mn)), some (.int (nI t)), some (.int (nI s)), some (.int o5), some (.int o6), some (.int (bI (flF (u.2 48) (u.2 49) s mn))), some (.int k8), none, none] [] u) : ∀ (zz : Nat) (x : Nat) (hm : 4 - x < zz) (hle : x ≤ 4), rB pr (d + 2) cd_205 (Option.some Jvm.ClassFile.FieldType.int) Q 99 [some (.ref 25), some (.int (nI ld)), some (.int (nI mn)), some (.int (nI t)), some (.int (nI s)), some (.int o5), some (.int o6), some (.int (bI (decide (0 < mn) && anyN (flQ (u.2 48) (u.2 49) s) x))), some (.int (nI (4 * s + x))), none, none] [] u := by
  intro zz
  induction zz with
  | zero => intro x hm hle; exact absurd hm (by omega)
  | succ zz ih =>
    intro x hm hle
    refine g_load rfl rfl rfl trivial ?_
    refine g_iconst (nI 4) rfl (by decide) ?_
    refine g_load rfl rfl rfl trivial ?_
    refine g_imul rfl ?_
    refine g_iconst (nI 4) rfl (by decide) ?_
    refine g_iadd rfl ?_
    rw [pk_mul, nI_add]
    refine g_icmp_ge rfl (fun c1 => ?_) (fun c1 => ?_)
    · rw [nI_leI (by omega) (by omega)] at c1
      have hx : x = 4 := by omega
      subst hx
      exact hQ _
    · rw [nI_leI (by omega) (by omega)] at c1
      refine g_load rfl rfl rfl trivial ?_
      refine g_if_le rfl (fun c2 => ?_) (fun c2 => ?_)
      · rw [← nI_0, nI_leI (by omega) (by omega)] at c2
        have h0 : decide (0 < mn) = false := decide_eq_false (by omega)
        have hQ := hQ (nI (4 * s + x))
        unfold flF at hQ
        rw [h0] at hQ ⊢
        exact hQ
      · rw [← nI_0, nI_leI (by omega) (by omega)] at c2
        have h0 : decide (0 < mn) = true := decide_eq_true (by omega)
        rw [h0, Bool.true_and]
        refine g_load rfl rfl rfl trivial ?_
        have K3 : ∀ e3 : Int32, e3 = bI (anyN (flQ (u.2 48) (u.2 49) s) (x + 1)) → rB pr (d + 2) cd_205 (Option.some Jvm.ClassFile.FieldType.int) Q 130 [some (.ref 25), some (.int (nI ld)), some (.int (nI mn)), some (.int (nI t)), some (.int (nI s)), some (.int o5), some (.int o6), some (.int (bI (anyN (flQ (u.2 48) (u.2 49) s) x))), some (.int (nI (4 * s + x))), none, none] [.int e3] u := by
          intro e3 he3
          subst he3
          refine g_store [some (.ref 25), some (.int (nI ld)), some (.int (nI mn)), some (.int (nI t)), some (.int (nI s)), some (.int o5), some (.int o6), some (.int (bI (anyN (flQ (u.2 48) (u.2 49) s) (x + 1)))), some (.int (nI (4 * s + x))), none, none] rfl rfl trivial (Nat.le_of_ble_eq_true rfl) rfl ?_
          refine g_iinc (nI (4 * s + (x + 1))) [some (.ref 25), some (.int (nI ld)), some (.int (nI mn)), some (.int (nI t)), some (.int (nI s)), some (.int o5), some (.int o6), some (.int (bI (anyN (flQ (u.2 48) (u.2 49) s) (x + 1)))), some (.int (nI (4 * s + (x + 1)))), none, none] rfl rfl (nI_1 (4 * s + x)) rfl ?_
          refine g_goto rfl ?_
          have K := ih (x + 1) (by omega) (by omega)
          rw [h0, Bool.true_and] at K
          exact K
        refine g_if_ne rfl (fun c3 => ?_) (fun c3 => ?_)
        · rw [bI_ne] at c3
          have ha : anyN (flQ (u.2 48) (u.2 49) s) (x + 1) = true := by simp [anyN, c3]
          refine g_iconst (nI 1) rfl (by decide) ?_
          refine g_goto rfl ?_
          exact K3 _ (by rw [ha]; rfl)
        · rw [bI_eq] at c3
          have hany := c3
          refine g_load rfl rfl rfl trivial ?_
          refine r_getf rfl rfl ?_
          refine g_load rfl rfl rfl trivial ?_
          refine r_ia (4 * s + x) rfl ⟨by decide, by decide, rfl⟩ rfl (by show _ < 16; omega) ?_
          refine g_iconst (-1) rfl (by decide) ?_
          refine g_icmp_eq rfl (fun c4 => ?_) (fun c4 => ?_)
          · have ha : anyN (flQ (u.2 48) (u.2 49) s) (x + 1) = false := by simp [anyN, hany, flQ, c4]
            refine g_iconst (nI 0) rfl (by decide) ?_
            exact K3 _ (by rw [ha]; rfl)
          · refine g_load rfl rfl rfl trivial ?_
            refine r_getf rfl rfl ?_
            refine g_load rfl rfl rfl trivial ?_
            refine r_ia (4 * s + x) rfl ⟨by decide, by decide, rfl⟩ rfl (by show _ < 16; omega) ?_
            refine g_statI [.int (u.2 48 (4 * s + x))] rFr_tr rfl rfl rfl (Nat.le_of_ble_eq_true rfl) (Nat.le_refl _) (Nat.le_refl _) (r_suit (u.2 48 (4 * s + x)) ⟨_, rfl, ?_⟩)
            refine g_load rfl rfl rfl trivial ?_
            refine r_getf rfl rfl ?_
            refine g_iconst (nI 0) rfl (by decide) ?_
            refine r_ia (0) rfl ⟨by decide, by decide, rfl⟩ rfl (by decide) ?_
            refine g_statI [.int (u.2 49 0)] rFr_tr rfl rfl rfl (Nat.le_of_ble_eq_true rfl) (Nat.le_refl _) (Nat.le_refl _) (r_suit (u.2 49 0) ⟨_, rfl, ?_⟩)
            refine g_icmp_ne rfl (fun c5 => ?_) (fun c5 => ?_)
            · have ha : anyN (flQ (u.2 48) (u.2 49) s) (x + 1) = false := by simp [anyN, hany, flQ, c5]
              refine g_iconst (nI 0) rfl (by decide) ?_
              exact K3 _ (by rw [ha]; rfl)
            · have ha : anyN (flQ (u.2 48) (u.2 49) s) (x + 1) = true := by simp [anyN, flQ, *]
              refine g_iconst (nI 1) rfl (by decide) ?_
              refine g_goto rfl ?_
              exact K3 _ (by rw [ha]; rfl)
end
section
/-! ===== the reference: search, its main loop, and the whole ===== -/
/-- a place's card that may be played -/
def lgS (f : Nat → Int32) (H : Nat → Nat → Bool) (s : Nat) (led : Option Nat) (k c : Nat) : Prop := f (4 * s + k) = nI c ∧ gLg H s led c
/-- what the loop knows behind x places: b the best yet -/
def sInv (f : Nat → Int32) (H : Nat → Nat → Bool) (s : Nat) (led : Option Nat) (V : Nat → Nat → Prop) (ours : Bool) (t : Nat) (b : Option Nat) (x : Nat) : Prop := match b with
  | none => ∀ k c, k < x → ¬ lgS f H s led k c
  | some r => r ≤ t ∧ (∃ c, gLg H s led c ∧ V c r) ∧ ∀ k c, k < x → lgS f H s led k c → ∃ rc, V c rc ∧ (if ours then rc ≤ r else r ≤ rc)
theorem fl_iff {f g : Nat → Int32} {H : Nat → Nat → Bool} {s mn c : Nat} (hs : s < 4) (hr : sRep f H) (hck : ∀ j, j < mn → ∃ c, c < 52 ∧ g j = nI c) (hc : c < 52) (hh : H s c = true) : gLg H s (ledF g mn) c ↔ (flF f g s mn = false ∨ nI c / nI 13 = g 0 / nI 13) := by
  by_cases hz : mn = 0
  · subst hz
    have h0 : flF f g s 0 = false := by simp [flF]
    exact ⟨fun _ => Or.inl h0, fun _ => ⟨hc, hh, fun q hq => by simp [ledF] at hq⟩⟩
  · obtain ⟨c0, hc0, e0⟩ := hck 0 (by omega)
    have hl : ledF g mn = some (c0 / 13) := by unfold ledF; rw [if_neg hz, cN_nI e0 hc0]
    have hd : ∀ x, x < 52 → (nI x / nI 13 = g 0 / nI 13 ↔ x / 13 = c0 / 13) := by
      intro x hx
      rw [e0, pk_div (by omega) (by omega) (by omega), pk_div (by omega) (by omega) (by omega), nI_eq (by omega) (by omega)]
    have hf : flF f g s mn = true ↔ ∃ c', c' < 52 ∧ H s c' = true ∧ c' / 13 = c0 / 13 := by
      unfold flF
      rw [decide_eq_true (by omega : 0 < mn), Bool.true_and, anyN_iff]
      constructor
      · rintro ⟨k, hk, hq⟩
        simp only [flQ, decide_eq_true_eq] at hq
        rcases hr.1 s k hs hk with z | ⟨c', z1, z2, z3⟩
        · exact absurd z hq.1
        · exact ⟨c', z1, z3, (hd c' z1).mp (by rw [← z2]; exact hq.2)⟩
      · rintro ⟨c', z1, z2, z3⟩
        obtain ⟨k, hk, e⟩ := hr.2.1 s c' hs z1 z2
        refine ⟨k, hk, ?_⟩
        simp only [flQ, decide_eq_true_eq]
        rw [e]
        exact ⟨nI_m1 (by omega), (hd c' z1).mpr z3⟩
    rw [hl]
    constructor
    · intro h
      cases hb : flF f g s mn with
      | false => exact Or.inl rfl
      | true =>
        obtain ⟨c', z1, z2, z3⟩ := hf.mp hb
        rcases h.2.2 _ rfl with z | z
        · exact Or.inr ((hd c hc).mpr z)
        · exact absurd z3 (z c' z1 z2)
    · intro h
      refine ⟨hc, hh, fun q hq => ?_⟩
      cases hq
      rcases h with h | h
      · refine Or.inr (fun c' z1 z2 z3 => ?_)
        rw [hf.mpr ⟨c', z1, z2, z3⟩] at h
        cases h
      · exact Or.inl ((hd c hc).mp h)
/-- the loop's end gives the value -/
theorem sInv_end {tr sd n t : Nat} {f : Nat → Int32} {H : Nat → Nat → Bool} {s k : Nat} {led : Option Nat} {top w : Nat} {r : Nat} {ours : Bool} (hs : s < 4) (ho : ours = decide (s % 2 = sd)) (hr : sRep f H) (hok : gOk H s k t) (hw : w < 4) (hn : n + 1 + k = 4 * t)
    (h : sInv f H s led (gVc tr sd n H s k led top w) ours t (some r) 4 ∨ (r ≤ t ∧ (∃ c, gLg H s led c ∧ gVc tr sd n H s k led top w c r) ∧ r = if ours then t else 0)) : gVal tr sd (n + 1) H s k led top w r := by
  intro need
  have hex : ∃ c, gLg H s led c ∧ gVc tr sd n H s k led top w c r := by
    rcases h with h | h
    · exact h.2.1
    · exact h.2.1
  obtain ⟨c0, hc0, hv0⟩ := hex
  have hval : ∀ c, gLg H s led c → sInv f H s led (gVc tr sd n H s k led top w) ours t (some r) 4 → ∃ rc, gVc tr sd n H s k led top w c rc ∧ (if ours then rc ≤ r else r ≤ rc) := by
    intro c hc hi
    obtain ⟨k', hk', e⟩ := hr.2.1 s c hs hc.1 hc.2.1
    exact hi.2.2 k' c hk' ⟨e, hc⟩
  cases ours with
  | true =>
    have hs2 : s % 2 = sd := by simpa using ho.symm
    constructor
    · intro hg
      rcases h with h | h
      · rw [gw_s, if_pos hs2] at hg
        obtain ⟨c, hc, hch⟩ := hg
        obtain ⟨rc, h1, h2⟩ := hval c hc h
        have h2 : rc ≤ r := h2
        exact Nat.le_trans ((h1 need).mp hch) h2
      · have := gw_le tr sd (n + 1) need t H s k led top w hn hok hw hg
        have e : r = t := h.2.2
        omega
    · intro hle
      rw [gw_s, if_pos hs2]
      exact ⟨c0, hc0, (hv0 need).mpr hle⟩
  | false =>
    have hs2 : ¬ s % 2 = sd := by simpa using ho.symm
    constructor
    · intro hg
      rw [gw_s, if_neg hs2] at hg
      exact (hv0 need).mp (hg c0 hc0)
    · intro hle
      rcases h with h | h
      · rw [gw_s, if_neg hs2]
        intro c hc
        obtain ⟨rc, h1, h2⟩ := hval c hc h
        have h2 : r ≤ rc := h2
        exact (h1 need).mpr (Nat.le_trans hle h2)
      · have e : r = 0 := h.2.2
        have : need = 0 := by omega
        subst this
        exact gw_0 tr sd (n + 1) t H s k led top w hn hok hw
def bestN (ours : Bool) (b : Option Nat) (r : Nat) : Nat := match b with
  | none => r
  | some b => if ours then max b r else min b r
theorem sInv_step {f : Nat → Int32} {H : Nat → Nat → Bool} {s : Nat} {led : Option Nat} {V : Nat → Nat → Prop} {ours : Bool} {t x c r : Nat} {b : Option Nat} (hc : lgS f H s led x c) (hc52 : c < 52) (hv : V c r) (hrt : r ≤ t) (h : sInv f H s led V ours t b x) (r' : Nat) (hr' : r' = bestN ours b r) : sInv f H s led V ours t (some r') (x + 1) := by
  have hun : ∀ c', lgS f H s led x c' → c' = c := fun c' h' => by
    have := h'.1.symm.trans hc.1
    exact (nI_eq (by have := h'.2.1; omega) (by omega)).mp this
  cases b with
  | none =>
    have e : r' = r := hr'
    subst e
    refine ⟨hrt, ⟨c, hc.2, hv⟩, fun k c' hk hl => ?_⟩
    by_cases hkx : k = x
    · subst hkx
      rw [hun c' hl]
      exact ⟨r', hv, by split <;> exact Nat.le_refl _⟩
    · exact absurd hl (h k c' (by omega))
  | some b =>
    obtain ⟨h1, ⟨c1, h2, h3⟩, h4⟩ := h
    have e : r' = if ours then max b r else min b r := hr'
    have hcase : (r' = b ∨ r' = r) ∧ (if ours then b ≤ r' ∧ r ≤ r' else r' ≤ b ∧ r' ≤ r) := by
      cases ours <;> simp only [if_true, if_false, Bool.false_eq_true] at e ⊢ <;> omega
    refine ⟨by omega, ?_, fun k c' hk hl => ?_⟩
    · rcases hcase.1 with z | z
      · rw [z]; exact ⟨c1, h2, h3⟩
      · rw [z]; exact ⟨c, hc.2, hv⟩
    · by_cases hkx : k = x
      · subst hkx
        rw [hun c' hl]
        refine ⟨r, hv, ?_⟩
        have := hcase.2
        split at this <;> rename_i q <;> simp only [q, if_true, if_false, Bool.false_eq_true] <;> omega
      · obtain ⟨rc, z1, z2⟩ := h4 k c' (by omega) hl
        refine ⟨rc, z1, ?_⟩
        have := hcase.2
        split at this <;> rename_i q <;> simp only [q, if_true, if_false, Bool.false_eq_true] at z2 ⊢ <;> omega
theorem sInv_skip {f : Nat → Int32} {H : Nat → Nat → Bool} {s : Nat} {led : Option Nat} {V : Nat → Nat → Prop} {ours : Bool} {t x : Nat} {b : Option Nat} (hn : ∀ c, ¬ lgS f H s led x c) (h : sInv f H s led V ours t b x) : sInv f H s led V ours t b (x + 1) := by
  cases b with
  | none =>
    intro k c hk hl
    by_cases hkx : k = x
    · subst hkx; exact hn c hl
    · exact h k c (by omega) hl
  | some b =>
    refine ⟨h.1, h.2.1, fun k c hk hl => ?_⟩
    by_cases hkx : k = x
    · subst hkx; exact absurd hl (hn c)
    · exact h.2.2 k c (by omega) hl

def sIH (pr : aC) (D μ : Nat) : Prop := ∀ (u : rS) (H : Nat → Nat → Bool) (tr sd ld mn t : Nat), 5 * t - mn = μ → sPre u H tr sd ld mn t → ∀ Q : Option Value → rS → Prop, (∀ v r, sPost u v mn → r ≤ t → sVal tr sd H (u.2 49) ld mn t r → Q (some (.int (nI r))) v) → rR pr D 205 [.ref 25, .int (nI ld), .int (nI mn), .int (nI t)] u Q
set_option maxRecDepth 20000 in
theorem r_search_m {pr : aC} {d : Nat} {u0 : rS} (H : Nat → Nat → Bool) (tr sd ld mn t s μ : Nat) (ours fol : Bool) (hs : s = (ld + mn) % 4) (hm : mn < 4) (hpre : sPre u0 H tr sd ld mn t) (ho : ours = decide (s % 2 = sd)) (hf : fol = flF (u0.2 48) (u0.2 49) s mn) (hμ : 5 * t - mn = μ + 1) (ih : sIH pr (d + 4) μ) {Q : Option Value → rS → Prop} (hQ : ∀ v r, sPost u0 v mn → r ≤ t → sVal tr sd H (u0.2 49) ld mn t r → Q (some (.int (nI r))) v) :
    ∀ (zz x : Nat) (u : rS) (b : Option Nat) (l9 l10 : Option Value) (hP : sPost u0 u mn) (hI : sInv (u0.2 48) H s (ledF (u0.2 49) mn) (gVc tr sd (4 * t - mn - 1) H s mn (ledF (u0.2 49) mn) (topF (u0.2 49) tr mn) (winF (u0.2 49) tr ld mn)) ours t b x) (hl9 : ∀ v, l9 = some v → v.category = 1) (hz : 4 - x < zz) (hx : x ≤ 4), rB pr (d + 4) cd_205 (some .int) Q 137 [some (.ref 25), some (.int (nI ld)), some (.int (nI mn)), some (.int (nI t)), some (.int (nI s)), some (.int (bI ours)), some (.int (oI b)), some (.int (bI fol)), some (.int (nI (4 * s + x))), l9, l10] [] u := by
  obtain ⟨p1, p2, p3, p4, p5, p6, p7⟩ := hpre
  have hs4 : s < 4 := by omega
  have hgok : gOk H s mn t := by rw [hs]; exact p6.2.2.2.2.1 hm
  have ht4 := p6.2.2.2.1
  have ht1 := p6.2.2.1
  have hld := p6.1
  have hwl : winF (u0.2 49) tr ld mn < 4 := by unfold winF; split <;> omega
  intro zz
  induction zz with
  | zero => intro x u b l9 l10 hP hI hl9 hz hx; omega
  | succ zz ihz =>
    intro x u b l9 l10 hP hI hl9 hz hx
    have fin : ∀ (v : rS) (r : Nat), sPost u0 v mn → r ≤ t → gVal tr sd (4 * t - mn - 1 + 1) H s mn (ledF (u0.2 49) mn) (topF (u0.2 49) tr mn) (winF (u0.2 49) tr ld mn) r → Q (some (.int (nI r))) v := by
      intro v r h1 h2 h3
      refine hQ v r h1 h2 ?_
      unfold sVal
      rw [if_neg (by omega), ← hs, show 4 * t - mn = 4 * t - mn - 1 + 1 by omega]
      exact h3
    refine g_load rfl rfl rfl trivial ?_
    refine g_iconst (nI 4) rfl (by decide) ?_
    refine g_load rfl rfl rfl trivial ?_
    refine g_imul rfl ?_
    refine g_iconst (nI 4) rfl (by decide) ?_
    refine g_iadd rfl ?_
    rw [pk_mul, nI_add]
    refine g_icmp_ge rfl (fun c1 => ?_) (fun c1 => ?_)
    · rw [nI_leI (by omega) (by omega)] at c1
      have hx4 : x = 4 := by omega
      subst hx4
      refine g_load rfl rfl rfl trivial ?_
      refine g_vret rfl trivial ⟨rfl, rfl⟩ (Nat.le_refl _) (Nat.le_refl _) ?_
      cases b with
      | none =>
        exfalso
        obtain ⟨c, hc⟩ := gLg_some (ledF (u0.2 49) mn) hgok.pos
        obtain ⟨k, hk, e⟩ := p5.2.1 s c hs4 hc.1 hc.2.1
        exact hI k c hk ⟨e, hc⟩
      | some r => exact fin u r hP hI.1 (sInv_end hs4 ho p5 hgok hwl (by omega) (Or.inl hI))
    · rw [nI_leI (by omega) (by omega)] at c1
      have hlf : u.2 48 (4 * s + x) = u0.2 48 (4 * s + x) := hP.2.2.1 _ (by omega)
      refine g_load rfl rfl rfl trivial ?_
      refine r_getf rfl rfl ?_
      refine g_load rfl rfl rfl trivial ?_
      refine r_ia (4 * s + x) rfl ⟨by decide, by decide, rfl⟩ rfl (by show _ < 16; omega) ?_
      rw [hlf]
      refine g_store [some (.ref 25), some (.int (nI ld)), some (.int (nI mn)), some (.int (nI t)), some (.int (nI s)), some (.int (bI ours)), some (.int (oI b)), some (.int (bI fol)), some (.int (nI (4 * s + x))), some (.int (u0.2 48 (4 * s + x))), l10] rfl rfl trivial (Nat.le_of_ble_eq_true rfl) rfl ?_
      have next : ∀ (v : rS) (b' : Option Nat) (m9 m10 : Option Value), sPost u0 v mn → sInv (u0.2 48) H s (ledF (u0.2 49) mn) (gVc tr sd (4 * t - mn - 1) H s mn (ledF (u0.2 49) mn) (topF (u0.2 49) tr mn) (winF (u0.2 49) tr ld mn)) ours t b' (x + 1) → (∀ v, m9 = some v → v.category = 1) → rB pr (d + 4) cd_205 (some .int) Q 208 [some (.ref 25), some (.int (nI ld)), some (.int (nI mn)), some (.int (nI t)), some (.int (nI s)), some (.int (bI ours)), some (.int (oI b')), some (.int (bI fol)), some (.int (nI (4 * s + x))), m9, m10] [] v := by
        intro v b' m9 m10 h1 h2 h9
        refine g_iinc (nI (4 * s + (x + 1))) [some (.ref 25), some (.int (nI ld)), some (.int (nI mn)), some (.int (nI t)), some (.int (nI s)), some (.int (bI ours)), some (.int (oI b')), some (.int (bI fol)), some (.int (nI (4 * s + (x + 1)))), m9, m10] rfl rfl (nI_1 (4 * s + x)) rfl ?_
        refine g_goto rfl ?_
        exact ihz (x + 1) v b' m9 m10 h1 h2 h9 (by omega) (by omega)
      refine g_load rfl rfl rfl trivial ?_
      refine g_iconst (-1) rfl (by decide) ?_
      refine g_icmp_eq rfl (fun c2 => ?_) (fun c2 => ?_)
      · exact next u b _ _ hP (sInv_skip (fun c hc => by rw [hc.1] at c2; exact nI_m1 (by have := hc.2.1; omega) c2) hI) (fun v hv => by cases hv; rfl)
      · obtain ⟨c, hc52, ec, hh⟩ := (p5.1 s x hs4 (by omega)).resolve_left c2
        have hlg := fl_iff hs4 p5 p7 hc52 hh
        rw [← hf] at hlg
        rw [ec]
        have go : gLg H s (ledF (u0.2 49) mn) c → rB pr (d + 4) cd_205 (some .int) Q 163 [some (.ref 25), some (.int (nI ld)), some (.int (nI mn)), some (.int (nI t)), some (.int (nI s)), some (.int (bI ours)), some (.int (oI b)), some (.int (bI fol)), some (.int (nI (4 * s + x))), some (.int (nI c)), l10] [] u := by
          intro hleg
          refine g_load rfl rfl rfl trivial ?_
          refine r_getf rfl rfl ?_
          refine g_load rfl rfl rfl trivial ?_
          refine g_iconst (-1) rfl (by decide) ?_
          refine r_iasv (4 * s + x) rfl ⟨by decide, by decide, rfl⟩ rfl (by show _ < 16; omega) (fun v1 a1 b1 d1 e1 => ?_)
          refine g_load rfl rfl rfl trivial ?_
          refine r_getf rfl rfl ?_
          refine g_load rfl rfl rfl trivial ?_
          refine g_load rfl rfl rfl trivial ?_
          refine r_iasv mn rfl ⟨by decide, by decide, rfl⟩ rfl (by show _ < 4; omega) (fun v2 a2 b2 d2 e2 => ?_)
          refine g_load rfl rfl rfl trivial ?_
          refine g_load rfl rfl rfl trivial ?_
          refine g_load rfl rfl rfl trivial ?_
          refine g_iconst (nI 1) rfl (by decide) ?_
          refine g_iadd rfl ?_
          rw [nI_add]
          refine g_load rfl rfl rfl trivial ?_
          have q48 : ∀ j, j < 16 → v2.2 48 j = upd (u0.2 48) (4 * s + x) (-1) j := by
            intro j hj
            rw [b2 48 (by decide)]
            unfold upd
            by_cases q : j = 4 * s + x
            · rw [if_pos q, q, d1]
            · rw [if_neg q, e1 j q]; exact hP.2.2.1 j hj
          have q49 : ∀ j, j < mn → v2.2 49 j = u0.2 49 j := fun j hj => by
            rw [e2 j (by omega), b1 49 (by decide)]; exact hP.2.2.2 j hj
          have hpre2 : sPre v2 (gRm H s c) tr sd ld (mn + 1) t := by
            refine ⟨by rw [a2, a1, hP.1]; exact p1, by rw [a2, a1, hP.1]; exact p2, p3, p4, sRep_congr (p5.rm hs4 (by omega) hc52 ec) q48, ?_, fun j hj => ?_⟩
            · rw [hs] at hh ⊢; exact sOk_n p6 hm hc52 hh
            · by_cases q : j = mn
              · subst q; exact ⟨c, hc52, d2⟩
              · rw [q49 j (by omega)]; exact p7 j (by omega)
          refine g_virtI (a := 25) (ci := 8) (n := 3) [.int (nI ld), .int (nI (mn + 1)), .int (nI t)] rFr_tr rfl rfl (by decide) rfl r_this rfl (Nat.le_of_ble_eq_true rfl) (Nat.le_refl _) (Nat.le_refl _) (ih v2 (gRm H s c) tr sd ld (mn + 1) t (by omega) hpre2 _ (fun v3 r hP3 hrt hV => ⟨_, rfl, ?_⟩))
          refine g_store [some (.ref 25), some (.int (nI ld)), some (.int (nI mn)), some (.int (nI t)), some (.int (nI s)), some (.int (bI ours)), some (.int (oI b)), some (.int (bI fol)), some (.int (nI (4 * s + x))), some (.int (nI c)), some (.int (nI r))] rfl rfl trivial (Nat.le_of_ble_eq_true rfl) rfl ?_
          refine g_load rfl rfl rfl trivial ?_
          refine r_getf rfl rfl ?_
          refine g_load rfl rfl rfl trivial ?_
          refine g_load rfl rfl rfl trivial ?_
          refine r_iasv (4 * s + x) rfl ⟨by decide, by decide, rfl⟩ rfl (by show _ < 16; omega) (fun v4 a4 b4 d4 e4 => ?_)
          have hP4 : sPost u0 v4 mn := by
            refine ⟨by rw [a4, hP3.1, a2, a1]; exact hP.1, fun a h1 h2 => by rw [b4 a h1, hP3.2.1 a h1 h2, b2 a h2, b1 a h1]; exact hP.2.1 a h1 h2, fun j hj => ?_, fun j hj => ?_⟩
            · by_cases q : j = 4 * s + x
              · rw [q, d4, ec]
              · rw [e4 j q, hP3.2.2.1 j hj, q48 j hj]; unfold upd; rw [if_neg q]
            · rw [b4 49 (by decide), hP3.2.2.2 j (by omega), q49 j hj]
          have hvc : gVc tr sd (4 * t - mn - 1) H s mn (ledF (u0.2 49) mn) (topF (u0.2 49) tr mn) (winF (u0.2 49) tr ld mn) c r := by
            have hV' := hV
            rw [hs] at hV' ⊢
            exact sVal_ch hld hm p3 p7 hc52 q49 d2 hV'
          have K200 : ∀ r', r' = bestN ours b r → rB pr (d + 4) cd_205 (some .int) Q 200 [some (.ref 25), some (.int (nI ld)), some (.int (nI mn)), some (.int (nI t)), some (.int (nI s)), some (.int (bI ours)), some (.int (nI r')), some (.int (bI fol)), some (.int (nI (4 * s + x))), some (.int (nI c)), some (.int (nI r))] [] v4 := by
            intro r' hr'
            have hI' := sInv_step ⟨ec, hleg⟩ hc52 hvc hrt hI r' hr'
            have hr't := hI'.1
            refine g_load rfl rfl rfl trivial ?_
            have K206 : ∀ e : Int32, e = nI (if ours then t else 0) → rB pr (d + 4) cd_205 (some .int) Q 206 [some (.ref 25), some (.int (nI ld)), some (.int (nI mn)), some (.int (nI t)), some (.int (nI s)), some (.int (bI ours)), some (.int (nI r')), some (.int (bI fol)), some (.int (nI (4 * s + x))), some (.int (nI c)), some (.int (nI r))] [.int e, .int (nI r')] v4 := by
              intro e he
              subst he
              refine g_icmp_ne rfl (fun k1 => ?_) (fun k1 => ?_)
              · exact next v4 (some r') _ _ hP4 hI' (fun v hv => by cases hv; rfl)
              · refine g_goto rfl ?_
                refine g_load rfl rfl rfl trivial ?_
                refine g_vret rfl trivial ⟨rfl, rfl⟩ (Nat.le_refl _) (Nat.le_refl _) ?_
                have e2 : r' = if ours then t else 0 := (nI_eq (by omega) (by split <;> omega)).mp k1
                exact fin v4 r' hP4 hr't (sInv_end hs4 ho p5 hgok hwl (by omega) (Or.inr ⟨hr't, hI'.2.1, e2⟩))
            refine g_load rfl rfl rfl trivial ?_
            refine g_if_eq rfl (fun k1 => ?_) (fun k1 => ?_)
            · rw [bI_eq] at k1
              refine g_iconst (nI 0) rfl (by decide) ?_
              exact K206 _ (by rw [k1]; rfl)
            · rw [bI_ne] at k1
              refine g_load rfl rfl rfl trivial ?_
              refine g_goto rfl ?_
              exact K206 _ (by rw [k1]; rfl)
          have K198 : ∀ o6 : Int32, r = bestN ours b r → rB pr (d + 4) cd_205 (some .int) Q 198 [some (.ref 25), some (.int (nI ld)), some (.int (nI mn)), some (.int (nI t)), some (.int (nI s)), some (.int (bI ours)), some (.int o6), some (.int (bI fol)), some (.int (nI (4 * s + x))), some (.int (nI c)), some (.int (nI r))] [] v4 := by
            intro o6 hr'
            refine g_load rfl rfl rfl trivial ?_
            refine g_store [some (.ref 25), some (.int (nI ld)), some (.int (nI mn)), some (.int (nI t)), some (.int (nI s)), some (.int (bI ours)), some (.int (nI r)), some (.int (bI fol)), some (.int (nI (4 * s + x))), some (.int (nI c)), some (.int (nI r))] rfl rfl trivial (Nat.le_of_ble_eq_true rfl) rfl ?_
            exact K200 r hr'
          refine g_load rfl rfl rfl trivial ?_
          refine g_iconst (-1) rfl (by decide) ?_
          refine g_icmp_eq rfl (fun k1 => ?_) (fun k1 => ?_)
          · have hb0 := oI_m1 k1 (fun i hi => by subst hi; have := hI.1; omega)
            subst hb0
            exact K198 _ rfl
          · obtain ⟨b0, hb0⟩ := oI_some k1
            subst hb0
            have hbt := hI.1
            have e6 : oI (some b0) = nI b0 := rfl
            rw [e6]
            refine g_load rfl rfl rfl trivial ?_
            refine g_if_eq rfl (fun k2 => ?_) (fun k2 => ?_)
            · rw [bI_eq] at k2
              refine g_load rfl rfl rfl trivial ?_
              refine g_load rfl rfl rfl trivial ?_
              refine g_icmp_ge rfl (fun k3 => ?_) (fun k3 => ?_)
              · rw [nI_leI (by omega) (by omega)] at k3
                exact K200 b0 (by show b0 = (if ours then max b0 r else min b0 r); simp only [k2, Bool.false_eq_true, if_false]; omega)
              · rw [nI_leI (by omega) (by omega)] at k3
                exact K198 _ (by show r = (if ours then max b0 r else min b0 r); simp only [k2, Bool.false_eq_true, if_false]; omega)
            · rw [bI_ne] at k2
              refine g_load rfl rfl rfl trivial ?_
              refine g_load rfl rfl rfl trivial ?_
              refine g_icmp_le rfl (fun k3 => ?_) (fun k3 => ?_)
              · rw [nI_leI (by omega) (by omega)] at k3
                exact K200 b0 (by show b0 = (if ours then max b0 r else min b0 r); simp only [k2, if_true]; omega)
              · rw [nI_leI (by omega) (by omega)] at k3
                refine g_goto rfl ?_
                exact K198 _ (by show r = (if ours then max b0 r else min b0 r); simp only [k2, if_true]; omega)
        refine g_load rfl rfl rfl trivial ?_
        refine g_if_eq rfl (fun c3 => ?_) (fun c3 => ?_)
        · rw [bI_eq] at c3
          exact go (hlg.mpr (Or.inl c3))
        · rw [bI_ne] at c3
          refine g_load rfl rfl rfl trivial ?_
          refine g_statI [.int (nI c)] rFr_tr rfl rfl rfl (Nat.le_of_ble_eq_true rfl) (Nat.le_refl _) (Nat.le_refl _) (r_suit (nI c) ⟨_, rfl, ?_⟩)
          refine g_load rfl rfl rfl trivial ?_
          refine r_getf rfl rfl ?_
          refine g_iconst (nI 0) rfl (by decide) ?_
          refine r_ia (0) rfl ⟨by decide, by decide, rfl⟩ rfl (by decide) ?_
          refine g_statI [.int (u.2 49 0)] rFr_tr rfl rfl rfl (Nat.le_of_ble_eq_true rfl) (Nat.le_refl _) (Nat.le_refl _) (r_suit (u.2 49 0) ⟨_, rfl, ?_⟩)
          have hmn0 : 0 < mn := by
            by_cases q : mn = 0
            · subst q
              rw [hf] at c3
              simp [flF] at c3
            · omega
          rw [hP.2.2.2 0 hmn0]
          refine g_icmp_eq rfl (fun c4 => ?_) (fun c4 => ?_)
          · exact go (hlg.mpr (Or.inr c4))
          · refine g_goto rfl ?_
            exact next u b _ _ hP (sInv_skip (fun c' hc' => by
              have e : c' = c := (nI_eq (by have := hc'.2.1; omega) (by omega)).mp (hc'.1.symm.trans ec)
              subst e
              rcases hlg.mp hc'.2 with z | z
              · rw [c3] at z; cases z
              · exact c4 z) hI) (fun v hv => by cases hv; rfl)
end
section
/-! ===== the reference: search, the whole ===== -/
set_option maxRecDepth 20000 in
theorem r_search {pr : aC} (d : Nat) : ∀ μ, sIH pr (d + μ + 4) μ := by
  intro μ
  induction μ with
  | zero =>
    intro u H tr sd ld mn t hμ hp
    exfalso
    have h1 := hp.2.2.2.2.2.1.2.1
    have h2 := hp.2.2.2.2.2.1.2.2.1
    omega
  | succ μ ih =>
    intro u H tr sd ld mn t hμ hp Q hQ
    obtain ⟨p1, p2, p3, p4, p5, p6, p7⟩ := id hp
    have hld := p6.1
    have hmn := p6.2.1
    have ht1 := p6.2.2.1
    have ht4 := p6.2.2.2.1
    refine gR_of (d := d + μ + 4) mi_205 rFr_rf rfl (Nat.le_of_ble_eq_true rfl) ?_
    show rB pr (d + μ + 4) cd_205 (some .int) Q 0 [some (.ref 25), some (.int (nI ld)), some (.int (nI mn)), some (.int (nI t)), none, none, none, none, none, none, none] [] u
    refine g_load rfl rfl rfl trivial ?_
    refine g_iconst (nI 4) rfl (by decide) ?_
    refine g_icmp_ne rfl (fun c1 => ?_) (fun c1 => ?_)
    · rw [nI_eq (by omega) (by omega)] at c1
      have hm : mn < 4 := by omega
      refine g_load rfl rfl rfl trivial ?_
      refine g_load rfl rfl rfl trivial ?_
      refine g_iadd rfl ?_
      rw [nI_add]
      refine g_iconst (nI 4) rfl (by decide) ?_
      refine g_irem rfl (by decide) ?_
      rw [pk_rem (by omega) (by omega) (by omega)]
      obtain ⟨s, hs⟩ : ∃ s, s = (ld + mn) % 4 := ⟨_, rfl⟩
      rw [← hs]
      have hs4 : s < 4 := by omega
      refine g_store [some (.ref 25), some (.int (nI ld)), some (.int (nI mn)), some (.int (nI t)), some (.int (nI s)), none, none, none, none, none, none] rfl rfl trivial (Nat.le_of_ble_eq_true rfl) rfl ?_
      have K90 : ∀ e : Int32, e = bI (decide (s % 2 = sd)) → rB pr (d + μ + 4) cd_205 (some .int) Q 90 [some (.ref 25), some (.int (nI ld)), some (.int (nI mn)), some (.int (nI t)), some (.int (nI s)), none, none, none, none, none, none] [.int e] u := by
        intro e he
        subst he
        refine g_store [some (.ref 25), some (.int (nI ld)), some (.int (nI mn)), some (.int (nI t)), some (.int (nI s)), some (.int (bI (decide (s % 2 = sd)))), none, none, none, none, none] rfl rfl trivial (Nat.le_of_ble_eq_true rfl) rfl ?_
        refine g_iconst (-1) rfl (by decide) ?_
        refine g_store [some (.ref 25), some (.int (nI ld)), some (.int (nI mn)), some (.int (nI t)), some (.int (nI s)), some (.int (bI (decide (s % 2 = sd)))), some (.int (-1)), none, none, none, none] rfl rfl trivial (Nat.le_of_ble_eq_true rfl) rfl ?_
        refine g_iconst (nI 0) rfl (by decide) ?_
        refine g_store [some (.ref 25), some (.int (nI ld)), some (.int (nI mn)), some (.int (nI t)), some (.int (nI s)), some (.int (bI (decide (s % 2 = sd)))), some (.int (-1)), some (.int (nI 0)), none, none, none] rfl rfl trivial (Nat.le_of_ble_eq_true rfl) rfl ?_
        refine g_iconst (nI 4) rfl (by decide) ?_
        refine g_load rfl rfl rfl trivial ?_
        refine g_imul rfl ?_
        rw [pk_mul]
        refine g_store [some (.ref 25), some (.int (nI ld)), some (.int (nI mn)), some (.int (nI t)), some (.int (nI s)), some (.int (bI (decide (s % 2 = sd)))), some (.int (-1)), some (.int (nI 0)), some (.int (nI (4 * s))), none, none] rfl rfl trivial (Nat.le_of_ble_eq_true rfl) rfl ?_
        have KF := r_search_f (pr := pr) (d := d + μ + 2) (u := u) ld mn t s (bI (decide (s % 2 = sd))) (-1) hs4 hm (Q := Q) (fun k8 => ?_) 5 0 (by omega) (by omega)
        · have e0 : (decide (0 < mn) && anyN (flQ (u.2 48) (u.2 49) s) 0) = false := by simp [anyN]
          rw [e0] at KF
          exact KF
        · refine g_iconst (nI 4) rfl (by decide) ?_
          refine g_load rfl rfl rfl trivial ?_
          refine g_imul rfl ?_
          rw [pk_mul]
          refine g_store [some (.ref 25), some (.int (nI ld)), some (.int (nI mn)), some (.int (nI t)), some (.int (nI s)), some (.int (bI (decide (s % 2 = sd)))), some (.int (-1)), some (.int (bI (flF (u.2 48) (u.2 49) s mn))), some (.int (nI (4 * s))), none, none] rfl rfl trivial (Nat.le_of_ble_eq_true rfl) rfl ?_
          exact r_search_m (d := d + μ) H tr sd ld mn t s μ (decide (s % 2 = sd)) (flF (u.2 48) (u.2 49) s mn) hs hm hp rfl rfl hμ ih hQ 5 0 u none none none (sPost.rf u mn) (fun k c hk => absurd hk (by omega)) (fun v hv => by cases hv) (by omega) (by omega)
      refine g_load rfl rfl rfl trivial ?_
      refine g_iconst (nI 2) rfl (by decide) ?_
      refine g_irem rfl (by decide) ?_
      rw [pk_rem (by omega) (by omega) (by omega)]
      refine g_load rfl rfl rfl trivial ?_
      refine r_getf rfl rfl ?_
      rw [p2]
      refine g_icmp_ne rfl (fun c2 => ?_) (fun c2 => ?_)
      · rw [nI_eq (by omega) (by omega)] at c2
        refine g_iconst (nI 0) rfl (by decide) ?_
        exact K90 _ (by rw [decide_eq_false c2]; rfl)
      · rw [nI_eq (by omega) (by omega)] at c2
        refine g_iconst (nI 1) rfl (by decide) ?_
        refine g_goto rfl ?_
        exact K90 _ (by rw [decide_eq_true c2]; rfl)
    · rw [nI_eq (by omega) (by omega)] at c1
      subst c1
      refine g_load rfl rfl rfl trivial ?_
      refine g_load rfl rfl rfl trivial ?_
      refine g_iconst (nI 4) rfl (by decide) ?_
      refine g_virtI (a := 25) (ci := 8) (n := 2) [.int (nI ld), .int (nI 4)] rFr_tr rfl rfl (by decide) rfl r_this rfl (Nat.le_of_ble_eq_true rfl) (Nat.le_refl _) (Nat.le_refl _) (r_taken ld hld ⟨_, rfl, ?_⟩)
      rw [p1]
      obtain ⟨w, hw⟩ : ∃ w, w = (ld + bst (u.2 49) (nI tr) 0 3) % 4 := ⟨_, rfl⟩
      rw [← hw]
      have hw4 : w < 4 := by omega
      have hwin : winF (u.2 49) tr ld 4 = w := by rw [hw]; rfl
      refine g_store [some (.ref 25), some (.int (nI ld)), some (.int (nI 4)), some (.int (nI t)), some (.int (nI w)), none, none, none, none, none, none] rfl rfl trivial (Nat.le_of_ble_eq_true rfl) rfl ?_
      have K17 : ∀ e : Int32, e = nI (if w % 2 = sd then 1 else 0) → rB pr (d + μ + 4) cd_205 (some .int) Q 17 [some (.ref 25), some (.int (nI ld)), some (.int (nI 4)), some (.int (nI t)), some (.int (nI w)), none, none, none, none, none, none] [.int e] u := by
        intro e he
        subst he
        have h01 := ite01 (w % 2) sd
        obtain ⟨one, h1e⟩ : ∃ o, o = (if w % 2 = sd then 1 else 0 : Nat) := ⟨_, rfl⟩
        rw [← h1e] at h01 ⊢
        refine g_store [some (.ref 25), some (.int (nI ld)), some (.int (nI 4)), some (.int (nI t)), some (.int (nI w)), some (.int (nI one)), none, none, none, none, none] rfl rfl trivial (Nat.le_of_ble_eq_true rfl) rfl ?_
        refine g_load rfl rfl rfl trivial ?_
        refine g_iconst (nI 1) rfl (by decide) ?_
        refine g_icmp_ne rfl (fun c2 => ?_) (fun c2 => ?_)
        · rw [nI_eq (by omega) (by omega)] at c2
          refine g_load rfl rfl rfl trivial ?_
          refine r_getf rfl rfl ?_
          refine g_iconst (nI 0) rfl (by decide) ?_
          refine r_ia (0) rfl ⟨by decide, by decide, rfl⟩ rfl (by decide) ?_
          refine g_store [some (.ref 25), some (.int (nI ld)), some (.int (nI 4)), some (.int (nI t)), some (.int (nI w)), some (.int (nI one)), some (.int (u.2 49 0)), none, none, none, none] rfl rfl trivial (Nat.le_of_ble_eq_true rfl) rfl ?_
          refine g_load rfl rfl rfl trivial ?_
          refine r_getf rfl rfl ?_
          refine g_iconst (nI 1) rfl (by decide) ?_
          refine r_ia (1) rfl ⟨by decide, by decide, rfl⟩ rfl (by decide) ?_
          refine g_store [some (.ref 25), some (.int (nI ld)), some (.int (nI 4)), some (.int (nI t)), some (.int (nI w)), some (.int (nI one)), some (.int (u.2 49 0)), some (.int (u.2 49 1)), none, none, none] rfl rfl trivial (Nat.le_of_ble_eq_true rfl) rfl ?_
          refine g_load rfl rfl rfl trivial ?_
          refine r_getf rfl rfl ?_
          refine g_iconst (nI 2) rfl (by decide) ?_
          refine r_ia (2) rfl ⟨by decide, by decide, rfl⟩ rfl (by decide) ?_
          refine g_store [some (.ref 25), some (.int (nI ld)), some (.int (nI 4)), some (.int (nI t)), some (.int (nI w)), some (.int (nI one)), some (.int (u.2 49 0)), some (.int (u.2 49 1)), some (.int (u.2 49 2)), none, none] rfl rfl trivial (Nat.le_of_ble_eq_true rfl) rfl ?_
          refine g_load rfl rfl rfl trivial ?_
          refine r_getf rfl rfl ?_
          refine g_iconst (nI 3) rfl (by decide) ?_
          refine r_ia (3) rfl ⟨by decide, by decide, rfl⟩ rfl (by decide) ?_
          refine g_store [some (.ref 25), some (.int (nI ld)), some (.int (nI 4)), some (.int (nI t)), some (.int (nI w)), some (.int (nI one)), some (.int (u.2 49 0)), some (.int (u.2 49 1)), some (.int (u.2 49 2)), some (.int (u.2 49 3)), none] rfl rfl trivial (Nat.le_of_ble_eq_true rfl) rfl ?_
          refine g_load rfl rfl rfl trivial ?_
          refine g_load rfl rfl rfl trivial ?_
          refine g_iconst (nI 0) rfl (by decide) ?_
          refine g_load rfl rfl rfl trivial ?_
          refine g_iconst (nI 1) rfl (by decide) ?_
          refine g_isub rfl ?_
          rw [pk_sub (by omega)]
          refine g_virtI (a := 25) (ci := 8) (n := 3) [.int (nI w), .int (nI 0), .int (nI (t - 1))] rFr_tr rfl rfl (by decide) rfl r_this rfl (Nat.le_of_ble_eq_true rfl) (Nat.le_refl _) (Nat.le_refl _) (ih u H tr sd w 0 (t - 1) (by omega) ⟨p1, p2, p3, p4, p5, sOk_0 p6 (by omega) hw4, fun j hj => absurd hj (by omega)⟩ _ (fun v r hP hrt hV => ⟨_, rfl, ?_⟩))
          refine g_store [some (.ref 25), some (.int (nI ld)), some (.int (nI 4)), some (.int (nI t)), some (.int (nI w)), some (.int (nI one)), some (.int (u.2 49 0)), some (.int (u.2 49 1)), some (.int (u.2 49 2)), some (.int (u.2 49 3)), some (.int (nI r))] rfl rfl trivial (Nat.le_of_ble_eq_true rfl) rfl ?_
          refine g_load rfl rfl rfl trivial ?_
          refine r_getf rfl rfl ?_
          refine g_iconst (nI 0) rfl (by decide) ?_
          refine g_load rfl rfl rfl trivial ?_
          refine r_iasv (0) rfl ⟨by decide, by decide, rfl⟩ rfl (by decide) (fun v1 a1 b1 d1 e1 => ?_)
          refine g_load rfl rfl rfl trivial ?_
          refine r_getf rfl rfl ?_
          refine g_iconst (nI 1) rfl (by decide) ?_
          refine g_load rfl rfl rfl trivial ?_
          refine r_iasv (1) rfl ⟨by decide, by decide, rfl⟩ rfl (by decide) (fun v2 a2 b2 d2 e2 => ?_)
          refine g_load rfl rfl rfl trivial ?_
          refine r_getf rfl rfl ?_
          refine g_iconst (nI 2) rfl (by decide) ?_
          refine g_load rfl rfl rfl trivial ?_
          refine r_iasv (2) rfl ⟨by decide, by decide, rfl⟩ rfl (by decide) (fun v3 a3 b3 d3 e3 => ?_)
          refine g_load rfl rfl rfl trivial ?_
          refine r_getf rfl rfl ?_
          refine g_iconst (nI 3) rfl (by decide) ?_
          refine g_load rfl rfl rfl trivial ?_
          refine r_iasv (3) rfl ⟨by decide, by decide, rfl⟩ rfl (by decide) (fun v4 a4 b4 d4 e4 => ?_)
          refine g_load rfl rfl rfl trivial ?_
          refine g_load rfl rfl rfl trivial ?_
          refine g_iadd rfl ?_
          rw [nI_add]
          refine g_vret rfl trivial ⟨rfl, rfl⟩ (Nat.le_refl _) (Nat.le_refl _) ?_
          refine hQ v4 (one + r) ⟨by rw [a4, a3, a2, a1]; exact hP.1, fun a h1 h2 => by rw [b4 a h2, b3 a h2, b2 a h2, b1 a h2]; exact hP.2.1 a h1 h2, fun j hj => by rw [b4 48 (by decide), b3 48 (by decide), b2 48 (by decide), b1 48 (by decide)]; exact hP.2.2.1 j hj, fun j hj => ?_⟩ (by omega) ?_
          · rcases (show j = 0 ∨ j = 1 ∨ j = 2 ∨ j = 3 by omega) with rfl | rfl | rfl | rfl
            · rw [e4 0 (by decide), e3 0 (by decide), e2 0 (by decide), d1]
            · rw [e4 1 (by decide), e3 1 (by decide), d2]
            · rw [e4 2 (by decide), d3]
            · rw [d4]
          · unfold sVal
            rw [if_pos rfl, hwin, ← h1e]
            intro need
            unfold sVal at hV
            rw [if_neg (by decide)] at hV
            have hV2 := hV (need - one)
            rw [show (w + 0) % 4 = w by omega, Nat.sub_zero] at hV2
            have hl : ledF (u.2 49) 0 = none := rfl
            have htp : topF (u.2 49) tr 0 = 0 := rfl
            have hwn : winF (u.2 49) tr w 0 = 0 := rfl
            rw [hl, htp, hwn] at hV2
            rw [hV2]
            omega
        · rw [nI_eq (by omega) (by omega)] at c2
          refine g_load rfl rfl rfl trivial ?_
          refine g_vret rfl trivial ⟨rfl, rfl⟩ (Nat.le_refl _) (Nat.le_refl _) ?_
          refine hQ u one (sPost.rf u 4) (by omega) ?_
          unfold sVal
          rw [if_pos rfl, hwin, ← h1e, c2]
          intro need
          show need - one = 0 ↔ need ≤ one
          omega
      refine g_load rfl rfl rfl trivial ?_
      refine g_iconst (nI 2) rfl (by decide) ?_
      refine g_irem rfl (by decide) ?_
      rw [pk_rem (by omega) (by omega) (by omega)]
      refine g_load rfl rfl rfl trivial ?_
      refine r_getf rfl rfl ?_
      rw [p2]
      refine g_icmp_ne rfl (fun c2 => ?_) (fun c2 => ?_)
      · rw [nI_eq (by omega) (by omega)] at c2
        refine g_iconst (nI 0) rfl (by decide) ?_
        exact K17 _ (by rw [if_neg c2])
      · rw [nI_eq (by omega) (by omega)] at c2
        refine g_iconst (nI 1) rfl (by decide) ?_
        refine g_goto rfl ?_
        exact K17 _ (by rw [if_pos c2])
end
section
/-! ===== the reference: layOut, best ===== -/
/-- who holds what at a table -/
def hH (u : rS) (t m : Nat) : Nat → Nat → Bool := fun s c => hdF u t m (nI s) (nI c)
/-- the places of one seat, filled from the cards below x -/
def fSt (H : Nat → Nat → Bool) (f : Nat → Int32) (s x n : Nat) : Prop := n = cnt (H s) x ∧ (∀ k, k < n → ∃ c, c < x ∧ H s c = true ∧ f (4 * s + k) = nI c) ∧ (∀ c, c < x → H s c = true → ∃ k, k < n ∧ f (4 * s + k) = nI c) ∧ ∀ k k' c, k < n → k' < n → c < 52 → f (4 * s + k) = nI c → f (4 * s + k') = nI c → k = k'
/-- the places of the seats below s -/
def gSt (H : Nat → Nat → Bool) (f : Nat → Int32) (s : Nat) : Prop := (∀ s' k, s' < s → k < 4 → f (4 * s' + k) = -1 ∨ ∃ c, c < 52 ∧ f (4 * s' + k) = nI c ∧ H s' c = true) ∧ (∀ s' c, s' < s → c < 52 → H s' c = true → ∃ k, k < 4 ∧ f (4 * s' + k) = nI c) ∧ ∀ s' k k' c, s' < s → k < 4 → k' < 4 → c < 52 → f (4 * s' + k) = nI c → f (4 * s' + k') = nI c → k = k'
theorem gSt_congr {H : Nat → Nat → Bool} {f g : Nat → Int32} {s : Nat} (h : gSt H f s) (e : ∀ j, j < 4 * s → g j = f j) : gSt H g s := by
  obtain ⟨h1, h2, h3⟩ := h
  refine ⟨fun s' k hs hk => ?_, fun s' c hs hc hh => ?_, fun s' k k' c hs hk hk' hc e1 e2 => ?_⟩
  · rw [e _ (by omega)]; exact h1 s' k hs hk
  · obtain ⟨k, z1, z2⟩ := h2 s' c hs hc hh
    exact ⟨k, z1, by rw [e _ (by omega)]; exact z2⟩
  · rw [e _ (by omega)] at e1 e2; exact h3 s' k k' c hs hk hk' hc e1 e2
theorem gSt_rep {H : Nat → Nat → Bool} {f : Nat → Int32} (h : gSt H f 4) : sRep f H := ⟨fun s k hs hk => h.1 s k hs hk, fun s c hs hc hh => h.2.1 s c hs hc hh, fun s k k' c hs hk hk' hc e1 e2 => h.2.2 s k k' c hs hk hk' hc e1 e2⟩
theorem fSt_add {H : Nat → Nat → Bool} {f g : Nat → Int32} {s x n : Nat} (h : fSt H f s x n) (hx : x < 52) (hh : H s x = true) (h1 : g (4 * s + n) = nI x) (h2 : ∀ j, j ≠ 4 * s + n → g j = f j) : fSt H g s (x + 1) (n + 1) := by
  obtain ⟨a1, a2, a3, a4⟩ := h
  have old : ∀ k, k < n → g (4 * s + k) = f (4 * s + k) := fun k hk => h2 _ (by omega)
  refine ⟨by rw [a1]; simp [cnt, hh], fun k hk => ?_, fun c hc hcc => ?_, fun k k' c hk hk' hc e1 e2 => ?_⟩
  · by_cases q : k = n
    · subst q; exact ⟨x, by omega, hh, h1⟩
    · obtain ⟨c, z1, z2, z3⟩ := a2 k (by omega)
      exact ⟨c, by omega, z2, by rw [old k (by omega)]; exact z3⟩
  · by_cases q : c = x
    · subst q; exact ⟨n, by omega, h1⟩
    · obtain ⟨k, z1, z2⟩ := a3 c (by omega) hcc
      exact ⟨k, by omega, by rw [old k z1]; exact z2⟩
  · have lt : ∀ k, k < n → ∀ c, c < 52 → g (4 * s + k) = nI c → c < x := by
      intro k hk c hc e
      obtain ⟨c', z1, z2, z3⟩ := a2 k hk
      rw [old k hk, z3, nI_eq (by omega) (by omega)] at e
      omega
    by_cases q : k = n
    · by_cases q' : k' = n
      · omega
      · subst q
        rw [h1, nI_eq (by omega) (by omega)] at e1
        have := lt k' (by omega) c hc e2
        omega
    · by_cases q' : k' = n
      · subst q'
        rw [h1, nI_eq (by omega) (by omega)] at e2
        have := lt k (by omega) c hc e1
        omega
      · rw [old k (by omega)] at e1
        rw [old k' (by omega)] at e2
        exact a4 k k' c (by omega) (by omega) hc e1 e2
theorem fSt_skip {H : Nat → Nat → Bool} {f : Nat → Int32} {s x n : Nat} (h : fSt H f s x n) (hh : H s x = false) : fSt H f s (x + 1) n := by
  obtain ⟨a1, a2, a3, a4⟩ := h
  refine ⟨by rw [a1]; simp [cnt, hh], fun k hk => ?_, fun c hc hcc => ?_, a4⟩
  · obtain ⟨c, z1, z2, z3⟩ := a2 k hk
    exact ⟨c, by omega, z2, z3⟩
  · by_cases q : c = x
    · subst q; rw [hh] at hcc; cases hcc
    · exact a3 c (by omega) hcc
theorem fSt_end {H : Nat → Nat → Bool} {f g : Nat → Int32} {s n : Nat} (h : fSt H f s 52 n) (hg : gSt H f s) (hn : n ≤ 4) (h1 : ∀ k, k < n → g (4 * s + k) = f (4 * s + k)) (h2 : ∀ k, n ≤ k → k < 4 → g (4 * s + k) = -1) (h3 : ∀ j, j < 4 * s → g j = f j) : gSt H g (s + 1) := by
  obtain ⟨a1, a2, a3, a4⟩ := h
  obtain ⟨b1, b2, b3⟩ := gSt_congr hg h3
  refine ⟨fun s' k hs hk => ?_, fun s' c hs hc hh => ?_, fun s' k k' c hs hk hk' hc e1 e2 => ?_⟩
  · by_cases q : s' = s
    · subst q
      by_cases qk : k < n
      · obtain ⟨c, z1, z2, z3⟩ := a2 k qk
        exact Or.inr ⟨c, z1, by rw [h1 k qk]; exact z3, z2⟩
      · exact Or.inl (h2 k (by omega) hk)
    · exact b1 s' k (by omega) hk
  · by_cases q : s' = s
    · subst q
      obtain ⟨k, z1, z2⟩ := a3 c hc hh
      exact ⟨k, by omega, by rw [h1 k z1]; exact z2⟩
    · exact b2 s' c (by omega) hc hh
  · by_cases q : s' = s
    · subst q
      have lt : ∀ k, k < 4 → g (4 * s' + k) = nI c → k < n := by
        intro k hk e
        apply Nat.lt_of_not_le
        intro z
        rw [h2 k z hk] at e
        exact nI_m1 (by omega) e.symm
      have l1 := lt k hk e1
      have l2 := lt k' hk' e2
      rw [h1 k l1] at e1
      rw [h1 k' l2] at e2
      exact a4 k k' c l1 l2 hc e1 e2
    · exact b3 s' k k' c (by omega) hk hk' hc e1 e2
/-- while the cards are laid out: only 48 and 49 change -/
def lSt (u v : rS) : Prop := v.1 = u.1 ∧ ∀ a, a ≠ 48 → a ≠ 49 → v.2 a = u.2 a
theorem lSt.rS {u v : rS} (h : lSt u v) : rSame u v := ⟨by rw [h.1], by rw [h.1], by rw [h.1], fun a ha => h.2 a (by omega) (by omega)⟩
theorem cnt_mono (p : Nat → Bool) : ∀ {a b : Nat}, a ≤ b → cnt p a ≤ cnt p b
  | a, 0, h => by have : a = 0 := by omega
                  subst this; exact Nat.le_refl _
  | a, b + 1, h => by
    by_cases q : a = b + 1
    · rw [q]; exact Nat.le_refl _
    · have := cnt_mono p (show a ≤ b by omega)
      unfold cnt
      cases a with
      | zero => simp [cnt]
      | succ a => show cnt p (a + 1) ≤ _; omega
set_option maxRecDepth 20000 in
theorem r_lay_i {pr : aC} {d : Nat} {u0 : rS} (t m nb tk : Nat) (H : Nat → Nat → Bool) (ht : t < 10) (h0 : u0.1 0 = nI nb) (hnb : nb ≤ 36) (hm0 : u0.2 32 t = nI m) (hm52 : m ≤ 52) (hH : H = hH u0 t m) (hle : ∀ s, s < 4 → hN H s ≤ 4) (s : Nat) (hs : s < 4) {Q : Option Value → rS → Prop} (hQ : ∀ u n, lSt u0 u → fSt H (u.2 48) s 52 n → gSt H (u.2 48) s → rB pr (d + 4) cd_206 (some .int) Q 65 [some (.ref 25), some (.int (nI t)), some (.int (nI tk)), some (.int (nI s)), some (.int (nI n)), some (.int (nI 52))] [] u) : ∀ (zz : Nat) (x : Nat) (u : rS) (n : Nat) (hL : lSt u0 u) (hF : fSt H (u.2 48) s x n) (hG : gSt H (u.2 48) s) (hm : 52 - x < zz) (hx : x ≤ 52), rB pr (d + 4) cd_206 (Option.some Jvm.ClassFile.FieldType.int) Q 43 [some (.ref 25), some (.int (nI t)), some (.int (nI tk)), some (.int (nI s)), some (.int (nI n)), some (.int (nI x))] [] u := by
  intro zz
  induction zz with
  | zero => intro x u n hL hF hG hm hx; exact absurd hm (by omega)
  | succ zz ih =>
    intro x u n hL hF hG hm hx
    refine g_load rfl rfl rfl trivial ?_
    refine g_bipush (nI 52) rfl (by decide) ?_
    refine g_icmp_ge rfl (fun c1 => ?_) (fun c1 => ?_)
    · rw [nI_leI (by omega) (by omega)] at c1
      have hx52 : x = 52 := by omega
      subst hx52
      exact hQ u n hL hF hG
    · rw [nI_leI (by omega) (by omega)] at c1
      have hn4 : n ≤ hN H s := by rw [hF.1]; exact cnt_mono _ (by omega)
      have hle4 := hle s hs
      refine g_load rfl rfl rfl trivial ?_
      refine g_load rfl rfl rfl trivial ?_
      refine g_load rfl rfl rfl trivial ?_
      refine g_load rfl rfl rfl trivial ?_
      refine g_virtI (a := 25) (ci := 8) (n := 3) [.int (nI t), .int (nI s), .int (nI x)] rFr_tr rfl rfl (by decide) rfl r_this rfl (Nat.le_of_ble_eq_true rfl) (Nat.le_refl _) (Nat.le_refl _) (r_holds t m nb (nI s) (nI x) ht (hL.rS.1.trans h0) hnb (by rw [hL.2 32 (by decide) (by decide)]; exact hm0) hm52 ⟨_, rfl, ?_⟩)
      refine g_if_ne rfl (fun c2 => ?_) (fun c2 => ?_)
      · rw [bI_ne, rSame_hd hL.rS] at c2
        have hh : H s x = true := by rw [hH]; exact c2
        refine g_load rfl rfl rfl trivial ?_
        refine r_getf rfl rfl ?_
        refine g_iconst (nI 4) rfl (by decide) ?_
        refine g_load rfl rfl rfl trivial ?_
        refine g_imul rfl ?_
        refine g_load rfl rfl rfl trivial ?_
        refine g_iadd rfl ?_
        refine g_load rfl rfl rfl trivial ?_
        have hlt : n < 4 := by
          have h1 : cnt (H s) (x + 1) ≤ hN H s := cnt_mono _ (by omega)
          have h2 : cnt (H s) (x + 1) = cnt (H s) x + 1 := by simp [cnt, hh]
          have h3 := hF.1
          omega
        refine r_iasv (4 * s + n) rfl ⟨by decide, by decide, rfl⟩ (by rw [pk_mul, nI_add]) (by show _ < 16; omega) (fun v a1 b1 c1 d1 => ?_)
        have hF2 := fSt_add hF (by omega) hh c1 d1
        have hL2 : lSt u0 v := ⟨a1.trans hL.1, fun a h1 h2 => (b1 a h1).trans (hL.2 a h1 h2)⟩
        have hG2 : gSt H (v.2 48) s := gSt_congr hG (fun j hj => d1 j (by omega))
        refine g_iinc (nI (n + 1)) [some (.ref 25), some (.int (nI t)), some (.int (nI tk)), some (.int (nI s)), some (.int (nI (n + 1))), some (.int (nI x))] rfl rfl (nI_1 n) rfl ?_
        refine g_iinc (nI (x + 1)) [some (.ref 25), some (.int (nI t)), some (.int (nI tk)), some (.int (nI s)), some (.int (nI (n + 1))), some (.int (nI (x + 1)))] rfl rfl (nI_1 x) rfl ?_
        refine g_goto rfl ?_
        exact ih (x + 1) _ _ hL2 hF2 hG2 (by omega) (by omega)
      · rw [bI_eq, rSame_hd hL.rS] at c2
        have hh : H s x = false := by rw [hH]; exact c2
        have hF2 := fSt_skip hF hh
        have hL2 := hL
        have hG2 := hG
        refine g_goto rfl ?_
        refine g_iinc (nI (x + 1)) [some (.ref 25), some (.int (nI t)), some (.int (nI tk)), some (.int (nI s)), some (.int (nI n)), some (.int (nI (x + 1)))] rfl rfl (nI_1 x) rfl ?_
        refine g_goto rfl ?_
        exact ih (x + 1) _ _ hL2 hF2 hG2 (by omega) (by omega)
set_option maxRecDepth 20000 in
theorem r_lay_f {pr : aC} {d : Nat} {u0 : rS} (t tk n : Nat) (H : Nat → Nat → Bool) (f : Nat → Int32) (s : Nat) (hs : s < 4) (hn : n ≤ 4) (hF : fSt H f s 52 n) (hG : gSt H f s) {Q : Option Value → rS → Prop} (hQ : ∀ u, lSt u0 u → gSt H (u.2 48) (s + 1) → rB pr (d + 4) cd_206 (some .int) Q 81 [some (.ref 25), some (.int (nI t)), some (.int (nI tk)), some (.int (nI s)), some (.int (nI n)), some (.int (nI 4))] [] u) : ∀ (zz : Nat) (x : Nat) (u : rS) (hL : lSt u0 u) (h1 : ∀ k, k < n → u.2 48 (4 * s + k) = f (4 * s + k)) (h2 : ∀ k, n ≤ k → k < x → u.2 48 (4 * s + k) = -1) (h3 : ∀ j, j < 4 * s → u.2 48 j = f j) (hnx : n ≤ x) (hm : 4 - x < zz) (hx : x ≤ 4), rB pr (d + 4) cd_206 (Option.some Jvm.ClassFile.FieldType.int) Q 67 [some (.ref 25), some (.int (nI t)), some (.int (nI tk)), some (.int (nI s)), some (.int (nI n)), some (.int (nI x))] [] u := by
  intro zz
  induction zz with
  | zero => intro x u hL h1 h2 h3 hnx hm hx; exact absurd hm (by omega)
  | succ zz ih =>
    intro x u hL h1 h2 h3 hnx hm hx
    refine g_load rfl rfl rfl trivial ?_
    refine g_iconst (nI 4) rfl (by decide) ?_
    refine g_icmp_ge rfl (fun c1 => ?_) (fun c1 => ?_)
    · rw [nI_leI (by omega) (by omega)] at c1
      have hx4 : x = 4 := by omega
      subst hx4
      exact hQ u hL (fSt_end hF hG hn h1 h2 h3)
    · rw [nI_leI (by omega) (by omega)] at c1
      refine g_load rfl rfl rfl trivial ?_
      refine r_getf rfl rfl ?_
      refine g_iconst (nI 4) rfl (by decide) ?_
      refine g_load rfl rfl rfl trivial ?_
      refine g_imul rfl ?_
      refine g_load rfl rfl rfl trivial ?_
      refine g_iadd rfl ?_
      refine g_iconst (-1) rfl (by decide) ?_
      refine r_iasv (4 * s + x) rfl ⟨by decide, by decide, rfl⟩ (by rw [pk_mul, nI_add]) (by show _ < 16; omega) (fun v a1 b1 c1 d1 => ?_)
      refine g_iinc (nI (x + 1)) [some (.ref 25), some (.int (nI t)), some (.int (nI tk)), some (.int (nI s)), some (.int (nI n)), some (.int (nI (x + 1)))] rfl rfl (nI_1 x) rfl ?_
      refine g_goto rfl ?_
      refine ih (x + 1) v ⟨a1.trans hL.1, fun a q1 q2 => (b1 a q1).trans (hL.2 a q1 q2)⟩ (fun k hk => by rw [d1 _ (by omega)]; exact h1 k hk) (fun k hk hk2 => ?_) (fun j hj => by rw [d1 _ (by omega)]; exact h3 j hj) (by omega) (by omega) (by omega)
      by_cases q : k = x
      · subst q; exact c1
      · rw [d1 _ (by omega)]; exact h2 k hk (by omega)
set_option maxRecDepth 20000 in
theorem r_lay_s {pr : aC} {d : Nat} {u0 : rS} (t m nb tk : Nat) (H : Nat → Nat → Bool) (ht : t < 10) (h0 : u0.1 0 = nI nb) (hnb : nb ≤ 36) (hm0 : u0.2 32 t = nI m) (hm52 : m ≤ 52) (hH : H = hH u0 t m) (hle : ∀ s, s < 4 → hN H s ≤ 4) {Q : Option Value → rS → Prop} (hQ : ∀ u l4 l5, lSt u0 u → gSt H (u.2 48) 4 → rB pr (d + 4) cd_206 (some .int) Q 83 [some (.ref 25), some (.int (nI t)), some (.int (nI tk)), some (.int (nI 4)), l4, l5] [] u) : ∀ (zz : Nat) (s : Nat) (u : rS) (l4 l5 : Option Value) (hL : lSt u0 u) (hG : gSt H (u.2 48) s) (hm : 4 - s < zz) (hx : s ≤ 4), rB pr (d + 4) cd_206 (Option.some Jvm.ClassFile.FieldType.int) Q 36 [some (.ref 25), some (.int (nI t)), some (.int (nI tk)), some (.int (nI s)), l4, l5] [] u := by
  intro zz
  induction zz with
  | zero => intro s u l4 l5 hL hG hm hx; exact absurd hm (by omega)
  | succ zz ih =>
    intro s u l4 l5 hL hG hm hx
    refine g_load rfl rfl rfl trivial ?_
    refine g_iconst (nI 4) rfl (by decide) ?_
    refine g_icmp_ge rfl (fun c1 => ?_) (fun c1 => ?_)
    · rw [nI_leI (by omega) (by omega)] at c1
      have hx4 : s = 4 := by omega
      subst hx4
      exact hQ u l4 l5 hL hG
    · rw [nI_leI (by omega) (by omega)] at c1
      refine g_iconst (nI 0) rfl (by decide) ?_
      refine g_store [some (.ref 25), some (.int (nI t)), some (.int (nI tk)), some (.int (nI s)), some (.int (nI 0)), l5] rfl rfl trivial (Nat.le_of_ble_eq_true rfl) rfl ?_
      refine g_iconst (nI 0) rfl (by decide) ?_
      refine g_store [some (.ref 25), some (.int (nI t)), some (.int (nI tk)), some (.int (nI s)), some (.int (nI 0)), some (.int (nI 0))] rfl rfl trivial (Nat.le_of_ble_eq_true rfl) rfl ?_
      refine r_lay_i t m nb tk H ht h0 hnb hm0 hm52 hH hle s (by omega) (fun u1 n hL1 hF1 hG1 => ?_) 53 0 u 0 hL ⟨rfl, fun k hk => absurd hk (by omega), fun c hc => absurd hc (by omega), fun k k' c hk => absurd hk (by omega)⟩ hG (by omega) (by omega)
      have hn4 : n ≤ 4 := by have h1 := hle s (by omega); have h2 : n = hN H s := hF1.1; omega
      refine g_load rfl rfl rfl trivial ?_
      refine g_store [some (.ref 25), some (.int (nI t)), some (.int (nI tk)), some (.int (nI s)), some (.int (nI n)), some (.int (nI n))] rfl rfl trivial (Nat.le_of_ble_eq_true rfl) rfl ?_
      refine r_lay_f (u0 := u0) t tk n H (u1.2 48) s (by omega) hn4 hF1 hG1 (fun u2 hL2 hG2 => ?_) 5 n u1 hL1 (fun _ _ => rfl) (fun k h1 h2 => absurd h1 (by omega)) (fun _ _ => rfl) (by omega) (by omega) (by omega)
      refine g_iinc (nI (s + 1)) [some (.ref 25), some (.int (nI t)), some (.int (nI tk)), some (.int (nI (s + 1))), some (.int (nI n)), some (.int (nI 4))] rfl rfl (nI_1 s) rfl ?_
      refine g_goto rfl ?_
      exact ih (s + 1) u2 _ _ hL2 hG2 (by omega) (by omega)
set_option maxRecDepth 20000 in
theorem r_lay_t {pr : aC} {d : Nat} {u0 : rS} (t m tk j : Nat) (H : Nat → Nat → Bool) (ht : t < 10) (hm0 : u0.2 32 t = nI m) (hm52 : m ≤ 52) (h26 : u0.1 26 = nI j) (hj : j ≤ m) (hj4 : m - j < 4) {Q : Option Value → rS → Prop} (hQ : ∀ u, lSt u0 u → sRep (u.2 48) H → (∀ k, k < m - j → u.2 49 k = gf u0 t (j + k)) → Q (some (.int (nI tk))) u) : ∀ (zz : Nat) (x : Nat) (u : rS) (l4 l5 : Option Value) (hL : lSt u0 u) (hR : sRep (u.2 48) H) (hT : ∀ k, k < x → u.2 49 k = gf u0 t (j + k)) (hm : m - j - x < zz) (hx : x ≤ m - j), rB pr (d + 4) cd_206 (Option.some Jvm.ClassFile.FieldType.int) Q 86 [some (.ref 25), some (.int (nI t)), some (.int (nI tk)), some (.int (nI (j + x))), l4, l5] [] u := by
  intro zz
  induction zz with
  | zero => intro x u l4 l5 hL hR hT hm hx; exact absurd hm (by omega)
  | succ zz ih =>
    intro x u l4 l5 hL hR hT hm hx
    refine g_load rfl rfl rfl trivial ?_
    refine g_load rfl rfl rfl trivial ?_
    refine r_getf rfl rfl ?_
    refine g_load rfl rfl rfl trivial ?_
    refine r_ia (t) rfl ⟨by decide, by decide, rfl⟩ rfl (by show _ < 10; omega) ?_
    rw [hL.2 32 (by decide) (by decide), hm0]
    refine g_icmp_ge rfl (fun c1 => ?_) (fun c1 => ?_)
    · rw [nI_leI (by omega) (by omega)] at c1
      have hxe : x = m - j := by omega
      subst hxe
      have hQ := hQ u hL hR hT
      refine g_load rfl rfl rfl trivial ?_
      refine g_vret rfl trivial ⟨rfl, rfl⟩ (Nat.le_refl _) (Nat.le_refl _) ?_
      exact hQ
    · rw [nI_leI (by omega) (by omega)] at c1
      refine g_load rfl rfl rfl trivial ?_
      refine r_getf rfl rfl ?_
      refine g_load rfl rfl rfl trivial ?_
      refine g_load rfl rfl rfl trivial ?_
      refine r_getf rfl rfl ?_
      refine g_isub rfl ?_
      refine g_load rfl rfl rfl trivial ?_
      refine r_getf rfl rfl ?_
      refine g_bipush (nI 52) rfl (by decide) ?_
      refine g_load rfl rfl rfl trivial ?_
      refine g_imul rfl ?_
      refine g_load rfl rfl rfl trivial ?_
      refine g_iadd rfl ?_
      refine r_ia (52 * t + (j + x)) rfl ⟨by decide, by decide, rfl⟩ (by rw [pk_mul, nI_add]) (by show _ < 520; omega) ?_
      refine r_iasv (x) rfl ⟨by decide, by decide, rfl⟩ (by rw [hL.1, h26, pk_sub (by omega)]; congr 1; omega) (by show _ < 4; omega) (fun v a1 b1 c1 d1 => ?_)
      refine g_iinc (nI (j + (x + 1))) [some (.ref 25), some (.int (nI t)), some (.int (nI tk)), some (.int (nI (j + (x + 1)))), l4, l5] rfl rfl (nI_1 (j + x)) rfl ?_
      refine g_goto rfl ?_
      refine ih (x + 1) v _ _ ⟨a1.trans hL.1, fun a q1 q2 => (b1 a q2).trans (hL.2 a q1 q2)⟩ (by rw [b1 48 (by decide)]; exact hR) (fun k hk => ?_) (by omega) (by omega)
      by_cases q : k = x
      · subst q; rw [c1, hL.2 34 (by decide) (by decide)]; rfl
      · rw [d1 k q]; exact hT k (by omega)
end
section
/-! ===== the reference: layOut, best, bestCard, claim ===== -/
def tkG (u : rS) (t m : Nat) : Nat → Int32 := fun k => gf u t (4 * (m / 4) + k)
def ldN (u : rS) (t b bd m : Nat) : Nat := ldF (gf u t) (stF (cf u t) b) ((dcN (cf u t) (bd % 4) b + 1) % 4) (m / 4)
theorem sVal_congr {tr sd : Nat} {H : Nat → Nat → Bool} {g g' : Nat → Int32} {ld mn t r : Nat} (hm : mn ≤ 4) (e : ∀ j, j < mn → g' j = g j) (h : sVal tr sd H g ld mn t r) : sVal tr sd H g' ld mn t r := by
  have hw : winF g' tr ld mn = winF g tr ld mn := by
    unfold winF
    by_cases q : mn = 0
    · rw [if_pos q, if_pos q]
    · rw [if_neg q, if_neg q, bst_congr (fun j hj => e j (by omega))]
  unfold sVal at h ⊢
  by_cases q4 : mn = 4
  · rw [if_pos q4] at h ⊢
    rw [q4] at hw
    rw [hw]; exact h
  · rw [if_neg q4] at h ⊢
    have hl : ledF g' mn = ledF g mn := by
      unfold ledF
      by_cases q : mn = 0
      · rw [if_pos q, if_pos q]
      · rw [if_neg q, if_neg q]; unfold cN; rw [e 0 (by omega)]
    have ht : topF g' tr mn = topF g tr mn := by
      unfold topF
      by_cases q : mn = 0
      · rw [if_pos q, if_pos q]
      · rw [if_neg q, if_neg q, bst_congr (fun j hj => e j (by omega))]
        have := bst_le g (nI tr) 0 (mn - 1)
        unfold cN; rw [e _ (by omega)]
    rw [hw, hl, ht]; exact h
/-- what layOut leaves -/
def laid (u v : rS) (t b bd m tr : Nat) : Prop := rSame u v ∧ sPre v (hH u t m) tr (dcN (cf u t) (bd % 4) b % 2) (ldN u t b bd m) (m % 4) (13 - m / 4) ∧ v.1 25 = nI (ldN u t b bd m) ∧ v.1 26 = nI (4 * (m / 4)) ∧ ∀ k, k < m % 4 → v.2 49 k = tkG u t m k
set_option maxRecDepth 20000 in
theorem r_layOut {pr : aC} {d : Nat} {u : rS} (t n b bd m : Nat) (ht : t < 10) (hc : u.2 31 t = nI n) (hn : n ≤ 340) (hb : last ge3 (cf u t) n = some b) (hbd : u.2 29 t = nI (bd + 1)) (hbd2 : bd < 36) (hm0 : u.2 32 t = nI m) (hm52 : m ≤ 52) (nb tr : Nat) (h0 : u.1 0 = nI nb) (hnb : nb ≤ 36) (hck : cdOk (gf u t) m) (hm1 : m < 52) (htr : stF (cf u t) b = nI tr) (htr5 : tr < 5) (hok : 13 - m / 4 ≤ 4 → sOk (hH u t m) (ldN u t b bd m) (m % 4) (13 - m / 4)) (hph : u.2 28 t = nI 2) {Q : Option Value → rS → Prop} (hN4 : 4 < 13 - m / 4 → ∀ v, rSame u v → Q (some (.int (-1))) v) (hQ : 13 - m / 4 ≤ 4 → ∀ v, laid u v t b bd m tr → Q (some (.int (nI (13 - m / 4)))) v) : rR pr (d + 5 + 1) 206 [.ref 25, .int (nI t)] u Q := by
  refine gR_of mi_206 rFr_rf rfl (Nat.le_of_ble_eq_true rfl) ?_
  show rB pr (d + 5) cd_206 (Option.some Jvm.ClassFile.FieldType.int) Q 0 [some (.ref 25), some (.int (nI t)), none, none, none, none] [] u
  refine g_load rfl rfl rfl trivial ?_
  refine g_load rfl rfl rfl trivial ?_
  refine g_virtI (a := 25) (ci := 8) (n := 1) [.int (nI t)] rFr_tr rfl rfl (by decide) rfl r_this rfl (Nat.le_of_ble_eq_true rfl) (Nat.le_refl _) (Nat.le_refl _) (r_phaseOf (nI t) ⟨_, rfl, ?_⟩)
  rw [phF_t ht, hph]
  refine g_iconst (nI 2) rfl (by decide) ?_
  refine g_icmp_eq rfl (fun c1 => ?_) (fun c1 => ?_)
  · refine g_load rfl rfl rfl trivial ?_
    refine g_load rfl rfl rfl trivial ?_
    refine g_virtV (a := 25) (ci := 8) (n := 1) [.int (nI t)] rFr_tr rfl rfl (by decide) rfl r_this rfl (Nat.le_of_ble_eq_true rfl) (Nat.le_refl _) (Nat.le_refl _) (r_goThrough t n b bd m ht hc hn hb hbd hbd2 hm0 hm52 (fun u1 hS hG => ⟨rfl, ?_⟩))
    refine g_bipush (nI 13) rfl (by decide) ?_
    refine g_load rfl rfl rfl trivial ?_
    refine r_getf rfl rfl ?_
    refine g_iconst (nI 4) rfl (by decide) ?_
    rw [hG.2.1]
    refine g_idiv rfl (by decide) ?_
    rw [pk_div (by omega) (by omega) (by omega), show 4 * (m / 4) / 4 = m / 4 by omega]
    refine g_isub rfl ?_
    rw [pk_sub (by omega)]
    refine g_store [some (.ref 25), some (.int (nI t)), some (.int (nI (13 - m / 4))), none, none, none] rfl rfl trivial (Nat.le_of_ble_eq_true rfl) rfl ?_
    refine g_load rfl rfl rfl trivial ?_
    refine g_iconst (nI 4) rfl (by decide) ?_
    refine g_icmp_le rfl (fun c2 => ?_) (fun c2 => ?_)
    · rw [nI_leI (by omega) (by omega)] at c2
      have hok := hok c2
      have hc1 : u1.2 31 t = nI n := by rw [hS.2.2.2 31 (by decide)]; exact hc
      have hb1 : last ge3 (cf u1 t) n = some b := by rw [rSame_cf hS]; exact hb
      have hbd1 : u1.2 29 t = nI (bd + 1) := by rw [hS.2.2.2 29 (by decide)]; exact hbd
      refine g_load rfl rfl rfl trivial ?_
      refine g_load rfl rfl rfl trivial ?_
      refine g_load rfl rfl rfl trivial ?_
      refine g_virtI (a := 25) (ci := 8) (n := 1) [.int (nI t)] rFr_tr rfl rfl (by decide) rfl r_this rfl (Nat.le_of_ble_eq_true rfl) (Nat.le_refl _) (Nat.le_refl _) (r_strain t n b ht hc1 hn hb1 ⟨_, rfl, ?_⟩)
      rw [rSame_cf hS, htr]
      refine r_putv rfl (by simp [rIs]) (fun v1 p2 pf po => ?_)
      refine g_load rfl rfl rfl trivial ?_
      refine g_load rfl rfl rfl trivial ?_
      refine g_load rfl rfl rfl trivial ?_
      have hcf1 : cf v1 t = cf u t := by rw [← rSame_cf hS]; unfold cf; rw [p2]
      refine g_virtI (a := 25) (ci := 8) (n := 1) [.int (nI t)] rFr_tr rfl rfl (by decide) rfl r_this rfl (Nat.le_of_ble_eq_true rfl) (Nat.le_refl _) (Nat.le_refl _) (r_declarer t n b bd ht (by rw [p2]; exact hc1) hn (by rw [hcf1]; exact hb) (by rw [p2]; exact hbd1) hbd2 ⟨_, rfl, ?_⟩)
      obtain ⟨hd1, hd4⟩ := dcF_N (dl := bd % 4) (last_lt hb).2
      rw [hcf1, hd1]
      refine g_iconst (nI 2) rfl (by decide) ?_
      refine g_irem rfl (by decide) ?_
      rw [pk_rem (by omega) (by omega) (by omega)]
      refine r_putv rfl (by simp [rIs]) (fun v2 q2 qf qo => ?_)
      refine g_iconst (nI 0) rfl (by decide) ?_
      refine g_store [some (.ref 25), some (.int (nI t)), some (.int (nI (13 - m / 4))), some (.int (nI 0)), none, none] rfl rfl trivial (Nat.le_of_ble_eq_true rfl) rfl ?_
      have hS2 : rSame u v2 := by
        refine hS.tr ⟨by rw [qo 0 (by decide), po 0 (by decide)], by rw [qo 1 (by decide), po 1 (by decide)], by rw [qo 22 (by decide), po 22 (by decide)], fun a _ => by rw [q2, p2]⟩
      have hHe : hH u t m = hH v2 t m := by
        funext s c
        exact (rSame_hd hS2 t m (nI s) (nI c)).symm
      have hle : ∀ s, s < 4 → hN (hH u t m) s ≤ 4 := by
        intro s hs
        have hg := hok.2.2.2.2.1 (by omega)
        obtain ⟨j, hj, ej⟩ : ∃ j, j < 4 ∧ ((ldN u t b bd m + m % 4) % 4 + j) % 4 = s := ⟨(s + 4 - (ldN u t b bd m + m % 4) % 4) % 4, by omega, by omega⟩
        have := hg.2.2.2 j hj
        rw [ej] at this
        rw [this]
        split <;> omega
      refine r_lay_s (u0 := v2) t m nb (13 - m / 4) (hH u t m) ht (hS2.1.trans h0) hnb (by rw [hS2.2.2.2 32 (by decide)]; exact hm0) hm52 hHe hle (fun w l4 l5 hL hG4 => ?_) 5 0 v2 none none ⟨rfl, fun _ _ _ => rfl⟩ ⟨fun s' k hs => absurd hs (by omega), fun s' c hs => absurd hs (by omega), fun s' k k' c hs => absurd hs (by omega)⟩ (by omega) (by omega)
      have h26 : v2.1 26 = nI (4 * (m / 4)) := by rw [qo 26 (by decide), po 26 (by decide)]; exact hG.2.1
      refine g_load rfl rfl rfl trivial ?_
      refine r_getf rfl rfl ?_
      rw [show w.1 26 = nI (4 * (m / 4)) by rw [hL.1]; exact h26]
      refine g_store [some (.ref 25), some (.int (nI t)), some (.int (nI (13 - m / 4))), some (.int (nI (4 * (m / 4) + 0))), l4, l5] rfl rfl trivial (Nat.le_of_ble_eq_true rfl) rfl ?_
      refine r_lay_t (u0 := v2) t m (13 - m / 4) (4 * (m / 4)) (hH u t m) ht (by rw [hS2.2.2.2 32 (by decide)]; exact hm0) hm52 h26 (by omega) (by omega) (fun x hLx hR hT => ?_) 5 0 w l4 l5 hL (gSt_rep hG4) (fun k hk => absurd hk (by omega)) (by omega) (by omega)
      have hmm : m - 4 * (m / 4) = m % 4 := by omega
      rw [hmm] at hT
      have hT2 : ∀ k, k < m % 4 → x.2 49 k = tkG u t m k := fun k hk => by rw [hT k hk, rSame_gf hS2]; rfl
      refine hQ (by omega) x ⟨hS2.tr hLx.rS, ⟨?_, ?_, htr5, by omega, hR, hok, fun j hj => ?_⟩, ?_, ?_, hT2⟩
      · rw [hLx.1, qo 29 (by decide), pf]
      · rw [hLx.1, qf]
      · have := hck (4 * (m / 4) + j) (by omega)
        exact ⟨_, this.1, by rw [hT2 j hj]; exact this.2⟩
      · rw [hLx.1, qo 25 (by decide), po 25 (by decide)]; exact hG.1
      · rw [hLx.1]; exact h26
    · rw [nI_leI (by omega) (by omega)] at c2
      have hQ := hN4 (by omega) u1 hS
      refine g_iconst (-1) rfl (by decide) ?_
      refine g_vret rfl trivial ⟨rfl, rfl⟩ (Nat.le_refl _) (Nat.le_refl _) ?_
      exact hQ
  · exact absurd rfl c1
set_option maxRecDepth 20000 in
theorem r_layOut_n {pr : aC} {d : Nat} {u : rS} (t : Int32) (hph : ¬ phF u t = nI 2) {Q : Option Value → rS → Prop} (hQ : Q (some (.int (-1))) u) : rR pr (d + 5 + 1) 206 [.ref 25, .int t] u Q := by
  refine gR_of mi_206 rFr_rf rfl (Nat.le_of_ble_eq_true rfl) ?_
  show rB pr (d + 5) cd_206 (Option.some Jvm.ClassFile.FieldType.int) Q 0 [some (.ref 25), some (.int t), none, none, none, none] [] u
  refine g_load rfl rfl rfl trivial ?_
  refine g_load rfl rfl rfl trivial ?_
  refine g_virtI (a := 25) (ci := 8) (n := 1) [.int t] rFr_tr rfl rfl (by decide) rfl r_this rfl (Nat.le_of_ble_eq_true rfl) (Nat.le_refl _) (Nat.le_refl _) (r_phaseOf t ⟨_, rfl, ?_⟩)
  refine g_iconst (nI 2) rfl (by decide) ?_
  refine g_icmp_eq rfl (fun c1 => ?_) (fun c1 => ?_)
  · exact absurd c1 hph
  · refine g_iconst (-1) rfl (by decide) ?_
    refine g_vret rfl trivial ⟨rfl, rfl⟩ (Nat.le_refl _) (Nat.le_refl _) ?_
    exact hQ
set_option maxRecDepth 20000 in
theorem r_best {pr : aC} {d : Nat} {u : rS} (t n b bd m : Nat) (ht : t < 10) (hc : u.2 31 t = nI n) (hn : n ≤ 340) (hb : last ge3 (cf u t) n = some b) (hbd : u.2 29 t = nI (bd + 1)) (hbd2 : bd < 36) (hm0 : u.2 32 t = nI m) (hm52 : m ≤ 52) (nb tr : Nat) (h0 : u.1 0 = nI nb) (hnb : nb ≤ 36) (hck : cdOk (gf u t) m) (hm1 : m < 52) (htr : stF (cf u t) b = nI tr) (htr5 : tr < 5) (hok : 13 - m / 4 ≤ 4 → sOk (hH u t m) (ldN u t b bd m) (m % 4) (13 - m / 4)) (hph : u.2 28 t = nI 2) {Q : Option Value → rS → Prop} (hN4 : 4 < 13 - m / 4 → ∀ v, rSame u v → Q (some (.int (-1))) v) (hQ : 13 - m / 4 ≤ 4 → ∀ v r, rSame u v → r ≤ 4 → sVal tr (dcN (cf u t) (bd % 4) b % 2) (hH u t m) (tkG u t m) (ldN u t b bd m) (m % 4) (13 - m / 4) r → Q (some (.int (nI r))) v) : rR pr (d + 40 + 1) 207 [.ref 25, .int (nI t)] u Q := by
  refine gR_of mi_207 rFr_rf rfl (Nat.le_of_ble_eq_true rfl) ?_
  show rB pr (d + 40) cd_207 (Option.some Jvm.ClassFile.FieldType.int) Q 0 [some (.ref 25), some (.int (nI t)), none] [] u
  refine g_load rfl rfl rfl trivial ?_
  refine g_load rfl rfl rfl trivial ?_
  refine g_virtI (a := 25) (ci := 8) (n := 1) [.int (nI t)] rFr_tr rfl rfl (by decide) rfl r_this rfl (Nat.le_of_ble_eq_true rfl) (Nat.le_refl _) (Nat.le_refl _) (r_layOut (d := d + 34) t n b bd m ht hc hn hb hbd hbd2 hm0 hm52 nb tr h0 hnb hck hm1 htr htr5 hok hph (fun h4 v hS => ⟨_, rfl, ?_⟩) (fun h4 v hL => ⟨_, rfl, ?_⟩))
  · refine g_store [some (.ref 25), some (.int (nI t)), some (.int (-1))] rfl rfl trivial (Nat.le_of_ble_eq_true rfl) rfl ?_
    refine g_load rfl rfl rfl trivial ?_
    refine g_iconst (-1) rfl (by decide) ?_
    refine g_icmp_ne rfl (fun c1 => absurd rfl c1) (fun c1 => ?_)
    refine g_iconst (-1) rfl (by decide) ?_
    refine g_goto rfl ?_
    exact g_vret rfl trivial ⟨rfl, rfl⟩ (Nat.le_refl _) (Nat.le_refl _) (hN4 h4 v hS)
  obtain ⟨hS, hP, h25, h26, hT⟩ := hL
  refine g_store [some (.ref 25), some (.int (nI t)), some (.int (nI (13 - m / 4)))] rfl rfl trivial (Nat.le_of_ble_eq_true rfl) rfl ?_
  refine g_load rfl rfl rfl trivial ?_
  refine g_iconst (-1) rfl (by decide) ?_
  refine g_icmp_ne rfl (fun c1 => ?_) (fun c1 => ?_)
  · refine g_load rfl rfl rfl trivial ?_
    refine g_load rfl rfl rfl trivial ?_
    refine r_getf rfl rfl ?_
    refine g_load rfl rfl rfl trivial ?_
    refine r_getf rfl rfl ?_
    refine g_load rfl rfl rfl trivial ?_
    refine r_ia (t) rfl ⟨by decide, by decide, rfl⟩ rfl (by show _ < 10; omega) ?_
    rw [h25, hS.2.2.2 32 (by decide), hm0]
    refine g_load rfl rfl rfl trivial ?_
    refine r_getf rfl rfl ?_
    rw [h26]
    refine g_isub rfl ?_
    rw [pk_sub (by omega), show m - 4 * (m / 4) = m % 4 by omega]
    refine g_load rfl rfl rfl trivial ?_
    obtain ⟨dd, hdd⟩ : ∃ dd, d + 40 = dd + (5 * (13 - m / 4) - m % 4) + 4 := ⟨d + 36 - (5 * (13 - m / 4) - m % 4), by omega⟩
    have IHs := r_search (pr := pr) dd (5 * (13 - m / 4) - m % 4)
    rw [← hdd] at IHs
    refine g_virtI (a := 25) (ci := 8) (n := 3) [.int (nI (ldN u t b bd m)), .int (nI (m % 4)), .int (nI (13 - m / 4))] rFr_tr rfl rfl (by decide) rfl r_this rfl (Nat.le_of_ble_eq_true rfl) (Nat.le_refl _) (Nat.le_refl _) (IHs v _ _ _ _ _ _ rfl hP _ (fun w r hW hrt hV => ⟨_, rfl, ?_⟩))
    refine g_vret rfl trivial ⟨rfl, rfl⟩ (Nat.le_refl _) (Nat.le_refl _) ?_
    exact hQ h4 w r (hS.tr ⟨by rw [hW.1], by rw [hW.1], by rw [hW.1], fun a ha => hW.2.1 a (by omega) (by omega)⟩) (by omega) (sVal_congr (by omega) (fun j hj => (hT j hj).symm) hV)
  · exact absurd c1 (nI_m1 (by omega))
set_option maxRecDepth 20000 in
theorem r_best_n {pr : aC} {d : Nat} {u : rS} (t : Int32) (hph : ¬ phF u t = nI 2) {Q : Option Value → rS → Prop} (hQ : Q (some (.int (-1))) u) : rR pr (d + 6 + 1) 207 [.ref 25, .int t] u Q := by
  refine gR_of mi_207 rFr_rf rfl (Nat.le_of_ble_eq_true rfl) ?_
  show rB pr (d + 6) cd_207 (Option.some Jvm.ClassFile.FieldType.int) Q 0 [some (.ref 25), some (.int t), none] [] u
  refine g_load rfl rfl rfl trivial ?_
  refine g_load rfl rfl rfl trivial ?_
  refine g_virtI (a := 25) (ci := 8) (n := 1) [.int t] rFr_tr rfl rfl (by decide) rfl r_this rfl (Nat.le_of_ble_eq_true rfl) (Nat.le_refl _) (Nat.le_refl _) (r_layOut_n t hph ⟨_, rfl, ?_⟩)
  refine g_store [some (.ref 25), some (.int t), some (.int (-1))] rfl rfl trivial (Nat.le_of_ble_eq_true rfl) rfl ?_
  refine g_load rfl rfl rfl trivial ?_
  refine g_iconst (-1) rfl (by decide) ?_
  refine g_icmp_ne rfl (fun c1 => ?_) (fun c1 => ?_)
  · exact absurd rfl c1
  · refine g_iconst (-1) rfl (by decide) ?_
    refine g_goto rfl ?_
    refine g_vret rfl trivial ⟨rfl, rfl⟩ (Nat.le_refl _) (Nat.le_refl _) ?_
    exact hQ
end
section
/-! ===== the reference: bestCard, claim ===== -/
/-- a card out of the places -/
def outF (f : Nat → Int32) (c x : Nat) : Nat → Int32 := fun j => if j < x ∧ f j = nI c then -1 else f j
theorem sRep_out {f : Nat → Int32} {H : Nat → Nat → Bool} {s c : Nat} (h : sRep f H) (hs : s < 4) (hc : c < 52) (hh : H s c = true) (ho : ∀ s', s' < 4 → H s' c = true → s' = s) : sRep (outF f c 16) (gRm H s c) := by
  obtain ⟨k, hk, ek⟩ := h.2.1 s c hs hc hh
  refine sRep_congr (h.rm hs hk hc ek) (fun j hj => ?_)
  unfold outF upd
  by_cases q : f j = nI c
  · have hje : j = 4 * (j / 4) + j % 4 := by omega
    have hq : f (4 * (j / 4) + j % 4) = nI c := by rw [← hje]; exact q
    have hH : H (j / 4) c = true := by
      rcases h.1 (j / 4) (j % 4) (by omega) (by omega) with z | ⟨c', z1, z2, z3⟩
      · rw [hq] at z; exact absurd z (nI_m1 (by omega))
      · rw [hq, nI_eq (by omega) (by omega)] at z2; subst z2; exact z3
    have e1 := ho _ (by omega) hH
    have e2 := h.2.2 s (j % 4) k c hs (by omega) hk hc (by rw [← e1]; exact hq) ek
    have e3 : j = 4 * s + k := by omega
    rw [if_pos ⟨hj, q⟩]
    simp [e3]
  · have e3 : ¬ j = 4 * s + k := fun e => q (by rw [e]; exact ek)
    rw [if_neg (fun z => q z.2)]
    simp [e3]
theorem hH_one {u : rS} {t m s s' c : Nat} (hs : s < 4) (hs' : s' < 4) (h : hH u t m s c = true) (h' : hH u t m s' c = true) : s' = s := by
  unfold hH hdF at h h'
  simp only [Bool.and_eq_true, decide_eq_true_eq] at h h'
  have := h.1.symm.trans h'.1
  rw [nI_eq (by omega) (by omega)] at this
  exact this.symm
theorem gVc_inj {tr sd n : Nat} {H : Nat → Nat → Bool} {s k : Nat} {led : Option Nat} {top w c r r' : Nat} (h : gVc tr sd n H s k led top w c r) (h' : gVc tr sd n H s k led top w c r') : r = r' :=
  Nat.le_antisymm ((h' r).1 ((h r).2 (Nat.le_refl r))) ((h r').1 ((h' r').2 (Nat.le_refl r')))
/-- the least card of a kind, or none -/
def bcO (P : Nat → Prop) (o : Int32) : Prop := (∃ c, c < 52 ∧ P c ∧ (∀ c', c' < c → ¬ P c') ∧ o = nI c) ∨ ((∀ c, c < 52 → ¬ P c) ∧ o = -1)
/-- the cards that hold what is due -/
def bcP (u : rS) (t b bd m tr r : Nat) (c : Nat) : Prop := mpF u t m (seatF u t b bd m) (nI c) = true ∧ gVc tr (dcN (cf u t) (bd % 4) b % 2) (4 * (13 - m / 4) - m % 4 - 1) (hH u t m) (seatF u t b bd m) (m % 4) (ledF (tkG u t m) (m % 4)) (topF (tkG u t m) tr (m % 4)) (winF (tkG u t m) tr (ldN u t b bd m) (m % 4)) c r
theorem mpF_h {u : rS} {t m s c : Nat} (h : mpF u t m s (nI c) = true) : hH u t m s c = true := by
  unfold mpF at h
  simp only [Bool.and_eq_true] at h
  exact h.2.1
theorem rSame_mp {u u' : rS} (h : rSame u u') (t m s : Nat) (c : Int32) : mpF u' t m s c = mpF u t m s c := by
  have e : ∀ s c, hdF u' t m s c = hdF u t m s c := rSame_hd h t m
  unfold mpF
  simp only [e, rSame_gf h]
theorem rSame.sy {u u' : rS} (h : rSame u u') : rSame u' u := ⟨h.1.symm, h.2.1.symm, h.2.2.1.symm, fun a ha => (h.2.2.2 a ha).symm⟩
theorem rSame_seat {u u' : rS} (h : rSame u u') (t b bd m : Nat) : seatF u' t b bd m = seatF u t b bd m := by
  unfold seatF; rw [rSame_cf h, rSame_gf h]
theorem rSame_hH {u u' : rS} (h : rSame u u') (t m : Nat) : hH u' t m = hH u t m := by
  funext s c; exact rSame_hd h t m _ _
theorem rSame_ldN {u u' : rS} (h : rSame u u') (t b bd m : Nat) : ldN u' t b bd m = ldN u t b bd m := by
  unfold ldN; rw [rSame_cf h, rSame_gf h]
theorem rSame_tkG {u u' : rS} (h : rSame u u') (t m : Nat) : tkG u' t m = tkG u t m := by
  unfold tkG; rw [rSame_gf h]
set_option maxRecDepth 20000 in
theorem r_bc_i {pr : aC} {d : Nat} {u0 : rS} (t r c T mn : Nat) {Q : Option Value → rS → Prop} (hQ : ∀ v, v.1 = u0.1 → (∀ a, a ≠ 48 → v.2 a = u0.2 a) → v.2 48 = outF (u0.2 48) c 16 → rB pr (d + 41) cd_208 (some .int) Q 50 [some (.ref 25), some (.int (nI t)), some (.int (nI r)), some (.int (nI c)), some (.int (nI T)), some (.int (nI mn)), some (.int (nI 16))] [] v) : ∀ (zz : Nat) (x : Nat) (u : rS) (h1 : u.1 = u0.1) (h2 : ∀ a, a ≠ 48 → u.2 a = u0.2 a) (h3 : u.2 48 = outF (u0.2 48) c x) (hm : 16 - x < zz) (hx : x ≤ 16), rB pr (d + 41) cd_208 (Option.some Jvm.ClassFile.FieldType.int) Q 34 [some (.ref 25), some (.int (nI t)), some (.int (nI r)), some (.int (nI c)), some (.int (nI T)), some (.int (nI mn)), some (.int (nI x))] [] u := by
  intro zz
  induction zz with
  | zero => intro x u h1 h2 h3 hm hx; exact absurd hm (by omega)
  | succ zz ih =>
    intro x u h1 h2 h3 hm hx
    refine g_load rfl rfl rfl trivial ?_
    refine g_bipush (nI 16) rfl (by decide) ?_
    refine g_icmp_ge rfl (fun c1 => ?_) (fun c1 => ?_)
    · rw [nI_leI (by omega) (by omega)] at c1
      have hx16 : x = 16 := by omega
      subst hx16
      exact hQ u h1 h2 h3
    · rw [nI_leI (by omega) (by omega)] at c1
      refine g_load rfl rfl rfl trivial ?_
      refine r_getf rfl rfl ?_
      refine g_load rfl rfl rfl trivial ?_
      refine r_ia (x) rfl ⟨by decide, by decide, rfl⟩ rfl (by show _ < 16; omega) ?_
      refine g_load rfl rfl rfl trivial ?_
      refine g_icmp_ne rfl (fun c2 => ?_) (fun c2 => ?_)
      · have hv1 := h1
        have hv2 := h2
        have hv3 : u.2 48 = outF (u0.2 48) c (x + 1) := by
          rw [h3] at c2 ⊢
          funext j
          unfold outF at c2 ⊢
          by_cases q : j = x
          · subst q
            rw [if_neg (by omega)] at c2
            rw [if_neg (by omega), if_neg (fun z => c2 z.2)]
          · by_cases q2 : j < x
            · simp [q2, show j < x + 1 by omega]
            · simp [q2, show ¬ j < x + 1 by omega]
        refine g_iinc (nI (x + 1)) [some (.ref 25), some (.int (nI t)), some (.int (nI r)), some (.int (nI c)), some (.int (nI T)), some (.int (nI mn)), some (.int (nI (x + 1)))] rfl rfl (nI_1 x) rfl ?_
        refine g_goto rfl ?_
        exact ih (x + 1) _ hv1 hv2 hv3 (by omega) (by omega)
      · refine g_load rfl rfl rfl trivial ?_
        refine r_getf rfl rfl ?_
        refine g_load rfl rfl rfl trivial ?_
        refine g_iconst (-1) rfl (by decide) ?_
        refine r_iasv (x) rfl ⟨by decide, by decide, rfl⟩ rfl (by show _ < 16; omega) (fun v a1 b1 c1' d1 => ?_)
        have hv1 : v.1 = u0.1 := a1.trans h1
        have hv2 : ∀ a, a ≠ 48 → v.2 a = u0.2 a := fun a ha => (b1 a ha).trans (h2 a ha)
        have hv3 : v.2 48 = outF (u0.2 48) c (x + 1) := by
          have c2' := c2
          rw [h3] at c2'
          funext j
          by_cases q : j = x
          · subst q
            rw [c1']
            unfold outF at c2' ⊢
            rw [if_neg (by omega)] at c2'
            rw [if_pos ⟨by omega, c2'⟩]
          · rw [d1 j q, h3]
            unfold outF
            by_cases q2 : j < x
            · simp [q2, show j < x + 1 by omega]
            · simp [q2, show ¬ j < x + 1 by omega]
        refine g_iinc (nI (x + 1)) [some (.ref 25), some (.int (nI t)), some (.int (nI r)), some (.int (nI c)), some (.int (nI T)), some (.int (nI mn)), some (.int (nI (x + 1)))] rfl rfl (nI_1 x) rfl ?_
        refine g_goto rfl ?_
        exact ih (x + 1) _ hv1 hv2 hv3 (by omega) (by omega)
set_option maxRecDepth 20000 in
theorem r_bc_c {pr : aC} {d : Nat} {u0 : rS} (t n b bd m : Nat) (ht : t < 10) (hc : u0.2 31 t = nI n) (hn : n ≤ 340) (hb : last ge3 (cf u0 t) n = some b) (hbd : u0.2 29 t = nI (bd + 1)) (hbd2 : bd < 36) (hm0 : u0.2 32 t = nI m) (hm52 : m ≤ 52) (nb tr : Nat) (h0 : u0.1 0 = nI nb) (hnb : nb ≤ 36) (hck : cdOk (gf u0 t) m) (hm1 : m < 52) (htr : stF (cf u0 t) b = nI tr) (htr5 : tr < 5) (hok : 13 - m / 4 ≤ 4 → sOk (hH u0 t m) (ldN u0 t b bd m) (m % 4) (13 - m / 4)) (hph : u0.2 28 t = nI 2) (h4 : 13 - m / 4 ≤ 4) (r : Nat) {Q : Option Value → rS → Prop} (hQ : ∀ v o, rSame u0 v → bcO (bcP u0 t b bd m tr r) o → Q (some (.int o)) v) : ∀ (zz : Nat) (x : Nat) (u : rS) (l4 l5 l6 : Option Value) (hS : rSame u0 u) (hno : ∀ c, c < x → ¬ bcP u0 t b bd m tr r c) (hm : 52 - x < zz) (hx : x ≤ 52) (hr4 : r ≤ 4), rB pr (d + 41) cd_208 (Option.some Jvm.ClassFile.FieldType.int) Q 11 [some (.ref 25), some (.int (nI t)), some (.int (nI r)), some (.int (nI x)), l4, l5, l6] [] u := by
  intro zz
  induction zz with
  | zero => intro x u l4 l5 l6 hS hno hm hx hr4; exact absurd hm (by omega)
  | succ zz ih =>
    intro x u l4 l5 l6 hS hno hm hx hr4
    refine g_load rfl rfl rfl trivial ?_
    refine g_bipush (nI 52) rfl (by decide) ?_
    refine g_icmp_ge rfl (fun c1 => ?_) (fun c1 => ?_)
    · rw [nI_leI (by omega) (by omega)] at c1
      have hQ := hQ u (-1) hS (Or.inr ⟨fun c hc => hno c (by omega), rfl⟩)
      refine g_iconst (-1) rfl (by decide) ?_
      refine g_vret rfl trivial ⟨rfl, rfl⟩ (Nat.le_refl _) (Nat.le_refl _) ?_
      exact hQ
    · rw [nI_leI (by omega) (by omega)] at c1
      have hc1 : u.2 31 t = nI n := by rw [hS.2.2.2 31 (by decide)]; exact hc
      have hb1 : last ge3 (cf u t) n = some b := by rw [rSame_cf hS]; exact hb
      have hbd1 : u.2 29 t = nI (bd + 1) := by rw [hS.2.2.2 29 (by decide)]; exact hbd
      have hm1' : u.2 32 t = nI m := by rw [hS.2.2.2 32 (by decide)]; exact hm0
      have hph1 : u.2 28 t = nI 2 := by rw [hS.2.2.2 28 (by decide)]; exact hph
      have hck1 : cdOk (gf u t) m := by rw [rSame_gf hS]; exact hck
      have hok1 : 13 - m / 4 ≤ 4 → sOk (hH u t m) (ldN u t b bd m) (m % 4) (13 - m / 4) := by rw [rSame_hH hS, rSame_ldN hS]; exact hok
      refine g_load rfl rfl rfl trivial ?_
      refine g_load rfl rfl rfl trivial ?_
      refine g_load rfl rfl rfl trivial ?_
      refine g_virtI (a := 25) (ci := 8) (n := 2) [.int (nI t), .int (nI x)] rFr_tr rfl rfl (by decide) rfl r_this rfl (Nat.le_of_ble_eq_true rfl) (Nat.le_refl _) (Nat.le_refl _) (r_mayPlay (d := d + 34) t n b bd m ht hc1 hn hb1 hbd1 hbd2 hm1' hm52 nb (nI x) (hS.1.trans h0) hnb (by rw [hph1]; decide) hck1 (fun u2 hS2 => ⟨_, rfl, ?_⟩))
      have hS3 := hS.tr hS2
      rw [rSame_mp hS, rSame_seat hS]
      refine g_if_ne rfl (fun c2 => ?_) (fun c2 => ?_)
      · rw [bI_ne] at c2
        have hH1 := mpF_h c2
        have hse : seatF u0 t b bd m = (ldN u0 t b bd m + m % 4) % 4 := rfl
        refine g_load rfl rfl rfl trivial ?_
        refine g_load rfl rfl rfl trivial ?_
        refine g_virtI (a := 25) (ci := 8) (n := 1) [.int (nI t)] rFr_tr rfl rfl (by decide) rfl r_this rfl (Nat.le_of_ble_eq_true rfl) (Nat.le_refl _) (Nat.le_refl _) (r_layOut (d := d + 35) t n b bd m ht (by rw [hS3.2.2.2 31 (by decide)]; exact hc) hn (by rw [rSame_cf hS3]; exact hb) (by rw [hS3.2.2.2 29 (by decide)]; exact hbd) hbd2 (by rw [hS3.2.2.2 32 (by decide)]; exact hm0) hm52 nb tr (hS3.1.trans h0) hnb (by rw [rSame_gf hS3]; exact hck) hm1 (by rw [rSame_cf hS3]; exact htr) htr5 (by rw [rSame_hH hS3, rSame_ldN hS3]; exact hok) (by rw [hS3.2.2.2 28 (by decide)]; exact hph) (fun h4' => absurd h4 (by omega)) (fun _ v hL => ⟨_, rfl, ?_⟩))
        obtain ⟨hSv, hP, h25, h26, hT⟩ := hL
        have hS4 := hS3.tr hSv
        rw [rSame_hH hS3, rSame_cf hS3, rSame_ldN hS3] at hP
        rw [rSame_ldN hS3] at h25
        rw [rSame_tkG hS3] at hT
        refine g_store [some (.ref 25), some (.int (nI t)), some (.int (nI r)), some (.int (nI x)), some (.int (nI (13 - m / 4))), l5, l6] rfl rfl trivial (Nat.le_of_ble_eq_true rfl) rfl ?_
        refine g_load rfl rfl rfl trivial ?_
        refine r_getf rfl rfl ?_
        refine g_load rfl rfl rfl trivial ?_
        refine r_ia (t) rfl ⟨by decide, by decide, rfl⟩ rfl (by show _ < 10; omega) ?_
        rw [hS4.2.2.2 32 (by decide), hm0]
        refine g_load rfl rfl rfl trivial ?_
        refine r_getf rfl rfl ?_
        rw [h26]
        refine g_isub rfl ?_
        rw [pk_sub (by omega), show m - 4 * (m / 4) = m % 4 by omega]
        refine g_store [some (.ref 25), some (.int (nI t)), some (.int (nI r)), some (.int (nI x)), some (.int (nI (13 - m / 4))), some (.int (nI (m % 4))), l6] rfl rfl trivial (Nat.le_of_ble_eq_true rfl) rfl ?_
        refine g_iconst (nI 0) rfl (by decide) ?_
        refine g_store [some (.ref 25), some (.int (nI t)), some (.int (nI r)), some (.int (nI x)), some (.int (nI (13 - m / 4))), some (.int (nI (m % 4))), some (.int (nI 0))] rfl rfl trivial (Nat.le_of_ble_eq_true rfl) rfl ?_
        refine r_bc_i (u0 := v) t r x (13 - m / 4) (m % 4) (fun y y1 y2 y3 => ?_) 17 0 v rfl (fun _ _ => rfl) (by funext j; unfold outF; simp) (by omega) (by omega)
        refine g_load rfl rfl rfl trivial ?_
        refine r_getf rfl rfl ?_
        refine g_load rfl rfl rfl trivial ?_
        refine g_load rfl rfl rfl trivial ?_
        refine r_iasv (m % 4) rfl ⟨by decide, by decide, rfl⟩ rfl (by show _ < 4; omega) (fun w a1 b1 c1' d1 => ?_)
        have hw25 : w.1 25 = nI (ldN u0 t b bd m) := by rw [a1, y1]; exact h25
        have hPw : sPre w (gRm (hH u0 t m) (seatF u0 t b bd m) x) tr (dcN (cf u0 t) (bd % 4) b % 2) (ldN u0 t b bd m) (m % 4 + 1) (13 - m / 4) := by
          obtain ⟨p1, p2, p3, p4, p5, p6, p7⟩ := hP
          refine ⟨by rw [a1, y1]; exact p1, by rw [a1, y1]; exact p2, p3, p4, ?_, sOk_n p6 (by omega) (by omega) hH1, fun j hj => ?_⟩
          · rw [b1 48 (by decide), y3]
            exact sRep_out p5 (by rw [hse]; omega) (by omega) hH1 (fun s' hs' h' => hH_one (by rw [hse]; omega) hs' hH1 h')
          · by_cases q : j = m % 4
            · subst q; exact ⟨x, by omega, c1'⟩
            · obtain ⟨c', z1, z2⟩ := p7 j (by omega)
              exact ⟨c', z1, by rw [d1 j q, y2 49 (by decide)]; exact z2⟩
        refine g_load rfl rfl rfl trivial ?_
        refine g_load rfl rfl rfl trivial ?_
        refine r_getf rfl rfl ?_
        refine g_load rfl rfl rfl trivial ?_
        refine g_iconst (nI 1) rfl (by decide) ?_
        rw [hw25]
        refine g_iadd rfl ?_
        rw [nI_add]
        refine g_load rfl rfl rfl trivial ?_
        obtain ⟨dd, hdd⟩ : ∃ dd, d + 41 = dd + (5 * (13 - m / 4) - (m % 4 + 1)) + 4 := ⟨d + 37 - (5 * (13 - m / 4) - (m % 4 + 1)), by omega⟩
        have IHs := r_search (pr := pr) dd (5 * (13 - m / 4) - (m % 4 + 1))
        rw [← hdd] at IHs
        refine g_virtI (a := 25) (ci := 8) (n := 3) [.int (nI (ldN u0 t b bd m)), .int (nI (m % 4 + 1)), .int (nI (13 - m / 4))] rFr_tr rfl rfl (by decide) rfl r_this rfl (Nat.le_of_ble_eq_true rfl) (Nat.le_refl _) (Nat.le_refl _) (IHs w _ _ _ _ _ _ rfl hPw _ (fun w2 r2 hW hrt hV => ⟨_, rfl, ?_⟩))
        have hS5 : rSame u0 w2 := hS4.tr ⟨by rw [hW.1, a1, y1], by rw [hW.1, a1, y1], by rw [hW.1, a1, y1], fun a ha => by rw [hW.2.1 a (by omega) (by omega), b1 a (by omega), y2 a (by omega)]⟩
        have hVc := sVal_ch (g := tkG u0 t m) (ldF_lt (by omega) _) (by omega) htr5 (fun j hj => ⟨_, (hck (4 * (m / 4) + j) (by omega)).1, (hck (4 * (m / 4) + j) (by omega)).2⟩) (by omega) (fun j hj => by rw [d1 j (by omega), y2 49 (by decide)]; exact hT j hj) c1' hV
        refine g_load rfl rfl rfl trivial ?_
        refine g_icmp_ne rfl (fun c3 => ?_) (fun c3 => ?_)
        · have hno2 : ∀ c, c < x + 1 → ¬ bcP u0 t b bd m tr r c := by
            intro c' hc'
            by_cases q : c' = x
            · subst q; intro z; exact c3 (by rw [gVc_inj hVc z.2])
            · exact hno c' (by omega)
          have hS3 := hS5
          refine g_iinc (nI (x + 1)) [some (.ref 25), some (.int (nI t)), some (.int (nI r)), some (.int (nI (x + 1))), some (.int (nI (13 - m / 4))), some (.int (nI (m % 4))), some (.int (nI 16))] rfl rfl (nI_1 x) rfl ?_
          refine g_goto rfl ?_
          exact ih (x + 1) _ _ _ _ hS3 hno2 (by omega) (by omega) hr4
        · rw [nI_eq (by omega) (by omega)] at c3
          subst c3
          have hQ := hQ w2 (nI x) hS5 (Or.inl ⟨x, by omega, ⟨‹_›, hVc⟩, hno, rfl⟩)
          refine g_load rfl rfl rfl trivial ?_
          refine g_vret rfl trivial ⟨rfl, rfl⟩ (Nat.le_refl _) (Nat.le_refl _) ?_
          exact hQ
      · rw [bI_eq] at c2
        have hno2 : ∀ c, c < x + 1 → ¬ bcP u0 t b bd m tr r c := by
          intro c' hc'
          by_cases q : c' = x
          · subst q; intro z; exact absurd (c2.symm.trans z.1) (by decide)
          · exact hno c' (by omega)
        refine g_goto rfl ?_
        refine g_iinc (nI (x + 1)) [some (.ref 25), some (.int (nI t)), some (.int (nI r)), some (.int (nI (x + 1))), l4, l5, l6] rfl rfl (nI_1 x) rfl ?_
        refine g_goto rfl ?_
        exact ih (x + 1) _ _ _ _ hS3 hno2 (by omega) (by omega) hr4
set_option maxRecDepth 20000 in
theorem r_bestCard {pr : aC} {d : Nat} {u : rS} (t n b bd m : Nat) (ht : t < 10) (hc : u.2 31 t = nI n) (hn : n ≤ 340) (hb : last ge3 (cf u t) n = some b) (hbd : u.2 29 t = nI (bd + 1)) (hbd2 : bd < 36) (hm0 : u.2 32 t = nI m) (hm52 : m ≤ 52) (nb tr : Nat) (h0 : u.1 0 = nI nb) (hnb : nb ≤ 36) (hck : cdOk (gf u t) m) (hm1 : m < 52) (htr : stF (cf u t) b = nI tr) (htr5 : tr < 5) (hok : 13 - m / 4 ≤ 4 → sOk (hH u t m) (ldN u t b bd m) (m % 4) (13 - m / 4)) (hph : u.2 28 t = nI 2) {Q : Option Value → rS → Prop} (hN4 : 4 < 13 - m / 4 → ∀ v, rSame u v → Q (some (.int (-1))) v) (hQ : 13 - m / 4 ≤ 4 → ∀ v r o, rSame u v → r ≤ 4 → sVal tr (dcN (cf u t) (bd % 4) b % 2) (hH u t m) (tkG u t m) (ldN u t b bd m) (m % 4) (13 - m / 4) r → bcO (bcP u t b bd m tr r) o → Q (some (.int o)) v) : rR pr (d + 41 + 1) 208 [.ref 25, .int (nI t)] u Q := by
  refine gR_of mi_208 rFr_rf rfl (Nat.le_of_ble_eq_true rfl) ?_
  show rB pr (d + 41) cd_208 (Option.some Jvm.ClassFile.FieldType.int) Q 0 [some (.ref 25), some (.int (nI t)), none, none, none, none, none] [] u
  refine g_load rfl rfl rfl trivial ?_
  refine g_load rfl rfl rfl trivial ?_
  refine g_virtI (a := 25) (ci := 8) (n := 1) [.int (nI t)] rFr_tr rfl rfl (by decide) rfl r_this rfl (Nat.le_of_ble_eq_true rfl) (Nat.le_refl _) (Nat.le_refl _) (r_best (d := d) t n b bd m ht hc hn hb hbd hbd2 hm0 hm52 nb tr h0 hnb hck hm1 htr htr5 hok hph (fun h4 v hS => ⟨_, rfl, ?_⟩) (fun h4 v r hS hr4 hV => ⟨_, rfl, ?_⟩))
  · refine g_store [some (.ref 25), some (.int (nI t)), some (.int (-1)), none, none, none, none] rfl rfl trivial (Nat.le_of_ble_eq_true rfl) rfl ?_
    refine g_load rfl rfl rfl trivial ?_
    refine g_iconst (-1) rfl (by decide) ?_
    refine g_icmp_ne rfl (fun c1 => absurd rfl c1) (fun c1 => ?_)
    refine g_iconst (-1) rfl (by decide) ?_
    exact g_vret rfl trivial ⟨rfl, rfl⟩ (Nat.le_refl _) (Nat.le_refl _) (hN4 h4 v hS)
  refine g_store [some (.ref 25), some (.int (nI t)), some (.int (nI r)), none, none, none, none] rfl rfl trivial (Nat.le_of_ble_eq_true rfl) rfl ?_
  refine g_load rfl rfl rfl trivial ?_
  refine g_iconst (-1) rfl (by decide) ?_
  refine g_icmp_ne rfl (fun c1 => ?_) (fun c1 => ?_)
  · refine g_iconst (nI 0) rfl (by decide) ?_
    refine g_store [some (.ref 25), some (.int (nI t)), some (.int (nI r)), some (.int (nI 0)), none, none, none] rfl rfl trivial (Nat.le_of_ble_eq_true rfl) rfl ?_
    exact r_bc_c t n b bd m ht hc hn hb hbd hbd2 hm0 hm52 nb tr h0 hnb hck hm1 htr htr5 hok hph h4 r (fun w o hw ho => hQ h4 w r o hw hr4 hV ho) 53 0 v none none none hS (fun c hc => absurd hc (by omega)) (by omega) (by omega) hr4
  · exact absurd c1 (nI_m1 (by omega))
set_option maxRecDepth 20000 in
theorem r_bestCard_n {pr : aC} {d : Nat} {u : rS} (t : Int32) (hph : ¬ phF u t = nI 2) {Q : Option Value → rS → Prop} (hQ : Q (some (.int (-1))) u) : rR pr (d + 7 + 1) 208 [.ref 25, .int t] u Q := by
  refine gR_of mi_208 rFr_rf rfl (Nat.le_of_ble_eq_true rfl) ?_
  show rB pr (d + 7) cd_208 (Option.some Jvm.ClassFile.FieldType.int) Q 0 [some (.ref 25), some (.int t), none, none, none, none, none] [] u
  refine g_load rfl rfl rfl trivial ?_
  refine g_load rfl rfl rfl trivial ?_
  refine g_virtI (a := 25) (ci := 8) (n := 1) [.int t] rFr_tr rfl rfl (by decide) rfl r_this rfl (Nat.le_of_ble_eq_true rfl) (Nat.le_refl _) (Nat.le_refl _) (r_best_n t hph ⟨_, rfl, ?_⟩)
  refine g_store [some (.ref 25), some (.int t), some (.int (-1)), none, none, none, none] rfl rfl trivial (Nat.le_of_ble_eq_true rfl) rfl ?_
  refine g_load rfl rfl rfl trivial ?_
  refine g_iconst (-1) rfl (by decide) ?_
  refine g_icmp_ne rfl (fun c1 => ?_) (fun c1 => ?_)
  · exact absurd rfl c1
  · refine g_iconst (-1) rfl (by decide) ?_
    refine g_vret rfl trivial ⟨rfl, rfl⟩ (Nat.le_refl _) (Nat.le_refl _) ?_
    exact hQ
end
section
/-! ===== the reference: claim ===== -/
set_option maxRecDepth 20000 in
theorem r_claim_n {pr : aC} {d : Nat} {u : rS} (t n : Int32) (hph : ¬ phF u t = nI 2 ∨ n < 0) {Q : Option Value → rS → Prop} (hQ : Q (some (.int 0)) u) : rR pr (d + 7 + 1) 194 [.ref 25, .int t, .int n] u Q := by
  refine gR_of mi_194 rFr_rf rfl (Nat.le_of_ble_eq_true rfl) ?_
  show rB pr (d + 7) cd_194 (Option.some Jvm.ClassFile.FieldType.boolean) Q 0 [some (.ref 25), some (.int t), some (.int n)] [] u
  refine g_load rfl rfl rfl trivial ?_
  refine g_load rfl rfl rfl trivial ?_
  refine g_virtI (a := 25) (ci := 8) (n := 1) [.int t] rFr_tr rfl rfl (by decide) rfl r_this rfl (Nat.le_of_ble_eq_true rfl) (Nat.le_refl _) (Nat.le_refl _) (r_phaseOf t ⟨_, rfl, ?_⟩)
  refine g_iconst (nI 2) rfl (by decide) ?_
  refine g_icmp_ne rfl (fun c1 => ?_) (fun c1 => ?_)
  · refine g_iconst (nI 0) rfl (by decide) ?_
    refine g_vret rfl trivial (by first | exact ⟨by decide, by decide⟩ | trivial) (Nat.le_refl _) (Nat.le_refl _) ?_
    exact hQ
  · refine g_load rfl rfl rfl trivial ?_
    refine g_if_lt rfl (fun c2 => ?_) (fun c2 => ?_)
    · refine g_iconst (nI 0) rfl (by decide) ?_
      refine g_vret rfl trivial (by first | exact ⟨by decide, by decide⟩ | trivial) (Nat.le_refl _) (Nat.le_refl _) ?_
      exact hQ
    · exact hph.elim (fun z => absurd c1 z) (fun z => absurd z c2)
set_option maxRecDepth 20000 in
theorem r_claim {pr : aC} {d : Nat} {u : rS} (t n b bd m : Nat) (ht : t < 10) (hc : u.2 31 t = nI n) (hn : n ≤ 340) (hb : last ge3 (cf u t) n = some b) (hbd : u.2 29 t = nI (bd + 1)) (hbd2 : bd < 36) (hm0 : u.2 32 t = nI m) (hm52 : m ≤ 52) (nb tr : Nat) (h0 : u.1 0 = nI nb) (hnb : nb ≤ 36) (hck : cdOk (gf u t) m) (hm1 : m < 52) (htr : stF (cf u t) b = nI tr) (htr5 : tr < 5) (hok : 13 - m / 4 ≤ 4 → sOk (hH u t m) (ldN u t b bd m) (m % 4) (13 - m / 4)) (x : Int32) (hx0 : ¬ x < 0) (hph : u.2 28 t = nI 2) (nr : Nat) (h1 : u.1 1 = nI nr) (hnr : nr < 220) {Q : Option Value → rS → Prop} (hN4 : 4 < 13 - m / 4 → ∀ v, rSame u v → Q (some (.int 0)) v) (hQ : 13 - m / 4 ≤ 4 → ∀ r, r ≤ 4 → sVal tr (dcN (cf u t) (bd % 4) b % 2) (hH u t m) (tkG u t m) (ldN u t b bd m) (m % 4) (13 - m / 4) r → (∀ v, rSame u v → ¬ nI r = x → Q (some (.int 0)) v) ∧ (∀ v w, rSame u v → nI r = x → ended v w t nr (recC v t n b bd (wonF u t b bd (m / 4) + r)) → Q (some (.int 1)) w)) : rR pr (d + 42 + 1) 194 [.ref 25, .int (nI t), .int x] u Q := by
  refine gR_of mi_194 rFr_rf rfl (Nat.le_of_ble_eq_true rfl) ?_
  show rB pr (d + 42) cd_194 (Option.some Jvm.ClassFile.FieldType.boolean) Q 0 [some (.ref 25), some (.int (nI t)), some (.int x)] [] u
  refine g_load rfl rfl rfl trivial ?_
  refine g_load rfl rfl rfl trivial ?_
  refine g_virtI (a := 25) (ci := 8) (n := 1) [.int (nI t)] rFr_tr rfl rfl (by decide) rfl r_this rfl (Nat.le_of_ble_eq_true rfl) (Nat.le_refl _) (Nat.le_refl _) (r_phaseOf (nI t) ⟨_, rfl, ?_⟩)
  rw [phF_t ht, hph]
  refine g_iconst (nI 2) rfl (by decide) ?_
  refine g_icmp_ne rfl (fun c1 => ?_) (fun c1 => ?_)
  · exact absurd rfl c1
  · refine g_load rfl rfl rfl trivial ?_
    refine g_if_lt rfl (fun c2 => ?_) (fun c2 => ?_)
    · exact absurd c2 hx0
    · refine g_load rfl rfl rfl trivial ?_
      refine g_load rfl rfl rfl trivial ?_
      refine g_virtI (a := 25) (ci := 8) (n := 1) [.int (nI t)] rFr_tr rfl rfl (by decide) rfl r_this rfl (Nat.le_of_ble_eq_true rfl) (Nat.le_refl _) (Nat.le_refl _) (r_best (d := d + 1) t n b bd m ht hc hn hb hbd hbd2 hm0 hm52 nb tr h0 hnb hck hm1 htr htr5 hok hph (fun h4 v hS => ⟨_, rfl, ?_⟩) (fun h4 v r hS hr4 hV => ⟨_, rfl, ?_⟩))
      · refine g_load rfl rfl rfl trivial ?_
        refine g_icmp_eq rfl (fun c1 => absurd (by rw [← c1]; decide) hx0) (fun c1 => ?_)
        refine g_iconst (nI 0) rfl (by decide) ?_
        exact g_vret rfl trivial ⟨by decide, by decide⟩ (Nat.le_refl _) (Nat.le_refl _) (hN4 h4 v hS)
      obtain ⟨hQ0, hQ1⟩ := hQ h4 r hr4 hV
      refine g_load rfl rfl rfl trivial ?_
      refine g_icmp_eq rfl (fun c3 => ?_) (fun c3 => ?_)
      · refine g_load rfl rfl rfl trivial ?_
        refine g_load rfl rfl rfl trivial ?_
        refine g_virtV (a := 25) (ci := 8) (n := 1) [.int (nI t)] rFr_tr rfl rfl (by decide) rfl r_this rfl (Nat.le_of_ble_eq_true rfl) (Nat.le_refl _) (Nat.le_refl _) (r_goThrough (d := d + 37) t n b bd m ht (by rw [hS.2.2.2 31 (by decide)]; exact hc) hn (by rw [rSame_cf hS]; exact hb) (by rw [hS.2.2.2 29 (by decide)]; exact hbd) hbd2 (by rw [hS.2.2.2 32 (by decide)]; exact hm0) hm52 (fun u1 hS1 hG => ⟨rfl, ?_⟩))
        have hS2 := hS.tr hS1
        rw [rSame_cf hS, rSame_gf hS] at hG
        refine g_load rfl rfl rfl trivial ?_
        refine g_load rfl rfl rfl trivial ?_
        refine g_load rfl rfl rfl trivial ?_
        refine r_getf rfl rfl ?_
        refine g_load rfl rfl rfl trivial ?_
        refine g_load rfl rfl rfl trivial ?_
        refine g_virtI (a := 25) (ci := 8) (n := 1) [.int (nI t)] rFr_tr rfl rfl (by decide) rfl r_this rfl (Nat.le_of_ble_eq_true rfl) (Nat.le_refl _) (Nat.le_refl _) (r_declarer (d := d + 38) t n b bd ht (by rw [hS2.2.2.2 31 (by decide)]; exact hc) hn (by rw [rSame_cf hS2]; exact hb) (by rw [hS2.2.2.2 29 (by decide)]; exact hbd) hbd2 ⟨_, rfl, ?_⟩)
        obtain ⟨hd1, hd4⟩ := dcF_N (dl := bd % 4) (last_lt hb).2
        rw [rSame_cf hS2, hd1]
        refine g_iconst (nI 2) rfl (by decide) ?_
        refine g_irem rfl (by decide) ?_
        rw [pk_rem (by omega) (by omega) (by omega)]
        refine r_ia (dcN (cf u t) (bd % 4) b % 2) rfl ⟨by decide, by decide, rfl⟩ rfl (by show _ < 2; omega) ?_
        refine g_load rfl rfl rfl trivial ?_
        rw [won_at hG]
        refine g_iadd rfl ?_
        rw [← c3, nI_add]
        have hw13 := wnF_le (gf u t) (stF (cf u t) b) ((dcN (cf u t) (bd % 4) b + 1) % 4) (dcN (cf u t) (bd % 4) b % 2) (m / 4)
        refine g_virtV (a := 25) (ci := 8) (n := 2) [.int (nI t), .int (nI (wonF u t b bd (m / 4) + r))] rFr_tr rfl rfl (by decide) rfl r_this rfl (Nat.le_of_ble_eq_true rfl) (Nat.le_refl _) (Nat.le_refl _) (r_ends_c (d := d + 36) t ht nr (hS2.2.1.trans h1) hnr n b bd _ (by rw [hS2.2.2.2 31 (by decide)]; exact hc) hn (by rw [rSame_cf hS2]; exact hb) (by rw [hS2.2.2.2 29 (by decide)]; exact hbd) hbd2 (by unfold wonF; omega) (fun w hw => ⟨rfl, ?_⟩))
        have hQ := hQ1 u1 w hS2 c3 hw
        refine g_iconst (nI 1) rfl (by decide) ?_
        refine g_vret rfl trivial (by first | exact ⟨by decide, by decide⟩ | trivial) (Nat.le_refl _) (Nat.le_refl _) ?_
        exact hQ
      · have hQ := hQ0 v hS c3
        refine g_iconst (nI 0) rfl (by decide) ?_
        refine g_vret rfl trivial (by first | exact ⟨by decide, by decide⟩ | trivial) (Nat.le_refl _) (Nat.le_refl _) ?_
        exact hQ
end
