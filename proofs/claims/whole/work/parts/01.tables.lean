-- ===== PART A: goes FIRST, ahead of the names: the tables' words, and 'selects' of the private methods out of them =====
/-- a private method of a class that the tables say can be made, by its rows of tables_1 -/
def lw_okq (q : MethodName × Nat) : Prop := (q.1.cls ≠ "java/lang/invoke/MethodHandle" ∧ q.1.cls ≠ "java/lang/invoke/VarHandle") ∧ Cond.instantiable q.1.cls q.2 ∈ tables_1 ∧ Cond.privateMethod q.1 ∈ tables_1 ∧ Cond.instanceMethod q.1 ∈ tables_1
theorem lw_p0 : lw_okq (⟨"RadixDesk", "writeOnSheet", "(IIZ)I"⟩, 5) := ⟨⟨by decide +kernel, by decide +kernel⟩, List.mem_of_getElem? (i := 38) (by decide +kernel), List.mem_of_getElem? (i := 281) (by decide +kernel), List.mem_of_getElem? (i := 282) (by decide +kernel)⟩
theorem lw_p1 : lw_okq (⟨"RadixDesk$Desk", "moveForward", "(IZ)V"⟩, 5) := ⟨⟨by decide +kernel, by decide +kernel⟩, List.mem_of_getElem? (i := 46) (by decide +kernel), List.mem_of_getElem? (i := 332) (by decide +kernel), List.mem_of_getElem? (i := 333) (by decide +kernel)⟩
theorem lw_p2 : lw_okq (⟨"RadixDesk$Program", "parseBlock", "(I)V"⟩, 8) := ⟨⟨by decide +kernel, by decide +kernel⟩, List.mem_of_getElem? (i := 105) (by decide +kernel), List.mem_of_getElem? (i := 398) (by decide +kernel), List.mem_of_getElem? (i := 399) (by decide +kernel)⟩
theorem lw_p3 : lw_okq (⟨"RadixDesk$Program", "parseStatement", "(I)V"⟩, 8) := ⟨⟨by decide +kernel, by decide +kernel⟩, List.mem_of_getElem? (i := 105) (by decide +kernel), List.mem_of_getElem? (i := 410) (by decide +kernel), List.mem_of_getElem? (i := 411) (by decide +kernel)⟩
theorem lw_p4 : lw_okq (⟨"RadixDesk$Words", "isWord", "(Ljava/lang/String;)Z"⟩, 3) := ⟨⟨by decide +kernel, by decide +kernel⟩, List.mem_of_getElem? (i := 143) (by decide +kernel), List.mem_of_getElem? (i := 420) (by decide +kernel), List.mem_of_getElem? (i := 421) (by decide +kernel)⟩
theorem lw_p5 : lw_okq (⟨"RadixDesk$Program", "fail", "(II)V"⟩, 8) := ⟨⟨by decide +kernel, by decide +kernel⟩, List.mem_of_getElem? (i := 105) (by decide +kernel), List.mem_of_getElem? (i := 472) (by decide +kernel), List.mem_of_getElem? (i := 473) (by decide +kernel)⟩
theorem lw_p6 : lw_okq (⟨"RadixDesk$Program", "parseArgument", "(LRadixDesk$Statement;IC)V"⟩, 8) := ⟨⟨by decide +kernel, by decide +kernel⟩, List.mem_of_getElem? (i := 105) (by decide +kernel), List.mem_of_getElem? (i := 485) (by decide +kernel), List.mem_of_getElem? (i := 486) (by decide +kernel)⟩
theorem lw_p7 : lw_okq (⟨"RadixDesk$Program", "expect", "(C)V"⟩, 8) := ⟨⟨by decide +kernel, by decide +kernel⟩, List.mem_of_getElem? (i := 105) (by decide +kernel), List.mem_of_getElem? (i := 528) (by decide +kernel), List.mem_of_getElem? (i := 529) (by decide +kernel)⟩
theorem lw_p8 : lw_okq (⟨"RadixDesk$Program", "expectEnd", "()V"⟩, 8) := ⟨⟨by decide +kernel, by decide +kernel⟩, List.mem_of_getElem? (i := 105) (by decide +kernel), List.mem_of_getElem? (i := 532) (by decide +kernel), List.mem_of_getElem? (i := 533) (by decide +kernel)⟩
theorem lw_p9 : lw_okq (⟨"RadixDesk$Program", "carryOutBlock", "(III)V"⟩, 8) := ⟨⟨by decide +kernel, by decide +kernel⟩, List.mem_of_getElem? (i := 105) (by decide +kernel), List.mem_of_getElem? (i := 536) (by decide +kernel), List.mem_of_getElem? (i := 537) (by decide +kernel)⟩
theorem lw_p10 : lw_okq (⟨"RadixDesk$Program", "carryOut", "(LRadixDesk$Statement;)Z"⟩, 8) := ⟨⟨by decide +kernel, by decide +kernel⟩, List.mem_of_getElem? (i := 105) (by decide +kernel), List.mem_of_getElem? (i := 548) (by decide +kernel), List.mem_of_getElem? (i := 549) (by decide +kernel)⟩
theorem lw_p11 : lw_okq (⟨"RadixDesk$Program", "changed", "(LRadixDesk$Verb;II)J"⟩, 8) := ⟨⟨by decide +kernel, by decide +kernel⟩, List.mem_of_getElem? (i := 105) (by decide +kernel), List.mem_of_getElem? (i := 638) (by decide +kernel), List.mem_of_getElem? (i := 639) (by decide +kernel)⟩
theorem lw_p12 : lw_okq (⟨"RadixDesk$Theorem", "isReadBack", "(LRadixDesk$Desk;IIZ)Z"⟩, 2) := ⟨⟨by decide +kernel, by decide +kernel⟩, List.mem_of_getElem? (i := 197) (by decide +kernel), List.mem_of_getElem? (i := 747) (by decide +kernel), List.mem_of_getElem? (i := 748) (by decide +kernel)⟩
theorem lw_p13 : lw_okq (⟨"java/lang/Throwable", "fillInStackTrace", "(I)Ljava/lang/Throwable;"⟩, 6) := ⟨⟨by decide +kernel, by decide +kernel⟩, List.mem_of_getElem? (i := 839) (by decide +kernel), List.mem_of_getElem? (i := 837) (by decide +kernel), List.mem_of_getElem? (i := 838) (by decide +kernel)⟩
theorem lw_p14 : lw_okq (⟨"RadixDesk", "checkRoom", "(I)V"⟩, 5) := ⟨⟨by decide +kernel, by decide +kernel⟩, List.mem_of_getElem? (i := 38) (by decide +kernel), List.mem_of_getElem? (i := 890) (by decide +kernel), List.mem_of_getElem? (i := 891) (by decide +kernel)⟩
theorem lw_p15 : lw_okq (⟨"RadixDeskModel", "passes", "(ZZ)Z"⟩, 13) := ⟨⟨by decide +kernel, by decide +kernel⟩, List.mem_of_getElem? (i := 1188) (by decide +kernel), List.mem_of_getElem? (i := 1305) (by decide +kernel), List.mem_of_getElem? (i := 1306) (by decide +kernel)⟩
def lw_privs_1 : List (MethodName × Nat) := [(⟨"RadixDesk", "writeOnSheet", "(IIZ)I"⟩, 5), (⟨"RadixDesk$Desk", "moveForward", "(IZ)V"⟩, 5), (⟨"RadixDesk$Program", "parseBlock", "(I)V"⟩, 8), (⟨"RadixDesk$Program", "parseStatement", "(I)V"⟩, 8), (⟨"RadixDesk$Words", "isWord", "(Ljava/lang/String;)Z"⟩, 3), (⟨"RadixDesk$Program", "fail", "(II)V"⟩, 8), (⟨"RadixDesk$Program", "parseArgument", "(LRadixDesk$Statement;IC)V"⟩, 8), (⟨"RadixDesk$Program", "expect", "(C)V"⟩, 8), (⟨"RadixDesk$Program", "expectEnd", "()V"⟩, 8), (⟨"RadixDesk$Program", "carryOutBlock", "(III)V"⟩, 8), (⟨"RadixDesk$Program", "carryOut", "(LRadixDesk$Statement;)Z"⟩, 8), (⟨"RadixDesk$Program", "changed", "(LRadixDesk$Verb;II)J"⟩, 8), (⟨"RadixDesk$Theorem", "isReadBack", "(LRadixDesk$Desk;IIZ)Z"⟩, 2), (⟨"java/lang/Throwable", "fillInStackTrace", "(I)Ljava/lang/Throwable;"⟩, 6), (⟨"RadixDesk", "checkRoom", "(I)V"⟩, 5), (⟨"RadixDeskModel", "passes", "(ZZ)Z"⟩, 13)]
theorem lw_r1 : ∀ q ∈ lw_privs_1, lw_okq q := List.forall_mem_cons.mpr ⟨lw_p0, List.forall_mem_cons.mpr ⟨lw_p1, List.forall_mem_cons.mpr ⟨lw_p2, List.forall_mem_cons.mpr ⟨lw_p3, List.forall_mem_cons.mpr ⟨lw_p4, List.forall_mem_cons.mpr ⟨lw_p5, List.forall_mem_cons.mpr ⟨lw_p6, List.forall_mem_cons.mpr ⟨lw_p7, List.forall_mem_cons.mpr ⟨lw_p8, List.forall_mem_cons.mpr ⟨lw_p9, List.forall_mem_cons.mpr ⟨lw_p10, List.forall_mem_cons.mpr ⟨lw_p11, List.forall_mem_cons.mpr ⟨lw_p12, List.forall_mem_cons.mpr ⟨lw_p13, List.forall_mem_cons.mpr ⟨lw_p14, List.forall_mem_cons.mpr ⟨lw_p15, fun _ h => absurd h List.not_mem_nil⟩⟩⟩⟩⟩⟩⟩⟩⟩⟩⟩⟩⟩⟩⟩⟩
theorem lw_p16 : lw_okq (⟨"RadixDeskModel$Desk", "told", "([ZI)J"⟩, 12) := ⟨⟨by decide +kernel, by decide +kernel⟩, List.mem_of_getElem? (i := 1194) (by decide +kernel), List.mem_of_getElem? (i := 1317) (by decide +kernel), List.mem_of_getElem? (i := 1318) (by decide +kernel)⟩
theorem lw_p17 : lw_okq (⟨"RadixDeskModel", "typed", "(I)Z"⟩, 13) := ⟨⟨by decide +kernel, by decide +kernel⟩, List.mem_of_getElem? (i := 1188) (by decide +kernel), List.mem_of_getElem? (i := 1339) (by decide +kernel), List.mem_of_getElem? (i := 1340) (by decide +kernel)⟩
theorem lw_p18 : lw_okq (⟨"RadixDeskModel$Desk", "puts", "(I[Z)J"⟩, 12) := ⟨⟨by decide +kernel, by decide +kernel⟩, List.mem_of_getElem? (i := 1194) (by decide +kernel), List.mem_of_getElem? (i := 1392) (by decide +kernel), List.mem_of_getElem? (i := 1393) (by decide +kernel)⟩
theorem lw_p19 : lw_okq (⟨"RadixDeskModel$Desk", "sizes", "(IZ[Z)Z"⟩, 12) := ⟨⟨by decide +kernel, by decide +kernel⟩, List.mem_of_getElem? (i := 1194) (by decide +kernel), List.mem_of_getElem? (i := 1409) (by decide +kernel), List.mem_of_getElem? (i := 1410) (by decide +kernel)⟩
theorem lw_p20 : lw_okq (⟨"RadixDeskModel$Desk", "multiplies", "([Z[Z)V"⟩, 12) := ⟨⟨by decide +kernel, by decide +kernel⟩, List.mem_of_getElem? (i := 1194) (by decide +kernel), List.mem_of_getElem? (i := 1558) (by decide +kernel), List.mem_of_getElem? (i := 1559) (by decide +kernel)⟩
theorem lw_p21 : lw_okq (⟨"RadixDeskModel", "tries", "()V"⟩, 13) := ⟨⟨by decide +kernel, by decide +kernel⟩, List.mem_of_getElem? (i := 1188) (by decide +kernel), List.mem_of_getElem? (i := 1594) (by decide +kernel), List.mem_of_getElem? (i := 1595) (by decide +kernel)⟩
theorem lw_p22 : lw_okq (⟨"RadixDeskModel", "splits", "()V"⟩, 13) := ⟨⟨by decide +kernel, by decide +kernel⟩, List.mem_of_getElem? (i := 1188) (by decide +kernel), List.mem_of_getElem? (i := 1598) (by decide +kernel), List.mem_of_getElem? (i := 1599) (by decide +kernel)⟩
theorem lw_p23 : lw_okq (⟨"RadixDeskModel", "checkStatement", "(I)V"⟩, 13) := ⟨⟨by decide +kernel, by decide +kernel⟩, List.mem_of_getElem? (i := 1188) (by decide +kernel), List.mem_of_getElem? (i := 1608) (by decide +kernel), List.mem_of_getElem? (i := 1609) (by decide +kernel)⟩
theorem lw_p24 : lw_okq (⟨"RadixDeskModel", "nameOf", "(I)I"⟩, 13) := ⟨⟨by decide +kernel, by decide +kernel⟩, List.mem_of_getElem? (i := 1188) (by decide +kernel), List.mem_of_getElem? (i := 1612) (by decide +kernel), List.mem_of_getElem? (i := 1613) (by decide +kernel)⟩
theorem lw_p25 : lw_okq (⟨"RadixDeskModel", "failsHere", "()V"⟩, 13) := ⟨⟨by decide +kernel, by decide +kernel⟩, List.mem_of_getElem? (i := 1188) (by decide +kernel), List.mem_of_getElem? (i := 1617) (by decide +kernel), List.mem_of_getElem? (i := 1618) (by decide +kernel)⟩
theorem lw_p26 : lw_okq (⟨"RadixDeskModel", "fails", "(II)V"⟩, 13) := ⟨⟨by decide +kernel, by decide +kernel⟩, List.mem_of_getElem? (i := 1188) (by decide +kernel), List.mem_of_getElem? (i := 1621) (by decide +kernel), List.mem_of_getElem? (i := 1622) (by decide +kernel)⟩
theorem lw_p27 : lw_okq (⟨"RadixDeskModel", "operand", "(I)V"⟩, 13) := ⟨⟨by decide +kernel, by decide +kernel⟩, List.mem_of_getElem? (i := 1188) (by decide +kernel), List.mem_of_getElem? (i := 1906) (by decide +kernel), List.mem_of_getElem? (i := 1907) (by decide +kernel)⟩
theorem lw_p28 : lw_okq (⟨"RadixDeskModel", "isIn", "(JI)Z"⟩, 13) := ⟨⟨by decide +kernel, by decide +kernel⟩, List.mem_of_getElem? (i := 1188) (by decide +kernel), List.mem_of_getElem? (i := 1912) (by decide +kernel), List.mem_of_getElem? (i := 1913) (by decide +kernel)⟩
theorem lw_p29 : lw_okq (⟨"RadixDeskModel", "checkBlock", "(I)V"⟩, 13) := ⟨⟨by decide +kernel, by decide +kernel⟩, List.mem_of_getElem? (i := 1188) (by decide +kernel), List.mem_of_getElem? (i := 1920) (by decide +kernel), List.mem_of_getElem? (i := 1921) (by decide +kernel)⟩
theorem lw_p30 : lw_okq (⟨"RadixDeskModel", "mark", "(I)V"⟩, 13) := ⟨⟨by decide +kernel, by decide +kernel⟩, List.mem_of_getElem? (i := 1188) (by decide +kernel), List.mem_of_getElem? (i := 1924) (by decide +kernel), List.mem_of_getElem? (i := 1925) (by decide +kernel)⟩
theorem lw_p31 : lw_okq (⟨"RadixDeskModel", "isMarkAt", "(II)Z"⟩, 13) := ⟨⟨by decide +kernel, by decide +kernel⟩, List.mem_of_getElem? (i := 1188) (by decide +kernel), List.mem_of_getElem? (i := 1928) (by decide +kernel), List.mem_of_getElem? (i := 1929) (by decide +kernel)⟩
def lw_privs_2 : List (MethodName × Nat) := [(⟨"RadixDeskModel$Desk", "told", "([ZI)J"⟩, 12), (⟨"RadixDeskModel", "typed", "(I)Z"⟩, 13), (⟨"RadixDeskModel$Desk", "puts", "(I[Z)J"⟩, 12), (⟨"RadixDeskModel$Desk", "sizes", "(IZ[Z)Z"⟩, 12), (⟨"RadixDeskModel$Desk", "multiplies", "([Z[Z)V"⟩, 12), (⟨"RadixDeskModel", "tries", "()V"⟩, 13), (⟨"RadixDeskModel", "splits", "()V"⟩, 13), (⟨"RadixDeskModel", "checkStatement", "(I)V"⟩, 13), (⟨"RadixDeskModel", "nameOf", "(I)I"⟩, 13), (⟨"RadixDeskModel", "failsHere", "()V"⟩, 13), (⟨"RadixDeskModel", "fails", "(II)V"⟩, 13), (⟨"RadixDeskModel", "operand", "(I)V"⟩, 13), (⟨"RadixDeskModel", "isIn", "(JI)Z"⟩, 13), (⟨"RadixDeskModel", "checkBlock", "(I)V"⟩, 13), (⟨"RadixDeskModel", "mark", "(I)V"⟩, 13), (⟨"RadixDeskModel", "isMarkAt", "(II)Z"⟩, 13)]
theorem lw_r2 : ∀ q ∈ lw_privs_2, lw_okq q := List.forall_mem_cons.mpr ⟨lw_p16, List.forall_mem_cons.mpr ⟨lw_p17, List.forall_mem_cons.mpr ⟨lw_p18, List.forall_mem_cons.mpr ⟨lw_p19, List.forall_mem_cons.mpr ⟨lw_p20, List.forall_mem_cons.mpr ⟨lw_p21, List.forall_mem_cons.mpr ⟨lw_p22, List.forall_mem_cons.mpr ⟨lw_p23, List.forall_mem_cons.mpr ⟨lw_p24, List.forall_mem_cons.mpr ⟨lw_p25, List.forall_mem_cons.mpr ⟨lw_p26, List.forall_mem_cons.mpr ⟨lw_p27, List.forall_mem_cons.mpr ⟨lw_p28, List.forall_mem_cons.mpr ⟨lw_p29, List.forall_mem_cons.mpr ⟨lw_p30, List.forall_mem_cons.mpr ⟨lw_p31, fun _ h => absurd h List.not_mem_nil⟩⟩⟩⟩⟩⟩⟩⟩⟩⟩⟩⟩⟩⟩⟩⟩
theorem lw_p32 : lw_okq (⟨"RadixDeskModel", "runStatement", "()V"⟩, 13) := ⟨⟨by decide +kernel, by decide +kernel⟩, List.mem_of_getElem? (i := 1188) (by decide +kernel), List.mem_of_getElem? (i := 1936) (by decide +kernel), List.mem_of_getElem? (i := 1937) (by decide +kernel)⟩
theorem lw_p33 : lw_okq (⟨"RadixDeskModel", "runLoop", "(I)V"⟩, 13) := ⟨⟨by decide +kernel, by decide +kernel⟩, List.mem_of_getElem? (i := 1188) (by decide +kernel), List.mem_of_getElem? (i := 1940) (by decide +kernel), List.mem_of_getElem? (i := 1941) (by decide +kernel)⟩
theorem lw_p34 : lw_okq (⟨"RadixDeskModel", "cellAt", "(I)I"⟩, 13) := ⟨⟨by decide +kernel, by decide +kernel⟩, List.mem_of_getElem? (i := 1188) (by decide +kernel), List.mem_of_getElem? (i := 1944) (by decide +kernel), List.mem_of_getElem? (i := 1945) (by decide +kernel)⟩
theorem lw_p35 : lw_okq (⟨"RadixDeskModel", "skipsBlock", "()V"⟩, 13) := ⟨⟨by decide +kernel, by decide +kernel⟩, List.mem_of_getElem? (i := 1188) (by decide +kernel), List.mem_of_getElem? (i := 1948) (by decide +kernel), List.mem_of_getElem? (i := 1949) (by decide +kernel)⟩
theorem lw_p36 : lw_okq (⟨"RadixDeskModel", "does", "(II)Z"⟩, 13) := ⟨⟨by decide +kernel, by decide +kernel⟩, List.mem_of_getElem? (i := 1188) (by decide +kernel), List.mem_of_getElem? (i := 1952) (by decide +kernel), List.mem_of_getElem? (i := 1953) (by decide +kernel)⟩
theorem lw_p37 : lw_okq (⟨"RadixDeskModel", "writesOrReads", "(III)Z"⟩, 13) := ⟨⟨by decide +kernel, by decide +kernel⟩, List.mem_of_getElem? (i := 1188) (by decide +kernel), List.mem_of_getElem? (i := 1956) (by decide +kernel), List.mem_of_getElem? (i := 1957) (by decide +kernel)⟩
theorem lw_p38 : lw_okq (⟨"RadixDeskModel", "failsIn", "(IIZ)I"⟩, 13) := ⟨⟨by decide +kernel, by decide +kernel⟩, List.mem_of_getElem? (i := 1188) (by decide +kernel), List.mem_of_getElem? (i := 1977) (by decide +kernel), List.mem_of_getElem? (i := 1978) (by decide +kernel)⟩
theorem lw_p39 : lw_okq (⟨"RadixDeskModel", "failsTwice", "(I)I"⟩, 13) := ⟨⟨by decide +kernel, by decide +kernel⟩, List.mem_of_getElem? (i := 1188) (by decide +kernel), List.mem_of_getElem? (i := 1983) (by decide +kernel), List.mem_of_getElem? (i := 1984) (by decide +kernel)⟩
theorem lw_p40 : lw_okq (⟨"RadixDeskModel", "isOther", "(I)I"⟩, 13) := ⟨⟨by decide +kernel, by decide +kernel⟩, List.mem_of_getElem? (i := 1188) (by decide +kernel), List.mem_of_getElem? (i := 1987) (by decide +kernel), List.mem_of_getElem? (i := 1988) (by decide +kernel)⟩
theorem lw_p41 : lw_okq (⟨"RadixDeskModel", "failsDivided", "(I)I"⟩, 13) := ⟨⟨by decide +kernel, by decide +kernel⟩, List.mem_of_getElem? (i := 1188) (by decide +kernel), List.mem_of_getElem? (i := 1991) (by decide +kernel), List.mem_of_getElem? (i := 1992) (by decide +kernel)⟩
def lw_privs_3 : List (MethodName × Nat) := [(⟨"RadixDeskModel", "runStatement", "()V"⟩, 13), (⟨"RadixDeskModel", "runLoop", "(I)V"⟩, 13), (⟨"RadixDeskModel", "cellAt", "(I)I"⟩, 13), (⟨"RadixDeskModel", "skipsBlock", "()V"⟩, 13), (⟨"RadixDeskModel", "does", "(II)Z"⟩, 13), (⟨"RadixDeskModel", "writesOrReads", "(III)Z"⟩, 13), (⟨"RadixDeskModel", "failsIn", "(IIZ)I"⟩, 13), (⟨"RadixDeskModel", "failsTwice", "(I)I"⟩, 13), (⟨"RadixDeskModel", "isOther", "(I)I"⟩, 13), (⟨"RadixDeskModel", "failsDivided", "(I)I"⟩, 13)]
theorem lw_r3 : ∀ q ∈ lw_privs_3, lw_okq q := List.forall_mem_cons.mpr ⟨lw_p32, List.forall_mem_cons.mpr ⟨lw_p33, List.forall_mem_cons.mpr ⟨lw_p34, List.forall_mem_cons.mpr ⟨lw_p35, List.forall_mem_cons.mpr ⟨lw_p36, List.forall_mem_cons.mpr ⟨lw_p37, List.forall_mem_cons.mpr ⟨lw_p38, List.forall_mem_cons.mpr ⟨lw_p39, List.forall_mem_cons.mpr ⟨lw_p40, List.forall_mem_cons.mpr ⟨lw_p41, fun _ h => absurd h List.not_mem_nil⟩⟩⟩⟩⟩⟩⟩⟩⟩⟩
def lw_privs : List (MethodName × Nat) := lw_privs_1 ++ (lw_privs_2 ++ (lw_privs_3))
def lw_tbl : List Cond := k2_sels lw_privs ++ tables_1
theorem lw_privs_ok : ∀ q ∈ lw_privs, lw_okq q := by
  show ∀ q ∈ lw_privs_1 ++ (lw_privs_2 ++ (lw_privs_3)), lw_okq q
  exact List.forall_mem_append.mpr ⟨lw_r1, List.forall_mem_append.mpr ⟨lw_r2, lw_r3⟩⟩
/-- the streams that the claim lets the run draw from -/
abbrev lw_cs : List Choice := [Jvm.Choice.named "NaN.bits"]
theorem lw_bits : nanBits ∈ lw_cs := by first | decide | exact List.mem_cons_self | simp [lw_cs, nanBits]
def RX0 : String := "RadixDesk$1"
def TX0 : u_T := fun k => match k with
  | _ => ("", "", "", false)
def tyX0 : Nat → FieldType := fun k => match k with
  | _ => .int
theorem nmX0 : ∀ a, a < 0 → ∀ b, b < 0 → a ≠ b → (TX0 a).2.1 ≠ (TX0 b).2.1 := by decide +kernel
theorem tyX0_ok : ∀ k, k < 0 → parseFieldDescriptor (TX0 k).2.2.1 = some (tyX0 k) := by decide +kernel
def RX1 : String := "RadixDesk$Bits"
def TX1 : u_T := fun k => match k with
  | _ => ("", "", "", false)
def tyX1 : Nat → FieldType := fun k => match k with
  | _ => .int
theorem nmX1 : ∀ a, a < 0 → ∀ b, b < 0 → a ≠ b → (TX1 a).2.1 ≠ (TX1 b).2.1 := by decide +kernel
theorem tyX1_ok : ∀ k, k < 0 → parseFieldDescriptor (TX1 k).2.2.1 = some (tyX1 k) := by decide +kernel
abbrev cX1_signed : ByteArray := prog_3_method_2_code
def yX1_signed : MethodName := ⟨RX1, "signed", "(JZ)J"⟩
abbrev cX1_plain : ByteArray := prog_3_method_3_code
def yX1_plain : MethodName := ⟨RX1, "plain", "(JZ)J"⟩
abbrev cX1_zerosInFront : ByteArray := prog_3_method_4_code
def yX1_zerosInFront : MethodName := ⟨RX1, "zerosInFront", "(JZ)I"⟩
abbrev cX1_zerosBehind : ByteArray := prog_3_method_5_code
def yX1_zerosBehind : MethodName := ⟨RX1, "zerosBehind", "(JZ)I"⟩
abbrev cX1_turned : ByteArray := prog_3_method_6_code
def yX1_turned : MethodName := ⟨RX1, "turned", "(JZ)J"⟩
abbrev cX1_bytesTurned : ByteArray := prog_3_method_7_code
def yX1_bytesTurned : MethodName := ⟨RX1, "bytesTurned", "(JZ)J"⟩
abbrev cX1_rotatedLeft : ByteArray := prog_3_method_8_code
def yX1_rotatedLeft : MethodName := ⟨RX1, "rotatedLeft", "(JIZ)J"⟩
abbrev cX1_rotatedRight : ByteArray := prog_3_method_9_code
def yX1_rotatedRight : MethodName := ⟨RX1, "rotatedRight", "(JIZ)J"⟩
abbrev cX1_highestBit : ByteArray := prog_3_method_10_code
def yX1_highestBit : MethodName := ⟨RX1, "highestBit", "(JZ)J"⟩
abbrev cX1_lowestBit : ByteArray := prog_3_method_11_code
def yX1_lowestBit : MethodName := ⟨RX1, "lowestBit", "(JZ)J"⟩
abbrev cX1_plainOrder : ByteArray := prog_3_method_12_code
def yX1_plainOrder : MethodName := ⟨RX1, "plainOrder", "(JJ)I"⟩
abbrev cX1_plainQuotient : ByteArray := prog_3_method_13_code
def yX1_plainQuotient : MethodName := ⟨RX1, "plainQuotient", "(JJ)J"⟩
def RX2 : String := "RadixDesk$Desk"
def TX2 : u_T := fun k => match k with
  | 0 => ("RadixDesk$Desk", "cells", "[J", true)
  | 1 => ("RadixDesk$Desk", "cellsBefore", "[J", true)
  | 2 => ("RadixDesk$Desk", "page", "LRadixDesk$Row;", true)
  | 3 => ("RadixDesk$Desk", "reader", "LRadixDesk$Reader;", true)
  | _ => ("RadixDesk$Desk", "isWide", "Z", false)
def tyX2 : Nat → FieldType := fun k => match k with
  | 0 => .array .long
  | 1 => .array .long
  | 2 => .object "RadixDesk$Row"
  | 3 => .object "RadixDesk$Reader"
  | _ => .boolean
theorem nmX2 : ∀ a, a < 5 → ∀ b, b < 5 → a ≠ b → (TX2 a).2.1 ≠ (TX2 b).2.1 := by decide +kernel
theorem tyX2_ok : ∀ k, k < 5 → parseFieldDescriptor (TX2 k).2.2.1 = some (tyX2 k) := by decide +kernel
abbrev cX2_init : ByteArray := prog_4_method_1_code
def yX2_init : MethodName := ⟨RX2, "<init>", "()V"⟩
abbrev cX2_become : ByteArray := prog_4_method_2_code
def yX2_become : MethodName := ⟨RX2, "become", "(LRadixDesk$Desk;)V"⟩
abbrev cX2_allBits : ByteArray := prog_4_method_3_code
def yX2_allBits : MethodName := ⟨RX2, "allBits", "(I)J"⟩
abbrev cX2_keep : ByteArray := prog_4_method_4_code
def yX2_keep : MethodName := ⟨RX2, "keep", "(IJ)V"⟩
abbrev cX2_put : ByteArray := prog_4_method_5_code
def yX2_put : MethodName := ⟨RX2, "put", "(IJ)J"⟩
abbrev cX2_signed : ByteArray := prog_4_method_6_code
def yX2_signed : MethodName := ⟨RX2, "signed", "(I)J"⟩
abbrev cX2_plain : ByteArray := prog_4_method_7_code
def yX2_plain : MethodName := ⟨RX2, "plain", "(I)J"⟩
abbrev cX2_valueOf : ByteArray := prog_4_method_8_code
def yX2_valueOf : MethodName := ⟨RX2, "valueOf", "(IZ)J"⟩
abbrev cX2_writePage : ByteArray := prog_4_method_9_code
def yX2_writePage : MethodName := ⟨RX2, "writePage", "(IIZ)V"⟩
abbrev cX2_takePage : ByteArray := prog_4_method_10_code
def yX2_takePage : MethodName := ⟨RX2, "takePage", "(IIZ)Z"⟩
abbrev cX2_takePiece : ByteArray := prog_4_method_11_code
def yX2_takePiece : MethodName := ⟨RX2, "takePiece", "(ILRadixDesk$Row;IIIZ)Z"⟩
abbrev cX2_ones : ByteArray := prog_4_method_12_code
def yX2_ones : MethodName := ⟨RX2, "ones", "(I)I"⟩
abbrev cX2_zerosInFront : ByteArray := prog_4_method_13_code
def yX2_zerosInFront : MethodName := ⟨RX2, "zerosInFront", "(I)I"⟩
abbrev cX2_zerosBehind : ByteArray := prog_4_method_14_code
def yX2_zerosBehind : MethodName := ⟨RX2, "zerosBehind", "(I)I"⟩
abbrev cX2_onesInFront : ByteArray := prog_4_method_15_code
def yX2_onesInFront : MethodName := ⟨RX2, "onesInFront", "(I)I"⟩
abbrev cX2_onesBehind : ByteArray := prog_4_method_16_code
def yX2_onesBehind : MethodName := ⟨RX2, "onesBehind", "(I)I"⟩
abbrev cX2_bitsTurned : ByteArray := prog_4_method_17_code
def yX2_bitsTurned : MethodName := ⟨RX2, "bitsTurned", "(I)J"⟩
abbrev cX2_bytesTurned : ByteArray := prog_4_method_18_code
def yX2_bytesTurned : MethodName := ⟨RX2, "bytesTurned", "(I)J"⟩
abbrev cX2_rotated : ByteArray := prog_4_method_19_code
def yX2_rotated : MethodName := ⟨RX2, "rotated", "(IIZ)J"⟩
abbrev cX2_highestBit : ByteArray := prog_4_method_20_code
def yX2_highestBit : MethodName := ⟨RX2, "highestBit", "(I)J"⟩
abbrev cX2_lowestBit : ByteArray := prog_4_method_21_code
def yX2_lowestBit : MethodName := ⟨RX2, "lowestBit", "(I)J"⟩
abbrev cX2_clearUpperHalf : ByteArray := prog_4_method_22_code
def yX2_clearUpperHalf : MethodName := ⟨RX2, "clearUpperHalf", "(I)V"⟩
abbrev cX2_combined : ByteArray := prog_4_method_23_code
def yX2_combined : MethodName := ⟨RX2, "combined", "(III)J"⟩
abbrev cX2_divideInto : ByteArray := prog_4_method_24_code
def yX2_divideInto : MethodName := ⟨RX2, "divideInto", "(IIIZ)Z"⟩
abbrev cX2_compared : ByteArray := prog_4_method_25_code
def yX2_compared : MethodName := ⟨RX2, "compared", "(IIZ)I"⟩
abbrev cX2_sortCells : ByteArray := prog_4_method_26_code
def yX2_sortCells : MethodName := ⟨RX2, "sortCells", "(Z)I"⟩
abbrev cX2_moveForward : ByteArray := prog_4_method_27_code
def yX2_moveForward : MethodName := ⟨RX2, "moveForward", "(IZ)V"⟩
def RX3 : String := "RadixDesk$Digits"
def TX3 : u_T := fun k => match k with
  | _ => ("", "", "", false)
def tyX3 : Nat → FieldType := fun k => match k with
  | _ => .int
theorem nmX3 : ∀ a, a < 0 → ∀ b, b < 0 → a ≠ b → (TX3 a).2.1 ≠ (TX3 b).2.1 := by decide +kernel
theorem tyX3_ok : ∀ k, k < 0 → parseFieldDescriptor (TX3 k).2.2.1 = some (tyX3 k) := by decide +kernel
abbrev cX3_isRadix : ByteArray := prog_5_method_2_code
def yX3_isRadix : MethodName := ⟨RX3, "isRadix", "(I)Z"⟩
abbrev cX3_valueOf : ByteArray := prog_5_method_3_code
def yX3_valueOf : MethodName := ⟨RX3, "valueOf", "(I)I"⟩
abbrev cX3_byteFor : ByteArray := prog_5_method_4_code
def yX3_byteFor : MethodName := ⟨RX3, "byteFor", "(I)I"⟩
abbrev cX3_writeOn : ByteArray := prog_5_method_5_code
def yX3_writeOn : MethodName := ⟨RX3, "writeOn", "(LRadixDesk$Row;JIZ)V"⟩
def RX4 : String := "RadixDesk$Program"
def TX4 : u_T := fun k => match k with
  | 0 => ("RadixDesk$Program", "statements", "[LRadixDesk$Statement;", true)
  | 1 => ("RadixDesk$Program", "words", "LRadixDesk$Words;", true)
  | 2 => ("RadixDesk$Program", "reader", "LRadixDesk$Reader;", true)
  | 3 => ("RadixDesk$Program", "trial", "LRadixDesk$Desk;", true)
  | 4 => ("RadixDesk$Program", "size", "I", false)
  | 5 => ("RadixDesk$Program", "steps", "I", false)
  | 6 => ("RadixDesk$Program", "errorKind", "I", false)
  | _ => ("RadixDesk$Program", "errorPlace", "I", false)
def tyX4 : Nat → FieldType := fun k => match k with
  | 0 => .array (.object "RadixDesk$Statement")
  | 1 => .object "RadixDesk$Words"
  | 2 => .object "RadixDesk$Reader"
  | 3 => .object "RadixDesk$Desk"
  | 4 => .int
  | 5 => .int
  | 6 => .int
  | _ => .int
theorem nmX4 : ∀ a, a < 8 → ∀ b, b < 8 → a ≠ b → (TX4 a).2.1 ≠ (TX4 b).2.1 := by decide +kernel
theorem tyX4_ok : ∀ k, k < 8 → parseFieldDescriptor (TX4 k).2.2.1 = some (tyX4 k) := by decide +kernel
abbrev cX4_init : ByteArray := prog_6_method_1_code
def yX4_init : MethodName := ⟨RX4, "<init>", "()V"⟩
abbrev cX4_tryOut : ByteArray := prog_6_method_2_code
def yX4_tryOut : MethodName := ⟨RX4, "tryOut", "(LRadixDesk$Row;LRadixDesk$Desk;)V"⟩
abbrev cX4_fail : ByteArray := prog_6_method_3_code
def yX4_fail : MethodName := ⟨RX4, "fail", "(II)V"⟩
abbrev cX4_parseBlock : ByteArray := prog_6_method_4_code
def yX4_parseBlock : MethodName := ⟨RX4, "parseBlock", "(I)V"⟩
abbrev cX4_parseStatement : ByteArray := prog_6_method_5_code
def yX4_parseStatement : MethodName := ⟨RX4, "parseStatement", "(I)V"⟩
abbrev cX4_parseArgument : ByteArray := prog_6_method_6_code
def yX4_parseArgument : MethodName := ⟨RX4, "parseArgument", "(LRadixDesk$Statement;IC)V"⟩
abbrev cX4_expect : ByteArray := prog_6_method_7_code
def yX4_expect : MethodName := ⟨RX4, "expect", "(C)V"⟩
abbrev cX4_expectEnd : ByteArray := prog_6_method_8_code
def yX4_expectEnd : MethodName := ⟨RX4, "expectEnd", "()V"⟩
abbrev cX4_carryOutBlock : ByteArray := prog_6_method_9_code
def yX4_carryOutBlock : MethodName := ⟨RX4, "carryOutBlock", "(III)V"⟩
abbrev cX4_carryOut : ByteArray := prog_6_method_10_code
def yX4_carryOut : MethodName := ⟨RX4, "carryOut", "(LRadixDesk$Statement;)Z"⟩
abbrev cX4_changed : ByteArray := prog_6_method_11_code
def yX4_changed : MethodName := ⟨RX4, "changed", "(LRadixDesk$Verb;II)J"⟩
def RX5 : String := "RadixDesk$Reader"
def TX5 : u_T := fun k => match k with
  | _ => ("RadixDesk$Reader", "value", "J", false)
def tyX5 : Nat → FieldType := fun k => match k with
  | _ => .long
theorem nmX5 : ∀ a, a < 1 → ∀ b, b < 1 → a ≠ b → (TX5 a).2.1 ≠ (TX5 b).2.1 := by decide +kernel
theorem tyX5_ok : ∀ k, k < 1 → parseFieldDescriptor (TX5 k).2.2.1 = some (tyX5 k) := by decide +kernel
abbrev cX5_init : ByteArray := prog_7_method_1_code
def yX5_init : MethodName := ⟨RX5, "<init>", "()V"⟩
abbrev cX5_canRead : ByteArray := prog_7_method_2_code
def yX5_canRead : MethodName := ⟨RX5, "canRead", "(LRadixDesk$Row;IIIZZ)Z"⟩
abbrev cX5_mostSize : ByteArray := prog_7_method_3_code
def yX5_mostSize : MethodName := ⟨RX5, "mostSize", "(ZZZ)J"⟩
def RX6 : String := "RadixDesk$Row"
def TX6 : u_T := fun k => match k with
  | 0 => ("RadixDesk$Row", "bytes", "[I", true)
  | _ => ("RadixDesk$Row", "length", "I", false)
def tyX6 : Nat → FieldType := fun k => match k with
  | 0 => .array .int
  | _ => .int
theorem nmX6 : ∀ a, a < 2 → ∀ b, b < 2 → a ≠ b → (TX6 a).2.1 ≠ (TX6 b).2.1 := by decide +kernel
theorem tyX6_ok : ∀ k, k < 2 → parseFieldDescriptor (TX6 k).2.2.1 = some (tyX6 k) := by decide +kernel
abbrev cX6_init : ByteArray := prog_8_method_1_code
def yX6_init : MethodName := ⟨RX6, "<init>", "(I)V"⟩
abbrev cX6_size : ByteArray := prog_8_method_2_code
def yX6_size : MethodName := ⟨RX6, "size", "()I"⟩
abbrev cX6_byteAt : ByteArray := prog_8_method_3_code
def yX6_byteAt : MethodName := ⟨RX6, "byteAt", "(I)I"⟩
abbrev cX6_empty : ByteArray := prog_8_method_4_code
def yX6_empty : MethodName := ⟨RX6, "empty", "()V"⟩
abbrev cX6_append : ByteArray := prog_8_method_5_code
def yX6_append : MethodName := ⟨RX6, "append", "(I)V"⟩
abbrev cX6_appendRow : ByteArray := prog_8_method_6_code
def yX6_appendRow : MethodName := ⟨RX6, "appendRow", "(LRadixDesk$Row;)V"⟩
abbrev cX6_become : ByteArray := prog_8_method_7_code
def yX6_become : MethodName := ⟨RX6, "become", "(LRadixDesk$Row;)V"⟩
abbrev cX6_becomeText : ByteArray := prog_8_method_8_code
def yX6_becomeText : MethodName := ⟨RX6, "becomeText", "(Ljava/lang/String;)V"⟩
abbrev cX6_turnAround : ByteArray := prog_8_method_9_code
def yX6_turnAround : MethodName := ⟨RX6, "turnAround", "()V"⟩
def RX7 : String := "RadixDesk$Statement"
def TX7 : u_T := fun k => match k with
  | 0 => ("RadixDesk$Statement", "arguments", "[J", true)
  | 1 => ("RadixDesk$Statement", "verb", "LRadixDesk$Verb;", false)
  | 2 => ("RadixDesk$Statement", "place", "I", false)
  | 3 => ("RadixDesk$Statement", "pieceFrom", "I", false)
  | 4 => ("RadixDesk$Statement", "pieceTo", "I", false)
  | _ => ("RadixDesk$Statement", "next", "I", false)
def tyX7 : Nat → FieldType := fun k => match k with
  | 0 => .array .long
  | 1 => .object "RadixDesk$Verb"
  | 2 => .int
  | 3 => .int
  | 4 => .int
  | _ => .int
theorem nmX7 : ∀ a, a < 6 → ∀ b, b < 6 → a ≠ b → (TX7 a).2.1 ≠ (TX7 b).2.1 := by decide +kernel
theorem tyX7_ok : ∀ k, k < 6 → parseFieldDescriptor (TX7 k).2.2.1 = some (tyX7 k) := by decide +kernel
abbrev cX7_init : ByteArray := prog_9_method_1_code
def yX7_init : MethodName := ⟨RX7, "<init>", "()V"⟩
abbrev cX7_begin : ByteArray := prog_9_method_2_code
def yX7_begin : MethodName := ⟨RX7, "begin", "(LRadixDesk$Verb;I)V"⟩
abbrev cX7_setArgument : ByteArray := prog_9_method_3_code
def yX7_setArgument : MethodName := ⟨RX7, "setArgument", "(IJ)V"⟩
abbrev cX7_setPiece : ByteArray := prog_9_method_4_code
def yX7_setPiece : MethodName := ⟨RX7, "setPiece", "(II)V"⟩
abbrev cX7_argument : ByteArray := prog_9_method_5_code
def yX7_argument : MethodName := ⟨RX7, "argument", "(I)J"⟩
abbrev cX7_smallArgument : ByteArray := prog_9_method_6_code
def yX7_smallArgument : MethodName := ⟨RX7, "smallArgument", "(I)I"⟩
def RX8 : String := "RadixDesk$Theorem"
def TX8 : u_T := fun k => match k with
  | 0 => ("RadixDesk$Theorem", "sheet", "LRadixDesk$Row;", true)
  | _ => ("RadixDesk$Theorem", "reader", "LRadixDesk$Reader;", true)
def tyX8 : Nat → FieldType := fun k => match k with
  | 0 => .object "RadixDesk$Row"
  | _ => .object "RadixDesk$Reader"
theorem nmX8 : ∀ a, a < 2 → ∀ b, b < 2 → a ≠ b → (TX8 a).2.1 ≠ (TX8 b).2.1 := by decide +kernel
theorem tyX8_ok : ∀ k, k < 2 → parseFieldDescriptor (TX8 k).2.2.1 = some (tyX8 k) := by decide +kernel
abbrev cX8_init : ByteArray := prog_10_method_1_code
def yX8_init : MethodName := ⟨RX8, "<init>", "()V"⟩
abbrev cX8_failures : ByteArray := prog_10_method_2_code
def yX8_failures : MethodName := ⟨RX8, "failures", "(LRadixDesk$Desk;)I"⟩
abbrev cX8_isReadBack : ByteArray := prog_10_method_3_code
def yX8_isReadBack : MethodName := ⟨RX8, "isReadBack", "(LRadixDesk$Desk;IIZ)Z"⟩
abbrev cX8_isTurnedBack : ByteArray := prog_10_method_4_code
def yX8_isTurnedBack : MethodName := ⟨RX8, "isTurnedBack", "(LRadixDesk$Desk;I)Z"⟩
abbrev cX8_areBytesTurnedBack : ByteArray := prog_10_method_5_code
def yX8_areBytesTurnedBack : MethodName := ⟨RX8, "areBytesTurnedBack", "(LRadixDesk$Desk;I)Z"⟩
abbrev cX8_isRotatedBack : ByteArray := prog_10_method_6_code
def yX8_isRotatedBack : MethodName := ⟨RX8, "isRotatedBack", "(LRadixDesk$Desk;I)Z"⟩
abbrev cX8_isDivided : ByteArray := prog_10_method_7_code
def yX8_isDivided : MethodName := ⟨RX8, "isDivided", "(JJ)Z"⟩
def RX9 : String := "RadixDesk$Verb"
def TX9 : u_T := fun k => match k with
  | _ => ("", "", "", false)
def tyX9 : Nat → FieldType := fun k => match k with
  | _ => .int
theorem nmX9 : ∀ a, a < 0 → ∀ b, b < 0 → a ≠ b → (TX9 a).2.1 ≠ (TX9 b).2.1 := by decide +kernel
theorem tyX9_ok : ∀ k, k < 0 → parseFieldDescriptor (TX9 k).2.2.1 = some (tyX9 k) := by decide +kernel
abbrev cX9_least : ByteArray := prog_11_method_4_code
def yX9_least : MethodName := ⟨RX9, "least", "(C)J"⟩
abbrev cX9_most : ByteArray := prog_11_method_5_code
def yX9_most : MethodName := ⟨RX9, "most", "(C)J"⟩
def RX10 : String := "RadixDesk$Words"
def TX10 : u_T := fun k => match k with
  | 0 => ("RadixDesk$Words", "text", "LRadixDesk$Row;", false)
  | 1 => ("RadixDesk$Words", "from", "I", false)
  | _ => ("RadixDesk$Words", "to", "I", false)
def tyX10 : Nat → FieldType := fun k => match k with
  | 0 => .object "RadixDesk$Row"
  | 1 => .int
  | _ => .int
theorem nmX10 : ∀ a, a < 3 → ∀ b, b < 3 → a ≠ b → (TX10 a).2.1 ≠ (TX10 b).2.1 := by decide +kernel
theorem tyX10_ok : ∀ k, k < 3 → parseFieldDescriptor (TX10 k).2.2.1 = some (tyX10 k) := by decide +kernel
abbrev cX10_init : ByteArray := prog_12_method_1_code
def yX10_init : MethodName := ⟨RX10, "<init>", "()V"⟩
abbrev cX10_begin : ByteArray := prog_12_method_2_code
def yX10_begin : MethodName := ⟨RX10, "begin", "(LRadixDesk$Row;)V"⟩
abbrev cX10_advance : ByteArray := prog_12_method_3_code
def yX10_advance : MethodName := ⟨RX10, "advance", "()V"⟩
abbrev cX10_isEnd : ByteArray := prog_12_method_4_code
def yX10_isEnd : MethodName := ⟨RX10, "isEnd", "()Z"⟩
abbrev cX10_isAnySign : ByteArray := prog_12_method_5_code
def yX10_isAnySign : MethodName := ⟨RX10, "isAnySign", "()Z"⟩
abbrev cX10_isSign : ByteArray := prog_12_method_6_code
def yX10_isSign : MethodName := ⟨RX10, "isSign", "(C)Z"⟩
abbrev cX10_verb : ByteArray := prog_12_method_7_code
def yX10_verb : MethodName := ⟨RX10, "verb", "()LRadixDesk$Verb;"⟩
abbrev cX10_isWord : ByteArray := prog_12_method_8_code
def yX10_isWord : MethodName := ⟨RX10, "isWord", "(Ljava/lang/String;)Z"⟩
abbrev cX10_isGap : ByteArray := prog_12_method_9_code
def yX10_isGap : MethodName := ⟨RX10, "isGap", "(I)Z"⟩
abbrev cX10_isSignByte : ByteArray := prog_12_method_10_code
def yX10_isSignByte : MethodName := ⟨RX10, "isSignByte", "(I)Z"⟩
def RX11 : String := "RadixDesk"
def TX11 : u_T := fun k => match k with
  | 0 => ("RadixDesk", "desk", "LRadixDesk$Desk;", true)
  | 1 => ("RadixDesk", "text", "LRadixDesk$Row;", true)
  | 2 => ("RadixDesk", "sheet", "LRadixDesk$Row;", true)
  | 3 => ("RadixDesk", "program", "LRadixDesk$Program;", true)
  | _ => ("RadixDesk", "theorem", "LRadixDesk$Theorem;", true)
def tyX11 : Nat → FieldType := fun k => match k with
  | 0 => .object "RadixDesk$Desk"
  | 1 => .object "RadixDesk$Row"
  | 2 => .object "RadixDesk$Row"
  | 3 => .object "RadixDesk$Program"
  | _ => .object "RadixDesk$Theorem"
theorem nmX11 : ∀ a, a < 5 → ∀ b, b < 5 → a ≠ b → (TX11 a).2.1 ≠ (TX11 b).2.1 := by decide +kernel
theorem tyX11_ok : ∀ k, k < 5 → parseFieldDescriptor (TX11 k).2.2.1 = some (tyX11 k) := by decide +kernel
abbrev cX11_init : ByteArray := prog_1_method_1_code
def yX11_init : MethodName := ⟨RX11, "<init>", "()V"⟩
abbrev cX11_setWide : ByteArray := prog_1_method_2_code
def yX11_setWide : MethodName := ⟨RX11, "setWide", "(Z)Z"⟩
abbrev cX11_isWide : ByteArray := prog_1_method_3_code
def yX11_isWide : MethodName := ⟨RX11, "isWide", "()Z"⟩
abbrev cX11_set : ByteArray := prog_1_method_4_code
def yX11_set : MethodName := ⟨RX11, "set", "(IJ)J"⟩
abbrev cX11_fill : ByteArray := prog_1_method_5_code
def yX11_fill : MethodName := ⟨RX11, "fill", "(JJ)J"⟩
abbrev cX11_number : ByteArray := prog_1_method_6_code
def yX11_number : MethodName := ⟨RX11, "number", "(I)J"⟩
abbrev cX11_type : ByteArray := prog_1_method_7_code
def yX11_type : MethodName := ⟨RX11, "type", "(J)I"⟩
abbrev cX11_clearText : ByteArray := prog_1_method_8_code
def yX11_clearText : MethodName := ⟨RX11, "clearText", "()I"⟩
abbrev cX11_textLength : ByteArray := prog_1_method_9_code
def yX11_textLength : MethodName := ⟨RX11, "textLength", "()I"⟩
abbrev cX11_textAt : ByteArray := prog_1_method_10_code
def yX11_textAt : MethodName := ⟨RX11, "textAt", "(I)I"⟩
abbrev cX11_example : ByteArray := prog_1_method_11_code
def yX11_example : MethodName := ⟨RX11, "example", "(I)I"⟩
abbrev cX11_read : ByteArray := prog_1_method_12_code
def yX11_read : MethodName := ⟨RX11, "read", "(IIIIZ)Z"⟩
abbrev cX11_write : ByteArray := prog_1_method_13_code
def yX11_write : MethodName := ⟨RX11, "write", "(IIZ)I"⟩
abbrev cX11_writeBits : ByteArray := prog_1_method_14_code
def yX11_writeBits : MethodName := ⟨RX11, "writeBits", "(II)I"⟩
abbrev cX11_writeTen : ByteArray := prog_1_method_15_code
def yX11_writeTen : MethodName := ⟨RX11, "writeTen", "(IZ)I"⟩
abbrev cX11_pageLength : ByteArray := prog_1_method_16_code
def yX11_pageLength : MethodName := ⟨RX11, "pageLength", "()I"⟩
abbrev cX11_pageAt : ByteArray := prog_1_method_17_code
def yX11_pageAt : MethodName := ⟨RX11, "pageAt", "(I)I"⟩
abbrev cX11_copyPage : ByteArray := prog_1_method_18_code
def yX11_copyPage : MethodName := ⟨RX11, "copyPage", "()I"⟩
abbrev cX11_readPage : ByteArray := prog_1_method_19_code
def yX11_readPage : MethodName := ⟨RX11, "readPage", "(IIZ)Z"⟩
abbrev cX11_digitAt : ByteArray := prog_1_method_20_code
def yX11_digitAt : MethodName := ⟨RX11, "digitAt", "(IIIZ)I"⟩
abbrev cX11_digitSum : ByteArray := prog_1_method_21_code
def yX11_digitSum : MethodName := ⟨RX11, "digitSum", "(IIZ)I"⟩
abbrev cX11_isMirror : ByteArray := prog_1_method_22_code
def yX11_isMirror : MethodName := ⟨RX11, "isMirror", "(IIZ)Z"⟩
abbrev cX11_longest : ByteArray := prog_1_method_23_code
def yX11_longest : MethodName := ⟨RX11, "longest", "(IZ)I"⟩
abbrev cX11_count : ByteArray := prog_1_method_24_code
def yX11_count : MethodName := ⟨RX11, "count", "(I)I"⟩
abbrev cX11_leading : ByteArray := prog_1_method_25_code
def yX11_leading : MethodName := ⟨RX11, "leading", "(I)I"⟩
abbrev cX11_trailing : ByteArray := prog_1_method_26_code
def yX11_trailing : MethodName := ⟨RX11, "trailing", "(I)I"⟩
abbrev cX11_leadingOnes : ByteArray := prog_1_method_27_code
def yX11_leadingOnes : MethodName := ⟨RX11, "leadingOnes", "(I)I"⟩
abbrev cX11_trailingOnes : ByteArray := prog_1_method_28_code
def yX11_trailingOnes : MethodName := ⟨RX11, "trailingOnes", "(I)I"⟩
abbrev cX11_sign : ByteArray := prog_1_method_29_code
def yX11_sign : MethodName := ⟨RX11, "sign", "(I)I"⟩
abbrev cX11_reverse : ByteArray := prog_1_method_30_code
def yX11_reverse : MethodName := ⟨RX11, "reverse", "(I)J"⟩
abbrev cX11_reverseBytes : ByteArray := prog_1_method_31_code
def yX11_reverseBytes : MethodName := ⟨RX11, "reverseBytes", "(I)J"⟩
abbrev cX11_rotate : ByteArray := prog_1_method_32_code
def yX11_rotate : MethodName := ⟨RX11, "rotate", "(IIZ)J"⟩
abbrev cX11_highest : ByteArray := prog_1_method_33_code
def yX11_highest : MethodName := ⟨RX11, "highest", "(I)J"⟩
abbrev cX11_lowest : ByteArray := prog_1_method_34_code
def yX11_lowest : MethodName := ⟨RX11, "lowest", "(I)J"⟩
abbrev cX11_spread : ByteArray := prog_1_method_35_code
def yX11_spread : MethodName := ⟨RX11, "spread", "(I)J"⟩
abbrev cX11_combine : ByteArray := prog_1_method_36_code
def yX11_combine : MethodName := ⟨RX11, "combine", "(III)J"⟩
abbrev cX11_divide : ByteArray := prog_1_method_37_code
def yX11_divide : MethodName := ⟨RX11, "divide", "(IIIZ)Z"⟩
abbrev cX11_compare : ByteArray := prog_1_method_38_code
def yX11_compare : MethodName := ⟨RX11, "compare", "(IIZ)I"⟩
abbrev cX11_sort : ByteArray := prog_1_method_39_code
def yX11_sort : MethodName := ⟨RX11, "sort", "(Z)I"⟩
abbrev cX11_errorKind : ByteArray := prog_1_method_40_code
def yX11_errorKind : MethodName := ⟨RX11, "errorKind", "()I"⟩
abbrev cX11_errorPlace : ByteArray := prog_1_method_41_code
def yX11_errorPlace : MethodName := ⟨RX11, "errorPlace", "()I"⟩
abbrev cX11_run : ByteArray := prog_1_method_42_code
def yX11_run : MethodName := ⟨RX11, "run", "()I"⟩
abbrev cX11_errors : ByteArray := prog_1_method_43_code
def yX11_errors : MethodName := ⟨RX11, "errors", "()I"⟩
abbrev cX11_meanCount : ByteArray := prog_1_method_44_code
def yX11_meanCount : MethodName := ⟨RX11, "meanCount", "()D"⟩
abbrev cX11_negativeShare : ByteArray := prog_1_method_45_code
def yX11_negativeShare : MethodName := ⟨RX11, "negativeShare", "()F"⟩
abbrev cX11_checkCell : ByteArray := prog_1_method_46_code
def yX11_checkCell : MethodName := ⟨RX11, "checkCell", "(I)V"⟩
abbrev cX11_checkRoom : ByteArray := prog_1_method_47_code
def yX11_checkRoom : MethodName := ⟨RX11, "checkRoom", "(I)V"⟩
abbrev cX11_byteFrom : ByteArray := prog_1_method_48_code
def yX11_byteFrom : MethodName := ⟨RX11, "byteFrom", "(LRadixDesk$Row;I)I"⟩
abbrev cX11_byteOf : ByteArray := prog_1_method_49_code
def yX11_byteOf : MethodName := ⟨RX11, "byteOf", "(JI)I"⟩
abbrev cX11_bytesWithin : ByteArray := prog_1_method_50_code
def yX11_bytesWithin : MethodName := ⟨RX11, "bytesWithin", "(J)I"⟩
abbrev cX11_writeOnSheet : ByteArray := prog_1_method_51_code
def yX11_writeOnSheet : MethodName := ⟨RX11, "writeOnSheet", "(IIZ)I"⟩
def RX12 : String := "RadixDeskModel$Desk"
def TX12 : u_T := fun k => match k with
  | 0 => ("RadixDeskModel$Desk", "isWide", "Z", false)
  | 1 => ("RadixDeskModel$Desk", "cells", "[[Z", true)
  | 2 => ("RadixDeskModel$Desk", "page", "[I", true)
  | 3 => ("RadixDeskModel$Desk", "pageMany", "I", false)
  | 4 => ("RadixDeskModel$Desk", "digits", "[I", true)
  | 5 => ("RadixDeskModel$Desk", "many", "I", false)
  | 6 => ("RadixDeskModel$Desk", "isMinus", "Z", false)
  | 7 => ("RadixDeskModel$Desk", "found", "[Z", true)
  | 8 => ("RadixDeskModel$Desk", "one", "[Z", true)
  | 9 => ("RadixDeskModel$Desk", "other", "[Z", true)
  | 10 => ("RadixDeskModel$Desk", "sum", "[Z", true)
  | _ => ("RadixDeskModel$Desk", "rest", "[Z", true)
def tyX12 : Nat → FieldType := fun k => match k with
  | 0 => .boolean
  | 1 => .array (.array .boolean)
  | 2 => .array .int
  | 3 => .int
  | 4 => .array .int
  | 5 => .int
  | 6 => .boolean
  | 7 => .array .boolean
  | 8 => .array .boolean
  | 9 => .array .boolean
  | 10 => .array .boolean
  | _ => .array .boolean
theorem nmX12 : ∀ a, a < 12 → ∀ b, b < 12 → a ≠ b → (TX12 a).2.1 ≠ (TX12 b).2.1 := by decide +kernel
theorem tyX12_ok : ∀ k, k < 12 → parseFieldDescriptor (TX12 k).2.2.1 = some (tyX12 k) := by decide +kernel
abbrev cX12_init : ByteArray := prog_15_method_1_code
def yX12_init : MethodName := ⟨RX12, "<init>", "()V"⟩
abbrev cX12_take : ByteArray := prog_15_method_2_code
def yX12_take : MethodName := ⟨RX12, "take", "(LRadixDeskModel$Desk;)V"⟩
abbrev cX12_bits : ByteArray := prog_15_method_3_code
def yX12_bits : MethodName := ⟨RX12, "bits", "()I"⟩
abbrev cX12_told : ByteArray := prog_15_method_4_code
def yX12_told : MethodName := ⟨RX12, "told", "([ZI)J"⟩
abbrev cX12_number : ByteArray := prog_15_method_5_code
def yX12_number : MethodName := ⟨RX12, "number", "(I)J"⟩
abbrev cX12_puts : ByteArray := prog_15_method_6_code
def yX12_puts : MethodName := ⟨RX12, "puts", "(I[Z)J"⟩
abbrev cX12_putsNumber : ByteArray := prog_15_method_7_code
def yX12_putsNumber : MethodName := ⟨RX12, "putsNumber", "(IJ)V"⟩
abbrev cX12_sizes : ByteArray := prog_15_method_8_code
def yX12_sizes : MethodName := ⟨RX12, "sizes", "(IZ[Z)Z"⟩
abbrev cX12_digits : ByteArray := prog_15_method_9_code
def yX12_digits : MethodName := ⟨RX12, "digits", "(IIZ)V"⟩
abbrev cX12_length : ByteArray := prog_15_method_10_code
def yX12_length : MethodName := ⟨RX12, "length", "()I"⟩
abbrev cX12_writes : ByteArray := prog_15_method_11_code
def yX12_writes : MethodName := ⟨RX12, "writes", "(IIZ)I"⟩
abbrev cX12_finds : ByteArray := prog_15_method_12_code
def yX12_finds : MethodName := ⟨RX12, "finds", "([IIIIZI)Z"⟩
abbrev cX12_reads : ByteArray := prog_15_method_13_code
def yX12_reads : MethodName := ⟨RX12, "reads", "(I[IIIIZ)Z"⟩
abbrev cX12_readsPage : ByteArray := prog_15_method_14_code
def yX12_readsPage : MethodName := ⟨RX12, "readsPage", "(IIZ)Z"⟩
abbrev cX12_alike : ByteArray := prog_15_method_15_code
def yX12_alike : MethodName := ⟨RX12, "alike", "(IZZ)I"⟩
abbrev cX12_count : ByteArray := prog_15_method_16_code
def yX12_count : MethodName := ⟨RX12, "count", "(I)I"⟩
abbrev cX12_reverses : ByteArray := prog_15_method_17_code
def yX12_reverses : MethodName := ⟨RX12, "reverses", "(I)J"⟩
abbrev cX12_reversesBytes : ByteArray := prog_15_method_18_code
def yX12_reversesBytes : MethodName := ⟨RX12, "reversesBytes", "(I)J"⟩
abbrev cX12_turns : ByteArray := prog_15_method_19_code
def yX12_turns : MethodName := ⟨RX12, "turns", "(IIZ)J"⟩
abbrev cX12_leaves : ByteArray := prog_15_method_20_code
def yX12_leaves : MethodName := ⟨RX12, "leaves", "(IZ)J"⟩
abbrev cX12_spreads : ByteArray := prog_15_method_21_code
def yX12_spreads : MethodName := ⟨RX12, "spreads", "(I)J"⟩
abbrev cX12_combines : ByteArray := prog_15_method_22_code
def yX12_combines : MethodName := ⟨RX12, "combines", "(III)J"⟩
abbrev cX12_multiplies : ByteArray := prog_15_method_23_code
def yX12_multiplies : MethodName := ⟨RX12, "multiplies", "([Z[Z)V"⟩
abbrev cX12_divides : ByteArray := prog_15_method_24_code
def yX12_divides : MethodName := ⟨RX12, "divides", "(IIIZ)Z"⟩
abbrev cX12_compares : ByteArray := prog_15_method_25_code
def yX12_compares : MethodName := ⟨RX12, "compares", "([Z[ZZ)I"⟩
abbrev cX12_sorts : ByteArray := prog_15_method_26_code
def yX12_sorts : MethodName := ⟨RX12, "sorts", "(Z)I"⟩
def RX13 : String := "RadixDeskModel"
def TX13 : u_T := fun k => match k with
  | 0 => ("RadixDeskModel", "thrown", "I", false)
  | 1 => ("RadixDeskModel", "desk", "LRadixDeskModel$Desk;", true)
  | 2 => ("RadixDeskModel", "trial", "LRadixDeskModel$Desk;", true)
  | 3 => ("RadixDeskModel", "text", "[I", true)
  | 4 => ("RadixDeskModel", "textMany", "I", false)
  | 5 => ("RadixDeskModel", "begins", "[I", true)
  | 6 => ("RadixDeskModel", "ends", "[I", true)
  | 7 => ("RadixDeskModel", "values", "[J", true)
  | 8 => ("RadixDeskModel", "words", "I", false)
  | 9 => ("RadixDeskModel", "at", "I", false)
  | 10 => ("RadixDeskModel", "errorKind", "I", false)
  | 11 => ("RadixDeskModel", "errorPlace", "I", false)
  | _ => ("RadixDeskModel", "steps", "I", false)
def tyX13 : Nat → FieldType := fun k => match k with
  | 0 => .int
  | 1 => .object "RadixDeskModel$Desk"
  | 2 => .object "RadixDeskModel$Desk"
  | 3 => .array .int
  | 4 => .int
  | 5 => .array .int
  | 6 => .array .int
  | 7 => .array .long
  | 8 => .int
  | 9 => .int
  | 10 => .int
  | 11 => .int
  | _ => .int
theorem nmX13 : ∀ a, a < 13 → ∀ b, b < 13 → a ≠ b → (TX13 a).2.1 ≠ (TX13 b).2.1 := by decide +kernel
theorem tyX13_ok : ∀ k, k < 13 → parseFieldDescriptor (TX13 k).2.2.1 = some (tyX13 k) := by decide +kernel
abbrev cX13_thrown : ByteArray := prog_14_method_1_code
def yX13_thrown : MethodName := ⟨RX13, "thrown", "()I"⟩
abbrev cX13_in : ByteArray := prog_14_method_2_code
def yX13_in : MethodName := ⟨RX13, "in", "(III)Z"⟩
abbrev cX13_passes : ByteArray := prog_14_method_3_code
def yX13_passes : MethodName := ⟨RX13, "passes", "(ZZ)Z"⟩
abbrev cX13_isCell : ByteArray := prog_14_method_4_code
def yX13_isCell : MethodName := ⟨RX13, "isCell", "(I)Z"⟩
abbrev cX13_digitOf : ByteArray := prog_14_method_5_code
def yX13_digitOf : MethodName := ⟨RX13, "digitOf", "(I)I"⟩
abbrev cX13_signOf : ByteArray := prog_14_method_6_code
def yX13_signOf : MethodName := ⟨RX13, "signOf", "(I)I"⟩
abbrev cX13_clear : ByteArray := prog_14_method_7_code
def yX13_clear : MethodName := ⟨RX13, "clear", "([Z)V"⟩
abbrev cX13_copy : ByteArray := prog_14_method_8_code
def yX13_copy : MethodName := ⟨RX13, "copy", "([Z[ZI)V"⟩
abbrev cX13_compared : ByteArray := prog_14_method_9_code
def yX13_compared : MethodName := ⟨RX13, "compared", "([Z[ZI)I"⟩
abbrev cX13_adds : ByteArray := prog_14_method_10_code
def yX13_adds : MethodName := ⟨RX13, "adds", "([Z[ZIZ)V"⟩
abbrev cX13_negates : ByteArray := prog_14_method_11_code
def yX13_negates : MethodName := ⟨RX13, "negates", "([ZI)V"⟩
abbrev cX13_isNothing : ByteArray := prog_14_method_12_code
def yX13_isNothing : MethodName := ⟨RX13, "isNothing", "([ZI)Z"⟩
abbrev cX13_lays : ByteArray := prog_14_method_13_code
def yX13_lays : MethodName := ⟨RX13, "lays", "([ZJ)V"⟩
abbrev cX13_init : ByteArray := prog_14_method_14_code
def yX13_init : MethodName := ⟨RX13, "<init>", "()V"⟩
abbrev cX13_setWide : ByteArray := prog_14_method_15_code
def yX13_setWide : MethodName := ⟨RX13, "setWide", "(Z)Z"⟩
abbrev cX13_isWide : ByteArray := prog_14_method_16_code
def yX13_isWide : MethodName := ⟨RX13, "isWide", "()Z"⟩
abbrev cX13_set : ByteArray := prog_14_method_17_code
def yX13_set : MethodName := ⟨RX13, "set", "(IJ)J"⟩
abbrev cX13_fill : ByteArray := prog_14_method_18_code
def yX13_fill : MethodName := ⟨RX13, "fill", "(JJ)J"⟩
abbrev cX13_number : ByteArray := prog_14_method_19_code
def yX13_number : MethodName := ⟨RX13, "number", "(I)J"⟩
abbrev cX13_typed : ByteArray := prog_14_method_20_code
def yX13_typed : MethodName := ⟨RX13, "typed", "(I)Z"⟩
abbrev cX13_type : ByteArray := prog_14_method_21_code
def yX13_type : MethodName := ⟨RX13, "type", "(J)I"⟩
abbrev cX13_clearText : ByteArray := prog_14_method_22_code
def yX13_clearText : MethodName := ⟨RX13, "clearText", "()I"⟩
abbrev cX13_textLength : ByteArray := prog_14_method_23_code
def yX13_textLength : MethodName := ⟨RX13, "textLength", "()I"⟩
abbrev cX13_textAt : ByteArray := prog_14_method_24_code
def yX13_textAt : MethodName := ⟨RX13, "textAt", "(I)I"⟩
abbrev cX13_exampleOf : ByteArray := prog_14_method_25_code
def yX13_exampleOf : MethodName := ⟨RX13, "exampleOf", "(I)Ljava/lang/String;"⟩
abbrev cX13_example : ByteArray := prog_14_method_26_code
def yX13_example : MethodName := ⟨RX13, "example", "(I)I"⟩
abbrev cX13_read : ByteArray := prog_14_method_27_code
def yX13_read : MethodName := ⟨RX13, "read", "(IIIIZ)Z"⟩
abbrev cX13_write : ByteArray := prog_14_method_28_code
def yX13_write : MethodName := ⟨RX13, "write", "(IIZ)I"⟩
abbrev cX13_writeBits : ByteArray := prog_14_method_29_code
def yX13_writeBits : MethodName := ⟨RX13, "writeBits", "(II)I"⟩
abbrev cX13_writeTen : ByteArray := prog_14_method_30_code
def yX13_writeTen : MethodName := ⟨RX13, "writeTen", "(IZ)I"⟩
abbrev cX13_pageLength : ByteArray := prog_14_method_31_code
def yX13_pageLength : MethodName := ⟨RX13, "pageLength", "()I"⟩
abbrev cX13_pageAt : ByteArray := prog_14_method_32_code
def yX13_pageAt : MethodName := ⟨RX13, "pageAt", "(I)I"⟩
abbrev cX13_copyPage : ByteArray := prog_14_method_33_code
def yX13_copyPage : MethodName := ⟨RX13, "copyPage", "()I"⟩
abbrev cX13_readPage : ByteArray := prog_14_method_34_code
def yX13_readPage : MethodName := ⟨RX13, "readPage", "(IIZ)Z"⟩
abbrev cX13_digitAt : ByteArray := prog_14_method_35_code
def yX13_digitAt : MethodName := ⟨RX13, "digitAt", "(IIIZ)I"⟩
abbrev cX13_digitSum : ByteArray := prog_14_method_36_code
def yX13_digitSum : MethodName := ⟨RX13, "digitSum", "(IIZ)I"⟩
abbrev cX13_isMirror : ByteArray := prog_14_method_37_code
def yX13_isMirror : MethodName := ⟨RX13, "isMirror", "(IIZ)Z"⟩
abbrev cX13_longest : ByteArray := prog_14_method_38_code
def yX13_longest : MethodName := ⟨RX13, "longest", "(IZ)I"⟩
abbrev cX13_count : ByteArray := prog_14_method_39_code
def yX13_count : MethodName := ⟨RX13, "count", "(I)I"⟩
abbrev cX13_leading : ByteArray := prog_14_method_40_code
def yX13_leading : MethodName := ⟨RX13, "leading", "(I)I"⟩
abbrev cX13_trailing : ByteArray := prog_14_method_41_code
def yX13_trailing : MethodName := ⟨RX13, "trailing", "(I)I"⟩
abbrev cX13_leadingOnes : ByteArray := prog_14_method_42_code
def yX13_leadingOnes : MethodName := ⟨RX13, "leadingOnes", "(I)I"⟩
abbrev cX13_trailingOnes : ByteArray := prog_14_method_43_code
def yX13_trailingOnes : MethodName := ⟨RX13, "trailingOnes", "(I)I"⟩
abbrev cX13_sign : ByteArray := prog_14_method_44_code
def yX13_sign : MethodName := ⟨RX13, "sign", "(I)I"⟩
abbrev cX13_reverse : ByteArray := prog_14_method_45_code
def yX13_reverse : MethodName := ⟨RX13, "reverse", "(I)J"⟩
abbrev cX13_reverseBytes : ByteArray := prog_14_method_46_code
def yX13_reverseBytes : MethodName := ⟨RX13, "reverseBytes", "(I)J"⟩
abbrev cX13_rotate : ByteArray := prog_14_method_47_code
def yX13_rotate : MethodName := ⟨RX13, "rotate", "(IIZ)J"⟩
abbrev cX13_highest : ByteArray := prog_14_method_48_code
def yX13_highest : MethodName := ⟨RX13, "highest", "(I)J"⟩
abbrev cX13_lowest : ByteArray := prog_14_method_49_code
def yX13_lowest : MethodName := ⟨RX13, "lowest", "(I)J"⟩
abbrev cX13_spread : ByteArray := prog_14_method_50_code
def yX13_spread : MethodName := ⟨RX13, "spread", "(I)J"⟩
abbrev cX13_combine : ByteArray := prog_14_method_51_code
def yX13_combine : MethodName := ⟨RX13, "combine", "(III)J"⟩
abbrev cX13_divide : ByteArray := prog_14_method_52_code
def yX13_divide : MethodName := ⟨RX13, "divide", "(IIIZ)Z"⟩
abbrev cX13_compare : ByteArray := prog_14_method_53_code
def yX13_compare : MethodName := ⟨RX13, "compare", "(IIZ)I"⟩
abbrev cX13_sort : ByteArray := prog_14_method_54_code
def yX13_sort : MethodName := ⟨RX13, "sort", "(Z)I"⟩
abbrev cX13_fails : ByteArray := prog_14_method_55_code
def yX13_fails : MethodName := ⟨RX13, "fails", "(II)V"⟩
abbrev cX13_isBlank : ByteArray := prog_14_method_56_code
def yX13_isBlank : MethodName := ⟨RX13, "isBlank", "(I)Z"⟩
abbrev cX13_isMark : ByteArray := prog_14_method_57_code
def yX13_isMark : MethodName := ⟨RX13, "isMark", "(I)Z"⟩
abbrev cX13_splits : ByteArray := prog_14_method_58_code
def yX13_splits : MethodName := ⟨RX13, "splits", "()V"⟩
abbrev cX13_isMarkAt : ByteArray := prog_14_method_59_code
def yX13_isMarkAt : MethodName := ⟨RX13, "isMarkAt", "(II)Z"⟩
abbrev cX13_nameOf : ByteArray := prog_14_method_60_code
def yX13_nameOf : MethodName := ⟨RX13, "nameOf", "(I)I"⟩
abbrev cX13_shapeOf : ByteArray := prog_14_method_61_code
def yX13_shapeOf : MethodName := ⟨RX13, "shapeOf", "(I)Ljava/lang/String;"⟩
abbrev cX13_failsHere : ByteArray := prog_14_method_62_code
def yX13_failsHere : MethodName := ⟨RX13, "failsHere", "()V"⟩
abbrev cX13_mark : ByteArray := prog_14_method_63_code
def yX13_mark : MethodName := ⟨RX13, "mark", "(I)V"⟩
abbrev cX13_isIn : ByteArray := prog_14_method_64_code
def yX13_isIn : MethodName := ⟨RX13, "isIn", "(JI)Z"⟩
abbrev cX13_operand : ByteArray := prog_14_method_65_code
def yX13_operand : MethodName := ⟨RX13, "operand", "(I)V"⟩
abbrev cX13_checkStatement : ByteArray := prog_14_method_66_code
def yX13_checkStatement : MethodName := ⟨RX13, "checkStatement", "(I)V"⟩
abbrev cX13_checkBlock : ByteArray := prog_14_method_67_code
def yX13_checkBlock : MethodName := ⟨RX13, "checkBlock", "(I)V"⟩
abbrev cX13_cellAt : ByteArray := prog_14_method_68_code
def yX13_cellAt : MethodName := ⟨RX13, "cellAt", "(I)I"⟩
abbrev cX13_skipsBlock : ByteArray := prog_14_method_69_code
def yX13_skipsBlock : MethodName := ⟨RX13, "skipsBlock", "()V"⟩
abbrev cX13_runLoop : ByteArray := prog_14_method_70_code
def yX13_runLoop : MethodName := ⟨RX13, "runLoop", "(I)V"⟩
abbrev cX13_runStatement : ByteArray := prog_14_method_71_code
def yX13_runStatement : MethodName := ⟨RX13, "runStatement", "()V"⟩
abbrev cX13_does : ByteArray := prog_14_method_72_code
def yX13_does : MethodName := ⟨RX13, "does", "(II)Z"⟩
abbrev cX13_writesOrReads : ByteArray := prog_14_method_73_code
def yX13_writesOrReads : MethodName := ⟨RX13, "writesOrReads", "(III)Z"⟩
abbrev cX13_tries : ByteArray := prog_14_method_74_code
def yX13_tries : MethodName := ⟨RX13, "tries", "()V"⟩
abbrev cX13_errorKind : ByteArray := prog_14_method_75_code
def yX13_errorKind : MethodName := ⟨RX13, "errorKind", "()I"⟩
abbrev cX13_errorPlace : ByteArray := prog_14_method_76_code
def yX13_errorPlace : MethodName := ⟨RX13, "errorPlace", "()I"⟩
abbrev cX13_run : ByteArray := prog_14_method_77_code
def yX13_run : MethodName := ⟨RX13, "run", "()I"⟩
abbrev cX13_failsIn : ByteArray := prog_14_method_78_code
def yX13_failsIn : MethodName := ⟨RX13, "failsIn", "(IIZ)I"⟩
abbrev cX13_isOther : ByteArray := prog_14_method_79_code
def yX13_isOther : MethodName := ⟨RX13, "isOther", "(I)I"⟩
abbrev cX13_failsTwice : ByteArray := prog_14_method_80_code
def yX13_failsTwice : MethodName := ⟨RX13, "failsTwice", "(I)I"⟩
abbrev cX13_failsDivided : ByteArray := prog_14_method_81_code
def yX13_failsDivided : MethodName := ⟨RX13, "failsDivided", "(I)I"⟩
abbrev cX13_errors : ByteArray := prog_14_method_82_code
def yX13_errors : MethodName := ⟨RX13, "errors", "()I"⟩
abbrev cX13_meanCount : ByteArray := prog_14_method_83_code
def yX13_meanCount : MethodName := ⟨RX13, "meanCount", "()D"⟩
abbrev cX13_negativeShare : ByteArray := prog_14_method_84_code
def yX13_negativeShare : MethodName := ⟨RX13, "negativeShare", "()F"⟩
def RJx145de : String := "java/io/Serializable"
def TJx145de : u_T := fun k => match k with
  | _ => ("", "", "", false)
def tyJx145de : Nat → FieldType := fun k => match k with
  | _ => .int
theorem nmJx145de : ∀ a, a < 0 → ∀ b, b < 0 → a ≠ b → (TJx145de a).2.1 ≠ (TJx145de b).2.1 := by decide +kernel
theorem tyJx145de_ok : ∀ k, k < 0 → parseFieldDescriptor (TJx145de k).2.2.1 = some (tyJx145de k) := by decide +kernel
def RJ5 : String := "java/lang/AbstractStringBuilder"
def TJ5 : u_T := fun k => match k with
  | _ => ("", "", "", false)
def tyJ5 : Nat → FieldType := fun k => match k with
  | _ => .int
theorem nmJ5 : ∀ a, a < 0 → ∀ b, b < 0 → a ≠ b → (TJ5 a).2.1 ≠ (TJ5 b).2.1 := by decide +kernel
theorem tyJ5_ok : ∀ k, k < 0 → parseFieldDescriptor (TJ5 k).2.2.1 = some (tyJ5 k) := by decide +kernel
abbrev cJ5_init_d00df : ByteArray := prog_17_method_2_code
def yJ5_init_d00df : MethodName := ⟨RJ5, "<init>", "(I)V"⟩
abbrev cJ5_length_8abf5 : ByteArray := prog_17_method_6_code
def yJ5_length_8abf5 : MethodName := ⟨RJ5, "length", "()I"⟩
abbrev cJ5_ensureCapacityInternal_d00df : ByteArray := prog_17_method_9_code
def yJ5_ensureCapacityInternal_d00df : MethodName := ⟨RJ5, "ensureCapacityInternal", "(I)V"⟩
abbrev cJ5_newCapacity_0f7a4 : ByteArray := prog_17_method_10_code
def yJ5_newCapacity_0f7a4 : MethodName := ⟨RJ5, "newCapacity", "(I)I"⟩
abbrev cJ5_inflate_da8c8 : ByteArray := prog_17_method_11_code
def yJ5_inflate_da8c8 : MethodName := ⟨RJ5, "inflate", "()V"⟩
abbrev cJ5_append_cf1ce : ByteArray := prog_17_method_22_code
def yJ5_append_cf1ce : MethodName := ⟨RJ5, "append", "(Ljava/lang/String;)Ljava/lang/AbstractStringBuilder;"⟩
abbrev cJ5_appendNull_278bc : ByteArray := prog_17_method_26_code
def yJ5_appendNull_278bc : MethodName := ⟨RJ5, "appendNull", "()Ljava/lang/AbstractStringBuilder;"⟩
abbrev cJ5_append_c97b9 : ByteArray := prog_17_method_32_code
def yJ5_append_c97b9 : MethodName := ⟨RJ5, "append", "(I)Ljava/lang/AbstractStringBuilder;"⟩
abbrev cJ5_getValue_6d5f1 : ByteArray := prog_17_method_64_code
def yJ5_getValue_6d5f1 : MethodName := ⟨RJ5, "getValue", "()[B"⟩
abbrev cJ5_isLatin1_aae02 : ByteArray := prog_17_method_68_code
def yJ5_isLatin1_aae02 : MethodName := ⟨RJ5, "isLatin1", "()Z"⟩
abbrev cJ5_inflateIfNeededFor_a7421 : ByteArray := prog_17_method_71_code
def yJ5_inflateIfNeededFor_a7421 : MethodName := ⟨RJ5, "inflateIfNeededFor", "(Ljava/lang/String;)V"⟩
abbrev cJ5_putStringAt_47b60 : ByteArray := prog_17_method_73_code
def yJ5_putStringAt_47b60 : MethodName := ⟨RJ5, "putStringAt", "(ILjava/lang/String;)V"⟩
def RJx2cfe8 : String := "java/lang/Appendable"
def TJx2cfe8 : u_T := fun k => match k with
  | _ => ("", "", "", false)
def tyJx2cfe8 : Nat → FieldType := fun k => match k with
  | _ => .int
theorem nmJx2cfe8 : ∀ a, a < 0 → ∀ b, b < 0 → a ≠ b → (TJx2cfe8 a).2.1 ≠ (TJx2cfe8 b).2.1 := by decide +kernel
theorem tyJx2cfe8_ok : ∀ k, k < 0 → parseFieldDescriptor (TJx2cfe8 k).2.2.1 = some (tyJx2cfe8 k) := by decide +kernel
def RJx9f9b0 : String := "java/lang/CharSequence"
def TJx9f9b0 : u_T := fun k => match k with
  | _ => ("", "", "", false)
def tyJx9f9b0 : Nat → FieldType := fun k => match k with
  | _ => .int
theorem nmJx9f9b0 : ∀ a, a < 0 → ∀ b, b < 0 → a ≠ b → (TJx9f9b0 a).2.1 ≠ (TJx9f9b0 b).2.1 := by decide +kernel
theorem tyJx9f9b0_ok : ∀ k, k < 0 → parseFieldDescriptor (TJx9f9b0 k).2.2.1 = some (tyJx9f9b0 k) := by decide +kernel
def RJ11 : String := "java/lang/Character"
def TJ11 : u_T := fun k => match k with
  | _ => ("", "", "", false)
def tyJ11 : Nat → FieldType := fun k => match k with
  | _ => .int
theorem nmJ11 : ∀ a, a < 0 → ∀ b, b < 0 → a ≠ b → (TJ11 a).2.1 ≠ (TJ11 b).2.1 := by decide +kernel
theorem tyJ11_ok : ∀ k, k < 0 → parseFieldDescriptor (TJ11 k).2.2.1 = some (tyJ11 k) := by decide +kernel
abbrev cJ11_isValidCodePoint_9a6ad : ByteArray := prog_20_method_11_code
def yJ11_isValidCodePoint_9a6ad : MethodName := ⟨RJ11, "isValidCodePoint", "(I)Z"⟩
abbrev cJ11_highSurrogate_5068e : ByteArray := prog_20_method_28_code
def yJ11_highSurrogate_5068e : MethodName := ⟨RJ11, "highSurrogate", "(I)C"⟩
abbrev cJ11_lowSurrogate_5068e : ByteArray := prog_20_method_29_code
def yJ11_lowSurrogate_5068e : MethodName := ⟨RJ11, "lowSurrogate", "(I)C"⟩
def RJx8e188 : String := "java/lang/Cloneable"
def TJx8e188 : u_T := fun k => match k with
  | _ => ("", "", "", false)
def tyJx8e188 : Nat → FieldType := fun k => match k with
  | _ => .int
theorem nmJx8e188 : ∀ a, a < 0 → ∀ b, b < 0 → a ≠ b → (TJx8e188 a).2.1 ≠ (TJx8e188 b).2.1 := by decide +kernel
theorem tyJx8e188_ok : ∀ k, k < 0 → parseFieldDescriptor (TJx8e188 k).2.2.1 = some (tyJx8e188 k) := by decide +kernel
def RJxb160c : String := "java/lang/Comparable"
def TJxb160c : u_T := fun k => match k with
  | _ => ("", "", "", false)
def tyJxb160c : Nat → FieldType := fun k => match k with
  | _ => .int
theorem nmJxb160c : ∀ a, a < 0 → ∀ b, b < 0 → a ≠ b → (TJxb160c a).2.1 ≠ (TJxb160c b).2.1 := by decide +kernel
theorem tyJxb160c_ok : ∀ k, k < 0 → parseFieldDescriptor (TJxb160c k).2.2.1 = some (tyJxb160c k) := by decide +kernel
def RJx29ce0 : String := "java/lang/Enum"
def TJx29ce0 : u_T := fun k => match k with
  | _ => ("", "", "", false)
def tyJx29ce0 : Nat → FieldType := fun k => match k with
  | _ => .int
theorem nmJx29ce0 : ∀ a, a < 0 → ∀ b, b < 0 → a ≠ b → (TJx29ce0 a).2.1 ≠ (TJx29ce0 b).2.1 := by decide +kernel
theorem tyJx29ce0_ok : ∀ k, k < 0 → parseFieldDescriptor (TJx29ce0 k).2.2.1 = some (tyJx29ce0 k) := by decide +kernel
abbrev cJx29ce0_ordinal_8abf5 : ByteArray := prog_23_method_2_code
def yJx29ce0_ordinal_8abf5 : MethodName := ⟨RJx29ce0, "ordinal", "()I"⟩
def RJ6 : String := "java/lang/Integer"
def TJ6 : u_T := fun k => match k with
  | _ => ("", "", "", false)
def tyJ6 : Nat → FieldType := fun k => match k with
  | _ => .int
theorem nmJ6 : ∀ a, a < 0 → ∀ b, b < 0 → a ≠ b → (TJ6 a).2.1 ≠ (TJ6 b).2.1 := by decide +kernel
theorem tyJ6_ok : ∀ k, k < 0 → parseFieldDescriptor (TJ6 k).2.2.1 = some (tyJ6 k) := by decide +kernel
abbrev cJ6_getChars_ba4f3 : ByteArray := prog_28_method_12_code
def yJ6_getChars_ba4f3 : MethodName := ⟨RJ6, "getChars", "(II[B)I"⟩
abbrev cJ6_stringSize_0f7a4 : ByteArray := prog_28_method_13_code
def yJ6_stringSize_0f7a4 : MethodName := ⟨RJ6, "stringSize", "(I)I"⟩
abbrev cJ6_highestOneBit_0f7a4 : ByteArray := prog_28_method_45_code
def yJ6_highestOneBit_0f7a4 : MethodName := ⟨RJ6, "highestOneBit", "(I)I"⟩
abbrev cJ6_lowestOneBit_0f7a4 : ByteArray := prog_28_method_46_code
def yJ6_lowestOneBit_0f7a4 : MethodName := ⟨RJ6, "lowestOneBit", "(I)I"⟩
abbrev cJ6_numberOfLeadingZeros_0f7a4 : ByteArray := prog_28_method_47_code
def yJ6_numberOfLeadingZeros_0f7a4 : MethodName := ⟨RJ6, "numberOfLeadingZeros", "(I)I"⟩
abbrev cJ6_numberOfTrailingZeros_0f7a4 : ByteArray := prog_28_method_48_code
def yJ6_numberOfTrailingZeros_0f7a4 : MethodName := ⟨RJ6, "numberOfTrailingZeros", "(I)I"⟩
abbrev cJ6_rotateLeft_7cf53 : ByteArray := prog_28_method_50_code
def yJ6_rotateLeft_7cf53 : MethodName := ⟨RJ6, "rotateLeft", "(II)I"⟩
abbrev cJ6_rotateRight_7cf53 : ByteArray := prog_28_method_51_code
def yJ6_rotateRight_7cf53 : MethodName := ⟨RJ6, "rotateRight", "(II)I"⟩
abbrev cJ6_reverse_0f7a4 : ByteArray := prog_28_method_52_code
def yJ6_reverse_0f7a4 : MethodName := ⟨RJ6, "reverse", "(I)I"⟩
abbrev cJ6_signum_0f7a4 : ByteArray := prog_28_method_56_code
def yJ6_signum_0f7a4 : MethodName := ⟨RJ6, "signum", "(I)I"⟩
abbrev cJ6_reverseBytes_0f7a4 : ByteArray := prog_28_method_57_code
def yJ6_reverseBytes_0f7a4 : MethodName := ⟨RJ6, "reverseBytes", "(I)I"⟩
def RJ13 : String := "java/lang/Long"
def TJ13 : u_T := fun k => match k with
  | _ => ("", "", "", false)
def tyJ13 : Nat → FieldType := fun k => match k with
  | _ => .int
theorem nmJ13 : ∀ a, a < 0 → ∀ b, b < 0 → a ≠ b → (TJ13 a).2.1 ≠ (TJ13 b).2.1 := by decide +kernel
theorem tyJ13_ok : ∀ k, k < 0 → parseFieldDescriptor (TJ13 k).2.2.1 = some (tyJ13 k) := by decide +kernel
abbrev cJ13_compare_74951 : ByteArray := prog_29_method_42_code
def yJ13_compare_74951 : MethodName := ⟨RJ13, "compare", "(JJ)I"⟩
abbrev cJ13_highestOneBit_067f4 : ByteArray := prog_29_method_46_code
def yJ13_highestOneBit_067f4 : MethodName := ⟨RJ13, "highestOneBit", "(J)J"⟩
abbrev cJ13_lowestOneBit_067f4 : ByteArray := prog_29_method_47_code
def yJ13_lowestOneBit_067f4 : MethodName := ⟨RJ13, "lowestOneBit", "(J)J"⟩
abbrev cJ13_numberOfLeadingZeros_95d88 : ByteArray := prog_29_method_48_code
def yJ13_numberOfLeadingZeros_95d88 : MethodName := ⟨RJ13, "numberOfLeadingZeros", "(J)I"⟩
abbrev cJ13_numberOfTrailingZeros_95d88 : ByteArray := prog_29_method_49_code
def yJ13_numberOfTrailingZeros_95d88 : MethodName := ⟨RJ13, "numberOfTrailingZeros", "(J)I"⟩
abbrev cJ13_bitCount_95d88 : ByteArray := prog_29_method_50_code
def yJ13_bitCount_95d88 : MethodName := ⟨RJ13, "bitCount", "(J)I"⟩
abbrev cJ13_rotateLeft_b2ac5 : ByteArray := prog_29_method_51_code
def yJ13_rotateLeft_b2ac5 : MethodName := ⟨RJ13, "rotateLeft", "(JI)J"⟩
abbrev cJ13_rotateRight_b2ac5 : ByteArray := prog_29_method_52_code
def yJ13_rotateRight_b2ac5 : MethodName := ⟨RJ13, "rotateRight", "(JI)J"⟩
abbrev cJ13_reverse_067f4 : ByteArray := prog_29_method_53_code
def yJ13_reverse_067f4 : MethodName := ⟨RJ13, "reverse", "(J)J"⟩
abbrev cJ13_signum_95d88 : ByteArray := prog_29_method_57_code
def yJ13_signum_95d88 : MethodName := ⟨RJ13, "signum", "(J)I"⟩
abbrev cJ13_reverseBytes_067f4 : ByteArray := prog_29_method_58_code
def yJ13_reverseBytes_067f4 : MethodName := ⟨RJ13, "reverseBytes", "(J)J"⟩
def RJ9 : String := "java/lang/Math"
def TJ9 : u_T := fun k => match k with
  | _ => ("", "", "", false)
def tyJ9 : Nat → FieldType := fun k => match k with
  | _ => .int
theorem nmJ9 : ∀ a, a < 0 → ∀ b, b < 0 → a ≠ b → (TJ9 a).2.1 ≠ (TJ9 b).2.1 := by decide +kernel
theorem tyJ9_ok : ∀ k, k < 0 → parseFieldDescriptor (TJ9 k).2.2.1 = some (tyJ9 k) := by decide +kernel
abbrev cJ9_max_7cf53 : ByteArray := prog_30_method_65_code
def yJ9_max_7cf53 : MethodName := ⟨RJ9, "max", "(II)I"⟩
abbrev cJ9_min_7cf53 : ByteArray := prog_30_method_69_code
def yJ9_min_7cf53 : MethodName := ⟨RJ9, "min", "(II)I"⟩
def RJxd2413 : String := "java/lang/Number"
def TJxd2413 : u_T := fun k => match k with
  | _ => ("", "", "", false)
def tyJxd2413 : Nat → FieldType := fun k => match k with
  | _ => .int
theorem nmJxd2413 : ∀ a, a < 0 → ∀ b, b < 0 → a ≠ b → (TJxd2413 a).2.1 ≠ (TJxd2413 b).2.1 := by decide +kernel
theorem tyJxd2413_ok : ∀ k, k < 0 → parseFieldDescriptor (TJxd2413 k).2.2.1 = some (tyJxd2413 k) := by decide +kernel
def RJ0 : String := "java/lang/String"
def TJ0 : u_T := fun k => match k with
  | 0 => ("java/lang/String", "value", "[B", true)
  | 1 => ("java/lang/String", "coder", "B", true)
  | 2 => ("java/lang/String", "hash", "I", false)
  | _ => ("java/lang/String", "hashIsZero", "Z", false)
def tyJ0 : Nat → FieldType := fun k => match k with
  | 0 => .array .byte
  | 1 => .byte
  | 2 => .int
  | _ => .boolean
theorem nmJ0 : ∀ a, a < 4 → ∀ b, b < 4 → a ≠ b → (TJ0 a).2.1 ≠ (TJ0 b).2.1 := by decide +kernel
theorem tyJ0_ok : ∀ k, k < 4 → parseFieldDescriptor (TJ0 k).2.2.1 = some (tyJ0 k) := by decide +kernel
abbrev cJ0_init_81219 : ByteArray := prog_33_method_53_code
def yJ0_init_81219 : MethodName := ⟨RJ0, "<init>", "(Ljava/lang/StringBuilder;)V"⟩
abbrev cJ0_length_8abf5 : ByteArray := prog_33_method_54_code
def yJ0_length_8abf5 : MethodName := ⟨RJ0, "length", "()I"⟩
abbrev cJ0_charAt_5068e : ByteArray := prog_33_method_56_code
def yJ0_charAt_5068e : MethodName := ⟨RJ0, "charAt", "(I)C"⟩
abbrev cJ0_indexOf_7cf53 : ByteArray := prog_33_method_80_code
def yJ0_indexOf_7cf53 : MethodName := ⟨RJ0, "indexOf", "(II)I"⟩
abbrev cJ0_substring_37a41 : ByteArray := prog_33_method_92_code
def yJ0_substring_37a41 : MethodName := ⟨RJ0, "substring", "(II)Ljava/lang/String;"⟩
abbrev cJ0_getBytes_840e7 : ByteArray := prog_33_method_147_code
def yJ0_getBytes_840e7 : MethodName := ⟨RJ0, "getBytes", "([BIB)V"⟩
abbrev cJ0_init_db425 : ByteArray := prog_33_method_150_code
def yJ0_init_db425 : MethodName := ⟨RJ0, "<init>", "(Ljava/lang/AbstractStringBuilder;Ljava/lang/Void;)V"⟩
abbrev cJ0_init_031fb : ByteArray := prog_33_method_151_code
def yJ0_init_031fb : MethodName := ⟨RJ0, "<init>", "([BB)V"⟩
abbrev cJ0_coder_7d493 : ByteArray := prog_33_method_152_code
def yJ0_coder_7d493 : MethodName := ⟨RJ0, "coder", "()B"⟩
abbrev cJ0_isLatin1_aae02 : ByteArray := prog_33_method_154_code
def yJ0_isLatin1_aae02 : MethodName := ⟨RJ0, "isLatin1", "()Z"⟩
abbrev cJ0_checkIndex_df160 : ByteArray := prog_33_method_155_code
def yJ0_checkIndex_df160 : MethodName := ⟨RJ0, "checkIndex", "(II)V"⟩
abbrev cJ0_checkBoundsOffCount_cabcc : ByteArray := prog_33_method_157_code
def yJ0_checkBoundsOffCount_cabcc : MethodName := ⟨RJ0, "checkBoundsOffCount", "(III)I"⟩
abbrev cJ0_checkBoundsBeginEnd_23922 : ByteArray := prog_33_method_158_code
def yJ0_checkBoundsBeginEnd_23922 : MethodName := ⟨RJ0, "checkBoundsBeginEnd", "(III)V"⟩
def RJ4 : String := "java/lang/StringBuilder"
def TJ4 : u_T := fun k => match k with
  | 0 => ("java/lang/AbstractStringBuilder", "value", "[B", false)
  | 1 => ("java/lang/AbstractStringBuilder", "coder", "B", false)
  | 2 => ("java/lang/AbstractStringBuilder", "maybeLatin1", "Z", false)
  | _ => ("java/lang/AbstractStringBuilder", "count", "I", false)
def tyJ4 : Nat → FieldType := fun k => match k with
  | 0 => .array .byte
  | 1 => .byte
  | 2 => .boolean
  | _ => .int
theorem nmJ4 : ∀ a, a < 4 → ∀ b, b < 4 → a ≠ b → (TJ4 a).2.1 ≠ (TJ4 b).2.1 := by decide +kernel
theorem tyJ4_ok : ∀ k, k < 4 → parseFieldDescriptor (TJ4 k).2.2.1 = some (tyJ4 k) := by decide +kernel
abbrev cJ4_init_da8c8 : ByteArray := prog_34_method_1_code
def yJ4_init_da8c8 : MethodName := ⟨RJ4, "<init>", "()V"⟩
abbrev cJ4_append_15ec4 : ByteArray := prog_34_method_7_code
def yJ4_append_15ec4 : MethodName := ⟨RJ4, "append", "(Ljava/lang/String;)Ljava/lang/StringBuilder;"⟩
abbrev cJ4_append_bf812 : ByteArray := prog_34_method_15_code
def yJ4_append_bf812 : MethodName := ⟨RJ4, "append", "(I)Ljava/lang/StringBuilder;"⟩
abbrev cJ4_toString_0e30d : ByteArray := prog_34_method_42_code
def yJ4_toString_0e30d : MethodName := ⟨RJ4, "toString", "()Ljava/lang/String;"⟩
abbrev cJ4_length_8abf5 : ByteArray := prog_34_method_93_code
def yJ4_length_8abf5 : MethodName := ⟨RJ4, "length", "()I"⟩
def RJ1 : String := "java/lang/StringLatin1"
def TJ1 : u_T := fun k => match k with
  | _ => ("", "", "", false)
def tyJ1 : Nat → FieldType := fun k => match k with
  | _ => .int
theorem nmJ1 : ∀ a, a < 0 → ∀ b, b < 0 → a ≠ b → (TJ1 a).2.1 ≠ (TJ1 b).2.1 := by decide +kernel
theorem tyJ1_ok : ∀ k, k < 0 → parseFieldDescriptor (TJ1 k).2.2.1 = some (tyJ1 k) := by decide +kernel
abbrev cJ1_charAt_3b067 : ByteArray := prog_35_method_2_code
def yJ1_charAt_3b067 : MethodName := ⟨RJ1, "charAt", "([BI)C"⟩
abbrev cJ1_canEncode_9a6ad : ByteArray := prog_35_method_4_code
def yJ1_canEncode_9a6ad : MethodName := ⟨RJ1, "canEncode", "(I)Z"⟩
abbrev cJ1_indexOf_4cfef : ByteArray := prog_35_method_22_code
def yJ1_indexOf_4cfef : MethodName := ⟨RJ1, "indexOf", "([BIII)I"⟩
abbrev cJ1_indexOfChar_4cfef : ByteArray := prog_35_method_23_code
def yJ1_indexOfChar_4cfef : MethodName := ⟨RJ1, "indexOfChar", "([BIII)I"⟩
abbrev cJ1_newString_b4f7a : ByteArray := prog_35_method_47_code
def yJ1_newString_b4f7a : MethodName := ⟨RJ1, "newString", "([BII)Ljava/lang/String;"⟩
abbrev cJ1_inflate_0e8fd : ByteArray := prog_35_method_50_code
def yJ1_inflate_0e8fd : MethodName := ⟨RJ1, "inflate", "([BI[BII)V"⟩
def RJ2 : String := "java/lang/StringUTF16"
def TJ2 : u_T := fun k => match k with
  | _ => ("", "", "", false)
def tyJ2 : Nat → FieldType := fun k => match k with
  | _ => .int
theorem nmJ2 : ∀ a, a < 0 → ∀ b, b < 0 → a ≠ b → (TJ2 a).2.1 ≠ (TJ2 b).2.1 := by decide +kernel
theorem tyJ2_ok : ∀ k, k < 0 → parseFieldDescriptor (TJ2 k).2.2.1 = some (tyJ2 k) := by decide +kernel
abbrev cJ2_newBytesFor_77867 : ByteArray := prog_36_method_2_code
def yJ2_newBytesFor_77867 : MethodName := ⟨RJ2, "newBytesFor", "(I)[B"⟩
abbrev cJ2_newBytesLength_0f7a4 : ByteArray := prog_36_method_3_code
def yJ2_newBytesLength_0f7a4 : MethodName := ⟨RJ2, "newBytesLength", "(I)I"⟩
abbrev cJ2_putChar_b72d1 : ByteArray := prog_36_method_4_code
def yJ2_putChar_b72d1 : MethodName := ⟨RJ2, "putChar", "([BII)V"⟩
abbrev cJ2_getChar_3b067 : ByteArray := prog_36_method_5_code
def yJ2_getChar_3b067 : MethodName := ⟨RJ2, "getChar", "([BI)C"⟩
abbrev cJ2_length_9d52b : ByteArray := prog_36_method_6_code
def yJ2_length_9d52b : MethodName := ⟨RJ2, "length", "([B)I"⟩
abbrev cJ2_coderFromArrayLen_85cad : ByteArray := prog_36_method_15_code
def yJ2_coderFromArrayLen_85cad : MethodName := ⟨RJ2, "coderFromArrayLen", "([BI)B"⟩
abbrev cJ2_compress_39247 : ByteArray := prog_36_method_17_code
def yJ2_compress_39247 : MethodName := ⟨RJ2, "compress", "([BII)[B"⟩
abbrev cJ2_compress_5af95 : ByteArray := prog_36_method_22_code
def yJ2_compress_5af95 : MethodName := ⟨RJ2, "compress", "([BI[BII)I"⟩
abbrev cJ2_indexOf_4cfef : ByteArray := prog_36_method_40_code
def yJ2_indexOf_4cfef : MethodName := ⟨RJ2, "indexOf", "([BIII)I"⟩
abbrev cJ2_indexOfChar_4cfef : ByteArray := prog_36_method_47_code
def yJ2_indexOfChar_4cfef : MethodName := ⟨RJ2, "indexOfChar", "([BIII)I"⟩
abbrev cJ2_indexOfCharUnsafe_4cfef : ByteArray := prog_36_method_48_code
def yJ2_indexOfCharUnsafe_4cfef : MethodName := ⟨RJ2, "indexOfCharUnsafe", "([BIII)I"⟩
abbrev cJ2_indexOfSupplementary_4cfef : ByteArray := prog_36_method_49_code
def yJ2_indexOfSupplementary_4cfef : MethodName := ⟨RJ2, "indexOfSupplementary", "([BIII)I"⟩
abbrev cJ2_newString_b4f7a : ByteArray := prog_36_method_69_code
def yJ2_newString_b4f7a : MethodName := ⟨RJ2, "newString", "([BII)Ljava/lang/String;"⟩
abbrev cJ2_getChars_46870 : ByteArray := prog_36_method_77_code
def yJ2_getChars_46870 : MethodName := ⟨RJ2, "getChars", "(III[B)I"⟩
abbrev cJ2_putCharsAt_cd4e5 : ByteArray := prog_36_method_81_code
def yJ2_putCharsAt_cd4e5 : MethodName := ⟨RJ2, "putCharsAt", "([BICCCC)I"⟩
abbrev cJ2_charAt_3b067 : ByteArray := prog_36_method_83_code
def yJ2_charAt_3b067 : MethodName := ⟨RJ2, "charAt", "([BI)C"⟩
abbrev cJ2_inflate_0e8fd : ByteArray := prog_36_method_86_code
def yJ2_inflate_0e8fd : MethodName := ⟨RJ2, "inflate", "([BI[BII)V"⟩
abbrev cJ2_getChars_ba4f3 : ByteArray := prog_36_method_89_code
def yJ2_getChars_ba4f3 : MethodName := ⟨RJ2, "getChars", "(II[B)I"⟩
abbrev cJ2_checkIndex_2214a : ByteArray := prog_36_method_91_code
def yJ2_checkIndex_2214a : MethodName := ⟨RJ2, "checkIndex", "(I[B)V"⟩
abbrev cJ2_checkBoundsBeginEnd_d044e : ByteArray := prog_36_method_93_code
def yJ2_checkBoundsBeginEnd_d044e : MethodName := ⟨RJ2, "checkBoundsBeginEnd", "(II[B)V"⟩
abbrev cJ2_checkBoundsOffCount_d044e : ByteArray := prog_36_method_94_code
def yJ2_checkBoundsOffCount_d044e : MethodName := ⟨RJ2, "checkBoundsOffCount", "(II[B)V"⟩
def RJ10 : String := "java/lang/System"
def TJ10 : u_T := fun k => match k with
  | _ => ("", "", "", false)
def tyJ10 : Nat → FieldType := fun k => match k with
  | _ => .int
theorem nmJ10 : ∀ a, a < 0 → ∀ b, b < 0 → a ≠ b → (TJ10 a).2.1 ≠ (TJ10 b).2.1 := by decide +kernel
theorem tyJ10_ok : ∀ k, k < 0 → parseFieldDescriptor (TJ10 k).2.2.1 = some (tyJ10 k) := by decide +kernel
def RJxfd54e : String := "java/lang/constant/Constable"
def TJxfd54e : u_T := fun k => match k with
  | _ => ("", "", "", false)
def tyJxfd54e : Nat → FieldType := fun k => match k with
  | _ => .int
theorem nmJxfd54e : ∀ a, a < 0 → ∀ b, b < 0 → a ≠ b → (TJxfd54e a).2.1 ≠ (TJxfd54e b).2.1 := by decide +kernel
theorem tyJxfd54e_ok : ∀ k, k < 0 → parseFieldDescriptor (TJxfd54e k).2.2.1 = some (tyJxfd54e k) := by decide +kernel
def RJx3cf43 : String := "java/lang/constant/ConstantDesc"
def TJx3cf43 : u_T := fun k => match k with
  | _ => ("", "", "", false)
def tyJx3cf43 : Nat → FieldType := fun k => match k with
  | _ => .int
theorem nmJx3cf43 : ∀ a, a < 0 → ∀ b, b < 0 → a ≠ b → (TJx3cf43 a).2.1 ≠ (TJx3cf43 b).2.1 := by decide +kernel
theorem tyJx3cf43_ok : ∀ k, k < 0 → parseFieldDescriptor (TJx3cf43 k).2.2.1 = some (tyJx3cf43 k) := by decide +kernel
def RJ7 : String := "java/util/Arrays"
def TJ7 : u_T := fun k => match k with
  | _ => ("", "", "", false)
def tyJ7 : Nat → FieldType := fun k => match k with
  | _ => .int
theorem nmJ7 : ∀ a, a < 0 → ∀ b, b < 0 → a ≠ b → (TJ7 a).2.1 ≠ (TJ7 b).2.1 := by decide +kernel
theorem tyJ7_ok : ∀ k, k < 0 → parseFieldDescriptor (TJ7 k).2.2.1 = some (tyJ7 k) := by decide +kernel
abbrev cJ7_copyOf_9075b : ByteArray := prog_41_method_121_code
def yJ7_copyOf_9075b : MethodName := ⟨RJ7, "copyOf", "([BI)[B"⟩
abbrev cJ7_checkLength_df160 : ByteArray := prog_41_method_131_code
def yJ7_checkLength_df160 : MethodName := ⟨RJ7, "checkLength", "(II)V"⟩
abbrev cJ7_copyOfRange_39247 : ByteArray := prog_41_method_132_code
def yJ7_copyOfRange_39247 : MethodName := ⟨RJ7, "copyOfRange", "([BII)[B"⟩
abbrev cJ7_copyOfRangeByte_39247 : ByteArray := prog_41_method_133_code
def yJ7_copyOfRangeByte_39247 : MethodName := ⟨RJ7, "copyOfRangeByte", "([BII)[B"⟩
def RJ8 : String := "jdk/internal/util/ArraysSupport"
def TJ8 : u_T := fun k => match k with
  | _ => ("", "", "", false)
def tyJ8 : Nat → FieldType := fun k => match k with
  | _ => .int
theorem nmJ8 : ∀ a, a < 0 → ∀ b, b < 0 → a ≠ b → (TJ8 a).2.1 ≠ (TJ8 b).2.1 := by decide +kernel
theorem tyJ8_ok : ∀ k, k < 0 → parseFieldDescriptor (TJ8 k).2.2.1 = some (tyJ8 k) := by decide +kernel
abbrev cJ8_newLength_cabcc : ByteArray := prog_43_method_27_code
def yJ8_newLength_cabcc : MethodName := ⟨RJ8, "newLength", "(III)I"⟩
abbrev cJ8_hugeLength_7cf53 : ByteArray := prog_43_method_28_code
def yJ8_hugeLength_7cf53 : MethodName := ⟨RJ8, "hugeLength", "(II)I"⟩
def RJ3 : String := "jdk/internal/util/Preconditions"
def TJ3 : u_T := fun k => match k with
  | _ => ("", "", "", false)
def tyJ3 : Nat → FieldType := fun k => match k with
  | _ => .int
theorem nmJ3 : ∀ a, a < 0 → ∀ b, b < 0 → a ≠ b → (TJ3 a).2.1 ≠ (TJ3 b).2.1 := by decide +kernel
theorem tyJ3_ok : ∀ k, k < 0 → parseFieldDescriptor (TJ3 k).2.2.1 = some (tyJ3 k) := by decide +kernel
abbrev cJ3_checkIndex_8e157 : ByteArray := prog_44_method_11_code
def yJ3_checkIndex_8e157 : MethodName := ⟨RJ3, "checkIndex", "(IILjava/util/function/BiFunction;)I"⟩
abbrev cJ3_checkFromToIndex_8c36e : ByteArray := prog_44_method_12_code
def yJ3_checkFromToIndex_8c36e : MethodName := ⟨RJ3, "checkFromToIndex", "(IIILjava/util/function/BiFunction;)I"⟩
abbrev cJ3_checkFromIndexSize_8c36e : ByteArray := prog_44_method_13_code
def yJ3_checkFromIndexSize_8c36e : MethodName := ⟨RJ3, "checkFromIndexSize", "(IIILjava/util/function/BiFunction;)I"⟩
def RL : String := "RadixDeskLaw"
abbrev cL_set : ByteArray := method_3_code
def yL_set : MethodName := ⟨RL, "set", "(LRadixDesk;IJ[J)I"⟩
abbrev cL_number : ByteArray := method_4_code
def yL_number : MethodName := ⟨RL, "number", "(LRadixDesk;I[J)I"⟩
abbrev cL_type : ByteArray := method_5_code
def yL_type : MethodName := ⟨RL, "type", "(LRadixDesk;J[J)I"⟩
abbrev cL_textAt : ByteArray := method_6_code
def yL_textAt : MethodName := ⟨RL, "textAt", "(LRadixDesk;I[J)I"⟩
abbrev cL_example : ByteArray := method_7_code
def yL_example : MethodName := ⟨RL, "example", "(LRadixDesk;I[J)I"⟩
abbrev cL_read : ByteArray := method_8_code
def yL_read : MethodName := ⟨RL, "read", "(LRadixDesk;IIIIZ[J)I"⟩
abbrev cL_write : ByteArray := method_9_code
def yL_write : MethodName := ⟨RL, "write", "(LRadixDesk;IIZ[J)I"⟩
abbrev cL_writeBits : ByteArray := method_10_code
def yL_writeBits : MethodName := ⟨RL, "writeBits", "(LRadixDesk;II[J)I"⟩
abbrev cL_writeTen : ByteArray := method_11_code
def yL_writeTen : MethodName := ⟨RL, "writeTen", "(LRadixDesk;IZ[J)I"⟩
abbrev cL_pageAt : ByteArray := method_12_code
def yL_pageAt : MethodName := ⟨RL, "pageAt", "(LRadixDesk;I[J)I"⟩
abbrev cL_copyPage : ByteArray := method_13_code
def yL_copyPage : MethodName := ⟨RL, "copyPage", "(LRadixDesk;[J)I"⟩
abbrev cL_readPage : ByteArray := method_14_code
def yL_readPage : MethodName := ⟨RL, "readPage", "(LRadixDesk;IIZ[J)I"⟩
abbrev cL_digitAt : ByteArray := method_15_code
def yL_digitAt : MethodName := ⟨RL, "digitAt", "(LRadixDesk;IIIZ[J)I"⟩
abbrev cL_digitSum : ByteArray := method_16_code
def yL_digitSum : MethodName := ⟨RL, "digitSum", "(LRadixDesk;IIZ[J)I"⟩
abbrev cL_isMirror : ByteArray := method_17_code
def yL_isMirror : MethodName := ⟨RL, "isMirror", "(LRadixDesk;IIZ[J)I"⟩
abbrev cL_count : ByteArray := method_18_code
def yL_count : MethodName := ⟨RL, "count", "(LRadixDesk;I[J)I"⟩
abbrev cL_leading : ByteArray := method_19_code
def yL_leading : MethodName := ⟨RL, "leading", "(LRadixDesk;I[J)I"⟩
abbrev cL_trailing : ByteArray := method_20_code
def yL_trailing : MethodName := ⟨RL, "trailing", "(LRadixDesk;I[J)I"⟩
abbrev cL_leadingOnes : ByteArray := method_21_code
def yL_leadingOnes : MethodName := ⟨RL, "leadingOnes", "(LRadixDesk;I[J)I"⟩
abbrev cL_trailingOnes : ByteArray := method_22_code
def yL_trailingOnes : MethodName := ⟨RL, "trailingOnes", "(LRadixDesk;I[J)I"⟩
abbrev cL_sign : ByteArray := method_23_code
def yL_sign : MethodName := ⟨RL, "sign", "(LRadixDesk;I[J)I"⟩
abbrev cL_reverse : ByteArray := method_24_code
def yL_reverse : MethodName := ⟨RL, "reverse", "(LRadixDesk;I[J)I"⟩
abbrev cL_reverseBytes : ByteArray := method_25_code
def yL_reverseBytes : MethodName := ⟨RL, "reverseBytes", "(LRadixDesk;I[J)I"⟩
abbrev cL_rotate : ByteArray := method_26_code
def yL_rotate : MethodName := ⟨RL, "rotate", "(LRadixDesk;IIZ[J)I"⟩
abbrev cL_highest : ByteArray := method_27_code
def yL_highest : MethodName := ⟨RL, "highest", "(LRadixDesk;I[J)I"⟩
abbrev cL_lowest : ByteArray := method_28_code
def yL_lowest : MethodName := ⟨RL, "lowest", "(LRadixDesk;I[J)I"⟩
abbrev cL_spread : ByteArray := method_29_code
def yL_spread : MethodName := ⟨RL, "spread", "(LRadixDesk;I[J)I"⟩
abbrev cL_combine : ByteArray := method_30_code
def yL_combine : MethodName := ⟨RL, "combine", "(LRadixDesk;III[J)I"⟩
abbrev cL_divide : ByteArray := method_31_code
def yL_divide : MethodName := ⟨RL, "divide", "(LRadixDesk;IIIZ[J)I"⟩
abbrev cL_compare : ByteArray := method_32_code
def yL_compare : MethodName := ⟨RL, "compare", "(LRadixDesk;IIZ[J)I"⟩
abbrev cL_run : ByteArray := method_33_code
def yL_run : MethodName := ⟨RL, "run", "(LRadixDesk;[J)I"⟩
abbrev cL_law : ByteArray := code
def yL_law : MethodName := ⟨RL, "law", "([I)Z"⟩
/-- the words that every method here may use: the tables' good ones -/
def LW : List Cond := lw_tbl.filter goodWord
theorem LW_in : ∀ w ∈ LW, w ∈ lw_tbl := fun _ h => (List.mem_filter.mp h).1
theorem LW_good : ∀ w ∈ LW, goodWord w = true := fun _ h => (List.mem_filter.mp h).2
theorem LW_of {w : Cond} (i : Nat) (h : lw_tbl[i]? = some w) (hg : goodWord w = true) : w ∈ LW := List.mem_filter.mpr ⟨List.mem_of_getElem? h, hg⟩
theorem good_all {big : List Cond} {y : MethodName} {b : ByteArray} {n : Nat} {ret : Option FieldType} (hc : Cond.code y b n ret ∈ LW) (hb : ∀ w ∈ LW, w ∈ big) : GoodIn big (Cond.code y b n ret :: LW) := fun w h => (List.mem_cons.mp h).elim (fun e => by subst e; exact ⟨hb _ hc, Or.inl rfl⟩) (fun h => ⟨hb w h, good_of_word (LW_good w h)⟩)

