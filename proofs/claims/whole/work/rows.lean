section
-- ===== PART A: goes FIRST, ahead of the names: the tables' words, and 'selects' of the private methods out of them =====
/-- a private method of a class that the tables say can be made, by its rows of tables_1 -/
def lw_okq (q : MethodName × Nat) : Prop := (q.1.cls ≠ "java/lang/invoke/MethodHandle" ∧ q.1.cls ≠ "java/lang/invoke/VarHandle") ∧ Cond.instantiable q.1.cls q.2 ∈ tables_1 ∧ Cond.privateMethod q.1 ∈ tables_1 ∧ Cond.instanceMethod q.1 ∈ tables_1
theorem lw_p0 : lw_okq (⟨"FlowShelf", "isReport", "(I)Z"⟩, 4) := ⟨⟨by decide +kernel, by decide +kernel⟩, List.mem_of_getElem? (i := 30) (by decide +kernel), List.mem_of_getElem? (i := 265) (by decide +kernel), List.mem_of_getElem? (i := 266) (by decide +kernel)⟩
theorem lw_p1 : lw_okq (⟨"FlowShelf", "exporterOf", "(I)LFlowShelf$Exporter;"⟩, 4) := ⟨⟨by decide +kernel, by decide +kernel⟩, List.mem_of_getElem? (i := 30) (by decide +kernel), List.mem_of_getElem? (i := 301) (by decide +kernel), List.mem_of_getElem? (i := 302) (by decide +kernel)⟩
theorem lw_p2 : lw_okq (⟨"java/lang/Throwable", "fillInStackTrace", "(I)Ljava/lang/Throwable;"⟩, 6) := ⟨⟨by decide +kernel, by decide +kernel⟩, List.mem_of_getElem? (i := 347) (by decide +kernel), List.mem_of_getElem? (i := 345) (by decide +kernel), List.mem_of_getElem? (i := 346) (by decide +kernel)⟩
theorem lw_p3 : lw_okq (⟨"java/util/ArrayList", "fastRemove", "([Ljava/lang/Object;I)V"⟩, 3) := ⟨⟨by decide +kernel, by decide +kernel⟩, List.mem_of_getElem? (i := 44) (by decide +kernel), List.mem_of_getElem? (i := 433) (by decide +kernel), List.mem_of_getElem? (i := 434) (by decide +kernel)⟩
theorem lw_p4 : lw_okq (⟨"java/util/ArrayList", "add", "(Ljava/lang/Object;[Ljava/lang/Object;I)V"⟩, 3) := ⟨⟨by decide +kernel, by decide +kernel⟩, List.mem_of_getElem? (i := 44) (by decide +kernel), List.mem_of_getElem? (i := 444) (by decide +kernel), List.mem_of_getElem? (i := 445) (by decide +kernel)⟩
theorem lw_p5 : lw_okq (⟨"java/util/ArrayList", "grow", "()[Ljava/lang/Object;"⟩, 3) := ⟨⟨by decide +kernel, by decide +kernel⟩, List.mem_of_getElem? (i := 44) (by decide +kernel), List.mem_of_getElem? (i := 448) (by decide +kernel), List.mem_of_getElem? (i := 449) (by decide +kernel)⟩
theorem lw_p6 : lw_okq (⟨"java/util/ArrayList", "grow", "(I)[Ljava/lang/Object;"⟩, 3) := ⟨⟨by decide +kernel, by decide +kernel⟩, List.mem_of_getElem? (i := 44) (by decide +kernel), List.mem_of_getElem? (i := 452) (by decide +kernel), List.mem_of_getElem? (i := 453) (by decide +kernel)⟩
theorem lw_p7 : lw_okq (⟨"FlowShelf", "slotOf", "(II)LFlowShelf$Slot;"⟩, 4) := ⟨⟨by decide +kernel, by decide +kernel⟩, List.mem_of_getElem? (i := 30) (by decide +kernel), List.mem_of_getElem? (i := 621) (by decide +kernel), List.mem_of_getElem? (i := 622) (by decide +kernel)⟩
theorem lw_p8 : lw_okq (⟨"FlowShelf", "hasNoRoomForReport", "()Z"⟩, 4) := ⟨⟨by decide +kernel, by decide +kernel⟩, List.mem_of_getElem? (i := 30) (by decide +kernel), List.mem_of_getElem? (i := 691) (by decide +kernel), List.mem_of_getElem? (i := 692) (by decide +kernel)⟩
theorem lw_p9 : lw_okq (⟨"FlowShelf", "keep", "(LFlowShelf$Report;)I"⟩, 4) := ⟨⟨by decide +kernel, by decide +kernel⟩, List.mem_of_getElem? (i := 30) (by decide +kernel), List.mem_of_getElem? (i := 721) (by decide +kernel), List.mem_of_getElem? (i := 722) (by decide +kernel)⟩
theorem lw_p10 : lw_okq (⟨"FlowShelf", "reportWithByte", "(II)LFlowShelf$Report;"⟩, 4) := ⟨⟨by decide +kernel, by decide +kernel⟩, List.mem_of_getElem? (i := 30) (by decide +kernel), List.mem_of_getElem? (i := 789) (by decide +kernel), List.mem_of_getElem? (i := 790) (by decide +kernel)⟩
theorem lw_p11 : lw_okq (⟨"FlowShelf", "reportOf", "(I)LFlowShelf$Report;"⟩, 4) := ⟨⟨by decide +kernel, by decide +kernel⟩, List.mem_of_getElem? (i := 30) (by decide +kernel), List.mem_of_getElem? (i := 793) (by decide +kernel), List.mem_of_getElem? (i := 794) (by decide +kernel)⟩
theorem lw_p12 : lw_okq (⟨"FlowShelf", "requireRow", "(I)V"⟩, 4) := ⟨⟨by decide +kernel, by decide +kernel⟩, List.mem_of_getElem? (i := 30) (by decide +kernel), List.mem_of_getElem? (i := 1057) (by decide +kernel), List.mem_of_getElem? (i := 1058) (by decide +kernel)⟩
theorem lw_p13 : lw_okq (⟨"FlowShelfModel", "noExporter", "(I)Z"⟩, 50) := ⟨⟨by decide +kernel, by decide +kernel⟩, List.mem_of_getElem? (i := 1147) (by decide +kernel), List.mem_of_getElem? (i := 1312) (by decide +kernel), List.mem_of_getElem? (i := 1313) (by decide +kernel)⟩
theorem lw_p14 : lw_okq (⟨"FlowShelfModel", "noByte", "(I)Z"⟩, 50) := ⟨⟨by decide +kernel, by decide +kernel⟩, List.mem_of_getElem? (i := 1147) (by decide +kernel), List.mem_of_getElem? (i := 1316) (by decide +kernel), List.mem_of_getElem? (i := 1317) (by decide +kernel)⟩
theorem lw_p15 : lw_okq (⟨"FlowShelfModel", "flowOf", "(II)I"⟩, 50) := ⟨⟨by decide +kernel, by decide +kernel⟩, List.mem_of_getElem? (i := 1147) (by decide +kernel), List.mem_of_getElem? (i := 1320) (by decide +kernel), List.mem_of_getElem? (i := 1321) (by decide +kernel)⟩
def lw_privs_1 : List (MethodName × Nat) := [(⟨"FlowShelf", "isReport", "(I)Z"⟩, 4), (⟨"FlowShelf", "exporterOf", "(I)LFlowShelf$Exporter;"⟩, 4), (⟨"java/lang/Throwable", "fillInStackTrace", "(I)Ljava/lang/Throwable;"⟩, 6), (⟨"java/util/ArrayList", "fastRemove", "([Ljava/lang/Object;I)V"⟩, 3), (⟨"java/util/ArrayList", "add", "(Ljava/lang/Object;[Ljava/lang/Object;I)V"⟩, 3), (⟨"java/util/ArrayList", "grow", "()[Ljava/lang/Object;"⟩, 3), (⟨"java/util/ArrayList", "grow", "(I)[Ljava/lang/Object;"⟩, 3), (⟨"FlowShelf", "slotOf", "(II)LFlowShelf$Slot;"⟩, 4), (⟨"FlowShelf", "hasNoRoomForReport", "()Z"⟩, 4), (⟨"FlowShelf", "keep", "(LFlowShelf$Report;)I"⟩, 4), (⟨"FlowShelf", "reportWithByte", "(II)LFlowShelf$Report;"⟩, 4), (⟨"FlowShelf", "reportOf", "(I)LFlowShelf$Report;"⟩, 4), (⟨"FlowShelf", "requireRow", "(I)V"⟩, 4), (⟨"FlowShelfModel", "noExporter", "(I)Z"⟩, 50), (⟨"FlowShelfModel", "noByte", "(I)Z"⟩, 50), (⟨"FlowShelfModel", "flowOf", "(II)I"⟩, 50)]
theorem lw_r1 : ∀ q ∈ lw_privs_1, lw_okq q := List.forall_mem_cons.mpr ⟨lw_p0, List.forall_mem_cons.mpr ⟨lw_p1, List.forall_mem_cons.mpr ⟨lw_p2, List.forall_mem_cons.mpr ⟨lw_p3, List.forall_mem_cons.mpr ⟨lw_p4, List.forall_mem_cons.mpr ⟨lw_p5, List.forall_mem_cons.mpr ⟨lw_p6, List.forall_mem_cons.mpr ⟨lw_p7, List.forall_mem_cons.mpr ⟨lw_p8, List.forall_mem_cons.mpr ⟨lw_p9, List.forall_mem_cons.mpr ⟨lw_p10, List.forall_mem_cons.mpr ⟨lw_p11, List.forall_mem_cons.mpr ⟨lw_p12, List.forall_mem_cons.mpr ⟨lw_p13, List.forall_mem_cons.mpr ⟨lw_p14, List.forall_mem_cons.mpr ⟨lw_p15, fun _ h => absurd h List.not_mem_nil⟩⟩⟩⟩⟩⟩⟩⟩⟩⟩⟩⟩⟩⟩⟩⟩
theorem lw_p16 : lw_okq (⟨"FlowShelfModel", "end", "(III)V"⟩, 50) := ⟨⟨by decide +kernel, by decide +kernel⟩, List.mem_of_getElem? (i := 1147) (by decide +kernel), List.mem_of_getElem? (i := 1324) (by decide +kernel), List.mem_of_getElem? (i := 1325) (by decide +kernel)⟩
theorem lw_p17 : lw_okq (⟨"FlowShelfModel", "noTemplate", "(II)Z"⟩, 50) := ⟨⟨by decide +kernel, by decide +kernel⟩, List.mem_of_getElem? (i := 1147) (by decide +kernel), List.mem_of_getElem? (i := 1348) (by decide +kernel), List.mem_of_getElem? (i := 1349) (by decide +kernel)⟩
theorem lw_p18 : lw_okq (⟨"FlowShelfModel", "leastOf", "(I)I"⟩, 50) := ⟨⟨by decide +kernel, by decide +kernel⟩, List.mem_of_getElem? (i := 1147) (by decide +kernel), List.mem_of_getElem? (i := 1352) (by decide +kernel), List.mem_of_getElem? (i := 1353) (by decide +kernel)⟩
theorem lw_p19 : lw_okq (⟨"FlowShelfModel", "head", "(II)V"⟩, 50) := ⟨⟨by decide +kernel, by decide +kernel⟩, List.mem_of_getElem? (i := 1147) (by decide +kernel), List.mem_of_getElem? (i := 1372) (by decide +kernel), List.mem_of_getElem? (i := 1373) (by decide +kernel)⟩
theorem lw_p20 : lw_okq (⟨"FlowShelfModel", "write", "(I)V"⟩, 50) := ⟨⟨by decide +kernel, by decide +kernel⟩, List.mem_of_getElem? (i := 1147) (by decide +kernel), List.mem_of_getElem? (i := 1376) (by decide +kernel), List.mem_of_getElem? (i := 1377) (by decide +kernel)⟩
theorem lw_p21 : lw_okq (⟨"FlowShelfModel", "last", "(I)I"⟩, 50) := ⟨⟨by decide +kernel, by decide +kernel⟩, List.mem_of_getElem? (i := 1147) (by decide +kernel), List.mem_of_getElem? (i := 1384) (by decide +kernel), List.mem_of_getElem? (i := 1385) (by decide +kernel)⟩
theorem lw_p22 : lw_okq (⟨"FlowShelfModel", "recordOf", "(III)I"⟩, 50) := ⟨⟨by decide +kernel, by decide +kernel⟩, List.mem_of_getElem? (i := 1147) (by decide +kernel), List.mem_of_getElem? (i := 1388) (by decide +kernel), List.mem_of_getElem? (i := 1389) (by decide +kernel)⟩
theorem lw_p23 : lw_okq (⟨"FlowShelfModel", "widthOf", "(I)I"⟩, 50) := ⟨⟨by decide +kernel, by decide +kernel⟩, List.mem_of_getElem? (i := 1147) (by decide +kernel), List.mem_of_getElem? (i := 1392) (by decide +kernel), List.mem_of_getElem? (i := 1393) (by decide +kernel)⟩
theorem lw_p24 : lw_okq (⟨"FlowShelfModel", "writeRecord", "(III)V"⟩, 50) := ⟨⟨by decide +kernel, by decide +kernel⟩, List.mem_of_getElem? (i := 1147) (by decide +kernel), List.mem_of_getElem? (i := 1398) (by decide +kernel), List.mem_of_getElem? (i := 1399) (by decide +kernel)⟩
theorem lw_p25 : lw_okq (⟨"FlowShelfModel", "noReport", "(I)Z"⟩, 50) := ⟨⟨by decide +kernel, by decide +kernel⟩, List.mem_of_getElem? (i := 1147) (by decide +kernel), List.mem_of_getElem? (i := 1410) (by decide +kernel), List.mem_of_getElem? (i := 1411) (by decide +kernel)⟩
theorem lw_p26 : lw_okq (⟨"FlowShelfModel", "isBad", "()Z"⟩, 50) := ⟨⟨by decide +kernel, by decide +kernel⟩, List.mem_of_getElem? (i := 1147) (by decide +kernel), List.mem_of_getElem? (i := 1426) (by decide +kernel), List.mem_of_getElem? (i := 1427) (by decide +kernel)⟩
theorem lw_p27 : lw_okq (⟨"FlowShelfModel", "badFields", "()Z"⟩, 50) := ⟨⟨by decide +kernel, by decide +kernel⟩, List.mem_of_getElem? (i := 1147) (by decide +kernel), List.mem_of_getElem? (i := 1430) (by decide +kernel), List.mem_of_getElem? (i := 1431) (by decide +kernel)⟩
theorem lw_p28 : lw_okq (⟨"FlowShelfModel", "hearTemplate", "()I"⟩, 50) := ⟨⟨by decide +kernel, by decide +kernel⟩, List.mem_of_getElem? (i := 1147) (by decide +kernel), List.mem_of_getElem? (i := 1434) (by decide +kernel), List.mem_of_getElem? (i := 1435) (by decide +kernel)⟩
theorem lw_p29 : lw_okq (⟨"FlowShelfModel", "nameOf", "()I"⟩, 50) := ⟨⟨by decide +kernel, by decide +kernel⟩, List.mem_of_getElem? (i := 1147) (by decide +kernel), List.mem_of_getElem? (i := 1438) (by decide +kernel), List.mem_of_getElem? (i := 1439) (by decide +kernel)⟩
theorem lw_p30 : lw_okq (⟨"FlowShelfModel", "find", "(I)I"⟩, 50) := ⟨⟨by decide +kernel, by decide +kernel⟩, List.mem_of_getElem? (i := 1147) (by decide +kernel), List.mem_of_getElem? (i := 1442) (by decide +kernel), List.mem_of_getElem? (i := 1443) (by decide +kernel)⟩
theorem lw_p31 : lw_okq (⟨"FlowShelfModel", "waiting", "(I)I"⟩, 50) := ⟨⟨by decide +kernel, by decide +kernel⟩, List.mem_of_getElem? (i := 1147) (by decide +kernel), List.mem_of_getElem? (i := 1446) (by decide +kernel), List.mem_of_getElem? (i := 1447) (by decide +kernel)⟩
def lw_privs_2 : List (MethodName × Nat) := [(⟨"FlowShelfModel", "end", "(III)V"⟩, 50), (⟨"FlowShelfModel", "noTemplate", "(II)Z"⟩, 50), (⟨"FlowShelfModel", "leastOf", "(I)I"⟩, 50), (⟨"FlowShelfModel", "head", "(II)V"⟩, 50), (⟨"FlowShelfModel", "write", "(I)V"⟩, 50), (⟨"FlowShelfModel", "last", "(I)I"⟩, 50), (⟨"FlowShelfModel", "recordOf", "(III)I"⟩, 50), (⟨"FlowShelfModel", "widthOf", "(I)I"⟩, 50), (⟨"FlowShelfModel", "writeRecord", "(III)V"⟩, 50), (⟨"FlowShelfModel", "noReport", "(I)Z"⟩, 50), (⟨"FlowShelfModel", "isBad", "()Z"⟩, 50), (⟨"FlowShelfModel", "badFields", "()Z"⟩, 50), (⟨"FlowShelfModel", "hearTemplate", "()I"⟩, 50), (⟨"FlowShelfModel", "nameOf", "()I"⟩, 50), (⟨"FlowShelfModel", "find", "(I)I"⟩, 50), (⟨"FlowShelfModel", "waiting", "(I)I"⟩, 50)]
theorem lw_r2 : ∀ q ∈ lw_privs_2, lw_okq q := List.forall_mem_cons.mpr ⟨lw_p16, List.forall_mem_cons.mpr ⟨lw_p17, List.forall_mem_cons.mpr ⟨lw_p18, List.forall_mem_cons.mpr ⟨lw_p19, List.forall_mem_cons.mpr ⟨lw_p20, List.forall_mem_cons.mpr ⟨lw_p21, List.forall_mem_cons.mpr ⟨lw_p22, List.forall_mem_cons.mpr ⟨lw_p23, List.forall_mem_cons.mpr ⟨lw_p24, List.forall_mem_cons.mpr ⟨lw_p25, List.forall_mem_cons.mpr ⟨lw_p26, List.forall_mem_cons.mpr ⟨lw_p27, List.forall_mem_cons.mpr ⟨lw_p28, List.forall_mem_cons.mpr ⟨lw_p29, List.forall_mem_cons.mpr ⟨lw_p30, List.forall_mem_cons.mpr ⟨lw_p31, fun _ h => absurd h List.not_mem_nil⟩⟩⟩⟩⟩⟩⟩⟩⟩⟩⟩⟩⟩⟩⟩⟩
theorem lw_p32 : lw_okq (⟨"FlowShelfModel", "fetch", "(I)V"⟩, 50) := ⟨⟨by decide +kernel, by decide +kernel⟩, List.mem_of_getElem? (i := 1147) (by decide +kernel), List.mem_of_getElem? (i := 1450) (by decide +kernel), List.mem_of_getElem? (i := 1451) (by decide +kernel)⟩
theorem lw_p33 : lw_okq (⟨"FlowShelfModel", "makeRows", "(I)I"⟩, 50) := ⟨⟨by decide +kernel, by decide +kernel⟩, List.mem_of_getElem? (i := 1147) (by decide +kernel), List.mem_of_getElem? (i := 1454) (by decide +kernel), List.mem_of_getElem? (i := 1455) (by decide +kernel)⟩
theorem lw_p34 : lw_okq (⟨"FlowShelfModel", "read", "(IZ)Z"⟩, 50) := ⟨⟨by decide +kernel, by decide +kernel⟩, List.mem_of_getElem? (i := 1147) (by decide +kernel), List.mem_of_getElem? (i := 1458) (by decide +kernel), List.mem_of_getElem? (i := 1459) (by decide +kernel)⟩
theorem lw_p35 : lw_okq (⟨"FlowShelfModel", "take", "(I)J"⟩, 50) := ⟨⟨by decide +kernel, by decide +kernel⟩, List.mem_of_getElem? (i := 1147) (by decide +kernel), List.mem_of_getElem? (i := 1463) (by decide +kernel), List.mem_of_getElem? (i := 1464) (by decide +kernel)⟩
theorem lw_p36 : lw_okq (⟨"FlowShelfModel", "unshelve", "(I)V"⟩, 50) := ⟨⟨by decide +kernel, by decide +kernel⟩, List.mem_of_getElem? (i := 1147) (by decide +kernel), List.mem_of_getElem? (i := 1468) (by decide +kernel), List.mem_of_getElem? (i := 1469) (by decide +kernel)⟩
theorem lw_p37 : lw_okq (⟨"FlowShelfModel", "hearRecords", "()I"⟩, 50) := ⟨⟨by decide +kernel, by decide +kernel⟩, List.mem_of_getElem? (i := 1147) (by decide +kernel), List.mem_of_getElem? (i := 1472) (by decide +kernel), List.mem_of_getElem? (i := 1473) (by decide +kernel)⟩
theorem lw_p38 : lw_okq (⟨"FlowShelfModel", "firstLeft", "()I"⟩, 50) := ⟨⟨by decide +kernel, by decide +kernel⟩, List.mem_of_getElem? (i := 1147) (by decide +kernel), List.mem_of_getElem? (i := 1492) (by decide +kernel), List.mem_of_getElem? (i := 1493) (by decide +kernel)⟩
theorem lw_p39 : lw_okq (⟨"FlowShelfModel", "isWhole", "(I)Z"⟩, 50) := ⟨⟨by decide +kernel, by decide +kernel⟩, List.mem_of_getElem? (i := 1147) (by decide +kernel), List.mem_of_getElem? (i := 1496) (by decide +kernel), List.mem_of_getElem? (i := 1497) (by decide +kernel)⟩
theorem lw_p40 : lw_okq (⟨"FlowShelfModel", "pairOne", "(I)V"⟩, 50) := ⟨⟨by decide +kernel, by decide +kernel⟩, List.mem_of_getElem? (i := 1147) (by decide +kernel), List.mem_of_getElem? (i := 1500) (by decide +kernel), List.mem_of_getElem? (i := 1501) (by decide +kernel)⟩
theorem lw_p41 : lw_okq (⟨"FlowShelfModel", "isBack", "(II)Z"⟩, 50) := ⟨⟨by decide +kernel, by decide +kernel⟩, List.mem_of_getElem? (i := 1147) (by decide +kernel), List.mem_of_getElem? (i := 1504) (by decide +kernel), List.mem_of_getElem? (i := 1505) (by decide +kernel)⟩
theorem lw_p42 : lw_okq (⟨"FlowShelfModel", "farness", "(II)J"⟩, 50) := ⟨⟨by decide +kernel, by decide +kernel⟩, List.mem_of_getElem? (i := 1147) (by decide +kernel), List.mem_of_getElem? (i := 1508) (by decide +kernel), List.mem_of_getElem? (i := 1509) (by decide +kernel)⟩
theorem lw_p43 : lw_okq (⟨"FlowShelfModel", "lostOf", "(I)I"⟩, 50) := ⟨⟨by decide +kernel, by decide +kernel⟩, List.mem_of_getElem? (i := 1147) (by decide +kernel), List.mem_of_getElem? (i := 1516) (by decide +kernel), List.mem_of_getElem? (i := 1517) (by decide +kernel)⟩
def lw_privs_3 : List (MethodName × Nat) := [(⟨"FlowShelfModel", "fetch", "(I)V"⟩, 50), (⟨"FlowShelfModel", "makeRows", "(I)I"⟩, 50), (⟨"FlowShelfModel", "read", "(IZ)Z"⟩, 50), (⟨"FlowShelfModel", "take", "(I)J"⟩, 50), (⟨"FlowShelfModel", "unshelve", "(I)V"⟩, 50), (⟨"FlowShelfModel", "hearRecords", "()I"⟩, 50), (⟨"FlowShelfModel", "firstLeft", "()I"⟩, 50), (⟨"FlowShelfModel", "isWhole", "(I)Z"⟩, 50), (⟨"FlowShelfModel", "pairOne", "(I)V"⟩, 50), (⟨"FlowShelfModel", "isBack", "(II)Z"⟩, 50), (⟨"FlowShelfModel", "farness", "(II)J"⟩, 50), (⟨"FlowShelfModel", "lostOf", "(I)I"⟩, 50)]
theorem lw_r3 : ∀ q ∈ lw_privs_3, lw_okq q := List.forall_mem_cons.mpr ⟨lw_p32, List.forall_mem_cons.mpr ⟨lw_p33, List.forall_mem_cons.mpr ⟨lw_p34, List.forall_mem_cons.mpr ⟨lw_p35, List.forall_mem_cons.mpr ⟨lw_p36, List.forall_mem_cons.mpr ⟨lw_p37, List.forall_mem_cons.mpr ⟨lw_p38, List.forall_mem_cons.mpr ⟨lw_p39, List.forall_mem_cons.mpr ⟨lw_p40, List.forall_mem_cons.mpr ⟨lw_p41, List.forall_mem_cons.mpr ⟨lw_p42, List.forall_mem_cons.mpr ⟨lw_p43, fun _ h => absurd h List.not_mem_nil⟩⟩⟩⟩⟩⟩⟩⟩⟩⟩⟩⟩
def lw_privs : List (MethodName × Nat) := lw_privs_1 ++ (lw_privs_2 ++ (lw_privs_3))
def lw_tbl : List Cond := k2_sels lw_privs ++ tables_1
theorem lw_privs_ok : ∀ q ∈ lw_privs, lw_okq q := by
  show ∀ q ∈ lw_privs_1 ++ (lw_privs_2 ++ (lw_privs_3)), lw_okq q
  exact List.forall_mem_append.mpr ⟨lw_r1, List.forall_mem_append.mpr ⟨lw_r2, lw_r3⟩⟩
end
section
/-! The abstract heap, and programs over it. A cell: an array (its kind, length, contents) or an object (its class's place, fields). -/
abbrev fs_E : Type := (Nat × vp_A) ⊕ (Nat × List Value)
abbrev fs_M : Type := Nat → Option fs_E
/-- live cells; constant cells; addresses of constants; how many cells the heap has; how many slots were made -/
abbrev fs_S : Type := fs_M × fs_M × (Nat → Nat) × Nat × Nat
abbrev fs_m (s : fs_S) : fs_M := s.1
abbrev fs_k (s : fs_S) : fs_M := s.2.1
abbrev fs_c (s : fs_S) : Nat → Nat := s.2.2.1
abbrev fs_n (s : fs_S) : Nat := s.2.2.2.1
abbrev fs_u (s : fs_S) : Nat := s.2.2.2.2
def fs_le (a b : fs_S) : Prop := fs_n a ≤ fs_n b ∧ fs_u a ≤ fs_u b
theorem fs_le.rf (a : fs_S) : fs_le a a := ⟨Nat.le_refl _, Nat.le_refl _⟩
theorem fs_le.tr {a b c : fs_S} (h : fs_le a b) (k : fs_le b c) : fs_le a c := ⟨Nat.le_trans h.1 k.1, Nat.le_trans h.2 k.2⟩
def fs_up (M : fs_M) (a : Nat) (e : fs_E) : fs_M := fun b => if b = a then some e else M b
def fs_lk (s : fs_S) (a : Nat) : Option fs_E := match fs_m s a with
  | some e => some e
  | none => fs_k s a
/-- a program: it may fail; it never gives room back -/
abbrev fs_T (α : Type) : Type := { f : fs_S → Option (α × fs_S) // ∀ s a t, f s = some (a, t) → fs_le s t }
def fs_ret {α : Type} (a : α) : fs_T α := ⟨fun s => some (a, s), fun s b t h => by cases h; exact fs_le.rf s⟩
def fs_fail {α : Type} : fs_T α := ⟨fun _ => none, fun _ _ _ h => by cases h⟩
theorem fs_bd {α β : Type} {x : Option α} {f : α → Option β} {r : β} (h : x.bind f = some r) : ∃ v, x = some v ∧ f v = some r := by
  cases x with
  | none => cases h
  | some v => exact ⟨v, rfl, h⟩
def fs_bind {α β : Type} (x : fs_T α) (k : α → fs_T β) : fs_T β := ⟨fun s => (x.1 s).bind fun q => (k q.1).1 q.2, fun s b t h => by
  obtain ⟨⟨v, s1⟩, h1, h2⟩ := fs_bd h
  exact (x.2 s v s1 h1).tr ((k v).2 s1 b t h2)⟩
/-- a call of what may throw: the exception goes on -/
def fs_bindx {α β : Type} (x : fs_T (α ⊕ String)) (k : α → fs_T (β ⊕ String)) : fs_T (β ⊕ String) := fs_bind x fun r => match r with
  | .inl v => k v
  | .inr e => fs_ret (.inr e)
/-- .. it is caught -/
def fs_try {α β : Type} (x : fs_T (α ⊕ String)) (k : α → fs_T β) (h : String → fs_T β) : fs_T β := fs_bind x fun r => match r with
  | .inl v => k v
  | .inr e => h e
def fs_nm {α β : Type} (x : α) (k : α → fs_T β) : fs_T β := k x
def fs_let {α β : Type} (x : α) (k : α → fs_T β) : fs_T β := k x
def fs_lp1 {A α : Type} (n : Nat) (b : (A → fs_T α) → A → fs_T α) : A → fs_T α := match n with
  | 0 => fun _ => fs_fail
  | n + 1 => b (fs_lp1 n b)
def fs_lp2 {A B α : Type} (n : Nat) (b : (A → B → fs_T α) → A → B → fs_T α) : A → B → fs_T α := match n with
  | 0 => fun _ _ => fs_fail
  | n + 1 => b (fs_lp2 n b)
def fs_lp3 {A B C α : Type} (n : Nat) (b : (A → B → C → fs_T α) → A → B → C → fs_T α) : A → B → C → fs_T α := match n with
  | 0 => fun _ _ _ => fs_fail
  | n + 1 => b (fs_lp3 n b)
def fs_lp4 {A B C D α : Type} (n : Nat) (b : (A → B → C → D → fs_T α) → A → B → C → D → fs_T α) : A → B → C → D → fs_T α := match n with
  | 0 => fun _ _ _ _ => fs_fail
  | n + 1 => b (fs_lp4 n b)
/-- reading a cell, live or constant -/
def fs_rd {α : Type} (a : Nat) (g : fs_E → Option α) : fs_T α := ⟨fun s => ((fs_lk s a).bind g).map fun v => (v, s), fun s b t h => by
  dsimp only at h
  cases h1 : (fs_lk s a).bind g with
  | none => rw [h1] at h; cases h
  | some v => rw [h1] at h; cases h; exact fs_le.rf s⟩
/-- writing a live cell -/
def fs_wr (a : Nat) (g : fs_E → Option fs_E) : fs_T Unit := ⟨fun s => ((fs_m s a).bind g).map fun e => ((), (fs_up (fs_m s) a e, s.2)), fun s b t h => by
  dsimp only at h
  cases h1 : (fs_m s a).bind g with
  | none => rw [h1] at h; cases h
  | some v => rw [h1] at h; cases h; exact fs_le.rf s⟩
/-- making a cell -/
def fs_mk (e : fs_E) (w : Nat) : fs_T Nat := ⟨fun s => some (fs_n s, (fs_up (fs_m s) (fs_n s) e, fs_k s, fs_c s, fs_n s + 1, fs_u s + w)), fun s b t h => by
  cases h; exact ⟨Nat.le_add_right _ _, Nat.le_add_right _ _⟩⟩
/-- an exception is made and thrown -/
def fs_throw {α : Type} (c : String) : fs_T (α ⊕ String) := ⟨fun s => some (.inr c, (fs_m s, fs_k s, fs_c s, fs_n s + 1, fs_u s + 6)), fun s b t h => by
  cases h; exact ⟨Nat.le_add_right _ _, Nat.le_add_right _ _⟩⟩
def fs_chk (p : Prop) [Decidable p] : fs_T Unit := if p then fs_ret () else fs_fail
/-! what is read of a cell -/
def fs_fI (ci k : Nat) (e : fs_E) : Option Int32 := match e with
  | .inr (c, fs) => if c = ci then (match fs[k]? with
    | some (.int v) => some v
    | _ => none) else none
  | .inl _ => none
def fs_fJ (ci k : Nat) (e : fs_E) : Option Int64 := match e with
  | .inr (c, fs) => if c = ci then (match fs[k]? with
    | some (.long v) => some v
    | _ => none) else none
  | .inl _ => none
def fs_fR (ci k : Nat) (e : fs_E) : Option Nat := match e with
  | .inr (c, fs) => if c = ci then (match fs[k]? with
    | some (.ref v) => some v
    | _ => none) else none
  | .inl _ => none
def fs_fP (ci k : Nat) (v : Value) (e : fs_E) : Option fs_E := match e with
  | .inr (c, fs) => if c = ci ∧ k < fs.length then some (.inr (c, fs.set k v)) else none
  | .inl _ => none
/-- kinds of arrays: 0 int[], 1 long[], 2 boolean[], 3 Object[], 4 Slot[] -/
def fs_xI (t : Nat) (i : Int32) (e : fs_E) : Option Int32 := match e with
  | .inl (u, n, .inl f) => if u = t ∧ ¬ (i < 0 ∨ n ≤ i.toNatClampNeg) then some (f i.toNatClampNeg) else none
  | _ => none
def fs_xJ (t : Nat) (i : Int32) (e : fs_E) : Option Int64 := match e with
  | .inl (u, n, .inr (.inl f)) => if u = t ∧ ¬ (i < 0 ∨ n ≤ i.toNatClampNeg) then some (f i.toNatClampNeg) else none
  | _ => none
def fs_xR (i : Int32) (e : fs_E) : Option Nat := match e with
  | .inl (u, n, .inr (.inr (.inr (.inr f)))) => if ¬ (i < 0 ∨ n ≤ i.toNatClampNeg) then f i.toNatClampNeg else none
  | _ => none
def fs_xL (e : fs_E) : Option Int32 := match e with
  | .inl (_, n, _) => some (Int32.ofNat n)
  | .inr _ => none
def fs_yI (t : Nat) (i v : Int32) (e : fs_E) : Option fs_E := match e with
  | .inl (u, n, .inl f) => if u = t ∧ ¬ (i < 0 ∨ n ≤ i.toNatClampNeg) then some (.inl (u, n, .inl (upd f i.toNatClampNeg v))) else none
  | _ => none
def fs_yJ (t : Nat) (i : Int32) (v : Int64) (e : fs_E) : Option fs_E := match e with
  | .inl (u, n, .inr (.inl f)) => if u = t ∧ ¬ (i < 0 ∨ n ≤ i.toNatClampNeg) then some (.inl (u, n, .inr (.inl (vp_updL f i.toNatClampNeg v)))) else none
  | _ => none
def fs_y0 (i : Int32) (e : fs_E) : Option fs_E := match e with
  | .inl (u, n, .inr (.inr (.inr (.inr f)))) => if ¬ (i < 0 ∨ n ≤ i.toNatClampNeg) then some (.inl (u, n, .inr (.inr (.inr (.inr (va_up f i.toNatClampNeg none)))))) else none
  | _ => none
/-! the instructions -/
def fs_gi (a ci k : Nat) : fs_T Int32 := fs_rd a (fs_fI ci k)
def fs_gj (a ci k : Nat) : fs_T Int64 := fs_rd a (fs_fJ ci k)
def fs_gr (a ci k : Nat) : fs_T Nat := fs_rd a (fs_fR ci k)
def fs_pi (a ci k : Nat) (v : Int32) : fs_T Unit := fs_wr a (fs_fP ci k (.int v))
def fs_pj (a ci k : Nat) (v : Int64) : fs_T Unit := fs_wr a (fs_fP ci k (.long v))
def fs_pr (a ci k : Nat) (v : Nat) : fs_T Unit := fs_wr a (fs_fP ci k (.ref v))
def fs_pz (a ci k : Nat) (v : Int32) : fs_T Unit := if v = 0 ∨ v = 1 then fs_wr a (fs_fP ci k (.int v)) else fs_fail
def fs_ai (a : Nat) (i : Int32) : fs_T Int32 := fs_rd a (fs_xI 0 i)
def fs_az (a : Nat) (i : Int32) : fs_T Int32 := fs_rd a (fs_xI 2 i)
def fs_aj (a : Nat) (i : Int32) : fs_T Int64 := fs_rd a (fs_xJ 1 i)
def fs_ar (a : Nat) (i : Int32) : fs_T Nat := fs_rd a (fs_xR i)
def fs_al (a : Nat) : fs_T Int32 := fs_rd a fs_xL
def fs_si (a : Nat) (i v : Int32) : fs_T Unit := fs_wr a (fs_yI 0 i v)
def fs_sz (a : Nat) (i v : Int32) : fs_T Unit := if v = 0 ∨ v = 1 then fs_wr a (fs_yI 2 i v) else fs_fail
def fs_sj (a : Nat) (i : Int32) (v : Int64) : fs_T Unit := fs_wr a (fs_yJ 1 i v)
/-- a reference is stored: into Object[] any object, into Slot[] a Slot -/
def fs_oc (e : fs_E) : Option Nat := match e with
  | .inr (c, _) => some c
  | .inl _ => none
def fs_yC (i : Int32) (c v : Nat) (e : fs_E) : Option fs_E := match e with
  | .inl (u, n, .inr (.inr (.inr (.inr f)))) => if (u = 3 ∨ u = 4 ∧ c = 3) ∧ ¬ (i < 0 ∨ n ≤ i.toNatClampNeg) then some (.inl (u, n, .inr (.inr (.inr (.inr (va_up f i.toNatClampNeg (some v))))))) else none
  | _ => none
def fs_sr (a : Nat) (i : Int32) (v : Nat) : fs_T Unit := fs_bind (fs_rd v fs_oc) fun c => fs_wr a (fs_yC i c v)
def fs_s0 (a : Nat) (i : Int32) : fs_T Unit := fs_wr a (fs_y0 i)
def fs_ni (n : Int32) : fs_T Nat := if ¬ n < 0 ∧ n.toNatClampNeg ≤ 65536 then fs_mk (.inl (0, n.toNatClampNeg, .inl fun _ => 0)) n.toNatClampNeg else fs_fail
def fs_nj (n : Int32) : fs_T Nat := if ¬ n < 0 ∧ n.toNatClampNeg ≤ 65536 then fs_mk (.inl (1, n.toNatClampNeg, .inr (.inl fun _ => 0))) n.toNatClampNeg else fs_fail
def fs_nz (n : Int32) : fs_T Nat := if ¬ n < 0 ∧ n.toNatClampNeg ≤ 65536 then fs_mk (.inl (2, n.toNatClampNeg, .inl fun _ => 0)) n.toNatClampNeg else fs_fail
def fs_nr (t : Nat) (n : Int32) : fs_T Nat := if ¬ n < 0 ∧ n.toNatClampNeg ≤ 65536 then fs_mk (.inl (t, n.toNatClampNeg, .inr (.inr (.inr (.inr fun _ => none))))) n.toNatClampNeg else fs_fail
def fs_ck (a ci : Nat) : fs_T Unit := fs_rd a fun e => match e with
  | .inr (c, _) => if c = ci then some () else none
  | .inl _ => none
def fs_gs (i : Nat) : fs_T Nat := ⟨fun s => some (fs_c s i, s), fun s b t h => by cases h; exact fs_le.rf s⟩
def fs_rem (x y : Int32) : fs_T Int32 := if y = 0 then fs_fail else fs_ret (x - x / y * y)
def fs_rz (v : Int32) : fs_T Int32 := if v = 0 ∨ v = 1 then fs_ret v else fs_fail
def fs_rzx (v : Int32) : fs_T (Int32 ⊕ String) := if v = 0 ∨ v = 1 then fs_ret (.inl v) else fs_fail
def fs_ushr (x y : Int32) : Int32 := (x.toUInt32 >>> (y.toUInt32 &&& Int32.toUInt32 31)).toInt32
def fs_lshl (x : Int64) (y : Int32) : Int64 := x <<< (y.toInt64 &&& 63)
def fs_dv (d : String) : Value := if d = "J" then .long 0 else if d = "I" ∨ d = "Z" then .int 0 else .null
/-- an object with its fields as they are made -/
def fs_nw (ci : Nat) (ds : List Value) : fs_T Nat := fs_mk (.inr (ci, ds)) ds.length
def fs_ca (a : Nat) : fs_T Unit := fs_rd a fun e => match e with
  | .inl (t, _) => if t = 3 then some () else none
  | .inr _ => none
def fs_ci (a : Nat) : fs_T Unit := fs_rd a fun e => match e with
  | .inl (t, _) => if t = 0 then some () else none
  | .inr _ => none
/-- the class object of an Object[] -/
def fs_gc (a : Nat) : fs_T Nat := fs_bind (fs_ca a) fun _ => fs_gs 2
/-- a copy of an int[] -/
def fs_xA (e : fs_E) : Option (Nat × (Nat → Int32)) := match e with
  | .inl (t, n, .inl f) => if t = 0 then some (n, f) else none
  | _ => none
def fs_cln (a : Nat) : fs_T Nat := fs_bind (fs_rd a fs_xA) fun q => fs_mk (.inl (0, q.1, .inl q.2)) q.1
/-- System.arraycopy between arrays of objects -/
def fs_xQ (e : fs_E) : Option (Nat × (Nat → Option Nat)) := match e with
  | .inl (t, n, .inr (.inr (.inr (.inr f)))) => if t = 3 then some (n, f) else none
  | _ => none
def fs_yQ (f : Nat → Option Nat) (sp dp n : Nat) (e : fs_E) : Option fs_E := match e with
  | .inl (t, k, .inr (.inr (.inr (.inr g)))) => if t = 3 ∧ dp + n ≤ k then some (.inl (t, k, .inr (.inr (.inr (.inr (va_cpy f g sp dp n)))))) else none
  | _ => none
/-- the copied places hold objects -/
def fs_oo (f : Nat → Option Nat) (sp n : Nat) : fs_T Unit := ⟨fun s => if (List.range n).all (fun i => match f (sp + i) with
    | none => true
    | some y => (match fs_lk s y with
      | some (.inr _) => true
      | _ => false)) = true then some ((), s) else none, fun s b t h => by
  dsimp only at h
  split at h
  · cases h; exact fs_le.rf s
  · cases h⟩
def fs_cp (a : Nat) (sp : Int32) (b : Nat) (dp n : Int32) : fs_T Unit := fs_bind (fs_rd a fs_xQ) fun q =>
  if ¬ sp < 0 ∧ ¬ dp < 0 ∧ ¬ n < 0 ∧ sp.toNatClampNeg + n.toNatClampNeg ≤ q.1 then
    fs_bind (fs_oo q.2 sp.toNatClampNeg n.toNatClampNeg) fun _ => fs_wr b (fs_yQ q.2 sp.toNatClampNeg dp.toNatClampNeg n.toNatClampNeg)
  else fs_fail
end
