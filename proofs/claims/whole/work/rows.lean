section
-- ===== PART A: goes FIRST, ahead of the names: the tables' words, and 'selects' of the private methods out of them =====
/-- a private method of a class that the tables say can be made, by its rows of tables_1 -/
def lw_okq (q : MethodName × Nat) : Prop := (q.1.cls ≠ "java/lang/invoke/MethodHandle" ∧ q.1.cls ≠ "java/lang/invoke/VarHandle") ∧ Cond.instantiable q.1.cls q.2 ∈ tables_1 ∧ Cond.privateMethod q.1 ∈ tables_1 ∧ Cond.instanceMethod q.1 ∈ tables_1
theorem lw_p0 : lw_okq (⟨"FlowShelf", "isReport", "(I)Z"⟩, 4) := ⟨⟨by decide +kernel, by decide +kernel⟩, List.mem_of_getElem? (i := 30) (by decide +kernel), List.mem_of_getElem? (i := 265) (by decide +kernel), List.mem_of_getElem? (i := 266) (by decide +kernel)⟩
theorem lw_p1 : lw_okq (⟨"FlowShelf", "exporterOf", "(I)LFlowShelf$Exporter;"⟩, 4) := ⟨⟨by decide +kernel, by decide +kernel⟩, List.mem_of_getElem? (i := 30) (by decide +kernel), List.mem_of_getElem? (i := 301) (by decide +kernel), List.mem_of_getElem? (i := 302) (by decide +kernel)⟩
theorem lw_p2 : lw_okq (⟨"java/lang/Throwable", "fillInStackTrace", "(I)Ljava/lang/Throwable;"⟩, 6) := ⟨⟨by decide +kernel, by decide +kernel⟩, List.mem_of_getElem? (i := 347) (by decide +kernel), List.mem_of_getElem? (i := 345) (by decide +kernel), List.mem_of_getElem? (i := 346) (by decide +kernel)⟩
theorem lw_p3 : lw_okq (⟨"java/util/ArrayList", "fastRemove", "([Ljava/lang/Object;I)V"⟩, 3) := ⟨⟨by decide +kernel, by decide +kernel⟩, List.mem_of_getElem? (i := 44) (by decide +kernel), List.mem_of_getElem? (i := 433) (by decide +kernel), List.mem_of_getElem? (i := 434) (by decide +kernel)⟩
theorem lw_p4 : lw_okq (⟨"java/util/ArrayList", "add", "(Ljava/lang/Object;[Ljava/lang/Object;I)V"⟩, 3) := ⟨⟨by decide +kernel, by decide +kernel⟩, List.mem_of_getElem? (i := 44) (by decide +kernel), List.mem_of_getElem? (i := 444) (by decide +kernel), List.mem_of_getElem? (i := 445) (by decide +kernel)⟩
theorem lw_p5 : lw_okq (⟨"java/util/ArrayList", "grow", "()[Ljava/lang/Object;"⟩, 3) := ⟨⟨by decide +kernel, by decide +kernel⟩, List.mem_of_getElem? (i := 44) (by decide +kernel), List.mem_of_getElem? (i := 448) (by decide +kernel), List.mem_of_getElem? (i := 449) (by decide +kernel)⟩
theorem lw_p6 : lw_okq (⟨"java/util/ArrayList", "grow", "(I)[Ljava/lang/Object;"⟩, 3) := ⟨⟨by decide +kernel, by decide +kernel⟩, List.mem_of_getElem? (i := 44) (by decide +kernel), List.mem_of_getElem? (i := 452) (by decide +kernel), List.mem_of_getElem? (i := 453) (by decide +kernel)⟩
theorem lw_p7 : lw_okq (⟨"FlowShelf", "slotOf", "(II)LFlowShelf$Slot;"⟩, 4) := ⟨⟨by decide +kernel, by decide +kernel⟩, List.mem_of_getElem? (i := 30) (by decide +kernel), List.mem_of_getElem? (i := 621) (by decide +kernel), List.mem_of_getElem? (i := 622) (by decide +kernel)⟩
theorem lw_p8 : lw_okq (⟨"FlowShelf", "hasNoRoomForReport", "()Z"⟩, 4) := ⟨⟨by decide +kernel, by decide +kernel⟩, List.mem_of_getElem? (i := 30) (by decide +kernel), List.mem_of_getElem? (i := 691) (by decide +kernel), List.mem_of_getElem? (i := 692) (by decide +kernel)⟩
theorem lw_p9 : lw_okq (⟨"FlowShelf", "keep", "(LFlowShelf$Report;)I"⟩, 4) := ⟨⟨by decide +kernel, by decide +kernel⟩, List.mem_of_getElem? (i := 30) (by decide +kernel), List.mem_of_getElem? (i := 721) (by decide +kernel), List.mem_of_getElem? (i := 722) (by decide +kernel)⟩
theorem lw_p10 : lw_okq (⟨"FlowShelf", "reportWithByte", "(II)LFlowShelf$Report;"⟩, 4) := ⟨⟨by decide +kernel, by decide +kernel⟩, List.mem_of_getElem? (i := 30) (by decide +kernel), List.mem_of_getElem? (i := 789) (by decide +kernel), List.mem_of_getElem? (i := 790) (by decide +kernel)⟩
theorem lw_p11 : lw_okq (⟨"FlowShelf", "reportOf", "(I)LFlowShelf$Report;"⟩, 4) := ⟨⟨by decide +kernel, by decide +kernel⟩, List.mem_of_getElem? (i := 30) (by decide +kernel), List.mem_of_getElem? (i := 793) (by decide +kernel), List.mem_of_getElem? (i := 794) (by decide +kernel)⟩
theorem lw_p12 : lw_okq (⟨"FlowShelf", "requireRow", "(I)V"⟩, 4) := ⟨⟨by decide +kernel, by decide +kernel⟩, List.mem_of_getElem? (i := 30) (by decide +kernel), List.mem_of_getElem? (i := 1057) (by decide +kernel), List.mem_of_getElem? (i := 1058) (by decide +kernel)⟩
theorem lw_p13 : lw_okq (⟨"FlowShelfModel", "noExporter", "(I)Z"⟩, 50) := ⟨⟨by decide +kernel, by decide +kernel⟩, List.mem_of_getElem? (i := 1147) (by decide +kernel), List.mem_of_getElem? (i := 1312) (by decide +kernel), List.mem_of_getElem? (i := 1313) (by decide +kernel)⟩
theorem lw_p14 : lw_okq (⟨"FlowShelfModel", "noByte", "(I)Z"⟩, 50) := ⟨⟨by decide +kernel, by decide +kernel⟩, List.mem_of_getElem? (i := 1147) (by decide +kernel), List.mem_of_getElem? (i := 1316) (by decide +kernel), List.mem_of_getElem? (i := 1317) (by decide +kernel)⟩
theorem lw_p15 : lw_okq (⟨"FlowShelfModel", "flowOf", "(II)I"⟩, 50) := ⟨⟨by decide +kernel, by decide +kernel⟩, List.mem_of_getElem? (i := 1147) (by decide +kernel), List.mem_of_getElem? (i := 1320) (by decide +kernel), List.mem_of_getElem? (i := 1321) (by decide +kernel)⟩
def lw_privs_1 : List (MethodName × Nat) := [(⟨"FlowShelf", "isReport", "(I)Z"⟩, 4), (⟨"FlowShelf", "exporterOf", "(I)LFlowShelf$Exporter;"⟩, 4), (⟨"java/lang/Throwable", "fillInStackTrace", "(I)Ljava/lang/Throwable;"⟩, 6), (⟨"java/util/ArrayList", "fastRemove", "([Ljava/lang/Object;I)V"⟩, 3), (⟨"java/util/ArrayList", "add", "(Ljava/lang/Object;[Ljava/lang/Object;I)V"⟩, 3), (⟨"java/util/ArrayList", "grow", "()[Ljava/lang/Object;"⟩, 3), (⟨"java/util/ArrayList", "grow", "(I)[Ljava/lang/Object;"⟩, 3), (⟨"FlowShelf", "slotOf", "(II)LFlowShelf$Slot;"⟩, 4), (⟨"FlowShelf", "hasNoRoomForReport", "()Z"⟩, 4), (⟨"FlowShelf", "keep", "(LFlowShelf$Report;)I"⟩, 4), (⟨"FlowShelf", "reportWithByte", "(II)LFlowShelf$Report;"⟩, 4), (⟨"FlowShelf", "reportOf", "(I)LFlowShelf$Report;"⟩, 4), (⟨"FlowShelf", "requireRow", "(I)V"⟩, 4), (⟨"FlowShelfModel", "noExporter", "(I)Z"⟩, 50), (⟨"FlowShelfModel", "noByte", "(I)Z"⟩, 50), (⟨"FlowShelfModel", "flowOf", "(II)I"⟩, 50)]
theorem lw_r1 : ∀ q ∈ lw_privs_1, lw_okq q := List.forall_mem_cons.mpr ⟨lw_p0, List.forall_mem_cons.mpr ⟨lw_p1, List.forall_mem_cons.mpr ⟨lw_p2, List.forall_mem_cons.mpr ⟨lw_p3, List.forall_mem_cons.mpr ⟨lw_p4, List.forall_mem_cons.mpr ⟨lw_p5, List.forall_mem_cons.mpr ⟨lw_p6, List.forall_mem_cons.mpr ⟨lw_p7, List.forall_mem_cons.mpr ⟨lw_p8, List.forall_mem_cons.mpr ⟨lw_p9, List.forall_mem_cons.mpr ⟨lw_p10, List.forall_mem_cons.mpr ⟨lw_p11, List.forall_mem_cons.mpr ⟨lw_p12, List.forall_mem_cons.mpr ⟨lw_p13, List.forall_mem_cons.mpr ⟨lw_p14, List.forall_mem_cons.mpr ⟨lw_p15, fun _ h => absurd h List.not_mem_nil⟩⟩⟩⟩⟩⟩⟩⟩⟩⟩⟩⟩⟩⟩⟩⟩
theorem lw_p16 : lw_okq (⟨"FlowShelfModel", "end", "(III)V"⟩, 50) := ⟨⟨by decide +kernel, by decide +kernel⟩, List.mem_of_getElem? (i := 1147) (by decide +kernel), List.mem_of_getElem? (i := 1324) (by decide +kernel), List.mem_of_getElem? (i := 1325) (by decide +kernel)⟩
theorem lw_p17 : lw_okq (⟨"FlowShelfModel", "noTemplate", "(II)Z"⟩, 50) := ⟨⟨by decide +kernel, by decide +kernel⟩, List.mem_of_getElem? (i := 1147) (by decide +kernel), List.mem_of_getElem? (i := 1348) (by decide +kernel), List.mem_of_getElem? (i := 1349) (by decide +kernel)⟩
theorem lw_p18 : lw_okq (⟨"FlowShelfModel", "leastOf", "(I)I"⟩, 50) := ⟨⟨by decide +kernel, by decide +kernel⟩, List.mem_of_getElem? (i := 1147) (by decide +kernel), List.mem_of_getElem? (i := 1352) (by decide +kernel), List.mem_of_getElem? (i := 1353) (by decide +kernel)⟩
theorem lw_p19 : lw_okq (⟨"FlowShelfModel", "head", "(II)V"⟩, 50) := ⟨⟨by decide +kernel, by decide +kernel⟩, List.mem_of_getElem? (i := 1147) (by decide +kernel), List.mem_of_getElem? (i := 1372) (by decide +kernel), List.mem_of_getElem? (i := 1373) (by decide +kernel)⟩
theorem lw_p20 : lw_okq (⟨"FlowShelfModel", "write", "(I)V"⟩, 50) := ⟨⟨by decide +kernel, by decide +kernel⟩, List.mem_of_getElem? (i := 1147) (by decide +kernel), List.mem_of_getElem? (i := 1376) (by decide +kernel), List.mem_of_getElem? (i := 1377) (by decide +kernel)⟩
theorem lw_p21 : lw_okq (⟨"FlowShelfModel", "last", "(I)I"⟩, 50) := ⟨⟨by decide +kernel, by decide +kernel⟩, List.mem_of_getElem? (i := 1147) (by decide +kernel), List.mem_of_getElem? (i := 1384) (by decide +kernel), List.mem_of_getElem? (i := 1385) (by decide +kernel)⟩
theorem lw_p22 : lw_okq (⟨"FlowShelfModel", "recordOf", "(III)I"⟩, 50) := ⟨⟨by decide +kernel, by decide +kernel⟩, List.mem_of_getElem? (i := 1147) (by decide +kernel), List.mem_of_getElem? (i := 1388) (by decide +kernel), List.mem_of_getElem? (i := 1389) (by decide +kernel)⟩
theorem lw_p23 : lw_okq (⟨"FlowShelfModel", "widthOf", "(I)I"⟩, 50) := ⟨⟨by decide +kernel, by decide +kernel⟩, List.mem_of_getElem? (i := 1147) (by decide +kernel), List.mem_of_getElem? (i := 1392) (by decide +kernel), List.mem_of_getElem? (i := 1393) (by decide +kernel)⟩
theorem lw_p24 : lw_okq (⟨"FlowShelfModel", "writeRecord", "(III)V"⟩, 50) := ⟨⟨by decide +kernel, by decide +kernel⟩, List.mem_of_getElem? (i := 1147) (by decide +kernel), List.mem_of_getElem? (i := 1398) (by decide +kernel), List.mem_of_getElem? (i := 1399) (by decide +kernel)⟩
theorem lw_p25 : lw_okq (⟨"FlowShelfModel", "noReport", "(I)Z"⟩, 50) := ⟨⟨by decide +kernel, by decide +kernel⟩, List.mem_of_getElem? (i := 1147) (by decide +kernel), List.mem_of_getElem? (i := 1410) (by decide +kernel), List.mem_of_getElem? (i := 1411) (by decide +kernel)⟩
theorem lw_p26 : lw_okq (⟨"FlowShelfModel", "isBad", "()Z"⟩, 50) := ⟨⟨by decide +kernel, by decide +kernel⟩, List.mem_of_getElem? (i := 1147) (by decide +kernel), List.mem_of_getElem? (i := 1426) (by decide +kernel), List.mem_of_getElem? (i := 1427) (by decide +kernel)⟩
theorem lw_p27 : lw_okq (⟨"FlowShelfModel", "badFields", "()Z"⟩, 50) := ⟨⟨by decide +kernel, by decide +kernel⟩, List.mem_of_getElem? (i := 1147) (by decide +kernel), List.mem_of_getElem? (i := 1430) (by decide +kernel), List.mem_of_getElem? (i := 1431) (by decide +kernel)⟩
theorem lw_p28 : lw_okq (⟨"FlowShelfModel", "hearTemplate", "()I"⟩, 50) := ⟨⟨by decide +kernel, by decide +kernel⟩, List.mem_of_getElem? (i := 1147) (by decide +kernel), List.mem_of_getElem? (i := 1434) (by decide +kernel), List.mem_of_getElem? (i := 1435) (by decide +kernel)⟩
theorem lw_p29 : lw_okq (⟨"FlowShelfModel", "nameOf", "()I"⟩, 50) := ⟨⟨by decide +kernel, by decide +kernel⟩, List.mem_of_getElem? (i := 1147) (by decide +kernel), List.mem_of_getElem? (i := 1438) (by decide +kernel), List.mem_of_getElem? (i := 1439) (by decide +kernel)⟩
theorem lw_p30 : lw_okq (⟨"FlowShelfModel", "find", "(I)I"⟩, 50) := ⟨⟨by decide +kernel, by decide +kernel⟩, List.mem_of_getElem? (i := 1147) (by decide +kernel), List.mem_of_getElem? (i := 1442) (by decide +kernel), List.mem_of_getElem? (i := 1443) (by decide +kernel)⟩
theorem lw_p31 : lw_okq (⟨"FlowShelfModel", "waiting", "(I)I"⟩, 50) := ⟨⟨by decide +kernel, by decide +kernel⟩, List.mem_of_getElem? (i := 1147) (by decide +kernel), List.mem_of_getElem? (i := 1446) (by decide +kernel), List.mem_of_getElem? (i := 1447) (by decide +kernel)⟩
def lw_privs_2 : List (MethodName × Nat) := [(⟨"FlowShelfModel", "end", "(III)V"⟩, 50), (⟨"FlowShelfModel", "noTemplate", "(II)Z"⟩, 50), (⟨"FlowShelfModel", "leastOf", "(I)I"⟩, 50), (⟨"FlowShelfModel", "head", "(II)V"⟩, 50), (⟨"FlowShelfModel", "write", "(I)V"⟩, 50), (⟨"FlowShelfModel", "last", "(I)I"⟩, 50), (⟨"FlowShelfModel", "recordOf", "(III)I"⟩, 50), (⟨"FlowShelfModel", "widthOf", "(I)I"⟩, 50), (⟨"FlowShelfModel", "writeRecord", "(III)V"⟩, 50), (⟨"FlowShelfModel", "noReport", "(I)Z"⟩, 50), (⟨"FlowShelfModel", "isBad", "()Z"⟩, 50), (⟨"FlowShelfModel", "badFields", "()Z"⟩, 50), (⟨"FlowShelfModel", "hearTemplate", "()I"⟩, 50), (⟨"FlowShelfModel", "nameOf", "()I"⟩, 50), (⟨"FlowShelfModel", "find", "(I)I"⟩, 50), (⟨"FlowShelfModel", "waiting", "(I)I"⟩, 50)]
theorem lw_r2 : ∀ q ∈ lw_privs_2, lw_okq q := List.forall_mem_cons.mpr ⟨lw_p16, List.forall_mem_cons.mpr ⟨lw_p17, List.forall_mem_cons.mpr ⟨lw_p18, List.forall_mem_cons.mpr ⟨lw_p19, List.forall_mem_cons.mpr ⟨lw_p20, List.forall_mem_cons.mpr ⟨lw_p21, List.forall_mem_cons.mpr ⟨lw_p22, List.forall_mem_cons.mpr ⟨lw_p23, List.forall_mem_cons.mpr ⟨lw_p24, List.forall_mem_cons.mpr ⟨lw_p25, List.forall_mem_cons.mpr ⟨lw_p26, List.forall_mem_cons.mpr ⟨lw_p27, List.forall_mem_cons.mpr ⟨lw_p28, List.forall_mem_cons.mpr ⟨lw_p29, List.forall_mem_cons.mpr ⟨lw_p30, List.forall_mem_cons.mpr ⟨lw_p31, fun _ h => absurd h List.not_mem_nil⟩⟩⟩⟩⟩⟩⟩⟩⟩⟩⟩⟩⟩⟩⟩⟩
theorem lw_p32 : lw_okq (⟨"FlowShelfModel", "fetch", "(I)V"⟩, 50) := ⟨⟨by decide +kernel, by decide +kernel⟩, List.mem_of_getElem? (i := 1147) (by decide +kernel), List.mem_of_getElem? (i := 1450) (by decide +kernel), List.mem_of_getElem? (i := 1451) (by decide +kernel)⟩
theorem lw_p33 : lw_okq (⟨"FlowShelfModel", "makeRows", "(I)I"⟩, 50) := ⟨⟨by decide +kernel, by decide +kernel⟩, List.mem_of_getElem? (i := 1147) (by decide +kernel), List.mem_of_getElem? (i := 1454) (by decide +kernel), List.mem_of_getElem? (i := 1455) (by decide +kernel)⟩
theorem lw_p34 : lw_okq (⟨"FlowShelfModel", "read", "(IZ)Z"⟩, 50) := ⟨⟨by decide +kernel, by decide +kernel⟩, List.mem_of_getElem? (i := 1147) (by decide +kernel), List.mem_of_getElem? (i := 1458) (by decide +kernel), List.mem_of_getElem? (i := 1459) (by decide +kernel)⟩
theorem lw_p35 : lw_okq (⟨"FlowShelfModel", "take", "(I)J"⟩, 50) := ⟨⟨by decide +kernel, by decide +kernel⟩, List.mem_of_getElem? (i := 1147) (by decide +kernel), List.mem_of_getElem? (i := 1463) (by decide +kernel), List.mem_of_getElem? (i := 1464) (by decide +kernel)⟩
theorem lw_p36 : lw_okq (⟨"FlowShelfModel", "unshelve", "(I)V"⟩, 50) := ⟨⟨by decide +kernel, by decide +kernel⟩, List.mem_of_getElem? (i := 1147) (by decide +kernel), List.mem_of_getElem? (i := 1468) (by decide +kernel), List.mem_of_getElem? (i := 1469) (by decide +kernel)⟩
theorem lw_p37 : lw_okq (⟨"FlowShelfModel", "hearRecords", "()I"⟩, 50) := ⟨⟨by decide +kernel, by decide +kernel⟩, List.mem_of_getElem? (i := 1147) (by decide +kernel), List.mem_of_getElem? (i := 1472) (by decide +kernel), List.mem_of_getElem? (i := 1473) (by decide +kernel)⟩
theorem lw_p38 : lw_okq (⟨"FlowShelfModel", "firstLeft", "()I"⟩, 50) := ⟨⟨by decide +kernel, by decide +kernel⟩, List.mem_of_getElem? (i := 1147) (by decide +kernel), List.mem_of_getElem? (i := 1492) (by decide +kernel), List.mem_of_getElem? (i := 1493) (by decide +kernel)⟩
theorem lw_p39 : lw_okq (⟨"FlowShelfModel", "isWhole", "(I)Z"⟩, 50) := ⟨⟨by decide +kernel, by decide +kernel⟩, List.mem_of_getElem? (i := 1147) (by decide +kernel), List.mem_of_getElem? (i := 1496) (by decide +kernel), List.mem_of_getElem? (i := 1497) (by decide +kernel)⟩
theorem lw_p40 : lw_okq (⟨"FlowShelfModel", "pairOne", "(I)V"⟩, 50) := ⟨⟨by decide +kernel, by decide +kernel⟩, List.mem_of_getElem? (i := 1147) (by decide +kernel), List.mem_of_getElem? (i := 1500) (by decide +kernel), List.mem_of_getElem? (i := 1501) (by decide +kernel)⟩
theorem lw_p41 : lw_okq (⟨"FlowShelfModel", "isBack", "(II)Z"⟩, 50) := ⟨⟨by decide +kernel, by decide +kernel⟩, List.mem_of_getElem? (i := 1147) (by decide +kernel), List.mem_of_getElem? (i := 1504) (by decide +kernel), List.mem_of_getElem? (i := 1505) (by decide +kernel)⟩
theorem lw_p42 : lw_okq (⟨"FlowShelfModel", "farness", "(II)J"⟩, 50) := ⟨⟨by decide +kernel, by decide +kernel⟩, List.mem_of_getElem? (i := 1147) (by decide +kernel), List.mem_of_getElem? (i := 1508) (by decide +kernel), List.mem_of_getElem? (i := 1509) (by decide +kernel)⟩
theorem lw_p43 : lw_okq (⟨"FlowShelfModel", "lostOf", "(I)I"⟩, 50) := ⟨⟨by decide +kernel, by decide +kernel⟩, List.mem_of_getElem? (i := 1147) (by decide +kernel), List.mem_of_getElem? (i := 1516) (by decide +kernel), List.mem_of_getElem? (i := 1517) (by decide +kernel)⟩
def lw_privs_3 : List (MethodName × Nat) := [(⟨"FlowShelfModel", "fetch", "(I)V"⟩, 50), (⟨"FlowShelfModel", "makeRows", "(I)I"⟩, 50), (⟨"FlowShelfModel", "read", "(IZ)Z"⟩, 50), (⟨"FlowShelfModel", "take", "(I)J"⟩, 50), (⟨"FlowShelfModel", "unshelve", "(I)V"⟩, 50), (⟨"FlowShelfModel", "hearRecords", "()I"⟩, 50), (⟨"FlowShelfModel", "firstLeft", "()I"⟩, 50), (⟨"FlowShelfModel", "isWhole", "(I)Z"⟩, 50), (⟨"FlowShelfModel", "pairOne", "(I)V"⟩, 50), (⟨"FlowShelfModel", "isBack", "(II)Z"⟩, 50), (⟨"FlowShelfModel", "farness", "(II)J"⟩, 50), (⟨"FlowShelfModel", "lostOf", "(I)I"⟩, 50)]
theorem lw_r3 : ∀ q ∈ lw_privs_3, lw_okq q := List.forall_mem_cons.mpr ⟨lw_p32, List.forall_mem_cons.mpr ⟨lw_p33, List.forall_mem_cons.mpr ⟨lw_p34, List.forall_mem_cons.mpr ⟨lw_p35, List.forall_mem_cons.mpr ⟨lw_p36, List.forall_mem_cons.mpr ⟨lw_p37, List.forall_mem_cons.mpr ⟨lw_p38, List.forall_mem_cons.mpr ⟨lw_p39, List.forall_mem_cons.mpr ⟨lw_p40, List.forall_mem_cons.mpr ⟨lw_p41, List.forall_mem_cons.mpr ⟨lw_p42, List.forall_mem_cons.mpr ⟨lw_p43, fun _ h => absurd h List.not_mem_nil⟩⟩⟩⟩⟩⟩⟩⟩⟩⟩⟩⟩
def lw_privs : List (MethodName × Nat) := lw_privs_1 ++ (lw_privs_2 ++ (lw_privs_3))
def lw_tbl : List Cond := k2_sels lw_privs ++ tables_1
theorem lw_privs_ok : ∀ q ∈ lw_privs, lw_okq q := by
  show ∀ q ∈ lw_privs_1 ++ (lw_privs_2 ++ (lw_privs_3)), lw_okq q
  exact List.forall_mem_append.mpr ⟨lw_r1, List.forall_mem_append.mpr ⟨lw_r2, lw_r3⟩⟩
end
section
/-! The abstract heap, and programs over it. A cell: an array (its kind, length, contents) or an object (its class's place, fields). -/
abbrev fs_E : Type := (Nat × vp_A) ⊕ (Nat × List Value)
abbrev fs_M : Type := Nat → Option fs_E
/-- live cells; constant cells; addresses of constants; how many cells the heap has; how many slots were made -/
abbrev fs_S : Type := fs_M × fs_M × (Nat → Nat) × Nat × Nat
abbrev fs_m (s : fs_S) : fs_M := s.1
abbrev fs_k (s : fs_S) : fs_M := s.2.1
abbrev fs_c (s : fs_S) : Nat → Nat := s.2.2.1
abbrev fs_n (s : fs_S) : Nat := s.2.2.2.1
abbrev fs_u (s : fs_S) : Nat := s.2.2.2.2
def fs_le (a b : fs_S) : Prop := fs_n a ≤ fs_n b ∧ fs_u a ≤ fs_u b
theorem fs_le.rf (a : fs_S) : fs_le a a := ⟨Nat.le_refl _, Nat.le_refl _⟩
theorem fs_le.tr {a b c : fs_S} (h : fs_le a b) (k : fs_le b c) : fs_le a c := ⟨Nat.le_trans h.1 k.1, Nat.le_trans h.2 k.2⟩
def fs_up (M : fs_M) (a : Nat) (e : fs_E) : fs_M := fun b => if b = a then some e else M b
def fs_lk (s : fs_S) (a : Nat) : Option fs_E := match fs_m s a with
  | some e => some e
  | none => fs_k s a
/-- a program: it may fail; it never gives room back -/
abbrev fs_T (α : Type) : Type := { f : fs_S → Option (α × fs_S) // ∀ s a t, f s = some (a, t) → fs_le s t }
def fs_ret {α : Type} (a : α) : fs_T α := ⟨fun s => some (a, s), fun s b t h => by cases h; exact fs_le.rf s⟩
def fs_fail {α : Type} : fs_T α := ⟨fun _ => none, fun _ _ _ h => by cases h⟩
theorem fs_bd {α β : Type} {x : Option α} {f : α → Option β} {r : β} (h : x.bind f = some r) : ∃ v, x = some v ∧ f v = some r := by
  cases x with
  | none => cases h
  | some v => exact ⟨v, rfl, h⟩
def fs_bind {α β : Type} (x : fs_T α) (k : α → fs_T β) : fs_T β := ⟨fun s => (x.1 s).bind fun q => (k q.1).1 q.2, fun s b t h => by
  obtain ⟨⟨v, s1⟩, h1, h2⟩ := fs_bd h
  exact (x.2 s v s1 h1).tr ((k v).2 s1 b t h2)⟩
/-- a call of what may throw: the exception goes on -/
def fs_bindx {α β : Type} (x : fs_T (α ⊕ String)) (k : α → fs_T (β ⊕ String)) : fs_T (β ⊕ String) := fs_bind x fun r => match r with
  | .inl v => k v
  | .inr e => fs_ret (.inr e)
/-- .. it is caught -/
def fs_try {α β : Type} (x : fs_T (α ⊕ String)) (k : α → fs_T β) (h : String → fs_T β) : fs_T β := fs_bind x fun r => match r with
  | .inl v => k v
  | .inr e => h e
def fs_nm {α β : Type} (x : α) (k : α → fs_T β) : fs_T β := k x
def fs_let {α β : Type} (x : α) (k : α → fs_T β) : fs_T β := k x
def fs_lp1 {A α : Type} (n : Nat) (b : (A → fs_T α) → A → fs_T α) : A → fs_T α := match n with
  | 0 => fun _ => fs_fail
  | n + 1 => b (fs_lp1 n b)
def fs_lp2 {A B α : Type} (n : Nat) (b : (A → B → fs_T α) → A → B → fs_T α) : A → B → fs_T α := match n with
  | 0 => fun _ _ => fs_fail
  | n + 1 => b (fs_lp2 n b)
def fs_lp3 {A B C α : Type} (n : Nat) (b : (A → B → C → fs_T α) → A → B → C → fs_T α) : A → B → C → fs_T α := match n with
  | 0 => fun _ _ _ => fs_fail
  | n + 1 => b (fs_lp3 n b)
def fs_lp4 {A B C D α : Type} (n : Nat) (b : (A → B → C → D → fs_T α) → A → B → C → D → fs_T α) : A → B → C → D → fs_T α := match n with
  | 0 => fun _ _ _ _ => fs_fail
  | n + 1 => b (fs_lp4 n b)
/-- reading a cell, live or constant -/
def fs_rd {α : Type} (a : Nat) (g : fs_E → Option α) : fs_T α := ⟨fun s => ((fs_lk s a).bind g).map fun v => (v, s), fun s b t h => by
  dsimp only at h
  cases h1 : (fs_lk s a).bind g with
  | none => rw [h1] at h; cases h
  | some v => rw [h1] at h; cases h; exact fs_le.rf s⟩
/-- writing a live cell -/
def fs_wr (a : Nat) (g : fs_E → Option fs_E) : fs_T Unit := ⟨fun s => ((fs_m s a).bind g).map fun e => ((), (fs_up (fs_m s) a e, s.2)), fun s b t h => by
  dsimp only at h
  cases h1 : (fs_m s a).bind g with
  | none => rw [h1] at h; cases h
  | some v => rw [h1] at h; cases h; exact fs_le.rf s⟩
/-- making a cell -/
def fs_mk (e : fs_E) (w : Nat) : fs_T Nat := ⟨fun s => some (fs_n s, (fs_up (fs_m s) (fs_n s) e, fs_k s, fs_c s, fs_n s + 1, fs_u s + w)), fun s b t h => by
  cases h; exact ⟨Nat.le_add_right _ _, Nat.le_add_right _ _⟩⟩
/-- an exception is made and thrown -/
def fs_throw {α : Type} (c : String) : fs_T (α ⊕ String) := ⟨fun s => some (.inr c, (fs_m s, fs_k s, fs_c s, fs_n s + 1, fs_u s + 6)), fun s b t h => by
  cases h; exact ⟨Nat.le_add_right _ _, Nat.le_add_right _ _⟩⟩
def fs_chk (p : Prop) [Decidable p] : fs_T Unit := if p then fs_ret () else fs_fail
/-! what is read of a cell -/
def fs_fI (ci k : Nat) (e : fs_E) : Option Int32 := match e with
  | .inr (c, fs) => if c = ci then (match fs[k]? with
    | some (.int v) => some v
    | _ => none) else none
  | .inl _ => none
def fs_fJ (ci k : Nat) (e : fs_E) : Option Int64 := match e with
  | .inr (c, fs) => if c = ci then (match fs[k]? with
    | some (.long v) => some v
    | _ => none) else none
  | .inl _ => none
def fs_fR (ci k : Nat) (e : fs_E) : Option Nat := match e with
  | .inr (c, fs) => if c = ci then (match fs[k]? with
    | some (.ref v) => some v
    | _ => none) else none
  | .inl _ => none
def fs_fP (ci k : Nat) (v : Value) (e : fs_E) : Option fs_E := match e with
  | .inr (c, fs) => if c = ci ∧ k < fs.length then some (.inr (c, fs.set k v)) else none
  | .inl _ => none
/-- kinds of arrays: 0 int[], 1 long[], 2 boolean[], 3 Object[], 4 Slot[] -/
def fs_xI (t : Nat) (i : Int32) (e : fs_E) : Option Int32 := match e with
  | .inl (u, n, .inl f) => if u = t ∧ ¬ (i < 0 ∨ n ≤ i.toNatClampNeg) then some (f i.toNatClampNeg) else none
  | _ => none
def fs_xJ (t : Nat) (i : Int32) (e : fs_E) : Option Int64 := match e with
  | .inl (u, n, .inr (.inl f)) => if u = t ∧ ¬ (i < 0 ∨ n ≤ i.toNatClampNeg) then some (f i.toNatClampNeg) else none
  | _ => none
def fs_xR (i : Int32) (e : fs_E) : Option Nat := match e with
  | .inl (u, n, .inr (.inr (.inr (.inr f)))) => if ¬ (i < 0 ∨ n ≤ i.toNatClampNeg) then f i.toNatClampNeg else none
  | _ => none
def fs_xL (e : fs_E) : Option Int32 := match e with
  | .inl (t, n, _) => if t < 5 then some (Int32.ofNat n) else none
  | .inr _ => none
def fs_yI (t : Nat) (i v : Int32) (e : fs_E) : Option fs_E := match e with
  | .inl (u, n, .inl f) => if u = t ∧ ¬ (i < 0 ∨ n ≤ i.toNatClampNeg) then some (.inl (u, n, .inl (upd f i.toNatClampNeg v))) else none
  | _ => none
def fs_yJ (t : Nat) (i : Int32) (v : Int64) (e : fs_E) : Option fs_E := match e with
  | .inl (u, n, .inr (.inl f)) => if u = t ∧ ¬ (i < 0 ∨ n ≤ i.toNatClampNeg) then some (.inl (u, n, .inr (.inl (vp_updL f i.toNatClampNeg v)))) else none
  | _ => none
def fs_y0 (i : Int32) (e : fs_E) : Option fs_E := match e with
  | .inl (u, n, .inr (.inr (.inr (.inr f)))) => if ¬ (i < 0 ∨ n ≤ i.toNatClampNeg) then some (.inl (u, n, .inr (.inr (.inr (.inr (va_up f i.toNatClampNeg none)))))) else none
  | _ => none
/-! the instructions -/
def fs_gi (a ci k : Nat) : fs_T Int32 := fs_rd a (fs_fI ci k)
def fs_gj (a ci k : Nat) : fs_T Int64 := fs_rd a (fs_fJ ci k)
def fs_gr (a ci k : Nat) : fs_T Nat := fs_rd a (fs_fR ci k)
def fs_pi (a ci k : Nat) (v : Int32) : fs_T Unit := fs_wr a (fs_fP ci k (.int v))
def fs_pj (a ci k : Nat) (v : Int64) : fs_T Unit := fs_wr a (fs_fP ci k (.long v))
def fs_pr (a ci k : Nat) (v : Nat) : fs_T Unit := fs_wr a (fs_fP ci k (.ref v))
def fs_pz (a ci k : Nat) (v : Int32) : fs_T Unit := if v = 0 ∨ v = 1 then fs_wr a (fs_fP ci k (.int v)) else fs_fail
def fs_ai (a : Nat) (i : Int32) : fs_T Int32 := fs_rd a (fs_xI 0 i)
def fs_az (a : Nat) (i : Int32) : fs_T Int32 := fs_rd a (fs_xI 2 i)
def fs_aj (a : Nat) (i : Int32) : fs_T Int64 := fs_rd a (fs_xJ 1 i)
def fs_ar (a : Nat) (i : Int32) : fs_T Nat := fs_rd a (fs_xR i)
def fs_al (a : Nat) : fs_T Int32 := fs_rd a fs_xL
def fs_si (a : Nat) (i v : Int32) : fs_T Unit := fs_wr a (fs_yI 0 i v)
def fs_sz (a : Nat) (i v : Int32) : fs_T Unit := if v = 0 ∨ v = 1 then fs_wr a (fs_yI 2 i v) else fs_fail
def fs_sj (a : Nat) (i : Int32) (v : Int64) : fs_T Unit := fs_wr a (fs_yJ 1 i v)
/-- a reference is stored: into Object[] any object, into Slot[] a Slot -/
def fs_oc (e : fs_E) : Option Nat := match e with
  | .inr (c, _) => some c
  | .inl _ => none
def fs_yC (i : Int32) (c v : Nat) (e : fs_E) : Option fs_E := match e with
  | .inl (u, n, .inr (.inr (.inr (.inr f)))) => if (u = 3 ∨ u = 4 ∧ c = 3) ∧ ¬ (i < 0 ∨ n ≤ i.toNatClampNeg) then some (.inl (u, n, .inr (.inr (.inr (.inr (va_up f i.toNatClampNeg (some v))))))) else none
  | _ => none
def fs_sr (a : Nat) (i : Int32) (v : Nat) : fs_T Unit := fs_bind (fs_rd v fs_oc) fun c => fs_wr a (fs_yC i c v)
def fs_s0 (a : Nat) (i : Int32) : fs_T Unit := fs_wr a (fs_y0 i)
def fs_ni (n : Int32) : fs_T Nat := if ¬ n < 0 ∧ n.toNatClampNeg ≤ 65536 then fs_mk (.inl (0, n.toNatClampNeg, .inl fun _ => 0)) n.toNatClampNeg else fs_fail
def fs_nj (n : Int32) : fs_T Nat := if ¬ n < 0 ∧ n.toNatClampNeg ≤ 65536 then fs_mk (.inl (1, n.toNatClampNeg, .inr (.inl fun _ => 0))) n.toNatClampNeg else fs_fail
def fs_nz (n : Int32) : fs_T Nat := if ¬ n < 0 ∧ n.toNatClampNeg ≤ 65536 then fs_mk (.inl (2, n.toNatClampNeg, .inl fun _ => 0)) n.toNatClampNeg else fs_fail
def fs_nr (t : Nat) (n : Int32) : fs_T Nat := if ¬ n < 0 ∧ n.toNatClampNeg ≤ 65536 then fs_mk (.inl (t, n.toNatClampNeg, .inr (.inr (.inr (.inr fun _ => none))))) n.toNatClampNeg else fs_fail
def fs_ck (a ci : Nat) : fs_T Unit := fs_rd a fun e => match e with
  | .inr (c, _) => if c = ci then some () else none
  | .inl _ => none
def fs_gs (i : Nat) : fs_T Nat := ⟨fun s => some (fs_c s i, s), fun s b t h => by cases h; exact fs_le.rf s⟩
def fs_rem (x y : Int32) : fs_T Int32 := if y = 0 then fs_fail else fs_ret (x - x / y * y)
def fs_rz (v : Int32) : fs_T Int32 := if v = 0 ∨ v = 1 then fs_ret v else fs_fail
def fs_rzx (v : Int32) : fs_T (Int32 ⊕ String) := if v = 0 ∨ v = 1 then fs_ret (.inl v) else fs_fail
def fs_ushr (x y : Int32) : Int32 := (x.toUInt32 >>> (y.toUInt32 &&& Int32.toUInt32 31)).toInt32
def fs_lshl (x : Int64) (y : Int32) : Int64 := x <<< (y.toInt64 &&& 63)
def fs_dv (d : String) : Value := if d = "J" then .long 0 else if d = "I" ∨ d = "Z" then .int 0 else .null
/-- an object with its fields as they are made -/
def fs_nw (ci : Nat) (ds : List Value) : fs_T Nat := fs_mk (.inr (ci, ds)) ds.length
def fs_ca (a : Nat) : fs_T Unit := fs_rd a fun e => match e with
  | .inl (t, _) => if t = 3 then some () else none
  | .inr _ => none
def fs_ci (a : Nat) : fs_T Unit := fs_rd a fun e => match e with
  | .inl (t, _) => if t = 0 then some () else none
  | .inr _ => none
/-- the class object of an Object[] -/
def fs_gc (a : Nat) : fs_T Nat := fs_bind (fs_ca a) fun _ => fs_gs 2
/-- a copy of an int[] -/
def fs_xA (e : fs_E) : Option (Nat × (Nat → Int32)) := match e with
  | .inl (t, n, .inl f) => if t = 0 then some (n, f) else none
  | _ => none
def fs_cln (a : Nat) : fs_T Nat := fs_bind (fs_rd a fs_xA) fun q => fs_mk (.inl (0, q.1, .inl q.2)) q.1
/-- System.arraycopy between arrays of objects -/
def fs_xQ (e : fs_E) : Option (Nat × (Nat → Option Nat)) := match e with
  | .inl (t, n, .inr (.inr (.inr (.inr f)))) => if t = 3 then some (n, f) else none
  | _ => none
def fs_yQ (f : Nat → Option Nat) (sp dp n : Nat) (e : fs_E) : Option fs_E := match e with
  | .inl (t, k, .inr (.inr (.inr (.inr g)))) => if t = 3 ∧ dp + n ≤ k then some (.inl (t, k, .inr (.inr (.inr (.inr (va_cpy f g sp dp n)))))) else none
  | _ => none
/-- the copied places hold objects -/
def fs_oo (f : Nat → Option Nat) (sp n : Nat) : fs_T Unit := ⟨fun s => if (List.range n).all (fun i => match f (sp + i) with
    | none => true
    | some y => (match fs_lk s y with
      | some (.inr _) => true
      | _ => false)) = true then some ((), s) else none, fun s b t h => by
  dsimp only at h
  split at h
  · cases h; exact fs_le.rf s
  · cases h⟩
def fs_cp (a : Nat) (sp : Int32) (b : Nat) (dp n : Int32) : fs_T Unit := fs_bind (fs_rd a fs_xQ) fun q =>
  if ¬ sp < 0 ∧ ¬ dp < 0 ∧ ¬ n < 0 ∧ sp.toNatClampNeg + n.toNatClampNeg ≤ q.1 then
    fs_bind (fs_oo q.2 sp.toNatClampNeg n.toNatClampNeg) fun _ => fs_wr b (fs_yQ q.2 sp.toNatClampNeg dp.toNatClampNeg n.toNatClampNeg)
  else fs_fail
end
section
/-! the words that every method may lean on: those of the tables that stay true; the classes, by their fields -/
def fs_ws : List Cond := lw_tbl.filter goodWord
theorem fs_b1 {w : Cond} (h : w ∈ tables_1_1) : w ∈ lw_tbl := List.mem_append_right _ (show w ∈ tables_1 from List.mem_append_left _ (h))
theorem fs_t1 {w : Cond} (h : w ∈ tables_1_1) (g : goodWord w = true) : w ∈ fs_ws := List.mem_filter.mpr ⟨List.mem_append_right _ (show w ∈ tables_1 from List.mem_append_left _ (h)), g⟩
theorem fs_b2 {w : Cond} (h : w ∈ tables_1_2) : w ∈ lw_tbl := List.mem_append_right _ (show w ∈ tables_1 from List.mem_append_right _ (List.mem_append_left _ (h)))
theorem fs_t2 {w : Cond} (h : w ∈ tables_1_2) (g : goodWord w = true) : w ∈ fs_ws := List.mem_filter.mpr ⟨List.mem_append_right _ (show w ∈ tables_1 from List.mem_append_right _ (List.mem_append_left _ (h))), g⟩
theorem fs_b3 {w : Cond} (h : w ∈ tables_1_3) : w ∈ lw_tbl := List.mem_append_right _ (show w ∈ tables_1 from List.mem_append_right _ (List.mem_append_right _ (List.mem_append_left _ (h))))
theorem fs_t3 {w : Cond} (h : w ∈ tables_1_3) (g : goodWord w = true) : w ∈ fs_ws := List.mem_filter.mpr ⟨List.mem_append_right _ (show w ∈ tables_1 from List.mem_append_right _ (List.mem_append_right _ (List.mem_append_left _ (h)))), g⟩
theorem fs_b4 {w : Cond} (h : w ∈ tables_1_4) : w ∈ lw_tbl := List.mem_append_right _ (show w ∈ tables_1 from List.mem_append_right _ (List.mem_append_right _ (List.mem_append_right _ (List.mem_append_left _ (h)))))
theorem fs_t4 {w : Cond} (h : w ∈ tables_1_4) (g : goodWord w = true) : w ∈ fs_ws := List.mem_filter.mpr ⟨List.mem_append_right _ (show w ∈ tables_1 from List.mem_append_right _ (List.mem_append_right _ (List.mem_append_right _ (List.mem_append_left _ (h))))), g⟩
theorem fs_b5 {w : Cond} (h : w ∈ tables_1_5) : w ∈ lw_tbl := List.mem_append_right _ (show w ∈ tables_1 from List.mem_append_right _ (List.mem_append_right _ (List.mem_append_right _ (List.mem_append_right _ (List.mem_append_left _ (h))))))
theorem fs_t5 {w : Cond} (h : w ∈ tables_1_5) (g : goodWord w = true) : w ∈ fs_ws := List.mem_filter.mpr ⟨List.mem_append_right _ (show w ∈ tables_1 from List.mem_append_right _ (List.mem_append_right _ (List.mem_append_right _ (List.mem_append_right _ (List.mem_append_left _ (h)))))), g⟩
theorem fs_b6 {w : Cond} (h : w ∈ tables_1_6) : w ∈ lw_tbl := List.mem_append_right _ (show w ∈ tables_1 from List.mem_append_right _ (List.mem_append_right _ (List.mem_append_right _ (List.mem_append_right _ (List.mem_append_right _ (List.mem_append_left _ (h)))))))
theorem fs_t6 {w : Cond} (h : w ∈ tables_1_6) (g : goodWord w = true) : w ∈ fs_ws := List.mem_filter.mpr ⟨List.mem_append_right _ (show w ∈ tables_1 from List.mem_append_right _ (List.mem_append_right _ (List.mem_append_right _ (List.mem_append_right _ (List.mem_append_right _ (List.mem_append_left _ (h))))))), g⟩
theorem fs_b7 {w : Cond} (h : w ∈ tables_1_7) : w ∈ lw_tbl := List.mem_append_right _ (show w ∈ tables_1 from List.mem_append_right _ (List.mem_append_right _ (List.mem_append_right _ (List.mem_append_right _ (List.mem_append_right _ (List.mem_append_right _ (h)))))))
theorem fs_t7 {w : Cond} (h : w ∈ tables_1_7) (g : goodWord w = true) : w ∈ fs_ws := List.mem_filter.mpr ⟨List.mem_append_right _ (show w ∈ tables_1 from List.mem_append_right _ (List.mem_append_right _ (List.mem_append_right _ (List.mem_append_right _ (List.mem_append_right _ (List.mem_append_right _ (h))))))), g⟩
theorem fs_good {ws : List Cond} (h : ∀ w ∈ ws, w ∈ fs_ws) (c : Cond) (hc : c ∈ fs_ws) : GoodIn (c :: fs_ws) ws := fun w q => ⟨List.mem_cons_of_mem _ (h w q), good_of_word (List.mem_filter.mp (h w q)).2⟩
def fs_R0 : String := "FlowShelf"
def fs_T0 : u_T := fun k => match k with
  | 0 => ("FlowShelf", "first", "LFlowShelf$Exporter;", true)
  | 1 => ("FlowShelf", "second", "LFlowShelf$Exporter;", true)
  | 2 => ("FlowShelf", "reports", "Ljava/util/ArrayList;", true)
  | _ => ("FlowShelf", "collector", "LFlowShelf$Collector;", true)
def fs_Y0 : Nat → FieldType := fun k => match k with
  | 0 => .object "FlowShelf$Exporter"
  | 1 => .object "FlowShelf$Exporter"
  | 2 => .object "java/util/ArrayList"
  | _ => .object "FlowShelf$Collector"
theorem fs_nm0 : ∀ a, a < 4 → ∀ b, b < 4 → a ≠ b → (fs_T0 a).2.1 ≠ (fs_T0 b).2.1 := by decide +kernel
theorem fs_ty0 : ∀ k, k < 4 → parseFieldDescriptor (fs_T0 k).2.2.1 = some (fs_Y0 k) := by decide +kernel
theorem fs_l0 : ∀ k, k < 4 → u_lay fs_R0 fs_T0 k ∈ fs_ws := fun k hk => match k, hk with
  | 0, _ => fs_t2 (List.mem_of_getElem? (i := 11) rfl) rfl
  | 1, _ => fs_t2 (List.mem_of_getElem? (i := 13) rfl) rfl
  | 2, _ => fs_t2 (List.mem_of_getElem? (i := 15) rfl) rfl
  | 3, _ => fs_t2 (List.mem_of_getElem? (i := 17) rfl) rfl
  | q + 4, h => absurd h (by omega)
theorem fs_in0 : ∀ w ∈ u_ws fs_R0 fs_T0 4, w ∈ fs_ws := fun w h => by
  obtain ⟨k, hk, rfl⟩ := List.mem_map.mp h
  exact fs_l0 k (List.mem_range.mp hk)
def fs_d0 : List Value := [.null, .null, .null, .null]
def fs_R1 : String := "FlowShelf$Exporter"
def fs_T1 : u_T := fun k => match k with
  | 0 => ("FlowShelf$Exporter", "number", "I", true)
  | 1 => ("FlowShelf$Exporter", "cache", "Ljava/util/ArrayList;", true)
  | 2 => ("FlowShelf$Exporter", "endedFlows", "Ljava/util/ArrayList;", true)
  | 3 => ("FlowShelf$Exporter", "slots", "[LFlowShelf$Slot;", true)
  | 4 => ("FlowShelf$Exporter", "clock", "I", false)
  | 5 => ("FlowShelf$Exporter", "epoch", "I", false)
  | 6 => ("FlowShelf$Exporter", "sampleOf", "I", false)
  | 7 => ("FlowShelf$Exporter", "sampleCounter", "I", false)
  | 8 => ("FlowShelf$Exporter", "seals", "I", false)
  | 9 => ("FlowShelf$Exporter", "written", "I", false)
  | _ => ("FlowShelf$Exporter", "samplersWritten", "I", false)
def fs_Y1 : Nat → FieldType := fun k => match k with
  | 0 => .int
  | 1 => .object "java/util/ArrayList"
  | 2 => .object "java/util/ArrayList"
  | 3 => .array (.object "FlowShelf$Slot")
  | 4 => .int
  | 5 => .int
  | 6 => .int
  | 7 => .int
  | 8 => .int
  | 9 => .int
  | _ => .int
theorem fs_nm1 : ∀ a, a < 11 → ∀ b, b < 11 → a ≠ b → (fs_T1 a).2.1 ≠ (fs_T1 b).2.1 := by decide +kernel
theorem fs_ty1 : ∀ k, k < 11 → parseFieldDescriptor (fs_T1 k).2.2.1 = some (fs_Y1 k) := by decide +kernel
theorem fs_l1 : ∀ k, k < 11 → u_lay fs_R1 fs_T1 k ∈ fs_ws := fun k hk => match k, hk with
  | 0, _ => fs_t1 (List.mem_of_getElem? (i := 142) rfl) rfl
  | 1, _ => fs_t1 (List.mem_of_getElem? (i := 144) rfl) rfl
  | 2, _ => fs_t1 (List.mem_of_getElem? (i := 146) rfl) rfl
  | 3, _ => fs_t1 (List.mem_of_getElem? (i := 148) rfl) rfl
  | 4, _ => fs_t1 (List.mem_of_getElem? (i := 150) rfl) rfl
  | 5, _ => fs_t1 (List.mem_of_getElem? (i := 152) rfl) rfl
  | 6, _ => fs_t1 (List.mem_of_getElem? (i := 154) rfl) rfl
  | 7, _ => fs_t1 (List.mem_of_getElem? (i := 156) rfl) rfl
  | 8, _ => fs_t1 (List.mem_of_getElem? (i := 158) rfl) rfl
  | 9, _ => fs_t1 (List.mem_of_getElem? (i := 160) rfl) rfl
  | 10, _ => fs_t1 (List.mem_of_getElem? (i := 162) rfl) rfl
  | q + 11, h => absurd h (by omega)
theorem fs_in1 : ∀ w ∈ u_ws fs_R1 fs_T1 11, w ∈ fs_ws := fun w h => by
  obtain ⟨k, hk, rfl⟩ := List.mem_map.mp h
  exact fs_l1 k (List.mem_range.mp hk)
def fs_d1 : List Value := [.int 0, .null, .null, .null, .int 0, .int 0, .int 0, .int 0, .int 0, .int 0, .int 0]
def fs_R2 : String := "java/util/ArrayList"
def fs_T2 : u_T := fun k => match k with
  | 0 => ("java/util/ArrayList", "elementData", "[Ljava/lang/Object;", false)
  | 1 => ("java/util/ArrayList", "size", "I", false)
  | _ => ("java/util/AbstractList", "modCount", "I", false)
def fs_Y2 : Nat → FieldType := fun k => match k with
  | 0 => .array (.object "java/lang/Object")
  | 1 => .int
  | _ => .int
theorem fs_nm2 : ∀ a, a < 3 → ∀ b, b < 3 → a ≠ b → (fs_T2 a).2.1 ≠ (fs_T2 b).2.1 := by decide +kernel
theorem fs_ty2 : ∀ k, k < 3 → parseFieldDescriptor (fs_T2 k).2.2.1 = some (fs_Y2 k) := by decide +kernel
theorem fs_l2 : ∀ k, k < 3 → u_lay fs_R2 fs_T2 k ∈ fs_ws := fun k hk => match k, hk with
  | 0, _ => fs_t1 (List.mem_of_getElem? (i := 62) rfl) rfl
  | 1, _ => fs_t1 (List.mem_of_getElem? (i := 64) rfl) rfl
  | 2, _ => fs_t1 (List.mem_of_getElem? (i := 66) rfl) rfl
  | q + 3, h => absurd h (by omega)
theorem fs_in2 : ∀ w ∈ u_ws fs_R2 fs_T2 3, w ∈ fs_ws := fun w h => by
  obtain ⟨k, hk, rfl⟩ := List.mem_map.mp h
  exact fs_l2 k (List.mem_range.mp hk)
def fs_d2 : List Value := [.null, .int 0, .int 0]
def fs_R3 : String := "FlowShelf$Slot"
def fs_T3 : u_T := fun k => match k with
  | 0 => ("FlowShelf$Slot", "number", "I", true)
  | 1 => ("FlowShelf$Slot", "draft", "LFlowShelf$Layout;", false)
  | 2 => ("FlowShelf$Slot", "layout", "LFlowShelf$Layout;", false)
  | 3 => ("FlowShelf$Slot", "inForce", "Z", false)
  | 4 => ("FlowShelf$Slot", "revision", "I", false)
  | _ => ("FlowShelf$Slot", "sealedAt", "I", false)
def fs_Y3 : Nat → FieldType := fun k => match k with
  | 0 => .int
  | 1 => .object "FlowShelf$Layout"
  | 2 => .object "FlowShelf$Layout"
  | 3 => .boolean
  | 4 => .int
  | _ => .int
theorem fs_nm3 : ∀ a, a < 6 → ∀ b, b < 6 → a ≠ b → (fs_T3 a).2.1 ≠ (fs_T3 b).2.1 := by decide +kernel
theorem fs_ty3 : ∀ k, k < 6 → parseFieldDescriptor (fs_T3 k).2.2.1 = some (fs_Y3 k) := by decide +kernel
theorem fs_l3 : ∀ k, k < 6 → u_lay fs_R3 fs_T3 k ∈ fs_ws := fun k hk => match k, hk with
  | 0, _ => fs_t1 (List.mem_of_getElem? (i := 112) rfl) rfl
  | 1, _ => fs_t1 (List.mem_of_getElem? (i := 114) rfl) rfl
  | 2, _ => fs_t1 (List.mem_of_getElem? (i := 116) rfl) rfl
  | 3, _ => fs_t1 (List.mem_of_getElem? (i := 118) rfl) rfl
  | 4, _ => fs_t1 (List.mem_of_getElem? (i := 120) rfl) rfl
  | 5, _ => fs_t1 (List.mem_of_getElem? (i := 122) rfl) rfl
  | q + 6, h => absurd h (by omega)
theorem fs_in3 : ∀ w ∈ u_ws fs_R3 fs_T3 6, w ∈ fs_ws := fun w h => by
  obtain ⟨k, hk, rfl⟩ := List.mem_map.mp h
  exact fs_l3 k (List.mem_range.mp hk)
def fs_d3 : List Value := [.int 0, .null, .null, .int 0, .int 0, .int 0]
def fs_R4 : String := "FlowShelf$Layout"
def fs_T4 : u_T := fun k => match k with
  | 0 => ("FlowShelf$Layout", "fields", "[I", true)
  | 1 => ("FlowShelf$Layout", "lengths", "[I", true)
  | _ => ("FlowShelf$Layout", "used", "I", false)
def fs_Y4 : Nat → FieldType := fun k => match k with
  | 0 => .array .int
  | 1 => .array .int
  | _ => .int
theorem fs_nm4 : ∀ a, a < 3 → ∀ b, b < 3 → a ≠ b → (fs_T4 a).2.1 ≠ (fs_T4 b).2.1 := by decide +kernel
theorem fs_ty4 : ∀ k, k < 3 → parseFieldDescriptor (fs_T4 k).2.2.1 = some (fs_Y4 k) := by decide +kernel
theorem fs_l4 : ∀ k, k < 3 → u_lay fs_R4 fs_T4 k ∈ fs_ws := fun k hk => match k, hk with
  | 0, _ => fs_t1 (List.mem_of_getElem? (i := 90) rfl) rfl
  | 1, _ => fs_t1 (List.mem_of_getElem? (i := 92) rfl) rfl
  | 2, _ => fs_t1 (List.mem_of_getElem? (i := 94) rfl) rfl
  | q + 3, h => absurd h (by omega)
theorem fs_in4 : ∀ w ∈ u_ws fs_R4 fs_T4 3, w ∈ fs_ws := fun w h => by
  obtain ⟨k, hk, rfl⟩ := List.mem_map.mp h
  exact fs_l4 k (List.mem_range.mp hk)
def fs_d4 : List Value := [.null, .null, .int 0]
def fs_R5 : String := "FlowShelf$Collector"
def fs_T5 : u_T := fun k => match k with
  | 0 => ("FlowShelf$Collector", "known", "Ljava/util/ArrayList;", true)
  | 1 => ("FlowShelf$Collector", "shelf", "Ljava/util/ArrayList;", true)
  | 2 => ("FlowShelf$Collector", "table", "LFlowShelf$Table;", true)
  | 3 => ("FlowShelf$Collector", "ofFirst", "LFlowShelf$Ledger;", true)
  | _ => ("FlowShelf$Collector", "ofSecond", "LFlowShelf$Ledger;", true)
def fs_Y5 : Nat → FieldType := fun k => match k with
  | 0 => .object "java/util/ArrayList"
  | 1 => .object "java/util/ArrayList"
  | 2 => .object "FlowShelf$Table"
  | 3 => .object "FlowShelf$Ledger"
  | _ => .object "FlowShelf$Ledger"
theorem fs_nm5 : ∀ a, a < 5 → ∀ b, b < 5 → a ≠ b → (fs_T5 a).2.1 ≠ (fs_T5 b).2.1 := by decide +kernel
theorem fs_ty5 : ∀ k, k < 5 → parseFieldDescriptor (fs_T5 k).2.2.1 = some (fs_Y5 k) := by decide +kernel
theorem fs_l5 : ∀ k, k < 5 → u_lay fs_R5 fs_T5 k ∈ fs_ws := fun k hk => match k, hk with
  | 0, _ => fs_t1 (List.mem_of_getElem? (i := 236) rfl) rfl
  | 1, _ => fs_t1 (List.mem_of_getElem? (i := 238) rfl) rfl
  | 2, _ => fs_t2 (List.mem_of_getElem? (i := 0) rfl) rfl
  | 3, _ => fs_t2 (List.mem_of_getElem? (i := 2) rfl) rfl
  | 4, _ => fs_t2 (List.mem_of_getElem? (i := 4) rfl) rfl
  | q + 5, h => absurd h (by omega)
theorem fs_in5 : ∀ w ∈ u_ws fs_R5 fs_T5 5, w ∈ fs_ws := fun w h => by
  obtain ⟨k, hk, rfl⟩ := List.mem_map.mp h
  exact fs_l5 k (List.mem_range.mp hk)
def fs_d5 : List Value := [.null, .null, .null, .null, .null]
def fs_R6 : String := "FlowShelf$Table"
def fs_T6 : u_T := fun k => match k with
  | 0 => ("FlowShelf$Table", "list", "Ljava/util/ArrayList;", true)
  | 1 => ("FlowShelf$Table", "partner", "[I", true)
  | 2 => ("FlowShelf$Table", "order", "[I", true)
  | 3 => ("FlowShelf$Table", "ordered", "I", false)
  | _ => ("FlowShelf$Table", "pairedRows", "I", false)
def fs_Y6 : Nat → FieldType := fun k => match k with
  | 0 => .object "java/util/ArrayList"
  | 1 => .array .int
  | 2 => .array .int
  | 3 => .int
  | _ => .int
theorem fs_nm6 : ∀ a, a < 5 → ∀ b, b < 5 → a ≠ b → (fs_T6 a).2.1 ≠ (fs_T6 b).2.1 := by decide +kernel
theorem fs_ty6 : ∀ k, k < 5 → parseFieldDescriptor (fs_T6 k).2.2.1 = some (fs_Y6 k) := by decide +kernel
theorem fs_l6 : ∀ k, k < 5 → u_lay fs_R6 fs_T6 k ∈ fs_ws := fun k hk => match k, hk with
  | 0, _ => fs_t1 (List.mem_of_getElem? (i := 190) rfl) rfl
  | 1, _ => fs_t1 (List.mem_of_getElem? (i := 192) rfl) rfl
  | 2, _ => fs_t1 (List.mem_of_getElem? (i := 194) rfl) rfl
  | 3, _ => fs_t1 (List.mem_of_getElem? (i := 196) rfl) rfl
  | 4, _ => fs_t1 (List.mem_of_getElem? (i := 198) rfl) rfl
  | q + 5, h => absurd h (by omega)
theorem fs_in6 : ∀ w ∈ u_ws fs_R6 fs_T6 5, w ∈ fs_ws := fun w h => by
  obtain ⟨k, hk, rfl⟩ := List.mem_map.mp h
  exact fs_l6 k (List.mem_range.mp hk)
def fs_d6 : List Value := [.null, .null, .null, .int 0, .int 0]
def fs_R7 : String := "FlowShelf$Ledger"
def fs_T7 : u_T := fun k => match k with
  | 0 => ("FlowShelf$Ledger", "heard", "[Z", true)
  | 1 => ("FlowShelf$Ledger", "dropped", "I", false)
  | 2 => ("FlowShelf$Ledger", "spoilt", "I", false)
  | 3 => ("FlowShelf$Ledger", "notedSampler", "I", false)
  | 4 => ("FlowShelf$Ledger", "notedEpoch", "I", false)
  | _ => ("FlowShelf$Ledger", "notedBefore", "I", false)
def fs_Y7 : Nat → FieldType := fun k => match k with
  | 0 => .array .boolean
  | 1 => .int
  | 2 => .int
  | 3 => .int
  | 4 => .int
  | _ => .int
theorem fs_nm7 : ∀ a, a < 6 → ∀ b, b < 6 → a ≠ b → (fs_T7 a).2.1 ≠ (fs_T7 b).2.1 := by decide +kernel
theorem fs_ty7 : ∀ k, k < 6 → parseFieldDescriptor (fs_T7 k).2.2.1 = some (fs_Y7 k) := by decide +kernel
theorem fs_l7 : ∀ k, k < 6 → u_lay fs_R7 fs_T7 k ∈ fs_ws := fun k hk => match k, hk with
  | 0, _ => fs_t1 (List.mem_of_getElem? (i := 216) rfl) rfl
  | 1, _ => fs_t1 (List.mem_of_getElem? (i := 218) rfl) rfl
  | 2, _ => fs_t1 (List.mem_of_getElem? (i := 220) rfl) rfl
  | 3, _ => fs_t1 (List.mem_of_getElem? (i := 222) rfl) rfl
  | 4, _ => fs_t1 (List.mem_of_getElem? (i := 224) rfl) rfl
  | 5, _ => fs_t1 (List.mem_of_getElem? (i := 226) rfl) rfl
  | q + 6, h => absurd h (by omega)
theorem fs_in7 : ∀ w ∈ u_ws fs_R7 fs_T7 6, w ∈ fs_ws := fun w h => by
  obtain ⟨k, hk, rfl⟩ := List.mem_map.mp h
  exact fs_l7 k (List.mem_range.mp hk)
def fs_d7 : List Value := [.null, .int 0, .int 0, .int 0, .int 0, .int 0]
def fs_R8 : String := "FlowShelf$Flow"
def fs_T8 : u_T := fun k => match k with
  | 0 => ("FlowShelf$Flow", "source", "I", true)
  | 1 => ("FlowShelf$Flow", "target", "I", true)
  | 2 => ("FlowShelf$Flow", "service", "I", true)
  | 3 => ("FlowShelf$Flow", "began", "I", true)
  | 4 => ("FlowShelf$Flow", "bytes", "I", false)
  | 5 => ("FlowShelf$Flow", "packets", "I", false)
  | 6 => ("FlowShelf$Flow", "latest", "I", false)
  | 7 => ("FlowShelf$Flow", "endedAt", "I", false)
  | _ => ("FlowShelf$Flow", "reason", "I", false)
def fs_Y8 : Nat → FieldType := fun k => match k with
  | 0 => .int
  | 1 => .int
  | 2 => .int
  | 3 => .int
  | 4 => .int
  | 5 => .int
  | 6 => .int
  | 7 => .int
  | _ => .int
theorem fs_nm8 : ∀ a, a < 9 → ∀ b, b < 9 → a ≠ b → (fs_T8 a).2.1 ≠ (fs_T8 b).2.1 := by decide +kernel
theorem fs_ty8 : ∀ k, k < 9 → parseFieldDescriptor (fs_T8 k).2.2.1 = some (fs_Y8 k) := by decide +kernel
theorem fs_l8 : ∀ k, k < 9 → u_lay fs_R8 fs_T8 k ∈ fs_ws := fun k hk => match k, hk with
  | 0, _ => fs_t3 (List.mem_of_getElem? (i := 38) rfl) rfl
  | 1, _ => fs_t3 (List.mem_of_getElem? (i := 40) rfl) rfl
  | 2, _ => fs_t3 (List.mem_of_getElem? (i := 42) rfl) rfl
  | 3, _ => fs_t3 (List.mem_of_getElem? (i := 44) rfl) rfl
  | 4, _ => fs_t3 (List.mem_of_getElem? (i := 46) rfl) rfl
  | 5, _ => fs_t3 (List.mem_of_getElem? (i := 48) rfl) rfl
  | 6, _ => fs_t3 (List.mem_of_getElem? (i := 50) rfl) rfl
  | 7, _ => fs_t3 (List.mem_of_getElem? (i := 52) rfl) rfl
  | 8, _ => fs_t3 (List.mem_of_getElem? (i := 54) rfl) rfl
  | q + 9, h => absurd h (by omega)
theorem fs_in8 : ∀ w ∈ u_ws fs_R8 fs_T8 9, w ∈ fs_ws := fun w h => by
  obtain ⟨k, hk, rfl⟩ := List.mem_map.mp h
  exact fs_l8 k (List.mem_range.mp hk)
def fs_d8 : List Value := [.int 0, .int 0, .int 0, .int 0, .int 0, .int 0, .int 0, .int 0, .int 0]
def fs_R9 : String := "FlowShelf$Report"
def fs_T9 : u_T := fun k => match k with
  | 0 => ("FlowShelf$Report", "bytes", "[I", true)
  | _ => ("FlowShelf$Report", "used", "I", false)
def fs_Y9 : Nat → FieldType := fun k => match k with
  | 0 => .array .int
  | _ => .int
theorem fs_nm9 : ∀ a, a < 2 → ∀ b, b < 2 → a ≠ b → (fs_T9 a).2.1 ≠ (fs_T9 b).2.1 := by decide +kernel
theorem fs_ty9 : ∀ k, k < 2 → parseFieldDescriptor (fs_T9 k).2.2.1 = some (fs_Y9 k) := by decide +kernel
theorem fs_l9 : ∀ k, k < 2 → u_lay fs_R9 fs_T9 k ∈ fs_ws := fun k hk => match k, hk with
  | 0, _ => fs_t3 (List.mem_of_getElem? (i := 231) rfl) rfl
  | 1, _ => fs_t3 (List.mem_of_getElem? (i := 233) rfl) rfl
  | q + 2, h => absurd h (by omega)
theorem fs_in9 : ∀ w ∈ u_ws fs_R9 fs_T9 2, w ∈ fs_ws := fun w h => by
  obtain ⟨k, hk, rfl⟩ := List.mem_map.mp h
  exact fs_l9 k (List.mem_range.mp hk)
def fs_d9 : List Value := [.null, .int 0]
def fs_R10 : String := "FlowShelf$Cursor"
def fs_T10 : u_T := fun k => match k with
  | 0 => ("FlowShelf$Cursor", "records", "LFlowShelf$Report;", true)
  | 1 => ("FlowShelf$Cursor", "at", "I", false)
  | _ => ("FlowShelf$Cursor", "bad", "Z", false)
def fs_Y10 : Nat → FieldType := fun k => match k with
  | 0 => .object "FlowShelf$Report"
  | 1 => .int
  | _ => .boolean
theorem fs_nm10 : ∀ a, a < 3 → ∀ b, b < 3 → a ≠ b → (fs_T10 a).2.1 ≠ (fs_T10 b).2.1 := by decide +kernel
theorem fs_ty10 : ∀ k, k < 3 → parseFieldDescriptor (fs_T10 k).2.2.1 = some (fs_Y10 k) := by decide +kernel
theorem fs_l10 : ∀ k, k < 3 → u_lay fs_R10 fs_T10 k ∈ fs_ws := fun k hk => match k, hk with
  | 0, _ => fs_t4 (List.mem_of_getElem? (i := 232) rfl) rfl
  | 1, _ => fs_t4 (List.mem_of_getElem? (i := 234) rfl) rfl
  | 2, _ => fs_t4 (List.mem_of_getElem? (i := 236) rfl) rfl
  | q + 3, h => absurd h (by omega)
theorem fs_in10 : ∀ w ∈ u_ws fs_R10 fs_T10 3, w ∈ fs_ws := fun w h => by
  obtain ⟨k, hk, rfl⟩ := List.mem_map.mp h
  exact fs_l10 k (List.mem_range.mp hk)
def fs_d10 : List Value := [.null, .int 0, .int 0]
def fs_R11 : String := "FlowShelf$Row"
def fs_T11 : u_T := fun k => match k with
  | 0 => ("FlowShelf$Row", "exporter", "I", true)
  | _ => ("FlowShelf$Row", "values", "[J", true)
def fs_Y11 : Nat → FieldType := fun k => match k with
  | 0 => .int
  | _ => .array .long
theorem fs_nm11 : ∀ a, a < 2 → ∀ b, b < 2 → a ≠ b → (fs_T11 a).2.1 ≠ (fs_T11 b).2.1 := by decide +kernel
theorem fs_ty11 : ∀ k, k < 2 → parseFieldDescriptor (fs_T11 k).2.2.1 = some (fs_Y11 k) := by decide +kernel
theorem fs_l11 : ∀ k, k < 2 → u_lay fs_R11 fs_T11 k ∈ fs_ws := fun k hk => match k, hk with
  | 0, _ => fs_t5 (List.mem_of_getElem? (i := 35) rfl) rfl
  | 1, _ => fs_t5 (List.mem_of_getElem? (i := 37) rfl) rfl
  | q + 2, h => absurd h (by omega)
theorem fs_in11 : ∀ w ∈ u_ws fs_R11 fs_T11 2, w ∈ fs_ws := fun w h => by
  obtain ⟨k, hk, rfl⟩ := List.mem_map.mp h
  exact fs_l11 k (List.mem_range.mp hk)
def fs_d11 : List Value := [.int 0, .null]
def fs_R12 : String := "FlowShelfModel"
def fs_T12 : u_T := fun k => match k with
  | 0 => ("FlowShelfModel", "thrown", "I", false)
  | 1 => ("FlowShelfModel", "clock", "[I", false)
  | 2 => ("FlowShelfModel", "epoch", "[I", false)
  | 3 => ("FlowShelfModel", "every", "[I", false)
  | 4 => ("FlowShelfModel", "counter", "[I", false)
  | 5 => ("FlowShelfModel", "written", "[I", false)
  | 6 => ("FlowShelfModel", "told", "[I", false)
  | 7 => ("FlowShelfModel", "cached", "[I", false)
  | 8 => ("FlowShelfModel", "key", "[I", false)
  | 9 => ("FlowShelfModel", "bytes", "[I", false)
  | 10 => ("FlowShelfModel", "packets", "[I", false)
  | 11 => ("FlowShelfModel", "began", "[I", false)
  | 12 => ("FlowShelfModel", "latest", "[I", false)
  | 13 => ("FlowShelfModel", "endedMany", "[I", false)
  | 14 => ("FlowShelfModel", "endedFields", "[I", false)
  | 15 => ("FlowShelfModel", "draftMany", "[I", false)
  | 16 => ("FlowShelfModel", "draftField", "[I", false)
  | 17 => ("FlowShelfModel", "draftLength", "[I", false)
  | 18 => ("FlowShelfModel", "revisions", "[I", false)
  | 19 => ("FlowShelfModel", "inForce", "[I", false)
  | 20 => ("FlowShelfModel", "forceMany", "[I", false)
  | 21 => ("FlowShelfModel", "forceField", "[I", false)
  | 22 => ("FlowShelfModel", "forceLength", "[I", false)
  | 23 => ("FlowShelfModel", "sealedAt", "[I", false)
  | 24 => ("FlowShelfModel", "seals", "I", false)
  | 25 => ("FlowShelfModel", "reports", "I", false)
  | 26 => ("FlowShelfModel", "sizes", "[I", false)
  | 27 => ("FlowShelfModel", "texts", "[I", false)
  | 28 => ("FlowShelfModel", "knownMany", "I", false)
  | 29 => ("FlowShelfModel", "known", "[I", false)
  | 30 => ("FlowShelfModel", "knownFields", "[I", false)
  | 31 => ("FlowShelfModel", "knownField", "[I", false)
  | 32 => ("FlowShelfModel", "knownLength", "[I", false)
  | 33 => ("FlowShelfModel", "shelved", "I", false)
  | 34 => ("FlowShelfModel", "shelfSize", "[I", false)
  | 35 => ("FlowShelfModel", "shelf", "[I", false)
  | 36 => ("FlowShelfModel", "heard", "[Z", false)
  | 37 => ("FlowShelfModel", "rowMany", "I", false)
  | 38 => ("FlowShelfModel", "rowExporter", "[I", false)
  | 39 => ("FlowShelfModel", "values", "[J", false)
  | 40 => ("FlowShelfModel", "dropped", "[I", false)
  | 41 => ("FlowShelfModel", "spoilt", "[I", false)
  | 42 => ("FlowShelfModel", "noted", "[I", false)
  | 43 => ("FlowShelfModel", "notedEpoch", "[I", false)
  | 44 => ("FlowShelfModel", "notedCount", "[I", false)
  | 45 => ("FlowShelfModel", "length", "I", false)
  | 46 => ("FlowShelfModel", "b", "[I", false)
  | 47 => ("FlowShelfModel", "at", "I", false)
  | 48 => ("FlowShelfModel", "pair", "[I", false)
  | _ => ("FlowShelfModel", "done", "[Z", false)
def fs_Y12 : Nat → FieldType := fun k => match k with
  | 0 => .int
  | 1 => .array .int
  | 2 => .array .int
  | 3 => .array .int
  | 4 => .array .int
  | 5 => .array .int
  | 6 => .array .int
  | 7 => .array .int
  | 8 => .array .int
  | 9 => .array .int
  | 10 => .array .int
  | 11 => .array .int
  | 12 => .array .int
  | 13 => .array .int
  | 14 => .array .int
  | 15 => .array .int
  | 16 => .array .int
  | 17 => .array .int
  | 18 => .array .int
  | 19 => .array .int
  | 20 => .array .int
  | 21 => .array .int
  | 22 => .array .int
  | 23 => .array .int
  | 24 => .int
  | 25 => .int
  | 26 => .array .int
  | 27 => .array .int
  | 28 => .int
  | 29 => .array .int
  | 30 => .array .int
  | 31 => .array .int
  | 32 => .array .int
  | 33 => .int
  | 34 => .array .int
  | 35 => .array .int
  | 36 => .array .boolean
  | 37 => .int
  | 38 => .array .int
  | 39 => .array .long
  | 40 => .array .int
  | 41 => .array .int
  | 42 => .array .int
  | 43 => .array .int
  | 44 => .array .int
  | 45 => .int
  | 46 => .array .int
  | 47 => .int
  | 48 => .array .int
  | _ => .array .boolean
theorem fs_nm12 : ∀ a, a < 50 → ∀ b, b < 50 → a ≠ b → (fs_T12 a).2.1 ≠ (fs_T12 b).2.1 := by decide +kernel
theorem fs_ty12 : ∀ k, k < 50 → parseFieldDescriptor (fs_T12 k).2.2.1 = some (fs_Y12 k) := by decide +kernel
theorem fs_l12 : ∀ k, k < 50 → u_lay fs_R12 fs_T12 k ∈ fs_ws := fun k hk => match k, hk with
  | 0, _ => fs_t6 (List.mem_of_getElem? (i := 2) rfl) rfl
  | 1, _ => fs_t6 (List.mem_of_getElem? (i := 4) rfl) rfl
  | 2, _ => fs_t6 (List.mem_of_getElem? (i := 6) rfl) rfl
  | 3, _ => fs_t6 (List.mem_of_getElem? (i := 8) rfl) rfl
  | 4, _ => fs_t6 (List.mem_of_getElem? (i := 10) rfl) rfl
  | 5, _ => fs_t6 (List.mem_of_getElem? (i := 12) rfl) rfl
  | 6, _ => fs_t6 (List.mem_of_getElem? (i := 14) rfl) rfl
  | 7, _ => fs_t6 (List.mem_of_getElem? (i := 16) rfl) rfl
  | 8, _ => fs_t6 (List.mem_of_getElem? (i := 18) rfl) rfl
  | 9, _ => fs_t6 (List.mem_of_getElem? (i := 20) rfl) rfl
  | 10, _ => fs_t6 (List.mem_of_getElem? (i := 22) rfl) rfl
  | 11, _ => fs_t6 (List.mem_of_getElem? (i := 24) rfl) rfl
  | 12, _ => fs_t6 (List.mem_of_getElem? (i := 26) rfl) rfl
  | 13, _ => fs_t6 (List.mem_of_getElem? (i := 28) rfl) rfl
  | 14, _ => fs_t6 (List.mem_of_getElem? (i := 30) rfl) rfl
  | 15, _ => fs_t6 (List.mem_of_getElem? (i := 32) rfl) rfl
  | 16, _ => fs_t6 (List.mem_of_getElem? (i := 34) rfl) rfl
  | 17, _ => fs_t6 (List.mem_of_getElem? (i := 36) rfl) rfl
  | 18, _ => fs_t6 (List.mem_of_getElem? (i := 38) rfl) rfl
  | 19, _ => fs_t6 (List.mem_of_getElem? (i := 40) rfl) rfl
  | 20, _ => fs_t6 (List.mem_of_getElem? (i := 42) rfl) rfl
  | 21, _ => fs_t6 (List.mem_of_getElem? (i := 44) rfl) rfl
  | 22, _ => fs_t6 (List.mem_of_getElem? (i := 46) rfl) rfl
  | 23, _ => fs_t6 (List.mem_of_getElem? (i := 48) rfl) rfl
  | 24, _ => fs_t6 (List.mem_of_getElem? (i := 50) rfl) rfl
  | 25, _ => fs_t6 (List.mem_of_getElem? (i := 52) rfl) rfl
  | 26, _ => fs_t6 (List.mem_of_getElem? (i := 54) rfl) rfl
  | 27, _ => fs_t6 (List.mem_of_getElem? (i := 56) rfl) rfl
  | 28, _ => fs_t6 (List.mem_of_getElem? (i := 58) rfl) rfl
  | 29, _ => fs_t6 (List.mem_of_getElem? (i := 60) rfl) rfl
  | 30, _ => fs_t6 (List.mem_of_getElem? (i := 62) rfl) rfl
  | 31, _ => fs_t6 (List.mem_of_getElem? (i := 64) rfl) rfl
  | 32, _ => fs_t6 (List.mem_of_getElem? (i := 66) rfl) rfl
  | 33, _ => fs_t6 (List.mem_of_getElem? (i := 68) rfl) rfl
  | 34, _ => fs_t6 (List.mem_of_getElem? (i := 70) rfl) rfl
  | 35, _ => fs_t6 (List.mem_of_getElem? (i := 72) rfl) rfl
  | 36, _ => fs_t6 (List.mem_of_getElem? (i := 74) rfl) rfl
  | 37, _ => fs_t6 (List.mem_of_getElem? (i := 76) rfl) rfl
  | 38, _ => fs_t6 (List.mem_of_getElem? (i := 78) rfl) rfl
  | 39, _ => fs_t6 (List.mem_of_getElem? (i := 80) rfl) rfl
  | 40, _ => fs_t6 (List.mem_of_getElem? (i := 82) rfl) rfl
  | 41, _ => fs_t6 (List.mem_of_getElem? (i := 84) rfl) rfl
  | 42, _ => fs_t6 (List.mem_of_getElem? (i := 86) rfl) rfl
  | 43, _ => fs_t6 (List.mem_of_getElem? (i := 88) rfl) rfl
  | 44, _ => fs_t6 (List.mem_of_getElem? (i := 90) rfl) rfl
  | 45, _ => fs_t6 (List.mem_of_getElem? (i := 92) rfl) rfl
  | 46, _ => fs_t6 (List.mem_of_getElem? (i := 94) rfl) rfl
  | 47, _ => fs_t6 (List.mem_of_getElem? (i := 96) rfl) rfl
  | 48, _ => fs_t6 (List.mem_of_getElem? (i := 98) rfl) rfl
  | 49, _ => fs_t6 (List.mem_of_getElem? (i := 100) rfl) rfl
  | q + 50, h => absurd h (by omega)
theorem fs_in12 : ∀ w ∈ u_ws fs_R12 fs_T12 50, w ∈ fs_ws := fun w h => by
  obtain ⟨k, hk, rfl⟩ := List.mem_map.mp h
  exact fs_l12 k (List.mem_range.mp hk)
def fs_d12 : List Value := [.int 0, .null, .null, .null, .null, .null, .null, .null, .null, .null, .null, .null, .null, .null, .null, .null, .null, .null, .null, .null, .null, .null, .null, .null, .int 0, .int 0, .null, .null, .int 0, .null, .null, .null, .null, .int 0, .null, .null, .null, .int 0, .null, .null, .null, .null, .null, .null, .null, .int 0, .null, .int 0, .null, .null]
theorem fs_dv0 : ∀ j, j < 4 → defaultValue (fs_Y0 j) = vp_V fs_d0 j := fun j hj => match j, hj with
  | 0, _ => rfl
  | 1, _ => rfl
  | 2, _ => rfl
  | 3, _ => rfl
  | q + 4, h => absurd h (by omega)
theorem fs_dv1 : ∀ j, j < 11 → defaultValue (fs_Y1 j) = vp_V fs_d1 j := fun j hj => match j, hj with
  | 0, _ => rfl
  | 1, _ => rfl
  | 2, _ => rfl
  | 3, _ => rfl
  | 4, _ => rfl
  | 5, _ => rfl
  | 6, _ => rfl
  | 7, _ => rfl
  | 8, _ => rfl
  | 9, _ => rfl
  | 10, _ => rfl
  | q + 11, h => absurd h (by omega)
theorem fs_dv2 : ∀ j, j < 3 → defaultValue (fs_Y2 j) = vp_V fs_d2 j := fun j hj => match j, hj with
  | 0, _ => rfl
  | 1, _ => rfl
  | 2, _ => rfl
  | q + 3, h => absurd h (by omega)
theorem fs_dv3 : ∀ j, j < 6 → defaultValue (fs_Y3 j) = vp_V fs_d3 j := fun j hj => match j, hj with
  | 0, _ => rfl
  | 1, _ => rfl
  | 2, _ => rfl
  | 3, _ => rfl
  | 4, _ => rfl
  | 5, _ => rfl
  | q + 6, h => absurd h (by omega)
theorem fs_dv4 : ∀ j, j < 3 → defaultValue (fs_Y4 j) = vp_V fs_d4 j := fun j hj => match j, hj with
  | 0, _ => rfl
  | 1, _ => rfl
  | 2, _ => rfl
  | q + 3, h => absurd h (by omega)
theorem fs_dv5 : ∀ j, j < 5 → defaultValue (fs_Y5 j) = vp_V fs_d5 j := fun j hj => match j, hj with
  | 0, _ => rfl
  | 1, _ => rfl
  | 2, _ => rfl
  | 3, _ => rfl
  | 4, _ => rfl
  | q + 5, h => absurd h (by omega)
theorem fs_dv6 : ∀ j, j < 5 → defaultValue (fs_Y6 j) = vp_V fs_d6 j := fun j hj => match j, hj with
  | 0, _ => rfl
  | 1, _ => rfl
  | 2, _ => rfl
  | 3, _ => rfl
  | 4, _ => rfl
  | q + 5, h => absurd h (by omega)
theorem fs_dv7 : ∀ j, j < 6 → defaultValue (fs_Y7 j) = vp_V fs_d7 j := fun j hj => match j, hj with
  | 0, _ => rfl
  | 1, _ => rfl
  | 2, _ => rfl
  | 3, _ => rfl
  | 4, _ => rfl
  | 5, _ => rfl
  | q + 6, h => absurd h (by omega)
theorem fs_dv8 : ∀ j, j < 9 → defaultValue (fs_Y8 j) = vp_V fs_d8 j := fun j hj => match j, hj with
  | 0, _ => rfl
  | 1, _ => rfl
  | 2, _ => rfl
  | 3, _ => rfl
  | 4, _ => rfl
  | 5, _ => rfl
  | 6, _ => rfl
  | 7, _ => rfl
  | 8, _ => rfl
  | q + 9, h => absurd h (by omega)
theorem fs_dv9 : ∀ j, j < 2 → defaultValue (fs_Y9 j) = vp_V fs_d9 j := fun j hj => match j, hj with
  | 0, _ => rfl
  | 1, _ => rfl
  | q + 2, h => absurd h (by omega)
theorem fs_dv10 : ∀ j, j < 3 → defaultValue (fs_Y10 j) = vp_V fs_d10 j := fun j hj => match j, hj with
  | 0, _ => rfl
  | 1, _ => rfl
  | 2, _ => rfl
  | q + 3, h => absurd h (by omega)
theorem fs_dv11 : ∀ j, j < 2 → defaultValue (fs_Y11 j) = vp_V fs_d11 j := fun j hj => match j, hj with
  | 0, _ => rfl
  | 1, _ => rfl
  | q + 2, h => absurd h (by omega)
theorem fs_dv12 : ∀ j, j < 50 → defaultValue (fs_Y12 j) = vp_V fs_d12 j := fun j hj => match j, hj with
  | 0, _ => rfl
  | 1, _ => rfl
  | 2, _ => rfl
  | 3, _ => rfl
  | 4, _ => rfl
  | 5, _ => rfl
  | 6, _ => rfl
  | 7, _ => rfl
  | 8, _ => rfl
  | 9, _ => rfl
  | 10, _ => rfl
  | 11, _ => rfl
  | 12, _ => rfl
  | 13, _ => rfl
  | 14, _ => rfl
  | 15, _ => rfl
  | 16, _ => rfl
  | 17, _ => rfl
  | 18, _ => rfl
  | 19, _ => rfl
  | 20, _ => rfl
  | 21, _ => rfl
  | 22, _ => rfl
  | 23, _ => rfl
  | 24, _ => rfl
  | 25, _ => rfl
  | 26, _ => rfl
  | 27, _ => rfl
  | 28, _ => rfl
  | 29, _ => rfl
  | 30, _ => rfl
  | 31, _ => rfl
  | 32, _ => rfl
  | 33, _ => rfl
  | 34, _ => rfl
  | 35, _ => rfl
  | 36, _ => rfl
  | 37, _ => rfl
  | 38, _ => rfl
  | 39, _ => rfl
  | 40, _ => rfl
  | 41, _ => rfl
  | 42, _ => rfl
  | 43, _ => rfl
  | 44, _ => rfl
  | 45, _ => rfl
  | 46, _ => rfl
  | 47, _ => rfl
  | 48, _ => rfl
  | 49, _ => rfl
  | q + 50, h => absurd h (by omega)
abbrev fs_cl : List vw_C := [(fs_R0, fs_T0, 4), (fs_R1, fs_T1, 11), (fs_R2, fs_T2, 3), (fs_R3, fs_T3, 6), (fs_R4, fs_T4, 3), (fs_R5, fs_T5, 5), (fs_R6, fs_T6, 5), (fs_R7, fs_T7, 6), (fs_R8, fs_T8, 9), (fs_R9, fs_T9, 2), (fs_R10, fs_T10, 3), (fs_R11, fs_T11, 2), (fs_R12, fs_T12, 50)]
end
section
/-! the words, by their places -/
theorem tw_1_0 : (Cond.initialized "FlowShelfLaw") ∈ fs_ws := fs_t1 (List.mem_of_getElem? (i := 0) rfl) rfl
theorem tw_1_1 : (Cond.initialized "FlowShelf") ∈ fs_ws := fs_t1 (List.mem_of_getElem? (i := 1) rfl) rfl
theorem tw_1_2 : (Cond.initialized "FlowShelf$Exporter") ∈ fs_ws := fs_t1 (List.mem_of_getElem? (i := 2) rfl) rfl
theorem tw_1_3 : (Cond.initialized "java/util/AbstractCollection") ∈ fs_ws := fs_t1 (List.mem_of_getElem? (i := 3) rfl) rfl
theorem tw_1_4 : (Cond.initialized "java/util/AbstractList") ∈ fs_ws := fs_t1 (List.mem_of_getElem? (i := 4) rfl) rfl
theorem tw_1_5 : (Cond.initialized "java/util/ArrayList") ∈ fs_ws := fs_t1 (List.mem_of_getElem? (i := 5) rfl) rfl
theorem tw_1_6 : (Cond.initialized "FlowShelf$Slot") ∈ fs_ws := fs_t1 (List.mem_of_getElem? (i := 6) rfl) rfl
theorem tw_1_7 : (Cond.initialized "FlowShelf$Layout") ∈ fs_ws := fs_t1 (List.mem_of_getElem? (i := 7) rfl) rfl
theorem tw_1_8 : (Cond.initialized "FlowShelf$Collector") ∈ fs_ws := fs_t1 (List.mem_of_getElem? (i := 8) rfl) rfl
theorem tw_1_9 : (Cond.initialized "FlowShelf$Table") ∈ fs_ws := fs_t1 (List.mem_of_getElem? (i := 9) rfl) rfl
theorem tw_1_10 : (Cond.initialized "FlowShelf$Ledger") ∈ fs_ws := fs_t1 (List.mem_of_getElem? (i := 10) rfl) rfl
theorem tw_1_11 : (Cond.initialized "FlowShelfModel") ∈ fs_ws := fs_t1 (List.mem_of_getElem? (i := 11) rfl) rfl
theorem tw_1_12 : (Cond.initialized "java/lang/Throwable") ∈ fs_ws := fs_t1 (List.mem_of_getElem? (i := 12) rfl) rfl
theorem tw_1_13 : (Cond.initialized "java/lang/Exception") ∈ fs_ws := fs_t1 (List.mem_of_getElem? (i := 13) rfl) rfl
theorem tw_1_14 : (Cond.initialized "java/lang/RuntimeException") ∈ fs_ws := fs_t1 (List.mem_of_getElem? (i := 14) rfl) rfl
theorem tw_1_15 : (Cond.initialized "java/lang/IllegalArgumentException") ∈ fs_ws := fs_t1 (List.mem_of_getElem? (i := 15) rfl) rfl
theorem tw_1_16 : (Cond.initialized "java/lang/IllegalStateException") ∈ fs_ws := fs_t1 (List.mem_of_getElem? (i := 16) rfl) rfl
theorem tw_1_17 : (Cond.initialized "java/util/Objects") ∈ fs_ws := fs_t1 (List.mem_of_getElem? (i := 17) rfl) rfl
theorem tw_1_18 : (Cond.initialized "jdk/internal/util/Preconditions") ∈ fs_ws := fs_t1 (List.mem_of_getElem? (i := 18) rfl) rfl
theorem tw_1_19 : (Cond.initialized "java/lang/System") ∈ fs_ws := fs_t1 (List.mem_of_getElem? (i := 19) rfl) rfl
theorem tw_1_20 : (Cond.initialized "jdk/internal/util/ArraysSupport") ∈ fs_ws := fs_t1 (List.mem_of_getElem? (i := 20) rfl) rfl
theorem tw_1_21 : (Cond.initialized "java/lang/Math") ∈ fs_ws := fs_t1 (List.mem_of_getElem? (i := 21) rfl) rfl
theorem tw_1_22 : (Cond.initialized "java/util/Arrays") ∈ fs_ws := fs_t1 (List.mem_of_getElem? (i := 22) rfl) rfl
theorem tw_1_23 : (Cond.initialized "FlowShelf$Flow") ∈ fs_ws := fs_t1 (List.mem_of_getElem? (i := 23) rfl) rfl
theorem tw_1_24 : (Cond.initialized "java/lang/IndexOutOfBoundsException") ∈ fs_ws := fs_t1 (List.mem_of_getElem? (i := 24) rfl) rfl
theorem tw_1_25 : (Cond.initialized "FlowShelf$Report") ∈ fs_ws := fs_t1 (List.mem_of_getElem? (i := 25) rfl) rfl
theorem tw_1_26 : (Cond.initialized "java/lang/UnsupportedOperationException") ∈ fs_ws := fs_t1 (List.mem_of_getElem? (i := 26) rfl) rfl
theorem tw_1_27 : (Cond.initialized "FlowShelf$Cursor") ∈ fs_ws := fs_t1 (List.mem_of_getElem? (i := 27) rfl) rfl
theorem tw_1_28 : (Cond.initialized "FlowShelf$Row") ∈ fs_ws := fs_t1 (List.mem_of_getElem? (i := 28) rfl) rfl
theorem tw_1_29 : (Cond.classLink "FlowShelfLaw" 8 "FlowShelf") ∈ fs_ws := fs_t1 (List.mem_of_getElem? (i := 29) rfl) rfl
theorem tw_1_30 : (Cond.instantiable "FlowShelf" 4) ∈ fs_ws := fs_t1 (List.mem_of_getElem? (i := 30) rfl) rfl
theorem tw_1_31 : (Cond.methodLink "FlowShelfLaw" 83 ⟨"FlowShelf", "<init>", "()V"⟩) ∈ fs_ws := fs_t1 (List.mem_of_getElem? (i := 31) rfl) rfl
theorem tw_1_32 : (Cond.instanceMethod ⟨"FlowShelf", "<init>", "()V"⟩) ∈ fs_ws := fs_t1 (List.mem_of_getElem? (i := 32) rfl) rfl
theorem tw_1_33 : (Cond.code ⟨"FlowShelf", "<init>", "()V"⟩ prog_1_method_1_code 1 (Option.none : Option FieldType)) ∈ fs_ws := fs_t1 (List.mem_of_getElem? (i := 33) rfl) rfl
theorem tw_1_34 : (Cond.methodLink "FlowShelf" 1 ⟨"java/lang/Object", "<init>", "()V"⟩) ∈ fs_ws := fs_t1 (List.mem_of_getElem? (i := 34) rfl) rfl
theorem tw_1_35 : (Cond.instanceMethod ⟨"java/lang/Object", "<init>", "()V"⟩) ∈ fs_ws := fs_t1 (List.mem_of_getElem? (i := 35) rfl) rfl
theorem tw_1_36 : (Cond.code ⟨"java/lang/Object", "<init>", "()V"⟩ object_method_1_code 1 (Option.none : Option FieldType)) ∈ fs_ws := fs_t1 (List.mem_of_getElem? (i := 36) rfl) rfl
theorem tw_1_37 : (Cond.classLink "FlowShelf" 7 "FlowShelf$Exporter") ∈ fs_ws := fs_t1 (List.mem_of_getElem? (i := 37) rfl) rfl
theorem tw_1_38 : (Cond.instantiable "FlowShelf$Exporter" 11) ∈ fs_ws := fs_t1 (List.mem_of_getElem? (i := 38) rfl) rfl
theorem tw_1_39 : (Cond.methodLink "FlowShelf" 9 ⟨"FlowShelf$Exporter", "<init>", "(I)V"⟩) ∈ fs_ws := fs_t1 (List.mem_of_getElem? (i := 39) rfl) rfl
theorem tw_1_40 : (Cond.instanceMethod ⟨"FlowShelf$Exporter", "<init>", "(I)V"⟩) ∈ fs_ws := fs_t1 (List.mem_of_getElem? (i := 40) rfl) rfl
theorem tw_1_41 : (Cond.code ⟨"FlowShelf$Exporter", "<init>", "(I)V"⟩ prog_4_method_1_code 3 (Option.none : Option FieldType)) ∈ fs_ws := fs_t1 (List.mem_of_getElem? (i := 41) rfl) rfl
theorem tw_1_42 : (Cond.methodLink "FlowShelf$Exporter" 3 ⟨"java/lang/Object", "<init>", "()V"⟩) ∈ fs_ws := fs_t1 (List.mem_of_getElem? (i := 42) rfl) rfl
theorem tw_1_43 : (Cond.classLink "FlowShelf$Exporter" 9 "java/util/ArrayList") ∈ fs_ws := fs_t1 (List.mem_of_getElem? (i := 43) rfl) rfl
theorem tw_1_44 : (Cond.instantiable "java/util/ArrayList" 3) ∈ fs_ws := fs_t1 (List.mem_of_getElem? (i := 44) rfl) rfl
theorem tw_1_45 : (Cond.methodLink "FlowShelf$Exporter" 11 ⟨"java/util/ArrayList", "<init>", "()V"⟩) ∈ fs_ws := fs_t1 (List.mem_of_getElem? (i := 45) rfl) rfl
theorem tw_1_46 : (Cond.instanceMethod ⟨"java/util/ArrayList", "<init>", "()V"⟩) ∈ fs_ws := fs_t1 (List.mem_of_getElem? (i := 46) rfl) rfl
theorem tw_1_47 : (Cond.code ⟨"java/util/ArrayList", "<init>", "()V"⟩ prog_29_method_2_code 1 (Option.none : Option FieldType)) ∈ fs_ws := fs_t1 (List.mem_of_getElem? (i := 47) rfl) rfl
theorem tw_1_48 : (Cond.methodLink "java/util/ArrayList" 1 ⟨"java/util/AbstractList", "<init>", "()V"⟩) ∈ fs_ws := fs_t1 (List.mem_of_getElem? (i := 48) rfl) rfl
theorem tw_1_49 : (Cond.instanceMethod ⟨"java/util/AbstractList", "<init>", "()V"⟩) ∈ fs_ws := fs_t1 (List.mem_of_getElem? (i := 49) rfl) rfl
theorem tw_1_50 : (Cond.code ⟨"java/util/AbstractList", "<init>", "()V"⟩ prog_28_method_1_code 1 (Option.none : Option FieldType)) ∈ fs_ws := fs_t1 (List.mem_of_getElem? (i := 50) rfl) rfl
theorem tw_1_51 : (Cond.methodLink "java/util/AbstractList" 1 ⟨"java/util/AbstractCollection", "<init>", "()V"⟩) ∈ fs_ws := fs_t1 (List.mem_of_getElem? (i := 51) rfl) rfl
theorem tw_1_52 : (Cond.instanceMethod ⟨"java/util/AbstractCollection", "<init>", "()V"⟩) ∈ fs_ws := fs_t1 (List.mem_of_getElem? (i := 52) rfl) rfl
theorem tw_1_53 : (Cond.code ⟨"java/util/AbstractCollection", "<init>", "()V"⟩ prog_27_method_1_code 1 (Option.none : Option FieldType)) ∈ fs_ws := fs_t1 (List.mem_of_getElem? (i := 53) rfl) rfl
theorem tw_1_54 : (Cond.methodLink "java/util/AbstractCollection" 1 ⟨"java/lang/Object", "<init>", "()V"⟩) ∈ fs_ws := fs_t1 (List.mem_of_getElem? (i := 54) rfl) rfl
theorem tw_1_55 : (Cond.fieldLink "java/util/ArrayList" 39 "java/util/ArrayList" "DEFAULTCAPACITY_EMPTY_ELEMENTDATA" "[Ljava/lang/Object;") ∈ fs_ws := fs_t1 (List.mem_of_getElem? (i := 55) rfl) rfl
theorem tw_1_57 : (Cond.fieldLink "java/util/ArrayList" 9 "java/util/ArrayList" "elementData" "[Ljava/lang/Object;") ∈ fs_ws := fs_t1 (List.mem_of_getElem? (i := 57) rfl) rfl
theorem tw_1_58 : (Cond.fieldLink "java/util/ArrayList" 48 "java/util/ArrayList" "size" "I") ∈ fs_ws := fs_t1 (List.mem_of_getElem? (i := 58) rfl) rfl
theorem tw_1_59 : (Cond.fieldLink "java/util/AbstractList" 7 "java/util/AbstractList" "modCount" "I") ∈ fs_ws := fs_t1 (List.mem_of_getElem? (i := 59) rfl) rfl
theorem tw_1_60 : (Cond.fieldLink "java/util/ArrayList" 63 "java/util/ArrayList" "modCount" "I") ∈ fs_ws := fs_t1 (List.mem_of_getElem? (i := 60) rfl) rfl
theorem tw_1_61 : (Cond.sameField "java/util/ArrayList" "java/util/AbstractList" "modCount" "I") ∈ fs_ws := fs_t1 (List.mem_of_getElem? (i := 61) rfl) rfl
theorem tw_1_69 : (Cond.classLink "FlowShelf$Exporter" 21 "FlowShelf$Slot") ∈ fs_ws := fs_t1 (List.mem_of_getElem? (i := 69) rfl) rfl
theorem tw_1_71 : (Cond.instantiable "FlowShelf$Slot" 6) ∈ fs_ws := fs_t1 (List.mem_of_getElem? (i := 71) rfl) rfl
theorem tw_1_72 : (Cond.methodLink "FlowShelf$Exporter" 34 ⟨"FlowShelf$Slot", "<init>", "(I)V"⟩) ∈ fs_ws := fs_t1 (List.mem_of_getElem? (i := 72) rfl) rfl
theorem tw_1_73 : (Cond.instanceMethod ⟨"FlowShelf$Slot", "<init>", "(I)V"⟩) ∈ fs_ws := fs_t1 (List.mem_of_getElem? (i := 73) rfl) rfl
theorem tw_1_74 : (Cond.code ⟨"FlowShelf$Slot", "<init>", "(I)V"⟩ prog_10_method_1_code 2 (Option.none : Option FieldType)) ∈ fs_ws := fs_t1 (List.mem_of_getElem? (i := 74) rfl) rfl
theorem tw_1_75 : (Cond.methodLink "FlowShelf$Slot" 1 ⟨"java/lang/Object", "<init>", "()V"⟩) ∈ fs_ws := fs_t1 (List.mem_of_getElem? (i := 75) rfl) rfl
theorem tw_1_76 : (Cond.classLink "FlowShelf$Slot" 7 "FlowShelf$Layout") ∈ fs_ws := fs_t1 (List.mem_of_getElem? (i := 76) rfl) rfl
theorem tw_1_77 : (Cond.instantiable "FlowShelf$Layout" 3) ∈ fs_ws := fs_t1 (List.mem_of_getElem? (i := 77) rfl) rfl
theorem tw_1_79 : (Cond.instanceMethod ⟨"FlowShelf$Layout", "<init>", "()V"⟩) ∈ fs_ws := fs_t1 (List.mem_of_getElem? (i := 79) rfl) rfl
theorem tw_1_80 : (Cond.code ⟨"FlowShelf$Layout", "<init>", "()V"⟩ prog_6_method_1_code 1 (Option.none : Option FieldType)) ∈ fs_ws := fs_t1 (List.mem_of_getElem? (i := 80) rfl) rfl
theorem tw_1_81 : (Cond.methodLink "FlowShelf$Layout" 3 ⟨"java/lang/Object", "<init>", "()V"⟩) ∈ fs_ws := fs_t1 (List.mem_of_getElem? (i := 81) rfl) rfl
theorem tw_1_82 : (Cond.fieldLink "FlowShelf$Layout" 9 "FlowShelf$Layout" "fields" "[I") ∈ fs_ws := fs_t1 (List.mem_of_getElem? (i := 82) rfl) rfl
theorem tw_1_83 : (Cond.fieldLink "FlowShelf$Exporter" 143 "FlowShelf$Layout" "fields" "[I") ∈ fs_ws := fs_t1 (List.mem_of_getElem? (i := 83) rfl) rfl
theorem tw_1_84 : (Cond.fieldLink "FlowShelf$Layout" 15 "FlowShelf$Layout" "lengths" "[I") ∈ fs_ws := fs_t1 (List.mem_of_getElem? (i := 84) rfl) rfl
theorem tw_1_85 : (Cond.fieldLink "FlowShelf$Exporter" 147 "FlowShelf$Layout" "lengths" "[I") ∈ fs_ws := fs_t1 (List.mem_of_getElem? (i := 85) rfl) rfl
theorem tw_1_86 : (Cond.fieldLink "FlowShelf$Layout" 18 "FlowShelf$Layout" "used" "I") ∈ fs_ws := fs_t1 (List.mem_of_getElem? (i := 86) rfl) rfl
theorem tw_1_87 : (Cond.fieldLink "FlowShelf$Slot" 23 "FlowShelf$Layout" "used" "I") ∈ fs_ws := fs_t1 (List.mem_of_getElem? (i := 87) rfl) rfl
theorem tw_1_88 : (Cond.fieldLink "FlowShelf" 135 "FlowShelf$Layout" "used" "I") ∈ fs_ws := fs_t1 (List.mem_of_getElem? (i := 88) rfl) rfl
theorem tw_1_89 : (Cond.fieldLink "FlowShelf$Exporter" 138 "FlowShelf$Layout" "used" "I") ∈ fs_ws := fs_t1 (List.mem_of_getElem? (i := 89) rfl) rfl
theorem tw_1_97 : (Cond.arrayClass FieldType.int) ∈ fs_ws := fs_t1 (List.mem_of_getElem? (i := 97) rfl) rfl
theorem tw_1_98 : (Cond.fieldLink "FlowShelf$Slot" 19 "FlowShelf$Slot" "number" "I") ∈ fs_ws := fs_t1 (List.mem_of_getElem? (i := 98) rfl) rfl
theorem tw_1_99 : (Cond.fieldLink "FlowShelf$Exporter" 127 "FlowShelf$Slot" "number" "I") ∈ fs_ws := fs_t1 (List.mem_of_getElem? (i := 99) rfl) rfl
theorem tw_1_100 : (Cond.fieldLink "FlowShelf$Slot" 10 "FlowShelf$Slot" "draft" "LFlowShelf$Layout;") ∈ fs_ws := fs_t1 (List.mem_of_getElem? (i := 100) rfl) rfl
theorem tw_1_101 : (Cond.fieldLink "FlowShelf" 118 "FlowShelf$Slot" "draft" "LFlowShelf$Layout;") ∈ fs_ws := fs_t1 (List.mem_of_getElem? (i := 101) rfl) rfl
theorem tw_1_102 : (Cond.fieldLink "FlowShelf$Slot" 16 "FlowShelf$Slot" "layout" "LFlowShelf$Layout;") ∈ fs_ws := fs_t1 (List.mem_of_getElem? (i := 102) rfl) rfl
theorem tw_1_103 : (Cond.fieldLink "FlowShelf$Exporter" 134 "FlowShelf$Slot" "layout" "LFlowShelf$Layout;") ∈ fs_ws := fs_t1 (List.mem_of_getElem? (i := 103) rfl) rfl
theorem tw_1_104 : (Cond.fieldLink "FlowShelf$Slot" 26 "FlowShelf$Slot" "inForce" "Z") ∈ fs_ws := fs_t1 (List.mem_of_getElem? (i := 104) rfl) rfl
theorem tw_1_105 : (Cond.fieldLink "FlowShelf" 139 "FlowShelf$Slot" "inForce" "Z") ∈ fs_ws := fs_t1 (List.mem_of_getElem? (i := 105) rfl) rfl
theorem tw_1_106 : (Cond.fieldLink "FlowShelf$Exporter" 97 "FlowShelf$Slot" "inForce" "Z") ∈ fs_ws := fs_t1 (List.mem_of_getElem? (i := 106) rfl) rfl
theorem tw_1_107 : (Cond.fieldLink "FlowShelf$Slot" 30 "FlowShelf$Slot" "revision" "I") ∈ fs_ws := fs_t1 (List.mem_of_getElem? (i := 107) rfl) rfl
theorem tw_1_108 : (Cond.fieldLink "FlowShelf" 151 "FlowShelf$Slot" "revision" "I") ∈ fs_ws := fs_t1 (List.mem_of_getElem? (i := 108) rfl) rfl
theorem tw_1_109 : (Cond.fieldLink "FlowShelf$Exporter" 131 "FlowShelf$Slot" "revision" "I") ∈ fs_ws := fs_t1 (List.mem_of_getElem? (i := 109) rfl) rfl
theorem tw_1_110 : (Cond.fieldLink "FlowShelf$Slot" 33 "FlowShelf$Slot" "sealedAt" "I") ∈ fs_ws := fs_t1 (List.mem_of_getElem? (i := 110) rfl) rfl
theorem tw_1_111 : (Cond.fieldLink "FlowShelf$Exporter" 101 "FlowShelf$Slot" "sealedAt" "I") ∈ fs_ws := fs_t1 (List.mem_of_getElem? (i := 111) rfl) rfl
theorem tw_1_125 : (Cond.fieldLink "FlowShelf$Exporter" 31 "FlowShelf$Exporter" "number" "I") ∈ fs_ws := fs_t1 (List.mem_of_getElem? (i := 125) rfl) rfl
theorem tw_1_126 : (Cond.fieldLink "FlowShelf$Exporter" 12 "FlowShelf$Exporter" "cache" "Ljava/util/ArrayList;") ∈ fs_ws := fs_t1 (List.mem_of_getElem? (i := 126) rfl) rfl
theorem tw_1_127 : (Cond.fieldLink "FlowShelf" 284 "FlowShelf$Exporter" "cache" "Ljava/util/ArrayList;") ∈ fs_ws := fs_t1 (List.mem_of_getElem? (i := 127) rfl) rfl
theorem tw_1_128 : (Cond.fieldLink "FlowShelf$Exporter" 18 "FlowShelf$Exporter" "endedFlows" "Ljava/util/ArrayList;") ∈ fs_ws := fs_t1 (List.mem_of_getElem? (i := 128) rfl) rfl
theorem tw_1_129 : (Cond.fieldLink "FlowShelf" 85 "FlowShelf$Exporter" "endedFlows" "Ljava/util/ArrayList;") ∈ fs_ws := fs_t1 (List.mem_of_getElem? (i := 129) rfl) rfl
theorem tw_1_130 : (Cond.fieldLink "FlowShelf$Exporter" 23 "FlowShelf$Exporter" "slots" "[LFlowShelf$Slot;") ∈ fs_ws := fs_t1 (List.mem_of_getElem? (i := 130) rfl) rfl
theorem tw_1_131 : (Cond.fieldLink "FlowShelf" 188 "FlowShelf$Exporter" "slots" "[LFlowShelf$Slot;") ∈ fs_ws := fs_t1 (List.mem_of_getElem? (i := 131) rfl) rfl
theorem tw_1_132 : (Cond.fieldLink "FlowShelf$Exporter" 57 "FlowShelf$Exporter" "clock" "I") ∈ fs_ws := fs_t1 (List.mem_of_getElem? (i := 132) rfl) rfl
theorem tw_1_133 : (Cond.fieldLink "FlowShelf" 281 "FlowShelf$Exporter" "clock" "I") ∈ fs_ws := fs_t1 (List.mem_of_getElem? (i := 133) rfl) rfl
theorem tw_1_134 : (Cond.fieldLink "FlowShelf" 156 "FlowShelf$Exporter" "epoch" "I") ∈ fs_ws := fs_t1 (List.mem_of_getElem? (i := 134) rfl) rfl
theorem tw_1_135 : (Cond.fieldLink "FlowShelf$Exporter" 104 "FlowShelf$Exporter" "epoch" "I") ∈ fs_ws := fs_t1 (List.mem_of_getElem? (i := 135) rfl) rfl
theorem tw_1_136 : (Cond.fieldLink "FlowShelf$Exporter" 27 "FlowShelf$Exporter" "sampleOf" "I") ∈ fs_ws := fs_t1 (List.mem_of_getElem? (i := 136) rfl) rfl
theorem tw_1_137 : (Cond.fieldLink "FlowShelf$Exporter" 41 "FlowShelf$Exporter" "sampleCounter" "I") ∈ fs_ws := fs_t1 (List.mem_of_getElem? (i := 137) rfl) rfl
theorem tw_1_138 : (Cond.fieldLink "FlowShelf$Exporter" 94 "FlowShelf$Exporter" "seals" "I") ∈ fs_ws := fs_t1 (List.mem_of_getElem? (i := 138) rfl) rfl
theorem tw_1_139 : (Cond.fieldLink "FlowShelf" 183 "FlowShelf$Exporter" "written" "I") ∈ fs_ws := fs_t1 (List.mem_of_getElem? (i := 139) rfl) rfl
theorem tw_1_140 : (Cond.fieldLink "FlowShelf$Exporter" 116 "FlowShelf$Exporter" "written" "I") ∈ fs_ws := fs_t1 (List.mem_of_getElem? (i := 140) rfl) rfl
theorem tw_1_141 : (Cond.fieldLink "FlowShelf$Exporter" 119 "FlowShelf$Exporter" "samplersWritten" "I") ∈ fs_ws := fs_t1 (List.mem_of_getElem? (i := 141) rfl) rfl
theorem tw_1_165 : (Cond.classLink "FlowShelf" 21 "java/util/ArrayList") ∈ fs_ws := fs_t1 (List.mem_of_getElem? (i := 165) rfl) rfl
theorem tw_1_166 : (Cond.methodLink "FlowShelf" 23 ⟨"java/util/ArrayList", "<init>", "()V"⟩) ∈ fs_ws := fs_t1 (List.mem_of_getElem? (i := 166) rfl) rfl
theorem tw_1_167 : (Cond.classLink "FlowShelf" 28 "FlowShelf$Collector") ∈ fs_ws := fs_t1 (List.mem_of_getElem? (i := 167) rfl) rfl
theorem tw_1_168 : (Cond.instantiable "FlowShelf$Collector" 5) ∈ fs_ws := fs_t1 (List.mem_of_getElem? (i := 168) rfl) rfl
theorem tw_1_170 : (Cond.instanceMethod ⟨"FlowShelf$Collector", "<init>", "()V"⟩) ∈ fs_ws := fs_t1 (List.mem_of_getElem? (i := 170) rfl) rfl
theorem tw_1_171 : (Cond.code ⟨"FlowShelf$Collector", "<init>", "()V"⟩ prog_2_method_1_code 1 (Option.none : Option FieldType)) ∈ fs_ws := fs_t1 (List.mem_of_getElem? (i := 171) rfl) rfl
theorem tw_1_172 : (Cond.methodLink "FlowShelf$Collector" 3 ⟨"java/lang/Object", "<init>", "()V"⟩) ∈ fs_ws := fs_t1 (List.mem_of_getElem? (i := 172) rfl) rfl
theorem tw_1_173 : (Cond.classLink "FlowShelf$Collector" 9 "java/util/ArrayList") ∈ fs_ws := fs_t1 (List.mem_of_getElem? (i := 173) rfl) rfl
theorem tw_1_174 : (Cond.methodLink "FlowShelf$Collector" 11 ⟨"java/util/ArrayList", "<init>", "()V"⟩) ∈ fs_ws := fs_t1 (List.mem_of_getElem? (i := 174) rfl) rfl
theorem tw_1_175 : (Cond.classLink "FlowShelf$Collector" 21 "FlowShelf$Table") ∈ fs_ws := fs_t1 (List.mem_of_getElem? (i := 175) rfl) rfl
theorem tw_1_176 : (Cond.instantiable "FlowShelf$Table" 5) ∈ fs_ws := fs_t1 (List.mem_of_getElem? (i := 176) rfl) rfl
theorem tw_1_178 : (Cond.instanceMethod ⟨"FlowShelf$Table", "<init>", "()V"⟩) ∈ fs_ws := fs_t1 (List.mem_of_getElem? (i := 178) rfl) rfl
theorem tw_1_179 : (Cond.code ⟨"FlowShelf$Table", "<init>", "()V"⟩ prog_11_method_1_code 1 (Option.none : Option FieldType)) ∈ fs_ws := fs_t1 (List.mem_of_getElem? (i := 179) rfl) rfl
theorem tw_1_180 : (Cond.methodLink "FlowShelf$Table" 3 ⟨"java/lang/Object", "<init>", "()V"⟩) ∈ fs_ws := fs_t1 (List.mem_of_getElem? (i := 180) rfl) rfl
theorem tw_1_181 : (Cond.classLink "FlowShelf$Table" 9 "java/util/ArrayList") ∈ fs_ws := fs_t1 (List.mem_of_getElem? (i := 181) rfl) rfl
theorem tw_1_182 : (Cond.methodLink "FlowShelf$Table" 11 ⟨"java/util/ArrayList", "<init>", "()V"⟩) ∈ fs_ws := fs_t1 (List.mem_of_getElem? (i := 182) rfl) rfl
theorem tw_1_183 : (Cond.fieldLink "FlowShelf$Table" 12 "FlowShelf$Table" "list" "Ljava/util/ArrayList;") ∈ fs_ws := fs_t1 (List.mem_of_getElem? (i := 183) rfl) rfl
theorem tw_1_184 : (Cond.fieldLink "FlowShelf$Collector" 86 "FlowShelf$Table" "list" "Ljava/util/ArrayList;") ∈ fs_ws := fs_t1 (List.mem_of_getElem? (i := 184) rfl) rfl
theorem tw_1_185 : (Cond.fieldLink "FlowShelf" 251 "FlowShelf$Table" "list" "Ljava/util/ArrayList;") ∈ fs_ws := fs_t1 (List.mem_of_getElem? (i := 185) rfl) rfl
theorem tw_1_186 : (Cond.fieldLink "FlowShelf$Table" 18 "FlowShelf$Table" "partner" "[I") ∈ fs_ws := fs_t1 (List.mem_of_getElem? (i := 186) rfl) rfl
theorem tw_1_187 : (Cond.fieldLink "FlowShelf$Table" 22 "FlowShelf$Table" "order" "[I") ∈ fs_ws := fs_t1 (List.mem_of_getElem? (i := 187) rfl) rfl
theorem tw_1_188 : (Cond.fieldLink "FlowShelf$Table" 69 "FlowShelf$Table" "ordered" "I") ∈ fs_ws := fs_t1 (List.mem_of_getElem? (i := 188) rfl) rfl
theorem tw_1_189 : (Cond.fieldLink "FlowShelf$Table" 54 "FlowShelf$Table" "pairedRows" "I") ∈ fs_ws := fs_t1 (List.mem_of_getElem? (i := 189) rfl) rfl
theorem tw_1_201 : (Cond.classLink "FlowShelf$Collector" 28 "FlowShelf$Ledger") ∈ fs_ws := fs_t1 (List.mem_of_getElem? (i := 201) rfl) rfl
theorem tw_1_202 : (Cond.instantiable "FlowShelf$Ledger" 6) ∈ fs_ws := fs_t1 (List.mem_of_getElem? (i := 202) rfl) rfl
theorem tw_1_204 : (Cond.instanceMethod ⟨"FlowShelf$Ledger", "<init>", "()V"⟩) ∈ fs_ws := fs_t1 (List.mem_of_getElem? (i := 204) rfl) rfl
theorem tw_1_205 : (Cond.code ⟨"FlowShelf$Ledger", "<init>", "()V"⟩ prog_7_method_1_code 1 (Option.none : Option FieldType)) ∈ fs_ws := fs_t1 (List.mem_of_getElem? (i := 205) rfl) rfl
theorem tw_1_206 : (Cond.methodLink "FlowShelf$Ledger" 3 ⟨"java/lang/Object", "<init>", "()V"⟩) ∈ fs_ws := fs_t1 (List.mem_of_getElem? (i := 206) rfl) rfl
theorem tw_1_207 : (Cond.fieldLink "FlowShelf$Ledger" 9 "FlowShelf$Ledger" "heard" "[Z") ∈ fs_ws := fs_t1 (List.mem_of_getElem? (i := 207) rfl) rfl
theorem tw_1_208 : (Cond.fieldLink "FlowShelf$Collector" 128 "FlowShelf$Ledger" "dropped" "I") ∈ fs_ws := fs_t1 (List.mem_of_getElem? (i := 208) rfl) rfl
theorem tw_1_209 : (Cond.fieldLink "FlowShelf" 293 "FlowShelf$Ledger" "dropped" "I") ∈ fs_ws := fs_t1 (List.mem_of_getElem? (i := 209) rfl) rfl
theorem tw_1_210 : (Cond.fieldLink "FlowShelf$Collector" 107 "FlowShelf$Ledger" "spoilt" "I") ∈ fs_ws := fs_t1 (List.mem_of_getElem? (i := 210) rfl) rfl
theorem tw_1_211 : (Cond.fieldLink "FlowShelf" 296 "FlowShelf$Ledger" "spoilt" "I") ∈ fs_ws := fs_t1 (List.mem_of_getElem? (i := 211) rfl) rfl
theorem tw_1_212 : (Cond.fieldLink "FlowShelf$Ledger" 31 "FlowShelf$Ledger" "notedSampler" "I") ∈ fs_ws := fs_t1 (List.mem_of_getElem? (i := 212) rfl) rfl
theorem tw_1_213 : (Cond.fieldLink "FlowShelf" 299 "FlowShelf$Ledger" "notedSampler" "I") ∈ fs_ws := fs_t1 (List.mem_of_getElem? (i := 213) rfl) rfl
theorem tw_1_214 : (Cond.fieldLink "FlowShelf$Ledger" 35 "FlowShelf$Ledger" "notedEpoch" "I") ∈ fs_ws := fs_t1 (List.mem_of_getElem? (i := 214) rfl) rfl
theorem tw_1_215 : (Cond.fieldLink "FlowShelf$Ledger" 41 "FlowShelf$Ledger" "notedBefore" "I") ∈ fs_ws := fs_t1 (List.mem_of_getElem? (i := 215) rfl) rfl
theorem tw_1_229 : (Cond.arrayClass FieldType.boolean) ∈ fs_ws := fs_t1 (List.mem_of_getElem? (i := 229) rfl) rfl
theorem tw_1_230 : (Cond.fieldLink "FlowShelf$Collector" 12 "FlowShelf$Collector" "known" "Ljava/util/ArrayList;") ∈ fs_ws := fs_t1 (List.mem_of_getElem? (i := 230) rfl) rfl
theorem tw_1_231 : (Cond.fieldLink "FlowShelf$Collector" 18 "FlowShelf$Collector" "shelf" "Ljava/util/ArrayList;") ∈ fs_ws := fs_t1 (List.mem_of_getElem? (i := 231) rfl) rfl
theorem tw_1_232 : (Cond.fieldLink "FlowShelf$Collector" 24 "FlowShelf$Collector" "table" "LFlowShelf$Table;") ∈ fs_ws := fs_t1 (List.mem_of_getElem? (i := 232) rfl) rfl
theorem tw_1_233 : (Cond.fieldLink "FlowShelf" 247 "FlowShelf$Collector" "table" "LFlowShelf$Table;") ∈ fs_ws := fs_t1 (List.mem_of_getElem? (i := 233) rfl) rfl
theorem tw_1_234 : (Cond.fieldLink "FlowShelf$Collector" 31 "FlowShelf$Collector" "ofFirst" "LFlowShelf$Ledger;") ∈ fs_ws := fs_t1 (List.mem_of_getElem? (i := 234) rfl) rfl
theorem tw_1_235 : (Cond.fieldLink "FlowShelf$Collector" 35 "FlowShelf$Collector" "ofSecond" "LFlowShelf$Ledger;") ∈ fs_ws := fs_t1 (List.mem_of_getElem? (i := 235) rfl) rfl
theorem tw_2_7 : (Cond.fieldLink "FlowShelf" 12 "FlowShelf" "first" "LFlowShelf$Exporter;") ∈ fs_ws := fs_t2 (List.mem_of_getElem? (i := 7) rfl) rfl
theorem tw_2_8 : (Cond.fieldLink "FlowShelf" 18 "FlowShelf" "second" "LFlowShelf$Exporter;") ∈ fs_ws := fs_t2 (List.mem_of_getElem? (i := 8) rfl) rfl
theorem tw_2_9 : (Cond.fieldLink "FlowShelf" 24 "FlowShelf" "reports" "Ljava/util/ArrayList;") ∈ fs_ws := fs_t2 (List.mem_of_getElem? (i := 9) rfl) rfl
theorem tw_2_10 : (Cond.fieldLink "FlowShelf" 31 "FlowShelf" "collector" "LFlowShelf$Collector;") ∈ fs_ws := fs_t2 (List.mem_of_getElem? (i := 10) rfl) rfl
theorem tw_2_20 : (Cond.methodLink "FlowShelfLaw" 135 ⟨"FlowShelf", "size", "(I)I"⟩) ∈ fs_ws := fs_t2 (List.mem_of_getElem? (i := 20) rfl) rfl
theorem tw_2_21 : (Cond.instanceMethod ⟨"FlowShelf", "size", "(I)I"⟩) ∈ fs_ws := fs_t2 (List.mem_of_getElem? (i := 21) rfl) rfl
theorem tw_2_22 : (Cond.selects "FlowShelf" ⟨"FlowShelf", "size", "(I)I"⟩ ⟨"FlowShelf", "size", "(I)I"⟩) ∈ fs_ws := fs_t2 (List.mem_of_getElem? (i := 22) rfl) rfl
theorem tw_2_23 : (Cond.code ⟨"FlowShelf", "size", "(I)I"⟩ prog_1_method_14_code 2 (Option.some FieldType.int)) ∈ fs_ws := fs_t2 (List.mem_of_getElem? (i := 23) rfl) rfl
theorem tw_2_24 : (Cond.methodLink "FlowShelf" 201 ⟨"FlowShelf", "isReport", "(I)Z"⟩) ∈ fs_ws := fs_t2 (List.mem_of_getElem? (i := 24) rfl) rfl
theorem tw_2_26 : (Cond.instanceMethod ⟨"FlowShelf", "isReport", "(I)Z"⟩) ∈ fs_ws := fs_t2 (List.mem_of_getElem? (i := 26) rfl) rfl
theorem tw_2_27 : (Cond.code ⟨"FlowShelf", "isReport", "(I)Z"⟩ prog_1_method_29_code 2 (Option.some FieldType.boolean)) ∈ fs_ws := fs_t2 (List.mem_of_getElem? (i := 27) rfl) rfl
theorem tw_2_28 : (Cond.methodLink "FlowShelf" 88 ⟨"java/util/ArrayList", "size", "()I"⟩) ∈ fs_ws := fs_t2 (List.mem_of_getElem? (i := 28) rfl) rfl
theorem tw_2_29 : (Cond.instanceMethod ⟨"java/util/ArrayList", "size", "()I"⟩) ∈ fs_ws := fs_t2 (List.mem_of_getElem? (i := 29) rfl) rfl
theorem tw_2_30 : (Cond.selects "java/util/ArrayList" ⟨"java/util/ArrayList", "size", "()I"⟩ ⟨"java/util/ArrayList", "size", "()I"⟩) ∈ fs_ws := fs_t2 (List.mem_of_getElem? (i := 30) rfl) rfl
theorem tw_2_31 : (Cond.code ⟨"java/util/ArrayList", "size", "()I"⟩ prog_29_method_8_code 1 (Option.some FieldType.int)) ∈ fs_ws := fs_t2 (List.mem_of_getElem? (i := 31) rfl) rfl
theorem tw_2_32 : (Cond.methodLink "FlowShelf" 96 ⟨"java/util/ArrayList", "get", "(I)Ljava/lang/Object;"⟩) ∈ fs_ws := fs_t2 (List.mem_of_getElem? (i := 32) rfl) rfl
theorem tw_2_33 : (Cond.instanceMethod ⟨"java/util/ArrayList", "get", "(I)Ljava/lang/Object;"⟩) ∈ fs_ws := fs_t2 (List.mem_of_getElem? (i := 33) rfl) rfl
theorem tw_2_34 : (Cond.selects "java/util/ArrayList" ⟨"java/util/ArrayList", "get", "(I)Ljava/lang/Object;"⟩ ⟨"java/util/ArrayList", "get", "(I)Ljava/lang/Object;"⟩) ∈ fs_ws := fs_t2 (List.mem_of_getElem? (i := 34) rfl) rfl
theorem tw_2_35 : (Cond.code ⟨"java/util/ArrayList", "get", "(I)Ljava/lang/Object;"⟩ prog_29_method_20_code 2 (Option.some (FieldType.object "java/lang/Object"))) ∈ fs_ws := fs_t2 (List.mem_of_getElem? (i := 35) rfl) rfl
theorem tw_2_36 : (Cond.methodLink "java/util/ArrayList" 118 ⟨"java/util/Objects", "checkIndex", "(II)I"⟩) ∈ fs_ws := fs_t2 (List.mem_of_getElem? (i := 36) rfl) rfl
theorem tw_2_37 : (Cond.static ⟨"java/util/Objects", "checkIndex", "(II)I"⟩) ∈ fs_ws := fs_t2 (List.mem_of_getElem? (i := 37) rfl) rfl
theorem tw_2_38 : (Cond.code ⟨"java/util/Objects", "checkIndex", "(II)I"⟩ prog_33_method_17_code 2 (Option.some FieldType.int)) ∈ fs_ws := fs_t2 (List.mem_of_getElem? (i := 38) rfl) rfl
theorem tw_2_39 : (Cond.methodLink "java/util/Objects" 105 ⟨"jdk/internal/util/Preconditions", "checkIndex", "(IILjava/util/function/BiFunction;)I"⟩) ∈ fs_ws := fs_t2 (List.mem_of_getElem? (i := 39) rfl) rfl
theorem tw_2_40 : (Cond.static ⟨"jdk/internal/util/Preconditions", "checkIndex", "(IILjava/util/function/BiFunction;)I"⟩) ∈ fs_ws := fs_t2 (List.mem_of_getElem? (i := 40) rfl) rfl
theorem tw_2_41 : (Cond.code ⟨"jdk/internal/util/Preconditions", "checkIndex", "(IILjava/util/function/BiFunction;)I"⟩ prog_37_method_11_code 3 (Option.some FieldType.int)) ∈ fs_ws := fs_t2 (List.mem_of_getElem? (i := 41) rfl) rfl
theorem tw_2_42 : (Cond.methodLink "java/util/ArrayList" 123 ⟨"java/util/ArrayList", "elementData", "(I)Ljava/lang/Object;"⟩) ∈ fs_ws := fs_t2 (List.mem_of_getElem? (i := 42) rfl) rfl
theorem tw_2_43 : (Cond.instanceMethod ⟨"java/util/ArrayList", "elementData", "(I)Ljava/lang/Object;"⟩) ∈ fs_ws := fs_t2 (List.mem_of_getElem? (i := 43) rfl) rfl
theorem tw_2_44 : (Cond.selects "java/util/ArrayList" ⟨"java/util/ArrayList", "elementData", "(I)Ljava/lang/Object;"⟩ ⟨"java/util/ArrayList", "elementData", "(I)Ljava/lang/Object;"⟩) ∈ fs_ws := fs_t2 (List.mem_of_getElem? (i := 44) rfl) rfl
theorem tw_2_45 : (Cond.code ⟨"java/util/ArrayList", "elementData", "(I)Ljava/lang/Object;"⟩ prog_29_method_18_code 2 (Option.some (FieldType.object "java/lang/Object"))) ∈ fs_ws := fs_t2 (List.mem_of_getElem? (i := 45) rfl) rfl
theorem tw_2_46 : (Cond.classLink "FlowShelf" 204 "FlowShelf$Report") ∈ fs_ws := fs_t2 (List.mem_of_getElem? (i := 46) rfl) rfl
theorem tw_2_47 : (Cond.methodLink "FlowShelfLaw" 149 ⟨"FlowShelf", "rows", "()I"⟩) ∈ fs_ws := fs_t2 (List.mem_of_getElem? (i := 47) rfl) rfl
theorem tw_2_48 : (Cond.instanceMethod ⟨"FlowShelf", "rows", "()I"⟩) ∈ fs_ws := fs_t2 (List.mem_of_getElem? (i := 48) rfl) rfl
theorem tw_2_49 : (Cond.selects "FlowShelf" ⟨"FlowShelf", "rows", "()I"⟩ ⟨"FlowShelf", "rows", "()I"⟩) ∈ fs_ws := fs_t2 (List.mem_of_getElem? (i := 49) rfl) rfl
theorem tw_2_50 : (Cond.code ⟨"FlowShelf", "rows", "()I"⟩ prog_1_method_18_code 1 (Option.some FieldType.int)) ∈ fs_ws := fs_t2 (List.mem_of_getElem? (i := 50) rfl) rfl
theorem tw_2_51 : (Cond.methodLink "FlowShelfLaw" 87 ⟨"FlowShelfLaw", "packet", "(LFlowShelf;IIIIIZ[J)I"⟩) ∈ fs_ws := fs_t2 (List.mem_of_getElem? (i := 51) rfl) rfl
theorem tw_2_52 : (Cond.static ⟨"FlowShelfLaw", "packet", "(LFlowShelf;IIIIIZ[J)I"⟩) ∈ fs_ws := fs_t2 (List.mem_of_getElem? (i := 52) rfl) rfl
theorem tw_2_53 : (Cond.codeWith ⟨"FlowShelfLaw", "packet", "(LFlowShelf;IIIIIZ[J)I"⟩ method_3_code 9 (Option.some FieldType.int) [(0, 25, 28, 13), (0, 25, 32, 15)]) ∈ fs_ws := fs_t2 (List.mem_of_getElem? (i := 53) rfl) rfl
theorem tw_2_54 : (Cond.classLink "FlowShelfLaw" 13 "java/lang/IllegalArgumentException") ∈ fs_ws := fs_t2 (List.mem_of_getElem? (i := 54) rfl) rfl
theorem tw_2_55 : (Cond.classLink "FlowShelfLaw" 15 "java/lang/IllegalStateException") ∈ fs_ws := fs_t2 (List.mem_of_getElem? (i := 55) rfl) rfl
theorem tw_2_56 : (Cond.methodLink "FlowShelfLaw" 7 ⟨"FlowShelf", "packet", "(IIIIIZ)Z"⟩) ∈ fs_ws := fs_t2 (List.mem_of_getElem? (i := 56) rfl) rfl
theorem tw_2_57 : (Cond.instanceMethod ⟨"FlowShelf", "packet", "(IIIIIZ)Z"⟩) ∈ fs_ws := fs_t2 (List.mem_of_getElem? (i := 57) rfl) rfl
theorem tw_2_58 : (Cond.selects "FlowShelf" ⟨"FlowShelf", "packet", "(IIIIIZ)Z"⟩ ⟨"FlowShelf", "packet", "(IIIIIZ)Z"⟩) ∈ fs_ws := fs_t2 (List.mem_of_getElem? (i := 58) rfl) rfl
theorem tw_2_59 : (Cond.code ⟨"FlowShelf", "packet", "(IIIIIZ)Z"⟩ prog_1_method_2_code 8 (Option.some FieldType.boolean)) ∈ fs_ws := fs_t2 (List.mem_of_getElem? (i := 59) rfl) rfl
theorem tw_2_60 : (Cond.methodLink "FlowShelf" 35 ⟨"FlowShelf", "exporterOf", "(I)LFlowShelf$Exporter;"⟩) ∈ fs_ws := fs_t2 (List.mem_of_getElem? (i := 60) rfl) rfl
theorem tw_2_62 : (Cond.instanceMethod ⟨"FlowShelf", "exporterOf", "(I)LFlowShelf$Exporter;"⟩) ∈ fs_ws := fs_t2 (List.mem_of_getElem? (i := 62) rfl) rfl
theorem tw_2_63 : (Cond.code ⟨"FlowShelf", "exporterOf", "(I)LFlowShelf$Exporter;"⟩ prog_1_method_27_code 2 (Option.some (FieldType.object "FlowShelf$Exporter"))) ∈ fs_ws := fs_t2 (List.mem_of_getElem? (i := 63) rfl) rfl
theorem tw_2_64 : (Cond.methodLink "FlowShelf" 269 ⟨"FlowShelf", "isExporter", "(I)Z"⟩) ∈ fs_ws := fs_t2 (List.mem_of_getElem? (i := 64) rfl) rfl
theorem tw_2_65 : (Cond.static ⟨"FlowShelf", "isExporter", "(I)Z"⟩) ∈ fs_ws := fs_t2 (List.mem_of_getElem? (i := 65) rfl) rfl
theorem tw_2_66 : (Cond.code ⟨"FlowShelf", "isExporter", "(I)Z"⟩ prog_1_method_23_code 1 (Option.some FieldType.boolean)) ∈ fs_ws := fs_t2 (List.mem_of_getElem? (i := 66) rfl) rfl
theorem tw_2_67 : (Cond.classLink "FlowShelf" 43 "java/lang/IllegalArgumentException") ∈ fs_ws := fs_t2 (List.mem_of_getElem? (i := 67) rfl) rfl
theorem tw_2_68 : (Cond.instantiable "java/lang/IllegalArgumentException" 6) ∈ fs_ws := fs_t2 (List.mem_of_getElem? (i := 68) rfl) rfl
theorem tw_2_76 : (Cond.selects "java/lang/IllegalArgumentException" ⟨"java/lang/Throwable", "fillInStackTrace", "(I)Ljava/lang/Throwable;"⟩ ⟨"java/lang/Throwable", "fillInStackTrace", "(I)Ljava/lang/Throwable;"⟩) ∈ fs_ws := fs_t2 (List.mem_of_getElem? (i := 76) rfl) rfl
theorem tw_2_77 : (Cond.selects "java/lang/IllegalArgumentException" ⟨"java/lang/Throwable", "fillInStackTrace", "()Ljava/lang/Throwable;"⟩ ⟨"java/lang/Throwable", "fillInStackTrace", "()Ljava/lang/Throwable;"⟩) ∈ fs_ws := fs_t2 (List.mem_of_getElem? (i := 77) rfl) rfl
theorem tw_2_88 : (Cond.fieldLink "java/lang/Throwable" 198 "java/lang/Throwable" "backtrace" "Ljava/lang/Object;") ∈ fs_ws := fs_t2 (List.mem_of_getElem? (i := 88) rfl) rfl
theorem tw_2_90 : (Cond.instanceMethod ⟨"java/lang/Throwable", "<init>", "()V"⟩) ∈ fs_ws := fs_t2 (List.mem_of_getElem? (i := 90) rfl) rfl
theorem tw_2_91 : (Cond.code ⟨"java/lang/Throwable", "<init>", "()V"⟩ prog_25_method_1_code 1 (Option.none : Option FieldType)) ∈ fs_ws := fs_t2 (List.mem_of_getElem? (i := 91) rfl) rfl
theorem tw_2_92 : (Cond.methodLink "java/lang/Throwable" 1 ⟨"java/lang/Object", "<init>", "()V"⟩) ∈ fs_ws := fs_t2 (List.mem_of_getElem? (i := 92) rfl) rfl
theorem tw_2_93 : (Cond.fieldLink "java/lang/Throwable" 13 "java/lang/Throwable" "UNASSIGNED_STACK" "[Ljava/lang/StackTraceElement;") ∈ fs_ws := fs_t2 (List.mem_of_getElem? (i := 93) rfl) rfl
theorem tw_2_95 : (Cond.fieldLink "java/lang/Throwable" 20 "java/lang/Throwable" "SUPPRESSED_SENTINEL" "Ljava/util/List;") ∈ fs_ws := fs_t2 (List.mem_of_getElem? (i := 95) rfl) rfl
theorem tw_2_97 : (Cond.methodLink "java/lang/Throwable" 27 ⟨"java/lang/Throwable", "fillInStackTrace", "()Ljava/lang/Throwable;"⟩) ∈ fs_ws := fs_t2 (List.mem_of_getElem? (i := 97) rfl) rfl
theorem tw_2_98 : (Cond.instanceMethod ⟨"java/lang/Throwable", "fillInStackTrace", "()Ljava/lang/Throwable;"⟩) ∈ fs_ws := fs_t2 (List.mem_of_getElem? (i := 98) rfl) rfl
theorem tw_2_100 : (Cond.selects "java/lang/IllegalStateException" ⟨"java/lang/Throwable", "fillInStackTrace", "()Ljava/lang/Throwable;"⟩ ⟨"java/lang/Throwable", "fillInStackTrace", "()Ljava/lang/Throwable;"⟩) ∈ fs_ws := fs_t2 (List.mem_of_getElem? (i := 100) rfl) rfl
theorem tw_2_101 : (Cond.selects "java/lang/IndexOutOfBoundsException" ⟨"java/lang/Throwable", "fillInStackTrace", "()Ljava/lang/Throwable;"⟩ ⟨"java/lang/Throwable", "fillInStackTrace", "()Ljava/lang/Throwable;"⟩) ∈ fs_ws := fs_t2 (List.mem_of_getElem? (i := 101) rfl) rfl
theorem tw_2_102 : (Cond.selects "java/lang/UnsupportedOperationException" ⟨"java/lang/Throwable", "fillInStackTrace", "()Ljava/lang/Throwable;"⟩ ⟨"java/lang/Throwable", "fillInStackTrace", "()Ljava/lang/Throwable;"⟩) ∈ fs_ws := fs_t2 (List.mem_of_getElem? (i := 102) rfl) rfl
theorem tw_2_104 : (Cond.methodLink "java/lang/Throwable" 202 ⟨"java/lang/Throwable", "fillInStackTrace", "(I)Ljava/lang/Throwable;"⟩) ∈ fs_ws := fs_t2 (List.mem_of_getElem? (i := 104) rfl) rfl
theorem tw_2_106 : (Cond.instanceMethod ⟨"java/lang/Throwable", "fillInStackTrace", "(I)Ljava/lang/Throwable;"⟩) ∈ fs_ws := fs_t2 (List.mem_of_getElem? (i := 106) rfl) rfl
theorem tw_2_107 : (Cond.instantiable "java/lang/Throwable" 6) ∈ fs_ws := fs_t2 (List.mem_of_getElem? (i := 107) rfl) rfl
theorem tw_2_108 : (Cond.native ⟨"java/lang/Throwable", "fillInStackTrace", "(I)Ljava/lang/Throwable;"⟩) ∈ fs_ws := fs_t2 (List.mem_of_getElem? (i := 108) rfl) rfl
theorem tw_2_110 : (Cond.methodLink "FlowShelf" 47 ⟨"java/lang/IllegalArgumentException", "<init>", "(Ljava/lang/String;)V"⟩) ∈ fs_ws := fs_t2 (List.mem_of_getElem? (i := 110) rfl) rfl
theorem tw_2_111 : (Cond.instanceMethod ⟨"java/lang/IllegalArgumentException", "<init>", "(Ljava/lang/String;)V"⟩) ∈ fs_ws := fs_t2 (List.mem_of_getElem? (i := 111) rfl) rfl
theorem tw_2_112 : (Cond.code ⟨"java/lang/IllegalArgumentException", "<init>", "(Ljava/lang/String;)V"⟩ prog_17_method_2_code 2 (Option.none : Option FieldType)) ∈ fs_ws := fs_t2 (List.mem_of_getElem? (i := 112) rfl) rfl
theorem tw_2_113 : (Cond.methodLink "java/lang/IllegalArgumentException" 7 ⟨"java/lang/RuntimeException", "<init>", "(Ljava/lang/String;)V"⟩) ∈ fs_ws := fs_t2 (List.mem_of_getElem? (i := 113) rfl) rfl
theorem tw_2_114 : (Cond.instanceMethod ⟨"java/lang/RuntimeException", "<init>", "(Ljava/lang/String;)V"⟩) ∈ fs_ws := fs_t2 (List.mem_of_getElem? (i := 114) rfl) rfl
theorem tw_2_115 : (Cond.code ⟨"java/lang/RuntimeException", "<init>", "(Ljava/lang/String;)V"⟩ prog_22_method_2_code 2 (Option.none : Option FieldType)) ∈ fs_ws := fs_t2 (List.mem_of_getElem? (i := 115) rfl) rfl
theorem tw_2_116 : (Cond.methodLink "java/lang/RuntimeException" 7 ⟨"java/lang/Exception", "<init>", "(Ljava/lang/String;)V"⟩) ∈ fs_ws := fs_t2 (List.mem_of_getElem? (i := 116) rfl) rfl
theorem tw_2_117 : (Cond.instanceMethod ⟨"java/lang/Exception", "<init>", "(Ljava/lang/String;)V"⟩) ∈ fs_ws := fs_t2 (List.mem_of_getElem? (i := 117) rfl) rfl
theorem tw_2_118 : (Cond.code ⟨"java/lang/Exception", "<init>", "(Ljava/lang/String;)V"⟩ prog_16_method_2_code 2 (Option.none : Option FieldType)) ∈ fs_ws := fs_t2 (List.mem_of_getElem? (i := 118) rfl) rfl
theorem tw_2_119 : (Cond.methodLink "java/lang/Exception" 7 ⟨"java/lang/Throwable", "<init>", "(Ljava/lang/String;)V"⟩) ∈ fs_ws := fs_t2 (List.mem_of_getElem? (i := 119) rfl) rfl
theorem tw_2_120 : (Cond.instanceMethod ⟨"java/lang/Throwable", "<init>", "(Ljava/lang/String;)V"⟩) ∈ fs_ws := fs_t2 (List.mem_of_getElem? (i := 120) rfl) rfl
theorem tw_2_121 : (Cond.code ⟨"java/lang/Throwable", "<init>", "(Ljava/lang/String;)V"⟩ prog_25_method_2_code 2 (Option.none : Option FieldType)) ∈ fs_ws := fs_t2 (List.mem_of_getElem? (i := 121) rfl) rfl
theorem tw_2_122 : (Cond.fieldLink "java/lang/Throwable" 198 "java/lang/Throwable" "backtrace" "Ljava/lang/Object;") ∈ fs_ws := fs_t2 (List.mem_of_getElem? (i := 122) rfl) rfl
theorem tw_2_123 : (Cond.fieldLink "java/lang/Throwable" 31 "java/lang/Throwable" "detailMessage" "Ljava/lang/String;") ∈ fs_ws := fs_t2 (List.mem_of_getElem? (i := 123) rfl) rfl
theorem tw_2_124 : (Cond.fieldLink "java/lang/Throwable" 7 "java/lang/Throwable" "cause" "Ljava/lang/Throwable;") ∈ fs_ws := fs_t2 (List.mem_of_getElem? (i := 124) rfl) rfl
theorem tw_2_125 : (Cond.fieldLink "java/lang/Throwable" 17 "java/lang/Throwable" "stackTrace" "[Ljava/lang/StackTraceElement;") ∈ fs_ws := fs_t2 (List.mem_of_getElem? (i := 125) rfl) rfl
theorem tw_2_126 : (Cond.fieldLink "java/lang/Throwable" 24 "java/lang/Throwable" "suppressedExceptions" "Ljava/util/List;") ∈ fs_ws := fs_t2 (List.mem_of_getElem? (i := 126) rfl) rfl
theorem tw_2_135 : (Cond.arrayClass FieldType.byte) ∈ fs_ws := fs_t2 (List.mem_of_getElem? (i := 135) rfl) rfl
theorem tw_2_136 : (Cond.methodLink "FlowShelf" 39 ⟨"FlowShelf", "isByte", "(I)Z"⟩) ∈ fs_ws := fs_t2 (List.mem_of_getElem? (i := 136) rfl) rfl
theorem tw_2_137 : (Cond.static ⟨"FlowShelf", "isByte", "(I)Z"⟩) ∈ fs_ws := fs_t2 (List.mem_of_getElem? (i := 137) rfl) rfl
theorem tw_2_138 : (Cond.code ⟨"FlowShelf", "isByte", "(I)Z"⟩ prog_1_method_24_code 1 (Option.some FieldType.boolean)) ∈ fs_ws := fs_t2 (List.mem_of_getElem? (i := 138) rfl) rfl
theorem tw_2_141 : (Cond.methodLink "FlowShelf" 52 ⟨"FlowShelf$Exporter", "flowsHeld", "()I"⟩) ∈ fs_ws := fs_t2 (List.mem_of_getElem? (i := 141) rfl) rfl
theorem tw_2_142 : (Cond.instanceMethod ⟨"FlowShelf$Exporter", "flowsHeld", "()I"⟩) ∈ fs_ws := fs_t2 (List.mem_of_getElem? (i := 142) rfl) rfl
theorem tw_2_143 : (Cond.selects "FlowShelf$Exporter" ⟨"FlowShelf$Exporter", "flowsHeld", "()I"⟩ ⟨"FlowShelf$Exporter", "flowsHeld", "()I"⟩) ∈ fs_ws := fs_t2 (List.mem_of_getElem? (i := 143) rfl) rfl
theorem tw_2_144 : (Cond.code ⟨"FlowShelf$Exporter", "flowsHeld", "()I"⟩ prog_4_method_2_code 1 (Option.some FieldType.int)) ∈ fs_ws := fs_t2 (List.mem_of_getElem? (i := 144) rfl) rfl
theorem tw_2_145 : (Cond.methodLink "FlowShelf$Exporter" 37 ⟨"java/util/ArrayList", "size", "()I"⟩) ∈ fs_ws := fs_t2 (List.mem_of_getElem? (i := 145) rfl) rfl
theorem tw_2_146 : (Cond.classLink "FlowShelf" 56 "java/lang/IllegalStateException") ∈ fs_ws := fs_t2 (List.mem_of_getElem? (i := 146) rfl) rfl
theorem tw_2_147 : (Cond.instantiable "java/lang/IllegalStateException" 6) ∈ fs_ws := fs_t2 (List.mem_of_getElem? (i := 147) rfl) rfl
theorem tw_2_149 : (Cond.selects "java/lang/IllegalStateException" ⟨"java/lang/Throwable", "fillInStackTrace", "(I)Ljava/lang/Throwable;"⟩ ⟨"java/lang/Throwable", "fillInStackTrace", "(I)Ljava/lang/Throwable;"⟩) ∈ fs_ws := fs_t2 (List.mem_of_getElem? (i := 149) rfl) rfl
theorem tw_2_156 : (Cond.methodLink "FlowShelf" 60 ⟨"java/lang/IllegalStateException", "<init>", "(Ljava/lang/String;)V"⟩) ∈ fs_ws := fs_t2 (List.mem_of_getElem? (i := 156) rfl) rfl
theorem tw_2_157 : (Cond.instanceMethod ⟨"java/lang/IllegalStateException", "<init>", "(Ljava/lang/String;)V"⟩) ∈ fs_ws := fs_t2 (List.mem_of_getElem? (i := 157) rfl) rfl
theorem tw_2_158 : (Cond.code ⟨"java/lang/IllegalStateException", "<init>", "(Ljava/lang/String;)V"⟩ prog_18_method_2_code 2 (Option.none : Option FieldType)) ∈ fs_ws := fs_t2 (List.mem_of_getElem? (i := 158) rfl) rfl
theorem tw_2_159 : (Cond.methodLink "java/lang/IllegalStateException" 7 ⟨"java/lang/RuntimeException", "<init>", "(Ljava/lang/String;)V"⟩) ∈ fs_ws := fs_t2 (List.mem_of_getElem? (i := 159) rfl) rfl
theorem tw_2_162 : (Cond.methodLink "FlowShelf" 61 ⟨"FlowShelf$Exporter", "samplesNext", "()Z"⟩) ∈ fs_ws := fs_t2 (List.mem_of_getElem? (i := 162) rfl) rfl
theorem tw_2_163 : (Cond.instanceMethod ⟨"FlowShelf$Exporter", "samplesNext", "()Z"⟩) ∈ fs_ws := fs_t2 (List.mem_of_getElem? (i := 163) rfl) rfl
theorem tw_2_164 : (Cond.selects "FlowShelf$Exporter" ⟨"FlowShelf$Exporter", "samplesNext", "()Z"⟩ ⟨"FlowShelf$Exporter", "samplesNext", "()Z"⟩) ∈ fs_ws := fs_t2 (List.mem_of_getElem? (i := 164) rfl) rfl
theorem tw_2_165 : (Cond.code ⟨"FlowShelf$Exporter", "samplesNext", "()Z"⟩ prog_4_method_4_code 2 (Option.some FieldType.boolean)) ∈ fs_ws := fs_t2 (List.mem_of_getElem? (i := 165) rfl) rfl
theorem tw_2_166 : (Cond.methodLink "FlowShelf" 65 ⟨"FlowShelf$Exporter", "watch", "(IIIIZ)V"⟩) ∈ fs_ws := fs_t2 (List.mem_of_getElem? (i := 166) rfl) rfl
theorem tw_2_167 : (Cond.instanceMethod ⟨"FlowShelf$Exporter", "watch", "(IIIIZ)V"⟩) ∈ fs_ws := fs_t2 (List.mem_of_getElem? (i := 167) rfl) rfl
theorem tw_2_168 : (Cond.selects "FlowShelf$Exporter" ⟨"FlowShelf$Exporter", "watch", "(IIIIZ)V"⟩ ⟨"FlowShelf$Exporter", "watch", "(IIIIZ)V"⟩) ∈ fs_ws := fs_t2 (List.mem_of_getElem? (i := 168) rfl) rfl
theorem tw_2_169 : (Cond.code ⟨"FlowShelf$Exporter", "watch", "(IIIIZ)V"⟩ prog_4_method_5_code 7 (Option.none : Option FieldType)) ∈ fs_ws := fs_t2 (List.mem_of_getElem? (i := 169) rfl) rfl
theorem tw_2_170 : (Cond.methodLink "FlowShelf$Exporter" 44 ⟨"FlowShelf$Exporter", "placeInCache", "(III)I"⟩) ∈ fs_ws := fs_t2 (List.mem_of_getElem? (i := 170) rfl) rfl
theorem tw_2_171 : (Cond.instanceMethod ⟨"FlowShelf$Exporter", "placeInCache", "(III)I"⟩) ∈ fs_ws := fs_t2 (List.mem_of_getElem? (i := 171) rfl) rfl
theorem tw_2_172 : (Cond.selects "FlowShelf$Exporter" ⟨"FlowShelf$Exporter", "placeInCache", "(III)I"⟩ ⟨"FlowShelf$Exporter", "placeInCache", "(III)I"⟩) ∈ fs_ws := fs_t2 (List.mem_of_getElem? (i := 172) rfl) rfl
theorem tw_2_173 : (Cond.code ⟨"FlowShelf$Exporter", "placeInCache", "(III)I"⟩ prog_4_method_6_code 5 (Option.some FieldType.int)) ∈ fs_ws := fs_t2 (List.mem_of_getElem? (i := 173) rfl) rfl
theorem tw_2_174 : (Cond.methodLink "FlowShelf$Exporter" 67 ⟨"java/util/ArrayList", "get", "(I)Ljava/lang/Object;"⟩) ∈ fs_ws := fs_t2 (List.mem_of_getElem? (i := 174) rfl) rfl
theorem tw_2_175 : (Cond.classLink "FlowShelf$Exporter" 55 "FlowShelf$Flow") ∈ fs_ws := fs_t2 (List.mem_of_getElem? (i := 175) rfl) rfl
theorem tw_2_176 : (Cond.methodLink "FlowShelf$Exporter" 74 ⟨"FlowShelf$Flow", "hasKey", "(III)Z"⟩) ∈ fs_ws := fs_t2 (List.mem_of_getElem? (i := 176) rfl) rfl
theorem tw_2_177 : (Cond.instanceMethod ⟨"FlowShelf$Flow", "hasKey", "(III)Z"⟩) ∈ fs_ws := fs_t2 (List.mem_of_getElem? (i := 177) rfl) rfl
theorem tw_2_178 : (Cond.selects "FlowShelf$Flow" ⟨"FlowShelf$Flow", "hasKey", "(III)Z"⟩ ⟨"FlowShelf$Flow", "hasKey", "(III)Z"⟩) ∈ fs_ws := fs_t2 (List.mem_of_getElem? (i := 178) rfl) rfl
theorem tw_2_179 : (Cond.code ⟨"FlowShelf$Flow", "hasKey", "(III)Z"⟩ prog_5_method_2_code 4 (Option.some FieldType.boolean)) ∈ fs_ws := fs_t2 (List.mem_of_getElem? (i := 179) rfl) rfl
theorem tw_2_180 : (Cond.methodLink "FlowShelf$Exporter" 48 ⟨"FlowShelf$Exporter", "leastRecent", "()I"⟩) ∈ fs_ws := fs_t2 (List.mem_of_getElem? (i := 180) rfl) rfl
theorem tw_2_181 : (Cond.instanceMethod ⟨"FlowShelf$Exporter", "leastRecent", "()I"⟩) ∈ fs_ws := fs_t2 (List.mem_of_getElem? (i := 181) rfl) rfl
theorem tw_2_182 : (Cond.selects "FlowShelf$Exporter" ⟨"FlowShelf$Exporter", "leastRecent", "()I"⟩ ⟨"FlowShelf$Exporter", "leastRecent", "()I"⟩) ∈ fs_ws := fs_t2 (List.mem_of_getElem? (i := 182) rfl) rfl
theorem tw_2_183 : (Cond.code ⟨"FlowShelf$Exporter", "leastRecent", "()I"⟩ prog_4_method_7_code 3 (Option.some FieldType.int)) ∈ fs_ws := fs_t2 (List.mem_of_getElem? (i := 183) rfl) rfl
theorem tw_2_184 : (Cond.methodLink "FlowShelf$Exporter" 51 ⟨"FlowShelf$Exporter", "end", "(II)V"⟩) ∈ fs_ws := fs_t2 (List.mem_of_getElem? (i := 184) rfl) rfl
theorem tw_2_185 : (Cond.instanceMethod ⟨"FlowShelf$Exporter", "end", "(II)V"⟩) ∈ fs_ws := fs_t2 (List.mem_of_getElem? (i := 185) rfl) rfl
theorem tw_2_186 : (Cond.selects "FlowShelf$Exporter" ⟨"FlowShelf$Exporter", "end", "(II)V"⟩ ⟨"FlowShelf$Exporter", "end", "(II)V"⟩) ∈ fs_ws := fs_t2 (List.mem_of_getElem? (i := 186) rfl) rfl
theorem tw_2_187 : (Cond.code ⟨"FlowShelf$Exporter", "end", "(II)V"⟩ prog_4_method_8_code 4 (Option.none : Option FieldType)) ∈ fs_ws := fs_t2 (List.mem_of_getElem? (i := 187) rfl) rfl
theorem tw_2_188 : (Cond.methodLink "FlowShelf$Exporter" 81 ⟨"java/util/ArrayList", "remove", "(I)Ljava/lang/Object;"⟩) ∈ fs_ws := fs_t2 (List.mem_of_getElem? (i := 188) rfl) rfl
theorem tw_2_189 : (Cond.instanceMethod ⟨"java/util/ArrayList", "remove", "(I)Ljava/lang/Object;"⟩) ∈ fs_ws := fs_t2 (List.mem_of_getElem? (i := 189) rfl) rfl
theorem tw_2_190 : (Cond.selects "java/util/ArrayList" ⟨"java/util/ArrayList", "remove", "(I)Ljava/lang/Object;"⟩ ⟨"java/util/ArrayList", "remove", "(I)Ljava/lang/Object;"⟩) ∈ fs_ws := fs_t2 (List.mem_of_getElem? (i := 190) rfl) rfl
theorem tw_2_191 : (Cond.code ⟨"java/util/ArrayList", "remove", "(I)Ljava/lang/Object;"⟩ prog_29_method_29_code 4 (Option.some (FieldType.object "java/lang/Object"))) ∈ fs_ws := fs_t2 (List.mem_of_getElem? (i := 191) rfl) rfl
theorem tw_2_192 : (Cond.methodLink "java/util/ArrayList" 144 ⟨"java/util/ArrayList", "fastRemove", "([Ljava/lang/Object;I)V"⟩) ∈ fs_ws := fs_t2 (List.mem_of_getElem? (i := 192) rfl) rfl
theorem tw_2_194 : (Cond.instanceMethod ⟨"java/util/ArrayList", "fastRemove", "([Ljava/lang/Object;I)V"⟩) ∈ fs_ws := fs_t2 (List.mem_of_getElem? (i := 194) rfl) rfl
theorem tw_2_195 : (Cond.code ⟨"java/util/ArrayList", "fastRemove", "([Ljava/lang/Object;I)V"⟩ prog_29_method_39_code 4 (Option.none : Option FieldType)) ∈ fs_ws := fs_t2 (List.mem_of_getElem? (i := 195) rfl) rfl
theorem tw_2_196 : (Cond.methodLink "java/util/ArrayList" 112 ⟨"java/lang/System", "arraycopy", "(Ljava/lang/Object;ILjava/lang/Object;II)V"⟩) ∈ fs_ws := fs_t2 (List.mem_of_getElem? (i := 196) rfl) rfl
theorem tw_2_197 : (Cond.static ⟨"java/lang/System", "arraycopy", "(Ljava/lang/Object;ILjava/lang/Object;II)V"⟩) ∈ fs_ws := fs_t2 (List.mem_of_getElem? (i := 197) rfl) rfl
theorem tw_2_198 : (Cond.native ⟨"java/lang/System", "arraycopy", "(Ljava/lang/Object;ILjava/lang/Object;II)V"⟩) ∈ fs_ws := fs_t2 (List.mem_of_getElem? (i := 198) rfl) rfl
theorem tw_2_199 : (Cond.methodLink "FlowShelf$Exporter" 63 ⟨"java/util/ArrayList", "add", "(Ljava/lang/Object;)Z"⟩) ∈ fs_ws := fs_t2 (List.mem_of_getElem? (i := 199) rfl) rfl
theorem tw_2_200 : (Cond.instanceMethod ⟨"java/util/ArrayList", "add", "(Ljava/lang/Object;)Z"⟩) ∈ fs_ws := fs_t2 (List.mem_of_getElem? (i := 200) rfl) rfl
theorem tw_2_201 : (Cond.selects "java/util/ArrayList" ⟨"java/util/ArrayList", "add", "(Ljava/lang/Object;)Z"⟩ ⟨"java/util/ArrayList", "add", "(Ljava/lang/Object;)Z"⟩) ∈ fs_ws := fs_t2 (List.mem_of_getElem? (i := 201) rfl) rfl
theorem tw_2_202 : (Cond.code ⟨"java/util/ArrayList", "add", "(Ljava/lang/Object;)Z"⟩ prog_29_method_25_code 2 (Option.some FieldType.boolean)) ∈ fs_ws := fs_t2 (List.mem_of_getElem? (i := 202) rfl) rfl
theorem tw_2_203 : (Cond.methodLink "java/util/ArrayList" 131 ⟨"java/util/ArrayList", "add", "(Ljava/lang/Object;[Ljava/lang/Object;I)V"⟩) ∈ fs_ws := fs_t2 (List.mem_of_getElem? (i := 203) rfl) rfl
theorem tw_2_205 : (Cond.instanceMethod ⟨"java/util/ArrayList", "add", "(Ljava/lang/Object;[Ljava/lang/Object;I)V"⟩) ∈ fs_ws := fs_t2 (List.mem_of_getElem? (i := 205) rfl) rfl
theorem tw_2_206 : (Cond.code ⟨"java/util/ArrayList", "add", "(Ljava/lang/Object;[Ljava/lang/Object;I)V"⟩ prog_29_method_24_code 4 (Option.none : Option FieldType)) ∈ fs_ws := fs_t2 (List.mem_of_getElem? (i := 206) rfl) rfl
theorem tw_2_207 : (Cond.methodLink "java/util/ArrayList" 129 ⟨"java/util/ArrayList", "grow", "()[Ljava/lang/Object;"⟩) ∈ fs_ws := fs_t2 (List.mem_of_getElem? (i := 207) rfl) rfl
theorem tw_2_209 : (Cond.instanceMethod ⟨"java/util/ArrayList", "grow", "()[Ljava/lang/Object;"⟩) ∈ fs_ws := fs_t2 (List.mem_of_getElem? (i := 209) rfl) rfl
theorem tw_2_210 : (Cond.code ⟨"java/util/ArrayList", "grow", "()[Ljava/lang/Object;"⟩ prog_29_method_7_code 1 (Option.some (FieldType.array (FieldType.object "java/lang/Object")))) ∈ fs_ws := fs_t2 (List.mem_of_getElem? (i := 210) rfl) rfl
theorem tw_2_211 : (Cond.methodLink "java/util/ArrayList" 69 ⟨"java/util/ArrayList", "grow", "(I)[Ljava/lang/Object;"⟩) ∈ fs_ws := fs_t2 (List.mem_of_getElem? (i := 211) rfl) rfl
theorem tw_2_213 : (Cond.instanceMethod ⟨"java/util/ArrayList", "grow", "(I)[Ljava/lang/Object;"⟩) ∈ fs_ws := fs_t2 (List.mem_of_getElem? (i := 213) rfl) rfl
theorem tw_2_214 : (Cond.code ⟨"java/util/ArrayList", "grow", "(I)[Ljava/lang/Object;"⟩ prog_29_method_6_code 4 (Option.some (FieldType.array (FieldType.object "java/lang/Object")))) ∈ fs_ws := fs_t2 (List.mem_of_getElem? (i := 214) rfl) rfl
theorem tw_2_215 : (Cond.methodLink "java/util/ArrayList" 73 ⟨"jdk/internal/util/ArraysSupport", "newLength", "(III)I"⟩) ∈ fs_ws := fs_t2 (List.mem_of_getElem? (i := 215) rfl) rfl
theorem tw_2_216 : (Cond.static ⟨"jdk/internal/util/ArraysSupport", "newLength", "(III)I"⟩) ∈ fs_ws := fs_t2 (List.mem_of_getElem? (i := 216) rfl) rfl
theorem tw_2_217 : (Cond.code ⟨"jdk/internal/util/ArraysSupport", "newLength", "(III)I"⟩ prog_36_method_27_code 4 (Option.some FieldType.int)) ∈ fs_ws := fs_t2 (List.mem_of_getElem? (i := 217) rfl) rfl
theorem tw_2_218 : (Cond.methodLink "jdk/internal/util/ArraysSupport" 194 ⟨"java/lang/Math", "max", "(II)I"⟩) ∈ fs_ws := fs_t2 (List.mem_of_getElem? (i := 218) rfl) rfl
theorem tw_2_219 : (Cond.static ⟨"java/lang/Math", "max", "(II)I"⟩) ∈ fs_ws := fs_t2 (List.mem_of_getElem? (i := 219) rfl) rfl
theorem tw_2_220 : (Cond.code ⟨"java/lang/Math", "max", "(II)I"⟩ prog_21_method_65_code 2 (Option.some FieldType.int)) ∈ fs_ws := fs_t2 (List.mem_of_getElem? (i := 220) rfl) rfl
theorem tw_2_221 : (Cond.constant "jdk/internal/util/ArraysSupport" 200 (2147483639 : Int32)) ∈ fs_ws := fs_t2 (List.mem_of_getElem? (i := 221) rfl) rfl
theorem tw_2_222 : (Cond.methodLink "jdk/internal/util/ArraysSupport" 201 ⟨"jdk/internal/util/ArraysSupport", "hugeLength", "(II)I"⟩) ∈ fs_ws := fs_t2 (List.mem_of_getElem? (i := 222) rfl) rfl
theorem tw_2_223 : (Cond.static ⟨"jdk/internal/util/ArraysSupport", "hugeLength", "(II)I"⟩) ∈ fs_ws := fs_t2 (List.mem_of_getElem? (i := 223) rfl) rfl
theorem tw_2_224 : (Cond.code ⟨"jdk/internal/util/ArraysSupport", "hugeLength", "(II)I"⟩ prog_36_method_28_code 3 (Option.some FieldType.int)) ∈ fs_ws := fs_t2 (List.mem_of_getElem? (i := 224) rfl) rfl
theorem tw_2_225 : (Cond.methodLink "java/util/ArrayList" 66 ⟨"java/util/Arrays", "copyOf", "([Ljava/lang/Object;I)[Ljava/lang/Object;"⟩) ∈ fs_ws := fs_t2 (List.mem_of_getElem? (i := 225) rfl) rfl
theorem tw_2_226 : (Cond.static ⟨"java/util/Arrays", "copyOf", "([Ljava/lang/Object;I)[Ljava/lang/Object;"⟩) ∈ fs_ws := fs_t2 (List.mem_of_getElem? (i := 226) rfl) rfl
theorem tw_2_227 : (Cond.code ⟨"java/util/Arrays", "copyOf", "([Ljava/lang/Object;I)[Ljava/lang/Object;"⟩ prog_30_method_119_code 2 (Option.some (FieldType.array (FieldType.object "java/lang/Object")))) ∈ fs_ws := fs_t2 (List.mem_of_getElem? (i := 227) rfl) rfl
theorem tw_2_228 : (Cond.methodLink "java/util/Arrays" 86 ⟨"java/lang/Object", "getClass", "()Ljava/lang/Class;"⟩) ∈ fs_ws := fs_t2 (List.mem_of_getElem? (i := 228) rfl) rfl
theorem tw_2_229 : (Cond.instanceMethod ⟨"java/lang/Object", "getClass", "()Ljava/lang/Class;"⟩) ∈ fs_ws := fs_t2 (List.mem_of_getElem? (i := 229) rfl) rfl
theorem tw_2_231 : (Cond.selects "FlowShelf" ⟨"java/lang/Object", "getClass", "()Ljava/lang/Class;"⟩ ⟨"java/lang/Object", "getClass", "()Ljava/lang/Class;"⟩) ∈ fs_ws := fs_t2 (List.mem_of_getElem? (i := 231) rfl) rfl
theorem tw_2_232 : (Cond.selects "FlowShelf$Collector" ⟨"java/lang/Object", "getClass", "()Ljava/lang/Class;"⟩ ⟨"java/lang/Object", "getClass", "()Ljava/lang/Class;"⟩) ∈ fs_ws := fs_t2 (List.mem_of_getElem? (i := 232) rfl) rfl
theorem tw_2_233 : (Cond.selects "FlowShelf$Cursor" ⟨"java/lang/Object", "getClass", "()Ljava/lang/Class;"⟩ ⟨"java/lang/Object", "getClass", "()Ljava/lang/Class;"⟩) ∈ fs_ws := fs_t2 (List.mem_of_getElem? (i := 233) rfl) rfl
theorem tw_2_234 : (Cond.selects "FlowShelf$Exporter" ⟨"java/lang/Object", "getClass", "()Ljava/lang/Class;"⟩ ⟨"java/lang/Object", "getClass", "()Ljava/lang/Class;"⟩) ∈ fs_ws := fs_t2 (List.mem_of_getElem? (i := 234) rfl) rfl
theorem tw_2_235 : (Cond.selects "FlowShelf$Flow" ⟨"java/lang/Object", "getClass", "()Ljava/lang/Class;"⟩ ⟨"java/lang/Object", "getClass", "()Ljava/lang/Class;"⟩) ∈ fs_ws := fs_t2 (List.mem_of_getElem? (i := 235) rfl) rfl
theorem tw_2_236 : (Cond.selects "FlowShelf$Layout" ⟨"java/lang/Object", "getClass", "()Ljava/lang/Class;"⟩ ⟨"java/lang/Object", "getClass", "()Ljava/lang/Class;"⟩) ∈ fs_ws := fs_t2 (List.mem_of_getElem? (i := 236) rfl) rfl
theorem tw_2_237 : (Cond.selects "FlowShelf$Ledger" ⟨"java/lang/Object", "getClass", "()Ljava/lang/Class;"⟩ ⟨"java/lang/Object", "getClass", "()Ljava/lang/Class;"⟩) ∈ fs_ws := fs_t2 (List.mem_of_getElem? (i := 237) rfl) rfl
theorem tw_2_238 : (Cond.selects "FlowShelf$Report" ⟨"java/lang/Object", "getClass", "()Ljava/lang/Class;"⟩ ⟨"java/lang/Object", "getClass", "()Ljava/lang/Class;"⟩) ∈ fs_ws := fs_t2 (List.mem_of_getElem? (i := 238) rfl) rfl
theorem tw_2_239 : (Cond.selects "FlowShelf$Row" ⟨"java/lang/Object", "getClass", "()Ljava/lang/Class;"⟩ ⟨"java/lang/Object", "getClass", "()Ljava/lang/Class;"⟩) ∈ fs_ws := fs_t2 (List.mem_of_getElem? (i := 239) rfl) rfl
theorem tw_3_0 : (Cond.selects "FlowShelf$Slot" ⟨"java/lang/Object", "getClass", "()Ljava/lang/Class;"⟩ ⟨"java/lang/Object", "getClass", "()Ljava/lang/Class;"⟩) ∈ fs_ws := fs_t3 (List.mem_of_getElem? (i := 0) rfl) rfl
theorem tw_3_1 : (Cond.selects "FlowShelf$Table" ⟨"java/lang/Object", "getClass", "()Ljava/lang/Class;"⟩ ⟨"java/lang/Object", "getClass", "()Ljava/lang/Class;"⟩) ∈ fs_ws := fs_t3 (List.mem_of_getElem? (i := 1) rfl) rfl
theorem tw_3_2 : (Cond.selects "FlowShelfModel" ⟨"java/lang/Object", "getClass", "()Ljava/lang/Class;"⟩ ⟨"java/lang/Object", "getClass", "()Ljava/lang/Class;"⟩) ∈ fs_ws := fs_t3 (List.mem_of_getElem? (i := 2) rfl) rfl
theorem tw_3_3 : (Cond.selects "java/lang/IllegalArgumentException" ⟨"java/lang/Object", "getClass", "()Ljava/lang/Class;"⟩ ⟨"java/lang/Object", "getClass", "()Ljava/lang/Class;"⟩) ∈ fs_ws := fs_t3 (List.mem_of_getElem? (i := 3) rfl) rfl
theorem tw_3_4 : (Cond.selects "java/lang/IllegalStateException" ⟨"java/lang/Object", "getClass", "()Ljava/lang/Class;"⟩ ⟨"java/lang/Object", "getClass", "()Ljava/lang/Class;"⟩) ∈ fs_ws := fs_t3 (List.mem_of_getElem? (i := 4) rfl) rfl
theorem tw_3_5 : (Cond.selects "java/lang/IndexOutOfBoundsException" ⟨"java/lang/Object", "getClass", "()Ljava/lang/Class;"⟩ ⟨"java/lang/Object", "getClass", "()Ljava/lang/Class;"⟩) ∈ fs_ws := fs_t3 (List.mem_of_getElem? (i := 5) rfl) rfl
theorem tw_3_6 : (Cond.selects "java/lang/UnsupportedOperationException" ⟨"java/lang/Object", "getClass", "()Ljava/lang/Class;"⟩ ⟨"java/lang/Object", "getClass", "()Ljava/lang/Class;"⟩) ∈ fs_ws := fs_t3 (List.mem_of_getElem? (i := 6) rfl) rfl
theorem tw_3_7 : (Cond.selects "java/util/ArrayList" ⟨"java/lang/Object", "getClass", "()Ljava/lang/Class;"⟩ ⟨"java/lang/Object", "getClass", "()Ljava/lang/Class;"⟩) ∈ fs_ws := fs_t3 (List.mem_of_getElem? (i := 7) rfl) rfl
theorem tw_3_8 : (Cond.native ⟨"java/lang/Object", "getClass", "()Ljava/lang/Class;"⟩) ∈ fs_ws := fs_t3 (List.mem_of_getElem? (i := 8) rfl) rfl
theorem tw_3_9 : (Cond.methodLink "java/util/Arrays" 300 ⟨"java/util/Arrays", "copyOf", "([Ljava/lang/Object;ILjava/lang/Class;)[Ljava/lang/Object;"⟩) ∈ fs_ws := fs_t3 (List.mem_of_getElem? (i := 9) rfl) rfl
theorem tw_3_10 : (Cond.static ⟨"java/util/Arrays", "copyOf", "([Ljava/lang/Object;ILjava/lang/Class;)[Ljava/lang/Object;"⟩) ∈ fs_ws := fs_t3 (List.mem_of_getElem? (i := 10) rfl) rfl
theorem tw_3_11 : (Cond.code ⟨"java/util/Arrays", "copyOf", "([Ljava/lang/Object;ILjava/lang/Class;)[Ljava/lang/Object;"⟩ prog_30_method_120_code 4 (Option.some (FieldType.array (FieldType.object "java/lang/Object")))) ∈ fs_ws := fs_t3 (List.mem_of_getElem? (i := 11) rfl) rfl
theorem tw_3_12 : (Cond.classLink "java/util/Arrays" 110 "[Ljava/lang/Object;") ∈ fs_ws := fs_t3 (List.mem_of_getElem? (i := 12) rfl) rfl
theorem tw_3_14 : (Cond.classLink "java/util/Arrays" 2 "java/lang/Object") ∈ fs_ws := fs_t3 (List.mem_of_getElem? (i := 14) rfl) rfl
theorem tw_3_15 : (Cond.methodLink "java/util/Arrays" 304 ⟨"java/lang/Math", "min", "(II)I"⟩) ∈ fs_ws := fs_t3 (List.mem_of_getElem? (i := 15) rfl) rfl
theorem tw_3_16 : (Cond.static ⟨"java/lang/Math", "min", "(II)I"⟩) ∈ fs_ws := fs_t3 (List.mem_of_getElem? (i := 16) rfl) rfl
theorem tw_3_17 : (Cond.code ⟨"java/lang/Math", "min", "(II)I"⟩ prog_21_method_69_code 2 (Option.some FieldType.int)) ∈ fs_ws := fs_t3 (List.mem_of_getElem? (i := 17) rfl) rfl
theorem tw_3_18 : (Cond.methodLink "java/util/Arrays" 150 ⟨"java/lang/System", "arraycopy", "(Ljava/lang/Object;ILjava/lang/Object;II)V"⟩) ∈ fs_ws := fs_t3 (List.mem_of_getElem? (i := 18) rfl) rfl
theorem tw_3_19 : (Cond.methodLink "java/util/ArrayList" 79 ⟨"java/lang/Math", "max", "(II)I"⟩) ∈ fs_ws := fs_t3 (List.mem_of_getElem? (i := 19) rfl) rfl
theorem tw_3_20 : (Cond.classLink "java/util/ArrayList" 7 "java/lang/Object") ∈ fs_ws := fs_t3 (List.mem_of_getElem? (i := 20) rfl) rfl
theorem tw_3_21 : (Cond.instantiable "FlowShelf$Flow" 9) ∈ fs_ws := fs_t3 (List.mem_of_getElem? (i := 21) rfl) rfl
theorem tw_3_22 : (Cond.methodLink "FlowShelf$Exporter" 60 ⟨"FlowShelf$Flow", "<init>", "(IIII)V"⟩) ∈ fs_ws := fs_t3 (List.mem_of_getElem? (i := 22) rfl) rfl
theorem tw_3_23 : (Cond.instanceMethod ⟨"FlowShelf$Flow", "<init>", "(IIII)V"⟩) ∈ fs_ws := fs_t3 (List.mem_of_getElem? (i := 23) rfl) rfl
theorem tw_3_24 : (Cond.code ⟨"FlowShelf$Flow", "<init>", "(IIII)V"⟩ prog_5_method_1_code 5 (Option.none : Option FieldType)) ∈ fs_ws := fs_t3 (List.mem_of_getElem? (i := 24) rfl) rfl
theorem tw_3_25 : (Cond.methodLink "FlowShelf$Flow" 3 ⟨"java/lang/Object", "<init>", "()V"⟩) ∈ fs_ws := fs_t3 (List.mem_of_getElem? (i := 25) rfl) rfl
theorem tw_3_26 : (Cond.fieldLink "FlowShelf$Flow" 9 "FlowShelf$Flow" "source" "I") ∈ fs_ws := fs_t3 (List.mem_of_getElem? (i := 26) rfl) rfl
theorem tw_3_27 : (Cond.fieldLink "FlowShelf$Flow" 15 "FlowShelf$Flow" "target" "I") ∈ fs_ws := fs_t3 (List.mem_of_getElem? (i := 27) rfl) rfl
theorem tw_3_28 : (Cond.fieldLink "FlowShelf$Flow" 18 "FlowShelf$Flow" "service" "I") ∈ fs_ws := fs_t3 (List.mem_of_getElem? (i := 28) rfl) rfl
theorem tw_3_29 : (Cond.fieldLink "FlowShelf$Flow" 21 "FlowShelf$Flow" "began" "I") ∈ fs_ws := fs_t3 (List.mem_of_getElem? (i := 29) rfl) rfl
theorem tw_3_30 : (Cond.fieldLink "FlowShelf$Flow" 24 "FlowShelf$Flow" "bytes" "I") ∈ fs_ws := fs_t3 (List.mem_of_getElem? (i := 30) rfl) rfl
theorem tw_3_31 : (Cond.fieldLink "FlowShelf$Flow" 27 "FlowShelf$Flow" "packets" "I") ∈ fs_ws := fs_t3 (List.mem_of_getElem? (i := 31) rfl) rfl
theorem tw_3_32 : (Cond.fieldLink "FlowShelf$Flow" 30 "FlowShelf$Flow" "latest" "I") ∈ fs_ws := fs_t3 (List.mem_of_getElem? (i := 32) rfl) rfl
theorem tw_3_33 : (Cond.fieldLink "FlowShelf$Exporter" 78 "FlowShelf$Flow" "latest" "I") ∈ fs_ws := fs_t3 (List.mem_of_getElem? (i := 33) rfl) rfl
theorem tw_3_34 : (Cond.fieldLink "FlowShelf$Flow" 33 "FlowShelf$Flow" "endedAt" "I") ∈ fs_ws := fs_t3 (List.mem_of_getElem? (i := 34) rfl) rfl
theorem tw_3_35 : (Cond.fieldLink "FlowShelf$Exporter" 84 "FlowShelf$Flow" "endedAt" "I") ∈ fs_ws := fs_t3 (List.mem_of_getElem? (i := 35) rfl) rfl
theorem tw_3_36 : (Cond.fieldLink "FlowShelf$Flow" 36 "FlowShelf$Flow" "reason" "I") ∈ fs_ws := fs_t3 (List.mem_of_getElem? (i := 36) rfl) rfl
theorem tw_3_37 : (Cond.fieldLink "FlowShelf$Exporter" 87 "FlowShelf$Flow" "reason" "I") ∈ fs_ws := fs_t3 (List.mem_of_getElem? (i := 37) rfl) rfl
theorem tw_3_57 : (Cond.methodLink "FlowShelf$Exporter" 71 ⟨"FlowShelf$Flow", "addPacket", "(II)V"⟩) ∈ fs_ws := fs_t3 (List.mem_of_getElem? (i := 57) rfl) rfl
theorem tw_3_58 : (Cond.instanceMethod ⟨"FlowShelf$Flow", "addPacket", "(II)V"⟩) ∈ fs_ws := fs_t3 (List.mem_of_getElem? (i := 58) rfl) rfl
theorem tw_3_59 : (Cond.selects "FlowShelf$Flow" ⟨"FlowShelf$Flow", "addPacket", "(II)V"⟩ ⟨"FlowShelf$Flow", "addPacket", "(II)V"⟩) ∈ fs_ws := fs_t3 (List.mem_of_getElem? (i := 59) rfl) rfl
theorem tw_3_60 : (Cond.code ⟨"FlowShelf$Flow", "addPacket", "(II)V"⟩ prog_5_method_3_code 3 (Option.none : Option FieldType)) ∈ fs_ws := fs_t3 (List.mem_of_getElem? (i := 60) rfl) rfl
theorem tw_3_61 : (Cond.methodLink "FlowShelfLaw" 97 ⟨"FlowShelfLaw", "tick", "(LFlowShelf;II[J)I"⟩) ∈ fs_ws := fs_t3 (List.mem_of_getElem? (i := 61) rfl) rfl
theorem tw_3_62 : (Cond.static ⟨"FlowShelfLaw", "tick", "(LFlowShelf;II[J)I"⟩) ∈ fs_ws := fs_t3 (List.mem_of_getElem? (i := 62) rfl) rfl
theorem tw_3_63 : (Cond.codeWith ⟨"FlowShelfLaw", "tick", "(LFlowShelf;II[J)I"⟩ method_4_code 5 (Option.some FieldType.int) [(0, 10, 13, 13)]) ∈ fs_ws := fs_t3 (List.mem_of_getElem? (i := 63) rfl) rfl
theorem tw_3_64 : (Cond.methodLink "FlowShelfLaw" 17 ⟨"FlowShelf", "tick", "(II)I"⟩) ∈ fs_ws := fs_t3 (List.mem_of_getElem? (i := 64) rfl) rfl
theorem tw_3_65 : (Cond.instanceMethod ⟨"FlowShelf", "tick", "(II)I"⟩) ∈ fs_ws := fs_t3 (List.mem_of_getElem? (i := 65) rfl) rfl
theorem tw_3_66 : (Cond.selects "FlowShelf" ⟨"FlowShelf", "tick", "(II)I"⟩ ⟨"FlowShelf", "tick", "(II)I"⟩) ∈ fs_ws := fs_t3 (List.mem_of_getElem? (i := 66) rfl) rfl
theorem tw_3_67 : (Cond.code ⟨"FlowShelf", "tick", "(II)I"⟩ prog_1_method_3_code 6 (Option.some FieldType.int)) ∈ fs_ws := fs_t3 (List.mem_of_getElem? (i := 67) rfl) rfl
theorem tw_3_69 : (Cond.methodLink "FlowShelf" 71 ⟨"FlowShelf$Exporter", "passTick", "()I"⟩) ∈ fs_ws := fs_t3 (List.mem_of_getElem? (i := 69) rfl) rfl
theorem tw_3_70 : (Cond.instanceMethod ⟨"FlowShelf$Exporter", "passTick", "()I"⟩) ∈ fs_ws := fs_t3 (List.mem_of_getElem? (i := 70) rfl) rfl
theorem tw_3_71 : (Cond.selects "FlowShelf$Exporter" ⟨"FlowShelf$Exporter", "passTick", "()I"⟩ ⟨"FlowShelf$Exporter", "passTick", "()I"⟩) ∈ fs_ws := fs_t3 (List.mem_of_getElem? (i := 71) rfl) rfl
theorem tw_3_72 : (Cond.code ⟨"FlowShelf$Exporter", "passTick", "()I"⟩ prog_4_method_9_code 5 (Option.some FieldType.int)) ∈ fs_ws := fs_t3 (List.mem_of_getElem? (i := 72) rfl) rfl
theorem tw_3_73 : (Cond.methodLink "FlowShelf$Exporter" 90 ⟨"FlowShelf$Flow", "reasonToEnd", "(I)I"⟩) ∈ fs_ws := fs_t3 (List.mem_of_getElem? (i := 73) rfl) rfl
theorem tw_3_74 : (Cond.instanceMethod ⟨"FlowShelf$Flow", "reasonToEnd", "(I)I"⟩) ∈ fs_ws := fs_t3 (List.mem_of_getElem? (i := 74) rfl) rfl
theorem tw_3_75 : (Cond.selects "FlowShelf$Flow" ⟨"FlowShelf$Flow", "reasonToEnd", "(I)I"⟩ ⟨"FlowShelf$Flow", "reasonToEnd", "(I)I"⟩) ∈ fs_ws := fs_t3 (List.mem_of_getElem? (i := 75) rfl) rfl
theorem tw_3_76 : (Cond.code ⟨"FlowShelf$Flow", "reasonToEnd", "(I)I"⟩ prog_5_method_4_code 2 (Option.some FieldType.int)) ∈ fs_ws := fs_t3 (List.mem_of_getElem? (i := 76) rfl) rfl
theorem tw_3_77 : (Cond.methodLink "FlowShelfLaw" 101 ⟨"FlowShelfLaw", "flush", "(LFlowShelf;I[J)I"⟩) ∈ fs_ws := fs_t3 (List.mem_of_getElem? (i := 77) rfl) rfl
theorem tw_3_78 : (Cond.static ⟨"FlowShelfLaw", "flush", "(LFlowShelf;I[J)I"⟩) ∈ fs_ws := fs_t3 (List.mem_of_getElem? (i := 78) rfl) rfl
theorem tw_3_79 : (Cond.codeWith ⟨"FlowShelfLaw", "flush", "(LFlowShelf;I[J)I"⟩ method_5_code 4 (Option.some FieldType.int) [(0, 9, 12, 13)]) ∈ fs_ws := fs_t3 (List.mem_of_getElem? (i := 79) rfl) rfl
theorem tw_3_80 : (Cond.methodLink "FlowShelfLaw" 21 ⟨"FlowShelf", "flush", "(I)I"⟩) ∈ fs_ws := fs_t3 (List.mem_of_getElem? (i := 80) rfl) rfl
theorem tw_3_81 : (Cond.instanceMethod ⟨"FlowShelf", "flush", "(I)I"⟩) ∈ fs_ws := fs_t3 (List.mem_of_getElem? (i := 81) rfl) rfl
theorem tw_3_82 : (Cond.selects "FlowShelf" ⟨"FlowShelf", "flush", "(I)I"⟩ ⟨"FlowShelf", "flush", "(I)I"⟩) ∈ fs_ws := fs_t3 (List.mem_of_getElem? (i := 82) rfl) rfl
theorem tw_3_83 : (Cond.code ⟨"FlowShelf", "flush", "(I)I"⟩ prog_1_method_4_code 2 (Option.some FieldType.int)) ∈ fs_ws := fs_t3 (List.mem_of_getElem? (i := 83) rfl) rfl
theorem tw_3_84 : (Cond.methodLink "FlowShelf" 74 ⟨"FlowShelf$Exporter", "flushCache", "()I"⟩) ∈ fs_ws := fs_t3 (List.mem_of_getElem? (i := 84) rfl) rfl
theorem tw_3_85 : (Cond.instanceMethod ⟨"FlowShelf$Exporter", "flushCache", "()I"⟩) ∈ fs_ws := fs_t3 (List.mem_of_getElem? (i := 85) rfl) rfl
theorem tw_3_86 : (Cond.selects "FlowShelf$Exporter" ⟨"FlowShelf$Exporter", "flushCache", "()I"⟩ ⟨"FlowShelf$Exporter", "flushCache", "()I"⟩) ∈ fs_ws := fs_t3 (List.mem_of_getElem? (i := 86) rfl) rfl
theorem tw_3_87 : (Cond.code ⟨"FlowShelf$Exporter", "flushCache", "()I"⟩ prog_4_method_10_code 3 (Option.some FieldType.int)) ∈ fs_ws := fs_t3 (List.mem_of_getElem? (i := 87) rfl) rfl
theorem tw_3_88 : (Cond.methodLink "FlowShelfLaw" 105 ⟨"FlowShelfLaw", "sampler", "(LFlowShelf;II)I"⟩) ∈ fs_ws := fs_t3 (List.mem_of_getElem? (i := 88) rfl) rfl
theorem tw_3_89 : (Cond.static ⟨"FlowShelfLaw", "sampler", "(LFlowShelf;II)I"⟩) ∈ fs_ws := fs_t3 (List.mem_of_getElem? (i := 89) rfl) rfl
theorem tw_3_90 : (Cond.codeWith ⟨"FlowShelfLaw", "sampler", "(LFlowShelf;II)I"⟩ method_6_code 4 (Option.some FieldType.int) [(0, 6, 9, 13)]) ∈ fs_ws := fs_t3 (List.mem_of_getElem? (i := 90) rfl) rfl
theorem tw_3_91 : (Cond.methodLink "FlowShelfLaw" 25 ⟨"FlowShelf", "sampler", "(II)V"⟩) ∈ fs_ws := fs_t3 (List.mem_of_getElem? (i := 91) rfl) rfl
theorem tw_3_92 : (Cond.instanceMethod ⟨"FlowShelf", "sampler", "(II)V"⟩) ∈ fs_ws := fs_t3 (List.mem_of_getElem? (i := 92) rfl) rfl
theorem tw_3_93 : (Cond.selects "FlowShelf" ⟨"FlowShelf", "sampler", "(II)V"⟩ ⟨"FlowShelf", "sampler", "(II)V"⟩) ∈ fs_ws := fs_t3 (List.mem_of_getElem? (i := 93) rfl) rfl
theorem tw_3_94 : (Cond.code ⟨"FlowShelf", "sampler", "(II)V"⟩ prog_1_method_5_code 4 (Option.none : Option FieldType)) ∈ fs_ws := fs_t3 (List.mem_of_getElem? (i := 94) rfl) rfl
theorem tw_3_96 : (Cond.methodLink "FlowShelf" 79 ⟨"FlowShelf$Exporter", "sampleEvery", "(I)V"⟩) ∈ fs_ws := fs_t3 (List.mem_of_getElem? (i := 96) rfl) rfl
theorem tw_3_97 : (Cond.instanceMethod ⟨"FlowShelf$Exporter", "sampleEvery", "(I)V"⟩) ∈ fs_ws := fs_t3 (List.mem_of_getElem? (i := 97) rfl) rfl
theorem tw_3_98 : (Cond.selects "FlowShelf$Exporter" ⟨"FlowShelf$Exporter", "sampleEvery", "(I)V"⟩ ⟨"FlowShelf$Exporter", "sampleEvery", "(I)V"⟩) ∈ fs_ws := fs_t3 (List.mem_of_getElem? (i := 98) rfl) rfl
theorem tw_3_99 : (Cond.code ⟨"FlowShelf$Exporter", "sampleEvery", "(I)V"⟩ prog_4_method_3_code 2 (Option.none : Option FieldType)) ∈ fs_ws := fs_t3 (List.mem_of_getElem? (i := 99) rfl) rfl
theorem tw_3_100 : (Cond.methodLink "FlowShelfLaw" 109 ⟨"FlowShelfLaw", "ended", "(LFlowShelf;III[J)I"⟩) ∈ fs_ws := fs_t3 (List.mem_of_getElem? (i := 100) rfl) rfl
theorem tw_3_101 : (Cond.static ⟨"FlowShelfLaw", "ended", "(LFlowShelf;III[J)I"⟩) ∈ fs_ws := fs_t3 (List.mem_of_getElem? (i := 101) rfl) rfl
theorem tw_3_102 : (Cond.codeWith ⟨"FlowShelfLaw", "ended", "(LFlowShelf;III[J)I"⟩ method_7_code 6 (Option.some FieldType.int) [(0, 12, 15, 13), (0, 12, 19, 33)]) ∈ fs_ws := fs_t3 (List.mem_of_getElem? (i := 102) rfl) rfl
theorem tw_3_103 : (Cond.classLink "FlowShelfLaw" 33 "java/lang/IndexOutOfBoundsException") ∈ fs_ws := fs_t3 (List.mem_of_getElem? (i := 103) rfl) rfl
theorem tw_3_104 : (Cond.methodLink "FlowShelfLaw" 29 ⟨"FlowShelf", "ended", "(III)I"⟩) ∈ fs_ws := fs_t3 (List.mem_of_getElem? (i := 104) rfl) rfl
theorem tw_3_105 : (Cond.instanceMethod ⟨"FlowShelf", "ended", "(III)I"⟩) ∈ fs_ws := fs_t3 (List.mem_of_getElem? (i := 105) rfl) rfl
theorem tw_3_106 : (Cond.selects "FlowShelf" ⟨"FlowShelf", "ended", "(III)I"⟩ ⟨"FlowShelf", "ended", "(III)I"⟩) ∈ fs_ws := fs_t3 (List.mem_of_getElem? (i := 106) rfl) rfl
theorem tw_3_107 : (Cond.code ⟨"FlowShelf", "ended", "(III)I"⟩ prog_1_method_6_code 5 (Option.some FieldType.int)) ∈ fs_ws := fs_t3 (List.mem_of_getElem? (i := 107) rfl) rfl
theorem tw_3_108 : (Cond.methodLink "FlowShelf" 82 ⟨"FlowShelf", "requireField", "(I)V"⟩) ∈ fs_ws := fs_t3 (List.mem_of_getElem? (i := 108) rfl) rfl
theorem tw_3_109 : (Cond.static ⟨"FlowShelf", "requireField", "(I)V"⟩) ∈ fs_ws := fs_t3 (List.mem_of_getElem? (i := 109) rfl) rfl
theorem tw_3_110 : (Cond.code ⟨"FlowShelf", "requireField", "(I)V"⟩ prog_1_method_25_code 1 (Option.none : Option FieldType)) ∈ fs_ws := fs_t3 (List.mem_of_getElem? (i := 110) rfl) rfl
theorem tw_3_112 : (Cond.classLink "FlowShelf" 91 "java/lang/IndexOutOfBoundsException") ∈ fs_ws := fs_t3 (List.mem_of_getElem? (i := 112) rfl) rfl
theorem tw_3_113 : (Cond.instantiable "java/lang/IndexOutOfBoundsException" 6) ∈ fs_ws := fs_t3 (List.mem_of_getElem? (i := 113) rfl) rfl
theorem tw_3_115 : (Cond.selects "java/lang/IndexOutOfBoundsException" ⟨"java/lang/Throwable", "fillInStackTrace", "(I)Ljava/lang/Throwable;"⟩ ⟨"java/lang/Throwable", "fillInStackTrace", "(I)Ljava/lang/Throwable;"⟩) ∈ fs_ws := fs_t3 (List.mem_of_getElem? (i := 115) rfl) rfl
theorem tw_3_122 : (Cond.methodLink "FlowShelf" 95 ⟨"java/lang/IndexOutOfBoundsException", "<init>", "(Ljava/lang/String;)V"⟩) ∈ fs_ws := fs_t3 (List.mem_of_getElem? (i := 122) rfl) rfl
theorem tw_3_123 : (Cond.instanceMethod ⟨"java/lang/IndexOutOfBoundsException", "<init>", "(Ljava/lang/String;)V"⟩) ∈ fs_ws := fs_t3 (List.mem_of_getElem? (i := 123) rfl) rfl
theorem tw_3_124 : (Cond.code ⟨"java/lang/IndexOutOfBoundsException", "<init>", "(Ljava/lang/String;)V"⟩ prog_19_method_2_code 2 (Option.none : Option FieldType)) ∈ fs_ws := fs_t3 (List.mem_of_getElem? (i := 124) rfl) rfl
theorem tw_3_125 : (Cond.methodLink "java/lang/IndexOutOfBoundsException" 7 ⟨"java/lang/RuntimeException", "<init>", "(Ljava/lang/String;)V"⟩) ∈ fs_ws := fs_t3 (List.mem_of_getElem? (i := 125) rfl) rfl
theorem tw_3_128 : (Cond.classLink "FlowShelf" 100 "FlowShelf$Flow") ∈ fs_ws := fs_t3 (List.mem_of_getElem? (i := 128) rfl) rfl
theorem tw_3_129 : (Cond.methodLink "FlowShelf" 102 ⟨"FlowShelf$Flow", "valueOf", "(I)I"⟩) ∈ fs_ws := fs_t3 (List.mem_of_getElem? (i := 129) rfl) rfl
theorem tw_3_130 : (Cond.instanceMethod ⟨"FlowShelf$Flow", "valueOf", "(I)I"⟩) ∈ fs_ws := fs_t3 (List.mem_of_getElem? (i := 130) rfl) rfl
theorem tw_3_131 : (Cond.selects "FlowShelf$Flow" ⟨"FlowShelf$Flow", "valueOf", "(I)I"⟩ ⟨"FlowShelf$Flow", "valueOf", "(I)I"⟩) ∈ fs_ws := fs_t3 (List.mem_of_getElem? (i := 131) rfl) rfl
theorem tw_3_132 : (Cond.code ⟨"FlowShelf$Flow", "valueOf", "(I)I"⟩ prog_5_method_5_code 2 (Option.some FieldType.int)) ∈ fs_ws := fs_t3 (List.mem_of_getElem? (i := 132) rfl) rfl
theorem tw_3_133 : (Cond.methodLink "FlowShelfLaw" 113 ⟨"FlowShelfLaw", "field", "(LFlowShelf;IIII[J)I"⟩) ∈ fs_ws := fs_t3 (List.mem_of_getElem? (i := 133) rfl) rfl
theorem tw_3_134 : (Cond.static ⟨"FlowShelfLaw", "field", "(LFlowShelf;IIII[J)I"⟩) ∈ fs_ws := fs_t3 (List.mem_of_getElem? (i := 134) rfl) rfl
theorem tw_3_135 : (Cond.codeWith ⟨"FlowShelfLaw", "field", "(LFlowShelf;IIII[J)I"⟩ method_8_code 7 (Option.some FieldType.int) [(0, 14, 17, 13), (0, 14, 21, 15)]) ∈ fs_ws := fs_t3 (List.mem_of_getElem? (i := 135) rfl) rfl
theorem tw_3_136 : (Cond.methodLink "FlowShelfLaw" 35 ⟨"FlowShelf", "field", "(IIII)I"⟩) ∈ fs_ws := fs_t3 (List.mem_of_getElem? (i := 136) rfl) rfl
theorem tw_3_137 : (Cond.instanceMethod ⟨"FlowShelf", "field", "(IIII)I"⟩) ∈ fs_ws := fs_t3 (List.mem_of_getElem? (i := 137) rfl) rfl
theorem tw_3_138 : (Cond.selects "FlowShelf" ⟨"FlowShelf", "field", "(IIII)I"⟩ ⟨"FlowShelf", "field", "(IIII)I"⟩) ∈ fs_ws := fs_t3 (List.mem_of_getElem? (i := 138) rfl) rfl
theorem tw_3_139 : (Cond.code ⟨"FlowShelf", "field", "(IIII)I"⟩ prog_1_method_7_code 6 (Option.some FieldType.int)) ∈ fs_ws := fs_t3 (List.mem_of_getElem? (i := 139) rfl) rfl
theorem tw_3_140 : (Cond.methodLink "FlowShelf" 106 ⟨"FlowShelf", "slotOf", "(II)LFlowShelf$Slot;"⟩) ∈ fs_ws := fs_t3 (List.mem_of_getElem? (i := 140) rfl) rfl
theorem tw_3_142 : (Cond.instanceMethod ⟨"FlowShelf", "slotOf", "(II)LFlowShelf$Slot;"⟩) ∈ fs_ws := fs_t3 (List.mem_of_getElem? (i := 142) rfl) rfl
theorem tw_3_143 : (Cond.code ⟨"FlowShelf", "slotOf", "(II)LFlowShelf$Slot;"⟩ prog_1_method_28_code 4 (Option.some (FieldType.object "FlowShelf$Slot"))) ∈ fs_ws := fs_t3 (List.mem_of_getElem? (i := 143) rfl) rfl
theorem tw_3_146 : (Cond.fieldLink "FlowShelf" 112 "FlowShelf" "LEAST_LENGTH" "[I") ∈ fs_ws := fs_t3 (List.mem_of_getElem? (i := 146) rfl) rfl
theorem tw_3_149 : (Cond.methodLink "FlowShelf" 124 ⟨"FlowShelf$Layout", "has", "(I)Z"⟩) ∈ fs_ws := fs_t3 (List.mem_of_getElem? (i := 149) rfl) rfl
theorem tw_3_150 : (Cond.instanceMethod ⟨"FlowShelf$Layout", "has", "(I)Z"⟩) ∈ fs_ws := fs_t3 (List.mem_of_getElem? (i := 150) rfl) rfl
theorem tw_3_151 : (Cond.selects "FlowShelf$Layout" ⟨"FlowShelf$Layout", "has", "(I)Z"⟩ ⟨"FlowShelf$Layout", "has", "(I)Z"⟩) ∈ fs_ws := fs_t3 (List.mem_of_getElem? (i := 151) rfl) rfl
theorem tw_3_152 : (Cond.code ⟨"FlowShelf$Layout", "has", "(I)Z"⟩ prog_6_method_2_code 3 (Option.some FieldType.boolean)) ∈ fs_ws := fs_t3 (List.mem_of_getElem? (i := 152) rfl) rfl
theorem tw_3_154 : (Cond.methodLink "FlowShelf" 131 ⟨"FlowShelf$Layout", "append", "(II)V"⟩) ∈ fs_ws := fs_t3 (List.mem_of_getElem? (i := 154) rfl) rfl
theorem tw_3_155 : (Cond.instanceMethod ⟨"FlowShelf$Layout", "append", "(II)V"⟩) ∈ fs_ws := fs_t3 (List.mem_of_getElem? (i := 155) rfl) rfl
theorem tw_3_156 : (Cond.selects "FlowShelf$Layout" ⟨"FlowShelf$Layout", "append", "(II)V"⟩ ⟨"FlowShelf$Layout", "append", "(II)V"⟩) ∈ fs_ws := fs_t3 (List.mem_of_getElem? (i := 156) rfl) rfl
theorem tw_3_157 : (Cond.code ⟨"FlowShelf$Layout", "append", "(II)V"⟩ prog_6_method_3_code 3 (Option.none : Option FieldType)) ∈ fs_ws := fs_t3 (List.mem_of_getElem? (i := 157) rfl) rfl
theorem tw_3_158 : (Cond.methodLink "FlowShelfLaw" 117 ⟨"FlowShelfLaw", "seal", "(LFlowShelf;II[J)I"⟩) ∈ fs_ws := fs_t3 (List.mem_of_getElem? (i := 158) rfl) rfl
theorem tw_3_159 : (Cond.static ⟨"FlowShelfLaw", "seal", "(LFlowShelf;II[J)I"⟩) ∈ fs_ws := fs_t3 (List.mem_of_getElem? (i := 159) rfl) rfl
theorem tw_3_160 : (Cond.codeWith ⟨"FlowShelfLaw", "seal", "(LFlowShelf;II[J)I"⟩ method_9_code 5 (Option.some FieldType.int) [(0, 10, 13, 13), (0, 10, 17, 15)]) ∈ fs_ws := fs_t3 (List.mem_of_getElem? (i := 160) rfl) rfl
theorem tw_3_161 : (Cond.methodLink "FlowShelfLaw" 39 ⟨"FlowShelf", "seal", "(II)I"⟩) ∈ fs_ws := fs_t3 (List.mem_of_getElem? (i := 161) rfl) rfl
theorem tw_3_162 : (Cond.instanceMethod ⟨"FlowShelf", "seal", "(II)I"⟩) ∈ fs_ws := fs_t3 (List.mem_of_getElem? (i := 162) rfl) rfl
theorem tw_3_163 : (Cond.selects "FlowShelf" ⟨"FlowShelf", "seal", "(II)I"⟩ ⟨"FlowShelf", "seal", "(II)I"⟩) ∈ fs_ws := fs_t3 (List.mem_of_getElem? (i := 163) rfl) rfl
theorem tw_3_164 : (Cond.code ⟨"FlowShelf", "seal", "(II)I"⟩ prog_1_method_8_code 4 (Option.some FieldType.int)) ∈ fs_ws := fs_t3 (List.mem_of_getElem? (i := 164) rfl) rfl
theorem tw_3_166 : (Cond.methodLink "FlowShelf" 145 ⟨"FlowShelf$Exporter", "nextSeal", "()I"⟩) ∈ fs_ws := fs_t3 (List.mem_of_getElem? (i := 166) rfl) rfl
theorem tw_3_167 : (Cond.instanceMethod ⟨"FlowShelf$Exporter", "nextSeal", "()I"⟩) ∈ fs_ws := fs_t3 (List.mem_of_getElem? (i := 167) rfl) rfl
theorem tw_3_168 : (Cond.selects "FlowShelf$Exporter" ⟨"FlowShelf$Exporter", "nextSeal", "()I"⟩ ⟨"FlowShelf$Exporter", "nextSeal", "()I"⟩) ∈ fs_ws := fs_t3 (List.mem_of_getElem? (i := 168) rfl) rfl
theorem tw_3_169 : (Cond.code ⟨"FlowShelf$Exporter", "nextSeal", "()I"⟩ prog_4_method_11_code 1 (Option.some FieldType.int)) ∈ fs_ws := fs_t3 (List.mem_of_getElem? (i := 169) rfl) rfl
theorem tw_3_170 : (Cond.methodLink "FlowShelf" 148 ⟨"FlowShelf$Slot", "putInForce", "(I)V"⟩) ∈ fs_ws := fs_t3 (List.mem_of_getElem? (i := 170) rfl) rfl
theorem tw_3_171 : (Cond.instanceMethod ⟨"FlowShelf$Slot", "putInForce", "(I)V"⟩) ∈ fs_ws := fs_t3 (List.mem_of_getElem? (i := 171) rfl) rfl
theorem tw_3_172 : (Cond.selects "FlowShelf$Slot" ⟨"FlowShelf$Slot", "putInForce", "(I)V"⟩ ⟨"FlowShelf$Slot", "putInForce", "(I)V"⟩) ∈ fs_ws := fs_t3 (List.mem_of_getElem? (i := 172) rfl) rfl
theorem tw_3_173 : (Cond.code ⟨"FlowShelf$Slot", "putInForce", "(I)V"⟩ prog_10_method_2_code 3 (Option.none : Option FieldType)) ∈ fs_ws := fs_t3 (List.mem_of_getElem? (i := 173) rfl) rfl
theorem tw_3_174 : (Cond.methodLink "FlowShelfLaw" 120 ⟨"FlowShelfLaw", "withdraw", "(LFlowShelf;II)I"⟩) ∈ fs_ws := fs_t3 (List.mem_of_getElem? (i := 174) rfl) rfl
theorem tw_3_175 : (Cond.static ⟨"FlowShelfLaw", "withdraw", "(LFlowShelf;II)I"⟩) ∈ fs_ws := fs_t3 (List.mem_of_getElem? (i := 175) rfl) rfl
theorem tw_3_176 : (Cond.codeWith ⟨"FlowShelfLaw", "withdraw", "(LFlowShelf;II)I"⟩ method_10_code 4 (Option.some FieldType.int) [(0, 6, 9, 13), (0, 6, 12, 15)]) ∈ fs_ws := fs_t3 (List.mem_of_getElem? (i := 176) rfl) rfl
theorem tw_3_177 : (Cond.methodLink "FlowShelfLaw" 42 ⟨"FlowShelf", "withdraw", "(II)V"⟩) ∈ fs_ws := fs_t3 (List.mem_of_getElem? (i := 177) rfl) rfl
theorem tw_3_178 : (Cond.instanceMethod ⟨"FlowShelf", "withdraw", "(II)V"⟩) ∈ fs_ws := fs_t3 (List.mem_of_getElem? (i := 178) rfl) rfl
theorem tw_3_179 : (Cond.selects "FlowShelf" ⟨"FlowShelf", "withdraw", "(II)V"⟩ ⟨"FlowShelf", "withdraw", "(II)V"⟩) ∈ fs_ws := fs_t3 (List.mem_of_getElem? (i := 179) rfl) rfl
theorem tw_3_180 : (Cond.code ⟨"FlowShelf", "withdraw", "(II)V"⟩ prog_1_method_9_code 4 (Option.none : Option FieldType)) ∈ fs_ws := fs_t3 (List.mem_of_getElem? (i := 180) rfl) rfl
theorem tw_3_182 : (Cond.methodLink "FlowShelfLaw" 123 ⟨"FlowShelfLaw", "restart", "(LFlowShelf;I[J)I"⟩) ∈ fs_ws := fs_t3 (List.mem_of_getElem? (i := 182) rfl) rfl
theorem tw_3_183 : (Cond.static ⟨"FlowShelfLaw", "restart", "(LFlowShelf;I[J)I"⟩) ∈ fs_ws := fs_t3 (List.mem_of_getElem? (i := 183) rfl) rfl
theorem tw_3_184 : (Cond.codeWith ⟨"FlowShelfLaw", "restart", "(LFlowShelf;I[J)I"⟩ method_11_code 4 (Option.some FieldType.int) [(0, 9, 12, 13), (0, 9, 15, 15)]) ∈ fs_ws := fs_t3 (List.mem_of_getElem? (i := 184) rfl) rfl
theorem tw_3_185 : (Cond.methodLink "FlowShelfLaw" 45 ⟨"FlowShelf", "restart", "(I)I"⟩) ∈ fs_ws := fs_t3 (List.mem_of_getElem? (i := 185) rfl) rfl
theorem tw_3_186 : (Cond.instanceMethod ⟨"FlowShelf", "restart", "(I)I"⟩) ∈ fs_ws := fs_t3 (List.mem_of_getElem? (i := 186) rfl) rfl
theorem tw_3_187 : (Cond.selects "FlowShelf" ⟨"FlowShelf", "restart", "(I)I"⟩ ⟨"FlowShelf", "restart", "(I)I"⟩) ∈ fs_ws := fs_t3 (List.mem_of_getElem? (i := 187) rfl) rfl
theorem tw_3_188 : (Cond.code ⟨"FlowShelf", "restart", "(I)I"⟩ prog_1_method_10_code 3 (Option.some FieldType.int)) ∈ fs_ws := fs_t3 (List.mem_of_getElem? (i := 188) rfl) rfl
theorem tw_3_190 : (Cond.methodLink "FlowShelf" 161 ⟨"FlowShelf$Exporter", "beginNextEpoch", "()V"⟩) ∈ fs_ws := fs_t3 (List.mem_of_getElem? (i := 190) rfl) rfl
theorem tw_3_191 : (Cond.instanceMethod ⟨"FlowShelf$Exporter", "beginNextEpoch", "()V"⟩) ∈ fs_ws := fs_t3 (List.mem_of_getElem? (i := 191) rfl) rfl
theorem tw_3_192 : (Cond.selects "FlowShelf$Exporter" ⟨"FlowShelf$Exporter", "beginNextEpoch", "()V"⟩ ⟨"FlowShelf$Exporter", "beginNextEpoch", "()V"⟩) ∈ fs_ws := fs_t3 (List.mem_of_getElem? (i := 192) rfl) rfl
theorem tw_3_193 : (Cond.code ⟨"FlowShelf$Exporter", "beginNextEpoch", "()V"⟩ prog_4_method_13_code 2 (Option.none : Option FieldType)) ∈ fs_ws := fs_t3 (List.mem_of_getElem? (i := 193) rfl) rfl
theorem tw_3_194 : (Cond.methodLink "FlowShelf$Exporter" 107 ⟨"java/util/ArrayList", "clear", "()V"⟩) ∈ fs_ws := fs_t3 (List.mem_of_getElem? (i := 194) rfl) rfl
theorem tw_3_195 : (Cond.instanceMethod ⟨"java/util/ArrayList", "clear", "()V"⟩) ∈ fs_ws := fs_t3 (List.mem_of_getElem? (i := 195) rfl) rfl
theorem tw_3_196 : (Cond.selects "java/util/ArrayList" ⟨"java/util/ArrayList", "clear", "()V"⟩ ⟨"java/util/ArrayList", "clear", "()V"⟩) ∈ fs_ws := fs_t3 (List.mem_of_getElem? (i := 196) rfl) rfl
theorem tw_3_197 : (Cond.code ⟨"java/util/ArrayList", "clear", "()V"⟩ prog_29_method_40_code 4 (Option.none : Option FieldType)) ∈ fs_ws := fs_t3 (List.mem_of_getElem? (i := 197) rfl) rfl
theorem tw_3_198 : (Cond.methodLink "FlowShelf$Exporter" 110 ⟨"FlowShelf$Slot", "forget", "()V"⟩) ∈ fs_ws := fs_t3 (List.mem_of_getElem? (i := 198) rfl) rfl
theorem tw_3_199 : (Cond.instanceMethod ⟨"FlowShelf$Slot", "forget", "()V"⟩) ∈ fs_ws := fs_t3 (List.mem_of_getElem? (i := 199) rfl) rfl
theorem tw_3_200 : (Cond.selects "FlowShelf$Slot" ⟨"FlowShelf$Slot", "forget", "()V"⟩ ⟨"FlowShelf$Slot", "forget", "()V"⟩) ∈ fs_ws := fs_t3 (List.mem_of_getElem? (i := 200) rfl) rfl
theorem tw_3_201 : (Cond.code ⟨"FlowShelf$Slot", "forget", "()V"⟩ prog_10_method_3_code 1 (Option.none : Option FieldType)) ∈ fs_ws := fs_t3 (List.mem_of_getElem? (i := 201) rfl) rfl
theorem tw_3_202 : (Cond.methodLink "FlowShelf$Exporter" 113 ⟨"FlowShelf$Exporter", "sampleEvery", "(I)V"⟩) ∈ fs_ws := fs_t3 (List.mem_of_getElem? (i := 202) rfl) rfl
theorem tw_3_203 : (Cond.methodLink "FlowShelfLaw" 126 ⟨"FlowShelfLaw", "announce", "(LFlowShelf;II[J)I"⟩) ∈ fs_ws := fs_t3 (List.mem_of_getElem? (i := 203) rfl) rfl
theorem tw_3_204 : (Cond.static ⟨"FlowShelfLaw", "announce", "(LFlowShelf;II[J)I"⟩) ∈ fs_ws := fs_t3 (List.mem_of_getElem? (i := 204) rfl) rfl
theorem tw_3_205 : (Cond.codeWith ⟨"FlowShelfLaw", "announce", "(LFlowShelf;II[J)I"⟩ method_12_code 5 (Option.some FieldType.int) [(0, 10, 13, 13), (0, 10, 17, 15)]) ∈ fs_ws := fs_t3 (List.mem_of_getElem? (i := 205) rfl) rfl
theorem tw_3_206 : (Cond.methodLink "FlowShelfLaw" 48 ⟨"FlowShelf", "announce", "(II)I"⟩) ∈ fs_ws := fs_t3 (List.mem_of_getElem? (i := 206) rfl) rfl
theorem tw_3_207 : (Cond.instanceMethod ⟨"FlowShelf", "announce", "(II)I"⟩) ∈ fs_ws := fs_t3 (List.mem_of_getElem? (i := 207) rfl) rfl
theorem tw_3_208 : (Cond.selects "FlowShelf" ⟨"FlowShelf", "announce", "(II)I"⟩ ⟨"FlowShelf", "announce", "(II)I"⟩) ∈ fs_ws := fs_t3 (List.mem_of_getElem? (i := 208) rfl) rfl
theorem tw_3_209 : (Cond.code ⟨"FlowShelf", "announce", "(II)I"⟩ prog_1_method_11_code 4 (Option.some FieldType.int)) ∈ fs_ws := fs_t3 (List.mem_of_getElem? (i := 209) rfl) rfl
theorem tw_3_210 : (Cond.methodLink "FlowShelf" 164 ⟨"FlowShelf", "hasNoRoomForReport", "()Z"⟩) ∈ fs_ws := fs_t3 (List.mem_of_getElem? (i := 210) rfl) rfl
theorem tw_3_212 : (Cond.instanceMethod ⟨"FlowShelf", "hasNoRoomForReport", "()Z"⟩) ∈ fs_ws := fs_t3 (List.mem_of_getElem? (i := 212) rfl) rfl
theorem tw_3_213 : (Cond.code ⟨"FlowShelf", "hasNoRoomForReport", "()Z"⟩ prog_1_method_32_code 1 (Option.some FieldType.boolean)) ∈ fs_ws := fs_t3 (List.mem_of_getElem? (i := 213) rfl) rfl
theorem tw_3_215 : (Cond.methodLink "FlowShelf" 169 ⟨"FlowShelf$Exporter", "writeTemplate", "(LFlowShelf$Slot;)LFlowShelf$Report;"⟩) ∈ fs_ws := fs_t3 (List.mem_of_getElem? (i := 215) rfl) rfl
theorem tw_3_216 : (Cond.instanceMethod ⟨"FlowShelf$Exporter", "writeTemplate", "(LFlowShelf$Slot;)LFlowShelf$Report;"⟩) ∈ fs_ws := fs_t3 (List.mem_of_getElem? (i := 216) rfl) rfl
theorem tw_3_217 : (Cond.selects "FlowShelf$Exporter" ⟨"FlowShelf$Exporter", "writeTemplate", "(LFlowShelf$Slot;)LFlowShelf$Report;"⟩ ⟨"FlowShelf$Exporter", "writeTemplate", "(LFlowShelf$Slot;)LFlowShelf$Report;"⟩) ∈ fs_ws := fs_t3 (List.mem_of_getElem? (i := 217) rfl) rfl
theorem tw_3_218 : (Cond.code ⟨"FlowShelf$Exporter", "writeTemplate", "(LFlowShelf$Slot;)LFlowShelf$Report;"⟩ prog_4_method_14_code 4 (Option.some (FieldType.object "FlowShelf$Report"))) ∈ fs_ws := fs_t3 (List.mem_of_getElem? (i := 218) rfl) rfl
theorem tw_3_219 : (Cond.classLink "FlowShelf$Exporter" 122 "FlowShelf$Report") ∈ fs_ws := fs_t3 (List.mem_of_getElem? (i := 219) rfl) rfl
theorem tw_3_220 : (Cond.instantiable "FlowShelf$Report" 2) ∈ fs_ws := fs_t3 (List.mem_of_getElem? (i := 220) rfl) rfl
theorem tw_3_221 : (Cond.methodLink "FlowShelf$Exporter" 124 ⟨"FlowShelf$Report", "<init>", "(III)V"⟩) ∈ fs_ws := fs_t3 (List.mem_of_getElem? (i := 221) rfl) rfl
theorem tw_3_222 : (Cond.instanceMethod ⟨"FlowShelf$Report", "<init>", "(III)V"⟩) ∈ fs_ws := fs_t3 (List.mem_of_getElem? (i := 222) rfl) rfl
theorem tw_3_223 : (Cond.code ⟨"FlowShelf$Report", "<init>", "(III)V"⟩ prog_8_method_1_code 4 (Option.none : Option FieldType)) ∈ fs_ws := fs_t3 (List.mem_of_getElem? (i := 223) rfl) rfl
theorem tw_3_224 : (Cond.methodLink "FlowShelf$Report" 3 ⟨"java/lang/Object", "<init>", "()V"⟩) ∈ fs_ws := fs_t3 (List.mem_of_getElem? (i := 224) rfl) rfl
theorem tw_3_225 : (Cond.fieldLink "FlowShelf$Report" 9 "FlowShelf$Report" "bytes" "[I") ∈ fs_ws := fs_t3 (List.mem_of_getElem? (i := 225) rfl) rfl
theorem tw_3_226 : (Cond.fieldLink "FlowShelf$Cursor" 32 "FlowShelf$Report" "bytes" "[I") ∈ fs_ws := fs_t3 (List.mem_of_getElem? (i := 226) rfl) rfl
theorem tw_3_227 : (Cond.fieldLink "FlowShelf" 211 "FlowShelf$Report" "bytes" "[I") ∈ fs_ws := fs_t3 (List.mem_of_getElem? (i := 227) rfl) rfl
theorem tw_3_228 : (Cond.fieldLink "FlowShelf$Report" 15 "FlowShelf$Report" "used" "I") ∈ fs_ws := fs_t3 (List.mem_of_getElem? (i := 228) rfl) rfl
theorem tw_3_229 : (Cond.fieldLink "FlowShelf$Cursor" 19 "FlowShelf$Report" "used" "I") ∈ fs_ws := fs_t3 (List.mem_of_getElem? (i := 229) rfl) rfl
theorem tw_3_230 : (Cond.fieldLink "FlowShelf" 206 "FlowShelf$Report" "used" "I") ∈ fs_ws := fs_t3 (List.mem_of_getElem? (i := 230) rfl) rfl
theorem tw_3_236 : (Cond.methodLink "FlowShelf$Exporter" 128 ⟨"FlowShelf$Report", "append", "(I)V"⟩) ∈ fs_ws := fs_t3 (List.mem_of_getElem? (i := 236) rfl) rfl
theorem tw_3_237 : (Cond.instanceMethod ⟨"FlowShelf$Report", "append", "(I)V"⟩) ∈ fs_ws := fs_t3 (List.mem_of_getElem? (i := 237) rfl) rfl
theorem tw_3_238 : (Cond.selects "FlowShelf$Report" ⟨"FlowShelf$Report", "append", "(I)V"⟩ ⟨"FlowShelf$Report", "append", "(I)V"⟩) ∈ fs_ws := fs_t3 (List.mem_of_getElem? (i := 238) rfl) rfl
theorem tw_3_239 : (Cond.code ⟨"FlowShelf$Report", "append", "(I)V"⟩ prog_8_method_3_code 2 (Option.none : Option FieldType)) ∈ fs_ws := fs_t3 (List.mem_of_getElem? (i := 239) rfl) rfl
theorem tw_4_0 : (Cond.methodLink "FlowShelf" 173 ⟨"FlowShelf", "keep", "(LFlowShelf$Report;)I"⟩) ∈ fs_ws := fs_t4 (List.mem_of_getElem? (i := 0) rfl) rfl
theorem tw_4_2 : (Cond.instanceMethod ⟨"FlowShelf", "keep", "(LFlowShelf$Report;)I"⟩) ∈ fs_ws := fs_t4 (List.mem_of_getElem? (i := 2) rfl) rfl
theorem tw_4_3 : (Cond.code ⟨"FlowShelf", "keep", "(LFlowShelf$Report;)I"⟩ prog_1_method_33_code 2 (Option.some FieldType.int)) ∈ fs_ws := fs_t4 (List.mem_of_getElem? (i := 3) rfl) rfl
theorem tw_4_4 : (Cond.methodLink "FlowShelf" 314 ⟨"java/util/ArrayList", "add", "(Ljava/lang/Object;)Z"⟩) ∈ fs_ws := fs_t4 (List.mem_of_getElem? (i := 4) rfl) rfl
theorem tw_4_5 : (Cond.methodLink "FlowShelfLaw" 129 ⟨"FlowShelfLaw", "report", "(LFlowShelf;I[J)I"⟩) ∈ fs_ws := fs_t4 (List.mem_of_getElem? (i := 5) rfl) rfl
theorem tw_4_6 : (Cond.static ⟨"FlowShelfLaw", "report", "(LFlowShelf;I[J)I"⟩) ∈ fs_ws := fs_t4 (List.mem_of_getElem? (i := 6) rfl) rfl
theorem tw_4_7 : (Cond.codeWith ⟨"FlowShelfLaw", "report", "(LFlowShelf;I[J)I"⟩ method_13_code 4 (Option.some FieldType.int) [(0, 9, 12, 13), (0, 9, 15, 15)]) ∈ fs_ws := fs_t4 (List.mem_of_getElem? (i := 7) rfl) rfl
theorem tw_4_8 : (Cond.methodLink "FlowShelfLaw" 51 ⟨"FlowShelf", "report", "(I)I"⟩) ∈ fs_ws := fs_t4 (List.mem_of_getElem? (i := 8) rfl) rfl
theorem tw_4_9 : (Cond.instanceMethod ⟨"FlowShelf", "report", "(I)I"⟩) ∈ fs_ws := fs_t4 (List.mem_of_getElem? (i := 9) rfl) rfl
theorem tw_4_10 : (Cond.selects "FlowShelf" ⟨"FlowShelf", "report", "(I)I"⟩ ⟨"FlowShelf", "report", "(I)I"⟩) ∈ fs_ws := fs_t4 (List.mem_of_getElem? (i := 10) rfl) rfl
theorem tw_4_11 : (Cond.code ⟨"FlowShelf", "report", "(I)I"⟩ prog_1_method_12_code 4 (Option.some FieldType.int)) ∈ fs_ws := fs_t4 (List.mem_of_getElem? (i := 11) rfl) rfl
theorem tw_4_12 : (Cond.methodLink "FlowShelf" 177 ⟨"FlowShelf$Exporter", "numberSealedLast", "()I"⟩) ∈ fs_ws := fs_t4 (List.mem_of_getElem? (i := 12) rfl) rfl
theorem tw_4_13 : (Cond.instanceMethod ⟨"FlowShelf$Exporter", "numberSealedLast", "()I"⟩) ∈ fs_ws := fs_t4 (List.mem_of_getElem? (i := 13) rfl) rfl
theorem tw_4_14 : (Cond.selects "FlowShelf$Exporter" ⟨"FlowShelf$Exporter", "numberSealedLast", "()I"⟩ ⟨"FlowShelf$Exporter", "numberSealedLast", "()I"⟩) ∈ fs_ws := fs_t4 (List.mem_of_getElem? (i := 14) rfl) rfl
theorem tw_4_15 : (Cond.code ⟨"FlowShelf$Exporter", "numberSealedLast", "()I"⟩ prog_4_method_12_code 3 (Option.some FieldType.int)) ∈ fs_ws := fs_t4 (List.mem_of_getElem? (i := 15) rfl) rfl
theorem tw_4_16 : (Cond.methodLink "FlowShelf" 180 ⟨"java/util/ArrayList", "isEmpty", "()Z"⟩) ∈ fs_ws := fs_t4 (List.mem_of_getElem? (i := 16) rfl) rfl
theorem tw_4_17 : (Cond.instanceMethod ⟨"java/util/ArrayList", "isEmpty", "()Z"⟩) ∈ fs_ws := fs_t4 (List.mem_of_getElem? (i := 17) rfl) rfl
theorem tw_4_18 : (Cond.selects "java/util/ArrayList" ⟨"java/util/ArrayList", "isEmpty", "()Z"⟩ ⟨"java/util/ArrayList", "isEmpty", "()Z"⟩) ∈ fs_ws := fs_t4 (List.mem_of_getElem? (i := 18) rfl) rfl
theorem tw_4_19 : (Cond.code ⟨"java/util/ArrayList", "isEmpty", "()Z"⟩ prog_29_method_9_code 1 (Option.some FieldType.boolean)) ∈ fs_ws := fs_t4 (List.mem_of_getElem? (i := 19) rfl) rfl
theorem tw_4_21 : (Cond.methodLink "FlowShelf" 192 ⟨"FlowShelf$Exporter", "writeRecords", "(LFlowShelf$Slot;)LFlowShelf$Report;"⟩) ∈ fs_ws := fs_t4 (List.mem_of_getElem? (i := 21) rfl) rfl
theorem tw_4_22 : (Cond.instanceMethod ⟨"FlowShelf$Exporter", "writeRecords", "(LFlowShelf$Slot;)LFlowShelf$Report;"⟩) ∈ fs_ws := fs_t4 (List.mem_of_getElem? (i := 22) rfl) rfl
theorem tw_4_23 : (Cond.selects "FlowShelf$Exporter" ⟨"FlowShelf$Exporter", "writeRecords", "(LFlowShelf$Slot;)LFlowShelf$Report;"⟩ ⟨"FlowShelf$Exporter", "writeRecords", "(LFlowShelf$Slot;)LFlowShelf$Report;"⟩) ∈ fs_ws := fs_t4 (List.mem_of_getElem? (i := 23) rfl) rfl
theorem tw_4_24 : (Cond.code ⟨"FlowShelf$Exporter", "writeRecords", "(LFlowShelf$Slot;)LFlowShelf$Report;"⟩ prog_4_method_15_code 5 (Option.some (FieldType.object "FlowShelf$Report"))) ∈ fs_ws := fs_t4 (List.mem_of_getElem? (i := 24) rfl) rfl
theorem tw_4_25 : (Cond.methodLink "FlowShelf$Exporter" 150 ⟨"FlowShelf$Exporter", "recordsThatFit", "(LFlowShelf$Layout;)I"⟩) ∈ fs_ws := fs_t4 (List.mem_of_getElem? (i := 25) rfl) rfl
theorem tw_4_26 : (Cond.instanceMethod ⟨"FlowShelf$Exporter", "recordsThatFit", "(LFlowShelf$Layout;)I"⟩) ∈ fs_ws := fs_t4 (List.mem_of_getElem? (i := 26) rfl) rfl
theorem tw_4_27 : (Cond.selects "FlowShelf$Exporter" ⟨"FlowShelf$Exporter", "recordsThatFit", "(LFlowShelf$Layout;)I"⟩ ⟨"FlowShelf$Exporter", "recordsThatFit", "(LFlowShelf$Layout;)I"⟩) ∈ fs_ws := fs_t4 (List.mem_of_getElem? (i := 27) rfl) rfl
theorem tw_4_28 : (Cond.code ⟨"FlowShelf$Exporter", "recordsThatFit", "(LFlowShelf$Layout;)I"⟩ prog_4_method_16_code 5 (Option.some FieldType.int)) ∈ fs_ws := fs_t4 (List.mem_of_getElem? (i := 28) rfl) rfl
theorem tw_4_29 : (Cond.methodLink "FlowShelf$Exporter" 162 ⟨"java/lang/Math", "min", "(II)I"⟩) ∈ fs_ws := fs_t4 (List.mem_of_getElem? (i := 29) rfl) rfl
theorem tw_4_30 : (Cond.methodLink "FlowShelf$Exporter" 168 ⟨"FlowShelf$Layout", "bytesFor", "(LFlowShelf$Flow;)I"⟩) ∈ fs_ws := fs_t4 (List.mem_of_getElem? (i := 30) rfl) rfl
theorem tw_4_31 : (Cond.instanceMethod ⟨"FlowShelf$Layout", "bytesFor", "(LFlowShelf$Flow;)I"⟩) ∈ fs_ws := fs_t4 (List.mem_of_getElem? (i := 31) rfl) rfl
theorem tw_4_32 : (Cond.selects "FlowShelf$Layout" ⟨"FlowShelf$Layout", "bytesFor", "(LFlowShelf$Flow;)I"⟩ ⟨"FlowShelf$Layout", "bytesFor", "(LFlowShelf$Flow;)I"⟩) ∈ fs_ws := fs_t4 (List.mem_of_getElem? (i := 32) rfl) rfl
theorem tw_4_33 : (Cond.code ⟨"FlowShelf$Layout", "bytesFor", "(LFlowShelf$Flow;)I"⟩ prog_6_method_4_code 4 (Option.some FieldType.int)) ∈ fs_ws := fs_t4 (List.mem_of_getElem? (i := 33) rfl) rfl
theorem tw_4_34 : (Cond.methodLink "FlowShelf$Layout" 22 ⟨"FlowShelf$Flow", "valueOf", "(I)I"⟩) ∈ fs_ws := fs_t4 (List.mem_of_getElem? (i := 34) rfl) rfl
theorem tw_4_35 : (Cond.methodLink "FlowShelf$Layout" 28 ⟨"FlowShelf$Layout", "fewestBytes", "(I)I"⟩) ∈ fs_ws := fs_t4 (List.mem_of_getElem? (i := 35) rfl) rfl
theorem tw_4_36 : (Cond.static ⟨"FlowShelf$Layout", "fewestBytes", "(I)I"⟩) ∈ fs_ws := fs_t4 (List.mem_of_getElem? (i := 36) rfl) rfl
theorem tw_4_37 : (Cond.code ⟨"FlowShelf$Layout", "fewestBytes", "(I)I"⟩ prog_6_method_6_code 3 (Option.some FieldType.int)) ∈ fs_ws := fs_t4 (List.mem_of_getElem? (i := 37) rfl) rfl
theorem tw_4_38 : (Cond.methodLink "FlowShelf$Exporter" 154 ⟨"java/util/ArrayList", "isEmpty", "()Z"⟩) ∈ fs_ws := fs_t4 (List.mem_of_getElem? (i := 38) rfl) rfl
theorem tw_4_39 : (Cond.methodLink "FlowShelf$Exporter" 158 ⟨"FlowShelf$Layout", "write", "(LFlowShelf$Flow;LFlowShelf$Report;)V"⟩) ∈ fs_ws := fs_t4 (List.mem_of_getElem? (i := 39) rfl) rfl
theorem tw_4_40 : (Cond.instanceMethod ⟨"FlowShelf$Layout", "write", "(LFlowShelf$Flow;LFlowShelf$Report;)V"⟩) ∈ fs_ws := fs_t4 (List.mem_of_getElem? (i := 40) rfl) rfl
theorem tw_4_41 : (Cond.selects "FlowShelf$Layout" ⟨"FlowShelf$Layout", "write", "(LFlowShelf$Flow;LFlowShelf$Report;)V"⟩ ⟨"FlowShelf$Layout", "write", "(LFlowShelf$Flow;LFlowShelf$Report;)V"⟩) ∈ fs_ws := fs_t4 (List.mem_of_getElem? (i := 41) rfl) rfl
theorem tw_4_42 : (Cond.code ⟨"FlowShelf$Layout", "write", "(LFlowShelf$Flow;LFlowShelf$Report;)V"⟩ prog_6_method_5_code 6 (Option.none : Option FieldType)) ∈ fs_ws := fs_t4 (List.mem_of_getElem? (i := 42) rfl) rfl
theorem tw_4_43 : (Cond.methodLink "FlowShelf$Layout" 31 ⟨"FlowShelf$Report", "append", "(I)V"⟩) ∈ fs_ws := fs_t4 (List.mem_of_getElem? (i := 43) rfl) rfl
theorem tw_4_44 : (Cond.methodLink "FlowShelf$Layout" 37 ⟨"FlowShelf$Report", "appendNumber", "(II)V"⟩) ∈ fs_ws := fs_t4 (List.mem_of_getElem? (i := 44) rfl) rfl
theorem tw_4_45 : (Cond.instanceMethod ⟨"FlowShelf$Report", "appendNumber", "(II)V"⟩) ∈ fs_ws := fs_t4 (List.mem_of_getElem? (i := 45) rfl) rfl
theorem tw_4_46 : (Cond.selects "FlowShelf$Report" ⟨"FlowShelf$Report", "appendNumber", "(II)V"⟩ ⟨"FlowShelf$Report", "appendNumber", "(II)V"⟩) ∈ fs_ws := fs_t4 (List.mem_of_getElem? (i := 46) rfl) rfl
theorem tw_4_47 : (Cond.code ⟨"FlowShelf$Report", "appendNumber", "(II)V"⟩ prog_8_method_4_code 4 (Option.none : Option FieldType)) ∈ fs_ws := fs_t4 (List.mem_of_getElem? (i := 47) rfl) rfl
theorem tw_4_48 : (Cond.methodLink "FlowShelf$Report" 25 ⟨"FlowShelf$Report", "append", "(I)V"⟩) ∈ fs_ws := fs_t4 (List.mem_of_getElem? (i := 48) rfl) rfl
theorem tw_4_49 : (Cond.methodLink "FlowShelfLaw" 132 ⟨"FlowShelfLaw", "tell", "(LFlowShelf;I[J)I"⟩) ∈ fs_ws := fs_t4 (List.mem_of_getElem? (i := 49) rfl) rfl
theorem tw_4_50 : (Cond.static ⟨"FlowShelfLaw", "tell", "(LFlowShelf;I[J)I"⟩) ∈ fs_ws := fs_t4 (List.mem_of_getElem? (i := 50) rfl) rfl
theorem tw_4_51 : (Cond.codeWith ⟨"FlowShelfLaw", "tell", "(LFlowShelf;I[J)I"⟩ method_14_code 4 (Option.some FieldType.int) [(0, 9, 12, 13), (0, 9, 15, 15)]) ∈ fs_ws := fs_t4 (List.mem_of_getElem? (i := 51) rfl) rfl
theorem tw_4_52 : (Cond.methodLink "FlowShelfLaw" 54 ⟨"FlowShelf", "tell", "(I)I"⟩) ∈ fs_ws := fs_t4 (List.mem_of_getElem? (i := 52) rfl) rfl
theorem tw_4_53 : (Cond.instanceMethod ⟨"FlowShelf", "tell", "(I)I"⟩) ∈ fs_ws := fs_t4 (List.mem_of_getElem? (i := 53) rfl) rfl
theorem tw_4_54 : (Cond.selects "FlowShelf" ⟨"FlowShelf", "tell", "(I)I"⟩ ⟨"FlowShelf", "tell", "(I)I"⟩) ∈ fs_ws := fs_t4 (List.mem_of_getElem? (i := 54) rfl) rfl
theorem tw_4_55 : (Cond.code ⟨"FlowShelf", "tell", "(I)I"⟩ prog_1_method_13_code 3 (Option.some FieldType.int)) ∈ fs_ws := fs_t4 (List.mem_of_getElem? (i := 55) rfl) rfl
theorem tw_4_57 : (Cond.methodLink "FlowShelf" 197 ⟨"FlowShelf$Exporter", "writeSampler", "()LFlowShelf$Report;"⟩) ∈ fs_ws := fs_t4 (List.mem_of_getElem? (i := 57) rfl) rfl
theorem tw_4_58 : (Cond.instanceMethod ⟨"FlowShelf$Exporter", "writeSampler", "()LFlowShelf$Report;"⟩) ∈ fs_ws := fs_t4 (List.mem_of_getElem? (i := 58) rfl) rfl
theorem tw_4_59 : (Cond.selects "FlowShelf$Exporter" ⟨"FlowShelf$Exporter", "writeSampler", "()LFlowShelf$Report;"⟩ ⟨"FlowShelf$Exporter", "writeSampler", "()LFlowShelf$Report;"⟩) ∈ fs_ws := fs_t4 (List.mem_of_getElem? (i := 59) rfl) rfl
theorem tw_4_60 : (Cond.code ⟨"FlowShelf$Exporter", "writeSampler", "()LFlowShelf$Report;"⟩ prog_4_method_17_code 2 (Option.some (FieldType.object "FlowShelf$Report"))) ∈ fs_ws := fs_t4 (List.mem_of_getElem? (i := 60) rfl) rfl
theorem tw_4_61 : (Cond.methodLink "FlowShelfLaw" 139 ⟨"FlowShelfLaw", "byteOf", "(LFlowShelf;II[J)I"⟩) ∈ fs_ws := fs_t4 (List.mem_of_getElem? (i := 61) rfl) rfl
theorem tw_4_62 : (Cond.static ⟨"FlowShelfLaw", "byteOf", "(LFlowShelf;II[J)I"⟩) ∈ fs_ws := fs_t4 (List.mem_of_getElem? (i := 62) rfl) rfl
theorem tw_4_63 : (Cond.codeWith ⟨"FlowShelfLaw", "byteOf", "(LFlowShelf;II[J)I"⟩ method_15_code 5 (Option.some FieldType.int) [(0, 10, 13, 33)]) ∈ fs_ws := fs_t4 (List.mem_of_getElem? (i := 63) rfl) rfl
theorem tw_4_64 : (Cond.methodLink "FlowShelfLaw" 57 ⟨"FlowShelf", "byteOf", "(II)I"⟩) ∈ fs_ws := fs_t4 (List.mem_of_getElem? (i := 64) rfl) rfl
theorem tw_4_65 : (Cond.instanceMethod ⟨"FlowShelf", "byteOf", "(II)I"⟩) ∈ fs_ws := fs_t4 (List.mem_of_getElem? (i := 65) rfl) rfl
theorem tw_4_66 : (Cond.selects "FlowShelf" ⟨"FlowShelf", "byteOf", "(II)I"⟩ ⟨"FlowShelf", "byteOf", "(II)I"⟩) ∈ fs_ws := fs_t4 (List.mem_of_getElem? (i := 66) rfl) rfl
theorem tw_4_67 : (Cond.code ⟨"FlowShelf", "byteOf", "(II)I"⟩ prog_1_method_15_code 3 (Option.some FieldType.int)) ∈ fs_ws := fs_t4 (List.mem_of_getElem? (i := 67) rfl) rfl
theorem tw_4_68 : (Cond.methodLink "FlowShelf" 207 ⟨"FlowShelf", "reportWithByte", "(II)LFlowShelf$Report;"⟩) ∈ fs_ws := fs_t4 (List.mem_of_getElem? (i := 68) rfl) rfl
theorem tw_4_70 : (Cond.instanceMethod ⟨"FlowShelf", "reportWithByte", "(II)LFlowShelf$Report;"⟩) ∈ fs_ws := fs_t4 (List.mem_of_getElem? (i := 70) rfl) rfl
theorem tw_4_71 : (Cond.code ⟨"FlowShelf", "reportWithByte", "(II)LFlowShelf$Report;"⟩ prog_1_method_31_code 4 (Option.some (FieldType.object "FlowShelf$Report"))) ∈ fs_ws := fs_t4 (List.mem_of_getElem? (i := 71) rfl) rfl
theorem tw_4_72 : (Cond.methodLink "FlowShelf" 216 ⟨"FlowShelf", "reportOf", "(I)LFlowShelf$Report;"⟩) ∈ fs_ws := fs_t4 (List.mem_of_getElem? (i := 72) rfl) rfl
theorem tw_4_74 : (Cond.instanceMethod ⟨"FlowShelf", "reportOf", "(I)LFlowShelf$Report;"⟩) ∈ fs_ws := fs_t4 (List.mem_of_getElem? (i := 74) rfl) rfl
theorem tw_4_75 : (Cond.code ⟨"FlowShelf", "reportOf", "(I)LFlowShelf$Report;"⟩ prog_1_method_30_code 2 (Option.some (FieldType.object "FlowShelf$Report"))) ∈ fs_ws := fs_t4 (List.mem_of_getElem? (i := 75) rfl) rfl
theorem tw_4_78 : (Cond.methodLink "FlowShelfLaw" 142 ⟨"FlowShelfLaw", "poke", "(LFlowShelf;III)I"⟩) ∈ fs_ws := fs_t4 (List.mem_of_getElem? (i := 78) rfl) rfl
theorem tw_4_79 : (Cond.static ⟨"FlowShelfLaw", "poke", "(LFlowShelf;III)I"⟩) ∈ fs_ws := fs_t4 (List.mem_of_getElem? (i := 79) rfl) rfl
theorem tw_4_80 : (Cond.codeWith ⟨"FlowShelfLaw", "poke", "(LFlowShelf;III)I"⟩ method_16_code 5 (Option.some FieldType.int) [(0, 7, 10, 33), (0, 7, 14, 13)]) ∈ fs_ws := fs_t4 (List.mem_of_getElem? (i := 80) rfl) rfl
theorem tw_4_81 : (Cond.methodLink "FlowShelfLaw" 60 ⟨"FlowShelf", "poke", "(III)V"⟩) ∈ fs_ws := fs_t4 (List.mem_of_getElem? (i := 81) rfl) rfl
theorem tw_4_82 : (Cond.instanceMethod ⟨"FlowShelf", "poke", "(III)V"⟩) ∈ fs_ws := fs_t4 (List.mem_of_getElem? (i := 82) rfl) rfl
theorem tw_4_83 : (Cond.selects "FlowShelf" ⟨"FlowShelf", "poke", "(III)V"⟩ ⟨"FlowShelf", "poke", "(III)V"⟩) ∈ fs_ws := fs_t4 (List.mem_of_getElem? (i := 83) rfl) rfl
theorem tw_4_84 : (Cond.code ⟨"FlowShelf", "poke", "(III)V"⟩ prog_1_method_16_code 5 (Option.none : Option FieldType)) ∈ fs_ws := fs_t4 (List.mem_of_getElem? (i := 84) rfl) rfl
theorem tw_4_86 : (Cond.methodLink "FlowShelfLaw" 146 ⟨"FlowShelfLaw", "hear", "(LFlowShelf;I[J)I"⟩) ∈ fs_ws := fs_t4 (List.mem_of_getElem? (i := 86) rfl) rfl
theorem tw_4_87 : (Cond.static ⟨"FlowShelfLaw", "hear", "(LFlowShelf;I[J)I"⟩) ∈ fs_ws := fs_t4 (List.mem_of_getElem? (i := 87) rfl) rfl
theorem tw_4_88 : (Cond.codeWith ⟨"FlowShelfLaw", "hear", "(LFlowShelf;I[J)I"⟩ method_17_code 4 (Option.some FieldType.int) [(0, 9, 12, 33), (0, 9, 15, 13), (0, 9, 18, 67)]) ∈ fs_ws := fs_t4 (List.mem_of_getElem? (i := 88) rfl) rfl
theorem tw_4_89 : (Cond.classLink "FlowShelfLaw" 67 "java/lang/UnsupportedOperationException") ∈ fs_ws := fs_t4 (List.mem_of_getElem? (i := 89) rfl) rfl
theorem tw_4_90 : (Cond.methodLink "FlowShelfLaw" 64 ⟨"FlowShelf", "hear", "(I)I"⟩) ∈ fs_ws := fs_t4 (List.mem_of_getElem? (i := 90) rfl) rfl
theorem tw_4_91 : (Cond.instanceMethod ⟨"FlowShelf", "hear", "(I)I"⟩) ∈ fs_ws := fs_t4 (List.mem_of_getElem? (i := 91) rfl) rfl
theorem tw_4_92 : (Cond.selects "FlowShelf" ⟨"FlowShelf", "hear", "(I)I"⟩ ⟨"FlowShelf", "hear", "(I)I"⟩) ∈ fs_ws := fs_t4 (List.mem_of_getElem? (i := 92) rfl) rfl
theorem tw_4_93 : (Cond.code ⟨"FlowShelf", "hear", "(I)I"⟩ prog_1_method_17_code 3 (Option.some FieldType.int)) ∈ fs_ws := fs_t4 (List.mem_of_getElem? (i := 93) rfl) rfl
theorem tw_4_94 : (Cond.methodLink "FlowShelf" 220 ⟨"FlowShelf$Report", "isBad", "()Z"⟩) ∈ fs_ws := fs_t4 (List.mem_of_getElem? (i := 94) rfl) rfl
theorem tw_4_95 : (Cond.instanceMethod ⟨"FlowShelf$Report", "isBad", "()Z"⟩) ∈ fs_ws := fs_t4 (List.mem_of_getElem? (i := 95) rfl) rfl
theorem tw_4_96 : (Cond.selects "FlowShelf$Report" ⟨"FlowShelf$Report", "isBad", "()Z"⟩ ⟨"FlowShelf$Report", "isBad", "()Z"⟩) ∈ fs_ws := fs_t4 (List.mem_of_getElem? (i := 96) rfl) rfl
theorem tw_4_97 : (Cond.code ⟨"FlowShelf$Report", "isBad", "()Z"⟩ prog_8_method_16_code 1 (Option.some FieldType.boolean)) ∈ fs_ws := fs_t4 (List.mem_of_getElem? (i := 97) rfl) rfl
theorem tw_4_98 : (Cond.methodLink "FlowShelf$Report" 29 ⟨"FlowShelf$Report", "exporter", "()I"⟩) ∈ fs_ws := fs_t4 (List.mem_of_getElem? (i := 98) rfl) rfl
theorem tw_4_99 : (Cond.instanceMethod ⟨"FlowShelf$Report", "exporter", "()I"⟩) ∈ fs_ws := fs_t4 (List.mem_of_getElem? (i := 99) rfl) rfl
theorem tw_4_100 : (Cond.selects "FlowShelf$Report" ⟨"FlowShelf$Report", "exporter", "()I"⟩ ⟨"FlowShelf$Report", "exporter", "()I"⟩) ∈ fs_ws := fs_t4 (List.mem_of_getElem? (i := 100) rfl) rfl
theorem tw_4_101 : (Cond.code ⟨"FlowShelf$Report", "exporter", "()I"⟩ prog_8_method_5_code 1 (Option.some FieldType.int)) ∈ fs_ws := fs_t4 (List.mem_of_getElem? (i := 101) rfl) rfl
theorem tw_4_103 : (Cond.methodLink "FlowShelf$Report" 37 ⟨"FlowShelf$Report", "epoch", "()I"⟩) ∈ fs_ws := fs_t4 (List.mem_of_getElem? (i := 103) rfl) rfl
theorem tw_4_104 : (Cond.instanceMethod ⟨"FlowShelf$Report", "epoch", "()I"⟩) ∈ fs_ws := fs_t4 (List.mem_of_getElem? (i := 104) rfl) rfl
theorem tw_4_105 : (Cond.selects "FlowShelf$Report" ⟨"FlowShelf$Report", "epoch", "()I"⟩ ⟨"FlowShelf$Report", "epoch", "()I"⟩) ∈ fs_ws := fs_t4 (List.mem_of_getElem? (i := 105) rfl) rfl
theorem tw_4_106 : (Cond.code ⟨"FlowShelf$Report", "epoch", "()I"⟩ prog_8_method_6_code 1 (Option.some FieldType.int)) ∈ fs_ws := fs_t4 (List.mem_of_getElem? (i := 106) rfl) rfl
theorem tw_4_107 : (Cond.methodLink "FlowShelf$Report" 40 ⟨"FlowShelf$Report", "kind", "()I"⟩) ∈ fs_ws := fs_t4 (List.mem_of_getElem? (i := 107) rfl) rfl
theorem tw_4_108 : (Cond.instanceMethod ⟨"FlowShelf$Report", "kind", "()I"⟩) ∈ fs_ws := fs_t4 (List.mem_of_getElem? (i := 108) rfl) rfl
theorem tw_4_109 : (Cond.selects "FlowShelf$Report" ⟨"FlowShelf$Report", "kind", "()I"⟩ ⟨"FlowShelf$Report", "kind", "()I"⟩) ∈ fs_ws := fs_t4 (List.mem_of_getElem? (i := 109) rfl) rfl
theorem tw_4_110 : (Cond.code ⟨"FlowShelf$Report", "kind", "()I"⟩ prog_8_method_7_code 1 (Option.some FieldType.int)) ∈ fs_ws := fs_t4 (List.mem_of_getElem? (i := 110) rfl) rfl
theorem tw_4_111 : (Cond.methodLink "FlowShelf$Report" 43 ⟨"FlowShelf$Report", "namesNoTemplate", "()Z"⟩) ∈ fs_ws := fs_t4 (List.mem_of_getElem? (i := 111) rfl) rfl
theorem tw_4_112 : (Cond.instanceMethod ⟨"FlowShelf$Report", "namesNoTemplate", "()Z"⟩) ∈ fs_ws := fs_t4 (List.mem_of_getElem? (i := 112) rfl) rfl
theorem tw_4_113 : (Cond.selects "FlowShelf$Report" ⟨"FlowShelf$Report", "namesNoTemplate", "()Z"⟩ ⟨"FlowShelf$Report", "namesNoTemplate", "()Z"⟩) ∈ fs_ws := fs_t4 (List.mem_of_getElem? (i := 113) rfl) rfl
theorem tw_4_114 : (Cond.code ⟨"FlowShelf$Report", "namesNoTemplate", "()Z"⟩ prog_8_method_17_code 1 (Option.some FieldType.boolean)) ∈ fs_ws := fs_t4 (List.mem_of_getElem? (i := 114) rfl) rfl
theorem tw_4_115 : (Cond.methodLink "FlowShelf$Report" 47 ⟨"FlowShelf$Report", "isBadTemplate", "()Z"⟩) ∈ fs_ws := fs_t4 (List.mem_of_getElem? (i := 115) rfl) rfl
theorem tw_4_116 : (Cond.instanceMethod ⟨"FlowShelf$Report", "isBadTemplate", "()Z"⟩) ∈ fs_ws := fs_t4 (List.mem_of_getElem? (i := 116) rfl) rfl
theorem tw_4_117 : (Cond.selects "FlowShelf$Report" ⟨"FlowShelf$Report", "isBadTemplate", "()Z"⟩ ⟨"FlowShelf$Report", "isBadTemplate", "()Z"⟩) ∈ fs_ws := fs_t4 (List.mem_of_getElem? (i := 117) rfl) rfl
theorem tw_4_118 : (Cond.code ⟨"FlowShelf$Report", "isBadTemplate", "()Z"⟩ prog_8_method_18_code 5 (Option.some FieldType.boolean)) ∈ fs_ws := fs_t4 (List.mem_of_getElem? (i := 118) rfl) rfl
theorem tw_4_119 : (Cond.methodLink "FlowShelf$Report" 56 ⟨"FlowShelf$Report", "templateFields", "()I"⟩) ∈ fs_ws := fs_t4 (List.mem_of_getElem? (i := 119) rfl) rfl
theorem tw_4_120 : (Cond.instanceMethod ⟨"FlowShelf$Report", "templateFields", "()I"⟩) ∈ fs_ws := fs_t4 (List.mem_of_getElem? (i := 120) rfl) rfl
theorem tw_4_121 : (Cond.selects "FlowShelf$Report" ⟨"FlowShelf$Report", "templateFields", "()I"⟩ ⟨"FlowShelf$Report", "templateFields", "()I"⟩) ∈ fs_ws := fs_t4 (List.mem_of_getElem? (i := 121) rfl) rfl
theorem tw_4_122 : (Cond.code ⟨"FlowShelf$Report", "templateFields", "()I"⟩ prog_8_method_8_code 1 (Option.some FieldType.int)) ∈ fs_ws := fs_t4 (List.mem_of_getElem? (i := 122) rfl) rfl
theorem tw_4_123 : (Cond.methodLink "FlowShelf$Report" 59 ⟨"FlowShelf$Report", "templateField", "(I)I"⟩) ∈ fs_ws := fs_t4 (List.mem_of_getElem? (i := 123) rfl) rfl
theorem tw_4_124 : (Cond.instanceMethod ⟨"FlowShelf$Report", "templateField", "(I)I"⟩) ∈ fs_ws := fs_t4 (List.mem_of_getElem? (i := 124) rfl) rfl
theorem tw_4_125 : (Cond.selects "FlowShelf$Report" ⟨"FlowShelf$Report", "templateField", "(I)I"⟩ ⟨"FlowShelf$Report", "templateField", "(I)I"⟩) ∈ fs_ws := fs_t4 (List.mem_of_getElem? (i := 125) rfl) rfl
theorem tw_4_126 : (Cond.code ⟨"FlowShelf$Report", "templateField", "(I)I"⟩ prog_8_method_9_code 2 (Option.some FieldType.int)) ∈ fs_ws := fs_t4 (List.mem_of_getElem? (i := 126) rfl) rfl
theorem tw_4_127 : (Cond.methodLink "FlowShelf$Report" 63 ⟨"FlowShelf$Report", "templateLength", "(I)I"⟩) ∈ fs_ws := fs_t4 (List.mem_of_getElem? (i := 127) rfl) rfl
theorem tw_4_128 : (Cond.instanceMethod ⟨"FlowShelf$Report", "templateLength", "(I)I"⟩) ∈ fs_ws := fs_t4 (List.mem_of_getElem? (i := 128) rfl) rfl
theorem tw_4_129 : (Cond.selects "FlowShelf$Report" ⟨"FlowShelf$Report", "templateLength", "(I)I"⟩ ⟨"FlowShelf$Report", "templateLength", "(I)I"⟩) ∈ fs_ws := fs_t4 (List.mem_of_getElem? (i := 129) rfl) rfl
theorem tw_4_130 : (Cond.code ⟨"FlowShelf$Report", "templateLength", "(I)I"⟩ prog_8_method_10_code 2 (Option.some FieldType.int)) ∈ fs_ws := fs_t4 (List.mem_of_getElem? (i := 130) rfl) rfl
theorem tw_4_131 : (Cond.methodLink "FlowShelf$Report" 50 ⟨"FlowShelf$Report", "isBadRecords", "()Z"⟩) ∈ fs_ws := fs_t4 (List.mem_of_getElem? (i := 131) rfl) rfl
theorem tw_4_132 : (Cond.instanceMethod ⟨"FlowShelf$Report", "isBadRecords", "()Z"⟩) ∈ fs_ws := fs_t4 (List.mem_of_getElem? (i := 132) rfl) rfl
theorem tw_4_133 : (Cond.selects "FlowShelf$Report" ⟨"FlowShelf$Report", "isBadRecords", "()Z"⟩ ⟨"FlowShelf$Report", "isBadRecords", "()Z"⟩) ∈ fs_ws := fs_t4 (List.mem_of_getElem? (i := 133) rfl) rfl
theorem tw_4_134 : (Cond.code ⟨"FlowShelf$Report", "isBadRecords", "()Z"⟩ prog_8_method_19_code 1 (Option.some FieldType.boolean)) ∈ fs_ws := fs_t4 (List.mem_of_getElem? (i := 134) rfl) rfl
theorem tw_4_135 : (Cond.methodLink "FlowShelf$Report" 66 ⟨"FlowShelf$Report", "records", "()I"⟩) ∈ fs_ws := fs_t4 (List.mem_of_getElem? (i := 135) rfl) rfl
theorem tw_4_136 : (Cond.instanceMethod ⟨"FlowShelf$Report", "records", "()I"⟩) ∈ fs_ws := fs_t4 (List.mem_of_getElem? (i := 136) rfl) rfl
theorem tw_4_137 : (Cond.selects "FlowShelf$Report" ⟨"FlowShelf$Report", "records", "()I"⟩ ⟨"FlowShelf$Report", "records", "()I"⟩) ∈ fs_ws := fs_t4 (List.mem_of_getElem? (i := 137) rfl) rfl
theorem tw_4_138 : (Cond.code ⟨"FlowShelf$Report", "records", "()I"⟩ prog_8_method_11_code 1 (Option.some FieldType.int)) ∈ fs_ws := fs_t4 (List.mem_of_getElem? (i := 138) rfl) rfl
theorem tw_4_139 : (Cond.methodLink "FlowShelf$Report" 69 ⟨"FlowShelf$Report", "firstPlace", "()I"⟩) ∈ fs_ws := fs_t4 (List.mem_of_getElem? (i := 139) rfl) rfl
theorem tw_4_140 : (Cond.instanceMethod ⟨"FlowShelf$Report", "firstPlace", "()I"⟩) ∈ fs_ws := fs_t4 (List.mem_of_getElem? (i := 140) rfl) rfl
theorem tw_4_141 : (Cond.selects "FlowShelf$Report" ⟨"FlowShelf$Report", "firstPlace", "()I"⟩ ⟨"FlowShelf$Report", "firstPlace", "()I"⟩) ∈ fs_ws := fs_t4 (List.mem_of_getElem? (i := 141) rfl) rfl
theorem tw_4_142 : (Cond.code ⟨"FlowShelf$Report", "firstPlace", "()I"⟩ prog_8_method_12_code 1 (Option.some FieldType.int)) ∈ fs_ws := fs_t4 (List.mem_of_getElem? (i := 142) rfl) rfl
theorem tw_4_143 : (Cond.methodLink "FlowShelf$Report" 53 ⟨"FlowShelf$Report", "samplerN", "()I"⟩) ∈ fs_ws := fs_t4 (List.mem_of_getElem? (i := 143) rfl) rfl
theorem tw_4_144 : (Cond.instanceMethod ⟨"FlowShelf$Report", "samplerN", "()I"⟩) ∈ fs_ws := fs_t4 (List.mem_of_getElem? (i := 144) rfl) rfl
theorem tw_4_145 : (Cond.selects "FlowShelf$Report" ⟨"FlowShelf$Report", "samplerN", "()I"⟩ ⟨"FlowShelf$Report", "samplerN", "()I"⟩) ∈ fs_ws := fs_t4 (List.mem_of_getElem? (i := 145) rfl) rfl
theorem tw_4_146 : (Cond.code ⟨"FlowShelf$Report", "samplerN", "()I"⟩ prog_8_method_14_code 1 (Option.some FieldType.int)) ∈ fs_ws := fs_t4 (List.mem_of_getElem? (i := 146) rfl) rfl
theorem tw_4_148 : (Cond.methodLink "FlowShelf" 225 ⟨"FlowShelf$Report", "kind", "()I"⟩) ∈ fs_ws := fs_t4 (List.mem_of_getElem? (i := 148) rfl) rfl
theorem tw_4_149 : (Cond.methodLink "FlowShelf" 228 ⟨"FlowShelf$Collector", "hearTemplate", "(LFlowShelf$Report;)I"⟩) ∈ fs_ws := fs_t4 (List.mem_of_getElem? (i := 149) rfl) rfl
theorem tw_4_150 : (Cond.instanceMethod ⟨"FlowShelf$Collector", "hearTemplate", "(LFlowShelf$Report;)I"⟩) ∈ fs_ws := fs_t4 (List.mem_of_getElem? (i := 150) rfl) rfl
theorem tw_4_151 : (Cond.selects "FlowShelf$Collector" ⟨"FlowShelf$Collector", "hearTemplate", "(LFlowShelf$Report;)I"⟩ ⟨"FlowShelf$Collector", "hearTemplate", "(LFlowShelf$Report;)I"⟩) ∈ fs_ws := fs_t4 (List.mem_of_getElem? (i := 151) rfl) rfl
theorem tw_4_152 : (Cond.code ⟨"FlowShelf$Collector", "hearTemplate", "(LFlowShelf$Report;)I"⟩ prog_2_method_5_code 2 (Option.some FieldType.int)) ∈ fs_ws := fs_t4 (List.mem_of_getElem? (i := 152) rfl) rfl
theorem tw_4_153 : (Cond.methodLink "FlowShelf$Collector" 55 ⟨"FlowShelf$Collector", "knownTemplate", "(LFlowShelf$Report;)I"⟩) ∈ fs_ws := fs_t4 (List.mem_of_getElem? (i := 153) rfl) rfl
theorem tw_4_154 : (Cond.instanceMethod ⟨"FlowShelf$Collector", "knownTemplate", "(LFlowShelf$Report;)I"⟩) ∈ fs_ws := fs_t4 (List.mem_of_getElem? (i := 154) rfl) rfl
theorem tw_4_155 : (Cond.selects "FlowShelf$Collector" ⟨"FlowShelf$Collector", "knownTemplate", "(LFlowShelf$Report;)I"⟩ ⟨"FlowShelf$Collector", "knownTemplate", "(LFlowShelf$Report;)I"⟩) ∈ fs_ws := fs_t4 (List.mem_of_getElem? (i := 155) rfl) rfl
theorem tw_4_156 : (Cond.code ⟨"FlowShelf$Collector", "knownTemplate", "(LFlowShelf$Report;)I"⟩ prog_2_method_4_code 3 (Option.some FieldType.int)) ∈ fs_ws := fs_t4 (List.mem_of_getElem? (i := 156) rfl) rfl
theorem tw_4_157 : (Cond.methodLink "FlowShelf$Collector" 38 ⟨"java/util/ArrayList", "size", "()I"⟩) ∈ fs_ws := fs_t4 (List.mem_of_getElem? (i := 157) rfl) rfl
theorem tw_4_158 : (Cond.methodLink "FlowShelf$Collector" 42 ⟨"java/util/ArrayList", "get", "(I)Ljava/lang/Object;"⟩) ∈ fs_ws := fs_t4 (List.mem_of_getElem? (i := 158) rfl) rfl
theorem tw_4_159 : (Cond.classLink "FlowShelf$Collector" 46 "FlowShelf$Report") ∈ fs_ws := fs_t4 (List.mem_of_getElem? (i := 159) rfl) rfl
theorem tw_4_160 : (Cond.methodLink "FlowShelf$Collector" 51 ⟨"FlowShelf$Report", "namesSameTemplate", "(LFlowShelf$Report;)Z"⟩) ∈ fs_ws := fs_t4 (List.mem_of_getElem? (i := 160) rfl) rfl
theorem tw_4_161 : (Cond.instanceMethod ⟨"FlowShelf$Report", "namesSameTemplate", "(LFlowShelf$Report;)Z"⟩) ∈ fs_ws := fs_t4 (List.mem_of_getElem? (i := 161) rfl) rfl
theorem tw_4_162 : (Cond.selects "FlowShelf$Report" ⟨"FlowShelf$Report", "namesSameTemplate", "(LFlowShelf$Report;)Z"⟩ ⟨"FlowShelf$Report", "namesSameTemplate", "(LFlowShelf$Report;)Z"⟩) ∈ fs_ws := fs_t4 (List.mem_of_getElem? (i := 162) rfl) rfl
theorem tw_4_163 : (Cond.code ⟨"FlowShelf$Report", "namesSameTemplate", "(LFlowShelf$Report;)Z"⟩ prog_8_method_15_code 2 (Option.some FieldType.boolean)) ∈ fs_ws := fs_t4 (List.mem_of_getElem? (i := 163) rfl) rfl
theorem tw_4_164 : (Cond.classLink "FlowShelf$Collector" 59 "java/lang/UnsupportedOperationException") ∈ fs_ws := fs_t4 (List.mem_of_getElem? (i := 164) rfl) rfl
theorem tw_4_165 : (Cond.instantiable "java/lang/UnsupportedOperationException" 6) ∈ fs_ws := fs_t4 (List.mem_of_getElem? (i := 165) rfl) rfl
theorem tw_4_167 : (Cond.selects "java/lang/UnsupportedOperationException" ⟨"java/lang/Throwable", "fillInStackTrace", "(I)Ljava/lang/Throwable;"⟩ ⟨"java/lang/Throwable", "fillInStackTrace", "(I)Ljava/lang/Throwable;"⟩) ∈ fs_ws := fs_t4 (List.mem_of_getElem? (i := 167) rfl) rfl
theorem tw_4_174 : (Cond.methodLink "FlowShelf$Collector" 63 ⟨"java/lang/UnsupportedOperationException", "<init>", "(Ljava/lang/String;)V"⟩) ∈ fs_ws := fs_t4 (List.mem_of_getElem? (i := 174) rfl) rfl
theorem tw_4_175 : (Cond.instanceMethod ⟨"java/lang/UnsupportedOperationException", "<init>", "(Ljava/lang/String;)V"⟩) ∈ fs_ws := fs_t4 (List.mem_of_getElem? (i := 175) rfl) rfl
theorem tw_4_176 : (Cond.code ⟨"java/lang/UnsupportedOperationException", "<init>", "(Ljava/lang/String;)V"⟩ prog_26_method_2_code 2 (Option.none : Option FieldType)) ∈ fs_ws := fs_t4 (List.mem_of_getElem? (i := 176) rfl) rfl
theorem tw_4_177 : (Cond.methodLink "java/lang/UnsupportedOperationException" 7 ⟨"java/lang/RuntimeException", "<init>", "(Ljava/lang/String;)V"⟩) ∈ fs_ws := fs_t4 (List.mem_of_getElem? (i := 177) rfl) rfl
theorem tw_4_180 : (Cond.methodLink "FlowShelf$Collector" 66 ⟨"FlowShelf$Collector", "recordsWaitingFor", "(LFlowShelf$Report;)I"⟩) ∈ fs_ws := fs_t4 (List.mem_of_getElem? (i := 180) rfl) rfl
theorem tw_4_181 : (Cond.instanceMethod ⟨"FlowShelf$Collector", "recordsWaitingFor", "(LFlowShelf$Report;)I"⟩) ∈ fs_ws := fs_t4 (List.mem_of_getElem? (i := 181) rfl) rfl
theorem tw_4_182 : (Cond.selects "FlowShelf$Collector" ⟨"FlowShelf$Collector", "recordsWaitingFor", "(LFlowShelf$Report;)I"⟩ ⟨"FlowShelf$Collector", "recordsWaitingFor", "(LFlowShelf$Report;)I"⟩) ∈ fs_ws := fs_t4 (List.mem_of_getElem? (i := 182) rfl) rfl
theorem tw_4_183 : (Cond.code ⟨"FlowShelf$Collector", "recordsWaitingFor", "(LFlowShelf$Report;)I"⟩ prog_2_method_6_code 4 (Option.some FieldType.int)) ∈ fs_ws := fs_t4 (List.mem_of_getElem? (i := 183) rfl) rfl
theorem tw_4_184 : (Cond.methodLink "FlowShelf$Collector" 83 ⟨"FlowShelf$Report", "records", "()I"⟩) ∈ fs_ws := fs_t4 (List.mem_of_getElem? (i := 184) rfl) rfl
theorem tw_4_185 : (Cond.methodLink "FlowShelf$Collector" 69 ⟨"FlowShelf$Collector", "requireRoomFor", "(I)V"⟩) ∈ fs_ws := fs_t4 (List.mem_of_getElem? (i := 185) rfl) rfl
theorem tw_4_186 : (Cond.instanceMethod ⟨"FlowShelf$Collector", "requireRoomFor", "(I)V"⟩) ∈ fs_ws := fs_t4 (List.mem_of_getElem? (i := 186) rfl) rfl
theorem tw_4_187 : (Cond.selects "FlowShelf$Collector" ⟨"FlowShelf$Collector", "requireRoomFor", "(I)V"⟩ ⟨"FlowShelf$Collector", "requireRoomFor", "(I)V"⟩) ∈ fs_ws := fs_t4 (List.mem_of_getElem? (i := 187) rfl) rfl
theorem tw_4_188 : (Cond.code ⟨"FlowShelf$Collector", "requireRoomFor", "(I)V"⟩ prog_2_method_12_code 2 (Option.none : Option FieldType)) ∈ fs_ws := fs_t4 (List.mem_of_getElem? (i := 188) rfl) rfl
theorem tw_4_189 : (Cond.methodLink "FlowShelf$Collector" 131 ⟨"FlowShelf$Table", "hasRoomFor", "(I)Z"⟩) ∈ fs_ws := fs_t4 (List.mem_of_getElem? (i := 189) rfl) rfl
theorem tw_4_190 : (Cond.instanceMethod ⟨"FlowShelf$Table", "hasRoomFor", "(I)Z"⟩) ∈ fs_ws := fs_t4 (List.mem_of_getElem? (i := 190) rfl) rfl
theorem tw_4_191 : (Cond.selects "FlowShelf$Table" ⟨"FlowShelf$Table", "hasRoomFor", "(I)Z"⟩ ⟨"FlowShelf$Table", "hasRoomFor", "(I)Z"⟩) ∈ fs_ws := fs_t4 (List.mem_of_getElem? (i := 191) rfl) rfl
theorem tw_4_192 : (Cond.code ⟨"FlowShelf$Table", "hasRoomFor", "(I)Z"⟩ prog_11_method_2_code 2 (Option.some FieldType.boolean)) ∈ fs_ws := fs_t4 (List.mem_of_getElem? (i := 192) rfl) rfl
theorem tw_4_193 : (Cond.methodLink "FlowShelf$Table" 25 ⟨"java/util/ArrayList", "size", "()I"⟩) ∈ fs_ws := fs_t4 (List.mem_of_getElem? (i := 193) rfl) rfl
theorem tw_4_195 : (Cond.methodLink "FlowShelf$Collector" 73 ⟨"FlowShelf$Report", "<init>", "(LFlowShelf$Report;)V"⟩) ∈ fs_ws := fs_t4 (List.mem_of_getElem? (i := 195) rfl) rfl
theorem tw_4_196 : (Cond.instanceMethod ⟨"FlowShelf$Report", "<init>", "(LFlowShelf$Report;)V"⟩) ∈ fs_ws := fs_t4 (List.mem_of_getElem? (i := 196) rfl) rfl
theorem tw_4_197 : (Cond.code ⟨"FlowShelf$Report", "<init>", "(LFlowShelf$Report;)V"⟩ prog_8_method_2_code 2 (Option.none : Option FieldType)) ∈ fs_ws := fs_t4 (List.mem_of_getElem? (i := 197) rfl) rfl
theorem tw_4_198 : (Cond.methodLink "FlowShelf$Report" 19 ⟨"java/util/Arrays", "copyOf", "([II)[I"⟩) ∈ fs_ws := fs_t4 (List.mem_of_getElem? (i := 198) rfl) rfl
theorem tw_4_199 : (Cond.static ⟨"java/util/Arrays", "copyOf", "([II)[I"⟩) ∈ fs_ws := fs_t4 (List.mem_of_getElem? (i := 199) rfl) rfl
theorem tw_4_200 : (Cond.code ⟨"java/util/Arrays", "copyOf", "([II)[I"⟩ prog_30_method_123_code 3 (Option.some (FieldType.array FieldType.int))) ∈ fs_ws := fs_t4 (List.mem_of_getElem? (i := 200) rfl) rfl
theorem tw_4_201 : (Cond.methodLink "java/util/Arrays" 316 ⟨"[I", "clone", "()Ljava/lang/Object;"⟩) ∈ fs_ws := fs_t4 (List.mem_of_getElem? (i := 201) rfl) rfl
theorem tw_4_203 : (Cond.native ⟨"java/lang/Object", "clone", "()Ljava/lang/Object;"⟩) ∈ fs_ws := fs_t4 (List.mem_of_getElem? (i := 203) rfl) rfl
theorem tw_4_204 : (Cond.instanceMethod ⟨"java/lang/Object", "clone", "()Ljava/lang/Object;"⟩) ∈ fs_ws := fs_t4 (List.mem_of_getElem? (i := 204) rfl) rfl
theorem tw_4_205 : (Cond.selects "[I" ⟨"[I", "clone", "()Ljava/lang/Object;"⟩ ⟨"java/lang/Object", "clone", "()Ljava/lang/Object;"⟩) ∈ fs_ws := fs_t4 (List.mem_of_getElem? (i := 205) rfl) rfl
theorem tw_4_207 : (Cond.classLink "java/util/Arrays" 317 "[I") ∈ fs_ws := fs_t4 (List.mem_of_getElem? (i := 207) rfl) rfl
theorem tw_4_208 : (Cond.methodLink "FlowShelf$Collector" 76 ⟨"java/util/ArrayList", "add", "(Ljava/lang/Object;)Z"⟩) ∈ fs_ws := fs_t4 (List.mem_of_getElem? (i := 208) rfl) rfl
theorem tw_4_209 : (Cond.methodLink "FlowShelf$Collector" 80 ⟨"FlowShelf$Collector", "readShelf", "(LFlowShelf$Report;)I"⟩) ∈ fs_ws := fs_t4 (List.mem_of_getElem? (i := 209) rfl) rfl
theorem tw_4_210 : (Cond.instanceMethod ⟨"FlowShelf$Collector", "readShelf", "(LFlowShelf$Report;)I"⟩) ∈ fs_ws := fs_t4 (List.mem_of_getElem? (i := 210) rfl) rfl
theorem tw_4_211 : (Cond.selects "FlowShelf$Collector" ⟨"FlowShelf$Collector", "readShelf", "(LFlowShelf$Report;)I"⟩ ⟨"FlowShelf$Collector", "readShelf", "(LFlowShelf$Report;)I"⟩) ∈ fs_ws := fs_t4 (List.mem_of_getElem? (i := 211) rfl) rfl
theorem tw_4_212 : (Cond.code ⟨"FlowShelf$Collector", "readShelf", "(LFlowShelf$Report;)I"⟩ prog_2_method_7_code 6 (Option.some FieldType.int)) ∈ fs_ws := fs_t4 (List.mem_of_getElem? (i := 212) rfl) rfl
theorem tw_4_213 : (Cond.methodLink "FlowShelf$Collector" 89 ⟨"java/util/ArrayList", "remove", "(I)Ljava/lang/Object;"⟩) ∈ fs_ws := fs_t4 (List.mem_of_getElem? (i := 213) rfl) rfl
theorem tw_4_214 : (Cond.methodLink "FlowShelf$Collector" 92 ⟨"FlowShelf$Collector", "readOrSpoil", "(LFlowShelf$Report;LFlowShelf$Report;)V"⟩) ∈ fs_ws := fs_t4 (List.mem_of_getElem? (i := 214) rfl) rfl
theorem tw_4_215 : (Cond.instanceMethod ⟨"FlowShelf$Collector", "readOrSpoil", "(LFlowShelf$Report;LFlowShelf$Report;)V"⟩) ∈ fs_ws := fs_t4 (List.mem_of_getElem? (i := 215) rfl) rfl
theorem tw_4_216 : (Cond.selects "FlowShelf$Collector" ⟨"FlowShelf$Collector", "readOrSpoil", "(LFlowShelf$Report;LFlowShelf$Report;)V"⟩ ⟨"FlowShelf$Collector", "readOrSpoil", "(LFlowShelf$Report;LFlowShelf$Report;)V"⟩) ∈ fs_ws := fs_t4 (List.mem_of_getElem? (i := 216) rfl) rfl
theorem tw_4_217 : (Cond.code ⟨"FlowShelf$Collector", "readOrSpoil", "(LFlowShelf$Report;LFlowShelf$Report;)V"⟩ prog_2_method_8_code 3 (Option.none : Option FieldType)) ∈ fs_ws := fs_t4 (List.mem_of_getElem? (i := 217) rfl) rfl
theorem tw_4_218 : (Cond.methodLink "FlowShelf$Collector" 96 ⟨"FlowShelf$Collector", "canRead", "(LFlowShelf$Report;LFlowShelf$Report;)Z"⟩) ∈ fs_ws := fs_t4 (List.mem_of_getElem? (i := 218) rfl) rfl
theorem tw_4_219 : (Cond.instanceMethod ⟨"FlowShelf$Collector", "canRead", "(LFlowShelf$Report;LFlowShelf$Report;)Z"⟩) ∈ fs_ws := fs_t4 (List.mem_of_getElem? (i := 219) rfl) rfl
theorem tw_4_220 : (Cond.selects "FlowShelf$Collector" ⟨"FlowShelf$Collector", "canRead", "(LFlowShelf$Report;LFlowShelf$Report;)Z"⟩ ⟨"FlowShelf$Collector", "canRead", "(LFlowShelf$Report;LFlowShelf$Report;)Z"⟩) ∈ fs_ws := fs_t4 (List.mem_of_getElem? (i := 220) rfl) rfl
theorem tw_4_221 : (Cond.code ⟨"FlowShelf$Collector", "canRead", "(LFlowShelf$Report;LFlowShelf$Report;)Z"⟩ prog_2_method_13_code 6 (Option.some FieldType.boolean)) ∈ fs_ws := fs_t4 (List.mem_of_getElem? (i := 221) rfl) rfl
theorem tw_4_222 : (Cond.classLink "FlowShelf$Collector" 137 "FlowShelf$Cursor") ∈ fs_ws := fs_t4 (List.mem_of_getElem? (i := 222) rfl) rfl
theorem tw_4_223 : (Cond.instantiable "FlowShelf$Cursor" 3) ∈ fs_ws := fs_t4 (List.mem_of_getElem? (i := 223) rfl) rfl
theorem tw_4_224 : (Cond.methodLink "FlowShelf$Collector" 139 ⟨"FlowShelf$Cursor", "<init>", "(LFlowShelf$Report;)V"⟩) ∈ fs_ws := fs_t4 (List.mem_of_getElem? (i := 224) rfl) rfl
theorem tw_4_225 : (Cond.instanceMethod ⟨"FlowShelf$Cursor", "<init>", "(LFlowShelf$Report;)V"⟩) ∈ fs_ws := fs_t4 (List.mem_of_getElem? (i := 225) rfl) rfl
theorem tw_4_226 : (Cond.code ⟨"FlowShelf$Cursor", "<init>", "(LFlowShelf$Report;)V"⟩ prog_3_method_1_code 2 (Option.none : Option FieldType)) ∈ fs_ws := fs_t4 (List.mem_of_getElem? (i := 226) rfl) rfl
theorem tw_4_227 : (Cond.methodLink "FlowShelf$Cursor" 3 ⟨"java/lang/Object", "<init>", "()V"⟩) ∈ fs_ws := fs_t4 (List.mem_of_getElem? (i := 227) rfl) rfl
theorem tw_4_228 : (Cond.fieldLink "FlowShelf$Cursor" 15 "FlowShelf$Cursor" "records" "LFlowShelf$Report;") ∈ fs_ws := fs_t4 (List.mem_of_getElem? (i := 228) rfl) rfl
theorem tw_4_229 : (Cond.fieldLink "FlowShelf$Cursor" 9 "FlowShelf$Cursor" "at" "I") ∈ fs_ws := fs_t4 (List.mem_of_getElem? (i := 229) rfl) rfl
theorem tw_4_230 : (Cond.fieldLink "FlowShelf$Cursor" 28 "FlowShelf$Cursor" "bad" "Z") ∈ fs_ws := fs_t4 (List.mem_of_getElem? (i := 230) rfl) rfl
theorem tw_4_231 : (Cond.fieldLink "FlowShelf$Collector" 151 "FlowShelf$Cursor" "bad" "Z") ∈ fs_ws := fs_t4 (List.mem_of_getElem? (i := 231) rfl) rfl
theorem tw_4_239 : (Cond.methodLink "FlowShelf$Collector" 140 ⟨"FlowShelf$Report", "templateFields", "()I"⟩) ∈ fs_ws := fs_t4 (List.mem_of_getElem? (i := 239) rfl) rfl
theorem tw_5_0 : (Cond.methodLink "FlowShelf$Collector" 143 ⟨"FlowShelf$Report", "templateLength", "(I)I"⟩) ∈ fs_ws := fs_t5 (List.mem_of_getElem? (i := 0) rfl) rfl
theorem tw_5_1 : (Cond.methodLink "FlowShelf$Collector" 147 ⟨"FlowShelf$Cursor", "takeField", "(I)J"⟩) ∈ fs_ws := fs_t5 (List.mem_of_getElem? (i := 1) rfl) rfl
theorem tw_5_2 : (Cond.instanceMethod ⟨"FlowShelf$Cursor", "takeField", "(I)J"⟩) ∈ fs_ws := fs_t5 (List.mem_of_getElem? (i := 2) rfl) rfl
theorem tw_5_3 : (Cond.selects "FlowShelf$Cursor" ⟨"FlowShelf$Cursor", "takeField", "(I)J"⟩ ⟨"FlowShelf$Cursor", "takeField", "(I)J"⟩) ∈ fs_ws := fs_t5 (List.mem_of_getElem? (i := 3) rfl) rfl
theorem tw_5_4 : (Cond.code ⟨"FlowShelf$Cursor", "takeField", "(I)J"⟩ prog_3_method_3_code 6 (Option.some FieldType.long)) ∈ fs_ws := fs_t5 (List.mem_of_getElem? (i := 4) rfl) rfl
theorem tw_5_5 : (Cond.methodLink "FlowShelf$Cursor" 24 ⟨"FlowShelf$Cursor", "takeByte", "()I"⟩) ∈ fs_ws := fs_t5 (List.mem_of_getElem? (i := 5) rfl) rfl
theorem tw_5_6 : (Cond.instanceMethod ⟨"FlowShelf$Cursor", "takeByte", "()I"⟩) ∈ fs_ws := fs_t5 (List.mem_of_getElem? (i := 6) rfl) rfl
theorem tw_5_7 : (Cond.selects "FlowShelf$Cursor" ⟨"FlowShelf$Cursor", "takeByte", "()I"⟩ ⟨"FlowShelf$Cursor", "takeByte", "()I"⟩) ∈ fs_ws := fs_t5 (List.mem_of_getElem? (i := 7) rfl) rfl
theorem tw_5_8 : (Cond.code ⟨"FlowShelf$Cursor", "takeByte", "()I"⟩ prog_3_method_4_code 2 (Option.some FieldType.int)) ∈ fs_ws := fs_t5 (List.mem_of_getElem? (i := 8) rfl) rfl
theorem tw_5_9 : (Cond.methodLink "FlowShelf$Collector" 155 ⟨"FlowShelf$Cursor", "isAtEnd", "()Z"⟩) ∈ fs_ws := fs_t5 (List.mem_of_getElem? (i := 9) rfl) rfl
theorem tw_5_10 : (Cond.instanceMethod ⟨"FlowShelf$Cursor", "isAtEnd", "()Z"⟩) ∈ fs_ws := fs_t5 (List.mem_of_getElem? (i := 10) rfl) rfl
theorem tw_5_11 : (Cond.selects "FlowShelf$Cursor" ⟨"FlowShelf$Cursor", "isAtEnd", "()Z"⟩ ⟨"FlowShelf$Cursor", "isAtEnd", "()Z"⟩) ∈ fs_ws := fs_t5 (List.mem_of_getElem? (i := 11) rfl) rfl
theorem tw_5_12 : (Cond.code ⟨"FlowShelf$Cursor", "isAtEnd", "()Z"⟩ prog_3_method_2_code 1 (Option.some FieldType.boolean)) ∈ fs_ws := fs_t5 (List.mem_of_getElem? (i := 12) rfl) rfl
theorem tw_5_13 : (Cond.methodLink "FlowShelf$Collector" 100 ⟨"FlowShelf$Collector", "makeRows", "(LFlowShelf$Report;LFlowShelf$Report;)V"⟩) ∈ fs_ws := fs_t5 (List.mem_of_getElem? (i := 13) rfl) rfl
theorem tw_5_14 : (Cond.instanceMethod ⟨"FlowShelf$Collector", "makeRows", "(LFlowShelf$Report;LFlowShelf$Report;)V"⟩) ∈ fs_ws := fs_t5 (List.mem_of_getElem? (i := 14) rfl) rfl
theorem tw_5_15 : (Cond.selects "FlowShelf$Collector" ⟨"FlowShelf$Collector", "makeRows", "(LFlowShelf$Report;LFlowShelf$Report;)V"⟩ ⟨"FlowShelf$Collector", "makeRows", "(LFlowShelf$Report;LFlowShelf$Report;)V"⟩) ∈ fs_ws := fs_t5 (List.mem_of_getElem? (i := 15) rfl) rfl
theorem tw_5_16 : (Cond.code ⟨"FlowShelf$Collector", "makeRows", "(LFlowShelf$Report;LFlowShelf$Report;)V"⟩ prog_2_method_14_code 7 (Option.none : Option FieldType)) ∈ fs_ws := fs_t5 (List.mem_of_getElem? (i := 16) rfl) rfl
theorem tw_5_17 : (Cond.classLink "FlowShelf$Collector" 159 "FlowShelf$Row") ∈ fs_ws := fs_t5 (List.mem_of_getElem? (i := 17) rfl) rfl
theorem tw_5_18 : (Cond.instantiable "FlowShelf$Row" 2) ∈ fs_ws := fs_t5 (List.mem_of_getElem? (i := 18) rfl) rfl
theorem tw_5_19 : (Cond.methodLink "FlowShelf$Collector" 48 ⟨"FlowShelf$Report", "exporter", "()I"⟩) ∈ fs_ws := fs_t5 (List.mem_of_getElem? (i := 19) rfl) rfl
theorem tw_5_20 : (Cond.methodLink "FlowShelf$Collector" 161 ⟨"FlowShelf$Row", "<init>", "(I)V"⟩) ∈ fs_ws := fs_t5 (List.mem_of_getElem? (i := 20) rfl) rfl
theorem tw_5_21 : (Cond.instanceMethod ⟨"FlowShelf$Row", "<init>", "(I)V"⟩) ∈ fs_ws := fs_t5 (List.mem_of_getElem? (i := 21) rfl) rfl
theorem tw_5_22 : (Cond.code ⟨"FlowShelf$Row", "<init>", "(I)V"⟩ prog_9_method_1_code 2 (Option.none : Option FieldType)) ∈ fs_ws := fs_t5 (List.mem_of_getElem? (i := 22) rfl) rfl
theorem tw_5_23 : (Cond.methodLink "FlowShelf$Row" 3 ⟨"java/lang/Object", "<init>", "()V"⟩) ∈ fs_ws := fs_t5 (List.mem_of_getElem? (i := 23) rfl) rfl
theorem tw_5_24 : (Cond.constantLong "FlowShelf$Row" 19 (-1 : Int64)) ∈ fs_ws := fs_t5 (List.mem_of_getElem? (i := 24) rfl) rfl
theorem tw_5_25 : (Cond.methodLink "FlowShelf$Row" 21 ⟨"java/util/Arrays", "fill", "([JJ)V"⟩) ∈ fs_ws := fs_t5 (List.mem_of_getElem? (i := 25) rfl) rfl
theorem tw_5_26 : (Cond.static ⟨"java/util/Arrays", "fill", "([JJ)V"⟩) ∈ fs_ws := fs_t5 (List.mem_of_getElem? (i := 26) rfl) rfl
theorem tw_5_27 : (Cond.code ⟨"java/util/Arrays", "fill", "([JJ)V"⟩ prog_30_method_101_code 5 (Option.none : Option FieldType)) ∈ fs_ws := fs_t5 (List.mem_of_getElem? (i := 27) rfl) rfl
theorem tw_5_28 : (Cond.fieldLink "FlowShelf$Row" 15 "FlowShelf$Row" "exporter" "I") ∈ fs_ws := fs_t5 (List.mem_of_getElem? (i := 28) rfl) rfl
theorem tw_5_29 : (Cond.fieldLink "FlowShelf$Table" 43 "FlowShelf$Row" "exporter" "I") ∈ fs_ws := fs_t5 (List.mem_of_getElem? (i := 29) rfl) rfl
theorem tw_5_30 : (Cond.fieldLink "FlowShelf" 263 "FlowShelf$Row" "exporter" "I") ∈ fs_ws := fs_t5 (List.mem_of_getElem? (i := 30) rfl) rfl
theorem tw_5_31 : (Cond.fieldLink "FlowShelf$Row" 9 "FlowShelf$Row" "values" "[J") ∈ fs_ws := fs_t5 (List.mem_of_getElem? (i := 31) rfl) rfl
theorem tw_5_32 : (Cond.fieldLink "FlowShelf$Table" 50 "FlowShelf$Row" "values" "[J") ∈ fs_ws := fs_t5 (List.mem_of_getElem? (i := 32) rfl) rfl
theorem tw_5_33 : (Cond.fieldLink "FlowShelf$Collector" 163 "FlowShelf$Row" "values" "[J") ∈ fs_ws := fs_t5 (List.mem_of_getElem? (i := 33) rfl) rfl
theorem tw_5_34 : (Cond.fieldLink "FlowShelf" 265 "FlowShelf$Row" "values" "[J") ∈ fs_ws := fs_t5 (List.mem_of_getElem? (i := 34) rfl) rfl
theorem tw_5_40 : (Cond.arrayClass FieldType.long) ∈ fs_ws := fs_t5 (List.mem_of_getElem? (i := 40) rfl) rfl
theorem tw_5_41 : (Cond.methodLink "FlowShelf$Collector" 167 ⟨"FlowShelf$Report", "templateField", "(I)I"⟩) ∈ fs_ws := fs_t5 (List.mem_of_getElem? (i := 41) rfl) rfl
theorem tw_5_42 : (Cond.methodLink "FlowShelf$Collector" 170 ⟨"FlowShelf$Table", "addRow", "(LFlowShelf$Row;)V"⟩) ∈ fs_ws := fs_t5 (List.mem_of_getElem? (i := 42) rfl) rfl
theorem tw_5_43 : (Cond.instanceMethod ⟨"FlowShelf$Table", "addRow", "(LFlowShelf$Row;)V"⟩) ∈ fs_ws := fs_t5 (List.mem_of_getElem? (i := 43) rfl) rfl
theorem tw_5_44 : (Cond.selects "FlowShelf$Table" ⟨"FlowShelf$Table", "addRow", "(LFlowShelf$Row;)V"⟩ ⟨"FlowShelf$Table", "addRow", "(LFlowShelf$Row;)V"⟩) ∈ fs_ws := fs_t5 (List.mem_of_getElem? (i := 44) rfl) rfl
theorem tw_5_45 : (Cond.code ⟨"FlowShelf$Table", "addRow", "(LFlowShelf$Row;)V"⟩ prog_11_method_3_code 2 (Option.none : Option FieldType)) ∈ fs_ws := fs_t5 (List.mem_of_getElem? (i := 45) rfl) rfl
theorem tw_5_46 : (Cond.methodLink "FlowShelf$Table" 29 ⟨"FlowShelf$Table", "hasRoomFor", "(I)Z"⟩) ∈ fs_ws := fs_t5 (List.mem_of_getElem? (i := 46) rfl) rfl
theorem tw_5_47 : (Cond.methodLink "FlowShelf$Table" 33 ⟨"java/util/ArrayList", "add", "(Ljava/lang/Object;)Z"⟩) ∈ fs_ws := fs_t5 (List.mem_of_getElem? (i := 47) rfl) rfl
theorem tw_5_48 : (Cond.methodLink "FlowShelf$Collector" 103 ⟨"FlowShelf$Collector", "ledgerOf", "(I)LFlowShelf$Ledger;"⟩) ∈ fs_ws := fs_t5 (List.mem_of_getElem? (i := 48) rfl) rfl
theorem tw_5_49 : (Cond.instanceMethod ⟨"FlowShelf$Collector", "ledgerOf", "(I)LFlowShelf$Ledger;"⟩) ∈ fs_ws := fs_t5 (List.mem_of_getElem? (i := 49) rfl) rfl
theorem tw_5_50 : (Cond.selects "FlowShelf$Collector" ⟨"FlowShelf$Collector", "ledgerOf", "(I)LFlowShelf$Ledger;"⟩ ⟨"FlowShelf$Collector", "ledgerOf", "(I)LFlowShelf$Ledger;"⟩) ∈ fs_ws := fs_t5 (List.mem_of_getElem? (i := 50) rfl) rfl
theorem tw_5_51 : (Cond.code ⟨"FlowShelf$Collector", "ledgerOf", "(I)LFlowShelf$Ledger;"⟩ prog_2_method_2_code 2 (Option.some (FieldType.object "FlowShelf$Ledger"))) ∈ fs_ws := fs_t5 (List.mem_of_getElem? (i := 51) rfl) rfl
theorem tw_5_52 : (Cond.methodLink "FlowShelf" 231 ⟨"FlowShelf$Collector", "hearRecords", "(LFlowShelf$Report;)I"⟩) ∈ fs_ws := fs_t5 (List.mem_of_getElem? (i := 52) rfl) rfl
theorem tw_5_53 : (Cond.instanceMethod ⟨"FlowShelf$Collector", "hearRecords", "(LFlowShelf$Report;)I"⟩) ∈ fs_ws := fs_t5 (List.mem_of_getElem? (i := 53) rfl) rfl
theorem tw_5_54 : (Cond.selects "FlowShelf$Collector" ⟨"FlowShelf$Collector", "hearRecords", "(LFlowShelf$Report;)I"⟩ ⟨"FlowShelf$Collector", "hearRecords", "(LFlowShelf$Report;)I"⟩) ∈ fs_ws := fs_t5 (List.mem_of_getElem? (i := 54) rfl) rfl
theorem tw_5_55 : (Cond.code ⟨"FlowShelf$Collector", "hearRecords", "(LFlowShelf$Report;)I"⟩ prog_2_method_9_code 5 (Option.some FieldType.int)) ∈ fs_ws := fs_t5 (List.mem_of_getElem? (i := 55) rfl) rfl
theorem tw_5_56 : (Cond.methodLink "FlowShelf$Collector" 111 ⟨"FlowShelf$Ledger", "heardOneOf", "(LFlowShelf$Report;)Z"⟩) ∈ fs_ws := fs_t5 (List.mem_of_getElem? (i := 56) rfl) rfl
theorem tw_5_57 : (Cond.instanceMethod ⟨"FlowShelf$Ledger", "heardOneOf", "(LFlowShelf$Report;)Z"⟩) ∈ fs_ws := fs_t5 (List.mem_of_getElem? (i := 57) rfl) rfl
theorem tw_5_58 : (Cond.selects "FlowShelf$Ledger" ⟨"FlowShelf$Ledger", "heardOneOf", "(LFlowShelf$Report;)Z"⟩ ⟨"FlowShelf$Ledger", "heardOneOf", "(LFlowShelf$Report;)Z"⟩) ∈ fs_ws := fs_t5 (List.mem_of_getElem? (i := 58) rfl) rfl
theorem tw_5_59 : (Cond.code ⟨"FlowShelf$Ledger", "heardOneOf", "(LFlowShelf$Report;)Z"⟩ prog_7_method_2_code 4 (Option.some FieldType.boolean)) ∈ fs_ws := fs_t5 (List.mem_of_getElem? (i := 59) rfl) rfl
theorem tw_5_60 : (Cond.methodLink "FlowShelf$Ledger" 15 ⟨"FlowShelf$Report", "epoch", "()I"⟩) ∈ fs_ws := fs_t5 (List.mem_of_getElem? (i := 60) rfl) rfl
theorem tw_5_61 : (Cond.methodLink "FlowShelf$Ledger" 21 ⟨"FlowShelf$Report", "firstPlace", "()I"⟩) ∈ fs_ws := fs_t5 (List.mem_of_getElem? (i := 61) rfl) rfl
theorem tw_5_62 : (Cond.methodLink "FlowShelf$Ledger" 24 ⟨"FlowShelf$Report", "records", "()I"⟩) ∈ fs_ws := fs_t5 (List.mem_of_getElem? (i := 62) rfl) rfl
theorem tw_5_63 : (Cond.methodLink "FlowShelf$Collector" 114 ⟨"FlowShelf$Collector", "putOnShelf", "(LFlowShelf$Report;)V"⟩) ∈ fs_ws := fs_t5 (List.mem_of_getElem? (i := 63) rfl) rfl
theorem tw_5_64 : (Cond.instanceMethod ⟨"FlowShelf$Collector", "putOnShelf", "(LFlowShelf$Report;)V"⟩) ∈ fs_ws := fs_t5 (List.mem_of_getElem? (i := 64) rfl) rfl
theorem tw_5_65 : (Cond.selects "FlowShelf$Collector" ⟨"FlowShelf$Collector", "putOnShelf", "(LFlowShelf$Report;)V"⟩ ⟨"FlowShelf$Collector", "putOnShelf", "(LFlowShelf$Report;)V"⟩) ∈ fs_ws := fs_t5 (List.mem_of_getElem? (i := 65) rfl) rfl
theorem tw_5_66 : (Cond.code ⟨"FlowShelf$Collector", "putOnShelf", "(LFlowShelf$Report;)V"⟩ prog_2_method_11_code 2 (Option.none : Option FieldType)) ∈ fs_ws := fs_t5 (List.mem_of_getElem? (i := 66) rfl) rfl
theorem tw_5_67 : (Cond.methodLink "FlowShelf$Collector" 117 ⟨"FlowShelf$Collector", "readNow", "(LFlowShelf$Report;LFlowShelf$Report;)V"⟩) ∈ fs_ws := fs_t5 (List.mem_of_getElem? (i := 67) rfl) rfl
theorem tw_5_68 : (Cond.instanceMethod ⟨"FlowShelf$Collector", "readNow", "(LFlowShelf$Report;LFlowShelf$Report;)V"⟩) ∈ fs_ws := fs_t5 (List.mem_of_getElem? (i := 68) rfl) rfl
theorem tw_5_69 : (Cond.selects "FlowShelf$Collector" ⟨"FlowShelf$Collector", "readNow", "(LFlowShelf$Report;LFlowShelf$Report;)V"⟩ ⟨"FlowShelf$Collector", "readNow", "(LFlowShelf$Report;LFlowShelf$Report;)V"⟩) ∈ fs_ws := fs_t5 (List.mem_of_getElem? (i := 69) rfl) rfl
theorem tw_5_70 : (Cond.code ⟨"FlowShelf$Collector", "readNow", "(LFlowShelf$Report;LFlowShelf$Report;)V"⟩ prog_2_method_10_code 3 (Option.none : Option FieldType)) ∈ fs_ws := fs_t5 (List.mem_of_getElem? (i := 70) rfl) rfl
theorem tw_5_71 : (Cond.classLink "FlowShelf$Collector" 123 "java/lang/IllegalArgumentException") ∈ fs_ws := fs_t5 (List.mem_of_getElem? (i := 71) rfl) rfl
theorem tw_5_73 : (Cond.methodLink "FlowShelf$Collector" 127 ⟨"java/lang/IllegalArgumentException", "<init>", "(Ljava/lang/String;)V"⟩) ∈ fs_ws := fs_t5 (List.mem_of_getElem? (i := 73) rfl) rfl
theorem tw_5_74 : (Cond.methodLink "FlowShelf$Collector" 120 ⟨"FlowShelf$Ledger", "markHeard", "(LFlowShelf$Report;)V"⟩) ∈ fs_ws := fs_t5 (List.mem_of_getElem? (i := 74) rfl) rfl
theorem tw_5_75 : (Cond.instanceMethod ⟨"FlowShelf$Ledger", "markHeard", "(LFlowShelf$Report;)V"⟩) ∈ fs_ws := fs_t5 (List.mem_of_getElem? (i := 75) rfl) rfl
theorem tw_5_76 : (Cond.selects "FlowShelf$Ledger" ⟨"FlowShelf$Ledger", "markHeard", "(LFlowShelf$Report;)V"⟩ ⟨"FlowShelf$Ledger", "markHeard", "(LFlowShelf$Report;)V"⟩) ∈ fs_ws := fs_t5 (List.mem_of_getElem? (i := 76) rfl) rfl
theorem tw_5_77 : (Cond.code ⟨"FlowShelf$Ledger", "markHeard", "(LFlowShelf$Report;)V"⟩ prog_7_method_3_code 4 (Option.none : Option FieldType)) ∈ fs_ws := fs_t5 (List.mem_of_getElem? (i := 77) rfl) rfl
theorem tw_5_78 : (Cond.methodLink "FlowShelf" 234 ⟨"FlowShelf$Report", "exporter", "()I"⟩) ∈ fs_ws := fs_t5 (List.mem_of_getElem? (i := 78) rfl) rfl
theorem tw_5_79 : (Cond.methodLink "FlowShelf" 237 ⟨"FlowShelf$Collector", "ledgerOf", "(I)LFlowShelf$Ledger;"⟩) ∈ fs_ws := fs_t5 (List.mem_of_getElem? (i := 79) rfl) rfl
theorem tw_5_80 : (Cond.methodLink "FlowShelf" 241 ⟨"FlowShelf$Ledger", "noteSampler", "(LFlowShelf$Report;)V"⟩) ∈ fs_ws := fs_t5 (List.mem_of_getElem? (i := 80) rfl) rfl
theorem tw_5_81 : (Cond.instanceMethod ⟨"FlowShelf$Ledger", "noteSampler", "(LFlowShelf$Report;)V"⟩) ∈ fs_ws := fs_t5 (List.mem_of_getElem? (i := 81) rfl) rfl
theorem tw_5_82 : (Cond.selects "FlowShelf$Ledger" ⟨"FlowShelf$Ledger", "noteSampler", "(LFlowShelf$Report;)V"⟩ ⟨"FlowShelf$Ledger", "noteSampler", "(LFlowShelf$Report;)V"⟩) ∈ fs_ws := fs_t5 (List.mem_of_getElem? (i := 82) rfl) rfl
theorem tw_5_83 : (Cond.code ⟨"FlowShelf$Ledger", "noteSampler", "(LFlowShelf$Report;)V"⟩ prog_7_method_6_code 4 (Option.none : Option FieldType)) ∈ fs_ws := fs_t5 (List.mem_of_getElem? (i := 83) rfl) rfl
theorem tw_5_84 : (Cond.methodLink "FlowShelf$Ledger" 38 ⟨"FlowShelf$Report", "samplersBefore", "()I"⟩) ∈ fs_ws := fs_t5 (List.mem_of_getElem? (i := 84) rfl) rfl
theorem tw_5_85 : (Cond.instanceMethod ⟨"FlowShelf$Report", "samplersBefore", "()I"⟩) ∈ fs_ws := fs_t5 (List.mem_of_getElem? (i := 85) rfl) rfl
theorem tw_5_86 : (Cond.selects "FlowShelf$Report" ⟨"FlowShelf$Report", "samplersBefore", "()I"⟩ ⟨"FlowShelf$Report", "samplersBefore", "()I"⟩) ∈ fs_ws := fs_t5 (List.mem_of_getElem? (i := 86) rfl) rfl
theorem tw_5_87 : (Cond.code ⟨"FlowShelf$Report", "samplersBefore", "()I"⟩ prog_8_method_13_code 1 (Option.some FieldType.int)) ∈ fs_ws := fs_t5 (List.mem_of_getElem? (i := 87) rfl) rfl
theorem tw_5_88 : (Cond.methodLink "FlowShelf$Ledger" 44 ⟨"FlowShelf$Report", "samplerN", "()I"⟩) ∈ fs_ws := fs_t5 (List.mem_of_getElem? (i := 88) rfl) rfl
theorem tw_5_89 : (Cond.methodLink "FlowShelfLaw" 153 ⟨"FlowShelfLaw", "row", "(LFlowShelf;II[J)I"⟩) ∈ fs_ws := fs_t5 (List.mem_of_getElem? (i := 89) rfl) rfl
theorem tw_5_90 : (Cond.static ⟨"FlowShelfLaw", "row", "(LFlowShelf;II[J)I"⟩) ∈ fs_ws := fs_t5 (List.mem_of_getElem? (i := 90) rfl) rfl
theorem tw_5_91 : (Cond.codeWith ⟨"FlowShelfLaw", "row", "(LFlowShelf;II[J)I"⟩ method_18_code 5 (Option.some FieldType.int) [(0, 9, 12, 33), (0, 9, 16, 13)]) ∈ fs_ws := fs_t5 (List.mem_of_getElem? (i := 91) rfl) rfl
theorem tw_5_92 : (Cond.methodLink "FlowShelfLaw" 69 ⟨"FlowShelf", "row", "(II)J"⟩) ∈ fs_ws := fs_t5 (List.mem_of_getElem? (i := 92) rfl) rfl
theorem tw_5_93 : (Cond.instanceMethod ⟨"FlowShelf", "row", "(II)J"⟩) ∈ fs_ws := fs_t5 (List.mem_of_getElem? (i := 93) rfl) rfl
theorem tw_5_94 : (Cond.selects "FlowShelf" ⟨"FlowShelf", "row", "(II)J"⟩ ⟨"FlowShelf", "row", "(II)J"⟩) ∈ fs_ws := fs_t5 (List.mem_of_getElem? (i := 94) rfl) rfl
theorem tw_5_95 : (Cond.code ⟨"FlowShelf", "row", "(II)J"⟩ prog_1_method_19_code 4 (Option.some FieldType.long)) ∈ fs_ws := fs_t5 (List.mem_of_getElem? (i := 95) rfl) rfl
theorem tw_5_96 : (Cond.methodLink "FlowShelf" 256 ⟨"FlowShelf", "requireRow", "(I)V"⟩) ∈ fs_ws := fs_t5 (List.mem_of_getElem? (i := 96) rfl) rfl
theorem tw_5_98 : (Cond.instanceMethod ⟨"FlowShelf", "requireRow", "(I)V"⟩) ∈ fs_ws := fs_t5 (List.mem_of_getElem? (i := 98) rfl) rfl
theorem tw_5_99 : (Cond.code ⟨"FlowShelf", "requireRow", "(I)V"⟩ prog_1_method_26_code 2 (Option.none : Option FieldType)) ∈ fs_ws := fs_t5 (List.mem_of_getElem? (i := 99) rfl) rfl
theorem tw_5_102 : (Cond.classLink "FlowShelf" 261 "FlowShelf$Row") ∈ fs_ws := fs_t5 (List.mem_of_getElem? (i := 102) rfl) rfl
theorem tw_5_103 : (Cond.methodLink "FlowShelfLaw" 158 ⟨"FlowShelfLaw", "total", "(LFlowShelf;IIJI[J)I"⟩) ∈ fs_ws := fs_t5 (List.mem_of_getElem? (i := 103) rfl) rfl
theorem tw_5_104 : (Cond.static ⟨"FlowShelfLaw", "total", "(LFlowShelf;IIJI[J)I"⟩) ∈ fs_ws := fs_t5 (List.mem_of_getElem? (i := 104) rfl) rfl
theorem tw_5_105 : (Cond.codeWith ⟨"FlowShelfLaw", "total", "(LFlowShelf;IIJI[J)I"⟩ method_19_code 8 (Option.some FieldType.int) [(0, 13, 16, 13)]) ∈ fs_ws := fs_t5 (List.mem_of_getElem? (i := 105) rfl) rfl
theorem tw_5_106 : (Cond.methodLink "FlowShelfLaw" 73 ⟨"FlowShelf", "total", "(IIJI)J"⟩) ∈ fs_ws := fs_t5 (List.mem_of_getElem? (i := 106) rfl) rfl
theorem tw_5_107 : (Cond.instanceMethod ⟨"FlowShelf", "total", "(IIJI)J"⟩) ∈ fs_ws := fs_t5 (List.mem_of_getElem? (i := 107) rfl) rfl
theorem tw_5_108 : (Cond.selects "FlowShelf" ⟨"FlowShelf", "total", "(IIJI)J"⟩ ⟨"FlowShelf", "total", "(IIJI)J"⟩) ∈ fs_ws := fs_t5 (List.mem_of_getElem? (i := 108) rfl) rfl
theorem tw_5_109 : (Cond.code ⟨"FlowShelf", "total", "(IIJI)J"⟩ prog_1_method_20_code 6 (Option.some FieldType.long)) ∈ fs_ws := fs_t5 (List.mem_of_getElem? (i := 109) rfl) rfl
theorem tw_5_110 : (Cond.methodLink "FlowShelf" 274 ⟨"FlowShelf$Table", "sumOf", "(IIJI)J"⟩) ∈ fs_ws := fs_t5 (List.mem_of_getElem? (i := 110) rfl) rfl
theorem tw_5_111 : (Cond.instanceMethod ⟨"FlowShelf$Table", "sumOf", "(IIJI)J"⟩) ∈ fs_ws := fs_t5 (List.mem_of_getElem? (i := 111) rfl) rfl
theorem tw_5_112 : (Cond.selects "FlowShelf$Table" ⟨"FlowShelf$Table", "sumOf", "(IIJI)J"⟩ ⟨"FlowShelf$Table", "sumOf", "(IIJI)J"⟩) ∈ fs_ws := fs_t5 (List.mem_of_getElem? (i := 112) rfl) rfl
theorem tw_5_113 : (Cond.code ⟨"FlowShelf$Table", "sumOf", "(IIJI)J"⟩ prog_11_method_4_code 10 (Option.some FieldType.long)) ∈ fs_ws := fs_t5 (List.mem_of_getElem? (i := 113) rfl) rfl
theorem tw_5_114 : (Cond.methodLink "FlowShelf$Table" 37 ⟨"java/util/ArrayList", "get", "(I)Ljava/lang/Object;"⟩) ∈ fs_ws := fs_t5 (List.mem_of_getElem? (i := 114) rfl) rfl
theorem tw_5_115 : (Cond.classLink "FlowShelf$Table" 41 "FlowShelf$Row") ∈ fs_ws := fs_t5 (List.mem_of_getElem? (i := 115) rfl) rfl
theorem tw_5_116 : (Cond.methodLink "FlowShelf$Table" 47 ⟨"FlowShelf$Row", "has", "(I)Z"⟩) ∈ fs_ws := fs_t5 (List.mem_of_getElem? (i := 116) rfl) rfl
theorem tw_5_117 : (Cond.instanceMethod ⟨"FlowShelf$Row", "has", "(I)Z"⟩) ∈ fs_ws := fs_t5 (List.mem_of_getElem? (i := 117) rfl) rfl
theorem tw_5_118 : (Cond.selects "FlowShelf$Row" ⟨"FlowShelf$Row", "has", "(I)Z"⟩ ⟨"FlowShelf$Row", "has", "(I)Z"⟩) ∈ fs_ws := fs_t5 (List.mem_of_getElem? (i := 118) rfl) rfl
theorem tw_5_119 : (Cond.code ⟨"FlowShelf$Row", "has", "(I)Z"⟩ prog_9_method_2_code 2 (Option.some FieldType.boolean)) ∈ fs_ws := fs_t5 (List.mem_of_getElem? (i := 119) rfl) rfl
theorem tw_5_120 : (Cond.methodLink "FlowShelfLaw" 162 ⟨"FlowShelfLaw", "other", "(LFlowShelf;I[J)I"⟩) ∈ fs_ws := fs_t5 (List.mem_of_getElem? (i := 120) rfl) rfl
theorem tw_5_121 : (Cond.static ⟨"FlowShelfLaw", "other", "(LFlowShelf;I[J)I"⟩) ∈ fs_ws := fs_t5 (List.mem_of_getElem? (i := 121) rfl) rfl
theorem tw_5_122 : (Cond.codeWith ⟨"FlowShelfLaw", "other", "(LFlowShelf;I[J)I"⟩ method_20_code 4 (Option.some FieldType.int) [(0, 9, 12, 33)]) ∈ fs_ws := fs_t5 (List.mem_of_getElem? (i := 122) rfl) rfl
theorem tw_5_123 : (Cond.methodLink "FlowShelfLaw" 77 ⟨"FlowShelf", "other", "(I)I"⟩) ∈ fs_ws := fs_t5 (List.mem_of_getElem? (i := 123) rfl) rfl
theorem tw_5_124 : (Cond.instanceMethod ⟨"FlowShelf", "other", "(I)I"⟩) ∈ fs_ws := fs_t5 (List.mem_of_getElem? (i := 124) rfl) rfl
theorem tw_5_125 : (Cond.selects "FlowShelf" ⟨"FlowShelf", "other", "(I)I"⟩ ⟨"FlowShelf", "other", "(I)I"⟩) ∈ fs_ws := fs_t5 (List.mem_of_getElem? (i := 125) rfl) rfl
theorem tw_5_126 : (Cond.code ⟨"FlowShelf", "other", "(I)I"⟩ prog_1_method_21_code 2 (Option.some FieldType.int)) ∈ fs_ws := fs_t5 (List.mem_of_getElem? (i := 126) rfl) rfl
theorem tw_5_127 : (Cond.methodLink "FlowShelf" 278 ⟨"FlowShelf$Table", "partnerOf", "(I)I"⟩) ∈ fs_ws := fs_t5 (List.mem_of_getElem? (i := 127) rfl) rfl
theorem tw_5_128 : (Cond.instanceMethod ⟨"FlowShelf$Table", "partnerOf", "(I)I"⟩) ∈ fs_ws := fs_t5 (List.mem_of_getElem? (i := 128) rfl) rfl
theorem tw_5_129 : (Cond.selects "FlowShelf$Table" ⟨"FlowShelf$Table", "partnerOf", "(I)I"⟩ ⟨"FlowShelf$Table", "partnerOf", "(I)I"⟩) ∈ fs_ws := fs_t5 (List.mem_of_getElem? (i := 129) rfl) rfl
theorem tw_5_130 : (Cond.code ⟨"FlowShelf$Table", "partnerOf", "(I)I"⟩ prog_11_method_5_code 2 (Option.some FieldType.int)) ∈ fs_ws := fs_t5 (List.mem_of_getElem? (i := 130) rfl) rfl
theorem tw_5_131 : (Cond.methodLink "FlowShelf$Table" 57 ⟨"FlowShelf$Table", "pairAll", "()V"⟩) ∈ fs_ws := fs_t5 (List.mem_of_getElem? (i := 131) rfl) rfl
theorem tw_5_132 : (Cond.instanceMethod ⟨"FlowShelf$Table", "pairAll", "()V"⟩) ∈ fs_ws := fs_t5 (List.mem_of_getElem? (i := 132) rfl) rfl
theorem tw_5_133 : (Cond.selects "FlowShelf$Table" ⟨"FlowShelf$Table", "pairAll", "()V"⟩ ⟨"FlowShelf$Table", "pairAll", "()V"⟩) ∈ fs_ws := fs_t5 (List.mem_of_getElem? (i := 133) rfl) rfl
theorem tw_5_134 : (Cond.code ⟨"FlowShelf$Table", "pairAll", "()V"⟩ prog_11_method_6_code 4 (Option.none : Option FieldType)) ∈ fs_ws := fs_t5 (List.mem_of_getElem? (i := 134) rfl) rfl
theorem tw_5_135 : (Cond.methodLink "FlowShelf$Table" 60 ⟨"java/util/Arrays", "fill", "([II)V"⟩) ∈ fs_ws := fs_t5 (List.mem_of_getElem? (i := 135) rfl) rfl
theorem tw_5_136 : (Cond.static ⟨"java/util/Arrays", "fill", "([II)V"⟩) ∈ fs_ws := fs_t5 (List.mem_of_getElem? (i := 136) rfl) rfl
theorem tw_5_137 : (Cond.code ⟨"java/util/Arrays", "fill", "([II)V"⟩ prog_30_method_103_code 4 (Option.none : Option FieldType)) ∈ fs_ws := fs_t5 (List.mem_of_getElem? (i := 137) rfl) rfl
theorem tw_5_138 : (Cond.methodLink "FlowShelf$Table" 66 ⟨"FlowShelf$Table", "putInOrder", "()V"⟩) ∈ fs_ws := fs_t5 (List.mem_of_getElem? (i := 138) rfl) rfl
theorem tw_5_139 : (Cond.instanceMethod ⟨"FlowShelf$Table", "putInOrder", "()V"⟩) ∈ fs_ws := fs_t5 (List.mem_of_getElem? (i := 139) rfl) rfl
theorem tw_5_140 : (Cond.selects "FlowShelf$Table" ⟨"FlowShelf$Table", "putInOrder", "()V"⟩ ⟨"FlowShelf$Table", "putInOrder", "()V"⟩) ∈ fs_ws := fs_t5 (List.mem_of_getElem? (i := 140) rfl) rfl
theorem tw_5_141 : (Cond.code ⟨"FlowShelf$Table", "putInOrder", "()V"⟩ prog_11_method_7_code 2 (Option.none : Option FieldType)) ∈ fs_ws := fs_t5 (List.mem_of_getElem? (i := 141) rfl) rfl
theorem tw_5_142 : (Cond.methodLink "FlowShelf$Table" 76 ⟨"FlowShelf$Row", "canBePaired", "()Z"⟩) ∈ fs_ws := fs_t5 (List.mem_of_getElem? (i := 142) rfl) rfl
theorem tw_5_143 : (Cond.instanceMethod ⟨"FlowShelf$Row", "canBePaired", "()Z"⟩) ∈ fs_ws := fs_t5 (List.mem_of_getElem? (i := 143) rfl) rfl
theorem tw_5_144 : (Cond.selects "FlowShelf$Row" ⟨"FlowShelf$Row", "canBePaired", "()Z"⟩ ⟨"FlowShelf$Row", "canBePaired", "()Z"⟩) ∈ fs_ws := fs_t5 (List.mem_of_getElem? (i := 144) rfl) rfl
theorem tw_5_145 : (Cond.code ⟨"FlowShelf$Row", "canBePaired", "()Z"⟩ prog_9_method_3_code 1 (Option.some FieldType.boolean)) ∈ fs_ws := fs_t5 (List.mem_of_getElem? (i := 145) rfl) rfl
theorem tw_5_146 : (Cond.methodLink "FlowShelf$Row" 27 ⟨"FlowShelf$Row", "has", "(I)Z"⟩) ∈ fs_ws := fs_t5 (List.mem_of_getElem? (i := 146) rfl) rfl
theorem tw_5_147 : (Cond.methodLink "FlowShelf$Table" 80 ⟨"FlowShelf$Table", "insertInOrder", "(I)V"⟩) ∈ fs_ws := fs_t5 (List.mem_of_getElem? (i := 147) rfl) rfl
theorem tw_5_148 : (Cond.instanceMethod ⟨"FlowShelf$Table", "insertInOrder", "(I)V"⟩) ∈ fs_ws := fs_t5 (List.mem_of_getElem? (i := 148) rfl) rfl
theorem tw_5_149 : (Cond.selects "FlowShelf$Table" ⟨"FlowShelf$Table", "insertInOrder", "(I)V"⟩ ⟨"FlowShelf$Table", "insertInOrder", "(I)V"⟩) ∈ fs_ws := fs_t5 (List.mem_of_getElem? (i := 149) rfl) rfl
theorem tw_5_150 : (Cond.code ⟨"FlowShelf$Table", "insertInOrder", "(I)V"⟩ prog_11_method_8_code 3 (Option.none : Option FieldType)) ∈ fs_ws := fs_t5 (List.mem_of_getElem? (i := 150) rfl) rfl
theorem tw_5_151 : (Cond.methodLink "FlowShelf$Table" 72 ⟨"FlowShelf$Table", "nearestReverse", "(I)I"⟩) ∈ fs_ws := fs_t5 (List.mem_of_getElem? (i := 151) rfl) rfl
theorem tw_5_152 : (Cond.instanceMethod ⟨"FlowShelf$Table", "nearestReverse", "(I)I"⟩) ∈ fs_ws := fs_t5 (List.mem_of_getElem? (i := 152) rfl) rfl
theorem tw_5_153 : (Cond.selects "FlowShelf$Table" ⟨"FlowShelf$Table", "nearestReverse", "(I)I"⟩ ⟨"FlowShelf$Table", "nearestReverse", "(I)I"⟩) ∈ fs_ws := fs_t5 (List.mem_of_getElem? (i := 153) rfl) rfl
theorem tw_5_154 : (Cond.code ⟨"FlowShelf$Table", "nearestReverse", "(I)I"⟩ prog_11_method_9_code 6 (Option.some FieldType.int)) ∈ fs_ws := fs_t5 (List.mem_of_getElem? (i := 154) rfl) rfl
theorem tw_5_155 : (Cond.methodLink "FlowShelf$Table" 84 ⟨"FlowShelf$Row", "isReverseOf", "(LFlowShelf$Row;)Z"⟩) ∈ fs_ws := fs_t5 (List.mem_of_getElem? (i := 155) rfl) rfl
theorem tw_5_156 : (Cond.instanceMethod ⟨"FlowShelf$Row", "isReverseOf", "(LFlowShelf$Row;)Z"⟩) ∈ fs_ws := fs_t5 (List.mem_of_getElem? (i := 156) rfl) rfl
theorem tw_5_157 : (Cond.selects "FlowShelf$Row" ⟨"FlowShelf$Row", "isReverseOf", "(LFlowShelf$Row;)Z"⟩ ⟨"FlowShelf$Row", "isReverseOf", "(LFlowShelf$Row;)Z"⟩) ∈ fs_ws := fs_t5 (List.mem_of_getElem? (i := 157) rfl) rfl
theorem tw_5_158 : (Cond.code ⟨"FlowShelf$Row", "isReverseOf", "(LFlowShelf$Row;)Z"⟩ prog_9_method_4_code 2 (Option.some FieldType.boolean)) ∈ fs_ws := fs_t5 (List.mem_of_getElem? (i := 158) rfl) rfl
theorem tw_5_159 : (Cond.methodLink "FlowShelf$Table" 88 ⟨"FlowShelf$Row", "ticksBetween", "(LFlowShelf$Row;)J"⟩) ∈ fs_ws := fs_t5 (List.mem_of_getElem? (i := 159) rfl) rfl
theorem tw_5_160 : (Cond.instanceMethod ⟨"FlowShelf$Row", "ticksBetween", "(LFlowShelf$Row;)J"⟩) ∈ fs_ws := fs_t5 (List.mem_of_getElem? (i := 160) rfl) rfl
theorem tw_5_161 : (Cond.selects "FlowShelf$Row" ⟨"FlowShelf$Row", "ticksBetween", "(LFlowShelf$Row;)J"⟩ ⟨"FlowShelf$Row", "ticksBetween", "(LFlowShelf$Row;)J"⟩) ∈ fs_ws := fs_t5 (List.mem_of_getElem? (i := 161) rfl) rfl
theorem tw_5_162 : (Cond.code ⟨"FlowShelf$Row", "ticksBetween", "(LFlowShelf$Row;)J"⟩ prog_9_method_5_code 2 (Option.some FieldType.long)) ∈ fs_ws := fs_t5 (List.mem_of_getElem? (i := 162) rfl) rfl
theorem tw_5_163 : (Cond.methodLink "FlowShelf$Row" 31 ⟨"java/lang/Math", "abs", "(J)J"⟩) ∈ fs_ws := fs_t5 (List.mem_of_getElem? (i := 163) rfl) rfl
theorem tw_5_164 : (Cond.static ⟨"java/lang/Math", "abs", "(J)J"⟩) ∈ fs_ws := fs_t5 (List.mem_of_getElem? (i := 164) rfl) rfl
theorem tw_5_165 : (Cond.code ⟨"java/lang/Math", "abs", "(J)J"⟩ prog_21_method_61_code 2 (Option.some FieldType.long)) ∈ fs_ws := fs_t5 (List.mem_of_getElem? (i := 165) rfl) rfl
theorem tw_5_166 : (Cond.methodLink "FlowShelfLaw" 165 ⟨"FlowShelfLaw", "count", "(LFlowShelf;II[J)I"⟩) ∈ fs_ws := fs_t5 (List.mem_of_getElem? (i := 166) rfl) rfl
theorem tw_5_167 : (Cond.static ⟨"FlowShelfLaw", "count", "(LFlowShelf;II[J)I"⟩) ∈ fs_ws := fs_t5 (List.mem_of_getElem? (i := 167) rfl) rfl
theorem tw_5_168 : (Cond.codeWith ⟨"FlowShelfLaw", "count", "(LFlowShelf;II[J)I"⟩ method_21_code 5 (Option.some FieldType.int) [(0, 10, 13, 13)]) ∈ fs_ws := fs_t5 (List.mem_of_getElem? (i := 168) rfl) rfl
theorem tw_5_169 : (Cond.methodLink "FlowShelfLaw" 80 ⟨"FlowShelf", "count", "(II)I"⟩) ∈ fs_ws := fs_t5 (List.mem_of_getElem? (i := 169) rfl) rfl
theorem tw_5_170 : (Cond.instanceMethod ⟨"FlowShelf", "count", "(II)I"⟩) ∈ fs_ws := fs_t5 (List.mem_of_getElem? (i := 170) rfl) rfl
theorem tw_5_171 : (Cond.selects "FlowShelf" ⟨"FlowShelf", "count", "(II)I"⟩ ⟨"FlowShelf", "count", "(II)I"⟩) ∈ fs_ws := fs_t5 (List.mem_of_getElem? (i := 171) rfl) rfl
theorem tw_5_172 : (Cond.code ⟨"FlowShelf", "count", "(II)I"⟩ prog_1_method_22_code 5 (Option.some FieldType.int)) ∈ fs_ws := fs_t5 (List.mem_of_getElem? (i := 172) rfl) rfl
theorem tw_5_173 : (Cond.methodLink "FlowShelf" 287 ⟨"FlowShelf$Ledger", "lostRecords", "()I"⟩) ∈ fs_ws := fs_t5 (List.mem_of_getElem? (i := 173) rfl) rfl
theorem tw_5_174 : (Cond.instanceMethod ⟨"FlowShelf$Ledger", "lostRecords", "()I"⟩) ∈ fs_ws := fs_t5 (List.mem_of_getElem? (i := 174) rfl) rfl
theorem tw_5_175 : (Cond.selects "FlowShelf$Ledger" ⟨"FlowShelf$Ledger", "lostRecords", "()I"⟩ ⟨"FlowShelf$Ledger", "lostRecords", "()I"⟩) ∈ fs_ws := fs_t5 (List.mem_of_getElem? (i := 175) rfl) rfl
theorem tw_5_176 : (Cond.code ⟨"FlowShelf$Ledger", "lostRecords", "()I"⟩ prog_7_method_4_code 3 (Option.some FieldType.int)) ∈ fs_ws := fs_t5 (List.mem_of_getElem? (i := 176) rfl) rfl
theorem tw_5_177 : (Cond.methodLink "FlowShelf$Ledger" 27 ⟨"FlowShelf$Ledger", "lostInEpoch", "(I)I"⟩) ∈ fs_ws := fs_t5 (List.mem_of_getElem? (i := 177) rfl) rfl
theorem tw_5_178 : (Cond.instanceMethod ⟨"FlowShelf$Ledger", "lostInEpoch", "(I)I"⟩) ∈ fs_ws := fs_t5 (List.mem_of_getElem? (i := 178) rfl) rfl
theorem tw_5_179 : (Cond.selects "FlowShelf$Ledger" ⟨"FlowShelf$Ledger", "lostInEpoch", "(I)I"⟩ ⟨"FlowShelf$Ledger", "lostInEpoch", "(I)I"⟩) ∈ fs_ws := fs_t5 (List.mem_of_getElem? (i := 179) rfl) rfl
theorem tw_5_180 : (Cond.code ⟨"FlowShelf$Ledger", "lostInEpoch", "(I)I"⟩ prog_7_method_5_code 6 (Option.some FieldType.int)) ∈ fs_ws := fs_t5 (List.mem_of_getElem? (i := 180) rfl) rfl
theorem tw_5_181 : (Cond.methodLink "FlowShelf" 290 ⟨"FlowShelf$Collector", "waitingOf", "(I)I"⟩) ∈ fs_ws := fs_t5 (List.mem_of_getElem? (i := 181) rfl) rfl
theorem tw_5_182 : (Cond.instanceMethod ⟨"FlowShelf$Collector", "waitingOf", "(I)I"⟩) ∈ fs_ws := fs_t5 (List.mem_of_getElem? (i := 182) rfl) rfl
theorem tw_5_183 : (Cond.selects "FlowShelf$Collector" ⟨"FlowShelf$Collector", "waitingOf", "(I)I"⟩ ⟨"FlowShelf$Collector", "waitingOf", "(I)I"⟩) ∈ fs_ws := fs_t5 (List.mem_of_getElem? (i := 183) rfl) rfl
theorem tw_5_184 : (Cond.code ⟨"FlowShelf$Collector", "waitingOf", "(I)I"⟩ prog_2_method_3_code 4 (Option.some FieldType.int)) ∈ fs_ws := fs_t5 (List.mem_of_getElem? (i := 184) rfl) rfl
theorem tw_5_186 : (Cond.classLink "FlowShelfLaw" 84 "FlowShelfModel") ∈ fs_ws := fs_t5 (List.mem_of_getElem? (i := 186) rfl) rfl
theorem tw_5_187 : (Cond.instantiable "FlowShelfModel" 50) ∈ fs_ws := fs_t5 (List.mem_of_getElem? (i := 187) rfl) rfl
theorem tw_5_188 : (Cond.methodLink "FlowShelfLaw" 86 ⟨"FlowShelfModel", "<init>", "()V"⟩) ∈ fs_ws := fs_t5 (List.mem_of_getElem? (i := 188) rfl) rfl
theorem tw_5_189 : (Cond.instanceMethod ⟨"FlowShelfModel", "<init>", "()V"⟩) ∈ fs_ws := fs_t5 (List.mem_of_getElem? (i := 189) rfl) rfl
theorem tw_5_190 : (Cond.code ⟨"FlowShelfModel", "<init>", "()V"⟩ prog_13_method_1_code 1 (Option.none : Option FieldType)) ∈ fs_ws := fs_t5 (List.mem_of_getElem? (i := 190) rfl) rfl
theorem tw_5_191 : (Cond.methodLink "FlowShelfModel" 1 ⟨"java/lang/Object", "<init>", "()V"⟩) ∈ fs_ws := fs_t5 (List.mem_of_getElem? (i := 191) rfl) rfl
theorem tw_5_192 : (Cond.fieldLink "FlowShelfModel" 138 "FlowShelfModel" "thrown" "I") ∈ fs_ws := fs_t5 (List.mem_of_getElem? (i := 192) rfl) rfl
theorem tw_5_193 : (Cond.fieldLink "FlowShelfModel" 7 "FlowShelfModel" "clock" "[I") ∈ fs_ws := fs_t5 (List.mem_of_getElem? (i := 193) rfl) rfl
theorem tw_5_194 : (Cond.fieldLink "FlowShelfModel" 13 "FlowShelfModel" "epoch" "[I") ∈ fs_ws := fs_t5 (List.mem_of_getElem? (i := 194) rfl) rfl
theorem tw_5_195 : (Cond.fieldLink "FlowShelfModel" 16 "FlowShelfModel" "every" "[I") ∈ fs_ws := fs_t5 (List.mem_of_getElem? (i := 195) rfl) rfl
theorem tw_5_196 : (Cond.fieldLink "FlowShelfModel" 19 "FlowShelfModel" "counter" "[I") ∈ fs_ws := fs_t5 (List.mem_of_getElem? (i := 196) rfl) rfl
theorem tw_5_197 : (Cond.fieldLink "FlowShelfModel" 22 "FlowShelfModel" "written" "[I") ∈ fs_ws := fs_t5 (List.mem_of_getElem? (i := 197) rfl) rfl
theorem tw_5_198 : (Cond.fieldLink "FlowShelfModel" 25 "FlowShelfModel" "told" "[I") ∈ fs_ws := fs_t5 (List.mem_of_getElem? (i := 198) rfl) rfl
theorem tw_5_199 : (Cond.fieldLink "FlowShelfModel" 28 "FlowShelfModel" "cached" "[I") ∈ fs_ws := fs_t5 (List.mem_of_getElem? (i := 199) rfl) rfl
theorem tw_5_200 : (Cond.fieldLink "FlowShelfModel" 31 "FlowShelfModel" "key" "[I") ∈ fs_ws := fs_t5 (List.mem_of_getElem? (i := 200) rfl) rfl
theorem tw_5_201 : (Cond.fieldLink "FlowShelfModel" 34 "FlowShelfModel" "bytes" "[I") ∈ fs_ws := fs_t5 (List.mem_of_getElem? (i := 201) rfl) rfl
theorem tw_5_202 : (Cond.fieldLink "FlowShelfModel" 37 "FlowShelfModel" "packets" "[I") ∈ fs_ws := fs_t5 (List.mem_of_getElem? (i := 202) rfl) rfl
theorem tw_5_203 : (Cond.fieldLink "FlowShelfModel" 40 "FlowShelfModel" "began" "[I") ∈ fs_ws := fs_t5 (List.mem_of_getElem? (i := 203) rfl) rfl
theorem tw_5_204 : (Cond.fieldLink "FlowShelfModel" 43 "FlowShelfModel" "latest" "[I") ∈ fs_ws := fs_t5 (List.mem_of_getElem? (i := 204) rfl) rfl
theorem tw_5_205 : (Cond.fieldLink "FlowShelfModel" 46 "FlowShelfModel" "endedMany" "[I") ∈ fs_ws := fs_t5 (List.mem_of_getElem? (i := 205) rfl) rfl
theorem tw_5_206 : (Cond.fieldLink "FlowShelfModel" 49 "FlowShelfModel" "endedFields" "[I") ∈ fs_ws := fs_t5 (List.mem_of_getElem? (i := 206) rfl) rfl
theorem tw_5_207 : (Cond.fieldLink "FlowShelfModel" 52 "FlowShelfModel" "draftMany" "[I") ∈ fs_ws := fs_t5 (List.mem_of_getElem? (i := 207) rfl) rfl
theorem tw_5_208 : (Cond.fieldLink "FlowShelfModel" 55 "FlowShelfModel" "draftField" "[I") ∈ fs_ws := fs_t5 (List.mem_of_getElem? (i := 208) rfl) rfl
theorem tw_5_209 : (Cond.fieldLink "FlowShelfModel" 58 "FlowShelfModel" "draftLength" "[I") ∈ fs_ws := fs_t5 (List.mem_of_getElem? (i := 209) rfl) rfl
theorem tw_5_210 : (Cond.fieldLink "FlowShelfModel" 61 "FlowShelfModel" "revisions" "[I") ∈ fs_ws := fs_t5 (List.mem_of_getElem? (i := 210) rfl) rfl
theorem tw_5_211 : (Cond.fieldLink "FlowShelfModel" 64 "FlowShelfModel" "inForce" "[I") ∈ fs_ws := fs_t5 (List.mem_of_getElem? (i := 211) rfl) rfl
theorem tw_5_212 : (Cond.fieldLink "FlowShelfModel" 67 "FlowShelfModel" "forceMany" "[I") ∈ fs_ws := fs_t5 (List.mem_of_getElem? (i := 212) rfl) rfl
theorem tw_5_213 : (Cond.fieldLink "FlowShelfModel" 70 "FlowShelfModel" "forceField" "[I") ∈ fs_ws := fs_t5 (List.mem_of_getElem? (i := 213) rfl) rfl
theorem tw_5_214 : (Cond.fieldLink "FlowShelfModel" 73 "FlowShelfModel" "forceLength" "[I") ∈ fs_ws := fs_t5 (List.mem_of_getElem? (i := 214) rfl) rfl
theorem tw_5_215 : (Cond.fieldLink "FlowShelfModel" 76 "FlowShelfModel" "sealedAt" "[I") ∈ fs_ws := fs_t5 (List.mem_of_getElem? (i := 215) rfl) rfl
theorem tw_5_216 : (Cond.fieldLink "FlowShelfModel" 165 "FlowShelfModel" "seals" "I") ∈ fs_ws := fs_t5 (List.mem_of_getElem? (i := 216) rfl) rfl
theorem tw_5_217 : (Cond.fieldLink "FlowShelfModel" 168 "FlowShelfModel" "reports" "I") ∈ fs_ws := fs_t5 (List.mem_of_getElem? (i := 217) rfl) rfl
theorem tw_5_218 : (Cond.fieldLink "FlowShelfModel" 79 "FlowShelfModel" "sizes" "[I") ∈ fs_ws := fs_t5 (List.mem_of_getElem? (i := 218) rfl) rfl
theorem tw_5_219 : (Cond.fieldLink "FlowShelfModel" 82 "FlowShelfModel" "texts" "[I") ∈ fs_ws := fs_t5 (List.mem_of_getElem? (i := 219) rfl) rfl
theorem tw_5_220 : (Cond.fieldLink "FlowShelfModel" 204 "FlowShelfModel" "knownMany" "I") ∈ fs_ws := fs_t5 (List.mem_of_getElem? (i := 220) rfl) rfl
theorem tw_5_221 : (Cond.fieldLink "FlowShelfModel" 85 "FlowShelfModel" "known" "[I") ∈ fs_ws := fs_t5 (List.mem_of_getElem? (i := 221) rfl) rfl
theorem tw_5_222 : (Cond.fieldLink "FlowShelfModel" 88 "FlowShelfModel" "knownFields" "[I") ∈ fs_ws := fs_t5 (List.mem_of_getElem? (i := 222) rfl) rfl
theorem tw_5_223 : (Cond.fieldLink "FlowShelfModel" 91 "FlowShelfModel" "knownField" "[I") ∈ fs_ws := fs_t5 (List.mem_of_getElem? (i := 223) rfl) rfl
theorem tw_5_224 : (Cond.fieldLink "FlowShelfModel" 94 "FlowShelfModel" "knownLength" "[I") ∈ fs_ws := fs_t5 (List.mem_of_getElem? (i := 224) rfl) rfl
theorem tw_5_225 : (Cond.fieldLink "FlowShelfModel" 225 "FlowShelfModel" "shelved" "I") ∈ fs_ws := fs_t5 (List.mem_of_getElem? (i := 225) rfl) rfl
theorem tw_5_226 : (Cond.fieldLink "FlowShelfModel" 97 "FlowShelfModel" "shelfSize" "[I") ∈ fs_ws := fs_t5 (List.mem_of_getElem? (i := 226) rfl) rfl
theorem tw_5_227 : (Cond.fieldLink "FlowShelfModel" 100 "FlowShelfModel" "shelf" "[I") ∈ fs_ws := fs_t5 (List.mem_of_getElem? (i := 227) rfl) rfl
theorem tw_5_228 : (Cond.fieldLink "FlowShelfModel" 103 "FlowShelfModel" "heard" "[Z") ∈ fs_ws := fs_t5 (List.mem_of_getElem? (i := 228) rfl) rfl
theorem tw_5_229 : (Cond.fieldLink "FlowShelfModel" 214 "FlowShelfModel" "rowMany" "I") ∈ fs_ws := fs_t5 (List.mem_of_getElem? (i := 229) rfl) rfl
theorem tw_5_230 : (Cond.fieldLink "FlowShelfModel" 107 "FlowShelfModel" "rowExporter" "[I") ∈ fs_ws := fs_t5 (List.mem_of_getElem? (i := 230) rfl) rfl
theorem tw_5_231 : (Cond.fieldLink "FlowShelfModel" 110 "FlowShelfModel" "values" "[J") ∈ fs_ws := fs_t5 (List.mem_of_getElem? (i := 231) rfl) rfl
theorem tw_5_232 : (Cond.fieldLink "FlowShelfModel" 114 "FlowShelfModel" "dropped" "[I") ∈ fs_ws := fs_t5 (List.mem_of_getElem? (i := 232) rfl) rfl
theorem tw_5_233 : (Cond.fieldLink "FlowShelfModel" 117 "FlowShelfModel" "spoilt" "[I") ∈ fs_ws := fs_t5 (List.mem_of_getElem? (i := 233) rfl) rfl
theorem tw_5_234 : (Cond.fieldLink "FlowShelfModel" 120 "FlowShelfModel" "noted" "[I") ∈ fs_ws := fs_t5 (List.mem_of_getElem? (i := 234) rfl) rfl
theorem tw_5_235 : (Cond.fieldLink "FlowShelfModel" 123 "FlowShelfModel" "notedEpoch" "[I") ∈ fs_ws := fs_t5 (List.mem_of_getElem? (i := 235) rfl) rfl
theorem tw_5_236 : (Cond.fieldLink "FlowShelfModel" 126 "FlowShelfModel" "notedCount" "[I") ∈ fs_ws := fs_t5 (List.mem_of_getElem? (i := 236) rfl) rfl
theorem tw_5_237 : (Cond.fieldLink "FlowShelfModel" 197 "FlowShelfModel" "length" "I") ∈ fs_ws := fs_t5 (List.mem_of_getElem? (i := 237) rfl) rfl
theorem tw_5_238 : (Cond.fieldLink "FlowShelfModel" 129 "FlowShelfModel" "b" "[I") ∈ fs_ws := fs_t5 (List.mem_of_getElem? (i := 238) rfl) rfl
theorem tw_5_239 : (Cond.fieldLink "FlowShelfModel" 207 "FlowShelfModel" "at" "I") ∈ fs_ws := fs_t5 (List.mem_of_getElem? (i := 239) rfl) rfl
theorem tw_6_0 : (Cond.fieldLink "FlowShelfModel" 132 "FlowShelfModel" "pair" "[I") ∈ fs_ws := fs_t6 (List.mem_of_getElem? (i := 0) rfl) rfl
theorem tw_6_1 : (Cond.fieldLink "FlowShelfModel" 135 "FlowShelfModel" "done" "[Z") ∈ fs_ws := fs_t6 (List.mem_of_getElem? (i := 1) rfl) rfl
theorem tw_6_103 : (Cond.methodLink "FlowShelfLaw" 93 ⟨"FlowShelfModel", "thrown", "()I"⟩) ∈ fs_ws := fs_t6 (List.mem_of_getElem? (i := 103) rfl) rfl
theorem tw_6_104 : (Cond.instanceMethod ⟨"FlowShelfModel", "thrown", "()I"⟩) ∈ fs_ws := fs_t6 (List.mem_of_getElem? (i := 104) rfl) rfl
theorem tw_6_105 : (Cond.selects "FlowShelfModel" ⟨"FlowShelfModel", "thrown", "()I"⟩ ⟨"FlowShelfModel", "thrown", "()I"⟩) ∈ fs_ws := fs_t6 (List.mem_of_getElem? (i := 105) rfl) rfl
theorem tw_6_106 : (Cond.code ⟨"FlowShelfModel", "thrown", "()I"⟩ prog_13_method_2_code 1 (Option.some FieldType.int)) ∈ fs_ws := fs_t6 (List.mem_of_getElem? (i := 106) rfl) rfl
theorem tw_6_107 : (Cond.methodLink "FlowShelfLaw" 92 ⟨"FlowShelfModel", "packet", "(IIIIIZ)Z"⟩) ∈ fs_ws := fs_t6 (List.mem_of_getElem? (i := 107) rfl) rfl
theorem tw_6_108 : (Cond.instanceMethod ⟨"FlowShelfModel", "packet", "(IIIIIZ)Z"⟩) ∈ fs_ws := fs_t6 (List.mem_of_getElem? (i := 108) rfl) rfl
theorem tw_6_109 : (Cond.selects "FlowShelfModel" ⟨"FlowShelfModel", "packet", "(IIIIIZ)Z"⟩ ⟨"FlowShelfModel", "packet", "(IIIIIZ)Z"⟩) ∈ fs_ws := fs_t6 (List.mem_of_getElem? (i := 109) rfl) rfl
theorem tw_6_110 : (Cond.code ⟨"FlowShelfModel", "packet", "(IIIIIZ)Z"⟩ prog_13_method_7_code 10 (Option.some FieldType.boolean)) ∈ fs_ws := fs_t6 (List.mem_of_getElem? (i := 110) rfl) rfl
theorem tw_6_111 : (Cond.methodLink "FlowShelfModel" 146 ⟨"FlowShelfModel", "noExporter", "(I)Z"⟩) ∈ fs_ws := fs_t6 (List.mem_of_getElem? (i := 111) rfl) rfl
theorem tw_6_113 : (Cond.instanceMethod ⟨"FlowShelfModel", "noExporter", "(I)Z"⟩) ∈ fs_ws := fs_t6 (List.mem_of_getElem? (i := 113) rfl) rfl
theorem tw_6_114 : (Cond.code ⟨"FlowShelfModel", "noExporter", "(I)Z"⟩ prog_13_method_3_code 2 (Option.some FieldType.boolean)) ∈ fs_ws := fs_t6 (List.mem_of_getElem? (i := 114) rfl) rfl
theorem tw_6_115 : (Cond.methodLink "FlowShelfModel" 150 ⟨"FlowShelfModel", "noByte", "(I)Z"⟩) ∈ fs_ws := fs_t6 (List.mem_of_getElem? (i := 115) rfl) rfl
theorem tw_6_117 : (Cond.instanceMethod ⟨"FlowShelfModel", "noByte", "(I)Z"⟩) ∈ fs_ws := fs_t6 (List.mem_of_getElem? (i := 117) rfl) rfl
theorem tw_6_118 : (Cond.code ⟨"FlowShelfModel", "noByte", "(I)Z"⟩ prog_13_method_4_code 2 (Option.some FieldType.boolean)) ∈ fs_ws := fs_t6 (List.mem_of_getElem? (i := 118) rfl) rfl
theorem tw_6_119 : (Cond.methodLink "FlowShelfModel" 153 ⟨"FlowShelfModel", "flowOf", "(II)I"⟩) ∈ fs_ws := fs_t6 (List.mem_of_getElem? (i := 119) rfl) rfl
theorem tw_6_121 : (Cond.instanceMethod ⟨"FlowShelfModel", "flowOf", "(II)I"⟩) ∈ fs_ws := fs_t6 (List.mem_of_getElem? (i := 121) rfl) rfl
theorem tw_6_122 : (Cond.code ⟨"FlowShelfModel", "flowOf", "(II)I"⟩ prog_13_method_6_code 5 (Option.some FieldType.int)) ∈ fs_ws := fs_t6 (List.mem_of_getElem? (i := 122) rfl) rfl
theorem tw_6_123 : (Cond.methodLink "FlowShelfModel" 142 ⟨"FlowShelfModel", "end", "(III)V"⟩) ∈ fs_ws := fs_t6 (List.mem_of_getElem? (i := 123) rfl) rfl
theorem tw_6_125 : (Cond.instanceMethod ⟨"FlowShelfModel", "end", "(III)V"⟩) ∈ fs_ws := fs_t6 (List.mem_of_getElem? (i := 125) rfl) rfl
theorem tw_6_126 : (Cond.code ⟨"FlowShelfModel", "end", "(III)V"⟩ prog_13_method_5_code 7 (Option.none : Option FieldType)) ∈ fs_ws := fs_t6 (List.mem_of_getElem? (i := 126) rfl) rfl
theorem tw_6_127 : (Cond.methodLink "FlowShelfLaw" 100 ⟨"FlowShelfModel", "tick", "(II)I"⟩) ∈ fs_ws := fs_t6 (List.mem_of_getElem? (i := 127) rfl) rfl
theorem tw_6_128 : (Cond.instanceMethod ⟨"FlowShelfModel", "tick", "(II)I"⟩) ∈ fs_ws := fs_t6 (List.mem_of_getElem? (i := 128) rfl) rfl
theorem tw_6_129 : (Cond.selects "FlowShelfModel" ⟨"FlowShelfModel", "tick", "(II)I"⟩ ⟨"FlowShelfModel", "tick", "(II)I"⟩) ∈ fs_ws := fs_t6 (List.mem_of_getElem? (i := 129) rfl) rfl
theorem tw_6_130 : (Cond.code ⟨"FlowShelfModel", "tick", "(II)I"⟩ prog_13_method_8_code 7 (Option.some FieldType.int)) ∈ fs_ws := fs_t6 (List.mem_of_getElem? (i := 130) rfl) rfl
theorem tw_6_131 : (Cond.methodLink "FlowShelfLaw" 104 ⟨"FlowShelfModel", "flush", "(I)I"⟩) ∈ fs_ws := fs_t6 (List.mem_of_getElem? (i := 131) rfl) rfl
theorem tw_6_132 : (Cond.instanceMethod ⟨"FlowShelfModel", "flush", "(I)I"⟩) ∈ fs_ws := fs_t6 (List.mem_of_getElem? (i := 132) rfl) rfl
theorem tw_6_133 : (Cond.selects "FlowShelfModel" ⟨"FlowShelfModel", "flush", "(I)I"⟩ ⟨"FlowShelfModel", "flush", "(I)I"⟩) ∈ fs_ws := fs_t6 (List.mem_of_getElem? (i := 133) rfl) rfl
theorem tw_6_134 : (Cond.code ⟨"FlowShelfModel", "flush", "(I)I"⟩ prog_13_method_9_code 4 (Option.some FieldType.int)) ∈ fs_ws := fs_t6 (List.mem_of_getElem? (i := 134) rfl) rfl
theorem tw_6_135 : (Cond.methodLink "FlowShelfLaw" 108 ⟨"FlowShelfModel", "sampler", "(II)V"⟩) ∈ fs_ws := fs_t6 (List.mem_of_getElem? (i := 135) rfl) rfl
theorem tw_6_136 : (Cond.instanceMethod ⟨"FlowShelfModel", "sampler", "(II)V"⟩) ∈ fs_ws := fs_t6 (List.mem_of_getElem? (i := 136) rfl) rfl
theorem tw_6_137 : (Cond.selects "FlowShelfModel" ⟨"FlowShelfModel", "sampler", "(II)V"⟩ ⟨"FlowShelfModel", "sampler", "(II)V"⟩) ∈ fs_ws := fs_t6 (List.mem_of_getElem? (i := 137) rfl) rfl
theorem tw_6_138 : (Cond.code ⟨"FlowShelfModel", "sampler", "(II)V"⟩ prog_13_method_10_code 3 (Option.none : Option FieldType)) ∈ fs_ws := fs_t6 (List.mem_of_getElem? (i := 138) rfl) rfl
theorem tw_6_139 : (Cond.methodLink "FlowShelfLaw" 112 ⟨"FlowShelfModel", "ended", "(III)I"⟩) ∈ fs_ws := fs_t6 (List.mem_of_getElem? (i := 139) rfl) rfl
theorem tw_6_140 : (Cond.instanceMethod ⟨"FlowShelfModel", "ended", "(III)I"⟩) ∈ fs_ws := fs_t6 (List.mem_of_getElem? (i := 140) rfl) rfl
theorem tw_6_141 : (Cond.selects "FlowShelfModel" ⟨"FlowShelfModel", "ended", "(III)I"⟩ ⟨"FlowShelfModel", "ended", "(III)I"⟩) ∈ fs_ws := fs_t6 (List.mem_of_getElem? (i := 141) rfl) rfl
theorem tw_6_142 : (Cond.code ⟨"FlowShelfModel", "ended", "(III)I"⟩ prog_13_method_11_code 4 (Option.some FieldType.int)) ∈ fs_ws := fs_t6 (List.mem_of_getElem? (i := 142) rfl) rfl
theorem tw_6_143 : (Cond.methodLink "FlowShelfLaw" 116 ⟨"FlowShelfModel", "field", "(IIII)I"⟩) ∈ fs_ws := fs_t6 (List.mem_of_getElem? (i := 143) rfl) rfl
theorem tw_6_144 : (Cond.instanceMethod ⟨"FlowShelfModel", "field", "(IIII)I"⟩) ∈ fs_ws := fs_t6 (List.mem_of_getElem? (i := 144) rfl) rfl
theorem tw_6_145 : (Cond.selects "FlowShelfModel" ⟨"FlowShelfModel", "field", "(IIII)I"⟩ ⟨"FlowShelfModel", "field", "(IIII)I"⟩) ∈ fs_ws := fs_t6 (List.mem_of_getElem? (i := 145) rfl) rfl
theorem tw_6_146 : (Cond.code ⟨"FlowShelfModel", "field", "(IIII)I"⟩ prog_13_method_14_code 8 (Option.some FieldType.int)) ∈ fs_ws := fs_t6 (List.mem_of_getElem? (i := 146) rfl) rfl
theorem tw_6_147 : (Cond.methodLink "FlowShelfModel" 157 ⟨"FlowShelfModel", "noTemplate", "(II)Z"⟩) ∈ fs_ws := fs_t6 (List.mem_of_getElem? (i := 147) rfl) rfl
theorem tw_6_149 : (Cond.instanceMethod ⟨"FlowShelfModel", "noTemplate", "(II)Z"⟩) ∈ fs_ws := fs_t6 (List.mem_of_getElem? (i := 149) rfl) rfl
theorem tw_6_150 : (Cond.code ⟨"FlowShelfModel", "noTemplate", "(II)Z"⟩ prog_13_method_12_code 3 (Option.some FieldType.boolean)) ∈ fs_ws := fs_t6 (List.mem_of_getElem? (i := 150) rfl) rfl
theorem tw_6_151 : (Cond.methodLink "FlowShelfModel" 161 ⟨"FlowShelfModel", "leastOf", "(I)I"⟩) ∈ fs_ws := fs_t6 (List.mem_of_getElem? (i := 151) rfl) rfl
theorem tw_6_153 : (Cond.instanceMethod ⟨"FlowShelfModel", "leastOf", "(I)I"⟩) ∈ fs_ws := fs_t6 (List.mem_of_getElem? (i := 153) rfl) rfl
theorem tw_6_154 : (Cond.code ⟨"FlowShelfModel", "leastOf", "(I)I"⟩ prog_13_method_13_code 2 (Option.some FieldType.int)) ∈ fs_ws := fs_t6 (List.mem_of_getElem? (i := 154) rfl) rfl
theorem tw_6_155 : (Cond.methodLink "FlowShelfLaw" 119 ⟨"FlowShelfModel", "seal", "(II)I"⟩) ∈ fs_ws := fs_t6 (List.mem_of_getElem? (i := 155) rfl) rfl
theorem tw_6_156 : (Cond.instanceMethod ⟨"FlowShelfModel", "seal", "(II)I"⟩) ∈ fs_ws := fs_t6 (List.mem_of_getElem? (i := 156) rfl) rfl
theorem tw_6_157 : (Cond.selects "FlowShelfModel" ⟨"FlowShelfModel", "seal", "(II)I"⟩ ⟨"FlowShelfModel", "seal", "(II)I"⟩) ∈ fs_ws := fs_t6 (List.mem_of_getElem? (i := 157) rfl) rfl
theorem tw_6_158 : (Cond.code ⟨"FlowShelfModel", "seal", "(II)I"⟩ prog_13_method_15_code 5 (Option.some FieldType.int)) ∈ fs_ws := fs_t6 (List.mem_of_getElem? (i := 158) rfl) rfl
theorem tw_6_159 : (Cond.methodLink "FlowShelfLaw" 122 ⟨"FlowShelfModel", "withdraw", "(II)V"⟩) ∈ fs_ws := fs_t6 (List.mem_of_getElem? (i := 159) rfl) rfl
theorem tw_6_160 : (Cond.instanceMethod ⟨"FlowShelfModel", "withdraw", "(II)V"⟩) ∈ fs_ws := fs_t6 (List.mem_of_getElem? (i := 160) rfl) rfl
theorem tw_6_161 : (Cond.selects "FlowShelfModel" ⟨"FlowShelfModel", "withdraw", "(II)V"⟩ ⟨"FlowShelfModel", "withdraw", "(II)V"⟩) ∈ fs_ws := fs_t6 (List.mem_of_getElem? (i := 161) rfl) rfl
theorem tw_6_162 : (Cond.code ⟨"FlowShelfModel", "withdraw", "(II)V"⟩ prog_13_method_16_code 4 (Option.none : Option FieldType)) ∈ fs_ws := fs_t6 (List.mem_of_getElem? (i := 162) rfl) rfl
theorem tw_6_163 : (Cond.methodLink "FlowShelfLaw" 125 ⟨"FlowShelfModel", "restart", "(I)I"⟩) ∈ fs_ws := fs_t6 (List.mem_of_getElem? (i := 163) rfl) rfl
theorem tw_6_164 : (Cond.instanceMethod ⟨"FlowShelfModel", "restart", "(I)I"⟩) ∈ fs_ws := fs_t6 (List.mem_of_getElem? (i := 164) rfl) rfl
theorem tw_6_165 : (Cond.selects "FlowShelfModel" ⟨"FlowShelfModel", "restart", "(I)I"⟩ ⟨"FlowShelfModel", "restart", "(I)I"⟩) ∈ fs_ws := fs_t6 (List.mem_of_getElem? (i := 165) rfl) rfl
theorem tw_6_166 : (Cond.code ⟨"FlowShelfModel", "restart", "(I)I"⟩ prog_13_method_17_code 3 (Option.some FieldType.int)) ∈ fs_ws := fs_t6 (List.mem_of_getElem? (i := 166) rfl) rfl
theorem tw_6_167 : (Cond.methodLink "FlowShelfLaw" 128 ⟨"FlowShelfModel", "announce", "(II)I"⟩) ∈ fs_ws := fs_t6 (List.mem_of_getElem? (i := 167) rfl) rfl
theorem tw_6_168 : (Cond.instanceMethod ⟨"FlowShelfModel", "announce", "(II)I"⟩) ∈ fs_ws := fs_t6 (List.mem_of_getElem? (i := 168) rfl) rfl
theorem tw_6_169 : (Cond.selects "FlowShelfModel" ⟨"FlowShelfModel", "announce", "(II)I"⟩ ⟨"FlowShelfModel", "announce", "(II)I"⟩) ∈ fs_ws := fs_t6 (List.mem_of_getElem? (i := 169) rfl) rfl
theorem tw_6_170 : (Cond.code ⟨"FlowShelfModel", "announce", "(II)I"⟩ prog_13_method_20_code 5 (Option.some FieldType.int)) ∈ fs_ws := fs_t6 (List.mem_of_getElem? (i := 170) rfl) rfl
theorem tw_6_171 : (Cond.methodLink "FlowShelfModel" 175 ⟨"FlowShelfModel", "head", "(II)V"⟩) ∈ fs_ws := fs_t6 (List.mem_of_getElem? (i := 171) rfl) rfl
theorem tw_6_173 : (Cond.instanceMethod ⟨"FlowShelfModel", "head", "(II)V"⟩) ∈ fs_ws := fs_t6 (List.mem_of_getElem? (i := 173) rfl) rfl
theorem tw_6_174 : (Cond.code ⟨"FlowShelfModel", "head", "(II)V"⟩ prog_13_method_19_code 3 (Option.none : Option FieldType)) ∈ fs_ws := fs_t6 (List.mem_of_getElem? (i := 174) rfl) rfl
theorem tw_6_175 : (Cond.methodLink "FlowShelfModel" 171 ⟨"FlowShelfModel", "write", "(I)V"⟩) ∈ fs_ws := fs_t6 (List.mem_of_getElem? (i := 175) rfl) rfl
theorem tw_6_177 : (Cond.instanceMethod ⟨"FlowShelfModel", "write", "(I)V"⟩) ∈ fs_ws := fs_t6 (List.mem_of_getElem? (i := 177) rfl) rfl
theorem tw_6_178 : (Cond.code ⟨"FlowShelfModel", "write", "(I)V"⟩ prog_13_method_18_code 2 (Option.none : Option FieldType)) ∈ fs_ws := fs_t6 (List.mem_of_getElem? (i := 178) rfl) rfl
theorem tw_6_179 : (Cond.methodLink "FlowShelfLaw" 131 ⟨"FlowShelfModel", "report", "(I)I"⟩) ∈ fs_ws := fs_t6 (List.mem_of_getElem? (i := 179) rfl) rfl
theorem tw_6_180 : (Cond.instanceMethod ⟨"FlowShelfModel", "report", "(I)I"⟩) ∈ fs_ws := fs_t6 (List.mem_of_getElem? (i := 180) rfl) rfl
theorem tw_6_181 : (Cond.selects "FlowShelfModel" ⟨"FlowShelfModel", "report", "(I)I"⟩ ⟨"FlowShelfModel", "report", "(I)I"⟩) ∈ fs_ws := fs_t6 (List.mem_of_getElem? (i := 181) rfl) rfl
theorem tw_6_182 : (Cond.code ⟨"FlowShelfModel", "report", "(I)I"⟩ prog_13_method_25_code 6 (Option.some FieldType.int)) ∈ fs_ws := fs_t6 (List.mem_of_getElem? (i := 182) rfl) rfl
theorem tw_6_183 : (Cond.methodLink "FlowShelfModel" 184 ⟨"FlowShelfModel", "last", "(I)I"⟩) ∈ fs_ws := fs_t6 (List.mem_of_getElem? (i := 183) rfl) rfl
theorem tw_6_185 : (Cond.instanceMethod ⟨"FlowShelfModel", "last", "(I)I"⟩) ∈ fs_ws := fs_t6 (List.mem_of_getElem? (i := 185) rfl) rfl
theorem tw_6_186 : (Cond.code ⟨"FlowShelfModel", "last", "(I)I"⟩ prog_13_method_21_code 4 (Option.some FieldType.int)) ∈ fs_ws := fs_t6 (List.mem_of_getElem? (i := 186) rfl) rfl
theorem tw_6_187 : (Cond.methodLink "FlowShelfModel" 187 ⟨"FlowShelfModel", "recordOf", "(III)I"⟩) ∈ fs_ws := fs_t6 (List.mem_of_getElem? (i := 187) rfl) rfl
theorem tw_6_189 : (Cond.instanceMethod ⟨"FlowShelfModel", "recordOf", "(III)I"⟩) ∈ fs_ws := fs_t6 (List.mem_of_getElem? (i := 189) rfl) rfl
theorem tw_6_190 : (Cond.code ⟨"FlowShelfModel", "recordOf", "(III)I"⟩ prog_13_method_23_code 7 (Option.some FieldType.int)) ∈ fs_ws := fs_t6 (List.mem_of_getElem? (i := 190) rfl) rfl
theorem tw_6_191 : (Cond.methodLink "FlowShelfModel" 181 ⟨"FlowShelfModel", "widthOf", "(I)I"⟩) ∈ fs_ws := fs_t6 (List.mem_of_getElem? (i := 191) rfl) rfl
theorem tw_6_193 : (Cond.instanceMethod ⟨"FlowShelfModel", "widthOf", "(I)I"⟩) ∈ fs_ws := fs_t6 (List.mem_of_getElem? (i := 193) rfl) rfl
theorem tw_6_194 : (Cond.code ⟨"FlowShelfModel", "widthOf", "(I)I"⟩ prog_13_method_22_code 2 (Option.some FieldType.int)) ∈ fs_ws := fs_t6 (List.mem_of_getElem? (i := 194) rfl) rfl
theorem tw_6_195 : (Cond.constant "FlowShelfModel" 179 (65536 : Int32)) ∈ fs_ws := fs_t6 (List.mem_of_getElem? (i := 195) rfl) rfl
theorem tw_6_196 : (Cond.constant "FlowShelfModel" 180 (16777216 : Int32)) ∈ fs_ws := fs_t6 (List.mem_of_getElem? (i := 196) rfl) rfl
theorem tw_6_197 : (Cond.methodLink "FlowShelfModel" 191 ⟨"FlowShelfModel", "writeRecord", "(III)V"⟩) ∈ fs_ws := fs_t6 (List.mem_of_getElem? (i := 197) rfl) rfl
theorem tw_6_199 : (Cond.instanceMethod ⟨"FlowShelfModel", "writeRecord", "(III)V"⟩) ∈ fs_ws := fs_t6 (List.mem_of_getElem? (i := 199) rfl) rfl
theorem tw_6_200 : (Cond.code ⟨"FlowShelfModel", "writeRecord", "(III)V"⟩ prog_13_method_24_code 8 (Option.none : Option FieldType)) ∈ fs_ws := fs_t6 (List.mem_of_getElem? (i := 200) rfl) rfl
theorem tw_6_201 : (Cond.methodLink "FlowShelfLaw" 134 ⟨"FlowShelfModel", "tell", "(I)I"⟩) ∈ fs_ws := fs_t6 (List.mem_of_getElem? (i := 201) rfl) rfl
theorem tw_6_202 : (Cond.instanceMethod ⟨"FlowShelfModel", "tell", "(I)I"⟩) ∈ fs_ws := fs_t6 (List.mem_of_getElem? (i := 202) rfl) rfl
theorem tw_6_203 : (Cond.selects "FlowShelfModel" ⟨"FlowShelfModel", "tell", "(I)I"⟩ ⟨"FlowShelfModel", "tell", "(I)I"⟩) ∈ fs_ws := fs_t6 (List.mem_of_getElem? (i := 203) rfl) rfl
theorem tw_6_204 : (Cond.code ⟨"FlowShelfModel", "tell", "(I)I"⟩ prog_13_method_26_code 2 (Option.some FieldType.int)) ∈ fs_ws := fs_t6 (List.mem_of_getElem? (i := 204) rfl) rfl
theorem tw_6_205 : (Cond.methodLink "FlowShelfLaw" 138 ⟨"FlowShelfModel", "size", "(I)I"⟩) ∈ fs_ws := fs_t6 (List.mem_of_getElem? (i := 205) rfl) rfl
theorem tw_6_206 : (Cond.instanceMethod ⟨"FlowShelfModel", "size", "(I)I"⟩) ∈ fs_ws := fs_t6 (List.mem_of_getElem? (i := 206) rfl) rfl
theorem tw_6_207 : (Cond.selects "FlowShelfModel" ⟨"FlowShelfModel", "size", "(I)I"⟩ ⟨"FlowShelfModel", "size", "(I)I"⟩) ∈ fs_ws := fs_t6 (List.mem_of_getElem? (i := 207) rfl) rfl
theorem tw_6_208 : (Cond.code ⟨"FlowShelfModel", "size", "(I)I"⟩ prog_13_method_28_code 2 (Option.some FieldType.int)) ∈ fs_ws := fs_t6 (List.mem_of_getElem? (i := 208) rfl) rfl
theorem tw_6_209 : (Cond.methodLink "FlowShelfModel" 194 ⟨"FlowShelfModel", "noReport", "(I)Z"⟩) ∈ fs_ws := fs_t6 (List.mem_of_getElem? (i := 209) rfl) rfl
theorem tw_6_211 : (Cond.instanceMethod ⟨"FlowShelfModel", "noReport", "(I)Z"⟩) ∈ fs_ws := fs_t6 (List.mem_of_getElem? (i := 211) rfl) rfl
theorem tw_6_212 : (Cond.code ⟨"FlowShelfModel", "noReport", "(I)Z"⟩ prog_13_method_27_code 2 (Option.some FieldType.boolean)) ∈ fs_ws := fs_t6 (List.mem_of_getElem? (i := 212) rfl) rfl
theorem tw_6_213 : (Cond.methodLink "FlowShelfLaw" 141 ⟨"FlowShelfModel", "byteOf", "(II)I"⟩) ∈ fs_ws := fs_t6 (List.mem_of_getElem? (i := 213) rfl) rfl
theorem tw_6_214 : (Cond.instanceMethod ⟨"FlowShelfModel", "byteOf", "(II)I"⟩) ∈ fs_ws := fs_t6 (List.mem_of_getElem? (i := 214) rfl) rfl
theorem tw_6_215 : (Cond.selects "FlowShelfModel" ⟨"FlowShelfModel", "byteOf", "(II)I"⟩ ⟨"FlowShelfModel", "byteOf", "(II)I"⟩) ∈ fs_ws := fs_t6 (List.mem_of_getElem? (i := 215) rfl) rfl
theorem tw_6_216 : (Cond.code ⟨"FlowShelfModel", "byteOf", "(II)I"⟩ prog_13_method_29_code 3 (Option.some FieldType.int)) ∈ fs_ws := fs_t6 (List.mem_of_getElem? (i := 216) rfl) rfl
theorem tw_6_217 : (Cond.methodLink "FlowShelfLaw" 145 ⟨"FlowShelfModel", "poke", "(III)V"⟩) ∈ fs_ws := fs_t6 (List.mem_of_getElem? (i := 217) rfl) rfl
theorem tw_6_218 : (Cond.instanceMethod ⟨"FlowShelfModel", "poke", "(III)V"⟩) ∈ fs_ws := fs_t6 (List.mem_of_getElem? (i := 218) rfl) rfl
theorem tw_6_219 : (Cond.selects "FlowShelfModel" ⟨"FlowShelfModel", "poke", "(III)V"⟩ ⟨"FlowShelfModel", "poke", "(III)V"⟩) ∈ fs_ws := fs_t6 (List.mem_of_getElem? (i := 219) rfl) rfl
theorem tw_6_220 : (Cond.code ⟨"FlowShelfModel", "poke", "(III)V"⟩ prog_13_method_30_code 4 (Option.none : Option FieldType)) ∈ fs_ws := fs_t6 (List.mem_of_getElem? (i := 220) rfl) rfl
theorem tw_6_221 : (Cond.methodLink "FlowShelfLaw" 148 ⟨"FlowShelfModel", "hear", "(I)I"⟩) ∈ fs_ws := fs_t6 (List.mem_of_getElem? (i := 221) rfl) rfl
theorem tw_6_222 : (Cond.instanceMethod ⟨"FlowShelfModel", "hear", "(I)I"⟩) ∈ fs_ws := fs_t6 (List.mem_of_getElem? (i := 222) rfl) rfl
theorem tw_6_223 : (Cond.selects "FlowShelfModel" ⟨"FlowShelfModel", "hear", "(I)I"⟩ ⟨"FlowShelfModel", "hear", "(I)I"⟩) ∈ fs_ws := fs_t6 (List.mem_of_getElem? (i := 223) rfl) rfl
theorem tw_6_224 : (Cond.code ⟨"FlowShelfModel", "hear", "(I)I"⟩ prog_13_method_43_code 4 (Option.some FieldType.int)) ∈ fs_ws := fs_t6 (List.mem_of_getElem? (i := 224) rfl) rfl
theorem tw_6_225 : (Cond.methodLink "FlowShelfModel" 247 ⟨"FlowShelfModel", "isBad", "()Z"⟩) ∈ fs_ws := fs_t6 (List.mem_of_getElem? (i := 225) rfl) rfl
theorem tw_6_227 : (Cond.instanceMethod ⟨"FlowShelfModel", "isBad", "()Z"⟩) ∈ fs_ws := fs_t6 (List.mem_of_getElem? (i := 227) rfl) rfl
theorem tw_6_228 : (Cond.code ⟨"FlowShelfModel", "isBad", "()Z"⟩ prog_13_method_32_code 1 (Option.some FieldType.boolean)) ∈ fs_ws := fs_t6 (List.mem_of_getElem? (i := 228) rfl) rfl
theorem tw_6_229 : (Cond.methodLink "FlowShelfModel" 200 ⟨"FlowShelfModel", "badFields", "()Z"⟩) ∈ fs_ws := fs_t6 (List.mem_of_getElem? (i := 229) rfl) rfl
theorem tw_6_231 : (Cond.instanceMethod ⟨"FlowShelfModel", "badFields", "()Z"⟩) ∈ fs_ws := fs_t6 (List.mem_of_getElem? (i := 231) rfl) rfl
theorem tw_6_232 : (Cond.code ⟨"FlowShelfModel", "badFields", "()Z"⟩ prog_13_method_31_code 5 (Option.some FieldType.boolean)) ∈ fs_ws := fs_t6 (List.mem_of_getElem? (i := 232) rfl) rfl
theorem tw_6_233 : (Cond.methodLink "FlowShelfModel" 250 ⟨"FlowShelfModel", "hearTemplate", "()I"⟩) ∈ fs_ws := fs_t6 (List.mem_of_getElem? (i := 233) rfl) rfl
theorem tw_6_235 : (Cond.instanceMethod ⟨"FlowShelfModel", "hearTemplate", "()I"⟩) ∈ fs_ws := fs_t6 (List.mem_of_getElem? (i := 235) rfl) rfl
theorem tw_6_236 : (Cond.code ⟨"FlowShelfModel", "hearTemplate", "()I"⟩ prog_13_method_41_code 5 (Option.some FieldType.int)) ∈ fs_ws := fs_t6 (List.mem_of_getElem? (i := 236) rfl) rfl
theorem tw_6_237 : (Cond.methodLink "FlowShelfModel" 228 ⟨"FlowShelfModel", "nameOf", "()I"⟩) ∈ fs_ws := fs_t6 (List.mem_of_getElem? (i := 237) rfl) rfl
theorem tw_6_239 : (Cond.instanceMethod ⟨"FlowShelfModel", "nameOf", "()I"⟩) ∈ fs_ws := fs_t6 (List.mem_of_getElem? (i := 239) rfl) rfl
theorem tw_7_0 : (Cond.code ⟨"FlowShelfModel", "nameOf", "()I"⟩ prog_13_method_33_code 1 (Option.some FieldType.int)) ∈ fs_ws := fs_t7 (List.mem_of_getElem? (i := 0) rfl) rfl
theorem tw_7_1 : (Cond.methodLink "FlowShelfModel" 232 ⟨"FlowShelfModel", "find", "(I)I"⟩) ∈ fs_ws := fs_t7 (List.mem_of_getElem? (i := 1) rfl) rfl
theorem tw_7_3 : (Cond.instanceMethod ⟨"FlowShelfModel", "find", "(I)I"⟩) ∈ fs_ws := fs_t7 (List.mem_of_getElem? (i := 3) rfl) rfl
theorem tw_7_4 : (Cond.code ⟨"FlowShelfModel", "find", "(I)I"⟩ prog_13_method_34_code 3 (Option.some FieldType.int)) ∈ fs_ws := fs_t7 (List.mem_of_getElem? (i := 4) rfl) rfl
theorem tw_7_5 : (Cond.methodLink "FlowShelfModel" 235 ⟨"FlowShelfModel", "waiting", "(I)I"⟩) ∈ fs_ws := fs_t7 (List.mem_of_getElem? (i := 5) rfl) rfl
theorem tw_7_7 : (Cond.instanceMethod ⟨"FlowShelfModel", "waiting", "(I)I"⟩) ∈ fs_ws := fs_t7 (List.mem_of_getElem? (i := 7) rfl) rfl
theorem tw_7_8 : (Cond.code ⟨"FlowShelfModel", "waiting", "(I)I"⟩ prog_13_method_40_code 5 (Option.some FieldType.int)) ∈ fs_ws := fs_t7 (List.mem_of_getElem? (i := 8) rfl) rfl
theorem tw_7_9 : (Cond.methodLink "FlowShelfModel" 238 ⟨"FlowShelfModel", "fetch", "(I)V"⟩) ∈ fs_ws := fs_t7 (List.mem_of_getElem? (i := 9) rfl) rfl
theorem tw_7_11 : (Cond.instanceMethod ⟨"FlowShelfModel", "fetch", "(I)V"⟩) ∈ fs_ws := fs_t7 (List.mem_of_getElem? (i := 11) rfl) rfl
theorem tw_7_12 : (Cond.code ⟨"FlowShelfModel", "fetch", "(I)V"⟩ prog_13_method_38_code 3 (Option.none : Option FieldType)) ∈ fs_ws := fs_t7 (List.mem_of_getElem? (i := 12) rfl) rfl
theorem tw_7_13 : (Cond.methodLink "FlowShelfModel" 241 ⟨"FlowShelfModel", "makeRows", "(I)I"⟩) ∈ fs_ws := fs_t7 (List.mem_of_getElem? (i := 13) rfl) rfl
theorem tw_7_15 : (Cond.instanceMethod ⟨"FlowShelfModel", "makeRows", "(I)I"⟩) ∈ fs_ws := fs_t7 (List.mem_of_getElem? (i := 15) rfl) rfl
theorem tw_7_16 : (Cond.code ⟨"FlowShelfModel", "makeRows", "(I)I"⟩ prog_13_method_37_code 3 (Option.some FieldType.int)) ∈ fs_ws := fs_t7 (List.mem_of_getElem? (i := 16) rfl) rfl
theorem tw_7_17 : (Cond.methodLink "FlowShelfModel" 221 ⟨"FlowShelfModel", "read", "(IZ)Z"⟩) ∈ fs_ws := fs_t7 (List.mem_of_getElem? (i := 17) rfl) rfl
theorem tw_7_19 : (Cond.instanceMethod ⟨"FlowShelfModel", "read", "(IZ)Z"⟩) ∈ fs_ws := fs_t7 (List.mem_of_getElem? (i := 19) rfl) rfl
theorem tw_7_20 : (Cond.code ⟨"FlowShelfModel", "read", "(IZ)Z"⟩ prog_13_method_36_code 7 (Option.some FieldType.boolean)) ∈ fs_ws := fs_t7 (List.mem_of_getElem? (i := 20) rfl) rfl
theorem tw_7_21 : (Cond.constantLong "FlowShelfModel" 210 (-1 : Int64)) ∈ fs_ws := fs_t7 (List.mem_of_getElem? (i := 21) rfl) rfl
theorem tw_7_22 : (Cond.methodLink "FlowShelfModel" 217 ⟨"FlowShelfModel", "take", "(I)J"⟩) ∈ fs_ws := fs_t7 (List.mem_of_getElem? (i := 22) rfl) rfl
theorem tw_7_24 : (Cond.instanceMethod ⟨"FlowShelfModel", "take", "(I)J"⟩) ∈ fs_ws := fs_t7 (List.mem_of_getElem? (i := 24) rfl) rfl
theorem tw_7_25 : (Cond.code ⟨"FlowShelfModel", "take", "(I)J"⟩ prog_13_method_35_code 6 (Option.some FieldType.long)) ∈ fs_ws := fs_t7 (List.mem_of_getElem? (i := 25) rfl) rfl
theorem tw_7_26 : (Cond.constantLong "FlowShelfModel" 212 (256 : Int64)) ∈ fs_ws := fs_t7 (List.mem_of_getElem? (i := 26) rfl) rfl
theorem tw_7_27 : (Cond.methodLink "FlowShelfModel" 244 ⟨"FlowShelfModel", "unshelve", "(I)V"⟩) ∈ fs_ws := fs_t7 (List.mem_of_getElem? (i := 27) rfl) rfl
theorem tw_7_29 : (Cond.instanceMethod ⟨"FlowShelfModel", "unshelve", "(I)V"⟩) ∈ fs_ws := fs_t7 (List.mem_of_getElem? (i := 29) rfl) rfl
theorem tw_7_30 : (Cond.code ⟨"FlowShelfModel", "unshelve", "(I)V"⟩ prog_13_method_39_code 4 (Option.none : Option FieldType)) ∈ fs_ws := fs_t7 (List.mem_of_getElem? (i := 30) rfl) rfl
theorem tw_7_31 : (Cond.methodLink "FlowShelfModel" 253 ⟨"FlowShelfModel", "hearRecords", "()I"⟩) ∈ fs_ws := fs_t7 (List.mem_of_getElem? (i := 31) rfl) rfl
theorem tw_7_33 : (Cond.instanceMethod ⟨"FlowShelfModel", "hearRecords", "()I"⟩) ∈ fs_ws := fs_t7 (List.mem_of_getElem? (i := 33) rfl) rfl
theorem tw_7_34 : (Cond.code ⟨"FlowShelfModel", "hearRecords", "()I"⟩ prog_13_method_42_code 7 (Option.some FieldType.int)) ∈ fs_ws := fs_t7 (List.mem_of_getElem? (i := 34) rfl) rfl
theorem tw_7_35 : (Cond.methodLink "FlowShelfLaw" 152 ⟨"FlowShelfModel", "rows", "()I"⟩) ∈ fs_ws := fs_t7 (List.mem_of_getElem? (i := 35) rfl) rfl
theorem tw_7_36 : (Cond.instanceMethod ⟨"FlowShelfModel", "rows", "()I"⟩) ∈ fs_ws := fs_t7 (List.mem_of_getElem? (i := 36) rfl) rfl
theorem tw_7_37 : (Cond.selects "FlowShelfModel" ⟨"FlowShelfModel", "rows", "()I"⟩ ⟨"FlowShelfModel", "rows", "()I"⟩) ∈ fs_ws := fs_t7 (List.mem_of_getElem? (i := 37) rfl) rfl
theorem tw_7_38 : (Cond.code ⟨"FlowShelfModel", "rows", "()I"⟩ prog_13_method_44_code 1 (Option.some FieldType.int)) ∈ fs_ws := fs_t7 (List.mem_of_getElem? (i := 38) rfl) rfl
theorem tw_7_39 : (Cond.methodLink "FlowShelfLaw" 155 ⟨"FlowShelfModel", "row", "(II)J"⟩) ∈ fs_ws := fs_t7 (List.mem_of_getElem? (i := 39) rfl) rfl
theorem tw_7_40 : (Cond.instanceMethod ⟨"FlowShelfModel", "row", "(II)J"⟩) ∈ fs_ws := fs_t7 (List.mem_of_getElem? (i := 40) rfl) rfl
theorem tw_7_41 : (Cond.selects "FlowShelfModel" ⟨"FlowShelfModel", "row", "(II)J"⟩ ⟨"FlowShelfModel", "row", "(II)J"⟩) ∈ fs_ws := fs_t7 (List.mem_of_getElem? (i := 41) rfl) rfl
theorem tw_7_42 : (Cond.code ⟨"FlowShelfModel", "row", "(II)J"⟩ prog_13_method_45_code 3 (Option.some FieldType.long)) ∈ fs_ws := fs_t7 (List.mem_of_getElem? (i := 42) rfl) rfl
theorem tw_7_43 : (Cond.methodLink "FlowShelfLaw" 161 ⟨"FlowShelfModel", "total", "(IIJI)J"⟩) ∈ fs_ws := fs_t7 (List.mem_of_getElem? (i := 43) rfl) rfl
theorem tw_7_44 : (Cond.instanceMethod ⟨"FlowShelfModel", "total", "(IIJI)J"⟩) ∈ fs_ws := fs_t7 (List.mem_of_getElem? (i := 44) rfl) rfl
theorem tw_7_45 : (Cond.selects "FlowShelfModel" ⟨"FlowShelfModel", "total", "(IIJI)J"⟩ ⟨"FlowShelfModel", "total", "(IIJI)J"⟩) ∈ fs_ws := fs_t7 (List.mem_of_getElem? (i := 45) rfl) rfl
theorem tw_7_46 : (Cond.code ⟨"FlowShelfModel", "total", "(IIJI)J"⟩ prog_13_method_46_code 10 (Option.some FieldType.long)) ∈ fs_ws := fs_t7 (List.mem_of_getElem? (i := 46) rfl) rfl
theorem tw_7_47 : (Cond.methodLink "FlowShelfLaw" 164 ⟨"FlowShelfModel", "other", "(I)I"⟩) ∈ fs_ws := fs_t7 (List.mem_of_getElem? (i := 47) rfl) rfl
theorem tw_7_48 : (Cond.instanceMethod ⟨"FlowShelfModel", "other", "(I)I"⟩) ∈ fs_ws := fs_t7 (List.mem_of_getElem? (i := 48) rfl) rfl
theorem tw_7_49 : (Cond.selects "FlowShelfModel" ⟨"FlowShelfModel", "other", "(I)I"⟩ ⟨"FlowShelfModel", "other", "(I)I"⟩) ∈ fs_ws := fs_t7 (List.mem_of_getElem? (i := 49) rfl) rfl
theorem tw_7_50 : (Cond.code ⟨"FlowShelfModel", "other", "(I)I"⟩ prog_13_method_52_code 3 (Option.some FieldType.int)) ∈ fs_ws := fs_t7 (List.mem_of_getElem? (i := 50) rfl) rfl
theorem tw_7_51 : (Cond.methodLink "FlowShelfModel" 266 ⟨"FlowShelfModel", "firstLeft", "()I"⟩) ∈ fs_ws := fs_t7 (List.mem_of_getElem? (i := 51) rfl) rfl
theorem tw_7_53 : (Cond.instanceMethod ⟨"FlowShelfModel", "firstLeft", "()I"⟩) ∈ fs_ws := fs_t7 (List.mem_of_getElem? (i := 53) rfl) rfl
theorem tw_7_54 : (Cond.code ⟨"FlowShelfModel", "firstLeft", "()I"⟩ prog_13_method_50_code 4 (Option.some FieldType.int)) ∈ fs_ws := fs_t7 (List.mem_of_getElem? (i := 54) rfl) rfl
theorem tw_7_55 : (Cond.methodLink "FlowShelfModel" 256 ⟨"FlowShelfModel", "isWhole", "(I)Z"⟩) ∈ fs_ws := fs_t7 (List.mem_of_getElem? (i := 55) rfl) rfl
theorem tw_7_57 : (Cond.instanceMethod ⟨"FlowShelfModel", "isWhole", "(I)Z"⟩) ∈ fs_ws := fs_t7 (List.mem_of_getElem? (i := 57) rfl) rfl
theorem tw_7_58 : (Cond.code ⟨"FlowShelfModel", "isWhole", "(I)Z"⟩ prog_13_method_47_code 2 (Option.some FieldType.boolean)) ∈ fs_ws := fs_t7 (List.mem_of_getElem? (i := 58) rfl) rfl
theorem tw_7_59 : (Cond.methodLink "FlowShelfModel" 269 ⟨"FlowShelfModel", "pairOne", "(I)V"⟩) ∈ fs_ws := fs_t7 (List.mem_of_getElem? (i := 59) rfl) rfl
theorem tw_7_61 : (Cond.instanceMethod ⟨"FlowShelfModel", "pairOne", "(I)V"⟩) ∈ fs_ws := fs_t7 (List.mem_of_getElem? (i := 61) rfl) rfl
theorem tw_7_62 : (Cond.code ⟨"FlowShelfModel", "pairOne", "(I)V"⟩ prog_13_method_51_code 5 (Option.none : Option FieldType)) ∈ fs_ws := fs_t7 (List.mem_of_getElem? (i := 62) rfl) rfl
theorem tw_7_63 : (Cond.methodLink "FlowShelfModel" 259 ⟨"FlowShelfModel", "isBack", "(II)Z"⟩) ∈ fs_ws := fs_t7 (List.mem_of_getElem? (i := 63) rfl) rfl
theorem tw_7_65 : (Cond.instanceMethod ⟨"FlowShelfModel", "isBack", "(II)Z"⟩) ∈ fs_ws := fs_t7 (List.mem_of_getElem? (i := 65) rfl) rfl
theorem tw_7_66 : (Cond.code ⟨"FlowShelfModel", "isBack", "(II)Z"⟩ prog_13_method_48_code 3 (Option.some FieldType.boolean)) ∈ fs_ws := fs_t7 (List.mem_of_getElem? (i := 66) rfl) rfl
theorem tw_7_67 : (Cond.methodLink "FlowShelfModel" 262 ⟨"FlowShelfModel", "farness", "(II)J"⟩) ∈ fs_ws := fs_t7 (List.mem_of_getElem? (i := 67) rfl) rfl
theorem tw_7_69 : (Cond.instanceMethod ⟨"FlowShelfModel", "farness", "(II)J"⟩) ∈ fs_ws := fs_t7 (List.mem_of_getElem? (i := 69) rfl) rfl
theorem tw_7_70 : (Cond.code ⟨"FlowShelfModel", "farness", "(II)J"⟩ prog_13_method_49_code 5 (Option.some FieldType.long)) ∈ fs_ws := fs_t7 (List.mem_of_getElem? (i := 70) rfl) rfl
theorem tw_7_71 : (Cond.methodLink "FlowShelfLaw" 167 ⟨"FlowShelfModel", "count", "(II)I"⟩) ∈ fs_ws := fs_t7 (List.mem_of_getElem? (i := 71) rfl) rfl
theorem tw_7_72 : (Cond.instanceMethod ⟨"FlowShelfModel", "count", "(II)I"⟩) ∈ fs_ws := fs_t7 (List.mem_of_getElem? (i := 72) rfl) rfl
theorem tw_7_73 : (Cond.selects "FlowShelfModel" ⟨"FlowShelfModel", "count", "(II)I"⟩ ⟨"FlowShelfModel", "count", "(II)I"⟩) ∈ fs_ws := fs_t7 (List.mem_of_getElem? (i := 73) rfl) rfl
theorem tw_7_74 : (Cond.code ⟨"FlowShelfModel", "count", "(II)I"⟩ prog_13_method_54_code 5 (Option.some FieldType.int)) ∈ fs_ws := fs_t7 (List.mem_of_getElem? (i := 74) rfl) rfl
theorem tw_7_75 : (Cond.methodLink "FlowShelfModel" 272 ⟨"FlowShelfModel", "lostOf", "(I)I"⟩) ∈ fs_ws := fs_t7 (List.mem_of_getElem? (i := 75) rfl) rfl
theorem tw_7_77 : (Cond.instanceMethod ⟨"FlowShelfModel", "lostOf", "(I)I"⟩) ∈ fs_ws := fs_t7 (List.mem_of_getElem? (i := 77) rfl) rfl
theorem tw_7_78 : (Cond.code ⟨"FlowShelfModel", "lostOf", "(I)I"⟩ prog_13_method_53_code 8 (Option.some FieldType.int)) ∈ fs_ws := fs_t7 (List.mem_of_getElem? (i := 78) rfl) rfl
theorem tw_7_79 : (Cond.constantLong "FlowShelfLaw" 156 (4294967295 : Int64)) ∈ fs_ws := fs_t7 (List.mem_of_getElem? (i := 79) rfl) rfl
theorem tw_7_85 : (Cond.selects "[Ljava/lang/Object;" ⟨"java/lang/Object", "getClass", "()Ljava/lang/Class;"⟩ ⟨"java/lang/Object", "getClass", "()Ljava/lang/Class;"⟩) ∈ fs_ws := fs_t7 (List.mem_of_getElem? (i := 85) rfl) rfl
theorem fs_p {k : List (MethodName × Nat)} (hk : ∀ q ∈ k, q ∈ lw_privs) {q : MethodName × Nat} (h : q ∈ k) : Cond.selects q.1.cls q.1 q.1 ∈ fs_ws := List.mem_filter.mpr ⟨List.mem_append_left _ (List.mem_map.mpr ⟨q, hk q h, rfl⟩), rfl⟩
theorem fs_p1 : ∀ q ∈ lw_privs_1, q ∈ lw_privs := fun q h => List.mem_append_left _ h
theorem fs_p2 : ∀ q ∈ lw_privs_2, q ∈ lw_privs := fun q h => List.mem_append_right _ (List.mem_append_left _ h)
theorem fs_p3 : ∀ q ∈ lw_privs_3, q ∈ lw_privs := fun q h => List.mem_append_right _ (List.mem_append_right _ h)
theorem tp_1_0 : Cond.selects "FlowShelf" ⟨"FlowShelf", "isReport", "(I)Z"⟩ ⟨"FlowShelf", "isReport", "(I)Z"⟩ ∈ fs_ws := fs_p fs_p1 (q := (⟨"FlowShelf", "isReport", "(I)Z"⟩, 4)) (List.mem_of_getElem? (i := 0) rfl)
theorem tp_1_1 : Cond.selects "FlowShelf" ⟨"FlowShelf", "exporterOf", "(I)LFlowShelf$Exporter;"⟩ ⟨"FlowShelf", "exporterOf", "(I)LFlowShelf$Exporter;"⟩ ∈ fs_ws := fs_p fs_p1 (q := (⟨"FlowShelf", "exporterOf", "(I)LFlowShelf$Exporter;"⟩, 4)) (List.mem_of_getElem? (i := 1) rfl)
theorem tp_1_2 : Cond.selects "java/lang/Throwable" ⟨"java/lang/Throwable", "fillInStackTrace", "(I)Ljava/lang/Throwable;"⟩ ⟨"java/lang/Throwable", "fillInStackTrace", "(I)Ljava/lang/Throwable;"⟩ ∈ fs_ws := fs_p fs_p1 (q := (⟨"java/lang/Throwable", "fillInStackTrace", "(I)Ljava/lang/Throwable;"⟩, 6)) (List.mem_of_getElem? (i := 2) rfl)
theorem tp_1_3 : Cond.selects "java/util/ArrayList" ⟨"java/util/ArrayList", "fastRemove", "([Ljava/lang/Object;I)V"⟩ ⟨"java/util/ArrayList", "fastRemove", "([Ljava/lang/Object;I)V"⟩ ∈ fs_ws := fs_p fs_p1 (q := (⟨"java/util/ArrayList", "fastRemove", "([Ljava/lang/Object;I)V"⟩, 3)) (List.mem_of_getElem? (i := 3) rfl)
theorem tp_1_4 : Cond.selects "java/util/ArrayList" ⟨"java/util/ArrayList", "add", "(Ljava/lang/Object;[Ljava/lang/Object;I)V"⟩ ⟨"java/util/ArrayList", "add", "(Ljava/lang/Object;[Ljava/lang/Object;I)V"⟩ ∈ fs_ws := fs_p fs_p1 (q := (⟨"java/util/ArrayList", "add", "(Ljava/lang/Object;[Ljava/lang/Object;I)V"⟩, 3)) (List.mem_of_getElem? (i := 4) rfl)
theorem tp_1_5 : Cond.selects "java/util/ArrayList" ⟨"java/util/ArrayList", "grow", "()[Ljava/lang/Object;"⟩ ⟨"java/util/ArrayList", "grow", "()[Ljava/lang/Object;"⟩ ∈ fs_ws := fs_p fs_p1 (q := (⟨"java/util/ArrayList", "grow", "()[Ljava/lang/Object;"⟩, 3)) (List.mem_of_getElem? (i := 5) rfl)
theorem tp_1_6 : Cond.selects "java/util/ArrayList" ⟨"java/util/ArrayList", "grow", "(I)[Ljava/lang/Object;"⟩ ⟨"java/util/ArrayList", "grow", "(I)[Ljava/lang/Object;"⟩ ∈ fs_ws := fs_p fs_p1 (q := (⟨"java/util/ArrayList", "grow", "(I)[Ljava/lang/Object;"⟩, 3)) (List.mem_of_getElem? (i := 6) rfl)
theorem tp_1_7 : Cond.selects "FlowShelf" ⟨"FlowShelf", "slotOf", "(II)LFlowShelf$Slot;"⟩ ⟨"FlowShelf", "slotOf", "(II)LFlowShelf$Slot;"⟩ ∈ fs_ws := fs_p fs_p1 (q := (⟨"FlowShelf", "slotOf", "(II)LFlowShelf$Slot;"⟩, 4)) (List.mem_of_getElem? (i := 7) rfl)
theorem tp_1_8 : Cond.selects "FlowShelf" ⟨"FlowShelf", "hasNoRoomForReport", "()Z"⟩ ⟨"FlowShelf", "hasNoRoomForReport", "()Z"⟩ ∈ fs_ws := fs_p fs_p1 (q := (⟨"FlowShelf", "hasNoRoomForReport", "()Z"⟩, 4)) (List.mem_of_getElem? (i := 8) rfl)
theorem tp_1_9 : Cond.selects "FlowShelf" ⟨"FlowShelf", "keep", "(LFlowShelf$Report;)I"⟩ ⟨"FlowShelf", "keep", "(LFlowShelf$Report;)I"⟩ ∈ fs_ws := fs_p fs_p1 (q := (⟨"FlowShelf", "keep", "(LFlowShelf$Report;)I"⟩, 4)) (List.mem_of_getElem? (i := 9) rfl)
theorem tp_1_10 : Cond.selects "FlowShelf" ⟨"FlowShelf", "reportWithByte", "(II)LFlowShelf$Report;"⟩ ⟨"FlowShelf", "reportWithByte", "(II)LFlowShelf$Report;"⟩ ∈ fs_ws := fs_p fs_p1 (q := (⟨"FlowShelf", "reportWithByte", "(II)LFlowShelf$Report;"⟩, 4)) (List.mem_of_getElem? (i := 10) rfl)
theorem tp_1_11 : Cond.selects "FlowShelf" ⟨"FlowShelf", "reportOf", "(I)LFlowShelf$Report;"⟩ ⟨"FlowShelf", "reportOf", "(I)LFlowShelf$Report;"⟩ ∈ fs_ws := fs_p fs_p1 (q := (⟨"FlowShelf", "reportOf", "(I)LFlowShelf$Report;"⟩, 4)) (List.mem_of_getElem? (i := 11) rfl)
theorem tp_1_12 : Cond.selects "FlowShelf" ⟨"FlowShelf", "requireRow", "(I)V"⟩ ⟨"FlowShelf", "requireRow", "(I)V"⟩ ∈ fs_ws := fs_p fs_p1 (q := (⟨"FlowShelf", "requireRow", "(I)V"⟩, 4)) (List.mem_of_getElem? (i := 12) rfl)
theorem tp_1_13 : Cond.selects "FlowShelfModel" ⟨"FlowShelfModel", "noExporter", "(I)Z"⟩ ⟨"FlowShelfModel", "noExporter", "(I)Z"⟩ ∈ fs_ws := fs_p fs_p1 (q := (⟨"FlowShelfModel", "noExporter", "(I)Z"⟩, 50)) (List.mem_of_getElem? (i := 13) rfl)
theorem tp_1_14 : Cond.selects "FlowShelfModel" ⟨"FlowShelfModel", "noByte", "(I)Z"⟩ ⟨"FlowShelfModel", "noByte", "(I)Z"⟩ ∈ fs_ws := fs_p fs_p1 (q := (⟨"FlowShelfModel", "noByte", "(I)Z"⟩, 50)) (List.mem_of_getElem? (i := 14) rfl)
theorem tp_1_15 : Cond.selects "FlowShelfModel" ⟨"FlowShelfModel", "flowOf", "(II)I"⟩ ⟨"FlowShelfModel", "flowOf", "(II)I"⟩ ∈ fs_ws := fs_p fs_p1 (q := (⟨"FlowShelfModel", "flowOf", "(II)I"⟩, 50)) (List.mem_of_getElem? (i := 15) rfl)
theorem tp_2_0 : Cond.selects "FlowShelfModel" ⟨"FlowShelfModel", "end", "(III)V"⟩ ⟨"FlowShelfModel", "end", "(III)V"⟩ ∈ fs_ws := fs_p fs_p2 (q := (⟨"FlowShelfModel", "end", "(III)V"⟩, 50)) (List.mem_of_getElem? (i := 0) rfl)
theorem tp_2_1 : Cond.selects "FlowShelfModel" ⟨"FlowShelfModel", "noTemplate", "(II)Z"⟩ ⟨"FlowShelfModel", "noTemplate", "(II)Z"⟩ ∈ fs_ws := fs_p fs_p2 (q := (⟨"FlowShelfModel", "noTemplate", "(II)Z"⟩, 50)) (List.mem_of_getElem? (i := 1) rfl)
theorem tp_2_2 : Cond.selects "FlowShelfModel" ⟨"FlowShelfModel", "leastOf", "(I)I"⟩ ⟨"FlowShelfModel", "leastOf", "(I)I"⟩ ∈ fs_ws := fs_p fs_p2 (q := (⟨"FlowShelfModel", "leastOf", "(I)I"⟩, 50)) (List.mem_of_getElem? (i := 2) rfl)
theorem tp_2_3 : Cond.selects "FlowShelfModel" ⟨"FlowShelfModel", "head", "(II)V"⟩ ⟨"FlowShelfModel", "head", "(II)V"⟩ ∈ fs_ws := fs_p fs_p2 (q := (⟨"FlowShelfModel", "head", "(II)V"⟩, 50)) (List.mem_of_getElem? (i := 3) rfl)
theorem tp_2_4 : Cond.selects "FlowShelfModel" ⟨"FlowShelfModel", "write", "(I)V"⟩ ⟨"FlowShelfModel", "write", "(I)V"⟩ ∈ fs_ws := fs_p fs_p2 (q := (⟨"FlowShelfModel", "write", "(I)V"⟩, 50)) (List.mem_of_getElem? (i := 4) rfl)
theorem tp_2_5 : Cond.selects "FlowShelfModel" ⟨"FlowShelfModel", "last", "(I)I"⟩ ⟨"FlowShelfModel", "last", "(I)I"⟩ ∈ fs_ws := fs_p fs_p2 (q := (⟨"FlowShelfModel", "last", "(I)I"⟩, 50)) (List.mem_of_getElem? (i := 5) rfl)
theorem tp_2_6 : Cond.selects "FlowShelfModel" ⟨"FlowShelfModel", "recordOf", "(III)I"⟩ ⟨"FlowShelfModel", "recordOf", "(III)I"⟩ ∈ fs_ws := fs_p fs_p2 (q := (⟨"FlowShelfModel", "recordOf", "(III)I"⟩, 50)) (List.mem_of_getElem? (i := 6) rfl)
theorem tp_2_7 : Cond.selects "FlowShelfModel" ⟨"FlowShelfModel", "widthOf", "(I)I"⟩ ⟨"FlowShelfModel", "widthOf", "(I)I"⟩ ∈ fs_ws := fs_p fs_p2 (q := (⟨"FlowShelfModel", "widthOf", "(I)I"⟩, 50)) (List.mem_of_getElem? (i := 7) rfl)
theorem tp_2_8 : Cond.selects "FlowShelfModel" ⟨"FlowShelfModel", "writeRecord", "(III)V"⟩ ⟨"FlowShelfModel", "writeRecord", "(III)V"⟩ ∈ fs_ws := fs_p fs_p2 (q := (⟨"FlowShelfModel", "writeRecord", "(III)V"⟩, 50)) (List.mem_of_getElem? (i := 8) rfl)
theorem tp_2_9 : Cond.selects "FlowShelfModel" ⟨"FlowShelfModel", "noReport", "(I)Z"⟩ ⟨"FlowShelfModel", "noReport", "(I)Z"⟩ ∈ fs_ws := fs_p fs_p2 (q := (⟨"FlowShelfModel", "noReport", "(I)Z"⟩, 50)) (List.mem_of_getElem? (i := 9) rfl)
theorem tp_2_10 : Cond.selects "FlowShelfModel" ⟨"FlowShelfModel", "isBad", "()Z"⟩ ⟨"FlowShelfModel", "isBad", "()Z"⟩ ∈ fs_ws := fs_p fs_p2 (q := (⟨"FlowShelfModel", "isBad", "()Z"⟩, 50)) (List.mem_of_getElem? (i := 10) rfl)
theorem tp_2_11 : Cond.selects "FlowShelfModel" ⟨"FlowShelfModel", "badFields", "()Z"⟩ ⟨"FlowShelfModel", "badFields", "()Z"⟩ ∈ fs_ws := fs_p fs_p2 (q := (⟨"FlowShelfModel", "badFields", "()Z"⟩, 50)) (List.mem_of_getElem? (i := 11) rfl)
theorem tp_2_12 : Cond.selects "FlowShelfModel" ⟨"FlowShelfModel", "hearTemplate", "()I"⟩ ⟨"FlowShelfModel", "hearTemplate", "()I"⟩ ∈ fs_ws := fs_p fs_p2 (q := (⟨"FlowShelfModel", "hearTemplate", "()I"⟩, 50)) (List.mem_of_getElem? (i := 12) rfl)
theorem tp_2_13 : Cond.selects "FlowShelfModel" ⟨"FlowShelfModel", "nameOf", "()I"⟩ ⟨"FlowShelfModel", "nameOf", "()I"⟩ ∈ fs_ws := fs_p fs_p2 (q := (⟨"FlowShelfModel", "nameOf", "()I"⟩, 50)) (List.mem_of_getElem? (i := 13) rfl)
theorem tp_2_14 : Cond.selects "FlowShelfModel" ⟨"FlowShelfModel", "find", "(I)I"⟩ ⟨"FlowShelfModel", "find", "(I)I"⟩ ∈ fs_ws := fs_p fs_p2 (q := (⟨"FlowShelfModel", "find", "(I)I"⟩, 50)) (List.mem_of_getElem? (i := 14) rfl)
theorem tp_2_15 : Cond.selects "FlowShelfModel" ⟨"FlowShelfModel", "waiting", "(I)I"⟩ ⟨"FlowShelfModel", "waiting", "(I)I"⟩ ∈ fs_ws := fs_p fs_p2 (q := (⟨"FlowShelfModel", "waiting", "(I)I"⟩, 50)) (List.mem_of_getElem? (i := 15) rfl)
theorem tp_3_0 : Cond.selects "FlowShelfModel" ⟨"FlowShelfModel", "fetch", "(I)V"⟩ ⟨"FlowShelfModel", "fetch", "(I)V"⟩ ∈ fs_ws := fs_p fs_p3 (q := (⟨"FlowShelfModel", "fetch", "(I)V"⟩, 50)) (List.mem_of_getElem? (i := 0) rfl)
theorem tp_3_1 : Cond.selects "FlowShelfModel" ⟨"FlowShelfModel", "makeRows", "(I)I"⟩ ⟨"FlowShelfModel", "makeRows", "(I)I"⟩ ∈ fs_ws := fs_p fs_p3 (q := (⟨"FlowShelfModel", "makeRows", "(I)I"⟩, 50)) (List.mem_of_getElem? (i := 1) rfl)
theorem tp_3_2 : Cond.selects "FlowShelfModel" ⟨"FlowShelfModel", "read", "(IZ)Z"⟩ ⟨"FlowShelfModel", "read", "(IZ)Z"⟩ ∈ fs_ws := fs_p fs_p3 (q := (⟨"FlowShelfModel", "read", "(IZ)Z"⟩, 50)) (List.mem_of_getElem? (i := 2) rfl)
theorem tp_3_3 : Cond.selects "FlowShelfModel" ⟨"FlowShelfModel", "take", "(I)J"⟩ ⟨"FlowShelfModel", "take", "(I)J"⟩ ∈ fs_ws := fs_p fs_p3 (q := (⟨"FlowShelfModel", "take", "(I)J"⟩, 50)) (List.mem_of_getElem? (i := 3) rfl)
theorem tp_3_4 : Cond.selects "FlowShelfModel" ⟨"FlowShelfModel", "unshelve", "(I)V"⟩ ⟨"FlowShelfModel", "unshelve", "(I)V"⟩ ∈ fs_ws := fs_p fs_p3 (q := (⟨"FlowShelfModel", "unshelve", "(I)V"⟩, 50)) (List.mem_of_getElem? (i := 4) rfl)
theorem tp_3_5 : Cond.selects "FlowShelfModel" ⟨"FlowShelfModel", "hearRecords", "()I"⟩ ⟨"FlowShelfModel", "hearRecords", "()I"⟩ ∈ fs_ws := fs_p fs_p3 (q := (⟨"FlowShelfModel", "hearRecords", "()I"⟩, 50)) (List.mem_of_getElem? (i := 5) rfl)
theorem tp_3_6 : Cond.selects "FlowShelfModel" ⟨"FlowShelfModel", "firstLeft", "()I"⟩ ⟨"FlowShelfModel", "firstLeft", "()I"⟩ ∈ fs_ws := fs_p fs_p3 (q := (⟨"FlowShelfModel", "firstLeft", "()I"⟩, 50)) (List.mem_of_getElem? (i := 6) rfl)
theorem tp_3_7 : Cond.selects "FlowShelfModel" ⟨"FlowShelfModel", "isWhole", "(I)Z"⟩ ⟨"FlowShelfModel", "isWhole", "(I)Z"⟩ ∈ fs_ws := fs_p fs_p3 (q := (⟨"FlowShelfModel", "isWhole", "(I)Z"⟩, 50)) (List.mem_of_getElem? (i := 7) rfl)
theorem tp_3_8 : Cond.selects "FlowShelfModel" ⟨"FlowShelfModel", "pairOne", "(I)V"⟩ ⟨"FlowShelfModel", "pairOne", "(I)V"⟩ ∈ fs_ws := fs_p fs_p3 (q := (⟨"FlowShelfModel", "pairOne", "(I)V"⟩, 50)) (List.mem_of_getElem? (i := 8) rfl)
theorem tp_3_9 : Cond.selects "FlowShelfModel" ⟨"FlowShelfModel", "isBack", "(II)Z"⟩ ⟨"FlowShelfModel", "isBack", "(II)Z"⟩ ∈ fs_ws := fs_p fs_p3 (q := (⟨"FlowShelfModel", "isBack", "(II)Z"⟩, 50)) (List.mem_of_getElem? (i := 9) rfl)
theorem tp_3_10 : Cond.selects "FlowShelfModel" ⟨"FlowShelfModel", "farness", "(II)J"⟩ ⟨"FlowShelfModel", "farness", "(II)J"⟩ ∈ fs_ws := fs_p fs_p3 (q := (⟨"FlowShelfModel", "farness", "(II)J"⟩, 50)) (List.mem_of_getElem? (i := 10) rfl)
theorem tp_3_11 : Cond.selects "FlowShelfModel" ⟨"FlowShelfModel", "lostOf", "(I)I"⟩ ⟨"FlowShelfModel", "lostOf", "(I)I"⟩ ∈ fs_ws := fs_p fs_p3 (q := (⟨"FlowShelfModel", "lostOf", "(I)I"⟩, 50)) (List.mem_of_getElem? (i := 11) rfl)
theorem tb_1_56 : (Cond.laysStatic "java/util/ArrayList" "DEFAULTCAPACITY_EMPTY_ELEMENTDATA" "[Ljava/lang/Object;") ∈ lw_tbl := fs_b1 (List.mem_of_getElem? (i := 56) rfl)
theorem tb_1_68 : (Cond.superclass "java/util/ArrayList" "java/util/AbstractList") ∈ lw_tbl := fs_b1 (List.mem_of_getElem? (i := 68) rfl)
theorem tb_1_70 : (Cond.arrayOver (FieldType.object "FlowShelf$Slot")) ∈ lw_tbl := fs_b1 (List.mem_of_getElem? (i := 70) rfl)
theorem tb_1_78 : (Cond.methodLinkNest "FlowShelf$Slot" 9 ⟨"FlowShelf$Layout", "<init>", "()V"⟩ "FlowShelf") ∈ lw_tbl := fs_b1 (List.mem_of_getElem? (i := 78) rfl)
theorem tb_1_96 : (Cond.superclass "FlowShelf$Layout" "java/lang/Object") ∈ lw_tbl := fs_b1 (List.mem_of_getElem? (i := 96) rfl)
theorem tb_1_124 : (Cond.superclass "FlowShelf$Slot" "java/lang/Object") ∈ lw_tbl := fs_b1 (List.mem_of_getElem? (i := 124) rfl)
theorem tb_1_164 : (Cond.superclass "FlowShelf$Exporter" "java/lang/Object") ∈ lw_tbl := fs_b1 (List.mem_of_getElem? (i := 164) rfl)
theorem tb_1_169 : (Cond.methodLinkNest "FlowShelf" 30 ⟨"FlowShelf$Collector", "<init>", "()V"⟩ "FlowShelf") ∈ lw_tbl := fs_b1 (List.mem_of_getElem? (i := 169) rfl)
theorem tb_1_177 : (Cond.methodLinkNest "FlowShelf$Collector" 23 ⟨"FlowShelf$Table", "<init>", "()V"⟩ "FlowShelf") ∈ lw_tbl := fs_b1 (List.mem_of_getElem? (i := 177) rfl)
theorem tb_1_200 : (Cond.superclass "FlowShelf$Table" "java/lang/Object") ∈ lw_tbl := fs_b1 (List.mem_of_getElem? (i := 200) rfl)
theorem tb_1_203 : (Cond.methodLinkNest "FlowShelf$Collector" 30 ⟨"FlowShelf$Ledger", "<init>", "()V"⟩ "FlowShelf") ∈ lw_tbl := fs_b1 (List.mem_of_getElem? (i := 203) rfl)
theorem tb_1_228 : (Cond.superclass "FlowShelf$Ledger" "java/lang/Object") ∈ lw_tbl := fs_b1 (List.mem_of_getElem? (i := 228) rfl)
theorem tb_2_6 : (Cond.superclass "FlowShelf$Collector" "java/lang/Object") ∈ lw_tbl := fs_b2 (List.mem_of_getElem? (i := 6) rfl)
theorem tb_2_19 : (Cond.superclass "FlowShelf" "java/lang/Object") ∈ lw_tbl := fs_b2 (List.mem_of_getElem? (i := 19) rfl)
theorem tb_2_69 : (Cond.castable "java/lang/IllegalArgumentException" "java/lang/IllegalArgumentException") ∈ lw_tbl := fs_b2 (List.mem_of_getElem? (i := 69) rfl)
theorem tb_2_70 : (Cond.declares ⟨"java/lang/RuntimeException", "<init>", "()V"⟩) ∈ lw_tbl := fs_b2 (List.mem_of_getElem? (i := 70) rfl)
theorem tb_2_71 : (Cond.declares ⟨"java/lang/RuntimeException", "<init>", "(Ljava/lang/String;)V"⟩) ∈ lw_tbl := fs_b2 (List.mem_of_getElem? (i := 71) rfl)
theorem tb_2_72 : (Cond.declares ⟨"java/lang/Exception", "<init>", "()V"⟩) ∈ lw_tbl := fs_b2 (List.mem_of_getElem? (i := 72) rfl)
theorem tb_2_73 : (Cond.declares ⟨"java/lang/Exception", "<init>", "(Ljava/lang/String;)V"⟩) ∈ lw_tbl := fs_b2 (List.mem_of_getElem? (i := 73) rfl)
theorem tb_2_74 : (Cond.declares ⟨"java/lang/Throwable", "<init>", "()V"⟩) ∈ lw_tbl := fs_b2 (List.mem_of_getElem? (i := 74) rfl)
theorem tb_2_75 : (Cond.declares ⟨"java/lang/Throwable", "<init>", "(Ljava/lang/String;)V"⟩) ∈ lw_tbl := fs_b2 (List.mem_of_getElem? (i := 75) rfl)
theorem tb_2_89 : (Cond.superclass "java/lang/Throwable" "java/lang/Object") ∈ lw_tbl := fs_b2 (List.mem_of_getElem? (i := 89) rfl)
theorem tb_2_94 : (Cond.laysStatic "java/lang/Throwable" "UNASSIGNED_STACK" "[Ljava/lang/StackTraceElement;") ∈ lw_tbl := fs_b2 (List.mem_of_getElem? (i := 94) rfl)
theorem tb_2_96 : (Cond.laysStatic "java/lang/Throwable" "SUPPRESSED_SENTINEL" "Ljava/util/List;") ∈ lw_tbl := fs_b2 (List.mem_of_getElem? (i := 96) rfl)
theorem tb_2_99 : (Cond.sameMethod "java/lang/Throwable" "java/lang/Throwable" "fillInStackTrace" "()Ljava/lang/Throwable;") ∈ lw_tbl := fs_b2 (List.mem_of_getElem? (i := 99) rfl)
theorem tb_2_103 : (Cond.codeSync ⟨"java/lang/Throwable", "fillInStackTrace", "()Ljava/lang/Throwable;"⟩ prog_25_method_18_code 1 (Option.some (FieldType.object "java/lang/Throwable"))) ∈ lw_tbl := fs_b2 (List.mem_of_getElem? (i := 103) rfl)
theorem tb_2_109 : (Cond.stringRef "FlowShelf" 272 "no such exporter") ∈ lw_tbl := fs_b2 (List.mem_of_getElem? (i := 109) rfl)
theorem tb_2_134 : (Cond.superclass "java/lang/IllegalArgumentException" "java/lang/RuntimeException") ∈ lw_tbl := fs_b2 (List.mem_of_getElem? (i := 134) rfl)
theorem tb_2_139 : (Cond.stringRef "FlowShelf" 45 "a part of the key is not 0 .. 255") ∈ lw_tbl := fs_b2 (List.mem_of_getElem? (i := 139) rfl)
theorem tb_2_140 : (Cond.stringRef "FlowShelf" 50 "bytes is not 0 .. 9999") ∈ lw_tbl := fs_b2 (List.mem_of_getElem? (i := 140) rfl)
theorem tb_2_148 : (Cond.castable "java/lang/IllegalStateException" "java/lang/IllegalStateException") ∈ lw_tbl := fs_b2 (List.mem_of_getElem? (i := 148) rfl)
theorem tb_2_155 : (Cond.stringRef "FlowShelf" 58 "20 flows are in the cache or ended") ∈ lw_tbl := fs_b2 (List.mem_of_getElem? (i := 155) rfl)
theorem tb_2_161 : (Cond.superclass "java/lang/IllegalStateException" "java/lang/RuntimeException") ∈ lw_tbl := fs_b2 (List.mem_of_getElem? (i := 161) rfl)
theorem tb_2_230 : (Cond.sameMethod "java/lang/Object" "java/lang/Object" "getClass" "()Ljava/lang/Class;") ∈ lw_tbl := fs_b2 (List.mem_of_getElem? (i := 230) rfl)
theorem tb_3_13 : (Cond.arrayOver (FieldType.object "java/lang/Object")) ∈ lw_tbl := fs_b3 (List.mem_of_getElem? (i := 13) rfl)
theorem tb_3_56 : (Cond.superclass "FlowShelf$Flow" "java/lang/Object") ∈ lw_tbl := fs_b3 (List.mem_of_getElem? (i := 56) rfl)
theorem tb_3_68 : (Cond.stringRef "FlowShelf" 69 "n is not 1 .. 100") ∈ lw_tbl := fs_b3 (List.mem_of_getElem? (i := 68) rfl)
theorem tb_3_95 : (Cond.stringRef "FlowShelf" 77 "n is not 1 .. 9") ∈ lw_tbl := fs_b3 (List.mem_of_getElem? (i := 95) rfl)
theorem tb_3_111 : (Cond.stringRef "FlowShelf" 304 "no such field") ∈ lw_tbl := fs_b3 (List.mem_of_getElem? (i := 111) rfl)
theorem tb_3_114 : (Cond.castable "java/lang/IndexOutOfBoundsException" "java/lang/IndexOutOfBoundsException") ∈ lw_tbl := fs_b3 (List.mem_of_getElem? (i := 114) rfl)
theorem tb_3_121 : (Cond.stringRef "FlowShelf" 93 "no such ended flow") ∈ lw_tbl := fs_b3 (List.mem_of_getElem? (i := 121) rfl)
theorem tb_3_127 : (Cond.superclass "java/lang/IndexOutOfBoundsException" "java/lang/RuntimeException") ∈ lw_tbl := fs_b3 (List.mem_of_getElem? (i := 127) rfl)
theorem tb_3_144 : (Cond.stringRef "FlowShelf" 308 "no such template number") ∈ lw_tbl := fs_b3 (List.mem_of_getElem? (i := 144) rfl)
theorem tb_3_145 : (Cond.stringRef "FlowShelf" 110 "length is not 0 .. 4") ∈ lw_tbl := fs_b3 (List.mem_of_getElem? (i := 145) rfl)
theorem tb_3_147 : (Cond.laysStatic "FlowShelf" "LEAST_LENGTH" "[I") ∈ lw_tbl := fs_b3 (List.mem_of_getElem? (i := 147) rfl)
theorem tb_3_148 : (Cond.stringRef "FlowShelf" 116 "length is less than the field's least") ∈ lw_tbl := fs_b3 (List.mem_of_getElem? (i := 148) rfl)
theorem tb_3_153 : (Cond.stringRef "FlowShelf" 129 "the draft has that field") ∈ lw_tbl := fs_b3 (List.mem_of_getElem? (i := 153) rfl)
theorem tb_3_165 : (Cond.stringRef "FlowShelf" 143 "the draft is empty, or a template is in force") ∈ lw_tbl := fs_b3 (List.mem_of_getElem? (i := 165) rfl)
theorem tb_3_181 : (Cond.stringRef "FlowShelf" 154 "no template is in force") ∈ lw_tbl := fs_b3 (List.mem_of_getElem? (i := 181) rfl)
theorem tb_3_189 : (Cond.stringRef "FlowShelf" 159 "the epoch is 5") ∈ lw_tbl := fs_b3 (List.mem_of_getElem? (i := 189) rfl)
theorem tb_3_214 : (Cond.stringRef "FlowShelf" 167 "no template is in force, or there are 30 reports") ∈ lw_tbl := fs_b3 (List.mem_of_getElem? (i := 214) rfl)
theorem tb_3_235 : (Cond.superclass "FlowShelf$Report" "java/lang/Object") ∈ lw_tbl := fs_b3 (List.mem_of_getElem? (i := 235) rfl)
theorem tb_4_20 : (Cond.stringRef "FlowShelf" 186 "no flow is ended, or no place is left") ∈ lw_tbl := fs_b4 (List.mem_of_getElem? (i := 20) rfl)
theorem tb_4_56 : (Cond.stringRef "FlowShelf" 195 "there are 30 reports") ∈ lw_tbl := fs_b4 (List.mem_of_getElem? (i := 56) rfl)
theorem tb_4_76 : (Cond.stringRef "FlowShelf" 310 "no such report") ∈ lw_tbl := fs_b4 (List.mem_of_getElem? (i := 76) rfl)
theorem tb_4_77 : (Cond.stringRef "FlowShelf" 312 "no such byte") ∈ lw_tbl := fs_b4 (List.mem_of_getElem? (i := 77) rfl)
theorem tb_4_85 : (Cond.stringRef "FlowShelf" 214 "v is not 0 .. 255") ∈ lw_tbl := fs_b4 (List.mem_of_getElem? (i := 85) rfl)
theorem tb_4_102 : (Cond.methodLinkNest "FlowShelf$Report" 33 ⟨"FlowShelf", "isExporter", "(I)Z"⟩ "FlowShelf") ∈ lw_tbl := fs_b4 (List.mem_of_getElem? (i := 102) rfl)
theorem tb_4_147 : (Cond.stringRef "FlowShelf" 223 "the report is bad") ∈ lw_tbl := fs_b4 (List.mem_of_getElem? (i := 147) rfl)
theorem tb_4_166 : (Cond.castable "java/lang/UnsupportedOperationException" "java/lang/UnsupportedOperationException") ∈ lw_tbl := fs_b4 (List.mem_of_getElem? (i := 166) rfl)
theorem tb_4_173 : (Cond.stringRef "FlowShelf$Collector" 61 "20 templates are known") ∈ lw_tbl := fs_b4 (List.mem_of_getElem? (i := 173) rfl)
theorem tb_4_179 : (Cond.superclass "java/lang/UnsupportedOperationException" "java/lang/RuntimeException") ∈ lw_tbl := fs_b4 (List.mem_of_getElem? (i := 179) rfl)
theorem tb_4_194 : (Cond.stringRef "FlowShelf$Collector" 135 "there would be more than 80 rows") ∈ lw_tbl := fs_b4 (List.mem_of_getElem? (i := 194) rfl)
theorem tb_4_202 : (Cond.sameMethod "[I" "java/lang/Object" "clone" "()Ljava/lang/Object;") ∈ lw_tbl := fs_b4 (List.mem_of_getElem? (i := 202) rfl)
theorem tb_4_206 : (Cond.castable "[I" "java/lang/Cloneable") ∈ lw_tbl := fs_b4 (List.mem_of_getElem? (i := 206) rfl)
theorem tb_4_238 : (Cond.superclass "FlowShelf$Cursor" "java/lang/Object") ∈ lw_tbl := fs_b4 (List.mem_of_getElem? (i := 238) rfl)
theorem tb_5_39 : (Cond.superclass "FlowShelf$Row" "java/lang/Object") ∈ lw_tbl := fs_b5 (List.mem_of_getElem? (i := 39) rfl)
theorem tb_5_72 : (Cond.stringRef "FlowShelf$Collector" 125 "the records can't be read by their template") ∈ lw_tbl := fs_b5 (List.mem_of_getElem? (i := 72) rfl)
theorem tb_5_100 : (Cond.stringRef "FlowShelf" 306 "no such row") ∈ lw_tbl := fs_b5 (List.mem_of_getElem? (i := 100) rfl)
theorem tb_5_101 : (Cond.stringRef "FlowShelf" 259 "f is not 0 .. 8") ∈ lw_tbl := fs_b5 (List.mem_of_getElem? (i := 101) rfl)
theorem tb_5_185 : (Cond.stringRef "FlowShelf" 302 "no such number") ∈ lw_tbl := fs_b5 (List.mem_of_getElem? (i := 185) rfl)
theorem tb_6_102 : (Cond.superclass "FlowShelfModel" "java/lang/Object") ∈ lw_tbl := fs_b6 (List.mem_of_getElem? (i := 102) rfl)
theorem tb_7_80 : (Cond.sameMethod "java/lang/Throwable" "java/lang/Throwable" "fillInStackTrace" "(I)Ljava/lang/Throwable;") ∈ lw_tbl := fs_b7 (List.mem_of_getElem? (i := 80) rfl)
theorem tb_7_81 : (Cond.castable "FlowShelf$Report" "FlowShelf$Report") ∈ lw_tbl := fs_b7 (List.mem_of_getElem? (i := 81) rfl)
theorem tb_7_82 : (Cond.castable "FlowShelf$Flow" "FlowShelf$Flow") ∈ lw_tbl := fs_b7 (List.mem_of_getElem? (i := 82) rfl)
theorem tb_7_83 : (Cond.castable "FlowShelf$Row" "FlowShelf$Row") ∈ lw_tbl := fs_b7 (List.mem_of_getElem? (i := 83) rfl)
theorem tb_7_84 : (Cond.sameMethod "[Ljava/lang/Object;" "java/lang/Object" "getClass" "()Ljava/lang/Class;") ∈ lw_tbl := fs_b7 (List.mem_of_getElem? (i := 84) rfl)
theorem tb_7_86 : (Cond.declares ⟨"java/lang/Object", "getClass", "()Ljava/lang/Class;"⟩) ∈ lw_tbl := fs_b7 (List.mem_of_getElem? (i := 86) rfl)
theorem tb_7_87 : (Cond.castable "FlowShelf" "java/lang/Object") ∈ lw_tbl := fs_b7 (List.mem_of_getElem? (i := 87) rfl)
theorem tb_7_88 : (Cond.castable "FlowShelf$Exporter" "java/lang/Object") ∈ lw_tbl := fs_b7 (List.mem_of_getElem? (i := 88) rfl)
theorem tb_7_89 : (Cond.castable "FlowShelf$Slot" "java/lang/Object") ∈ lw_tbl := fs_b7 (List.mem_of_getElem? (i := 89) rfl)
theorem tb_7_90 : (Cond.castable "FlowShelf$Layout" "java/lang/Object") ∈ lw_tbl := fs_b7 (List.mem_of_getElem? (i := 90) rfl)
theorem tb_7_91 : (Cond.castable "FlowShelf$Collector" "java/lang/Object") ∈ lw_tbl := fs_b7 (List.mem_of_getElem? (i := 91) rfl)
theorem tb_7_92 : (Cond.castable "FlowShelf$Table" "java/lang/Object") ∈ lw_tbl := fs_b7 (List.mem_of_getElem? (i := 92) rfl)
theorem tb_7_93 : (Cond.castable "FlowShelf$Ledger" "java/lang/Object") ∈ lw_tbl := fs_b7 (List.mem_of_getElem? (i := 93) rfl)
theorem tb_7_94 : (Cond.castable "FlowShelfModel" "java/lang/Object") ∈ lw_tbl := fs_b7 (List.mem_of_getElem? (i := 94) rfl)
theorem tb_7_95 : (Cond.castable "FlowShelf$Flow" "java/lang/Object") ∈ lw_tbl := fs_b7 (List.mem_of_getElem? (i := 95) rfl)
theorem tb_7_96 : (Cond.castable "FlowShelf$Report" "java/lang/Object") ∈ lw_tbl := fs_b7 (List.mem_of_getElem? (i := 96) rfl)
theorem tb_7_97 : (Cond.castable "FlowShelf$Cursor" "java/lang/Object") ∈ lw_tbl := fs_b7 (List.mem_of_getElem? (i := 97) rfl)
theorem tb_7_98 : (Cond.castable "FlowShelf$Row" "java/lang/Object") ∈ lw_tbl := fs_b7 (List.mem_of_getElem? (i := 98) rfl)
theorem tb_7_99 : (Cond.castable "java/lang/String" "java/lang/Object") ∈ lw_tbl := fs_b7 (List.mem_of_getElem? (i := 99) rfl)
end
section
/-! A heap that holds a state; a walk that follows a program -/
/-- numbers of classes and slots; classes of arrays; addresses of constants; the state in which the law began -/
abbrev fs_X : Type := va_G × (Nat → ClassId) × (Nat → Nat) × State
abbrev fs_D (X : fs_X) : va_G := X.1
abbrev fs_ta (X : fs_X) : Nat → ClassId := X.2.1
abbrev fs_cz (X : fs_X) : Nat → Nat := X.2.2.1
abbrev fs_o (X : fs_X) : State := X.2.2.2
abbrev fs_z (X : fs_X) : Nat := (fs_o X).heap.size
def fs_A (X : fs_X) : Nat → Prop := fun q => fs_z X ≤ q
def fs_tr (X : fs_X) (e : fs_E) : va_E := match e with
  | .inl (t, x) => .inl (fs_ta X t, x)
  | .inr o => .inr o
abbrev fs_at (X : fs_X) (a : Nat) (e : fs_E) (H : Heap) : Prop := va_at (fs_D X) fs_cl (a, fs_tr X e) H
def fs_w (X : fs_X) (σ : fs_S) (H : Heap) : Prop :=
  H.size = fs_n σ ∧ fs_z X ≤ fs_n σ ∧ fs_c σ = fs_cz X ∧ (∀ a e, fs_m σ a = some e → fs_z X ≤ a ∧ fs_at X a e H) ∧ (∀ a e, fs_k σ a = some e → a < fs_z X ∧ fs_at X a e H) ∧ ∀ q : Nat, q < fs_z X → H[q]? = (fs_o X).heap[q]?
theorem fs_w.lk {X : fs_X} {σ : fs_S} {H : Heap} (h : fs_w X σ H) {a : Nat} {e : fs_E} (he : fs_lk σ a = some e) : fs_at X a e H := by
  unfold fs_lk at he
  cases hm : fs_m σ a with
  | some e1 => rw [hm] at he; cases he; exact (h.2.2.2.1 a e hm).2
  | none => rw [hm] at he; exact (h.2.2.2.2.1 a e he).2
/-- a cell is changed -/
theorem fs_w.set {X : fs_X} {σ : fs_S} {H H1 : Heap} (h : fs_w X σ H) {a : Nat} {e0 e : fs_E} (hm : fs_m σ a = some e0) (he : fs_at X a e H1) (z : H1.size = H.size) (oq : ∀ q : Nat, q ≠ a → H1[q]? = H[q]?) : fs_w X (fs_up (fs_m σ) a e, σ.2) H1 := by
  obtain ⟨h1, h2, h3, h4, h5, h6⟩ := h
  refine ⟨z.trans h1, h2, h3, fun b f hb => ?_, fun b f hb => ?_, fun q hq => (oq q (fun e1 => by
    have := (h4 a e0 hm).1
    omega)).trans (h6 q hq)⟩
  · have hb' : (if b = a then some e else fs_m σ b) = some f := hb
    by_cases hba : b = a
    · subst hba
      rw [if_pos rfl] at hb'
      cases hb'
      exact ⟨(h4 b e0 hm).1, he⟩
    · rw [if_neg hba] at hb'
      exact ⟨(h4 b f hb').1, (h4 b f hb').2.kept (oq b hba)⟩
  · have q := h5 b f hb
    have hne : b ≠ a := fun e1 => by
      have := (h4 a e0 hm).1
      rw [← e1] at this
      omega
    exact ⟨q.1, q.2.kept (oq b hne)⟩
/-- a cell is made -/
theorem fs_w.push {X : fs_X} {σ : fs_S} {H H1 : Heap} (h : fs_w X σ H) {e : fs_E} {w : Nat} (he : fs_at X H.size e H1) (z : H1.size = H.size + 1) (oq : ∀ q : Nat, q < H.size → H1[q]? = H[q]?) : fs_w X (fs_up (fs_m σ) (fs_n σ) e, fs_k σ, fs_c σ, fs_n σ + 1, fs_u σ + w) H1 := by
  obtain ⟨h1, h2, h3, h4, h5, h6⟩ := h
  refine ⟨by rw [z, h1], Nat.le_trans h2 (Nat.le_succ _), h3, fun b f hb => ?_, fun b f hb => ?_, fun q hq => (oq q (by omega)).trans (h6 q hq)⟩
  · have hb' : (if b = fs_n σ then some e else fs_m σ b) = some f := hb
    by_cases hba : b = fs_n σ
    · rw [if_pos hba] at hb'
      cases hb'
      exact ⟨by rw [hba]; exact h2, by rw [hba, ← h1]; exact he⟩
    · rw [if_neg hba] at hb'
      have q := h4 b f hb'
      exact ⟨q.1, q.2.kept (oq b q.2.lt)⟩
  · have q := h5 b f hb
    exact ⟨q.1, q.2.kept (oq b q.2.lt)⟩
/-- more cells, that the state doesn't speak of -/
theorem fs_w.more {X : fs_X} {σ : fs_S} {H H1 : Heap} (h : fs_w X σ H) {w : Nat} (z : H1.size = H.size + 1) (oq : ∀ q : Nat, q < H.size → H1[q]? = H[q]?) : fs_w X (fs_m σ, fs_k σ, fs_c σ, fs_n σ + 1, fs_u σ + w) H1 := by
  obtain ⟨h1, h2, h3, h4, h5, h6⟩ := h
  refine ⟨by rw [z, h1], Nat.le_trans h2 (Nat.le_succ _), h3, fun b f hb => ?_, fun b f hb => ?_, fun q hq => (oq q (by omega)).trans (h6 q hq)⟩
  · have q := h4 b f hb
    exact ⟨q.1, q.2.kept (oq b q.2.lt)⟩
  · have q := h5 b f hb
    exact ⟨q.1, q.2.kept (oq b q.2.lt)⟩
def fs_tys (X : fs_X) : List (ClassId × FieldType) := [(fs_ta X 0, .int), (fs_ta X 1, .long), (fs_ta X 2, .boolean), (fs_ta X 3, .object "java/lang/Object"), (fs_ta X 4, .object "FlowShelf$Slot")]
/-- what the Statement gives of the law's beginning; where the constants lie -/
def fs_B (X : fs_X) : Prop := (∃ b : Nat, (∀ w ∈ lw_tbl, w.before #[Value.ref b] (fs_o X) = true) ∧ (Jvm.Cond.and given_1 narrow_1).before #[Value.ref b] (fs_o X) = true) ∧
  va_Z "FlowShelf" "LEAST_LENGTH" "[I" (.ref (fs_cz X 0)) (fs_A X) (fs_o X) (fs_o X).heap ∧ va_Z "java/util/ArrayList" "DEFAULTCAPACITY_EMPTY_ELEMENTDATA" "[Ljava/lang/Object;" (.ref (fs_cz X 1)) (fs_A X) (fs_o X) (fs_o X).heap ∧
  va_Mi "[Ljava/lang/Object;" (fs_cz X 2) (fs_o X)
/-- the tables, as the law's beginning had them -/
def fs_G (X : fs_X) (U : State) : Prop := fs_B X ∧ (fs_o X).WarmedH U.vm ∧ va_K (fs_D X) fs_cl (fs_tys X) U
theorem fs_G.moved {X : fs_X} {u U : State} (hW : u.WarmedH U.vm) (h : fs_G X u) : fs_G X U := ⟨h.1, State.WarmedH.trans h.2.1 hW, va_K.moved hW.alike h.2.2⟩
theorem fs_G.word {X : fs_X} {U : State} (h : fs_G X U) {w : Cond} (hw : w ∈ lw_tbl) (ht : w.onTables = true) : va_Nw w (fs_o X) := by
  obtain ⟨⟨⟨b, hb, -⟩, -⟩, -⟩ := h
  exact va_Nw.of ht (hb w hw)
theorem fs_G.castable {X : fs_X} {U : State} (h : fs_G X U) {C T : String} (hw : Cond.castable C T ∈ lw_tbl) : va_Nw (.castable C T) U := va_Nw.warmC h.2.1 (h.word hw rfl)
theorem fs_G.nest {X : fs_X} {U : State} (h : fs_G X U) {a : String} {i : Nat} {x : MethodName} {t : String} (hw : Cond.methodLinkNest a i x t ∈ lw_tbl) : va_Nw (.methodLinkNest a i x t) U := va_Nw.warmM h.2.1 (h.word hw rfl)
theorem fs_G.over {X : fs_X} {U : State} (h : fs_G X U) {C : String} (hw : Cond.arrayOver (.object C) ∈ lw_tbl) : va_AO C U := by
  obtain ⟨⟨⟨b, hb, -⟩, -⟩, hW, -⟩ := h
  exact va_AO.moved hW.alike (va_AO.of (hb _ hw))
/-- a method's end: it has returned the value, or thrown an object of the class; the heap holds the new state; nothing that was there at the law's beginning has changed -/
def fs_End (X : fs_X) (rv : Option Value ⊕ String) (σF : fs_S) (mc ms : Nat) : Array Value → State → Outcome → State → Prop := fun _ st o t =>
  (match rv with
    | .inl v => o = .returned v
    | .inr E => ∃ (q : Addr) (ce : Cell), o = .threw q ∧ t.heap[q]? = some ce ∧ ce.vm = .none ∧ st.vm.findClass E = some ce.cls) ∧
  fs_w X σF t.heap ∧ va_F (fs_A X) st t ∧ st.WarmedH t.vm ∧ ∃ L, st.sameButNew ({ t with vm := st.vm } : State) L mc ms ∧ ∀ q ∈ L, fs_A X q.base
abbrev fs_pre (X : fs_X) (av : List Value) (σ : fs_S) : Array Value → State → Prop := va_Pc av fun U => fs_w X σ U.heap ∧ fs_G X U
abbrev fs_rm (fr lo : Nat) (σ σF : fs_S) : Room := { frames := fr, cells := fs_n σF - fs_n σ, slots := fs_u σF - fs_u σ, locals := lo }
/-- a method's contract: cy is its row of code -/
def fs_Met (X : fs_X) (l : Launch) (y : MethodName) (cy : Cond) (fr lo : Nat) (av : List Value) (σ : fs_S) (rv : Option Value ⊕ String) (σF : fs_S) : Prop :=
  MetFree l y (headSpec (cy :: fs_ws) (fs_rm fr lo σ σF)) (fs_pre X av σ) (fun _ _ _ _ _ => True) (fs_End X rv σF (fs_n σF - fs_n σ) (fs_u σF - fs_u σ))
def fs_Q (X : fs_X) (below : List Frame) (args : Array Value) (s : State) (rv : Option Value ⊕ String) (σ0 σF : fs_S) : State → Prop := fun t =>
  ∃ o, t.status = .running ∧ Ended t below o ∧ fs_End X rv σF (fs_n σF - fs_n σ0) (fs_u σF - fs_u σ0) args s o t
/-- what a call that returns says -/
def fs_Qr (X : fs_X) (v : Option Value) (σF : fs_S) : Array Value → State → Outcome → State → Prop := fun _ st o t => o = .returned v ∧ fs_w X σF t.heap ∧ va_F (fs_A X) st t
theorem fs_Met.ret {X : fs_X} {l : Launch} {y : MethodName} {cy : Cond} {fr lo : Nat} {av : List Value} {σ σF : fs_S} {v : Option Value} (h : fs_Met X l y cy fr lo av σ (.inl v) σF) :
    Met l y (cy :: fs_ws) (fs_rm fr lo σ σF) (fs_pre X av σ) (fs_Qr X v σF) (fs_n σF - fs_n σ) (fs_u σF - fs_u σ) (fs_A X) := by
  intro p e ha hc hk s m args below h1 h2 h3 h4
  obtain ⟨n, o, g1, g2, g3, g4, g5, g6, g7, L, g8, g9⟩ := h p e ha hc hk s m args below h1 h2 h3 h4
  exact ⟨n, o, g1, g2, g3, ⟨g4, g5, g6⟩, L, ⟨⟨v, g4⟩, g7, g8⟩, g9⟩
theorem fs_blind {X : fs_X} {av : List Value} {σ : fs_S} : FrameBlind (fs_pre X av σ) := fun a U g mk q => by
  obtain ⟨q0, q1, q2⟩ := q
  exact ⟨q0, q1, fs_G.moved (u := U) (U := U.calling g mk a) (State.WarmedH.refl U) q2⟩
theorem fs_gd {cy : Cond} (h : cy ∈ fs_ws) : GoodIn fs_ws (cy :: fs_ws) := fun w q => by
  have hw : w ∈ fs_ws := (List.mem_cons.mp q).elim (fun e => by rw [e]; exact h) id
  exact ⟨hw, good_of_word (List.mem_filter.mp hw).2⟩
/-- a body's walk gives the contract -/
theorem fs_ofW {X : fs_X} {l : Launch} {y : MethodName} {cc : ByteArray} {maxL : Nat} {ret : Option FieldType} {fr lo : Nat} {av : List Value} {σ σF : fs_S} {rv : Option Value ⊕ String} (hy : plainName y.cls = true)
    (body : ∀ p e s m args below meth c s₁, BodyLoose p l y (headSpec (Cond.code y cc maxL ret :: fs_ws) (fs_rm fr lo σ σF)) cc maxL ret e s m args below meth c s₁ → c.maxLocals = maxL → (∀ x ∈ c.exceptionTable.toList, False) → fs_pre X av σ args s →
      W p l e (fs_rm fr lo σ σF) s m args below meth c s.heap [] 0 0 (fs_Q X below args s rv σ σF) (entryFrame m args maxL)) : fs_Met X l y (Cond.code y cc maxL ret) fr lo av σ rv σF := by
  refine MetFree.of_bodyS (code := cc) (maxLocals := maxL) (ret := ret) hy ?_ ?_
  · intro args s m h hn
    obtain ⟨meth, c, h1, h2, h3, h4, h5, h6, -, -⟩ := Cond.code_spec hn (atoms_spec (ws := Cond.code y cc maxL ret :: fs_ws) h _ List.mem_cons_self)
    exact ⟨meth, c, h1, h2, h3, h4, h5, h6⟩
  · intro p e s m args below meth c s₁ B hml hP _
    have hh0 : s₁.heap = s.heap := by rw [B.state]; rfl
    have ht : ∀ x ∈ c.exceptionTable.toList, False := by
      obtain ⟨meth9, c9, h1, h2, -, -, -, -, h7, -⟩ := Cond.code_spec B.named (atoms_spec (ws := Cond.code y cc maxL ret :: fs_ws) B.pre _ List.mem_cons_self)
      cases Option.some.inj (h1.symm.trans B.method)
      cases Option.some.inj (h2.symm.trans (Stand.of_body B).code)
      intro x hx
      rw [Array.isEmpty_iff.mp h7] at hx
      cases hx
    obtain ⟨t, a1, o, b1, b2, b3⟩ := body p e s m args below meth c s₁ B hml ht hP s₁ hh0 (Stand.of_body B)
    exact ⟨t, o, a1, b1, b2, b3⟩
/-- the walk at g goes as the program t says -/
def fs_J (X : fs_X) (p : Program) (l : Launch) (e : Env) (R : Room) (s : State) (m : MethodId) (args : Array Value) (below : List Frame) (meth : Method) (c : Code) (Q : State → Prop) {α : Type} (rF : α) (σ0 σF : fs_S) (t : fs_T α) (g : JFrame) : Prop :=
  ∀ (σ : fs_S) (H : Heap) (locs : List Loc) (cells slots : Nat), t.1 σ = some (rF, σF) → fs_w X σ H → va_S (fs_A X) s.heap H locs → fs_n σ0 + cells = fs_n σ → fs_u σ0 + slots = fs_u σ →
    W p l e R s m args below meth c H locs cells slots Q g
section FSJ
variable {X : fs_X} {p : Program} {l : Launch} {e : Env} {R : Room} {s : State} {m : MethodId} {args : Array Value} {below : List Frame} {meth : Method} {c : Code} {Q : State → Prop} {α β : Type} {rF : α} {σ0 σF : fs_S}
variable {cc : ByteArray} {nL : Nat} {own : String} {pc : Nat} {ls : Array Slot} {rest : List Value}
theorem fs_lift {t : fs_T α} {g g2 : JFrame} (h : ∀ (H : Heap) (locs : List Loc) (cells slots : Nat), W p l e R s m args below meth c H locs cells slots Q g2 → W p l e R s m args below meth c H locs cells slots Q g)
    (k : fs_J X p l e R s m args below meth c Q rF σ0 σF t g2) : fs_J X p l e R s m args below meth c Q rF σ0 σF t g := fun σ H locs cells slots h1 h2 h3 h4 h5 => h H locs cells slots (k σ H locs cells slots h1 h2 h3 h4 h5)
theorem fs_liftL {t : fs_T α} {g : JFrame} {P : Array Slot → Prop} {g2 : Array Slot → JFrame} (h : ∀ (H : Heap) (locs : List Loc) (cells slots : Nat), (∀ ls, P ls → W p l e R s m args below meth c H locs cells slots Q (g2 ls)) → W p l e R s m args below meth c H locs cells slots Q g)
    (k : ∀ ls, P ls → fs_J X p l e R s m args below meth c Q rF σ0 σF t (g2 ls)) : fs_J X p l e R s m args below meth c Q rF σ0 σF t g := fun σ H locs cells slots h1 h2 h3 h4 h5 => h H locs cells slots (fun ls q => k ls q σ H locs cells slots h1 h2 h3 h4 h5)
theorem fs_if {t1 t2 : fs_T α} {P : Prop} [Decidable P] {g g1 g2 : JFrame} (h : ∀ (H : Heap) (locs : List Loc) (cells slots : Nat), (P → W p l e R s m args below meth c H locs cells slots Q g1) → (¬ P → W p l e R s m args below meth c H locs cells slots Q g2) → W p l e R s m args below meth c H locs cells slots Q g)
    (k1 : fs_J X p l e R s m args below meth c Q rF σ0 σF t1 g1) (k2 : fs_J X p l e R s m args below meth c Q rF σ0 σF t2 g2) : fs_J X p l e R s m args below meth c Q rF σ0 σF (if P then t1 else t2) g := by
  intro σ H locs cells slots h1 h2 h3 h4 h5
  refine h H locs cells slots (fun q => k1 σ H locs cells slots ?_ h2 h3 h4 h5) (fun q => k2 σ H locs cells slots ?_ h2 h3 h4 h5)
  · rw [if_pos q] at h1; exact h1
  · rw [if_neg q] at h1; exact h1
theorem fs_ifn {t1 t2 : fs_T α} {P : Prop} [Decidable P] {g g1 g2 : JFrame} (h : ∀ (H : Heap) (locs : List Loc) (cells slots : Nat), (¬ P → W p l e R s m args below meth c H locs cells slots Q g2) → (P → W p l e R s m args below meth c H locs cells slots Q g1) → W p l e R s m args below meth c H locs cells slots Q g)
    (k1 : fs_J X p l e R s m args below meth c Q rF σ0 σF t1 g1) (k2 : fs_J X p l e R s m args below meth c Q rF σ0 σF t2 g2) : fs_J X p l e R s m args below meth c Q rF σ0 σF (if P then t1 else t2) g := by
  refine fs_if (fun H locs cells slots a b => h H locs cells slots b a) k1 k2
/-- both roads, from the same frame -/
theorem fs_sw {t1 t2 : fs_T α} {P : Prop} [Decidable P] {g : JFrame} (k1 : P → fs_J X p l e R s m args below meth c Q rF σ0 σF t1 g) (k2 : ¬ P → fs_J X p l e R s m args below meth c Q rF σ0 σF t2 g) : fs_J X p l e R s m args below meth c Q rF σ0 σF (if P then t1 else t2) g := by
  by_cases q : P
  · rw [if_pos q]; exact k1 q
  · rw [if_neg q]; exact k2 q
theorem fs_Jnm {A : Type} {x : A} {kk : A → fs_T α} {g : JFrame} (k : ∀ v, v = x → fs_J X p l e R s m args below meth c Q rF σ0 σF (kk v) g) : fs_J X p l e R s m args below meth c Q rF σ0 σF (fs_nm x kk) g := k x rfl
theorem fs_Jni {x : Int32} {kk : Int32 → fs_T α} (k : ∀ v, fs_J X p l e R s m args below meth c Q rF σ0 σF (kk v) (F0 m pc ls (.int v :: rest))) : fs_J X p l e R s m args below meth c Q rF σ0 σF (fs_nm x kk) (F0 m pc ls (.int x :: rest)) := k x
theorem fs_Jnj {x : Int64} {kk : Int64 → fs_T α} (k : ∀ v, fs_J X p l e R s m args below meth c Q rF σ0 σF (kk v) (F0 m pc ls (.long v :: rest))) : fs_J X p l e R s m args below meth c Q rF σ0 σF (fs_nm x kk) (F0 m pc ls (.long x :: rest)) := k x
/-- a join: its rest once, then the roads to it -/
theorem fs_Jlet {A : Type} {x : A} {kk : A → fs_T α} {g : JFrame} (k : fs_J X p l e R s m args below meth c Q rF σ0 σF (kk x) g) : fs_J X p l e R s m args below meth c Q rF σ0 σF (fs_let x kk) g := k
theorem fs_Jfail {g : JFrame} : fs_J X p l e R s m args below meth c Q rF σ0 σF fs_fail g := fun _ _ _ _ _ h => by cases h
/-- loops -/
theorem fs_Jlp1 {A : Type} {b : (A → fs_T α) → A → fs_T α} {I : A → List (Nat × Value)}
    (h : ∀ rec : A → fs_T α, (∀ x ls, lv_has ls nL (I x) → fs_J X p l e R s m args below meth c Q rF σ0 σF (rec x) (F0 m pc ls rest)) → ∀ x ls, lv_has ls nL (I x) → fs_J X p l e R s m args below meth c Q rF σ0 σF (b rec x) (F0 m pc ls rest)) :
    ∀ (n : Nat) (x : A) (ls : Array Slot), lv_has ls nL (I x) → fs_J X p l e R s m args below meth c Q rF σ0 σF (fs_lp1 n b x) (F0 m pc ls rest)
  | 0, _, _, _ => fs_Jfail
  | n + 1, x, ls, q => h _ (fs_Jlp1 h n) x ls q
theorem fs_Jlp2 {A B : Type} {b : (A → B → fs_T α) → A → B → fs_T α} {I : A → B → List (Nat × Value)}
    (h : ∀ rec : A → B → fs_T α, (∀ x y ls, lv_has ls nL (I x y) → fs_J X p l e R s m args below meth c Q rF σ0 σF (rec x y) (F0 m pc ls rest)) → ∀ x y ls, lv_has ls nL (I x y) → fs_J X p l e R s m args below meth c Q rF σ0 σF (b rec x y) (F0 m pc ls rest)) :
    ∀ (n : Nat) (x : A) (y : B) (ls : Array Slot), lv_has ls nL (I x y) → fs_J X p l e R s m args below meth c Q rF σ0 σF (fs_lp2 n b x y) (F0 m pc ls rest)
  | 0, _, _, _, _ => fs_Jfail
  | n + 1, x, y, ls, q => h _ (fs_Jlp2 h n) x y ls q
theorem fs_Jlp3 {A B C : Type} {b : (A → B → C → fs_T α) → A → B → C → fs_T α} {I : A → B → C → List (Nat × Value)}
    (h : ∀ rec : A → B → C → fs_T α, (∀ x y w ls, lv_has ls nL (I x y w) → fs_J X p l e R s m args below meth c Q rF σ0 σF (rec x y w) (F0 m pc ls rest)) → ∀ x y w ls, lv_has ls nL (I x y w) → fs_J X p l e R s m args below meth c Q rF σ0 σF (b rec x y w) (F0 m pc ls rest)) :
    ∀ (n : Nat) (x : A) (y : B) (w : C) (ls : Array Slot), lv_has ls nL (I x y w) → fs_J X p l e R s m args below meth c Q rF σ0 σF (fs_lp3 n b x y w) (F0 m pc ls rest)
  | 0, _, _, _, _, _ => fs_Jfail
  | n + 1, x, y, w, ls, q => h _ (fs_Jlp3 h n) x y w ls q
theorem fs_Jlp4 {A B C D : Type} {b : (A → B → C → D → fs_T α) → A → B → C → D → fs_T α} {I : A → B → C → D → List (Nat × Value)}
    (h : ∀ rec : A → B → C → D → fs_T α, (∀ x y w v ls, lv_has ls nL (I x y w v) → fs_J X p l e R s m args below meth c Q rF σ0 σF (rec x y w v) (F0 m pc ls rest)) → ∀ x y w v ls, lv_has ls nL (I x y w v) → fs_J X p l e R s m args below meth c Q rF σ0 σF (b rec x y w v) (F0 m pc ls rest)) :
    ∀ (n : Nat) (x : A) (y : B) (w : C) (v : D) (ls : Array Slot), lv_has ls nL (I x y w v) → fs_J X p l e R s m args below meth c Q rF σ0 σF (fs_lp4 n b x y w v) (F0 m pc ls rest)
  | 0, _, _, _, _, _, _ => fs_Jfail
  | n + 1, x, y, w, v, ls, q => h _ (fs_Jlp4 h n) x y w v ls q
end FSJ
end
section
/-! instructions that read or write the heap, as rows of fs_J -/
theorem fs_bdT {α β : Type} {x : fs_T α} {k : α → fs_T β} {σ : fs_S} {r : β × fs_S} (h : (fs_bind x k).1 σ = some r) : ∃ v σ1, x.1 σ = some (v, σ1) ∧ (k v).1 σ1 = some r := by
  have h : (x.1 σ).bind (fun q => (k q.1).1 q.2) = some r := h
  obtain ⟨⟨v, σ1⟩, h1, h2⟩ := fs_bd h
  exact ⟨v, σ1, h1, h2⟩
theorem fs_rd_ok {α : Type} {a : Nat} {g : fs_E → Option α} {σ σ1 : fs_S} {v : α} (h : (fs_rd a g).1 σ = some (v, σ1)) : ∃ e, fs_lk σ a = some e ∧ g e = some v ∧ σ1 = σ := by
  have h : ((fs_lk σ a).bind g).map (fun v => (v, σ)) = some (v, σ1) := h
  cases h1 : fs_lk σ a with
  | none => rw [h1] at h; cases h
  | some e =>
    rw [h1] at h
    have h : (g e).map (fun v => (v, σ)) = some (v, σ1) := h
    cases h2 : g e with
    | none => rw [h2] at h; cases h
    | some w => rw [h2] at h; cases h; exact ⟨e, rfl, h2, rfl⟩
theorem fs_wr_ok {a : Nat} {g : fs_E → Option fs_E} {σ σ1 : fs_S} {u : Unit} (h : (fs_wr a g).1 σ = some (u, σ1)) : ∃ e e1, fs_m σ a = some e ∧ g e = some e1 ∧ σ1 = (fs_up (fs_m σ) a e1, σ.2) := by
  have h : ((fs_m σ a).bind g).map (fun e => ((), (fs_up (fs_m σ) a e, σ.2))) = some (u, σ1) := h
  cases h1 : fs_m σ a with
  | none => rw [h1] at h; cases h
  | some e =>
    rw [h1] at h
    have h : (g e).map (fun e => ((), (fs_up (fs_m σ) a e, σ.2))) = some (u, σ1) := h
    cases h2 : g e with
    | none => rw [h2] at h; cases h
    | some w => rw [h2] at h; cases h; exact ⟨e, w, rfl, h2, rfl⟩
theorem fs_fI_ok {ci k : Nat} {e : fs_E} {v : Int32} (h : fs_fI ci k e = some v) : ∃ fs, e = .inr (ci, fs) ∧ fs[k]? = some (.int v) := by
  unfold fs_fI at h
  split at h
  · rename_i c fs
    split at h
    · rename_i hc
      subst hc
      split at h
      · rename_i w hw
        cases h
        exact ⟨fs, rfl, hw⟩
      · cases h
    · cases h
  · cases h
theorem fs_fJ_ok {ci k : Nat} {e : fs_E} {v : Int64} (h : fs_fJ ci k e = some v) : ∃ fs, e = .inr (ci, fs) ∧ fs[k]? = some (.long v) := by
  unfold fs_fJ at h
  split at h
  · rename_i c fs
    split at h
    · rename_i hc
      subst hc
      split at h
      · rename_i w hw
        cases h
        exact ⟨fs, rfl, hw⟩
      · cases h
    · cases h
  · cases h
theorem fs_fR_ok {ci k : Nat} {e : fs_E} {v : Nat} (h : fs_fR ci k e = some v) : ∃ fs, e = .inr (ci, fs) ∧ fs[k]? = some (.ref v) := by
  unfold fs_fR at h
  split at h
  · rename_i c fs
    split at h
    · rename_i hc
      subst hc
      split at h
      · rename_i w hw
        cases h
        exact ⟨fs, rfl, hw⟩
      · cases h
    · cases h
  · cases h
theorem fs_fP_ok {ci k : Nat} {v : Value} {e e1 : fs_E} (h : fs_fP ci k v e = some e1) : ∃ fs, e = .inr (ci, fs) ∧ k < fs.length ∧ e1 = .inr (ci, fs.set k v) := by
  unfold fs_fP at h
  split at h
  · rename_i c fs
    split at h
    · rename_i hc
      obtain ⟨hc, hk⟩ := hc
      subst hc
      cases h
      exact ⟨fs, rfl, hk, rfl⟩
    · cases h
  · cases h
theorem fs_xI_ok {t : Nat} {i : Int32} {e : fs_E} {v : Int32} (h : fs_xI t i e = some v) : ∃ n f, e = .inl (t, n, .inl f) ∧ vp_in i n ∧ v = f i.toNatClampNeg := by
  unfold fs_xI at h
  split at h
  · rename_i u n f
    split at h
    · rename_i hc
      obtain ⟨hc, hk⟩ := hc
      subst hc
      cases h
      exact ⟨n, f, rfl, hk, rfl⟩
    · cases h
  · cases h
theorem fs_xJ_ok {t : Nat} {i : Int32} {e : fs_E} {v : Int64} (h : fs_xJ t i e = some v) : ∃ n f, e = .inl (t, n, .inr (.inl f)) ∧ vp_in i n ∧ v = f i.toNatClampNeg := by
  unfold fs_xJ at h
  split at h
  · rename_i u n f
    split at h
    · rename_i hc
      obtain ⟨hc, hk⟩ := hc
      subst hc
      cases h
      exact ⟨n, f, rfl, hk, rfl⟩
    · cases h
  · cases h
theorem fs_yI_ok {t : Nat} {i v : Int32} {e e1 : fs_E} (h : fs_yI t i v e = some e1) : ∃ n f, e = .inl (t, n, .inl f) ∧ vp_in i n ∧ e1 = .inl (t, n, .inl (upd f i.toNatClampNeg v)) := by
  unfold fs_yI at h
  split at h
  · rename_i u n f
    split at h
    · rename_i hc
      obtain ⟨hc, hk⟩ := hc
      subst hc
      cases h
      exact ⟨n, f, rfl, hk, rfl⟩
    · cases h
  · cases h
theorem fs_yJ_ok {t : Nat} {i : Int32} {v : Int64} {e e1 : fs_E} (h : fs_yJ t i v e = some e1) : ∃ n f, e = .inl (t, n, .inr (.inl f)) ∧ vp_in i n ∧ e1 = .inl (t, n, .inr (.inl (vp_updL f i.toNatClampNeg v))) := by
  unfold fs_yJ at h
  split at h
  · rename_i u n f
    split at h
    · rename_i hc
      obtain ⟨hc, hk⟩ := hc
      subst hc
      cases h
      exact ⟨n, f, rfl, hk, rfl⟩
    · cases h
  · cases h
theorem fs_one {D : va_G} {cl : List vw_C} {q : Nat × va_E} {H : Heap} (h : va_at D cl q H) : va_P D cl [q] H := fun k x hx => by
  have hz : k < 1 := (List.getElem?_eq_some_iff.mp hx).1
  rw [show k = 0 by omega] at hx
  cases hx
  exact h
theorem fs_xR_ok {i : Int32} {e : fs_E} {v : Nat} (h : fs_xR i e = some v) : ∃ t n f, e = .inl (t, n, .inr (.inr (.inr (.inr f)))) ∧ vp_in i n ∧ f i.toNatClampNeg = some v := by
  unfold fs_xR at h
  split at h
  · rename_i t n f
    split at h
    · rename_i hk
      exact ⟨t, n, f, rfl, hk, h⟩
    · cases h
  · cases h
theorem fs_y0_ok {i : Int32} {e e1 : fs_E} (h : fs_y0 i e = some e1) : ∃ t n f, e = .inl (t, n, .inr (.inr (.inr (.inr f)))) ∧ vp_in i n ∧ e1 = .inl (t, n, .inr (.inr (.inr (.inr (va_up f i.toNatClampNeg none))))) := by
  unfold fs_y0 at h
  split at h
  · rename_i t n f
    split at h
    · rename_i hk
      cases h
      exact ⟨t, n, f, rfl, hk, rfl⟩
    · cases h
  · cases h
theorem fs_yC_ok {i : Int32} {c v : Nat} {e e1 : fs_E} (h : fs_yC i c v e = some e1) : ∃ t n f, e = .inl (t, n, .inr (.inr (.inr (.inr f)))) ∧ (t = 3 ∨ t = 4 ∧ c = 3) ∧ vp_in i n ∧ e1 = .inl (t, n, .inr (.inr (.inr (.inr (va_up f i.toNatClampNeg (some v)))))) := by
  unfold fs_yC at h
  split at h
  · rename_i t n f
    split at h
    · rename_i hk
      obtain ⟨hk1, hk2⟩ := hk
      cases h
      exact ⟨t, n, f, rfl, hk1, hk2, rfl⟩
    · cases h
  · cases h
theorem fs_oc_ok {e : fs_E} {c : Nat} (h : fs_oc e = some c) : ∃ fs, e = .inr (c, fs) := by
  unfold fs_oc at h
  split at h
  · cases h; exact ⟨_, rfl⟩
  · cases h
theorem fs_xL_ok {e : fs_E} {v : Int32} (h : fs_xL e = some v) : ∃ t x, e = .inl (t, x) ∧ t < 5 ∧ Int32.ofNat x.1 = v := by
  unfold fs_xL at h
  split at h
  · rename_i t n q
    split at h
    · rename_i ht
      cases h
      exact ⟨t, (n, q), rfl, ht, rfl⟩
    · cases h
  · cases h
theorem fs_ck_ok {a ci : Nat} {σ σ1 : fs_S} {u : Unit} (h : (fs_ck a ci).1 σ = some (u, σ1)) : ∃ fs, fs_lk σ a = some (.inr (ci, fs)) ∧ σ1 = σ := by
  obtain ⟨e, e1, e2, e3⟩ := fs_rd_ok h
  split at e2
  · rename_i c fs
    split at e2
    · rename_i hc
      subst hc
      exact ⟨fs, e1, e3⟩
    · cases e2
  · cases e2
/-- behind a store -/
theorem fs_put {X : fs_X} {s : State} {H H1 : Heap} {locs : List Loc} {a i : Nat} (hS : va_S (fs_A X) s.heap H locs) (z : H1.size = H.size) (oq : ∀ q : Nat, q ≠ a → H1[q]? = H[q]?) (ha : fs_z X ≤ a) : va_S (fs_A X) s.heap H1 (locs ++ [⟨a, i⟩]) := hS.put z oq ha
/-- behind a new cell -/
theorem fs_new {X : fs_X} {s : State} {H H1 : Heap} {locs : List Loc} (hS : va_S (fs_A X) s.heap H locs) (z : H1.size = H.size + 1) (oq : ∀ q : Nat, q < H.size → H1[q]? = H[q]?) : va_S (fs_A X) s.heap H1 locs :=
  ⟨Nat.le_trans hS.1 (by omega), fun q h1 h2 => (oq q (Nat.lt_of_lt_of_le h1 hS.1)).trans (hS.2.1 q h1 h2), hS.2.2⟩
section FSH
variable {X : fs_X} {p : Program} {l : Launch} {e : Env} {R : Room} {s : State} {m : MethodId} {args : Array Value} {below : List Frame} {meth : Method} {c : Code} {Q : State → Prop} {α β : Type} {rF : α} {σ0 σF : fs_S}
variable {cc : ByteArray} {nL : Nat} {own ref C : String} {T : u_T} {N ci index a pc : Nat} {Ts : List Cond} {ls : Array Slot} {rest : List Value}
theorem fs_Jgi (S : CallFix p m c cc nL s args fs_ws own) (hG : fs_G X s) (hin : ∀ w ∈ u_ws C T N, w ∈ fs_ws) (hc : fs_cl[ci]? = some (C, T, N)) (k : Nat) (hk : k < N) (hlink : Cond.fieldLink own index ref (T k).2.1 (T k).2.2.1 ∈ fs_ws) (hsame : ∀ x, s.fieldFound? (T k).1 (T k).2.1 (T k).2.2.1 = some x → s.fieldFound? ref (T k).2.1 (T k).2.2.1 = some x) (hdg : decode cc pc = .ok (.getfield index, 3))
    {kk : Int32 → fs_T α} (K : ∀ v, fs_J X p l e R s m args below meth c Q rF σ0 σF (kk v) (F0 m (pc + 3) ls (.int v :: rest))) : fs_J X p l e R s m args below meth c Q rF σ0 σF (fs_bind (fs_gi a ci k) kk) (F0 m pc ls (.ref a :: rest)) := by
  intro σ H locs cells slots h hw hS h4 h5
  obtain ⟨v, σ1, h1, h2⟩ := fs_bdT h
  obtain ⟨e, e1, e2, rfl⟩ := fs_rd_ok h1
  obtain ⟨fs, rfl, e3⟩ := fs_fI_ok e2
  exact va_get (ws := [(a, .inr (ci, fs))]) S.1 S.2.1 S.2.2.2.2 hin S.2.2.2.1 hG.2.2 (fs_one (hw.lk e1)) 0 rfl hc k hk (S.2.2.2.2 _ hlink) hsame e3 hdg (K v _ H locs cells slots h2 hw hS h4 h5)
theorem fs_Jgj (S : CallFix p m c cc nL s args fs_ws own) (hG : fs_G X s) (hin : ∀ w ∈ u_ws C T N, w ∈ fs_ws) (hc : fs_cl[ci]? = some (C, T, N)) (k : Nat) (hk : k < N) (hlink : Cond.fieldLink own index ref (T k).2.1 (T k).2.2.1 ∈ fs_ws) (hsame : ∀ x, s.fieldFound? (T k).1 (T k).2.1 (T k).2.2.1 = some x → s.fieldFound? ref (T k).2.1 (T k).2.2.1 = some x) (hdg : decode cc pc = .ok (.getfield index, 3))
    {kk : Int64 → fs_T α} (K : ∀ v, fs_J X p l e R s m args below meth c Q rF σ0 σF (kk v) (F0 m (pc + 3) ls (.long v :: rest))) : fs_J X p l e R s m args below meth c Q rF σ0 σF (fs_bind (fs_gj a ci k) kk) (F0 m pc ls (.ref a :: rest)) := by
  intro σ H locs cells slots h hw hS h4 h5
  obtain ⟨v, σ1, h1, h2⟩ := fs_bdT h
  obtain ⟨e, e1, e2, rfl⟩ := fs_rd_ok h1
  obtain ⟨fs, rfl, e3⟩ := fs_fJ_ok e2
  exact va_get (ws := [(a, .inr (ci, fs))]) S.1 S.2.1 S.2.2.2.2 hin S.2.2.2.1 hG.2.2 (fs_one (hw.lk e1)) 0 rfl hc k hk (S.2.2.2.2 _ hlink) hsame e3 hdg (K v _ H locs cells slots h2 hw hS h4 h5)
theorem fs_Jgr (S : CallFix p m c cc nL s args fs_ws own) (hG : fs_G X s) (hin : ∀ w ∈ u_ws C T N, w ∈ fs_ws) (hc : fs_cl[ci]? = some (C, T, N)) (k : Nat) (hk : k < N) (hlink : Cond.fieldLink own index ref (T k).2.1 (T k).2.2.1 ∈ fs_ws) (hsame : ∀ x, s.fieldFound? (T k).1 (T k).2.1 (T k).2.2.1 = some x → s.fieldFound? ref (T k).2.1 (T k).2.2.1 = some x) (hdg : decode cc pc = .ok (.getfield index, 3))
    {kk : Nat → fs_T α} (K : ∀ v, fs_J X p l e R s m args below meth c Q rF σ0 σF (kk v) (F0 m (pc + 3) ls (.ref v :: rest))) : fs_J X p l e R s m args below meth c Q rF σ0 σF (fs_bind (fs_gr a ci k) kk) (F0 m pc ls (.ref a :: rest)) := by
  intro σ H locs cells slots h hw hS h4 h5
  obtain ⟨v, σ1, h1, h2⟩ := fs_bdT h
  obtain ⟨e, e1, e2, rfl⟩ := fs_rd_ok h1
  obtain ⟨fs, rfl, e3⟩ := fs_fR_ok e2
  exact va_get (ws := [(a, .inr (ci, fs))]) S.1 S.2.1 S.2.2.2.2 hin S.2.2.2.1 hG.2.2 (fs_one (hw.lk e1)) 0 rfl hc k hk (S.2.2.2.2 _ hlink) hsame e3 hdg (K v _ H locs cells slots h2 hw hS h4 h5)
theorem fs_Jput (S : CallFix p m c cc nL s args fs_ws own) (hG : fs_G X s) (hin : ∀ w ∈ u_ws C T N, w ∈ fs_ws) (hc : fs_cl[ci]? = some (C, T, N)) (k : Nat) (hk : k < N) (hlink : Cond.fieldLink own index ref (T k).2.1 (T k).2.2.1 ∈ fs_ws) (hsame : ∀ x, s.fieldFound? (T k).1 (T k).2.1 (T k).2.2.1 = some x → s.fieldFound? ref (T k).2.1 (T k).2.2.1 = some x) (ty0 : Nat → FieldType) (hty : ∀ k, k < N → parseFieldDescriptor (T k).2.2.1 = some (ty0 k)) (hnm : ∀ a, a < N → ∀ b, b < N → a ≠ b → (T a).2.1 ≠ (T b).2.1)
    (hfin : (T k).2.2.2 = false ∨ (T k).2.2.2 = true ∧ meth.name = "<init>" ∧ (T k).1 = own) {v : Value} (hn : narrow (ty0 k) v = v) (hfit : fits (ty0 k) v = true) (hdg : decode cc pc = .ok (.putfield index, 3))
    {kk : Unit → fs_T α} (K : fs_J X p l e R s m args below meth c Q rF σ0 σF (kk ()) (F0 m (pc + 3) ls rest)) : fs_J X p l e R s m args below meth c Q rF σ0 σF (fs_bind (fs_wr a (fs_fP ci k v)) kk) (F0 m pc ls (v :: .ref a :: rest)) := by
  intro σ H locs cells slots h hw hS h4 h5
  obtain ⟨u, σ1, h1, h2⟩ := fs_bdT h
  obtain ⟨e, e1, q1, q2, rfl⟩ := fs_wr_ok h1
  obtain ⟨fs, rfl, hl, rfl⟩ := fs_fP_ok q2
  have hz := (hw.2.2.2.1 a _ q1).1
  have hK := hG.2.2
  have hts := S.2.2.2.2
  have hown := S.2.2.2.1
  have hap := va_apart (own := own) hts hin ty0 hty hnm hK hc
  obtain ⟨r, h1', cell, g1, g2, g3, g4⟩ := (hw.2.2.2.1 a _ q1).2
  have hr : r = (C, T, N) := Option.some.inj (h1'.symm.trans hc)
  subst hr
  obtain ⟨hSl, hfc, kC, hkC, hkind⟩ := hK.1 ci _ hc
  obtain ⟨cf, kf, fi, f, hi, hsl⟩ := hSl k hk
  have hlay := hts _ (hin _ (u_in_lay hk))
  have hst := (u_facts hfc hkC (u_lays hts hin hk) hi).1
  have fin : ∀ H1 : Heap, H1[a]? = some (cell.setSlot f.slot v) → H1.size = H.size → (∀ q, q ≠ a → H1[q]? = H[q]?) → W p l e R s m args below meth c H1 (locs ++ [⟨a, f.slot⟩]) cells slots Q (F0 m (pc + 3) ls rest) := by
    intro H1 e1 e2 e3
    rw [hsl] at e1
    exact K _ H1 _ cells slots h2 (hw.set q1 ⟨_, hc, t_OB.to (V := updV (vp_V fs) k v) ⟨_, e1, g2, g3, t_set g4 hap hk v⟩ (fun j _ => vp_updV_set hl v j)⟩ e2 e3) (fs_put hS e2 e3 hz) h4 h5
  unfold u_lay at hlay
  rcases hfin with hfin | ⟨hfin, hin2, hdecl⟩
  · rw [if_neg (by rw [hfin]; decide)] at hlay
    have h6 := u_store hfc hkC hkind hlay hi (hty k hk) hn hfit
    exact W.putK S.1 S.2.1 (f := f) ⟨hown, hts _ hlink, ⟨_, _, _, hsame _ hi⟩, hst⟩ (by rw [g2]; exact h6) g1 g3 (by rw [hsl]; exact k2_hasslot (g4 k hk)) rfl rfl hdg fin
  · rw [if_pos hfin] at hlay
    have hcf : m.cls = cf := by
      obtain ⟨_, _, c', _, _, _, -, -, hf', -, -, -, hown2, -⟩ := Cond.laysFinal_spec hlay
      have e1 : c' = cf := by have := hi.symm.trans hf'; simp at this; exact this.1.symm
      rw [hdecl] at hown2
      rw [← e1]; exact Option.some.inj (hown.symm.trans hown2)
    have h6 := u_fits hfc hkC hkind (Or.inr hlay) hi (hty k hk) hn hfit
    exact W.putFinK S.1 S.2.1 hown (hts _ hlink) (hsame _ hi) hst hcf hin2 (by rw [g2]; exact h6) g1 g3 (by rw [hsl]; exact k2_hasslot (g4 k hk)) rfl rfl hdg fin
/-- a store that fails unless its value is a boolean -/
theorem fs_Jpz {x : fs_T Unit} {v : Int32} {kk : Unit → fs_T α} {g : JFrame} (K : v = 0 ∨ v = 1 → fs_J X p l e R s m args below meth c Q rF σ0 σF (fs_bind x kk) g) : fs_J X p l e R s m args below meth c Q rF σ0 σF (fs_bind (if v = 0 ∨ v = 1 then x else fs_fail) kk) g := by
  intro σ H locs cells slots h hw hS h4 h5
  by_cases q : v = 0 ∨ v = 1
  · rw [if_pos q] at h
    exact K q σ H locs cells slots h hw hS h4 h5
  · rw [if_neg q] at h
    cases h
theorem fs_nar {v : Int32} (h : v = 0 ∨ v = 1) : narrow .boolean (.int v) = .int v := by
  rcases h with rfl | rfl <;> decide
theorem fs_Jai (S : CallFix p m c cc nL s args fs_ws own) (hG : fs_G X s) {i : Int32} (hdg : decode cc pc = .ok (.iaload, 1))
    {kk : Int32 → fs_T α} (K : ∀ v, fs_J X p l e R s m args below meth c Q rF σ0 σF (kk v) (F0 m (pc + 1) ls (.int v :: rest))) : fs_J X p l e R s m args below meth c Q rF σ0 σF (fs_bind (fs_ai a i) kk) (F0 m pc ls (.int i :: .ref a :: rest)) := by
  intro σ H locs cells slots h hw hS h4 h5
  obtain ⟨v, σ1, h1, h2⟩ := fs_bdT h
  obtain ⟨e, e1, e2, rfl⟩ := fs_rd_ok h1
  obtain ⟨n, f, rfl, e3, rfl⟩ := fs_xI_ok e2
  exact va_iald (ws := [(a, .inl (fs_ta X 0, n, .inl f))]) S.1 S.2.1 hG.2.2 (fs_one (hw.lk e1)) 0 0 rfl rfl e3 hdg (K _ _ H locs cells slots h2 hw hS h4 h5)
theorem fs_Jaz (S : CallFix p m c cc nL s args fs_ws own) (hG : fs_G X s) {i : Int32} (hdg : decode cc pc = .ok (.baload, 1))
    {kk : Int32 → fs_T α} (K : ∀ v, fs_J X p l e R s m args below meth c Q rF σ0 σF (kk v) (F0 m (pc + 1) ls (.int v :: rest))) : fs_J X p l e R s m args below meth c Q rF σ0 σF (fs_bind (fs_az a i) kk) (F0 m pc ls (.int i :: .ref a :: rest)) := by
  intro σ H locs cells slots h hw hS h4 h5
  obtain ⟨v, σ1, h1, h2⟩ := fs_bdT h
  obtain ⟨e, e1, e2, rfl⟩ := fs_rd_ok h1
  obtain ⟨n, f, rfl, e3, rfl⟩ := fs_xI_ok e2
  exact va_zald (ws := [(a, .inl (fs_ta X 2, n, .inl f))]) S.1 S.2.1 hG.2.2 (fs_one (hw.lk e1)) 0 2 rfl rfl e3 hdg (K _ _ H locs cells slots h2 hw hS h4 h5)
theorem fs_Jaj (S : CallFix p m c cc nL s args fs_ws own) (hG : fs_G X s) {i : Int32} (hdg : decode cc pc = .ok (.laload, 1))
    {kk : Int64 → fs_T α} (K : ∀ v, fs_J X p l e R s m args below meth c Q rF σ0 σF (kk v) (F0 m (pc + 1) ls (.long v :: rest))) : fs_J X p l e R s m args below meth c Q rF σ0 σF (fs_bind (fs_aj a i) kk) (F0 m pc ls (.int i :: .ref a :: rest)) := by
  intro σ H locs cells slots h hw hS h4 h5
  obtain ⟨v, σ1, h1, h2⟩ := fs_bdT h
  obtain ⟨e, e1, e2, rfl⟩ := fs_rd_ok h1
  obtain ⟨n, f, rfl, e3, rfl⟩ := fs_xJ_ok e2
  exact va_lald (ws := [(a, .inl (fs_ta X 1, n, .inr (.inl f)))]) S.1 S.2.1 hG.2.2 (fs_one (hw.lk e1)) 0 1 rfl rfl e3 hdg (K _ _ H locs cells slots h2 hw hS h4 h5)
theorem fs_tyR {X : fs_X} {U : State} (h : va_K (fs_D X) fs_cl (fs_tys X) U) {t : Nat} (ht : t = 3 ∨ t = 4) : ∃ (C : String) (k : Nat), (fs_tys X)[k]? = some (fs_ta X t, FieldType.object C) := by
  rcases ht with rfl | rfl
  · exact ⟨_, 3, rfl⟩
  · exact ⟨_, 4, rfl⟩
theorem fs_Jsi (S : CallFix p m c cc nL s args fs_ws own) (hG : fs_G X s) {i : Int32} {v : Int32} (hdg : decode cc pc = .ok (.iastore, 1))
    {kk : Unit → fs_T α} (K : fs_J X p l e R s m args below meth c Q rF σ0 σF (kk ()) (F0 m (pc + 1) ls rest)) : fs_J X p l e R s m args below meth c Q rF σ0 σF (fs_bind (fs_si a i v) kk) (F0 m pc ls (.int v :: .int i :: .ref a :: rest)) := by
  intro σ H locs cells slots h hw hS h4 h5
  obtain ⟨u, σ1, h1, h2⟩ := fs_bdT h
  obtain ⟨e, e1, q1, q2, rfl⟩ := fs_wr_ok h1
  obtain ⟨n, f, rfl, hin, rfl⟩ := fs_yI_ok q2
  have hz := (hw.2.2.2.1 a _ q1).1
  refine W.iast S.1 S.2.1 (hw.2.2.2.1 a _ q1).2 ((hG.2.2.2 0 _ rfl).1 n (fun j => .int (f j))) (fun q => by cases q) (by show ¬ (i < 0 ∨ (arrV _ _ _).slots.size ≤ _); rw [arrV_size]; exact hin) rfl rfl hdg fun H1 e z oq => ?_
  refine K _ H1 _ cells slots h2 (hw.set q1 ?_ z oq) (fs_put hS z oq hz) h4 h5
  show H1[a]? = some (vp_cell _ _)
  rw [e]
  show some (Cell.setSlot (vp_cell _ (n, _)) _ _) = _
  rw [vp_cell_i, vp_cell_i, arrV_store]
  congr 2
  funext q
  by_cases hq : q = i.toNatClampNeg
  · subst hq
    simp [updV, upd]
  · simp [updV, upd, hq]
theorem fs_Jsj (S : CallFix p m c cc nL s args fs_ws own) (hG : fs_G X s) {i : Int32} {v : Int64} (hdg : decode cc pc = .ok (.lastore, 1))
    {kk : Unit → fs_T α} (K : fs_J X p l e R s m args below meth c Q rF σ0 σF (kk ()) (F0 m (pc + 1) ls rest)) : fs_J X p l e R s m args below meth c Q rF σ0 σF (fs_bind (fs_sj a i v) kk) (F0 m pc ls (.long v :: .int i :: .ref a :: rest)) := by
  intro σ H locs cells slots h hw hS h4 h5
  obtain ⟨u, σ1, h1, h2⟩ := fs_bdT h
  obtain ⟨e, e1, q1, q2, rfl⟩ := fs_wr_ok h1
  obtain ⟨n, f, rfl, hin, rfl⟩ := fs_yJ_ok q2
  have hz := (hw.2.2.2.1 a _ q1).1
  refine W.last S.1 S.2.1 (hw.2.2.2.1 a _ q1).2 ((hG.2.2.2 1 _ rfl).1 n (fun j => .long (f j))) (fun q => by cases q) (by show ¬ (i < 0 ∨ (arrV _ _ _).slots.size ≤ _); rw [arrV_size]; exact hin) rfl rfl hdg fun H1 e z oq => ?_
  refine K _ H1 _ cells slots h2 (hw.set q1 ?_ z oq) (fs_put hS z oq hz) h4 h5
  show H1[a]? = some (vp_cell _ _)
  rw [e]
  show some (Cell.setSlot (vp_cell _ (n, _)) _ _) = _
  rw [vp_cell_l, vp_cell_l, arrV_store]
  congr 2
  funext q
  by_cases hq : q = i.toNatClampNeg
  · subst hq
    simp [updV, vp_updL]
  · simp [updV, vp_updL, hq]
theorem fs_Jsz (S : CallFix p m c cc nL s args fs_ws own) (hG : fs_G X s) {i : Int32} {v : Int32} (hdg : decode cc pc = .ok (.bastore, 1))
    {kk : Unit → fs_T α} (K : fs_J X p l e R s m args below meth c Q rF σ0 σF (kk ()) (F0 m (pc + 1) ls rest)) : fs_J X p l e R s m args below meth c Q rF σ0 σF (fs_bind (fs_sz a i v) kk) (F0 m pc ls (.int v :: .int i :: .ref a :: rest)) := by
  refine fs_Jpz fun hv => ?_
  intro σ H locs cells slots h hw hS h4 h5
  obtain ⟨u, σ1, h1, h2⟩ := fs_bdT h
  obtain ⟨e, e1, q1, q2, rfl⟩ := fs_wr_ok h1
  obtain ⟨n, f, rfl, hin, rfl⟩ := fs_yI_ok q2
  have hz := (hw.2.2.2.1 a _ q1).1
  refine W.zast S.1 S.2.1 (hw.2.2.2.1 a _ q1).2 ((hG.2.2.2 2 _ rfl).1 n (fun j => .int (f j))) (fun q => by cases q) (by show ¬ (i < 0 ∨ (arrV _ _ _).slots.size ≤ _); rw [arrV_size]; exact hin) rfl rfl hdg fun H1 e z oq => ?_
  refine K _ H1 _ cells slots h2 (hw.set q1 ?_ z oq) (fs_put hS z oq hz) h4 h5
  show H1[a]? = some (vp_cell _ _)
  rw [e, fs_nar hv]
  show some (Cell.setSlot (vp_cell _ (n, _)) _ _) = _
  rw [vp_cell_i, vp_cell_i, arrV_store]
  congr 2
  funext q
  by_cases hq : q = i.toNatClampNeg
  · subst hq
    simp [updV, upd]
  · simp [updV, upd, hq]
theorem fs_Jal (S : CallFix p m c cc nL s args fs_ws own) (hG : fs_G X s) (hdg : decode cc pc = .ok (.arraylength, 1))
    {kk : Int32 → fs_T α} (K : ∀ v, fs_J X p l e R s m args below meth c Q rF σ0 σF (kk v) (F0 m (pc + 1) ls (.int v :: rest))) : fs_J X p l e R s m args below meth c Q rF σ0 σF (fs_bind (fs_al a) kk) (F0 m pc ls (.ref a :: rest)) := by
  intro σ H locs cells slots h hw hS h4 h5
  obtain ⟨v, σ1, h1, h2⟩ := fs_bdT h
  obtain ⟨e, e1, e2, rfl⟩ := fs_rd_ok h1
  obtain ⟨t, x, rfl, ht, rfl⟩ := fs_xL_ok e2
  have hk : ∃ (ty : FieldType) (k : Nat), (fs_tys X)[k]? = some (fs_ta X t, ty) := by
    match t, ht with
    | 0, _ => exact ⟨_, 0, rfl⟩
    | 1, _ => exact ⟨_, 1, rfl⟩
    | 2, _ => exact ⟨_, 2, rfl⟩
    | 3, _ => exact ⟨_, 3, rfl⟩
    | 4, _ => exact ⟨_, 4, rfl⟩
    | n + 5, h => exact absurd h (by omega)
  obtain ⟨ty, k, hk⟩ := hk
  exact va_alen (ws := [(a, .inl (fs_ta X t, x))]) S.1 S.2.1 hG.2.2 (fs_one (hw.lk e1)) 0 k rfl hk rfl hdg (K _ _ H locs cells slots h2 hw hS h4 h5)
theorem fs_Jck (S : CallFix p m c cc nL s args fs_ws own) (hG : fs_G X s) (hc : fs_cl[ci]? = some (C, T, N)) (hlink : Cond.classLink own index C ∈ fs_ws) (hcast : Cond.castable C C ∈ lw_tbl) (hdg : decode cc pc = .ok (.checkcast index, 3))
    {kk : Unit → fs_T α} (K : fs_J X p l e R s m args below meth c Q rF σ0 σF (kk ()) (F0 m (pc + 3) ls (.ref a :: rest))) : fs_J X p l e R s m args below meth c Q rF σ0 σF (fs_bind (fs_ck a ci) kk) (F0 m pc ls (.ref a :: rest)) := by
  intro σ H locs cells slots h hw hS h4 h5
  obtain ⟨v, σ1, h1, h2⟩ := fs_bdT h
  obtain ⟨fs, e1, rfl⟩ := fs_ck_ok h1
  exact va_castY S.1 S.2.1 S.2.2.2.1 (S.2.2.2.2 _ hlink) (hG.castable hcast) (va_recv (ws := [(a, .inr (ci, fs))]) hG.2.2 (fs_one (hw.lk e1)) hc (q0 := 0) rfl) hdg (K _ H locs cells slots h2 hw hS h4 h5)
theorem fs_Jnw (S : CallFix p m c cc nL s args fs_ws own) (hG : fs_G X s) (hR : fs_n σF ≤ fs_n σ0 + R.cells ∧ fs_u σF ≤ fs_u σ0 + R.slots) (hin : ∀ w ∈ u_ws C T N, w ∈ fs_ws) (hc : fs_cl[ci]? = some (C, T, N)) (ty0 : Nat → FieldType) (hty : ∀ k, k < N → parseFieldDescriptor (T k).2.2.1 = some (ty0 k)) {ds : List Value} (hds : ∀ j, j < N → defaultValue (ty0 j) = vp_V ds j) (hlen : ds.length = N)
    (hlink : Cond.classLink own index C ∈ fs_ws) (hinst : Cond.instantiable C N ∈ fs_ws) (hini : Cond.initialized C ∈ fs_ws) (hdg : decode cc pc = .ok (.new index, 3))
    {kk : Nat → fs_T α} (K : ∀ v, fs_J X p l e R s m args below meth c Q rF σ0 σF (kk v) (F0 m (pc + 3) ls (.ref v :: rest))) : fs_J X p l e R s m args below meth c Q rF σ0 σF (fs_bind (fs_nw ci ds) kk) (F0 m pc ls rest) := by
  intro σ H locs cells slots h hw hS h4 h5
  obtain ⟨v, σ1, h1, h2⟩ := fs_bdT h
  cases h1
  have hm := (kk (fs_n σ)).2 _ _ _ h2
  have hm1 : fs_n σ + 1 ≤ fs_n σF := hm.1
  have hm2 : fs_u σ + ds.length ≤ fs_u σF := hm.2
  have hKn := hG.2.2.1 ci _ hc
  have hts := S.2.2.2.2
  refine W.newcK S.1 S.2.1 S.2.2.2.1 (hts _ hlink) (hts _ hinst) (hts _ hini) rfl hdg (by omega) (by omega) hKn.2.1 rfl fun H1 kC hkC e1 z1 o1 => ?_
  have hz : H.size = fs_n σ := hw.1
  rw [hz]
  refine K _ _ H1 locs (cells + 1) (slots + N) h2 (hw.push ⟨_, hc, (u_born ty0 hts hin hKn hkC e1 hty).to hds⟩ z1 o1) (fs_new hS z1 o1) (by show _ = fs_n σ + 1; omega) (by show _ = fs_u σ + ds.length; omega)
theorem fs_Jwi (S : CallFix p m c cc nL s args fs_ws own) (hG : fs_G X s) (hR : fs_n σF ≤ fs_n σ0 + R.cells ∧ fs_u σF ≤ fs_u σ0 + R.slots) {n : Int32} {at9 : ArrayType} (hat : newarray.typeOf at9 = .int) (harr : Cond.arrayClass .int ∈ fs_ws) (hdg : decode cc pc = .ok (.newarray at9, 2))
    {kk : Nat → fs_T α} (K : ∀ v, fs_J X p l e R s m args below meth c Q rF σ0 σF (kk v) (F0 m (pc + 2) ls (.ref v :: rest))) : fs_J X p l e R s m args below meth c Q rF σ0 σF (fs_bind (fs_ni n) kk) (F0 m pc ls (.int n :: rest)) := by
  intro σ H locs cells slots h hw hS h4 h5
  obtain ⟨v, σ1, h1, h2⟩ := fs_bdT h
  unfold fs_ni at h1
  by_cases q : ¬ n < 0 ∧ n.toNatClampNeg ≤ 65536
  · rw [if_pos q] at h1
    cases h1
    have hm := (kk (fs_n σ)).2 _ _ _ h2
    have hm1 : fs_n σ + 1 ≤ fs_n σF := hm.1
    have hm2 : fs_u σ + n.toNatClampNeg ≤ fs_u σF := hm.2
    have hts := S.2.2.2.2
    have hcb : componentBytes .int ≤ 8 := by decide
    have hb1 : n.toNatClampNeg * componentBytes .int ≤ 65536 * 8 := Nat.mul_le_mul q.2 hcb
    refine va_newaK S.1 S.2.1 (atype := at9) (by rw [hat]; exact hts _ harr) rfl hdg rfl q.1 rfl (by rw [hat]; omega) (by omega) (by omega) rfl fun H1 cA e1 z1 o1 hAr hNm => ?_
    rw [hat] at hNm e1
    have hcA : cA = fs_ta X 0 := Option.some.inj (hNm.symm.trans (hG.2.2.2 0 _ rfl).2)
    subst hcA
    have hz : H.size = fs_n σ := hw.1
    refine W.eq (g2 := F0 m (pc + 2) ls (.ref (fs_n σ) :: rest)) (by rw [← hz]) ?_
    exact K _ _ H1 locs (cells + 1) (slots + n.toNatClampNeg) h2 (hw.push (show H1[H.size]? = some (vp_cell _ _) by rw [vp_cell_i]; exact e1) z1 o1) (fs_new hS z1 o1) (by show _ = fs_n σ + 1; omega) (by show _ = fs_u σ + n.toNatClampNeg; omega)
  · rw [if_neg q] at h1
    cases h1
theorem fs_Jwj (S : CallFix p m c cc nL s args fs_ws own) (hG : fs_G X s) (hR : fs_n σF ≤ fs_n σ0 + R.cells ∧ fs_u σF ≤ fs_u σ0 + R.slots) {n : Int32} {at9 : ArrayType} (hat : newarray.typeOf at9 = .long) (harr : Cond.arrayClass .long ∈ fs_ws) (hdg : decode cc pc = .ok (.newarray at9, 2))
    {kk : Nat → fs_T α} (K : ∀ v, fs_J X p l e R s m args below meth c Q rF σ0 σF (kk v) (F0 m (pc + 2) ls (.ref v :: rest))) : fs_J X p l e R s m args below meth c Q rF σ0 σF (fs_bind (fs_nj n) kk) (F0 m pc ls (.int n :: rest)) := by
  intro σ H locs cells slots h hw hS h4 h5
  obtain ⟨v, σ1, h1, h2⟩ := fs_bdT h
  unfold fs_nj at h1
  by_cases q : ¬ n < 0 ∧ n.toNatClampNeg ≤ 65536
  · rw [if_pos q] at h1
    cases h1
    have hm := (kk (fs_n σ)).2 _ _ _ h2
    have hm1 : fs_n σ + 1 ≤ fs_n σF := hm.1
    have hm2 : fs_u σ + n.toNatClampNeg ≤ fs_u σF := hm.2
    have hts := S.2.2.2.2
    have hcb : componentBytes .long ≤ 8 := by decide
    have hb1 : n.toNatClampNeg * componentBytes .long ≤ 65536 * 8 := Nat.mul_le_mul q.2 hcb
    refine va_newaK S.1 S.2.1 (atype := at9) (by rw [hat]; exact hts _ harr) rfl hdg rfl q.1 rfl (by rw [hat]; omega) (by omega) (by omega) rfl fun H1 cA e1 z1 o1 hAr hNm => ?_
    rw [hat] at hNm e1
    have hcA : cA = fs_ta X 1 := Option.some.inj (hNm.symm.trans (hG.2.2.2 1 _ rfl).2)
    subst hcA
    have hz : H.size = fs_n σ := hw.1
    refine W.eq (g2 := F0 m (pc + 2) ls (.ref (fs_n σ) :: rest)) (by rw [← hz]) ?_
    exact K _ _ H1 locs (cells + 1) (slots + n.toNatClampNeg) h2 (hw.push (show H1[H.size]? = some (vp_cell _ _) by rw [vp_cell_l]; exact e1) z1 o1) (fs_new hS z1 o1) (by show _ = fs_n σ + 1; omega) (by show _ = fs_u σ + n.toNatClampNeg; omega)
  · rw [if_neg q] at h1
    cases h1
theorem fs_Jwz (S : CallFix p m c cc nL s args fs_ws own) (hG : fs_G X s) (hR : fs_n σF ≤ fs_n σ0 + R.cells ∧ fs_u σF ≤ fs_u σ0 + R.slots) {n : Int32} {at9 : ArrayType} (hat : newarray.typeOf at9 = .boolean) (harr : Cond.arrayClass .boolean ∈ fs_ws) (hdg : decode cc pc = .ok (.newarray at9, 2))
    {kk : Nat → fs_T α} (K : ∀ v, fs_J X p l e R s m args below meth c Q rF σ0 σF (kk v) (F0 m (pc + 2) ls (.ref v :: rest))) : fs_J X p l e R s m args below meth c Q rF σ0 σF (fs_bind (fs_nz n) kk) (F0 m pc ls (.int n :: rest)) := by
  intro σ H locs cells slots h hw hS h4 h5
  obtain ⟨v, σ1, h1, h2⟩ := fs_bdT h
  unfold fs_nz at h1
  by_cases q : ¬ n < 0 ∧ n.toNatClampNeg ≤ 65536
  · rw [if_pos q] at h1
    cases h1
    have hm := (kk (fs_n σ)).2 _ _ _ h2
    have hm1 : fs_n σ + 1 ≤ fs_n σF := hm.1
    have hm2 : fs_u σ + n.toNatClampNeg ≤ fs_u σF := hm.2
    have hts := S.2.2.2.2
    have hcb : componentBytes .boolean ≤ 8 := by decide
    have hb1 : n.toNatClampNeg * componentBytes .boolean ≤ 65536 * 8 := Nat.mul_le_mul q.2 hcb
    refine va_newaK S.1 S.2.1 (atype := at9) (by rw [hat]; exact hts _ harr) rfl hdg rfl q.1 rfl (by rw [hat]; omega) (by omega) (by omega) rfl fun H1 cA e1 z1 o1 hAr hNm => ?_
    rw [hat] at hNm e1
    have hcA : cA = fs_ta X 2 := Option.some.inj (hNm.symm.trans (hG.2.2.2 2 _ rfl).2)
    subst hcA
    have hz : H.size = fs_n σ := hw.1
    refine W.eq (g2 := F0 m (pc + 2) ls (.ref (fs_n σ) :: rest)) (by rw [← hz]) ?_
    exact K _ _ H1 locs (cells + 1) (slots + n.toNatClampNeg) h2 (hw.push (show H1[H.size]? = some (vp_cell _ _) by rw [vp_cell_i]; exact e1) z1 o1) (fs_new hS z1 o1) (by show _ = fs_n σ + 1; omega) (by show _ = fs_u σ + n.toNatClampNeg; omega)
  · rw [if_neg q] at h1
    cases h1
end FSH
end
section
/-! ends of methods, and calls that return -/
section FSC
variable {X : fs_X} {p : Program} {l : Launch} {e : Env} {R : Room} {s : State} {m : MethodId} {args : Array Value} {below : List Frame} {meth : Method} {c : Code} {Q Q2 : State → Prop} {α β : Type} {rF : α} {σ0 σF : fs_S}
variable {cc : ByteArray} {nL : Nat} {own ref C : String} {T : u_T} {N ci index a pc : Nat} {ls : Array Slot} {rest : List Value} {H : Heap} {locs : List Loc} {cells slots : Nat}
theorem fs_mono {g : JFrame} (h : ∀ t, Q t → Q2 t) (k : W p l e R s m args below meth c H locs cells slots Q g) : W p l e R s m args below meth c H locs cells slots Q2 g := by
  intro T hT X
  obtain ⟨t, a1, b1⟩ := k T hT X
  exact ⟨t, a1, h t b1⟩
theorem fs_end {rv : Option Value ⊕ String} {v : Option Value} (hv : rv = .inl v) (h4 : fs_n σ0 + cells = fs_n σF) (h5 : fs_u σ0 + slots = fs_u σF) : ∀ t, MQ below (fs_Qr X v σF) args s cells slots (fs_A X) t → fs_Q X below args s rv σ0 σF t := by
  intro t ht
  obtain ⟨o, h1, h2, ⟨ho, hw, hF⟩, L, ⟨-, hW, hsm⟩, hL⟩ := ht
  subst hv
  have e1 : fs_n σF - fs_n σ0 = cells := by omega
  have e2 : fs_u σF - fs_u σ0 = slots := by omega
  exact ⟨o, h1, h2, ho, hw, hF, hW, L, by rw [e1, e2]; exact hsm, hL⟩
theorem fs_Jiret (S : CallFix p m c cc nL s args fs_ws own) (hr : meth.sig.returnType = some .int) (hlocks : meth.locks = false) {enc : α → Option Value ⊕ String} {w : α} {x : Int32} (he : enc w = .inl (some (.int x))) (hdg : decode cc pc = .ok (.ireturn, 1)) :
    fs_J X p l e R s m args below meth c (fs_Q X below args s (enc rF) σ0 σF) rF σ0 σF (fs_ret w) (F0 m pc ls [.int x]) := by
  intro σ H locs cells slots h hw hS h4 h5
  cases h
  exact fs_mono (fs_end he h4 h5) (W.iret S.1 S.2.1 hr (fun t ht hW => ⟨rfl, by rw [ht]; exact hw, hS.F ht⟩) hS.2.2 hdg hlocks)
theorem fs_Jzret (S : CallFix p m c cc nL s args fs_ws own) (hr : meth.sig.returnType = some .boolean) (hlocks : meth.locks = false) {enc : α → Option Value ⊕ String} {w : α} {x : Int32} (he : enc w = .inl (some (.int x))) (hdg : decode cc pc = .ok (.ireturn, 1)) :
    fs_J X p l e R s m args below meth c (fs_Q X below args s (enc rF) σ0 σF) rF σ0 σF (if x = 0 ∨ x = 1 then fs_ret w else fs_fail) (F0 m pc ls [.int x]) := by
  intro σ H locs cells slots h hw hS h4 h5
  by_cases q : x = 0 ∨ x = 1
  · rw [if_pos q] at h
    cases h
    exact fs_mono (fs_end he h4 h5) (W.zret S.1 S.2.1 hr (fs_nar q) (fun t ht hW => ⟨rfl, by rw [ht]; exact hw, hS.F ht⟩) hS.2.2 hdg hlocks)
  · rw [if_neg q] at h
    cases h
theorem fs_Jlret (S : CallFix p m c cc nL s args fs_ws own) (hr : meth.sig.returnType = some .long) (hlocks : meth.locks = false) {enc : α → Option Value ⊕ String} {w : α} {x : Int64} (he : enc w = .inl (some (.long x))) (hdg : decode cc pc = .ok (.lreturn, 1)) :
    fs_J X p l e R s m args below meth c (fs_Q X below args s (enc rF) σ0 σF) rF σ0 σF (fs_ret w) (F0 m pc ls [.long x]) := by
  intro σ H locs cells slots h hw hS h4 h5
  cases h
  exact fs_mono (fs_end he h4 h5) (W.lret S.1 S.2.1 hr (fun t ht hW => ⟨rfl, by rw [ht]; exact hw, hS.F ht⟩) hS.2.2 hdg hlocks)
theorem fs_Jaret (S : CallFix p m c cc nL s args fs_ws own) {rt : FieldType} (hr : meth.sig.returnType = some rt) (hrt : (∃ n, rt = .object n) ∨ ∃ t, rt = .array t) (hlocks : meth.locks = false) {enc : α → Option Value ⊕ String} {w : α} {x : Nat} (he : enc w = .inl (some (.ref x))) (hdg : decode cc pc = .ok (.areturn, 1)) :
    fs_J X p l e R s m args below meth c (fs_Q X below args s (enc rF) σ0 σF) rF σ0 σF (fs_ret w) (F0 m pc ls [.ref x]) := by
  intro σ H locs cells slots h hw hS h4 h5
  cases h
  exact fs_mono (fs_end he h4 h5) (W.aret S.1 S.2.1 hr hrt (Or.inr ⟨x, rfl⟩) (fun t ht hW => ⟨rfl, by rw [ht]; exact hw, hS.F ht⟩) hS.2.2 hdg hlocks)
theorem fs_Jvret (S : CallFix p m c cc nL s args fs_ws own) (hr : meth.sig.returnType = none) (hlocks : meth.locks = false) {enc : α → Option Value ⊕ String} {w : α} (he : enc w = .inl none) (hdg : decode cc pc = .ok (.return_, 1)) :
    fs_J X p l e R s m args below meth c (fs_Q X below args s (enc rF) σ0 σF) rF σ0 σF (fs_ret w) (F0 m pc ls []) := by
  intro σ H locs cells slots h hw hS h4 h5
  cases h
  exact fs_mono (fs_end he h4 h5) (W.vret S.1 S.2.1 hr (fun t ht hW => ⟨rfl, by rw [ht]; exact hw, hS.F ht⟩) hS.2.2 hdg hlocks)
theorem fs_go {mc ms : Nat} {v : Option Value} {σ1 : fs_S} {a : Array Value} {st0 : List Value} (hr : va_Run p l e R s m args below meth c H locs cells slots mc ms (F0 m pc ls st0) rest (fs_Qr X v σ1 a) (fs_A X)) (hS : va_S (fs_A X) s.heap H locs)
    (kk : ∀ (H1 : Heap) (locs1 : List Loc), fs_w X σ1 H1 → va_S (fs_A X) s.heap H1 locs1 → W p l e R s m args below meth c H1 locs1 (cells + mc) (slots + ms) Q (F0 m (pc + 3) ls (v.toList ++ rest))) : W p l e R s m args below meth c H locs cells slots Q (F0 m pc ls st0) := by
  intro T hT X'
  obtain ⟨v', st₀, t, T', L, h0, XX, hL, e1, e2, ⟨hv, hw, hz, hk⟩, st⟩ := hr T hT X'
  cases hv
  rw [h0] at hz hk
  obtain ⟨t2, a1, b1⟩ := kk T'.heap (locs ++ L) (by rw [e1]; exact hw) ⟨Nat.le_trans hS.1 (by rw [e1]; exact hz), fun q h1 h2 => by rw [e1, hk q (Nat.lt_of_lt_of_le h1 hS.1) h2]; exact hS.2.1 q h1 h2, fun q hq => by
      rcases List.mem_append.mp hq with h | h
      · exact hS.2.2 q h
      · exact hL q h⟩ T' rfl XX
  exact ⟨t2, st t2 a1, b1⟩
/-- a call of an object's method: the receiver is of the class -/
def fs_cv {α : Type} (b ci : Nat) (x : fs_T α) : fs_T α := fs_bind (fs_ck b ci) fun _ => x
variable {y : MethodName} {bytes : ByteArray} {maxL fr lo b : Nat} {ret : Option FieldType} {As st0 : List Value}
theorem fs_JV (S : CallFix p m c cc nL s args fs_ws own) (hG : fs_G X s) (hR : fs_n σF ≤ fs_n σ0 + R.cells ∧ fs_u σF ≤ fs_u σ0 + R.slots) (hc : fs_cl[ci]? = some (C, T, N)) (As : List Value) {x : fs_T β} {enc : β → Option Value}
    (hM : ∀ r σ σ1, x.1 σ = some (r, σ1) → fs_Met X l y (Cond.code y bytes maxL ret) fr lo (.ref b :: As) σ (.inl (enc r)) σ1)
    (wl : Cond.methodLink own index y ∈ fs_ws) (wi : Cond.instanceMethod y ∈ fs_ws) (wx : Cond.selects C y y ∈ fs_ws) (wc : Cond.code y bytes maxL ret ∈ fs_ws) (wn : Cond.initialized y.cls ∈ fs_ws)
    (hd : y.cls ≠ "java/lang/invoke/MethodHandle" ∧ y.cls ≠ "java/lang/invoke/VarHandle" ∧ (parseMethodDescriptor y.desc).map (fun d => d.parameters.length) = some As.length) (hfr : fr + 1 ≤ R.frames ∧ 8 + (maxL + 11) + lo ≤ R.locals)
    (hsz : ls.size = nL) (hst : st0 = As.reverse ++ .ref b :: rest) (hW : (rest.map fun v => v.category).sum ≤ 8) (hdg : decode cc pc = .ok (.invokevirtual index, 3))
    {kk : β → fs_T α} (K : ∀ r, fs_J X p l e R s m args below meth c Q rF σ0 σF (kk r) (F0 m (pc + 3) ls ((enc r).toList ++ rest))) : fs_J X p l e R s m args below meth c Q rF σ0 σF (fs_bind (fs_cv b ci x) kk) (F0 m pc ls st0) := by
  intro σ H locs cells slots h hw hS h4 h5
  obtain ⟨r, σ1, h1, h2⟩ := fs_bdT h
  obtain ⟨u, σ2, h1a, h1b⟩ := fs_bdT h1
  obtain ⟨fs, e1, rfl⟩ := fs_ck_ok h1a
  have hm1 := x.2 _ _ _ h1b
  have hm2 := (kk r).2 _ _ _ h2
  have q1 := hm1.1
  have q2 := hm1.2
  have q3 := hm2.1
  have q4 := hm2.2
  have hts := S.2.2.2.2
  refine fs_go (mc := fs_n σ1 - fs_n σ2) (ms := fs_u σ1 - fs_u σ2) (va_runV (As := As) (rest := rest) S (hM r σ2 σ1 h1b).ret ⟨callB_of As.length hts (fs_gd wc) rfl rfl rfl (hts _ wn) (hts _ wl) hd hfr, hts _ wi, hts _ wx⟩ ⟨fs_blind, va_recv (ws := [(b, .inr (ci, fs))]) hG.2.2 (fs_one (hw.lk e1)) hc (q0 := 0) rfl, fun U hU hW2 => ⟨rfl, by rw [hU]; exact hw, hG.moved hW2⟩⟩ rfl rfl hsz hst (lv_room hW) hdg ⟨by omega, by omega⟩) hS (fun H1 locs1 hw1 hS1 => ?_)
  exact K r σ1 H1 locs1 _ _ h2 hw1 hS1 (by omega) (by omega)
theorem fs_JS (S : CallFix p m c cc nL s args fs_ws own) (hG : fs_G X s) (hR : fs_n σF ≤ fs_n σ0 + R.cells ∧ fs_u σF ≤ fs_u σ0 + R.slots) (As : List Value) {x : fs_T β} {enc : β → Option Value}
    (hM : ∀ r σ σ1, x.1 σ = some (r, σ1) → fs_Met X l y (Cond.code y bytes maxL ret) fr lo As σ (.inl (enc r)) σ1)
    (wl : Cond.methodLink own index y ∈ fs_ws) (wi : Cond.static y ∈ fs_ws) (wc : Cond.code y bytes maxL ret ∈ fs_ws) (wn : Cond.initialized y.cls ∈ fs_ws)
    (hd : y.cls ≠ "java/lang/invoke/MethodHandle" ∧ y.cls ≠ "java/lang/invoke/VarHandle" ∧ (parseMethodDescriptor y.desc).map (fun d => d.parameters.length) = some As.length) (hfr : fr + 1 ≤ R.frames ∧ 8 + (maxL + 11) + lo ≤ R.locals)
    (hsz : ls.size = nL) (hst : st0 = As.reverse ++ rest) (hW : (rest.map fun v => v.category).sum ≤ 8) (hdg : decode cc pc = .ok (.invokestatic index, 3))
    {kk : β → fs_T α} (K : ∀ r, fs_J X p l e R s m args below meth c Q rF σ0 σF (kk r) (F0 m (pc + 3) ls ((enc r).toList ++ rest))) : fs_J X p l e R s m args below meth c Q rF σ0 σF (fs_bind x kk) (F0 m pc ls st0) := by
  intro σ H locs cells slots h hw hS h4 h5
  obtain ⟨r, σ1, h1, h2⟩ := fs_bdT h
  have hm1 := x.2 _ _ _ h1
  have hm2 := (kk r).2 _ _ _ h2
  have q1 := hm1.1
  have q2 := hm1.2
  have q3 := hm2.1
  have q4 := hm2.2
  have hts := S.2.2.2.2
  refine fs_go (mc := fs_n σ1 - fs_n σ) (ms := fs_u σ1 - fs_u σ) (va_runS (As := As) (rest := rest) S (hM r σ σ1 h1).ret ⟨callB_of As.length hts (fs_gd wc) rfl rfl rfl (hts _ wn) (hts _ wl) hd hfr, hts _ wi⟩ ⟨fs_blind, fun U hU hW2 => ⟨rfl, by rw [hU]; exact hw, hG.moved hW2⟩⟩ rfl rfl hsz hst (lv_room hW) hdg ⟨by omega, by omega⟩) hS (fun H1 locs1 hw1 hS1 => ?_)
  exact K r σ1 H1 locs1 _ _ h2 hw1 hS1 (by omega) (by omega)
theorem fs_JI (S : CallFix p m c cc nL s args fs_ws own) (hG : fs_G X s) (hR : fs_n σF ≤ fs_n σ0 + R.cells ∧ fs_u σF ≤ fs_u σ0 + R.slots) (As : List Value) {x : fs_T Unit}
    (hM : ∀ r σ σ1, x.1 σ = some (r, σ1) → fs_Met X l y (Cond.code y bytes maxL none) fr lo (.ref b :: As) σ (.inl none) σ1)
    (wl : Cond.methodLink own index y ∈ fs_ws) (wi : Cond.instanceMethod y ∈ fs_ws) (wc : Cond.code y bytes maxL none ∈ fs_ws) (wn : Cond.initialized y.cls ∈ fs_ws) (hnm : y.name = "<init>")
    (hd : y.cls ≠ "java/lang/invoke/MethodHandle" ∧ y.cls ≠ "java/lang/invoke/VarHandle" ∧ (parseMethodDescriptor y.desc).map (fun d => d.parameters.length) = some As.length) (hfr : fr + 1 ≤ R.frames ∧ 8 + (maxL + 11) + lo ≤ R.locals)
    (hsz : ls.size = nL) (hst : st0 = As.reverse ++ .ref b :: rest) (hW : (rest.map fun v => v.category).sum ≤ 8) (hdg : decode cc pc = .ok (.invokespecial index, 3))
    {kk : Unit → fs_T α} (K : fs_J X p l e R s m args below meth c Q rF σ0 σF (kk ()) (F0 m (pc + 3) ls rest)) : fs_J X p l e R s m args below meth c Q rF σ0 σF (fs_bind x kk) (F0 m pc ls st0) := by
  intro σ H locs cells slots h hw hS h4 h5
  obtain ⟨r, σ1, h1, h2⟩ := fs_bdT h
  have hm1 := x.2 _ _ _ h1
  have hm2 := (kk r).2 _ _ _ h2
  have q1 := hm1.1
  have q2 := hm1.2
  have q3 := hm2.1
  have q4 := hm2.2
  have hts := S.2.2.2.2
  refine fs_go (mc := fs_n σ1 - fs_n σ) (ms := fs_u σ1 - fs_u σ) (va_runI (As := As) (rest := rest) S (hM r σ σ1 h1).ret ⟨callB_of As.length hts (fs_gd wc) rfl rfl rfl (hts _ wn) (hts _ wl) hd hfr, hnm, hts _ wi⟩ ⟨fs_blind, fun U hU hW2 => ⟨rfl, by rw [hU]; exact hw, hG.moved hW2⟩⟩ rfl rfl hsz hst (lv_room hW) hdg ⟨by omega, by omega⟩) hS (fun H1 locs1 hw1 hS1 => ?_)
  exact K σ1 H1 locs1 _ _ h2 hw1 hS1 (by omega) (by omega)
/-- private constructors and methods of a nest mate -/
theorem fs_JIN (S : CallFix p m c cc nL s args fs_ws own) (hG : fs_G X s) (hR : fs_n σF ≤ fs_n σ0 + R.cells ∧ fs_u σF ≤ fs_u σ0 + R.slots) (As : List Value) {x : fs_T Unit} {host : String}
    (hM : ∀ r σ σ1, x.1 σ = some (r, σ1) → fs_Met X l y (Cond.code y bytes maxL none) fr lo (.ref b :: As) σ (.inl none) σ1)
    (wl : Cond.methodLinkNest own index y host ∈ lw_tbl) (wi : Cond.instanceMethod y ∈ fs_ws) (wc : Cond.code y bytes maxL none ∈ fs_ws) (wn : Cond.initialized y.cls ∈ fs_ws) (hnm : y.name = "<init>")
    (hd : y.cls ≠ "java/lang/invoke/MethodHandle" ∧ y.cls ≠ "java/lang/invoke/VarHandle" ∧ (parseMethodDescriptor y.desc).map (fun d => d.parameters.length) = some As.length) (hfr : fr + 1 ≤ R.frames ∧ 8 + (maxL + 11) + lo ≤ R.locals)
    (hsz : ls.size = nL) (hst : st0 = As.reverse ++ .ref b :: rest) (hW : (rest.map fun v => v.category).sum ≤ 8) (hdg : decode cc pc = .ok (.invokespecial index, 3))
    {kk : Unit → fs_T α} (K : fs_J X p l e R s m args below meth c Q rF σ0 σF (kk ()) (F0 m (pc + 3) ls rest)) : fs_J X p l e R s m args below meth c Q rF σ0 σF (fs_bind x kk) (F0 m pc ls st0) := by
  intro σ H locs cells slots h hw hS h4 h5
  obtain ⟨r, σ1, h1, h2⟩ := fs_bdT h
  have hm1 := x.2 _ _ _ h1
  have hm2 := (kk r).2 _ _ _ h2
  have q1 := hm1.1
  have q2 := hm1.2
  have q3 := hm2.1
  have q4 := hm2.2
  have hts := S.2.2.2.2
  refine fs_go (mc := fs_n σ1 - fs_n σ) (ms := fs_u σ1 - fs_u σ) (va_runIN (As := As) (rest := rest) S (hM r σ σ1 h1).ret ⟨va_cnB As.length hts (fs_gd wc) rfl rfl rfl (hG.nest wl) (hts _ wn) hd hfr, hnm, hts _ wi⟩ ⟨fs_blind, fun U hU hW2 => ⟨rfl, by rw [hU]; exact hw, hG.moved hW2⟩⟩ rfl rfl hsz hst (lv_room hW) hdg ⟨by omega, by omega⟩) hS (fun H1 locs1 hw1 hS1 => ?_)
  exact K σ1 H1 locs1 _ _ h2 hw1 hS1 (by omega) (by omega)
theorem fs_JSN (S : CallFix p m c cc nL s args fs_ws own) (hG : fs_G X s) (hR : fs_n σF ≤ fs_n σ0 + R.cells ∧ fs_u σF ≤ fs_u σ0 + R.slots) (As : List Value) {x : fs_T β} {enc : β → Option Value} {host : String}
    (hM : ∀ r σ σ1, x.1 σ = some (r, σ1) → fs_Met X l y (Cond.code y bytes maxL ret) fr lo As σ (.inl (enc r)) σ1)
    (wl : Cond.methodLinkNest own index y host ∈ lw_tbl) (wi : Cond.static y ∈ fs_ws) (wc : Cond.code y bytes maxL ret ∈ fs_ws) (wn : Cond.initialized y.cls ∈ fs_ws)
    (hd : y.cls ≠ "java/lang/invoke/MethodHandle" ∧ y.cls ≠ "java/lang/invoke/VarHandle" ∧ (parseMethodDescriptor y.desc).map (fun d => d.parameters.length) = some As.length) (hfr : fr + 1 ≤ R.frames ∧ 8 + (maxL + 11) + lo ≤ R.locals)
    (hsz : ls.size = nL) (hst : st0 = As.reverse ++ rest) (hW : (rest.map fun v => v.category).sum ≤ 8) (hdg : decode cc pc = .ok (.invokestatic index, 3))
    {kk : β → fs_T α} (K : ∀ r, fs_J X p l e R s m args below meth c Q rF σ0 σF (kk r) (F0 m (pc + 3) ls ((enc r).toList ++ rest))) : fs_J X p l e R s m args below meth c Q rF σ0 σF (fs_bind x kk) (F0 m pc ls st0) := by
  intro σ H locs cells slots h hw hS h4 h5
  obtain ⟨r, σ1, h1, h2⟩ := fs_bdT h
  have hm1 := x.2 _ _ _ h1
  have hm2 := (kk r).2 _ _ _ h2
  have q1 := hm1.1
  have q2 := hm1.2
  have q3 := hm2.1
  have q4 := hm2.2
  have hts := S.2.2.2.2
  refine fs_go (mc := fs_n σ1 - fs_n σ) (ms := fs_u σ1 - fs_u σ) (va_runSN (As := As) (rest := rest) S (hM r σ σ1 h1).ret ⟨va_cnB As.length hts (fs_gd wc) rfl rfl rfl (hG.nest wl) (hts _ wn) hd hfr, hts _ wi, trivial⟩ ⟨fs_blind, fun U hU hW2 => ⟨rfl, by rw [hU]; exact hw, hG.moved hW2⟩⟩ rfl rfl hsz hst (lv_room hW) hdg ⟨by omega, by omega⟩) hS (fun H1 locs1 hw1 hS1 => ?_)
  exact K r σ1 H1 locs1 _ _ h2 hw1 hS1 (by omega) (by omega)
theorem fs_JO (S : CallFix p m c cc nL s args fs_ws own) {t : fs_T α} (wl : Cond.methodLink own index Lib.objectInit ∈ fs_ws) (wi : Cond.instanceMethod Lib.objectInit ∈ fs_ws) (wc : Cond.code Lib.objectInit ⟨#[0xb1]⟩ 1 none ∈ fs_ws) (hsz : ls.size = nL) (hfr : 1 ≤ R.frames) (hlo : (rest.map fun v => v.category).sum + 12 ≤ R.locals) (hdg : decode cc pc = .ok (.invokespecial index, 3))
    (K : fs_J X p l e R s m args below meth c Q rF σ0 σF t (F0 m (pc + 3) ls rest)) : fs_J X p l e R s m args below meth c Q rF σ0 σF t (F0 m pc ls (.ref a :: rest)) := by
  refine fs_lift (fun H locs cells slots k => ?_) K
  have hts := S.2.2.2.2
  exact W.objInit S.1 S.2.1 S.2.2.2.1 (hts _ wl) (hts _ wi) (hts _ wc) rfl (by rw [S.2.2.1]; exact hsz) rfl hdg hfr (by show 2 * 0 + _ + 12 ≤ _; omega) k
end FSC
end
section
/-! encodings of answers; joins; switches -/
def fs_eV (_ : Unit) : Option Value ⊕ String := .inl none
def fs_eI (v : Int32) : Option Value ⊕ String := .inl (some (.int v))
def fs_eJ (v : Int64) : Option Value ⊕ String := .inl (some (.long v))
def fs_eR (v : Nat) : Option Value ⊕ String := .inl (some (.ref v))
def fs_qV (r : Unit ⊕ String) : Option Value ⊕ String := match r with
  | .inl _ => .inl none
  | .inr e => .inr e
def fs_qI (r : Int32 ⊕ String) : Option Value ⊕ String := match r with
  | .inl v => .inl (some (.int v))
  | .inr e => .inr e
def fs_qJ (r : Int64 ⊕ String) : Option Value ⊕ String := match r with
  | .inl v => .inl (some (.long v))
  | .inr e => .inr e
def fs_qR (r : Nat ⊕ String) : Option Value ⊕ String := match r with
  | .inl v => .inl (some (.ref v))
  | .inr e => .inr e
theorem fs_hR {fr lo : Nat} {σ σF : fs_S} (h : fs_le σ σF) : fs_n σF ≤ fs_n σ + (fs_rm fr lo σ σF).cells ∧ fs_u σF ≤ fs_u σ + (fs_rm fr lo σ σF).slots := by
  have h1 := h.1
  have h2 := h.2
  constructor
  · show fs_n σF ≤ fs_n σ + (fs_n σF - fs_n σ)
    omega
  · show fs_u σF ≤ fs_u σ + (fs_u σF - fs_u σ)
    omega
theorem fs_tout {x : Int32} (hi : Nat) (h : ∀ k, k < hi + 1 → ¬ x = nI k) (hh : hi < 2 ^ 30) : x.toInt < 0 ∨ (hi : Int) < x.toInt := by
  by_cases h0 : x.toInt < 0
  · exact Or.inl h0
  · refine Or.inr ?_
    by_cases h1 : (hi : Int) < x.toInt
    · exact h1
    · exfalso
      have hk : x.toInt.toNat < hi + 1 := by omega
      refine h x.toInt.toNat hk (Int32.toInt_inj.mp ?_)
      rw [nI_toInt (by omega)]
      omega
section FSM
variable {X : fs_X} {p : Program} {l : Launch} {e : Env} {R : Room} {s : State} {m : MethodId} {args : Array Value} {below : List Frame} {meth : Method} {c : Code} {Q : State → Prop} {α β : Type} {rF : α} {σ0 σF : fs_S}
variable {cc : ByteArray} {nL : Nat} {own ref C : String} {T : u_T} {N ci index a pc pj : Nat} {ls : Array Slot} {rest : List Value}
theorem fs_Jeq {t : fs_T α} {g g2 : JFrame} (h : g = g2) (k : fs_J X p l e R s m args below meth c Q rF σ0 σF t g2) : fs_J X p l e R s m args below meth c Q rF σ0 σF t g := h ▸ k
theorem fs_Jlet1 {A1 : Type} {f : A1 → fs_T α} {kk : (A1 → fs_T α) → fs_T α} {I : A1 → List (Nat × Value)} {st : A1 → List Value} {g : JFrame} (h : ∀ v ls, lv_has ls nL (I v) → fs_J X p l e R s m args below meth c Q rF σ0 σF (f v) (F0 m pj ls (st v)))
    (k : ∀ f : A1 → fs_T α, (∀ v ls, lv_has ls nL (I v) → fs_J X p l e R s m args below meth c Q rF σ0 σF (f v) (F0 m pj ls (st v))) → fs_J X p l e R s m args below meth c Q rF σ0 σF (kk f) g) : fs_J X p l e R s m args below meth c Q rF σ0 σF (fs_let f kk) g := k f h
theorem fs_Jlet2 {A1 A2 : Type} {f : A1 → A2 → fs_T α} {kk : (A1 → A2 → fs_T α) → fs_T α} {I : A1 → A2 → List (Nat × Value)} {st : A1 → A2 → List Value} {g : JFrame} (h : ∀ v w ls, lv_has ls nL (I v w) → fs_J X p l e R s m args below meth c Q rF σ0 σF (f v w) (F0 m pj ls (st v w)))
    (k : ∀ f : A1 → A2 → fs_T α, (∀ v w ls, lv_has ls nL (I v w) → fs_J X p l e R s m args below meth c Q rF σ0 σF (f v w) (F0 m pj ls (st v w))) → fs_J X p l e R s m args below meth c Q rF σ0 σF (kk f) g) : fs_J X p l e R s m args below meth c Q rF σ0 σF (fs_let f kk) g := k f h
theorem fs_Jlet3 {A1 A2 A3 : Type} {f : A1 → A2 → A3 → fs_T α} {kk : (A1 → A2 → A3 → fs_T α) → fs_T α} {I : A1 → A2 → A3 → List (Nat × Value)} {st : A1 → A2 → A3 → List Value} {g : JFrame} (h : ∀ v w u ls, lv_has ls nL (I v w u) → fs_J X p l e R s m args below meth c Q rF σ0 σF (f v w u) (F0 m pj ls (st v w u)))
    (k : ∀ f : A1 → A2 → A3 → fs_T α, (∀ v w u ls, lv_has ls nL (I v w u) → fs_J X p l e R s m args below meth c Q rF σ0 σF (f v w u) (F0 m pj ls (st v w u))) → fs_J X p l e R s m args below meth c Q rF σ0 σF (kk f) g) : fs_J X p l e R s m args below meth c Q rF σ0 σF (fs_let f kk) g := k f h
theorem fs_Jrem (S : CallFix p m c cc nL s args fs_ws own) {x y : Int32} (hdg : decode cc pc = .ok (.irem, 1)) {kk : Int32 → fs_T α} (K : ∀ v, fs_J X p l e R s m args below meth c Q rF σ0 σF (kk v) (F0 m (pc + 1) ls (.int v :: rest))) : fs_J X p l e R s m args below meth c Q rF σ0 σF (fs_bind (fs_rem x y) kk) (F0 m pc ls (.int y :: .int x :: rest)) := by
  intro σ H locs cells slots h hw hS h4 h5
  obtain ⟨v, σ1, h1, h2⟩ := fs_bdT h
  unfold fs_rem at h1
  by_cases q : y = 0
  · rw [if_pos q] at h1
    cases h1
  · rw [if_neg q] at h1
    cases h1
    exact lv_irem S.1 S.2.1 hdg q (K _ σ H locs cells slots h2 hw hS h4 h5)
end FSM
end
section
/-! the methods as programs, out of the bytecode -/
def f_AbstractCollection_init (a0 : Nat) : fs_T Unit :=
  fs_ret ()

def f_AbstractList_init (a0 : Nat) : fs_T Unit :=
  fs_bind (f_AbstractCollection_init a0) fun _ =>
  fs_bind (fs_pi a0 2 2 0) fun _ =>
  fs_ret ()

def f_ArrayList_init (a0 : Nat) : fs_T Unit :=
  fs_bind (f_AbstractList_init a0) fun _ =>
  fs_bind (fs_gs 1) fun r1 =>
  fs_bind (fs_pr a0 2 0 r1) fun _ =>
  fs_ret ()

def f_Layout_init (a0 : Nat) : fs_T Unit :=
  fs_bind (fs_ni 8) fun r1 =>
  fs_bind (fs_pr a0 4 0 r1) fun _ =>
  fs_bind (fs_ni 8) fun r2 =>
  fs_bind (fs_pr a0 4 1 r2) fun _ =>
  fs_ret ()

def f_Slot_init (a0 : Nat) (x1 : Int32) : fs_T Unit :=
  fs_bind (fs_nw 4 fs_d4) fun r1 =>
  fs_bind (f_Layout_init r1) fun _ =>
  fs_bind (fs_pr a0 3 1 r1) fun _ =>
  fs_bind (fs_nw 4 fs_d4) fun r2 =>
  fs_bind (f_Layout_init r2) fun _ =>
  fs_bind (fs_pr a0 3 2 r2) fun _ =>
  fs_bind (fs_pi a0 3 0 x1) fun _ =>
  fs_ret ()

def f_Exporter_init (a0 : Nat) (x1 : Int32) : fs_T Unit :=
  fs_bind (fs_nw 2 fs_d2) fun r1 =>
  fs_bind (f_ArrayList_init r1) fun _ =>
  fs_bind (fs_pr a0 1 1 r1) fun _ =>
  fs_bind (fs_nw 2 fs_d2) fun r2 =>
  fs_bind (f_ArrayList_init r2) fun _ =>
  fs_bind (fs_pr a0 1 2 r2) fun _ =>
  fs_bind (fs_nr 4 3) fun r3 =>
  fs_bind (fs_pr a0 1 3 r3) fun _ =>
  fs_bind (fs_pi a0 1 6 1) fun _ =>
  fs_bind (fs_pi a0 1 0 x1) fun _ =>
  fs_lp1 4096 (fun k46 (v4 : Int32) =>
    if 3 ≤ v4 then (
      fs_ret ()) else
    fs_bind (fs_gr a0 1 3) fun r5 =>
    fs_bind (fs_nw 3 fs_d3) fun r6 =>
    fs_bind (f_Slot_init r6 v4) fun _ =>
    fs_bind (fs_sr r5 v4 r6) fun _ =>
    fs_nm ((v4 + 1) : Int32) fun v7 =>
    k46 v7) 0

def f_Table_init (a0 : Nat) : fs_T Unit :=
  fs_bind (fs_nw 2 fs_d2) fun r1 =>
  fs_bind (f_ArrayList_init r1) fun _ =>
  fs_bind (fs_pr a0 6 0 r1) fun _ =>
  fs_bind (fs_ni 80) fun r2 =>
  fs_bind (fs_pr a0 6 1 r2) fun _ =>
  fs_bind (fs_ni 80) fun r3 =>
  fs_bind (fs_pr a0 6 2 r3) fun _ =>
  fs_ret ()

def f_Ledger_init (a0 : Nat) : fs_T Unit :=
  fs_bind (fs_nz 600) fun r1 =>
  fs_bind (fs_pr a0 7 0 r1) fun _ =>
  fs_ret ()

def f_Collector_init (a0 : Nat) : fs_T Unit :=
  fs_bind (fs_nw 2 fs_d2) fun r1 =>
  fs_bind (f_ArrayList_init r1) fun _ =>
  fs_bind (fs_pr a0 5 0 r1) fun _ =>
  fs_bind (fs_nw 2 fs_d2) fun r2 =>
  fs_bind (f_ArrayList_init r2) fun _ =>
  fs_bind (fs_pr a0 5 1 r2) fun _ =>
  fs_bind (fs_nw 6 fs_d6) fun r3 =>
  fs_bind (f_Table_init r3) fun _ =>
  fs_bind (fs_pr a0 5 2 r3) fun _ =>
  fs_bind (fs_nw 7 fs_d7) fun r4 =>
  fs_bind (f_Ledger_init r4) fun _ =>
  fs_bind (fs_pr a0 5 3 r4) fun _ =>
  fs_bind (fs_nw 7 fs_d7) fun r5 =>
  fs_bind (f_Ledger_init r5) fun _ =>
  fs_bind (fs_pr a0 5 4 r5) fun _ =>
  fs_ret ()

def f_Fs_init (a0 : Nat) : fs_T Unit :=
  fs_bind (fs_nw 1 fs_d1) fun r1 =>
  fs_bind (f_Exporter_init r1 0) fun _ =>
  fs_bind (fs_pr a0 0 0 r1) fun _ =>
  fs_bind (fs_nw 1 fs_d1) fun r2 =>
  fs_bind (f_Exporter_init r2 1) fun _ =>
  fs_bind (fs_pr a0 0 1 r2) fun _ =>
  fs_bind (fs_nw 2 fs_d2) fun r3 =>
  fs_bind (f_ArrayList_init r3) fun _ =>
  fs_bind (fs_pr a0 0 2 r3) fun _ =>
  fs_bind (fs_nw 5 fs_d5) fun r4 =>
  fs_bind (f_Collector_init r4) fun _ =>
  fs_bind (fs_pr a0 0 3 r4) fun _ =>
  fs_ret ()

def f_ArrayList_size (a0 : Nat) : fs_T Int32 :=
  fs_bind (fs_gi a0 2 1) fun v1 =>
  fs_ret v1

def f_Fs_isReport (a0 : Nat) (x1 : Int32) : fs_T Int32 :=
  if x1 < 0 then (
    fs_rz 0) else
  fs_bind (fs_gr a0 0 2) fun r1 =>
  fs_bind (fs_cv r1 2 (f_ArrayList_size r1)) fun v2 =>
  if v2 ≤ x1 then (
    fs_rz 0) else
  fs_rz 1

def f_Preconditions_checkIndex (x0 : Int32) (x1 : Int32) : fs_T Int32 :=
  fs_let (fun (_ : Unit) =>
    fs_fail) fun j9 =>
  if x0 < 0 then (
    j9 ()) else
  if x0 < x1 then (
    fs_ret x0) else
  j9 ()

def f_Objects_checkIndex (x0 : Int32) (x1 : Int32) : fs_T Int32 :=
  fs_bind (f_Preconditions_checkIndex x0 x1) fun v1 =>
  fs_ret v1

def f_ArrayList_elementData (a0 : Nat) (x1 : Int32) : fs_T Nat :=
  fs_bind (fs_gr a0 2 0) fun r1 =>
  fs_bind (fs_ar r1 x1) fun r2 =>
  fs_ret r2

def f_ArrayList_get (a0 : Nat) (x1 : Int32) : fs_T Nat :=
  fs_bind (fs_gi a0 2 1) fun v1 =>
  fs_bind (f_Objects_checkIndex x1 v1) fun v2 =>
  fs_bind (fs_cv a0 2 (f_ArrayList_elementData a0 x1)) fun r3 =>
  fs_ret r3

def f_Fs_size (a0 : Nat) (x1 : Int32) : fs_T Int32 :=
  fs_bind (fs_cv a0 0 (f_Fs_isReport a0 x1)) fun v1 =>
  if v1 = 0 then (
    fs_ret (-1)) else
  fs_bind (fs_gr a0 0 2) fun r2 =>
  fs_bind (fs_cv r2 2 (f_ArrayList_get r2 x1)) fun r3 =>
  fs_bind (fs_ck r3 9) fun _ =>
  fs_bind (fs_gi r3 9 1) fun v4 =>
  fs_ret v4

def f_Fs_rows (a0 : Nat) : fs_T Int32 :=
  fs_bind (fs_gr a0 0 3) fun r1 =>
  fs_bind (fs_gr r1 5 2) fun r2 =>
  fs_bind (fs_gr r2 6 0) fun r3 =>
  fs_bind (fs_cv r3 2 (f_ArrayList_size r3)) fun v4 =>
  fs_ret v4

def f_Fs_isExporter (x0 : Int32) : fs_T Int32 :=
  if x0 = 0 then (
    fs_rz 1) else
  if x0 = 1 then (
    fs_rz 1) else
  fs_rz 0

def f_Fs_exporterOf (a0 : Nat) (x1 : Int32) : fs_T (Nat ⊕ String) :=
  fs_bind (f_Fs_isExporter x1) fun v1 =>
  if v1 = 0 then (
    fs_throw "java/lang/IllegalArgumentException") else
  if x1 = 0 then (
    fs_bind (fs_gr a0 0 0) fun r3 =>
    fs_ret (.inl r3)) else
  fs_bind (fs_gr a0 0 1) fun r2 =>
  fs_ret (.inl r2)

def f_Fs_isByte (x0 : Int32) : fs_T Int32 :=
  if x0 < 0 then (
    fs_rz 0) else
  if 255 < x0 then (
    fs_rz 0) else
  fs_rz 1

def f_Exporter_flowsHeld (a0 : Nat) : fs_T Int32 :=
  fs_bind (fs_gr a0 1 1) fun r1 =>
  fs_bind (fs_cv r1 2 (f_ArrayList_size r1)) fun v2 =>
  fs_bind (fs_gr a0 1 2) fun r3 =>
  fs_bind (fs_cv r3 2 (f_ArrayList_size r3)) fun v4 =>
  fs_ret (v2 + v4)

def f_Exporter_samplesNext (a0 : Nat) : fs_T Int32 :=
  fs_bind (fs_gi a0 1 7) fun v1 =>
  fs_let (fun (v2 : Int32) =>
    fs_bind (fs_gi a0 1 7) fun v3 =>
    fs_bind (fs_gi a0 1 6) fun v4 =>
    fs_let (fun (v6 : Int32) =>
      fs_bind (fs_pi a0 1 7 v6) fun _ =>
      fs_rz v2) fun j37 =>
    if (v3 + 1) < v4 then (
      fs_bind (fs_gi a0 1 7) fun v5 =>
      j37 (v5 + 1)) else
    j37 0) fun j12 =>
  if v1 = 0 then (
    j12 1) else
  j12 0

def f_Flow_hasKey (a0 : Nat) (x1 : Int32) (x2 : Int32) (x3 : Int32) : fs_T Int32 :=
  fs_bind (fs_gi a0 8 0) fun v1 =>
  if v1 = x1 then (
    fs_bind (fs_gi a0 8 1) fun v2 =>
    if v2 = x2 then (
      fs_bind (fs_gi a0 8 2) fun v3 =>
      if v3 = x3 then (
        fs_rz 1) else
      fs_rz 0) else
    fs_rz 0) else
  fs_rz 0

def f_Exporter_placeInCache (a0 : Nat) (x1 : Int32) (x2 : Int32) (x3 : Int32) : fs_T Int32 :=
  fs_lp1 4096 (fun k3 (v1 : Int32) =>
    fs_bind (fs_gr a0 1 1) fun r2 =>
    fs_bind (fs_cv r2 2 (f_ArrayList_size r2)) fun v3 =>
    if v3 ≤ v1 then (
      fs_ret (-1)) else
    fs_bind (fs_gr a0 1 1) fun r4 =>
    fs_bind (fs_cv r4 2 (f_ArrayList_get r4 v1)) fun r5 =>
    fs_bind (fs_ck r5 8) fun _ =>
    fs_bind (fs_cv r5 8 (f_Flow_hasKey r5 x1 x2 x3)) fun v6 =>
    if v6 = 0 then (
      fs_nm ((v1 + 1) : Int32) fun v7 =>
      k3 v7) else
    fs_ret v1) 0

def f_Exporter_leastRecent (a0 : Nat) : fs_T Int32 :=
  fs_lp2 4096 (fun k4 (v1 : Int32) (v2 : Int32) =>
    fs_bind (fs_gr a0 1 1) fun r3 =>
    fs_bind (fs_cv r3 2 (f_ArrayList_size r3)) fun v4 =>
    if v4 ≤ v2 then (
      fs_ret v1) else
    fs_bind (fs_gr a0 1 1) fun r5 =>
    fs_bind (fs_cv r5 2 (f_ArrayList_get r5 v2)) fun r6 =>
    fs_bind (fs_ck r6 8) fun _ =>
    fs_bind (fs_gi r6 8 6) fun v7 =>
    fs_bind (fs_gr a0 1 1) fun r8 =>
    fs_bind (fs_cv r8 2 (f_ArrayList_get r8 v1)) fun r9 =>
    fs_bind (fs_ck r9 8) fun _ =>
    fs_bind (fs_gi r9 8 6) fun v10 =>
    fs_let (fun (v11 : Int32) =>
      fs_nm ((v2 + 1) : Int32) fun v12 =>
      k4 v11 v12) fun j48 =>
    if v10 ≤ v7 then (
      j48 v1) else
    j48 v2) 0 1

def f_ArrayList_fastRemove (a0 : Nat) (a1 : Nat) (x2 : Int32) : fs_T Unit :=
  fs_bind (fs_gi a0 2 2) fun v1 =>
  fs_bind (fs_pi a0 2 2 (v1 + 1)) fun _ =>
  fs_bind (fs_gi a0 2 1) fun v2 =>
  fs_nm ((v2 - 1) : Int32) fun v3 =>
  fs_let (fun (_ : Unit) =>
    fs_bind (fs_pi a0 2 1 v3) fun _ =>
    fs_bind (fs_s0 a1 v3) fun _ =>
    fs_ret ()) fun j34 =>
  if v3 ≤ x2 then (
    j34 ()) else
  fs_bind (fs_cp a1 (x2 + 1) a1 x2 (v3 - x2)) fun _ =>
  j34 ()

def f_ArrayList_remove (a0 : Nat) (x1 : Int32) : fs_T Nat :=
  fs_bind (fs_gi a0 2 1) fun v1 =>
  fs_bind (f_Objects_checkIndex x1 v1) fun v2 =>
  fs_bind (fs_gr a0 2 0) fun r3 =>
  fs_bind (fs_ar r3 x1) fun r4 =>
  fs_bind (fs_cv a0 2 (f_ArrayList_fastRemove a0 r3 x1)) fun _ =>
  fs_ret r4

def f_Math_max (x0 : Int32) (x1 : Int32) : fs_T Int32 :=
  if x0 < x1 then (
    fs_ret x1) else
  fs_ret x0

def f_ArraysSupport_newLength (x0 : Int32) (x1 : Int32) (x2 : Int32) : fs_T Int32 :=
  fs_bind (f_Math_max x1 x2) fun v1 =>
  fs_nm ((x0 + v1) : Int32) fun v2 =>
  fs_let (fun (_ : Unit) =>
    fs_fail) fun j21 =>
  if v2 ≤ 0 then (
    j21 ()) else
  if 2147483639 < v2 then (
    j21 ()) else
  fs_ret v2

def f_Math_min (x0 : Int32) (x1 : Int32) : fs_T Int32 :=
  if x1 < x0 then (
    fs_ret x1) else
  fs_ret x0

def f_Arrays_copyOf_1 (a0 : Nat) (x1 : Int32) (a2 : Nat) : fs_T Nat :=
  fs_bind (fs_gs 2) fun r1 =>
  fs_let (fun (r3 : Nat) =>
    fs_bind (fs_al a0) fun v4 =>
    fs_bind (f_Math_min v4 x1) fun v5 =>
    fs_bind (fs_cp a0 0 r3 0 v5) fun _ =>
    fs_ret r3) fun j24 =>
  if a2 = r1 then (
    fs_bind (fs_nr 3 x1) fun r2 =>
    j24 r2) else
  fs_fail

def f_Arrays_copyOf_0 (a0 : Nat) (x1 : Int32) : fs_T Nat :=
  fs_bind (fs_gc a0) fun r1 =>
  fs_bind (f_Arrays_copyOf_1 a0 x1 r1) fun r2 =>
  fs_ret r2

def f_ArrayList_grow_1 (a0 : Nat) (x1 : Int32) : fs_T Nat :=
  fs_bind (fs_gr a0 2 0) fun r1 =>
  fs_bind (fs_al r1) fun v2 =>
  fs_let (fun (_ : Unit) =>
    fs_bind (f_ArraysSupport_newLength v2 (x1 - v2) (v2 >>> (1 &&& 31))) fun v7 =>
    fs_bind (fs_gr a0 2 0) fun r8 =>
    fs_bind (f_Arrays_copyOf_0 r8 v7) fun r9 =>
    fs_bind (fs_pr a0 2 0 r9) fun _ =>
    fs_ret r9) fun j20 =>
  if 0 < v2 then (
    j20 ()) else
  fs_bind (fs_gr a0 2 0) fun r3 =>
  fs_bind (fs_gs 1) fun r4 =>
  if r3 = r4 then (
    fs_bind (f_Math_max 10 x1) fun v5 =>
    fs_bind (fs_nr 3 v5) fun r6 =>
    fs_bind (fs_pr a0 2 0 r6) fun _ =>
    fs_ret r6) else
  j20 ()

def f_ArrayList_grow_0 (a0 : Nat) : fs_T Nat :=
  fs_bind (fs_gi a0 2 1) fun v1 =>
  fs_bind (fs_cv a0 2 (f_ArrayList_grow_1 a0 (v1 + 1))) fun r2 =>
  fs_ret r2

def f_ArrayList_add_1 (a0 : Nat) (a1 : Nat) (a2 : Nat) (x3 : Int32) : fs_T Unit :=
  fs_bind (fs_al a2) fun v1 =>
  fs_let (fun (r3 : Nat) =>
    fs_bind (fs_sr r3 x3 a1) fun _ =>
    fs_bind (fs_pi a0 2 1 (x3 + 1)) fun _ =>
    fs_ret ()) fun j11 =>
  if x3 = v1 then (
    fs_bind (fs_cv a0 2 (f_ArrayList_grow_0 a0)) fun r2 =>
    j11 r2) else
  j11 a2

def f_ArrayList_add_0 (a0 : Nat) (a1 : Nat) : fs_T Int32 :=
  fs_bind (fs_gi a0 2 2) fun v1 =>
  fs_bind (fs_pi a0 2 2 (v1 + 1)) fun _ =>
  fs_bind (fs_gr a0 2 0) fun r2 =>
  fs_bind (fs_gi a0 2 1) fun v3 =>
  fs_bind (fs_cv a0 2 (f_ArrayList_add_1 a0 a1 r2 v3)) fun _ =>
  fs_rz 1

def f_Exporter_end (a0 : Nat) (x1 : Int32) (x2 : Int32) : fs_T Unit :=
  if x1 < 0 then (
    fs_ret ()) else
  fs_bind (fs_gr a0 1 1) fun r1 =>
  fs_bind (fs_cv r1 2 (f_ArrayList_size r1)) fun v2 =>
  if x1 < v2 then (
    fs_bind (fs_gr a0 1 1) fun r3 =>
    fs_bind (fs_cv r3 2 (f_ArrayList_remove r3 x1)) fun r4 =>
    fs_bind (fs_ck r4 8) fun _ =>
    fs_bind (fs_gi a0 1 4) fun v5 =>
    fs_bind (fs_pi r4 8 7 v5) fun _ =>
    fs_bind (fs_pi r4 8 8 x2) fun _ =>
    fs_bind (fs_gr a0 1 2) fun r6 =>
    fs_bind (fs_cv r6 2 (f_ArrayList_add_0 r6 r4)) fun v7 =>
    fs_ret ()) else
  fs_ret ()

def f_Flow_init (a0 : Nat) (x1 : Int32) (x2 : Int32) (x3 : Int32) (x4 : Int32) : fs_T Unit :=
  fs_bind (fs_pi a0 8 0 x1) fun _ =>
  fs_bind (fs_pi a0 8 1 x2) fun _ =>
  fs_bind (fs_pi a0 8 2 x3) fun _ =>
  fs_bind (fs_pi a0 8 3 x4) fun _ =>
  fs_ret ()

def f_Flow_addPacket (a0 : Nat) (x1 : Int32) (x2 : Int32) : fs_T Unit :=
  fs_bind (fs_gi a0 8 4) fun v1 =>
  fs_bind (fs_pi a0 8 4 (v1 + x1)) fun _ =>
  fs_bind (fs_gi a0 8 5) fun v2 =>
  fs_bind (fs_pi a0 8 5 (v2 + 1)) fun _ =>
  fs_bind (fs_pi a0 8 6 x2) fun _ =>
  fs_ret ()

def f_Exporter_watch (a0 : Nat) (x1 : Int32) (x2 : Int32) (x3 : Int32) (x4 : Int32) (x5 : Int32) : fs_T Unit :=
  fs_bind (fs_cv a0 1 (f_Exporter_placeInCache a0 x1 x2 x3)) fun v1 =>
  fs_let (fun (v12 : Int32) =>
    fs_bind (fs_gr a0 1 1) fun r13 =>
    fs_bind (fs_cv r13 2 (f_ArrayList_get r13 v12)) fun r14 =>
    fs_bind (fs_ck r14 8) fun _ =>
    fs_bind (fs_gi a0 1 4) fun v15 =>
    fs_bind (fs_cv r14 8 (f_Flow_addPacket r14 x4 v15)) fun _ =>
    if x5 = 0 then (
      fs_ret ()) else
    fs_bind (fs_cv a0 1 (f_Exporter_end a0 v12 3)) fun _ =>
    fs_ret ()) fun j69 =>
  if v1 = (-1) then (
    fs_bind (fs_gr a0 1 1) fun r2 =>
    fs_bind (fs_cv r2 2 (f_ArrayList_size r2)) fun v3 =>
    fs_let (fun (_ : Unit) =>
      fs_bind (fs_gr a0 1 1) fun r5 =>
      fs_bind (fs_nw 8 fs_d8) fun r6 =>
      fs_bind (fs_gi a0 1 4) fun v7 =>
      fs_bind (f_Flow_init r6 x1 x2 x3 v7) fun _ =>
      fs_bind (fs_cv r5 2 (f_ArrayList_add_0 r5 r6)) fun v8 =>
      fs_bind (fs_gr a0 1 1) fun r9 =>
      fs_bind (fs_cv r9 2 (f_ArrayList_size r9)) fun v10 =>
      fs_nm ((v10 - 1) : Int32) fun v11 =>
      j69 v11) fun j36 =>
    if v3 < 6 then (
      j36 ()) else
    fs_bind (fs_cv a0 1 (f_Exporter_leastRecent a0)) fun v4 =>
    fs_bind (fs_cv a0 1 (f_Exporter_end a0 v4 4)) fun _ =>
    j36 ()) else
  j69 v1

def f_Fs_packet (a0 : Nat) (x1 : Int32) (x2 : Int32) (x3 : Int32) (x4 : Int32) (x5 : Int32) (x6 : Int32) : fs_T (Int32 ⊕ String) :=
  fs_bindx (fs_cv a0 0 (f_Fs_exporterOf a0 x1)) fun r1 =>
  fs_bind (f_Fs_isByte x2) fun v2 =>
  fs_let (fun (_ : Unit) =>
    fs_throw "java/lang/IllegalArgumentException") fun j29 =>
  if v2 = 0 then (
    j29 ()) else
  fs_bind (f_Fs_isByte x3) fun v3 =>
  if v3 = 0 then (
    j29 ()) else
  fs_bind (f_Fs_isByte x4) fun v4 =>
  if v4 = 0 then (
    j29 ()) else
  fs_let (fun (_ : Unit) =>
    fs_throw "java/lang/IllegalArgumentException") fun j52 =>
  if x5 < 0 then (
    j52 ()) else
  if x5 ≤ 9999 then (
    fs_bind (fs_cv r1 1 (f_Exporter_flowsHeld r1)) fun v5 =>
    if v5 < 20 then (
      fs_bind (fs_cv r1 1 (f_Exporter_samplesNext r1)) fun v6 =>
      if v6 = 0 then (
        fs_rzx 0) else
      fs_bind (fs_cv r1 1 (f_Exporter_watch r1 x2 x3 x4 x5 x6)) fun _ =>
      fs_rzx 1) else
    fs_throw "java/lang/IllegalStateException") else
  j52 ()

def f_Flow_reasonToEnd (a0 : Nat) (x1 : Int32) : fs_T Int32 :=
  fs_bind (fs_gi a0 8 6) fun v1 =>
  if (x1 - v1) < 15 then (
    fs_bind (fs_gi a0 8 3) fun v2 =>
    if (x1 - v2) < 60 then (
      fs_ret 0) else
    fs_ret 2) else
  fs_ret 1

def f_Exporter_passTick (a0 : Nat) : fs_T Int32 :=
  fs_bind (fs_gi a0 1 4) fun v1 =>
  fs_bind (fs_pi a0 1 4 (v1 + 1)) fun _ =>
  fs_bind (fs_gr a0 1 1) fun r2 =>
  fs_bind (fs_cv r2 2 (f_ArrayList_size r2)) fun v3 =>
  fs_lp2 4096 (fun k22 (v4 : Int32) (v5 : Int32) =>
    if v3 ≤ v5 then (
      fs_bind (fs_gr a0 1 1) fun r6 =>
      fs_bind (fs_cv r6 2 (f_ArrayList_size r6)) fun v7 =>
      fs_ret (v3 - v7)) else
    fs_bind (fs_gr a0 1 1) fun r8 =>
    fs_bind (fs_cv r8 2 (f_ArrayList_get r8 v4)) fun r9 =>
    fs_bind (fs_ck r9 8) fun _ =>
    fs_bind (fs_gi a0 1 4) fun v10 =>
    fs_bind (fs_cv r9 8 (f_Flow_reasonToEnd r9 v10)) fun v11 =>
    fs_let (fun (v13 : Int32) =>
      fs_nm ((v5 + 1) : Int32) fun v14 =>
      k22 v13 v14) fun j65 =>
    if v11 = 0 then (
      fs_nm ((v4 + 1) : Int32) fun v12 =>
      j65 v12) else
    fs_bind (fs_cv a0 1 (f_Exporter_end a0 v4 v11)) fun _ =>
    j65 v4) 0 0

def f_Fs_tick (a0 : Nat) (x1 : Int32) (x2 : Int32) : fs_T (Int32 ⊕ String) :=
  fs_bindx (fs_cv a0 0 (f_Fs_exporterOf a0 x1)) fun r1 =>
  fs_let (fun (_ : Unit) =>
    fs_throw "java/lang/IllegalArgumentException") fun j17 =>
  if x2 < 1 then (
    j17 ()) else
  if x2 ≤ 100 then (
    fs_lp2 4096 (fun k33 (v2 : Int32) (v3 : Int32) =>
      if x2 ≤ v3 then (
        fs_ret (.inl v2)) else
      fs_bind (fs_cv r1 1 (f_Exporter_passTick r1)) fun v4 =>
      fs_nm ((v2 + v4) : Int32) fun v5 =>
      fs_nm ((v3 + 1) : Int32) fun v6 =>
      k33 v5 v6) 0 0) else
  j17 ()

def f_Exporter_flushCache (a0 : Nat) : fs_T Int32 :=
  fs_bind (fs_gr a0 1 1) fun r1 =>
  fs_bind (fs_cv r1 2 (f_ArrayList_size r1)) fun v2 =>
  fs_lp1 4096 (fun k10 (v3 : Int32) =>
    if v2 ≤ v3 then (
      fs_ret v2) else
    fs_bind (fs_cv a0 1 (f_Exporter_end a0 0 5)) fun _ =>
    fs_nm ((v3 + 1) : Int32) fun v4 =>
    k10 v4) 0

def f_Fs_flush (a0 : Nat) (x1 : Int32) : fs_T (Int32 ⊕ String) :=
  fs_bindx (fs_cv a0 0 (f_Fs_exporterOf a0 x1)) fun r1 =>
  fs_bind (fs_cv r1 1 (f_Exporter_flushCache r1)) fun v2 =>
  fs_ret (.inl v2)

def f_Exporter_sampleEvery (a0 : Nat) (x1 : Int32) : fs_T Unit :=
  fs_bind (fs_pi a0 1 6 x1) fun _ =>
  fs_bind (fs_pi a0 1 7 0) fun _ =>
  fs_ret ()

def f_Fs_sampler (a0 : Nat) (x1 : Int32) (x2 : Int32) : fs_T (Unit ⊕ String) :=
  fs_bindx (fs_cv a0 0 (f_Fs_exporterOf a0 x1)) fun r1 =>
  fs_let (fun (_ : Unit) =>
    fs_throw "java/lang/IllegalArgumentException") fun j17 =>
  if x2 < 1 then (
    j17 ()) else
  if x2 ≤ 9 then (
    fs_bind (fs_cv r1 1 (f_Exporter_sampleEvery r1 x2)) fun _ =>
    fs_ret (.inl ())) else
  j17 ()

def f_Fs_requireField (x0 : Int32) : fs_T (Unit ⊕ String) :=
  fs_let (fun (_ : Unit) =>
    fs_throw "java/lang/IllegalArgumentException") fun j10 =>
  if x0 < 0 then (
    j10 ()) else
  if x0 < 8 then (
    fs_ret (.inl ())) else
  j10 ()

def f_Flow_valueOf (a0 : Nat) (x1 : Int32) : fs_T Int32 :=
  if x1 = 0 then (
    fs_bind (fs_gi a0 8 0) fun v1 =>
    fs_ret v1) else
  if x1 = 1 then (
    fs_bind (fs_gi a0 8 1) fun v2 =>
    fs_ret v2) else
  if x1 = 2 then (
    fs_bind (fs_gi a0 8 2) fun v3 =>
    fs_ret v3) else
  if x1 = 3 then (
    fs_bind (fs_gi a0 8 4) fun v4 =>
    fs_ret v4) else
  if x1 = 4 then (
    fs_bind (fs_gi a0 8 5) fun v5 =>
    fs_ret v5) else
  if x1 = 5 then (
    fs_bind (fs_gi a0 8 3) fun v6 =>
    fs_ret v6) else
  if x1 = 6 then (
    fs_bind (fs_gi a0 8 7) fun v7 =>
    fs_ret v7) else
  fs_bind (fs_gi a0 8 8) fun v8 =>
  fs_ret v8

def f_Fs_ended (a0 : Nat) (x1 : Int32) (x2 : Int32) (x3 : Int32) : fs_T (Int32 ⊕ String) :=
  fs_bindx (fs_cv a0 0 (f_Fs_exporterOf a0 x1)) fun r1 =>
  fs_bindx (f_Fs_requireField x3) fun _ =>
  fs_let (fun (_ : Unit) =>
    fs_throw "java/lang/IndexOutOfBoundsException") fun j27 =>
  if x2 < 0 then (
    j27 ()) else
  fs_bind (fs_gr r1 1 2) fun r2 =>
  fs_bind (fs_cv r2 2 (f_ArrayList_size r2)) fun v3 =>
  if x2 < v3 then (
    fs_bind (fs_gr r1 1 2) fun r4 =>
    fs_bind (fs_cv r4 2 (f_ArrayList_get r4 x2)) fun r5 =>
    fs_bind (fs_ck r5 8) fun _ =>
    fs_bind (fs_cv r5 8 (f_Flow_valueOf r5 x3)) fun v6 =>
    fs_ret (.inl v6)) else
  j27 ()

def f_Fs_slotOf (a0 : Nat) (x1 : Int32) (x2 : Int32) : fs_T (Nat ⊕ String) :=
  fs_bindx (fs_cv a0 0 (f_Fs_exporterOf a0 x1)) fun r1 =>
  fs_let (fun (_ : Unit) =>
    fs_throw "java/lang/IllegalArgumentException") fun j15 =>
  if x2 < 0 then (
    j15 ()) else
  if x2 < 3 then (
    fs_bind (fs_gr r1 1 3) fun r2 =>
    fs_bind (fs_ar r2 x2) fun r3 =>
    fs_ret (.inl r3)) else
  j15 ()

def f_Layout_has (a0 : Nat) (x1 : Int32) : fs_T Int32 :=
  fs_lp1 4096 (fun k2 (v1 : Int32) =>
    fs_bind (fs_gi a0 4 2) fun v2 =>
    if v2 ≤ v1 then (
      fs_rz 0) else
    fs_bind (fs_gr a0 4 0) fun r3 =>
    fs_bind (fs_ai r3 v1) fun v4 =>
    if v4 = x1 then (
      fs_rz 1) else
    fs_nm ((v1 + 1) : Int32) fun v5 =>
    k2 v5) 0

def f_Layout_append (a0 : Nat) (x1 : Int32) (x2 : Int32) : fs_T Unit :=
  fs_bind (fs_gi a0 4 2) fun v1 =>
  if 8 ≤ v1 then (
    fs_ret ()) else
  fs_bind (fs_gr a0 4 0) fun r2 =>
  fs_bind (fs_gi a0 4 2) fun v3 =>
  fs_bind (fs_si r2 v3 x1) fun _ =>
  fs_bind (fs_gr a0 4 1) fun r4 =>
  fs_bind (fs_gi a0 4 2) fun v5 =>
  fs_bind (fs_si r4 v5 x2) fun _ =>
  fs_bind (fs_gi a0 4 2) fun v6 =>
  fs_bind (fs_pi a0 4 2 (v6 + 1)) fun _ =>
  fs_ret ()

def f_Fs_field (a0 : Nat) (x1 : Int32) (x2 : Int32) (x3 : Int32) (x4 : Int32) : fs_T (Int32 ⊕ String) :=
  fs_bindx (fs_cv a0 0 (f_Fs_slotOf a0 x1 x2)) fun r1 =>
  fs_bindx (f_Fs_requireField x3) fun _ =>
  fs_let (fun (_ : Unit) =>
    fs_throw "java/lang/IllegalArgumentException") fun j23 =>
  if x4 < 0 then (
    j23 ()) else
  if x4 ≤ 4 then (
    fs_let (fun (_ : Unit) =>
      fs_bind (fs_gr r1 3 1) fun r4 =>
      fs_bind (fs_cv r4 4 (f_Layout_has r4 x3)) fun v5 =>
      if v5 = 0 then (
        fs_bind (fs_gr r1 3 1) fun r6 =>
        fs_bind (fs_cv r6 4 (f_Layout_append r6 x3 x4)) fun _ =>
        fs_bind (fs_gr r1 3 1) fun r7 =>
        fs_bind (fs_gi r7 4 2) fun v8 =>
        fs_ret (.inl v8)) else
      fs_throw "java/lang/IllegalStateException") fun j58 =>
    if x4 = 0 then (
      j58 ()) else
    fs_bind (fs_gs 0) fun r2 =>
    fs_bind (fs_ai r2 x3) fun v3 =>
    if v3 ≤ x4 then (
      j58 ()) else
    fs_throw "java/lang/IllegalArgumentException") else
  j23 ()

def f_Exporter_nextSeal (a0 : Nat) : fs_T Int32 :=
  fs_bind (fs_gi a0 1 8) fun v1 =>
  fs_bind (fs_pi a0 1 8 (v1 + 1)) fun _ =>
  fs_bind (fs_gi a0 1 8) fun v2 =>
  fs_ret v2

def f_Slot_putInForce (a0 : Nat) (x1 : Int32) : fs_T Unit :=
  fs_bind (fs_gr a0 3 2) fun r1 =>
  fs_bind (fs_gr a0 3 1) fun r2 =>
  fs_bind (fs_pr a0 3 2 r2) fun _ =>
  fs_bind (fs_pr a0 3 1 r1) fun _ =>
  fs_bind (fs_gr a0 3 1) fun r3 =>
  fs_bind (fs_pi r3 4 2 0) fun _ =>
  fs_bind (fs_pz a0 3 3 1) fun _ =>
  fs_bind (fs_gi a0 3 4) fun v4 =>
  fs_bind (fs_pi a0 3 4 (v4 + 1)) fun _ =>
  fs_bind (fs_pi a0 3 5 x1) fun _ =>
  fs_ret ()

def f_Fs_seal (a0 : Nat) (x1 : Int32) (x2 : Int32) : fs_T (Int32 ⊕ String) :=
  fs_bindx (fs_cv a0 0 (f_Fs_slotOf a0 x1 x2)) fun r1 =>
  fs_bind (fs_gr r1 3 1) fun r2 =>
  fs_bind (fs_gi r2 4 2) fun v3 =>
  fs_let (fun (_ : Unit) =>
    fs_throw "java/lang/IllegalStateException") fun j24 =>
  if v3 = 0 then (
    j24 ()) else
  fs_bind (fs_gi r1 3 3) fun v4 =>
  if v4 = 0 then (
    fs_bindx (fs_cv a0 0 (f_Fs_exporterOf a0 x1)) fun r5 =>
    fs_bind (fs_cv r5 1 (f_Exporter_nextSeal r5)) fun v6 =>
    fs_bind (fs_cv r1 3 (f_Slot_putInForce r1 v6)) fun _ =>
    fs_bind (fs_gi r1 3 4) fun v7 =>
    fs_ret (.inl v7)) else
  j24 ()

def f_Fs_withdraw (a0 : Nat) (x1 : Int32) (x2 : Int32) : fs_T (Unit ⊕ String) :=
  fs_bindx (fs_cv a0 0 (f_Fs_slotOf a0 x1 x2)) fun r1 =>
  fs_bind (fs_gi r1 3 3) fun v2 =>
  if v2 = 0 then (
    fs_throw "java/lang/IllegalStateException") else
  fs_bind (fs_pz r1 3 3 0) fun _ =>
  fs_ret (.inl ())

def f_ArrayList_clear (a0 : Nat) : fs_T Unit :=
  fs_bind (fs_gi a0 2 2) fun v1 =>
  fs_bind (fs_pi a0 2 2 (v1 + 1)) fun _ =>
  fs_bind (fs_gr a0 2 0) fun r2 =>
  fs_bind (fs_gi a0 2 1) fun v3 =>
  fs_bind (fs_pi a0 2 1 0) fun _ =>
  fs_lp1 4096 (fun k27 (v4 : Int32) =>
    if v3 ≤ v4 then (
      fs_ret ()) else
    fs_bind (fs_s0 r2 v4) fun _ =>
    fs_nm ((v4 + 1) : Int32) fun v5 =>
    k27 v5) 0

def f_Slot_forget (a0 : Nat) : fs_T Unit :=
  fs_bind (fs_gr a0 3 1) fun r1 =>
  fs_bind (fs_pi r1 4 2 0) fun _ =>
  fs_bind (fs_pz a0 3 3 0) fun _ =>
  fs_bind (fs_pi a0 3 4 0) fun _ =>
  fs_ret ()

def f_Exporter_beginNextEpoch (a0 : Nat) : fs_T Unit :=
  fs_bind (fs_gi a0 1 5) fun v1 =>
  fs_bind (fs_pi a0 1 5 (v1 + 1)) fun _ =>
  fs_bind (fs_gr a0 1 1) fun r2 =>
  fs_bind (fs_cv r2 2 (f_ArrayList_clear r2)) fun _ =>
  fs_bind (fs_gr a0 1 2) fun r3 =>
  fs_bind (fs_cv r3 2 (f_ArrayList_clear r3)) fun _ =>
  fs_lp1 4096 (fun k26 (v4 : Int32) =>
    if 3 ≤ v4 then (
      fs_bind (fs_cv a0 1 (f_Exporter_sampleEvery a0 1)) fun _ =>
      fs_bind (fs_pi a0 1 9 0) fun _ =>
      fs_bind (fs_pi a0 1 10 0) fun _ =>
      fs_ret ()) else
    fs_bind (fs_gr a0 1 3) fun r5 =>
    fs_bind (fs_ar r5 v4) fun r6 =>
    fs_bind (fs_cv r6 3 (f_Slot_forget r6)) fun _ =>
    fs_nm ((v4 + 1) : Int32) fun v7 =>
    k26 v7) 0

def f_Fs_restart (a0 : Nat) (x1 : Int32) : fs_T (Int32 ⊕ String) :=
  fs_bindx (fs_cv a0 0 (f_Fs_exporterOf a0 x1)) fun r1 =>
  fs_bind (fs_gi r1 1 5) fun v2 =>
  if v2 < 5 then (
    fs_bind (fs_cv r1 1 (f_Exporter_beginNextEpoch r1)) fun _ =>
    fs_bind (fs_gi r1 1 5) fun v3 =>
    fs_ret (.inl v3)) else
  fs_throw "java/lang/IllegalStateException"

def f_Fs_hasNoRoomForReport (a0 : Nat) : fs_T Int32 :=
  fs_bind (fs_gr a0 0 2) fun r1 =>
  fs_bind (fs_cv r1 2 (f_ArrayList_size r1)) fun v2 =>
  if v2 < 30 then (
    fs_rz 0) else
  fs_rz 1

def f_Report_init_0 (a0 : Nat) (x1 : Int32) (x2 : Int32) (x3 : Int32) : fs_T Unit :=
  fs_bind (fs_ni 64) fun r1 =>
  fs_bind (fs_pr a0 9 0 r1) fun _ =>
  fs_bind (fs_gr a0 9 0) fun r2 =>
  fs_bind (fs_si r2 0 x1) fun _ =>
  fs_bind (fs_gr a0 9 0) fun r3 =>
  fs_bind (fs_si r3 1 x2) fun _ =>
  fs_bind (fs_gr a0 9 0) fun r4 =>
  fs_bind (fs_si r4 2 x3) fun _ =>
  fs_bind (fs_pi a0 9 1 3) fun _ =>
  fs_ret ()

def f_Report_append (a0 : Nat) (x1 : Int32) : fs_T Unit :=
  fs_bind (fs_gi a0 9 1) fun v1 =>
  if 64 ≤ v1 then (
    fs_ret ()) else
  fs_bind (fs_gr a0 9 0) fun r2 =>
  fs_bind (fs_gi a0 9 1) fun v3 =>
  fs_bind (fs_si r2 v3 (x1 &&& 255)) fun _ =>
  fs_bind (fs_gi a0 9 1) fun v4 =>
  fs_bind (fs_pi a0 9 1 (v4 + 1)) fun _ =>
  fs_ret ()

def f_Exporter_writeTemplate (a0 : Nat) (a1 : Nat) : fs_T Nat :=
  fs_bind (fs_nw 9 fs_d9) fun r1 =>
  fs_bind (fs_gi a0 1 0) fun v2 =>
  fs_bind (fs_gi a0 1 5) fun v3 =>
  fs_bind (f_Report_init_0 r1 v2 v3 0) fun _ =>
  fs_bind (fs_gi a1 3 0) fun v4 =>
  fs_bind (fs_cv r1 9 (f_Report_append r1 v4)) fun _ =>
  fs_bind (fs_gi a1 3 4) fun v5 =>
  fs_bind (fs_cv r1 9 (f_Report_append r1 v5)) fun _ =>
  fs_bind (fs_gr a1 3 2) fun r6 =>
  fs_bind (fs_gi r6 4 2) fun v7 =>
  fs_bind (fs_cv r1 9 (f_Report_append r1 v7)) fun _ =>
  fs_lp1 4096 (fun k46 (v8 : Int32) =>
    fs_bind (fs_gr a1 3 2) fun r9 =>
    fs_bind (fs_gi r9 4 2) fun v10 =>
    if v10 ≤ v8 then (
      fs_ret r1) else
    fs_bind (fs_gr a1 3 2) fun r11 =>
    fs_bind (fs_gr r11 4 0) fun r12 =>
    fs_bind (fs_ai r12 v8) fun v13 =>
    fs_bind (fs_cv r1 9 (f_Report_append r1 v13)) fun _ =>
    fs_bind (fs_gr a1 3 2) fun r14 =>
    fs_bind (fs_gr r14 4 1) fun r15 =>
    fs_bind (fs_ai r15 v8) fun v16 =>
    fs_bind (fs_cv r1 9 (f_Report_append r1 v16)) fun _ =>
    fs_nm ((v8 + 1) : Int32) fun v17 =>
    k46 v17) 0

def f_Fs_keep (a0 : Nat) (a1 : Nat) : fs_T Int32 :=
  fs_bind (fs_gr a0 0 2) fun r1 =>
  fs_bind (fs_cv r1 2 (f_ArrayList_add_0 r1 a1)) fun v2 =>
  fs_bind (fs_gr a0 0 2) fun r3 =>
  fs_bind (fs_cv r3 2 (f_ArrayList_size r3)) fun v4 =>
  fs_ret (v4 - 1)

def f_Fs_announce (a0 : Nat) (x1 : Int32) (x2 : Int32) : fs_T (Int32 ⊕ String) :=
  fs_bindx (fs_cv a0 0 (f_Fs_slotOf a0 x1 x2)) fun r1 =>
  fs_bind (fs_gi r1 3 3) fun v2 =>
  fs_let (fun (_ : Unit) =>
    fs_throw "java/lang/IllegalStateException") fun j21 =>
  if v2 = 0 then (
    j21 ()) else
  fs_bind (fs_cv a0 0 (f_Fs_hasNoRoomForReport a0)) fun v3 =>
  if v3 = 0 then (
    fs_bindx (fs_cv a0 0 (f_Fs_exporterOf a0 x1)) fun r4 =>
    fs_bind (fs_cv r4 1 (f_Exporter_writeTemplate r4 r1)) fun r5 =>
    fs_bind (fs_cv a0 0 (f_Fs_keep a0 r5)) fun v6 =>
    fs_ret (.inl v6)) else
  j21 ()

def f_Exporter_numberSealedLast (a0 : Nat) : fs_T Int32 :=
  fs_lp2 4096 (fun k4 (v1 : Int32) (v2 : Int32) =>
    if 3 ≤ v2 then (
      fs_ret v1) else
    fs_bind (fs_gr a0 1 3) fun r3 =>
    fs_bind (fs_ar r3 v2) fun r4 =>
    fs_bind (fs_gi r4 3 3) fun v5 =>
    fs_let (fun (v12 : Int32) =>
      fs_nm ((v2 + 1) : Int32) fun v13 =>
      k4 v12 v13) fun j49 =>
    if v5 = 0 then (
      j49 v1) else
    fs_let (fun (_ : Unit) =>
      j49 v2) fun j47 =>
    if v1 = (-1) then (
      j47 ()) else
    fs_bind (fs_gr a0 1 3) fun r6 =>
    fs_bind (fs_ar r6 v2) fun r7 =>
    fs_bind (fs_gi r7 3 5) fun v8 =>
    fs_bind (fs_gr a0 1 3) fun r9 =>
    fs_bind (fs_ar r9 v1) fun r10 =>
    fs_bind (fs_gi r10 3 5) fun v11 =>
    if v8 ≤ v11 then (
      j49 v1) else
    j47 ()) (-1) 0

def f_ArrayList_isEmpty (a0 : Nat) : fs_T Int32 :=
  fs_bind (fs_gi a0 2 1) fun v1 =>
  if v1 = 0 then (
    fs_rz 1) else
  fs_rz 0

def f_Layout_fewestBytes (x0 : Int32) : fs_T Int32 :=
  fs_nm ((fs_ushr x0 8) : Int32) fun v1 =>
  fs_lp2 4096 (fun k7 (v2 : Int32) (v3 : Int32) =>
    fs_let (fun (_ : Unit) =>
      fs_ret v2) fun j27 =>
    if v3 = 0 then (
      j27 ()) else
    if 4 ≤ v2 then (
      j27 ()) else
    fs_nm ((v2 + 1) : Int32) fun v4 =>
    fs_nm ((fs_ushr v3 8) : Int32) fun v5 =>
    k7 v4 v5) 1 v1

def f_Layout_bytesFor (a0 : Nat) (a1 : Nat) : fs_T Int32 :=
  fs_lp2 4096 (fun k4 (v1 : Int32) (v2 : Int32) =>
    fs_bind (fs_gi a0 4 2) fun v3 =>
    if v3 ≤ v2 then (
      fs_ret v1) else
    fs_bind (fs_gr a0 4 1) fun r4 =>
    fs_bind (fs_ai r4 v2) fun v5 =>
    fs_let (fun (v12 : Int32) =>
      fs_nm ((v1 + v12) : Int32) fun v13 =>
      fs_nm ((v2 + 1) : Int32) fun v14 =>
      k4 v13 v14) fun j46 =>
    if v5 = 0 then (
      fs_bind (fs_gr a0 4 0) fun r8 =>
      fs_bind (fs_ai r8 v2) fun v9 =>
      fs_bind (fs_cv a1 8 (f_Flow_valueOf a1 v9)) fun v10 =>
      fs_bind (f_Layout_fewestBytes v10) fun v11 =>
      j46 (1 + v11)) else
    fs_bind (fs_gr a0 4 1) fun r6 =>
    fs_bind (fs_ai r6 v2) fun v7 =>
    j46 v7) 0 0

def f_Exporter_recordsThatFit (a0 : Nat) (a1 : Nat) : fs_T Int32 :=
  fs_bind (fs_gr a0 1 2) fun r1 =>
  fs_bind (fs_cv r1 2 (f_ArrayList_size r1)) fun v2 =>
  fs_bind (fs_gi a0 1 9) fun v3 =>
  fs_bind (f_Math_min v2 (100 - v3)) fun v4 =>
  fs_lp2 4096 (fun k24 (v5 : Int32) (v6 : Int32) =>
    if v4 ≤ v6 then (
      fs_ret v4) else
    fs_bind (fs_gr a0 1 2) fun r7 =>
    fs_bind (fs_cv r7 2 (f_ArrayList_get r7 v6)) fun r8 =>
    fs_bind (fs_ck r8 8) fun _ =>
    fs_bind (fs_cv a1 4 (f_Layout_bytesFor a1 r8)) fun v9 =>
    fs_nm ((v5 + v9) : Int32) fun v10 =>
    if v10 ≤ 64 then (
      fs_nm ((v6 + 1) : Int32) fun v11 =>
      k24 v10 v11) else
    fs_ret v6) 7 0

def f_Report_appendNumber (a0 : Nat) (x1 : Int32) (x2 : Int32) : fs_T Unit :=
  fs_nm ((x2 - 1) : Int32) fun v1 =>
  fs_lp1 4096 (fun k4 (v2 : Int32) =>
    if v2 < 0 then (
      fs_ret ()) else
    fs_bind (fs_cv a0 9 (f_Report_append a0 (fs_ushr x1 (8 * v2)))) fun _ =>
    fs_nm ((v2 + (-1)) : Int32) fun v3 =>
    k4 v3) v1

def f_Layout_write (a0 : Nat) (a1 : Nat) (a2 : Nat) : fs_T Unit :=
  fs_lp1 4096 (fun k2 (v1 : Int32) =>
    fs_bind (fs_gi a0 4 2) fun v2 =>
    if v2 ≤ v1 then (
      fs_ret ()) else
    fs_bind (fs_gr a0 4 0) fun r3 =>
    fs_bind (fs_ai r3 v1) fun v4 =>
    fs_bind (fs_cv a1 8 (f_Flow_valueOf a1 v4)) fun v5 =>
    fs_bind (fs_gr a0 4 1) fun r6 =>
    fs_bind (fs_ai r6 v1) fun v7 =>
    fs_let (fun (v9 : Int32) =>
      fs_bind (fs_cv a2 9 (f_Report_appendNumber a2 v5 v9)) fun _ =>
      fs_nm ((v1 + 1) : Int32) fun v10 =>
      k2 v10) fun j48 =>
    if v7 = 0 then (
      fs_bind (f_Layout_fewestBytes v5) fun v8 =>
      fs_bind (fs_cv a2 9 (f_Report_append a2 v8)) fun _ =>
      j48 v8) else
    j48 v7) 0

def f_Exporter_writeRecords (a0 : Nat) (a1 : Nat) : fs_T Nat :=
  fs_bind (fs_gr a1 3 2) fun r1 =>
  fs_bind (fs_cv a0 1 (f_Exporter_recordsThatFit a0 r1)) fun v2 =>
  fs_bind (fs_nw 9 fs_d9) fun r3 =>
  fs_bind (fs_gi a0 1 0) fun v4 =>
  fs_bind (fs_gi a0 1 5) fun v5 =>
  fs_bind (f_Report_init_0 r3 v4 v5 1) fun _ =>
  fs_bind (fs_gi a1 3 0) fun v6 =>
  fs_bind (fs_cv r3 9 (f_Report_append r3 v6)) fun _ =>
  fs_bind (fs_gi a1 3 4) fun v7 =>
  fs_bind (fs_cv r3 9 (f_Report_append r3 v7)) fun _ =>
  fs_bind (fs_cv r3 9 (f_Report_append r3 v2)) fun _ =>
  fs_bind (fs_gi a0 1 9) fun v8 =>
  fs_bind (fs_cv r3 9 (f_Report_append r3 v8)) fun _ =>
  fs_lp1 4096 (fun k58 (v9 : Int32) =>
    fs_let (fun (_ : Unit) =>
      fs_bind (fs_gi a0 1 9) fun v16 =>
      fs_bind (fs_pi a0 1 9 (v16 + v2)) fun _ =>
      fs_ret r3) fun j99 =>
    if v2 ≤ v9 then (
      j99 ()) else
    fs_bind (fs_gr a0 1 2) fun r10 =>
    fs_bind (fs_cv r10 2 (f_ArrayList_isEmpty r10)) fun v11 =>
    if v11 = 0 then (
      fs_bind (fs_gr a1 3 2) fun r12 =>
      fs_bind (fs_gr a0 1 2) fun r13 =>
      fs_bind (fs_cv r13 2 (f_ArrayList_remove r13 0)) fun r14 =>
      fs_bind (fs_ck r14 8) fun _ =>
      fs_bind (fs_cv r12 4 (f_Layout_write r12 r14 r3)) fun _ =>
      fs_nm ((v9 + 1) : Int32) fun v15 =>
      k58 v15) else
    j99 ()) 0

def f_Fs_report (a0 : Nat) (x1 : Int32) : fs_T (Int32 ⊕ String) :=
  fs_bindx (fs_cv a0 0 (f_Fs_exporterOf a0 x1)) fun r1 =>
  fs_bind (fs_cv r1 1 (f_Exporter_numberSealedLast r1)) fun v2 =>
  fs_let (fun (_ : Unit) =>
    fs_throw "java/lang/IllegalStateException") fun j23 =>
  if v2 = (-1) then (
    j23 ()) else
  fs_bind (fs_cv a0 0 (f_Fs_hasNoRoomForReport a0)) fun v3 =>
  if v3 = 0 then (
    fs_bind (fs_gr r1 1 2) fun r4 =>
    fs_bind (fs_cv r4 2 (f_ArrayList_isEmpty r4)) fun v5 =>
    fs_let (fun (_ : Unit) =>
      fs_throw "java/lang/IllegalStateException") fun j52 =>
    if v5 = 0 then (
      fs_bind (fs_gi r1 1 9) fun v6 =>
      if v6 < 100 then (
        fs_bind (fs_gr r1 1 3) fun r7 =>
        fs_bind (fs_ar r7 v2) fun r8 =>
        fs_bind (fs_cv r1 1 (f_Exporter_writeRecords r1 r8)) fun r9 =>
        fs_bind (fs_cv a0 0 (f_Fs_keep a0 r9)) fun v10 =>
        fs_ret (.inl v10)) else
      j52 ()) else
    j52 ()) else
  j23 ()

def f_Exporter_writeSampler (a0 : Nat) : fs_T Nat :=
  fs_bind (fs_nw 9 fs_d9) fun r1 =>
  fs_bind (fs_gi a0 1 0) fun v2 =>
  fs_bind (fs_gi a0 1 5) fun v3 =>
  fs_bind (f_Report_init_0 r1 v2 v3 2) fun _ =>
  fs_bind (fs_gi a0 1 10) fun v4 =>
  fs_bind (fs_cv r1 9 (f_Report_append r1 v4)) fun _ =>
  fs_bind (fs_gi a0 1 6) fun v5 =>
  fs_bind (fs_cv r1 9 (f_Report_append r1 v5)) fun _ =>
  fs_bind (fs_gi a0 1 10) fun v6 =>
  fs_bind (fs_pi a0 1 10 (v6 + 1)) fun _ =>
  fs_ret r1

def f_Fs_tell (a0 : Nat) (x1 : Int32) : fs_T (Int32 ⊕ String) :=
  fs_bindx (fs_cv a0 0 (f_Fs_exporterOf a0 x1)) fun r1 =>
  fs_bind (fs_cv a0 0 (f_Fs_hasNoRoomForReport a0)) fun v2 =>
  if v2 = 0 then (
    fs_bind (fs_cv r1 1 (f_Exporter_writeSampler r1)) fun r3 =>
    fs_bind (fs_cv a0 0 (f_Fs_keep a0 r3)) fun v4 =>
    fs_ret (.inl v4)) else
  fs_throw "java/lang/IllegalStateException"

def f_Fs_reportOf (a0 : Nat) (x1 : Int32) : fs_T (Nat ⊕ String) :=
  fs_bind (fs_cv a0 0 (f_Fs_isReport a0 x1)) fun v1 =>
  if v1 = 0 then (
    fs_throw "java/lang/IndexOutOfBoundsException") else
  fs_bind (fs_gr a0 0 2) fun r2 =>
  fs_bind (fs_cv r2 2 (f_ArrayList_get r2 x1)) fun r3 =>
  fs_bind (fs_ck r3 9) fun _ =>
  fs_ret (.inl r3)

def f_Fs_reportWithByte (a0 : Nat) (x1 : Int32) (x2 : Int32) : fs_T (Nat ⊕ String) :=
  fs_bindx (fs_cv a0 0 (f_Fs_reportOf a0 x1)) fun r1 =>
  fs_let (fun (_ : Unit) =>
    fs_throw "java/lang/IndexOutOfBoundsException") fun j18 =>
  if x2 < 0 then (
    j18 ()) else
  fs_bind (fs_gi r1 9 1) fun v2 =>
  if x2 < v2 then (
    fs_ret (.inl r1)) else
  j18 ()

def f_Fs_byteOf (a0 : Nat) (x1 : Int32) (x2 : Int32) : fs_T (Int32 ⊕ String) :=
  fs_bindx (fs_cv a0 0 (f_Fs_reportWithByte a0 x1 x2)) fun r1 =>
  fs_bind (fs_gr r1 9 0) fun r2 =>
  fs_bind (fs_ai r2 x2) fun v3 =>
  fs_ret (.inl v3)

def f_Fs_poke (a0 : Nat) (x1 : Int32) (x2 : Int32) (x3 : Int32) : fs_T (Unit ⊕ String) :=
  fs_bindx (fs_cv a0 0 (f_Fs_reportWithByte a0 x1 x2)) fun r1 =>
  fs_bind (f_Fs_isByte x3) fun v2 =>
  if v2 = 0 then (
    fs_throw "java/lang/IllegalArgumentException") else
  fs_bind (fs_gr r1 9 0) fun r3 =>
  fs_bind (fs_si r3 x2 x3) fun _ =>
  fs_ret (.inl ())

def f_Report_exporter (a0 : Nat) : fs_T Int32 :=
  fs_bind (fs_gr a0 9 0) fun r1 =>
  fs_bind (fs_ai r1 0) fun v2 =>
  fs_ret v2

def f_Report_epoch (a0 : Nat) : fs_T Int32 :=
  fs_bind (fs_gr a0 9 0) fun r1 =>
  fs_bind (fs_ai r1 1) fun v2 =>
  fs_ret v2

def f_Report_kind (a0 : Nat) : fs_T Int32 :=
  fs_bind (fs_gr a0 9 0) fun r1 =>
  fs_bind (fs_ai r1 2) fun v2 =>
  fs_ret v2

def f_Report_namesNoTemplate (a0 : Nat) : fs_T Int32 :=
  fs_bind (fs_gr a0 9 0) fun r1 =>
  fs_bind (fs_ai r1 3) fun v2 =>
  if 3 ≤ v2 then (
    fs_rz 1) else
  fs_bind (fs_gr a0 9 0) fun r3 =>
  fs_bind (fs_ai r3 4) fun v4 =>
  if v4 = 0 then (
    fs_rz 1) else
  fs_rz 0

def f_Report_templateFields (a0 : Nat) : fs_T Int32 :=
  fs_bind (fs_gr a0 9 0) fun r1 =>
  fs_bind (fs_ai r1 5) fun v2 =>
  fs_ret v2

def f_Report_templateField (a0 : Nat) (x1 : Int32) : fs_T Int32 :=
  fs_bind (fs_gr a0 9 0) fun r1 =>
  fs_bind (fs_ai r1 (6 + (2 * x1))) fun v2 =>
  fs_ret v2

def f_Report_templateLength (a0 : Nat) (x1 : Int32) : fs_T Int32 :=
  fs_bind (fs_gr a0 9 0) fun r1 =>
  fs_bind (fs_ai r1 ((6 + (2 * x1)) + 1)) fun v2 =>
  fs_ret v2

def f_Report_isBadTemplate (a0 : Nat) : fs_T Int32 :=
  fs_bind (fs_cv a0 9 (f_Report_templateFields a0)) fun v1 =>
  if v1 < 1 then (
    fs_rz 1) else
  if 8 < v1 then (
    fs_rz 1) else
  fs_bind (fs_gi a0 9 1) fun v2 =>
  if v2 = (6 + (2 * v1)) then (
    fs_lp2 4096 (fun k35 (v3 : Int32) (v4 : Int32) =>
      if v1 ≤ v4 then (
        fs_rz 0) else
      fs_bind (fs_cv a0 9 (f_Report_templateField a0 v4)) fun v5 =>
      if 8 ≤ v5 then (
        fs_rz 1) else
      if (v3 &&& (1 <<< (v5 &&& 31))) = 0 then (
        fs_bind (fs_cv a0 9 (f_Report_templateLength a0 v4)) fun v6 =>
        if v6 ≤ 4 then (
          fs_nm ((v3 ||| (1 <<< (v5 &&& 31))) : Int32) fun v7 =>
          fs_nm ((v4 + 1) : Int32) fun v8 =>
          k35 v7 v8) else
        fs_rz 1) else
      fs_rz 1) 0 0) else
  fs_rz 1

def f_Report_records (a0 : Nat) : fs_T Int32 :=
  fs_bind (fs_gr a0 9 0) fun r1 =>
  fs_bind (fs_ai r1 5) fun v2 =>
  fs_ret v2

def f_Report_firstPlace (a0 : Nat) : fs_T Int32 :=
  fs_bind (fs_gr a0 9 0) fun r1 =>
  fs_bind (fs_ai r1 6) fun v2 =>
  fs_ret v2

def f_Report_isBadRecords (a0 : Nat) : fs_T Int32 :=
  fs_bind (fs_gi a0 9 1) fun v1 =>
  if v1 < 7 then (
    fs_rz 1) else
  fs_bind (fs_cv a0 9 (f_Report_records a0)) fun v2 =>
  if v2 = 0 then (
    fs_rz 1) else
  fs_bind (fs_cv a0 9 (f_Report_firstPlace a0)) fun v3 =>
  fs_bind (fs_cv a0 9 (f_Report_records a0)) fun v4 =>
  if (v3 + v4) ≤ 100 then (
    fs_rz 0) else
  fs_rz 1

def f_Report_samplerN (a0 : Nat) : fs_T Int32 :=
  fs_bind (fs_gr a0 9 0) fun r1 =>
  fs_bind (fs_ai r1 4) fun v2 =>
  fs_ret v2

def f_Report_isBad (a0 : Nat) : fs_T Int32 :=
  fs_bind (fs_cv a0 9 (f_Report_exporter a0)) fun v1 =>
  fs_bind (f_Fs_isExporter v1) fun v2 =>
  if v2 = 0 then (
    fs_rz 1) else
  fs_bind (fs_cv a0 9 (f_Report_epoch a0)) fun v3 =>
  if v3 ≤ 5 then (
    fs_bind (fs_cv a0 9 (f_Report_kind a0)) fun v4 =>
    if v4 = 0 then (
      fs_bind (fs_cv a0 9 (f_Report_namesNoTemplate a0)) fun v5 =>
      if v5 = 0 then (
        fs_bind (fs_cv a0 9 (f_Report_isBadTemplate a0)) fun v6 =>
        if v6 = 0 then (
          fs_rz 0) else
        fs_rz 1) else
      fs_rz 1) else
    if v4 = 1 then (
      fs_bind (fs_cv a0 9 (f_Report_namesNoTemplate a0)) fun v7 =>
      if v7 = 0 then (
        fs_bind (fs_cv a0 9 (f_Report_isBadRecords a0)) fun v8 =>
        if v8 = 0 then (
          fs_rz 0) else
        fs_rz 1) else
      fs_rz 1) else
    if v4 = 2 then (
      fs_bind (fs_gi a0 9 1) fun v9 =>
      if v9 = 5 then (
        fs_bind (fs_cv a0 9 (f_Report_samplerN a0)) fun v10 =>
        if v10 < 1 then (
          fs_rz 1) else
        fs_bind (fs_cv a0 9 (f_Report_samplerN a0)) fun v11 =>
        if v11 ≤ 9 then (
          fs_rz 0) else
        fs_rz 1) else
      fs_rz 1) else
    fs_rz 1) else
  fs_rz 1

def f_Report_namesSameTemplate (a0 : Nat) (a1 : Nat) : fs_T Int32 :=
  fs_bind (fs_gr a0 9 0) fun r1 =>
  fs_bind (fs_ai r1 0) fun v2 =>
  fs_bind (fs_gr a1 9 0) fun r3 =>
  fs_bind (fs_ai r3 0) fun v4 =>
  if v2 = v4 then (
    fs_bind (fs_gr a0 9 0) fun r5 =>
    fs_bind (fs_ai r5 1) fun v6 =>
    fs_bind (fs_gr a1 9 0) fun r7 =>
    fs_bind (fs_ai r7 1) fun v8 =>
    if v6 = v8 then (
      fs_bind (fs_gr a0 9 0) fun r9 =>
      fs_bind (fs_ai r9 3) fun v10 =>
      fs_bind (fs_gr a1 9 0) fun r11 =>
      fs_bind (fs_ai r11 3) fun v12 =>
      if v10 = v12 then (
        fs_bind (fs_gr a0 9 0) fun r13 =>
        fs_bind (fs_ai r13 4) fun v14 =>
        fs_bind (fs_gr a1 9 0) fun r15 =>
        fs_bind (fs_ai r15 4) fun v16 =>
        if v14 = v16 then (
          fs_rz 1) else
        fs_rz 0) else
      fs_rz 0) else
    fs_rz 0) else
  fs_rz 0

def f_Collector_knownTemplate (a0 : Nat) (a1 : Nat) : fs_T Int32 :=
  fs_lp1 4096 (fun k2 (v1 : Int32) =>
    fs_bind (fs_gr a0 5 0) fun r2 =>
    fs_bind (fs_cv r2 2 (f_ArrayList_size r2)) fun v3 =>
    if v3 ≤ v1 then (
      fs_ret (-1)) else
    fs_bind (fs_gr a0 5 0) fun r4 =>
    fs_bind (fs_cv r4 2 (f_ArrayList_get r4 v1)) fun r5 =>
    fs_bind (fs_ck r5 9) fun _ =>
    fs_bind (fs_cv r5 9 (f_Report_namesSameTemplate r5 a1)) fun v6 =>
    if v6 = 0 then (
      fs_nm ((v1 + 1) : Int32) fun v7 =>
      k2 v7) else
    fs_ret v1) 0

def f_Collector_recordsWaitingFor (a0 : Nat) (a1 : Nat) : fs_T Int32 :=
  fs_lp2 4096 (fun k4 (v1 : Int32) (v2 : Int32) =>
    fs_bind (fs_gr a0 5 1) fun r3 =>
    fs_bind (fs_cv r3 2 (f_ArrayList_size r3)) fun v4 =>
    if v4 ≤ v2 then (
      fs_ret v1) else
    fs_bind (fs_gr a0 5 1) fun r5 =>
    fs_bind (fs_cv r5 2 (f_ArrayList_get r5 v2)) fun r6 =>
    fs_bind (fs_ck r6 9) fun _ =>
    fs_bind (fs_cv r6 9 (f_Report_namesSameTemplate r6 a1)) fun v7 =>
    fs_let (fun (v12 : Int32) =>
      fs_nm ((v2 + 1) : Int32) fun v13 =>
      k4 v12 v13) fun j50 =>
    if v7 = 0 then (
      j50 v1) else
    fs_bind (fs_gr a0 5 1) fun r8 =>
    fs_bind (fs_cv r8 2 (f_ArrayList_get r8 v2)) fun r9 =>
    fs_bind (fs_ck r9 9) fun _ =>
    fs_bind (fs_cv r9 9 (f_Report_records r9)) fun v10 =>
    fs_nm ((v1 + v10) : Int32) fun v11 =>
    j50 v11) 0 0

def f_Table_hasRoomFor (a0 : Nat) (x1 : Int32) : fs_T Int32 :=
  fs_bind (fs_gr a0 6 0) fun r1 =>
  fs_bind (fs_cv r1 2 (f_ArrayList_size r1)) fun v2 =>
  if 80 < (v2 + x1) then (
    fs_rz 0) else
  fs_rz 1

def f_Collector_requireRoomFor (a0 : Nat) (x1 : Int32) : fs_T (Unit ⊕ String) :=
  fs_bind (fs_gr a0 5 2) fun r1 =>
  fs_bind (fs_cv r1 6 (f_Table_hasRoomFor r1 x1)) fun v2 =>
  if v2 = 0 then (
    fs_throw "java/lang/UnsupportedOperationException") else
  fs_ret (.inl ())

def f_Arrays_copyOf_2 (a0 : Nat) (x1 : Int32) : fs_T Nat :=
  fs_bind (fs_al a0) fun v1 =>
  if x1 = v1 then (
    fs_bind (fs_cln a0) fun r5 =>
    fs_bind (fs_ci r5) fun _ =>
    fs_ret r5) else
  fs_bind (fs_ni x1) fun r2 =>
  fs_bind (fs_al a0) fun v3 =>
  fs_bind (f_Math_min v3 x1) fun v4 =>
  fs_fail

def f_Report_init_1 (a0 : Nat) (a1 : Nat) : fs_T Unit :=
  fs_bind (fs_gr a1 9 0) fun r1 =>
  fs_bind (fs_gr a1 9 0) fun r2 =>
  fs_bind (fs_al r2) fun v3 =>
  fs_bind (f_Arrays_copyOf_2 r1 v3) fun r4 =>
  fs_bind (fs_pr a0 9 0 r4) fun _ =>
  fs_bind (fs_gi a1 9 1) fun v5 =>
  fs_bind (fs_pi a0 9 1 v5) fun _ =>
  fs_ret ()

def f_Cursor_init (a0 : Nat) (a1 : Nat) : fs_T Unit :=
  fs_bind (fs_pi a0 10 1 7) fun _ =>
  fs_bind (fs_pr a0 10 0 a1) fun _ =>
  fs_ret ()

def f_Cursor_takeByte (a0 : Nat) : fs_T Int32 :=
  fs_bind (fs_gi a0 10 1) fun v1 =>
  fs_bind (fs_gr a0 10 0) fun r2 =>
  fs_bind (fs_gi r2 9 1) fun v3 =>
  if v1 < v3 then (
    fs_bind (fs_gr a0 10 0) fun r4 =>
    fs_bind (fs_gr r4 9 0) fun r5 =>
    fs_bind (fs_gi a0 10 1) fun v6 =>
    fs_bind (fs_ai r5 v6) fun v7 =>
    fs_bind (fs_gi a0 10 1) fun v8 =>
    fs_bind (fs_pi a0 10 1 (v8 + 1)) fun _ =>
    fs_ret v7) else
  fs_bind (fs_pz a0 10 2 1) fun _ =>
  fs_ret 0

def f_Cursor_takeField (a0 : Nat) (x1 : Int32) : fs_T Int64 :=
  fs_let (fun (v2 : Int32) =>
    fs_lp2 4096 (fun k33 (v3 : Int64) (v4 : Int32) =>
      if v2 ≤ v4 then (
        fs_ret v3) else
      fs_bind (fs_cv a0 10 (f_Cursor_takeByte a0)) fun v5 =>
      fs_nm (((fs_lshl v3 8) ||| (Int32.toInt64 v5)) : Int64) fun v6 =>
      fs_nm ((v4 + 1) : Int32) fun v7 =>
      k33 v6 v7) 0 0) fun j28 =>
  if x1 = 0 then (
    fs_bind (fs_cv a0 10 (f_Cursor_takeByte a0)) fun v1 =>
    fs_let (fun (_ : Unit) =>
      fs_bind (fs_pz a0 10 2 1) fun _ =>
      fs_ret 0) fun j21 =>
    if v1 < 1 then (
      j21 ()) else
    if v1 ≤ 4 then (
      j28 v1) else
    j21 ()) else
  j28 x1

def f_Cursor_isAtEnd (a0 : Nat) : fs_T Int32 :=
  fs_bind (fs_gi a0 10 1) fun v1 =>
  fs_bind (fs_gr a0 10 0) fun r2 =>
  fs_bind (fs_gi r2 9 1) fun v3 =>
  if v1 = v3 then (
    fs_rz 1) else
  fs_rz 0

def f_Collector_canRead (a0 : Nat) (a1 : Nat) (a2 : Nat) : fs_T Int32 :=
  fs_bind (fs_nw 10 fs_d10) fun r1 =>
  fs_bind (f_Cursor_init r1 a1) fun _ =>
  fs_lp1 4096 (fun k12 (v2 : Int32) =>
    fs_bind (fs_cv a1 9 (f_Report_records a1)) fun v3 =>
    if v3 ≤ v2 then (
      fs_bind (fs_gi r1 10 2) fun v4 =>
      if v4 = 0 then (
        fs_bind (fs_cv r1 10 (f_Cursor_isAtEnd r1)) fun v5 =>
        if v5 = 0 then (
          fs_rz 0) else
        fs_rz 1) else
      fs_rz 0) else
    fs_lp1 4096 (fun k24 (v6 : Int32) =>
      fs_bind (fs_cv a2 9 (f_Report_templateFields a2)) fun v7 =>
      if v7 ≤ v6 then (
        fs_nm ((v2 + 1) : Int32) fun v8 =>
        k12 v8) else
      fs_bind (fs_cv a2 9 (f_Report_templateLength a2 v6)) fun v9 =>
      fs_bind (fs_cv r1 10 (f_Cursor_takeField r1 v9)) fun v10 =>
      fs_nm ((v6 + 1) : Int32) fun v11 =>
      k24 v11) 0) 0

def f_Arrays_fill_0 (a0 : Nat) (x1 : Int64) : fs_T Unit :=
  fs_bind (fs_al a0) fun v1 =>
  fs_lp1 4096 (fun k6 (v2 : Int32) =>
    if v1 ≤ v2 then (
      fs_ret ()) else
    fs_bind (fs_sj a0 v2 x1) fun _ =>
    fs_nm ((v2 + 1) : Int32) fun v3 =>
    k6 v3) 0

def f_Row_init (a0 : Nat) (x1 : Int32) : fs_T Unit :=
  fs_bind (fs_nj 8) fun r1 =>
  fs_bind (fs_pr a0 11 1 r1) fun _ =>
  fs_bind (fs_pi a0 11 0 x1) fun _ =>
  fs_bind (fs_gr a0 11 1) fun r2 =>
  fs_bind (f_Arrays_fill_0 r2 (-1)) fun _ =>
  fs_ret ()

def f_Table_addRow (a0 : Nat) (a1 : Nat) : fs_T Unit :=
  fs_bind (fs_cv a0 6 (f_Table_hasRoomFor a0 1)) fun v1 =>
  if v1 = 0 then (
    fs_ret ()) else
  fs_bind (fs_gr a0 6 0) fun r2 =>
  fs_bind (fs_cv r2 2 (f_ArrayList_add_0 r2 a1)) fun v3 =>
  fs_ret ()

def f_Collector_makeRows (a0 : Nat) (a1 : Nat) (a2 : Nat) : fs_T Unit :=
  fs_bind (fs_nw 10 fs_d10) fun r1 =>
  fs_bind (f_Cursor_init r1 a1) fun _ =>
  fs_lp1 4096 (fun k12 (v2 : Int32) =>
    fs_bind (fs_cv a1 9 (f_Report_records a1)) fun v3 =>
    if v3 ≤ v2 then (
      fs_ret ()) else
    fs_bind (fs_nw 11 fs_d11) fun r4 =>
    fs_bind (fs_cv a1 9 (f_Report_exporter a1)) fun v5 =>
    fs_bind (f_Row_init r4 v5) fun _ =>
    fs_lp1 4096 (fun k37 (v6 : Int32) =>
      fs_bind (fs_cv a2 9 (f_Report_templateFields a2)) fun v7 =>
      if v7 ≤ v6 then (
        fs_bind (fs_gr a0 5 2) fun r8 =>
        fs_bind (fs_cv r8 6 (f_Table_addRow r8 r4)) fun _ =>
        fs_nm ((v2 + 1) : Int32) fun v9 =>
        k12 v9) else
      fs_bind (fs_gr r4 11 1) fun r10 =>
      fs_bind (fs_cv a2 9 (f_Report_templateField a2 v6)) fun v11 =>
      fs_bind (fs_cv a2 9 (f_Report_templateLength a2 v6)) fun v12 =>
      fs_bind (fs_cv r1 10 (f_Cursor_takeField r1 v12)) fun v13 =>
      fs_bind (fs_sj r10 v11 v13) fun _ =>
      fs_nm ((v6 + 1) : Int32) fun v14 =>
      k37 v14) 0) 0

def f_Collector_ledgerOf (a0 : Nat) (x1 : Int32) : fs_T Nat :=
  if x1 = 0 then (
    fs_bind (fs_gr a0 5 3) fun r2 =>
    fs_ret r2) else
  fs_bind (fs_gr a0 5 4) fun r1 =>
  fs_ret r1

def f_Collector_readOrSpoil (a0 : Nat) (a1 : Nat) (a2 : Nat) : fs_T Unit :=
  fs_bind (fs_cv a0 5 (f_Collector_canRead a0 a1 a2)) fun v1 =>
  if v1 = 0 then (
    fs_bind (fs_cv a1 9 (f_Report_exporter a1)) fun v2 =>
    fs_bind (fs_cv a0 5 (f_Collector_ledgerOf a0 v2)) fun r3 =>
    fs_bind (fs_gi r3 7 2) fun v4 =>
    fs_bind (fs_pi r3 7 2 (v4 + 1)) fun _ =>
    fs_ret ()) else
  fs_bind (fs_cv a0 5 (f_Collector_makeRows a0 a1 a2)) fun _ =>
  fs_ret ()

def f_Collector_readShelf (a0 : Nat) (a1 : Nat) : fs_T Int32 :=
  fs_bind (fs_gr a0 5 2) fun r1 =>
  fs_bind (fs_gr r1 6 0) fun r2 =>
  fs_bind (fs_cv r2 2 (f_ArrayList_size r2)) fun v3 =>
  fs_bind (fs_gr a0 5 1) fun r4 =>
  fs_bind (fs_cv r4 2 (f_ArrayList_size r4)) fun v5 =>
  fs_lp2 4096 (fun k25 (v6 : Int32) (v7 : Int32) =>
    if v5 ≤ v7 then (
      fs_bind (fs_gr a0 5 2) fun r8 =>
      fs_bind (fs_gr r8 6 0) fun r9 =>
      fs_bind (fs_cv r9 2 (f_ArrayList_size r9)) fun v10 =>
      fs_ret (v10 - v3)) else
    fs_bind (fs_gr a0 5 1) fun r11 =>
    fs_bind (fs_cv r11 2 (f_ArrayList_get r11 v6)) fun r12 =>
    fs_bind (fs_ck r12 9) fun _ =>
    fs_bind (fs_cv r12 9 (f_Report_namesSameTemplate r12 a1)) fun v13 =>
    fs_let (fun (v17 : Int32) =>
      fs_nm ((v7 + 1) : Int32) fun v18 =>
      k25 v17 v18) fun j73 =>
    if v13 = 0 then (
      fs_nm ((v6 + 1) : Int32) fun v14 =>
      j73 v14) else
    fs_bind (fs_gr a0 5 1) fun r15 =>
    fs_bind (fs_cv r15 2 (f_ArrayList_remove r15 v6)) fun r16 =>
    fs_bind (fs_ck r16 9) fun _ =>
    fs_bind (fs_cv a0 5 (f_Collector_readOrSpoil a0 r16 a1)) fun _ =>
    j73 v6) 0 0

def f_Collector_hearTemplate (a0 : Nat) (a1 : Nat) : fs_T (Int32 ⊕ String) :=
  fs_bind (fs_cv a0 5 (f_Collector_knownTemplate a0 a1)) fun v1 =>
  if v1 = (-1) then (
    fs_bind (fs_gr a0 5 0) fun r2 =>
    fs_bind (fs_cv r2 2 (f_ArrayList_size r2)) fun v3 =>
    if v3 < 20 then (
      fs_bind (fs_cv a0 5 (f_Collector_recordsWaitingFor a0 a1)) fun v4 =>
      fs_bindx (fs_cv a0 5 (f_Collector_requireRoomFor a0 v4)) fun _ =>
      fs_bind (fs_gr a0 5 0) fun r5 =>
      fs_bind (fs_nw 9 fs_d9) fun r6 =>
      fs_bind (f_Report_init_1 r6 a1) fun _ =>
      fs_bind (fs_cv r5 2 (f_ArrayList_add_0 r5 r6)) fun v7 =>
      fs_bind (fs_cv a0 5 (f_Collector_readShelf a0 a1)) fun v8 =>
      fs_ret (.inl v8)) else
    fs_throw "java/lang/UnsupportedOperationException") else
  fs_ret (.inl 0)

def f_Ledger_heardOneOf (a0 : Nat) (a1 : Nat) : fs_T Int32 :=
  fs_bind (fs_cv a1 9 (f_Report_epoch a1)) fun v1 =>
  fs_bind (fs_cv a1 9 (f_Report_firstPlace a1)) fun v2 =>
  fs_nm (((v1 * 100) + v2) : Int32) fun v3 =>
  fs_lp1 4096 (fun k15 (v4 : Int32) =>
    fs_bind (fs_cv a1 9 (f_Report_records a1)) fun v5 =>
    if v5 ≤ v4 then (
      fs_rz 0) else
    fs_bind (fs_gr a0 7 0) fun r6 =>
    fs_bind (fs_az r6 (v3 + v4)) fun v7 =>
    if v7 = 0 then (
      fs_nm ((v4 + 1) : Int32) fun v8 =>
      k15 v8) else
    fs_rz 1) 0

def f_Collector_putOnShelf (a0 : Nat) (a1 : Nat) : fs_T Unit :=
  fs_bind (fs_gr a0 5 1) fun r1 =>
  fs_bind (fs_cv r1 2 (f_ArrayList_size r1)) fun v2 =>
  fs_let (fun (_ : Unit) =>
    fs_bind (fs_gr a0 5 1) fun r8 =>
    fs_bind (fs_nw 9 fs_d9) fun r9 =>
    fs_bind (f_Report_init_1 r9 a1) fun _ =>
    fs_bind (fs_cv r8 2 (f_ArrayList_add_0 r8 r9)) fun v10 =>
    fs_ret ()) fun j38 =>
  if v2 < 5 then (
    j38 ()) else
  fs_bind (fs_gr a0 5 1) fun r3 =>
  fs_bind (fs_cv r3 2 (f_ArrayList_remove r3 0)) fun r4 =>
  fs_bind (fs_ck r4 9) fun _ =>
  fs_bind (fs_cv r4 9 (f_Report_exporter r4)) fun v5 =>
  fs_bind (fs_cv a0 5 (f_Collector_ledgerOf a0 v5)) fun r6 =>
  fs_bind (fs_gi r6 7 1) fun v7 =>
  fs_bind (fs_pi r6 7 1 (v7 + 1)) fun _ =>
  j38 ()

def f_Collector_readNow (a0 : Nat) (a1 : Nat) (a2 : Nat) : fs_T (Unit ⊕ String) :=
  fs_bind (fs_cv a0 5 (f_Collector_canRead a0 a1 a2)) fun v1 =>
  if v1 = 0 then (
    fs_throw "java/lang/IllegalArgumentException") else
  fs_bind (fs_cv a1 9 (f_Report_records a1)) fun v2 =>
  fs_bindx (fs_cv a0 5 (f_Collector_requireRoomFor a0 v2)) fun _ =>
  fs_bind (fs_cv a0 5 (f_Collector_makeRows a0 a1 a2)) fun _ =>
  fs_ret (.inl ())

def f_Ledger_markHeard (a0 : Nat) (a1 : Nat) : fs_T Unit :=
  fs_bind (fs_cv a1 9 (f_Report_epoch a1)) fun v1 =>
  fs_bind (fs_cv a1 9 (f_Report_firstPlace a1)) fun v2 =>
  fs_nm (((v1 * 100) + v2) : Int32) fun v3 =>
  fs_lp1 4096 (fun k15 (v4 : Int32) =>
    fs_bind (fs_cv a1 9 (f_Report_records a1)) fun v5 =>
    if v5 ≤ v4 then (
      fs_ret ()) else
    fs_bind (fs_gr a0 7 0) fun r6 =>
    fs_bind (fs_sz r6 (v3 + v4) 1) fun _ =>
    fs_nm ((v4 + 1) : Int32) fun v7 =>
    k15 v7) 0

def f_Collector_hearRecords (a0 : Nat) (a1 : Nat) : fs_T (Int32 ⊕ String) :=
  fs_bind (fs_cv a1 9 (f_Report_exporter a1)) fun v1 =>
  fs_bind (fs_cv a0 5 (f_Collector_ledgerOf a0 v1)) fun r2 =>
  fs_bind (fs_cv r2 7 (f_Ledger_heardOneOf r2 a1)) fun v3 =>
  if v3 = 0 then (
    fs_bind (fs_gr a0 5 2) fun r4 =>
    fs_bind (fs_gr r4 6 0) fun r5 =>
    fs_bind (fs_cv r5 2 (f_ArrayList_size r5)) fun v6 =>
    fs_bind (fs_cv a0 5 (f_Collector_knownTemplate a0 a1)) fun v7 =>
    fs_let (fun (_ : Unit) =>
      fs_bind (fs_cv r2 7 (f_Ledger_markHeard r2 a1)) fun _ =>
      fs_bind (fs_gr a0 5 2) fun r10 =>
      fs_bind (fs_gr r10 6 0) fun r11 =>
      fs_bind (fs_cv r11 2 (f_ArrayList_size r11)) fun v12 =>
      fs_ret (.inl (v12 - v6))) fun j68 =>
    if v7 = (-1) then (
      fs_bind (fs_cv a0 5 (f_Collector_putOnShelf a0 a1)) fun _ =>
      j68 ()) else
    fs_bind (fs_gr a0 5 0) fun r8 =>
    fs_bind (fs_cv r8 2 (f_ArrayList_get r8 v7)) fun r9 =>
    fs_bind (fs_ck r9 9) fun _ =>
    fs_bindx (fs_cv a0 5 (f_Collector_readNow a0 a1 r9)) fun _ =>
    j68 ()) else
  fs_ret (.inl 0)

def f_Report_samplersBefore (a0 : Nat) : fs_T Int32 :=
  fs_bind (fs_gr a0 9 0) fun r1 =>
  fs_bind (fs_ai r1 3) fun v2 =>
  fs_ret v2

def f_Ledger_noteSampler (a0 : Nat) (a1 : Nat) : fs_T Unit :=
  fs_bind (fs_gi a0 7 3) fun v1 =>
  fs_let (fun (v2 : Int32) =>
    fs_bind (fs_cv a1 9 (f_Report_epoch a1)) fun v3 =>
    fs_bind (fs_gi a0 7 4) fun v4 =>
    fs_let (fun (v9 : Int32) =>
      fs_let (fun (_ : Unit) =>
        fs_bind (fs_cv a1 9 (f_Report_samplerN a1)) fun v10 =>
        fs_bind (fs_pi a0 7 3 v10) fun _ =>
        fs_bind (fs_cv a1 9 (f_Report_epoch a1)) fun v11 =>
        fs_bind (fs_pi a0 7 4 v11) fun _ =>
        fs_bind (fs_cv a1 9 (f_Report_samplersBefore a1)) fun v12 =>
        fs_bind (fs_pi a0 7 5 v12) fun _ =>
        fs_ret ()) fun j60 =>
      if v2 = 0 then (
        if v9 = 0 then (
          fs_ret ()) else
        j60 ()) else
      j60 ()) fun j51 =>
    fs_let (fun (_ : Unit) =>
      j51 1) fun j46 =>
    if v4 < v3 then (
      j46 ()) else
    fs_bind (fs_cv a1 9 (f_Report_epoch a1)) fun v5 =>
    fs_bind (fs_gi a0 7 4) fun v6 =>
    fs_let (fun (_ : Unit) =>
      j51 0) fun j50 =>
    if v5 = v6 then (
      fs_bind (fs_cv a1 9 (f_Report_samplersBefore a1)) fun v7 =>
      fs_bind (fs_gi a0 7 5) fun v8 =>
      if v7 ≤ v8 then (
        j50 ()) else
      j46 ()) else
    j50 ()) fun j12 =>
  if v1 = 0 then (
    j12 1) else
  j12 0

def f_Fs_hear (a0 : Nat) (x1 : Int32) : fs_T (Int32 ⊕ String) :=
  fs_bindx (fs_cv a0 0 (f_Fs_reportOf a0 x1)) fun r1 =>
  fs_bind (fs_cv r1 9 (f_Report_isBad r1)) fun v2 =>
  if v2 = 0 then (
    fs_bind (fs_cv r1 9 (f_Report_kind r1)) fun v3 =>
    if v3 = 0 then (
      fs_bind (fs_gr a0 0 3) fun r4 =>
      fs_bindx (fs_cv r4 5 (f_Collector_hearTemplate r4 r1)) fun v5 =>
      fs_ret (.inl v5)) else
    if v3 = 1 then (
      fs_bind (fs_gr a0 0 3) fun r6 =>
      fs_bindx (fs_cv r6 5 (f_Collector_hearRecords r6 r1)) fun v7 =>
      fs_ret (.inl v7)) else
    fs_bind (fs_gr a0 0 3) fun r8 =>
    fs_bind (fs_cv r1 9 (f_Report_exporter r1)) fun v9 =>
    fs_bind (fs_cv r8 5 (f_Collector_ledgerOf r8 v9)) fun r10 =>
    fs_bind (fs_cv r10 7 (f_Ledger_noteSampler r10 r1)) fun _ =>
    fs_ret (.inl 0)) else
  fs_throw "java/lang/IllegalArgumentException"

def f_Fs_requireRow (a0 : Nat) (x1 : Int32) : fs_T (Unit ⊕ String) :=
  fs_let (fun (_ : Unit) =>
    fs_throw "java/lang/IndexOutOfBoundsException") fun j21 =>
  if x1 < 0 then (
    j21 ()) else
  fs_bind (fs_gr a0 0 3) fun r1 =>
  fs_bind (fs_gr r1 5 2) fun r2 =>
  fs_bind (fs_gr r2 6 0) fun r3 =>
  fs_bind (fs_cv r3 2 (f_ArrayList_size r3)) fun v4 =>
  if x1 < v4 then (
    fs_ret (.inl ())) else
  j21 ()

def f_Fs_row (a0 : Nat) (x1 : Int32) (x2 : Int32) : fs_T (Int64 ⊕ String) :=
  fs_bindx (fs_cv a0 0 (f_Fs_requireRow a0 x1)) fun _ =>
  fs_let (fun (_ : Unit) =>
    fs_throw "java/lang/IllegalArgumentException") fun j15 =>
  if x2 < 0 then (
    j15 ()) else
  if x2 ≤ 8 then (
    fs_bind (fs_gr a0 0 3) fun r1 =>
    fs_bind (fs_gr r1 5 2) fun r2 =>
    fs_bind (fs_gr r2 6 0) fun r3 =>
    fs_bind (fs_cv r3 2 (f_ArrayList_get r3 x1)) fun r4 =>
    fs_bind (fs_ck r4 11) fun _ =>
    if x2 = 8 then (
      fs_bind (fs_gi r4 11 0) fun v7 =>
      fs_ret (.inl (Int32.toInt64 v7))) else
    fs_bind (fs_gr r4 11 1) fun r5 =>
    fs_bind (fs_aj r5 x2) fun v6 =>
    fs_ret (.inl v6)) else
  j15 ()

def f_Row_has (a0 : Nat) (x1 : Int32) : fs_T Int32 :=
  fs_bind (fs_gr a0 11 1) fun r1 =>
  fs_bind (fs_aj r1 x1) fun v2 =>
  if (lg_cmp v2 (-1)) = 0 then (
    fs_rz 0) else
  fs_rz 1

def f_Table_sumOf (a0 : Nat) (x1 : Int32) (x2 : Int32) (x3 : Int64) (x4 : Int32) : fs_T Int64 :=
  fs_lp2 4096 (fun k6 (v1 : Int64) (v2 : Int32) =>
    fs_bind (fs_gr a0 6 0) fun r3 =>
    fs_bind (fs_cv r3 2 (f_ArrayList_size r3)) fun v4 =>
    if v4 ≤ v2 then (
      fs_ret v1) else
    fs_bind (fs_gr a0 6 0) fun r5 =>
    fs_bind (fs_cv r5 2 (f_ArrayList_get r5 v2)) fun r6 =>
    fs_bind (fs_ck r6 11) fun _ =>
    fs_bind (fs_gi r6 11 0) fun v7 =>
    fs_let (fun (v15 : Int64) =>
      fs_nm ((v2 + 1) : Int32) fun v16 =>
      k6 v15 v16) fun j85 =>
    if v7 = x1 then (
      fs_bind (fs_cv r6 11 (f_Row_has r6 x2)) fun v8 =>
      if v8 = 0 then (
        j85 v1) else
      fs_bind (fs_gr r6 11 1) fun r9 =>
      fs_bind (fs_aj r9 x2) fun v10 =>
      if (lg_cmp v10 x3) = 0 then (
        fs_bind (fs_cv r6 11 (f_Row_has r6 x4)) fun v11 =>
        if v11 = 0 then (
          j85 v1) else
        fs_bind (fs_gr r6 11 1) fun r12 =>
        fs_bind (fs_aj r12 x4) fun v13 =>
        fs_nm ((v1 + v13) : Int64) fun v14 =>
        j85 v14) else
      j85 v1) else
    j85 v1) 0 0

def f_Fs_total (a0 : Nat) (x1 : Int32) (x2 : Int32) (x3 : Int64) (x4 : Int32) : fs_T (Int64 ⊕ String) :=
  fs_bind (f_Fs_isExporter x1) fun v1 =>
  if v1 = 0 then (
    fs_throw "java/lang/IllegalArgumentException") else
  fs_bindx (f_Fs_requireField x2) fun _ =>
  fs_bindx (f_Fs_requireField x4) fun _ =>
  fs_bind (fs_gr a0 0 3) fun r2 =>
  fs_bind (fs_gr r2 5 2) fun r3 =>
  fs_bind (fs_cv r3 6 (f_Table_sumOf r3 x1 x2 x3 x4)) fun v4 =>
  fs_ret (.inl v4)

def f_Arrays_fill_1 (a0 : Nat) (x1 : Int32) : fs_T Unit :=
  fs_bind (fs_al a0) fun v1 =>
  fs_lp1 4096 (fun k5 (v2 : Int32) =>
    if v1 ≤ v2 then (
      fs_ret ()) else
    fs_bind (fs_si a0 v2 x1) fun _ =>
    fs_nm ((v2 + 1) : Int32) fun v3 =>
    k5 v3) 0

def f_Row_canBePaired (a0 : Nat) : fs_T Int32 :=
  fs_bind (fs_cv a0 11 (f_Row_has a0 0)) fun v1 =>
  if v1 = 0 then (
    fs_rz 0) else
  fs_bind (fs_cv a0 11 (f_Row_has a0 1)) fun v2 =>
  if v2 = 0 then (
    fs_rz 0) else
  fs_bind (fs_cv a0 11 (f_Row_has a0 2)) fun v3 =>
  if v3 = 0 then (
    fs_rz 0) else
  fs_bind (fs_cv a0 11 (f_Row_has a0 5)) fun v4 =>
  if v4 = 0 then (
    fs_rz 0) else
  fs_rz 1

def f_Table_insertInOrder (a0 : Nat) (x1 : Int32) : fs_T Unit :=
  fs_bind (fs_gi a0 6 3) fun v1 =>
  fs_lp1 4096 (fun k5 (v2 : Int32) =>
    fs_let (fun (_ : Unit) =>
      fs_bind (fs_gr a0 6 2) fun r17 =>
      fs_bind (fs_si r17 v2 x1) fun _ =>
      fs_bind (fs_gi a0 6 3) fun v18 =>
      fs_bind (fs_pi a0 6 3 (v18 + 1)) fun _ =>
      fs_ret ()) fun j72 =>
    if v2 ≤ 0 then (
      j72 ()) else
    fs_bind (fs_gr a0 6 0) fun r3 =>
    fs_bind (fs_gr a0 6 2) fun r4 =>
    fs_bind (fs_ai r4 (v2 - 1)) fun v5 =>
    fs_bind (fs_cv r3 2 (f_ArrayList_get r3 v5)) fun r6 =>
    fs_bind (fs_ck r6 11) fun _ =>
    fs_bind (fs_gr r6 11 1) fun r7 =>
    fs_bind (fs_aj r7 5) fun v8 =>
    fs_bind (fs_gr a0 6 0) fun r9 =>
    fs_bind (fs_cv r9 2 (f_ArrayList_get r9 x1)) fun r10 =>
    fs_bind (fs_ck r10 11) fun _ =>
    fs_bind (fs_gr r10 11 1) fun r11 =>
    fs_bind (fs_aj r11 5) fun v12 =>
    if (lg_cmp v8 v12) ≤ 0 then (
      j72 ()) else
    fs_bind (fs_gr a0 6 2) fun r13 =>
    fs_bind (fs_gr a0 6 2) fun r14 =>
    fs_bind (fs_ai r14 (v2 - 1)) fun v15 =>
    fs_bind (fs_si r13 v2 v15) fun _ =>
    fs_nm ((v2 + (-1)) : Int32) fun v16 =>
    k5 v16) v1

def f_Table_putInOrder (a0 : Nat) : fs_T Unit :=
  fs_bind (fs_pi a0 6 3 0) fun _ =>
  fs_lp1 4096 (fun k7 (v1 : Int32) =>
    fs_bind (fs_gr a0 6 0) fun r2 =>
    fs_bind (fs_cv r2 2 (f_ArrayList_size r2)) fun v3 =>
    if v3 ≤ v1 then (
      fs_ret ()) else
    fs_bind (fs_gr a0 6 0) fun r4 =>
    fs_bind (fs_cv r4 2 (f_ArrayList_get r4 v1)) fun r5 =>
    fs_bind (fs_ck r5 11) fun _ =>
    fs_bind (fs_cv r5 11 (f_Row_canBePaired r5)) fun v6 =>
    fs_let (fun (_ : Unit) =>
      fs_nm ((v1 + 1) : Int32) fun v7 =>
      k7 v7) fun j40 =>
    if v6 = 0 then (
      j40 ()) else
    fs_bind (fs_cv a0 6 (f_Table_insertInOrder a0 v1)) fun _ =>
    j40 ()) 0

def f_Row_isReverseOf (a0 : Nat) (a1 : Nat) : fs_T Int32 :=
  fs_bind (fs_gi a0 11 0) fun v1 =>
  fs_bind (fs_gi a1 11 0) fun v2 =>
  if v1 = v2 then (
    fs_bind (fs_gr a0 11 1) fun r3 =>
    fs_bind (fs_aj r3 0) fun v4 =>
    fs_bind (fs_gr a1 11 1) fun r5 =>
    fs_bind (fs_aj r5 1) fun v6 =>
    if (lg_cmp v4 v6) = 0 then (
      fs_bind (fs_gr a0 11 1) fun r7 =>
      fs_bind (fs_aj r7 1) fun v8 =>
      fs_bind (fs_gr a1 11 1) fun r9 =>
      fs_bind (fs_aj r9 0) fun v10 =>
      if (lg_cmp v8 v10) = 0 then (
        fs_bind (fs_gr a0 11 1) fun r11 =>
        fs_bind (fs_aj r11 2) fun v12 =>
        fs_bind (fs_gr a1 11 1) fun r13 =>
        fs_bind (fs_aj r13 2) fun v14 =>
        if (lg_cmp v12 v14) = 0 then (
          fs_rz 1) else
        fs_rz 0) else
      fs_rz 0) else
    fs_rz 0) else
  fs_rz 0

def f_Math_abs (x0 : Int64) : fs_T Int64 :=
  if 0 ≤ (lg_cmp x0 0) then (
    fs_ret x0) else
  fs_ret (-x0)

def f_Row_ticksBetween (a0 : Nat) (a1 : Nat) : fs_T Int64 :=
  fs_bind (fs_gr a0 11 1) fun r1 =>
  fs_bind (fs_aj r1 5) fun v2 =>
  fs_bind (fs_gr a1 11 1) fun r3 =>
  fs_bind (fs_aj r3 5) fun v4 =>
  fs_bind (f_Math_abs (v2 - v4)) fun v5 =>
  fs_ret v5

def f_Table_nearestReverse (a0 : Nat) (x1 : Int32) : fs_T Int32 :=
  fs_bind (fs_gr a0 6 0) fun r1 =>
  fs_bind (fs_cv r1 2 (f_ArrayList_get r1 x1)) fun r2 =>
  fs_bind (fs_ck r2 11) fun _ =>
  fs_lp2 4096 (fun k17 (v3 : Int32) (v4 : Int32) =>
    fs_bind (fs_gr a0 6 0) fun r5 =>
    fs_bind (fs_cv r5 2 (f_ArrayList_size r5)) fun v6 =>
    if v6 ≤ v4 then (
      fs_ret v3) else
    fs_bind (fs_gr a0 6 0) fun r7 =>
    fs_bind (fs_cv r7 2 (f_ArrayList_get r7 v4)) fun r8 =>
    fs_bind (fs_ck r8 11) fun _ =>
    fs_let (fun (v17 : Int32) =>
      fs_nm ((v4 + 1) : Int32) fun v18 =>
      k17 v17 v18) fun j113 =>
    if v4 = x1 then (
      j113 v3) else
    fs_bind (fs_gr a0 6 1) fun r9 =>
    fs_bind (fs_ai r9 v4) fun v10 =>
    if v10 = (-1) then (
      fs_bind (fs_cv r8 11 (f_Row_canBePaired r8)) fun v11 =>
      if v11 = 0 then (
        j113 v3) else
      fs_bind (fs_cv r8 11 (f_Row_isReverseOf r8 r2)) fun v12 =>
      if v12 = 0 then (
        j113 v3) else
      fs_let (fun (_ : Unit) =>
        j113 v4) fun j110 =>
      if v3 = (-1) then (
        j110 ()) else
      fs_bind (fs_cv r8 11 (f_Row_ticksBetween r8 r2)) fun v13 =>
      fs_bind (fs_gr a0 6 0) fun r14 =>
      fs_bind (fs_cv r14 2 (f_ArrayList_get r14 v3)) fun r15 =>
      fs_bind (fs_ck r15 11) fun _ =>
      fs_bind (fs_cv r15 11 (f_Row_ticksBetween r15 r2)) fun v16 =>
      if 0 ≤ (lg_cmp v13 v16) then (
        j113 v3) else
      j110 ()) else
    j113 v3) (-1) 0

def f_Table_pairAll (a0 : Nat) : fs_T Unit :=
  fs_bind (fs_gr a0 6 1) fun r1 =>
  fs_bind (f_Arrays_fill_1 r1 (-1)) fun _ =>
  fs_bind (fs_cv a0 6 (f_Table_putInOrder a0)) fun _ =>
  fs_lp1 4096 (fun k14 (v2 : Int32) =>
    fs_bind (fs_gi a0 6 3) fun v3 =>
    if v3 ≤ v2 then (
      fs_bind (fs_gr a0 6 0) fun r4 =>
      fs_bind (fs_cv r4 2 (f_ArrayList_size r4)) fun v5 =>
      fs_bind (fs_pi a0 6 4 v5) fun _ =>
      fs_ret ()) else
    fs_bind (fs_gr a0 6 2) fun r6 =>
    fs_bind (fs_ai r6 v2) fun v7 =>
    fs_bind (fs_gr a0 6 1) fun r8 =>
    fs_bind (fs_ai r8 v7) fun v9 =>
    fs_let (fun (_ : Unit) =>
      fs_nm ((v2 + 1) : Int32) fun v13 =>
      k14 v13) fun j64 =>
    if v9 = (-1) then (
      fs_bind (fs_cv a0 6 (f_Table_nearestReverse a0 v7)) fun v10 =>
      if v10 = (-1) then (
        j64 ()) else
      fs_bind (fs_gr a0 6 1) fun r11 =>
      fs_bind (fs_si r11 v7 v10) fun _ =>
      fs_bind (fs_gr a0 6 1) fun r12 =>
      fs_bind (fs_si r12 v10 v7) fun _ =>
      j64 ()) else
    j64 ()) 0

def f_Table_partnerOf (a0 : Nat) (x1 : Int32) : fs_T Int32 :=
  fs_bind (fs_gi a0 6 4) fun v1 =>
  fs_bind (fs_gr a0 6 0) fun r2 =>
  fs_bind (fs_cv r2 2 (f_ArrayList_size r2)) fun v3 =>
  fs_let (fun (_ : Unit) =>
    fs_bind (fs_gr a0 6 1) fun r4 =>
    fs_bind (fs_ai r4 x1) fun v5 =>
    fs_ret v5) fun j18 =>
  if v1 = v3 then (
    j18 ()) else
  fs_bind (fs_cv a0 6 (f_Table_pairAll a0)) fun _ =>
  j18 ()

def f_Fs_other (a0 : Nat) (x1 : Int32) : fs_T (Int32 ⊕ String) :=
  fs_bindx (fs_cv a0 0 (f_Fs_requireRow a0 x1)) fun _ =>
  fs_bind (fs_gr a0 0 3) fun r1 =>
  fs_bind (fs_gr r1 5 2) fun r2 =>
  fs_bind (fs_cv r2 6 (f_Table_partnerOf r2 x1)) fun v3 =>
  fs_ret (.inl v3)

def f_Ledger_lostInEpoch (a0 : Nat) (x1 : Int32) : fs_T Int32 :=
  fs_lp4 4096 (fun k10 (v1 : Int32) (v2 : Int32) (v3 : Int32) (v4 : Int32) =>
    if 100 ≤ v4 then (
      fs_ret v1) else
    fs_bind (fs_gr a0 7 0) fun r5 =>
    fs_bind (fs_az r5 ((x1 * 100) + v4)) fun v6 =>
    fs_let (fun (v9 : Int32) (v10 : Int32) (v11 : Int32) =>
      fs_nm ((v4 + 1) : Int32) fun v12 =>
      k10 v9 v10 v11 v12) fun j52 =>
    if v6 = 0 then (
      if v3 = 0 then (
        j52 v1 v2 v3) else
      fs_nm ((v2 + 1) : Int32) fun v7 =>
      j52 v1 v7 v3) else
    fs_nm ((v1 + v2) : Int32) fun v8 =>
    j52 v8 0 1) 0 0 0 0

def f_Ledger_lostRecords (a0 : Nat) : fs_T Int32 :=
  fs_lp2 4096 (fun k4 (v1 : Int32) (v2 : Int32) =>
    if 5 < v2 then (
      fs_ret v1) else
    fs_bind (fs_cv a0 7 (f_Ledger_lostInEpoch a0 v2)) fun v3 =>
    fs_nm ((v1 + v3) : Int32) fun v4 =>
    fs_nm ((v2 + 1) : Int32) fun v5 =>
    k4 v4 v5) 0 0

def f_Collector_waitingOf (a0 : Nat) (x1 : Int32) : fs_T Int32 :=
  fs_lp2 4096 (fun k4 (v1 : Int32) (v2 : Int32) =>
    fs_bind (fs_gr a0 5 1) fun r3 =>
    fs_bind (fs_cv r3 2 (f_ArrayList_size r3)) fun v4 =>
    if v4 ≤ v2 then (
      fs_ret v1) else
    fs_bind (fs_gr a0 5 1) fun r5 =>
    fs_bind (fs_cv r5 2 (f_ArrayList_get r5 v2)) fun r6 =>
    fs_bind (fs_ck r6 9) fun _ =>
    fs_bind (fs_cv r6 9 (f_Report_exporter r6)) fun v7 =>
    fs_let (fun (v9 : Int32) =>
      fs_nm ((v2 + 1) : Int32) fun v10 =>
      k4 v9 v10) fun j36 =>
    if v7 = x1 then (
      fs_nm ((v1 + 1) : Int32) fun v8 =>
      j36 v8) else
    j36 v1) 0 0

def f_Fs_count (a0 : Nat) (x1 : Int32) (x2 : Int32) : fs_T (Int32 ⊕ String) :=
  fs_bindx (fs_cv a0 0 (f_Fs_exporterOf a0 x1)) fun r1 =>
  fs_bind (fs_gr a0 0 3) fun r2 =>
  fs_bind (fs_cv r2 5 (f_Collector_ledgerOf r2 x1)) fun r3 =>
  if x2 = 0 then (
    fs_bind (fs_gi r1 1 4) fun v4 =>
    fs_ret (.inl v4)) else
  if x2 = 1 then (
    fs_bind (fs_gi r1 1 5) fun v5 =>
    fs_ret (.inl v5)) else
  if x2 = 2 then (
    fs_bind (fs_gr r1 1 1) fun r6 =>
    fs_bind (fs_cv r6 2 (f_ArrayList_size r6)) fun v7 =>
    fs_ret (.inl v7)) else
  if x2 = 3 then (
    fs_bind (fs_gr r1 1 2) fun r8 =>
    fs_bind (fs_cv r8 2 (f_ArrayList_size r8)) fun v9 =>
    fs_ret (.inl v9)) else
  if x2 = 4 then (
    fs_bind (fs_gi r1 1 9) fun v10 =>
    fs_ret (.inl v10)) else
  if x2 = 5 then (
    fs_bind (fs_cv r3 7 (f_Ledger_lostRecords r3)) fun v11 =>
    fs_ret (.inl v11)) else
  if x2 = 6 then (
    fs_bind (fs_gr a0 0 3) fun r12 =>
    fs_bind (fs_cv r12 5 (f_Collector_waitingOf r12 x1)) fun v13 =>
    fs_ret (.inl v13)) else
  if x2 = 7 then (
    fs_bind (fs_gi r3 7 1) fun v14 =>
    fs_ret (.inl v14)) else
  if x2 = 8 then (
    fs_bind (fs_gi r3 7 2) fun v15 =>
    fs_ret (.inl v15)) else
  if x2 = 9 then (
    fs_bind (fs_gi r3 7 3) fun v16 =>
    fs_ret (.inl v16)) else
  fs_throw "java/lang/IllegalArgumentException"

def f_Lw_packet (a0 : Nat) (x1 : Int32) (x2 : Int32) (x3 : Int32) (x4 : Int32) (x5 : Int32) (x6 : Int32) (a7 : Nat) : fs_T Int32 :=
  fs_try (fs_cv a0 0 (f_Fs_packet a0 x1 x2 x3 x4 x5 x6)) (fun v1 =>
    fs_let (fun (v2 : Int64) =>
      fs_bind (fs_sj a7 0 v2) fun _ =>
      fs_ret 0) fun j24 =>
    if v1 = 0 then (
      j24 0) else
    j24 1) fun e9 =>
  if e9 = "java/lang/IllegalArgumentException" then (
    fs_ret 1) else
  if e9 = "java/lang/IllegalStateException" then (
    fs_ret 2) else
  fs_fail

def f_Lw_tick (a0 : Nat) (x1 : Int32) (x2 : Int32) (a3 : Nat) : fs_T Int32 :=
  fs_try (fs_cv a0 0 (f_Fs_tick a0 x1 x2)) (fun v1 =>
    fs_bind (fs_sj a3 0 (Int32.toInt64 v1)) fun _ =>
    fs_ret 0) fun e9 =>
  if e9 = "java/lang/IllegalArgumentException" then (
    fs_ret 1) else
  fs_fail

def f_Lw_flush (a0 : Nat) (x1 : Int32) (a2 : Nat) : fs_T Int32 :=
  fs_try (fs_cv a0 0 (f_Fs_flush a0 x1)) (fun v1 =>
    fs_bind (fs_sj a2 0 (Int32.toInt64 v1)) fun _ =>
    fs_ret 0) fun e9 =>
  if e9 = "java/lang/IllegalArgumentException" then (
    fs_ret 1) else
  fs_fail

def f_Lw_sampler (a0 : Nat) (x1 : Int32) (x2 : Int32) : fs_T Int32 :=
  fs_try (fs_cv a0 0 (f_Fs_sampler a0 x1 x2)) (fun _ =>
    fs_ret 0) fun e9 =>
  if e9 = "java/lang/IllegalArgumentException" then (
    fs_ret 1) else
  fs_fail

def f_Lw_ended (a0 : Nat) (x1 : Int32) (x2 : Int32) (x3 : Int32) (a4 : Nat) : fs_T Int32 :=
  fs_try (fs_cv a0 0 (f_Fs_ended a0 x1 x2 x3)) (fun v1 =>
    fs_bind (fs_sj a4 0 (Int32.toInt64 v1)) fun _ =>
    fs_ret 0) fun e9 =>
  if e9 = "java/lang/IllegalArgumentException" then (
    fs_ret 1) else
  if e9 = "java/lang/IndexOutOfBoundsException" then (
    fs_ret 2) else
  fs_fail

def f_Lw_field (a0 : Nat) (x1 : Int32) (x2 : Int32) (x3 : Int32) (x4 : Int32) (a5 : Nat) : fs_T Int32 :=
  fs_try (fs_cv a0 0 (f_Fs_field a0 x1 x2 x3 x4)) (fun v1 =>
    fs_bind (fs_sj a5 0 (Int32.toInt64 v1)) fun _ =>
    fs_ret 0) fun e9 =>
  if e9 = "java/lang/IllegalArgumentException" then (
    fs_ret 1) else
  if e9 = "java/lang/IllegalStateException" then (
    fs_ret 2) else
  fs_fail

def f_Lw_seal (a0 : Nat) (x1 : Int32) (x2 : Int32) (a3 : Nat) : fs_T Int32 :=
  fs_try (fs_cv a0 0 (f_Fs_seal a0 x1 x2)) (fun v1 =>
    fs_bind (fs_sj a3 0 (Int32.toInt64 v1)) fun _ =>
    fs_ret 0) fun e9 =>
  if e9 = "java/lang/IllegalArgumentException" then (
    fs_ret 1) else
  if e9 = "java/lang/IllegalStateException" then (
    fs_ret 2) else
  fs_fail

def f_Lw_withdraw (a0 : Nat) (x1 : Int32) (x2 : Int32) : fs_T Int32 :=
  fs_try (fs_cv a0 0 (f_Fs_withdraw a0 x1 x2)) (fun _ =>
    fs_ret 0) fun e9 =>
  if e9 = "java/lang/IllegalArgumentException" then (
    fs_ret 1) else
  if e9 = "java/lang/IllegalStateException" then (
    fs_ret 2) else
  fs_fail

def f_Lw_restart (a0 : Nat) (x1 : Int32) (a2 : Nat) : fs_T Int32 :=
  fs_try (fs_cv a0 0 (f_Fs_restart a0 x1)) (fun v1 =>
    fs_bind (fs_sj a2 0 (Int32.toInt64 v1)) fun _ =>
    fs_ret 0) fun e9 =>
  if e9 = "java/lang/IllegalArgumentException" then (
    fs_ret 1) else
  if e9 = "java/lang/IllegalStateException" then (
    fs_ret 2) else
  fs_fail

def f_Lw_announce (a0 : Nat) (x1 : Int32) (x2 : Int32) (a3 : Nat) : fs_T Int32 :=
  fs_try (fs_cv a0 0 (f_Fs_announce a0 x1 x2)) (fun v1 =>
    fs_bind (fs_sj a3 0 (Int32.toInt64 v1)) fun _ =>
    fs_ret 0) fun e9 =>
  if e9 = "java/lang/IllegalArgumentException" then (
    fs_ret 1) else
  if e9 = "java/lang/IllegalStateException" then (
    fs_ret 2) else
  fs_fail

def f_Lw_report (a0 : Nat) (x1 : Int32) (a2 : Nat) : fs_T Int32 :=
  fs_try (fs_cv a0 0 (f_Fs_report a0 x1)) (fun v1 =>
    fs_bind (fs_sj a2 0 (Int32.toInt64 v1)) fun _ =>
    fs_ret 0) fun e9 =>
  if e9 = "java/lang/IllegalArgumentException" then (
    fs_ret 1) else
  if e9 = "java/lang/IllegalStateException" then (
    fs_ret 2) else
  fs_fail

def f_Lw_tell (a0 : Nat) (x1 : Int32) (a2 : Nat) : fs_T Int32 :=
  fs_try (fs_cv a0 0 (f_Fs_tell a0 x1)) (fun v1 =>
    fs_bind (fs_sj a2 0 (Int32.toInt64 v1)) fun _ =>
    fs_ret 0) fun e9 =>
  if e9 = "java/lang/IllegalArgumentException" then (
    fs_ret 1) else
  if e9 = "java/lang/IllegalStateException" then (
    fs_ret 2) else
  fs_fail

def f_Lw_byteOf (a0 : Nat) (x1 : Int32) (x2 : Int32) (a3 : Nat) : fs_T Int32 :=
  fs_try (fs_cv a0 0 (f_Fs_byteOf a0 x1 x2)) (fun v1 =>
    fs_bind (fs_sj a3 0 (Int32.toInt64 v1)) fun _ =>
    fs_ret 0) fun e9 =>
  if e9 = "java/lang/IndexOutOfBoundsException" then (
    fs_ret 1) else
  fs_fail

def f_Lw_poke (a0 : Nat) (x1 : Int32) (x2 : Int32) (x3 : Int32) : fs_T Int32 :=
  fs_try (fs_cv a0 0 (f_Fs_poke a0 x1 x2 x3)) (fun _ =>
    fs_ret 0) fun e9 =>
  if e9 = "java/lang/IndexOutOfBoundsException" then (
    fs_ret 1) else
  if e9 = "java/lang/IllegalArgumentException" then (
    fs_ret 2) else
  fs_fail

def f_Lw_hear (a0 : Nat) (x1 : Int32) (a2 : Nat) : fs_T Int32 :=
  fs_try (fs_cv a0 0 (f_Fs_hear a0 x1)) (fun v1 =>
    fs_bind (fs_sj a2 0 (Int32.toInt64 v1)) fun _ =>
    fs_ret 0) fun e9 =>
  if e9 = "java/lang/IndexOutOfBoundsException" then (
    fs_ret 1) else
  if e9 = "java/lang/IllegalArgumentException" then (
    fs_ret 2) else
  if e9 = "java/lang/UnsupportedOperationException" then (
    fs_ret 3) else
  fs_fail

def f_Lw_row (a0 : Nat) (x1 : Int32) (x2 : Int32) (a3 : Nat) : fs_T Int32 :=
  fs_try (fs_cv a0 0 (f_Fs_row a0 x1 x2)) (fun v1 =>
    fs_bind (fs_sj a3 0 v1) fun _ =>
    fs_ret 0) fun e9 =>
  if e9 = "java/lang/IndexOutOfBoundsException" then (
    fs_ret 1) else
  if e9 = "java/lang/IllegalArgumentException" then (
    fs_ret 2) else
  fs_fail

def f_Lw_total (a0 : Nat) (x1 : Int32) (x2 : Int32) (x3 : Int64) (x4 : Int32) (a5 : Nat) : fs_T Int32 :=
  fs_try (fs_cv a0 0 (f_Fs_total a0 x1 x2 x3 x4)) (fun v1 =>
    fs_bind (fs_sj a5 0 v1) fun _ =>
    fs_ret 0) fun e9 =>
  if e9 = "java/lang/IllegalArgumentException" then (
    fs_ret 1) else
  fs_fail

def f_Lw_other (a0 : Nat) (x1 : Int32) (a2 : Nat) : fs_T Int32 :=
  fs_try (fs_cv a0 0 (f_Fs_other a0 x1)) (fun v1 =>
    fs_bind (fs_sj a2 0 (Int32.toInt64 v1)) fun _ =>
    fs_ret 0) fun e9 =>
  if e9 = "java/lang/IndexOutOfBoundsException" then (
    fs_ret 1) else
  fs_fail

def f_Lw_count (a0 : Nat) (x1 : Int32) (x2 : Int32) (a3 : Nat) : fs_T Int32 :=
  fs_try (fs_cv a0 0 (f_Fs_count a0 x1 x2)) (fun v1 =>
    fs_bind (fs_sj a3 0 (Int32.toInt64 v1)) fun _ =>
    fs_ret 0) fun e9 =>
  if e9 = "java/lang/IllegalArgumentException" then (
    fs_ret 1) else
  fs_fail

def f_Rf_init (a0 : Nat) : fs_T Unit :=
  fs_bind (fs_ni 2) fun r1 =>
  fs_bind (fs_pr a0 12 1 r1) fun _ =>
  fs_bind (fs_ni 2) fun r2 =>
  fs_bind (fs_pr a0 12 2 r2) fun _ =>
  fs_bind (fs_ni 2) fun r3 =>
  fs_bind (fs_pr a0 12 3 r3) fun _ =>
  fs_bind (fs_ni 2) fun r4 =>
  fs_bind (fs_pr a0 12 4 r4) fun _ =>
  fs_bind (fs_ni 2) fun r5 =>
  fs_bind (fs_pr a0 12 5 r5) fun _ =>
  fs_bind (fs_ni 2) fun r6 =>
  fs_bind (fs_pr a0 12 6 r6) fun _ =>
  fs_bind (fs_ni 2) fun r7 =>
  fs_bind (fs_pr a0 12 7 r7) fun _ =>
  fs_bind (fs_ni 12) fun r8 =>
  fs_bind (fs_pr a0 12 8 r8) fun _ =>
  fs_bind (fs_ni 12) fun r9 =>
  fs_bind (fs_pr a0 12 9 r9) fun _ =>
  fs_bind (fs_ni 12) fun r10 =>
  fs_bind (fs_pr a0 12 10 r10) fun _ =>
  fs_bind (fs_ni 12) fun r11 =>
  fs_bind (fs_pr a0 12 11 r11) fun _ =>
  fs_bind (fs_ni 12) fun r12 =>
  fs_bind (fs_pr a0 12 12 r12) fun _ =>
  fs_bind (fs_ni 2) fun r13 =>
  fs_bind (fs_pr a0 12 13 r13) fun _ =>
  fs_bind (fs_ni 336) fun r14 =>
  fs_bind (fs_pr a0 12 14 r14) fun _ =>
  fs_bind (fs_ni 6) fun r15 =>
  fs_bind (fs_pr a0 12 15 r15) fun _ =>
  fs_bind (fs_ni 48) fun r16 =>
  fs_bind (fs_pr a0 12 16 r16) fun _ =>
  fs_bind (fs_ni 48) fun r17 =>
  fs_bind (fs_pr a0 12 17 r17) fun _ =>
  fs_bind (fs_ni 6) fun r18 =>
  fs_bind (fs_pr a0 12 18 r18) fun _ =>
  fs_bind (fs_ni 6) fun r19 =>
  fs_bind (fs_pr a0 12 19 r19) fun _ =>
  fs_bind (fs_ni 6) fun r20 =>
  fs_bind (fs_pr a0 12 20 r20) fun _ =>
  fs_bind (fs_ni 48) fun r21 =>
  fs_bind (fs_pr a0 12 21 r21) fun _ =>
  fs_bind (fs_ni 48) fun r22 =>
  fs_bind (fs_pr a0 12 22 r22) fun _ =>
  fs_bind (fs_ni 6) fun r23 =>
  fs_bind (fs_pr a0 12 23 r23) fun _ =>
  fs_bind (fs_ni 30) fun r24 =>
  fs_bind (fs_pr a0 12 26 r24) fun _ =>
  fs_bind (fs_ni 1920) fun r25 =>
  fs_bind (fs_pr a0 12 27 r25) fun _ =>
  fs_bind (fs_ni 20) fun r26 =>
  fs_bind (fs_pr a0 12 29 r26) fun _ =>
  fs_bind (fs_ni 20) fun r27 =>
  fs_bind (fs_pr a0 12 30 r27) fun _ =>
  fs_bind (fs_ni 160) fun r28 =>
  fs_bind (fs_pr a0 12 31 r28) fun _ =>
  fs_bind (fs_ni 160) fun r29 =>
  fs_bind (fs_pr a0 12 32 r29) fun _ =>
  fs_bind (fs_ni 6) fun r30 =>
  fs_bind (fs_pr a0 12 34 r30) fun _ =>
  fs_bind (fs_ni 384) fun r31 =>
  fs_bind (fs_pr a0 12 35 r31) fun _ =>
  fs_bind (fs_nz 1200) fun r32 =>
  fs_bind (fs_pr a0 12 36 r32) fun _ =>
  fs_bind (fs_ni 80) fun r33 =>
  fs_bind (fs_pr a0 12 38 r33) fun _ =>
  fs_bind (fs_nj 640) fun r34 =>
  fs_bind (fs_pr a0 12 39 r34) fun _ =>
  fs_bind (fs_ni 2) fun r35 =>
  fs_bind (fs_pr a0 12 40 r35) fun _ =>
  fs_bind (fs_ni 2) fun r36 =>
  fs_bind (fs_pr a0 12 41 r36) fun _ =>
  fs_bind (fs_ni 2) fun r37 =>
  fs_bind (fs_pr a0 12 42 r37) fun _ =>
  fs_bind (fs_ni 2) fun r38 =>
  fs_bind (fs_pr a0 12 43 r38) fun _ =>
  fs_bind (fs_ni 2) fun r39 =>
  fs_bind (fs_pr a0 12 44 r39) fun _ =>
  fs_bind (fs_ni 64) fun r40 =>
  fs_bind (fs_pr a0 12 46 r40) fun _ =>
  fs_bind (fs_ni 80) fun r41 =>
  fs_bind (fs_pr a0 12 48 r41) fun _ =>
  fs_bind (fs_nz 80) fun r42 =>
  fs_bind (fs_pr a0 12 49 r42) fun _ =>
  fs_bind (fs_gr a0 12 3) fun r43 =>
  fs_bind (fs_si r43 0 1) fun _ =>
  fs_bind (fs_gr a0 12 3) fun r44 =>
  fs_bind (fs_si r44 1 1) fun _ =>
  fs_ret ()

def f_Rf_thrown (a0 : Nat) : fs_T Int32 :=
  fs_bind (fs_gi a0 12 0) fun v1 =>
  fs_ret v1

def f_Rf_noExporter (a0 : Nat) (x1 : Int32) : fs_T Int32 :=
  if x1 < 0 then (
    fs_rz 1) else
  if x1 ≤ 1 then (
    fs_rz 0) else
  fs_rz 1

def f_Rf_noByte (a0 : Nat) (x1 : Int32) : fs_T Int32 :=
  if x1 < 0 then (
    fs_rz 1) else
  if x1 ≤ 255 then (
    fs_rz 0) else
  fs_rz 1

def f_Rf_end (a0 : Nat) (x1 : Int32) (x2 : Int32) (x3 : Int32) : fs_T Unit :=
  fs_nm (((6 * x1) + x2) : Int32) fun v1 =>
  fs_bind (fs_gr a0 12 13) fun r2 =>
  fs_bind (fs_ai r2 x1) fun v3 =>
  fs_nm ((8 * ((21 * x1) + v3)) : Int32) fun v4 =>
  fs_bind (fs_gr a0 12 14) fun r5 =>
  fs_bind (fs_gr a0 12 8) fun r6 =>
  fs_bind (fs_ai r6 v1) fun v7 =>
  fs_bind (fs_si r5 v4 (v7 >>> (16 &&& 31))) fun _ =>
  fs_bind (fs_gr a0 12 14) fun r8 =>
  fs_bind (fs_gr a0 12 8) fun r9 =>
  fs_bind (fs_ai r9 v1) fun v10 =>
  fs_bind (fs_si r8 (v4 + 1) ((v10 >>> (8 &&& 31)) &&& 255)) fun _ =>
  fs_bind (fs_gr a0 12 14) fun r11 =>
  fs_bind (fs_gr a0 12 8) fun r12 =>
  fs_bind (fs_ai r12 v1) fun v13 =>
  fs_bind (fs_si r11 (v4 + 2) (v13 &&& 255)) fun _ =>
  fs_bind (fs_gr a0 12 14) fun r14 =>
  fs_bind (fs_gr a0 12 9) fun r15 =>
  fs_bind (fs_ai r15 v1) fun v16 =>
  fs_bind (fs_si r14 (v4 + 3) v16) fun _ =>
  fs_bind (fs_gr a0 12 14) fun r17 =>
  fs_bind (fs_gr a0 12 10) fun r18 =>
  fs_bind (fs_ai r18 v1) fun v19 =>
  fs_bind (fs_si r17 (v4 + 4) v19) fun _ =>
  fs_bind (fs_gr a0 12 14) fun r20 =>
  fs_bind (fs_gr a0 12 11) fun r21 =>
  fs_bind (fs_ai r21 v1) fun v22 =>
  fs_bind (fs_si r20 (v4 + 5) v22) fun _ =>
  fs_bind (fs_gr a0 12 14) fun r23 =>
  fs_bind (fs_gr a0 12 1) fun r24 =>
  fs_bind (fs_ai r24 x1) fun v25 =>
  fs_bind (fs_si r23 (v4 + 6) v25) fun _ =>
  fs_bind (fs_gr a0 12 14) fun r26 =>
  fs_bind (fs_si r26 (v4 + 7) x3) fun _ =>
  fs_bind (fs_gr a0 12 13) fun r27 =>
  fs_bind (fs_ai r27 x1) fun v28 =>
  fs_bind (fs_si r27 x1 (v28 + 1)) fun _ =>
  fs_bind (fs_gr a0 12 7) fun r29 =>
  fs_bind (fs_ai r29 x1) fun v30 =>
  fs_bind (fs_si r29 x1 (v30 - 1)) fun _ =>
  fs_lp1 4096 (fun k183 (v31 : Int32) =>
    fs_bind (fs_gr a0 12 7) fun r32 =>
    fs_bind (fs_ai r32 x1) fun v33 =>
    if ((6 * x1) + v33) ≤ v31 then (
      fs_ret ()) else
    fs_bind (fs_gr a0 12 8) fun r34 =>
    fs_bind (fs_gr a0 12 8) fun r35 =>
    fs_bind (fs_ai r35 (v31 + 1)) fun v36 =>
    fs_bind (fs_si r34 v31 v36) fun _ =>
    fs_bind (fs_gr a0 12 9) fun r37 =>
    fs_bind (fs_gr a0 12 9) fun r38 =>
    fs_bind (fs_ai r38 (v31 + 1)) fun v39 =>
    fs_bind (fs_si r37 v31 v39) fun _ =>
    fs_bind (fs_gr a0 12 10) fun r40 =>
    fs_bind (fs_gr a0 12 10) fun r41 =>
    fs_bind (fs_ai r41 (v31 + 1)) fun v42 =>
    fs_bind (fs_si r40 v31 v42) fun _ =>
    fs_bind (fs_gr a0 12 11) fun r43 =>
    fs_bind (fs_gr a0 12 11) fun r44 =>
    fs_bind (fs_ai r44 (v31 + 1)) fun v45 =>
    fs_bind (fs_si r43 v31 v45) fun _ =>
    fs_bind (fs_gr a0 12 12) fun r46 =>
    fs_bind (fs_gr a0 12 12) fun r47 =>
    fs_bind (fs_ai r47 (v31 + 1)) fun v48 =>
    fs_bind (fs_si r46 v31 v48) fun _ =>
    fs_nm ((v31 + 1) : Int32) fun v49 =>
    k183 v49) v1

def f_Rf_flowOf (a0 : Nat) (x1 : Int32) (x2 : Int32) : fs_T Int32 :=
  fs_lp1 4096 (fun k2 (v1 : Int32) =>
    fs_bind (fs_gr a0 12 7) fun r2 =>
    fs_bind (fs_ai r2 x1) fun v3 =>
    if v3 ≤ v1 then (
      fs_bind (fs_gr a0 12 7) fun r4 =>
      fs_bind (fs_ai r4 x1) fun v5 =>
      fs_let (fun (_ : Unit) =>
        fs_bind (fs_gr a0 12 7) fun r14 =>
        fs_bind (fs_ai r14 x1) fun v15 =>
        fs_nm (((6 * x1) + v15) : Int32) fun v16 =>
        fs_bind (fs_gr a0 12 8) fun r17 =>
        fs_bind (fs_si r17 v16 x2) fun _ =>
        fs_bind (fs_gr a0 12 9) fun r18 =>
        fs_bind (fs_si r18 v16 0) fun _ =>
        fs_bind (fs_gr a0 12 10) fun r19 =>
        fs_bind (fs_si r19 v16 0) fun _ =>
        fs_bind (fs_gr a0 12 11) fun r20 =>
        fs_bind (fs_gr a0 12 1) fun r21 =>
        fs_bind (fs_ai r21 x1) fun v22 =>
        fs_bind (fs_si r20 v16 v22) fun _ =>
        fs_bind (fs_gr a0 12 7) fun r23 =>
        fs_bind (fs_ai r23 x1) fun v24 =>
        fs_bind (fs_si r23 x1 (v24 + 1)) fun _ =>
        fs_bind (fs_gr a0 12 7) fun r25 =>
        fs_bind (fs_ai r25 x1) fun v26 =>
        fs_ret (v26 - 1)) fun j104 =>
      if v5 = 6 then (
        fs_lp2 4096 (fun k51 (v6 : Int32) (v7 : Int32) =>
          if 6 ≤ v7 then (
            fs_bind (fs_cv a0 12 (f_Rf_end a0 x1 v6 4)) fun _ =>
            j104 ()) else
          fs_bind (fs_gr a0 12 12) fun r8 =>
          fs_bind (fs_ai r8 ((6 * x1) + v7)) fun v9 =>
          fs_bind (fs_gr a0 12 12) fun r10 =>
          fs_bind (fs_ai r10 ((6 * x1) + v6)) fun v11 =>
          fs_let (fun (v12 : Int32) =>
            fs_nm ((v7 + 1) : Int32) fun v13 =>
            k51 v12 v13) fun j90 =>
          if v11 ≤ v9 then (
            j90 v6) else
          j90 v7) 0 1) else
      j104 ()) else
    fs_bind (fs_gr a0 12 8) fun r27 =>
    fs_bind (fs_ai r27 ((6 * x1) + v1)) fun v28 =>
    if v28 = x2 then (
      fs_ret v1) else
    fs_nm ((v1 + 1) : Int32) fun v29 =>
    k2 v29) 0

def f_Rf_packet (a0 : Nat) (x1 : Int32) (x2 : Int32) (x3 : Int32) (x4 : Int32) (x5 : Int32) (x6 : Int32) : fs_T Int32 :=
  fs_bind (fs_cv a0 12 (f_Rf_noExporter a0 x1)) fun v1 =>
  fs_let (fun (v5 : Int32) =>
    fs_let (fun (v10 : Int32) =>
      fs_bind (fs_pi a0 12 0 v10) fun _ =>
      fs_bind (fs_gi a0 12 0) fun v11 =>
      if v11 = 0 then (
        fs_bind (fs_gr a0 12 4) fun r12 =>
        fs_bind (fs_ai r12 x1) fun v13 =>
        fs_let (fun (v14 : Int32) =>
          fs_bind (fs_gr a0 12 4) fun r15 =>
          fs_bind (fs_gr a0 12 4) fun r16 =>
          fs_bind (fs_ai r16 x1) fun v17 =>
          fs_bind (fs_gr a0 12 3) fun r18 =>
          fs_bind (fs_ai r18 x1) fun v19 =>
          fs_bind (fs_rem (v17 + 1) v19) fun v20 =>
          fs_bind (fs_si r15 x1 v20) fun _ =>
          fs_let (fun (_ : Unit) =>
            fs_rz v14) fun j223 =>
          if v14 = 0 then (
            j223 ()) else
          fs_bind (fs_cv a0 12 (f_Rf_flowOf a0 x1 (((x2 <<< (16 &&& 31)) ||| (x3 <<< (8 &&& 31))) ||| x4))) fun v21 =>
          fs_bind (fs_gr a0 12 9) fun r22 =>
          fs_nm (((6 * x1) + v21) : Int32) fun v23 =>
          fs_bind (fs_ai r22 v23) fun v24 =>
          fs_bind (fs_si r22 v23 (v24 + x5)) fun _ =>
          fs_bind (fs_gr a0 12 10) fun r25 =>
          fs_nm (((6 * x1) + v21) : Int32) fun v26 =>
          fs_bind (fs_ai r25 v26) fun v27 =>
          fs_bind (fs_si r25 v26 (v27 + 1)) fun _ =>
          fs_bind (fs_gr a0 12 12) fun r28 =>
          fs_bind (fs_gr a0 12 1) fun r29 =>
          fs_bind (fs_ai r29 x1) fun v30 =>
          fs_bind (fs_si r28 ((6 * x1) + v21) v30) fun _ =>
          if x6 = 0 then (
            j223 ()) else
          fs_bind (fs_cv a0 12 (f_Rf_end a0 x1 v21 3)) fun _ =>
          j223 ()) fun j112 =>
        if v13 = 0 then (
          j112 1) else
        j112 0) else
      fs_rz 0) fun j86 =>
    if v5 = 0 then (
      fs_bind (fs_gr a0 12 7) fun r6 =>
      fs_bind (fs_ai r6 x1) fun v7 =>
      fs_bind (fs_gr a0 12 13) fun r8 =>
      fs_bind (fs_ai r8 x1) fun v9 =>
      if (v7 + v9) ≤ 19 then (
        j86 0) else
      j86 2) else
    j86 1) fun j51 =>
  fs_let (fun (_ : Unit) =>
    j51 1) fun j46 =>
  if v1 = 0 then (
    fs_bind (fs_cv a0 12 (f_Rf_noByte a0 x2)) fun v2 =>
    if v2 = 0 then (
      fs_bind (fs_cv a0 12 (f_Rf_noByte a0 x3)) fun v3 =>
      if v3 = 0 then (
        fs_bind (fs_cv a0 12 (f_Rf_noByte a0 x4)) fun v4 =>
        if v4 = 0 then (
          if x5 < 0 then (
            j46 ()) else
          if x5 ≤ 9999 then (
            j51 0) else
          j46 ()) else
        j46 ()) else
      j46 ()) else
    j46 ()) else
  j46 ()

def f_Rf_tick (a0 : Nat) (x1 : Int32) (x2 : Int32) : fs_T Int32 :=
  fs_bind (fs_cv a0 12 (f_Rf_noExporter a0 x1)) fun v1 =>
  fs_let (fun (v2 : Int32) =>
    fs_bind (fs_pi a0 12 0 v2) fun _ =>
    fs_bind (fs_gi a0 12 0) fun v3 =>
    if v3 = 0 then (
      fs_bind (fs_gr a0 12 13) fun r4 =>
      fs_bind (fs_ai r4 x1) fun v5 =>
      fs_lp1 4096 (fun k47 (v6 : Int32) =>
        if x2 ≤ v6 then (
          fs_bind (fs_gr a0 12 13) fun r7 =>
          fs_bind (fs_ai r7 x1) fun v8 =>
          fs_ret (v8 - v5)) else
        fs_bind (fs_gr a0 12 1) fun r9 =>
        fs_bind (fs_ai r9 x1) fun v10 =>
        fs_bind (fs_si r9 x1 (v10 + 1)) fun _ =>
        fs_lp1 4096 (fun k66 (v11 : Int32) =>
          fs_bind (fs_gr a0 12 7) fun r12 =>
          fs_bind (fs_ai r12 x1) fun v13 =>
          if v13 ≤ v11 then (
            fs_nm ((v6 + 1) : Int32) fun v14 =>
            k47 v14) else
          fs_bind (fs_gr a0 12 1) fun r15 =>
          fs_bind (fs_ai r15 x1) fun v16 =>
          fs_bind (fs_gr a0 12 12) fun r17 =>
          fs_bind (fs_ai r17 ((6 * x1) + v11)) fun v18 =>
          fs_let (fun (v19 : Int32) =>
            fs_let (fun (v26 : Int32) =>
              k66 v26) fun j160 =>
            fs_let (fun (_ : Unit) =>
              fs_let (fun (v25 : Int32) =>
                fs_bind (fs_cv a0 12 (f_Rf_end a0 x1 v11 v25)) fun _ =>
                j160 v11) fun j151 =>
              if v19 = 0 then (
                j151 2) else
              j151 1) fun j137 =>
            if v19 = 0 then (
              fs_bind (fs_gr a0 12 1) fun r20 =>
              fs_bind (fs_ai r20 x1) fun v21 =>
              fs_bind (fs_gr a0 12 11) fun r22 =>
              fs_bind (fs_ai r22 ((6 * x1) + v11)) fun v23 =>
              if (v21 - v23) < 60 then (
                fs_nm ((v11 + 1) : Int32) fun v24 =>
                j160 v24) else
              j137 ()) else
            j137 ()) fun j106 =>
          if (v16 - v18) < 15 then (
            j106 0) else
          j106 1) 0) 0) else
    fs_ret 0) fun j25 =>
  fs_let (fun (_ : Unit) =>
    j25 1) fun j20 =>
  if v1 = 0 then (
    if x2 < 1 then (
      j20 ()) else
    if x2 ≤ 100 then (
      j25 0) else
    j20 ()) else
  j20 ()

def f_Rf_flush (a0 : Nat) (x1 : Int32) : fs_T Int32 :=
  fs_bind (fs_cv a0 12 (f_Rf_noExporter a0 x1)) fun v1 =>
  fs_let (fun (v2 : Int32) =>
    fs_bind (fs_pi a0 12 0 v2) fun _ =>
    fs_bind (fs_gi a0 12 0) fun v3 =>
    if v3 = 0 then (
      fs_bind (fs_gr a0 12 7) fun r4 =>
      fs_bind (fs_ai r4 x1) fun v5 =>
      fs_lp1 4096 (fun k35 (v6 : Int32) =>
        if v5 ≤ v6 then (
          fs_ret v5) else
        fs_bind (fs_cv a0 12 (f_Rf_end a0 x1 0 5)) fun _ =>
        fs_nm ((v6 + 1) : Int32) fun v7 =>
        k35 v7) 0) else
    fs_ret 0) fun j14 =>
  if v1 = 0 then (
    j14 0) else
  j14 1

def f_Rf_sampler (a0 : Nat) (x1 : Int32) (x2 : Int32) : fs_T Unit :=
  fs_bind (fs_cv a0 12 (f_Rf_noExporter a0 x1)) fun v1 =>
  fs_let (fun (v2 : Int32) =>
    fs_bind (fs_pi a0 12 0 v2) fun _ =>
    fs_bind (fs_gi a0 12 0) fun v3 =>
    if v3 = 0 then (
      fs_bind (fs_gr a0 12 3) fun r4 =>
      fs_bind (fs_si r4 x1 x2) fun _ =>
      fs_bind (fs_gr a0 12 4) fun r5 =>
      fs_bind (fs_si r5 x1 0) fun _ =>
      fs_ret ()) else
    fs_ret ()) fun j25 =>
  fs_let (fun (_ : Unit) =>
    j25 1) fun j20 =>
  if v1 = 0 then (
    if x2 < 1 then (
      j20 ()) else
    if x2 ≤ 9 then (
      j25 0) else
    j20 ()) else
  j20 ()

def f_Rf_ended (a0 : Nat) (x1 : Int32) (x2 : Int32) (x3 : Int32) : fs_T Int32 :=
  fs_bind (fs_cv a0 12 (f_Rf_noExporter a0 x1)) fun v1 =>
  fs_let (fun (v4 : Int32) =>
    fs_bind (fs_pi a0 12 0 v4) fun _ =>
    fs_bind (fs_gi a0 12 0) fun v5 =>
    if v5 = 0 then (
      fs_bind (fs_gr a0 12 14) fun r6 =>
      fs_bind (fs_ai r6 ((8 * ((21 * x1) + x2)) + x3)) fun v7 =>
      fs_ret v7) else
    fs_ret 0) fun j42 =>
  fs_let (fun (_ : Unit) =>
    j42 1) fun j19 =>
  if v1 = 0 then (
    if x3 < 0 then (
      j19 ()) else
    if x3 ≤ 7 then (
      fs_let (fun (_ : Unit) =>
        j42 2) fun j37 =>
      if x2 < 0 then (
        j37 ()) else
      fs_bind (fs_gr a0 12 13) fun r2 =>
      fs_bind (fs_ai r2 x1) fun v3 =>
      if x2 < v3 then (
        j42 0) else
      j37 ()) else
    j19 ()) else
  j19 ()

def f_Rf_noTemplate (a0 : Nat) (x1 : Int32) (x2 : Int32) : fs_T Int32 :=
  fs_bind (fs_cv a0 12 (f_Rf_noExporter a0 x1)) fun v1 =>
  if v1 = 0 then (
    if x2 < 0 then (
      fs_rz 1) else
    if x2 ≤ 2 then (
      fs_rz 0) else
    fs_rz 1) else
  fs_rz 1

def f_Rf_leastOf (a0 : Nat) (x1 : Int32) : fs_T Int32 :=
  if x1 = 3 then (
    fs_ret 3) else
  if x1 ≤ 3 then (
    fs_ret 1) else
  if 7 ≤ x1 then (
    fs_ret 1) else
  fs_ret 2

def f_Rf_field (a0 : Nat) (x1 : Int32) (x2 : Int32) (x3 : Int32) (x4 : Int32) : fs_T Int32 :=
  fs_bind (fs_cv a0 12 (f_Rf_noTemplate a0 x1 x2)) fun v1 =>
  fs_let (fun (v3 : Int32) =>
    fs_let (fun (v4 : Int32) =>
      fs_bind (fs_pi a0 12 0 v4) fun _ =>
      if v3 = 0 then (
        fs_nm (((3 * x1) + x2) : Int32) fun v5 =>
        fs_lp1 4096 (fun k83 (v6 : Int32) =>
          fs_bind (fs_gr a0 12 15) fun r7 =>
          fs_bind (fs_ai r7 v5) fun v8 =>
          if v8 ≤ v6 then (
            fs_bind (fs_gi a0 12 0) fun v9 =>
            if v9 = 0 then (
              fs_bind (fs_gr a0 12 16) fun r10 =>
              fs_bind (fs_gr a0 12 15) fun r11 =>
              fs_bind (fs_ai r11 v5) fun v12 =>
              fs_bind (fs_si r10 ((8 * v5) + v12) x3) fun _ =>
              fs_bind (fs_gr a0 12 17) fun r13 =>
              fs_bind (fs_gr a0 12 15) fun r14 =>
              fs_bind (fs_ai r14 v5) fun v15 =>
              fs_bind (fs_si r13 ((8 * v5) + v15) x4) fun _ =>
              fs_bind (fs_gr a0 12 15) fun r16 =>
              fs_bind (fs_ai r16 v5) fun v17 =>
              fs_bind (fs_si r16 v5 (v17 + 1)) fun _ =>
              fs_bind (fs_gr a0 12 15) fun r18 =>
              fs_bind (fs_ai r18 v5) fun v19 =>
              fs_ret v19) else
            fs_ret 0) else
          fs_bind (fs_gr a0 12 16) fun r20 =>
          fs_bind (fs_ai r20 ((8 * v5) + v6)) fun v21 =>
          fs_let (fun (v23 : Int32) =>
            fs_bind (fs_pi a0 12 0 v23) fun _ =>
            fs_nm ((v6 + 1) : Int32) fun v24 =>
            k83 v24) fun j121 =>
          if v21 = x3 then (
            j121 2) else
          fs_bind (fs_gi a0 12 0) fun v22 =>
          j121 v22) 0) else
      fs_ret 0) fun j63 =>
    if v3 = 0 then (
      j63 0) else
    j63 1) fun j50 =>
  fs_let (fun (_ : Unit) =>
    j50 1) fun j45 =>
  if v1 = 0 then (
    if x3 < 0 then (
      j45 ()) else
    if 7 < x3 then (
      j45 ()) else
    if x4 < 0 then (
      j45 ()) else
    if 4 < x4 then (
      j45 ()) else
    fs_let (fun (_ : Unit) =>
      j50 0) fun j49 =>
    if x4 ≤ 0 then (
      j49 ()) else
    fs_bind (fs_cv a0 12 (f_Rf_leastOf a0 x3)) fun v2 =>
    if v2 ≤ x4 then (
      j49 ()) else
    j45 ()) else
  j45 ()

def f_Rf_seal (a0 : Nat) (x1 : Int32) (x2 : Int32) : fs_T Int32 :=
  fs_nm (((3 * x1) + x2) : Int32) fun v1 =>
  fs_bind (fs_cv a0 12 (f_Rf_noTemplate a0 x1 x2)) fun v2 =>
  fs_let (fun (v7 : Int32) =>
    fs_bind (fs_pi a0 12 0 v7) fun _ =>
    fs_bind (fs_gi a0 12 0) fun v8 =>
    if v8 = 0 then (
      fs_bind (fs_gr a0 12 18) fun r9 =>
      fs_bind (fs_ai r9 v1) fun v10 =>
      fs_bind (fs_si r9 v1 (v10 + 1)) fun _ =>
      fs_bind (fs_gr a0 12 19) fun r11 =>
      fs_bind (fs_gr a0 12 18) fun r12 =>
      fs_bind (fs_ai r12 v1) fun v13 =>
      fs_bind (fs_si r11 v1 v13) fun _ =>
      fs_bind (fs_gr a0 12 20) fun r14 =>
      fs_bind (fs_gr a0 12 15) fun r15 =>
      fs_bind (fs_ai r15 v1) fun v16 =>
      fs_bind (fs_si r14 v1 v16) fun _ =>
      fs_nm ((8 * v1) : Int32) fun v17 =>
      fs_lp1 4096 (fun k95 (v18 : Int32) =>
        fs_bind (fs_gr a0 12 15) fun r19 =>
        fs_bind (fs_ai r19 v1) fun v20 =>
        if ((8 * v1) + v20) ≤ v18 then (
          fs_bind (fs_gr a0 12 15) fun r21 =>
          fs_bind (fs_si r21 v1 0) fun _ =>
          fs_bind (fs_gi a0 12 24) fun v22 =>
          fs_bind (fs_pi a0 12 24 (v22 + 1)) fun _ =>
          fs_bind (fs_gr a0 12 23) fun r23 =>
          fs_bind (fs_gi a0 12 24) fun v24 =>
          fs_bind (fs_si r23 v1 v24) fun _ =>
          fs_bind (fs_gr a0 12 18) fun r25 =>
          fs_bind (fs_ai r25 v1) fun v26 =>
          fs_ret v26) else
        fs_bind (fs_gr a0 12 21) fun r27 =>
        fs_bind (fs_gr a0 12 16) fun r28 =>
        fs_bind (fs_ai r28 v18) fun v29 =>
        fs_bind (fs_si r27 v18 v29) fun _ =>
        fs_bind (fs_gr a0 12 22) fun r30 =>
        fs_bind (fs_gr a0 12 17) fun r31 =>
        fs_bind (fs_ai r31 v18) fun v32 =>
        fs_bind (fs_si r30 v18 v32) fun _ =>
        fs_nm ((v18 + 1) : Int32) fun v33 =>
        k95 v33) v17) else
    fs_ret 0) fun j43 =>
  if v2 = 0 then (
    fs_bind (fs_gr a0 12 15) fun r3 =>
    fs_bind (fs_ai r3 v1) fun v4 =>
    fs_let (fun (_ : Unit) =>
      j43 2) fun j38 =>
    if v4 = 0 then (
      j38 ()) else
    fs_bind (fs_gr a0 12 19) fun r5 =>
    fs_bind (fs_ai r5 v1) fun v6 =>
    if v6 ≤ 0 then (
      j43 0) else
    j38 ()) else
  j43 1

def f_Rf_withdraw (a0 : Nat) (x1 : Int32) (x2 : Int32) : fs_T Unit :=
  fs_nm (((3 * x1) + x2) : Int32) fun v1 =>
  fs_bind (fs_cv a0 12 (f_Rf_noTemplate a0 x1 x2)) fun v2 =>
  fs_let (fun (v5 : Int32) =>
    fs_bind (fs_pi a0 12 0 v5) fun _ =>
    fs_bind (fs_gi a0 12 0) fun v6 =>
    if v6 = 0 then (
      fs_bind (fs_gr a0 12 19) fun r7 =>
      fs_bind (fs_si r7 v1 0) fun _ =>
      fs_ret ()) else
    fs_ret ()) fun j34 =>
  if v2 = 0 then (
    fs_bind (fs_gr a0 12 19) fun r3 =>
    fs_bind (fs_ai r3 v1) fun v4 =>
    if v4 = 0 then (
      j34 2) else
    j34 0) else
  j34 1

def f_Rf_restart (a0 : Nat) (x1 : Int32) : fs_T Int32 :=
  fs_bind (fs_cv a0 12 (f_Rf_noExporter a0 x1)) fun v1 =>
  fs_let (fun (v4 : Int32) =>
    fs_bind (fs_pi a0 12 0 v4) fun _ =>
    fs_bind (fs_gi a0 12 0) fun v5 =>
    if v5 = 0 then (
      fs_bind (fs_gr a0 12 2) fun r6 =>
      fs_bind (fs_ai r6 x1) fun v7 =>
      fs_bind (fs_si r6 x1 (v7 + 1)) fun _ =>
      fs_bind (fs_gr a0 12 7) fun r8 =>
      fs_bind (fs_si r8 x1 0) fun _ =>
      fs_bind (fs_gr a0 12 13) fun r9 =>
      fs_bind (fs_si r9 x1 0) fun _ =>
      fs_bind (fs_gr a0 12 5) fun r10 =>
      fs_bind (fs_si r10 x1 0) fun _ =>
      fs_bind (fs_gr a0 12 6) fun r11 =>
      fs_bind (fs_si r11 x1 0) fun _ =>
      fs_bind (fs_gr a0 12 3) fun r12 =>
      fs_bind (fs_si r12 x1 1) fun _ =>
      fs_bind (fs_gr a0 12 4) fun r13 =>
      fs_bind (fs_si r13 x1 0) fun _ =>
      fs_nm ((3 * x1) : Int32) fun v14 =>
      fs_lp1 4096 (fun k96 (v15 : Int32) =>
        if ((3 * x1) + 3) ≤ v15 then (
          fs_bind (fs_gr a0 12 2) fun r16 =>
          fs_bind (fs_ai r16 x1) fun v17 =>
          fs_ret v17) else
        fs_bind (fs_gr a0 12 15) fun r18 =>
        fs_bind (fs_si r18 v15 0) fun _ =>
        fs_bind (fs_gr a0 12 18) fun r19 =>
        fs_bind (fs_si r19 v15 0) fun _ =>
        fs_bind (fs_gr a0 12 19) fun r20 =>
        fs_bind (fs_si r20 v15 0) fun _ =>
        fs_nm ((v15 + 1) : Int32) fun v21 =>
        k96 v21) v14) else
    fs_ret 0) fun j28 =>
  if v1 = 0 then (
    fs_bind (fs_gr a0 12 2) fun r2 =>
    fs_bind (fs_ai r2 x1) fun v3 =>
    if v3 = 5 then (
      j28 2) else
    j28 0) else
  j28 1

def f_Rf_write (a0 : Nat) (x1 : Int32) : fs_T Unit :=
  fs_bind (fs_gr a0 12 27) fun r1 =>
  fs_bind (fs_gi a0 12 25) fun v2 =>
  fs_bind (fs_gr a0 12 26) fun r3 =>
  fs_bind (fs_gi a0 12 25) fun v4 =>
  fs_bind (fs_ai r3 v4) fun v5 =>
  fs_bind (fs_si r1 ((64 * v2) + v5) x1) fun _ =>
  fs_bind (fs_gr a0 12 26) fun r6 =>
  fs_bind (fs_gi a0 12 25) fun v7 =>
  fs_bind (fs_ai r6 v7) fun v8 =>
  fs_bind (fs_si r6 v7 (v8 + 1)) fun _ =>
  fs_ret ()

def f_Rf_head (a0 : Nat) (x1 : Int32) (x2 : Int32) : fs_T Unit :=
  fs_bind (fs_gr a0 12 26) fun r1 =>
  fs_bind (fs_gi a0 12 25) fun v2 =>
  fs_bind (fs_si r1 v2 0) fun _ =>
  fs_bind (fs_cv a0 12 (f_Rf_write a0 x1)) fun _ =>
  fs_bind (fs_gr a0 12 2) fun r3 =>
  fs_bind (fs_ai r3 x1) fun v4 =>
  fs_bind (fs_cv a0 12 (f_Rf_write a0 v4)) fun _ =>
  fs_bind (fs_cv a0 12 (f_Rf_write a0 x2)) fun _ =>
  fs_ret ()

def f_Rf_announce (a0 : Nat) (x1 : Int32) (x2 : Int32) : fs_T Int32 :=
  fs_nm (((3 * x1) + x2) : Int32) fun v1 =>
  fs_bind (fs_cv a0 12 (f_Rf_noTemplate a0 x1 x2)) fun v2 =>
  fs_let (fun (v6 : Int32) =>
    fs_bind (fs_pi a0 12 0 v6) fun _ =>
    fs_bind (fs_gi a0 12 0) fun v7 =>
    if v7 = 0 then (
      fs_bind (fs_cv a0 12 (f_Rf_head a0 x1 0)) fun _ =>
      fs_bind (fs_cv a0 12 (f_Rf_write a0 x2)) fun _ =>
      fs_bind (fs_gr a0 12 19) fun r8 =>
      fs_bind (fs_ai r8 v1) fun v9 =>
      fs_bind (fs_cv a0 12 (f_Rf_write a0 v9)) fun _ =>
      fs_bind (fs_gr a0 12 20) fun r10 =>
      fs_bind (fs_ai r10 v1) fun v11 =>
      fs_bind (fs_cv a0 12 (f_Rf_write a0 v11)) fun _ =>
      fs_nm ((8 * v1) : Int32) fun v12 =>
      fs_lp1 4096 (fun k92 (v13 : Int32) =>
        fs_bind (fs_gr a0 12 20) fun r14 =>
        fs_bind (fs_ai r14 v1) fun v15 =>
        if ((8 * v1) + v15) ≤ v13 then (
          fs_bind (fs_gi a0 12 25) fun v16 =>
          fs_bind (fs_pi a0 12 25 (v16 + 1)) fun _ =>
          fs_bind (fs_gi a0 12 25) fun v17 =>
          fs_ret (v17 - 1)) else
        fs_bind (fs_gr a0 12 21) fun r18 =>
        fs_bind (fs_ai r18 v13) fun v19 =>
        fs_bind (fs_cv a0 12 (f_Rf_write a0 v19)) fun _ =>
        fs_bind (fs_gr a0 12 22) fun r20 =>
        fs_bind (fs_ai r20 v13) fun v21 =>
        fs_bind (fs_cv a0 12 (f_Rf_write a0 v21)) fun _ =>
        fs_nm ((v13 + 1) : Int32) fun v22 =>
        k92 v22) v12) else
    fs_ret 0) fun j43 =>
  if v2 = 0 then (
    fs_bind (fs_gr a0 12 19) fun r3 =>
    fs_bind (fs_ai r3 v1) fun v4 =>
    fs_let (fun (_ : Unit) =>
      j43 2) fun j38 =>
    if v4 = 0 then (
      j38 ()) else
    fs_bind (fs_gi a0 12 25) fun v5 =>
    if v5 = 30 then (
      j38 ()) else
    j43 0) else
  j43 1

def f_Rf_last (a0 : Nat) (x1 : Int32) : fs_T Int32 :=
  fs_nm ((3 * x1) : Int32) fun v1 =>
  fs_lp2 4096 (fun k6 (v2 : Int32) (v3 : Int32) =>
    if ((3 * x1) + 3) ≤ v3 then (
      fs_ret v2) else
    fs_bind (fs_gr a0 12 19) fun r4 =>
    fs_bind (fs_ai r4 v3) fun v5 =>
    fs_let (fun (v10 : Int32) =>
      fs_nm ((v3 + 1) : Int32) fun v11 =>
      k6 v10 v11) fun j48 =>
    fs_let (fun (_ : Unit) =>
      j48 v2) fun j47 =>
    if v5 ≤ 0 then (
      j47 ()) else
    fs_let (fun (_ : Unit) =>
      j48 v3) fun j43 =>
    if v2 < 0 then (
      j43 ()) else
    fs_bind (fs_gr a0 12 23) fun r6 =>
    fs_bind (fs_ai r6 v3) fun v7 =>
    fs_bind (fs_gr a0 12 23) fun r8 =>
    fs_bind (fs_ai r8 v2) fun v9 =>
    if v7 ≤ v9 then (
      j47 ()) else
    j43 ()) (-1) v1

def f_Rf_widthOf (a0 : Nat) (x1 : Int32) : fs_T Int32 :=
  if 256 ≤ x1 then (
    if 65536 ≤ x1 then (
      if 16777216 ≤ x1 then (
        fs_ret 4) else
      fs_ret 3) else
    fs_ret 2) else
  fs_ret 1

def f_Rf_recordOf (a0 : Nat) (x1 : Int32) (x2 : Int32) (x3 : Int32) : fs_T Int32 :=
  fs_nm ((8 * x2) : Int32) fun v1 =>
  fs_lp2 4096 (fun k9 (v2 : Int32) (v3 : Int32) =>
    fs_bind (fs_gr a0 12 20) fun r4 =>
    fs_bind (fs_ai r4 x2) fun v5 =>
    if ((8 * x2) + v5) ≤ v3 then (
      fs_ret v2) else
    fs_bind (fs_gr a0 12 14) fun r6 =>
    fs_bind (fs_gr a0 12 21) fun r7 =>
    fs_bind (fs_ai r7 v3) fun v8 =>
    fs_bind (fs_ai r6 ((8 * ((21 * x1) + x3)) + v8)) fun v9 =>
    fs_bind (fs_gr a0 12 22) fun r10 =>
    fs_bind (fs_ai r10 v3) fun v11 =>
    fs_let (fun (v15 : Int32) =>
      fs_nm ((v2 + v15) : Int32) fun v16 =>
      fs_nm ((v3 + 1) : Int32) fun v17 =>
      k9 v16 v17) fun j79 =>
    if v11 = 0 then (
      fs_bind (fs_cv a0 12 (f_Rf_widthOf a0 v9)) fun v14 =>
      j79 (1 + v14)) else
    fs_bind (fs_gr a0 12 22) fun r12 =>
    fs_bind (fs_ai r12 v3) fun v13 =>
    j79 v13) 0 v1

def f_Rf_writeRecord (a0 : Nat) (x1 : Int32) (x2 : Int32) (x3 : Int32) : fs_T Unit :=
  fs_nm ((8 * x2) : Int32) fun v1 =>
  fs_lp1 4096 (fun k6 (v2 : Int32) =>
    fs_bind (fs_gr a0 12 20) fun r3 =>
    fs_bind (fs_ai r3 x2) fun v4 =>
    if ((8 * x2) + v4) ≤ v2 then (
      fs_ret ()) else
    fs_bind (fs_gr a0 12 14) fun r5 =>
    fs_bind (fs_gr a0 12 21) fun r6 =>
    fs_bind (fs_ai r6 v2) fun v7 =>
    fs_bind (fs_ai r5 ((8 * ((21 * x1) + x3)) + v7)) fun v8 =>
    fs_bind (fs_gr a0 12 22) fun r9 =>
    fs_bind (fs_ai r9 v2) fun v10 =>
    fs_let (fun (v12 : Int32) =>
      fs_nm ((v12 - 1) : Int32) fun v13 =>
      fs_lp1 4096 (fun k80 (v14 : Int32) =>
        if v14 < 0 then (
          fs_nm ((v2 + 1) : Int32) fun v15 =>
          k6 v15) else
        fs_bind (fs_cv a0 12 (f_Rf_write a0 ((v8 >>> ((8 * v14) &&& 31)) &&& 255))) fun _ =>
        fs_nm ((v14 + (-1)) : Int32) fun v16 =>
        k80 v16) v13) fun j74 =>
    if v10 = 0 then (
      fs_bind (fs_cv a0 12 (f_Rf_widthOf a0 v8)) fun v11 =>
      fs_bind (fs_cv a0 12 (f_Rf_write a0 v11)) fun _ =>
      j74 v11) else
    j74 v10) v1

def f_Rf_report (a0 : Nat) (x1 : Int32) : fs_T Int32 :=
  fs_bind (fs_cv a0 12 (f_Rf_noExporter a0 x1)) fun v1 =>
  fs_let (fun (v8 : Int32) =>
    fs_bind (fs_pi a0 12 0 v8) fun _ =>
    fs_bind (fs_gi a0 12 0) fun v9 =>
    if v9 = 0 then (
      fs_bind (fs_cv a0 12 (f_Rf_last a0 x1)) fun v10 =>
      fs_bind (fs_cv a0 12 (f_Rf_head a0 x1 1)) fun _ =>
      fs_bind (fs_cv a0 12 (f_Rf_write a0 (v10 - (3 * x1)))) fun _ =>
      fs_bind (fs_gr a0 12 19) fun r11 =>
      fs_bind (fs_ai r11 v10) fun v12 =>
      fs_bind (fs_cv a0 12 (f_Rf_write a0 v12)) fun _ =>
      fs_lp2 4096 (fun k104 (v13 : Int32) (v14 : Int32) =>
        fs_bind (fs_gr a0 12 13) fun r15 =>
        fs_bind (fs_ai r15 x1) fun v16 =>
        fs_let (fun (_ : Unit) =>
          fs_bind (fs_cv a0 12 (f_Rf_write a0 v13)) fun _ =>
          fs_bind (fs_gr a0 12 5) fun r23 =>
          fs_bind (fs_ai r23 x1) fun v24 =>
          fs_bind (fs_cv a0 12 (f_Rf_write a0 v24)) fun _ =>
          fs_lp1 4096 (fun k175 (v25 : Int32) =>
            if v13 ≤ v25 then (
              fs_bind (fs_gr a0 12 13) fun r26 =>
              fs_bind (fs_ai r26 x1) fun v27 =>
              fs_bind (fs_si r26 x1 (v27 - v13)) fun _ =>
              fs_nm ((168 * x1) : Int32) fun v28 =>
              fs_lp1 4096 (fun k212 (v29 : Int32) =>
                fs_bind (fs_gr a0 12 13) fun r30 =>
                fs_bind (fs_ai r30 x1) fun v31 =>
                if ((168 * x1) + (8 * v31)) ≤ v29 then (
                  fs_bind (fs_gr a0 12 5) fun r32 =>
                  fs_bind (fs_ai r32 x1) fun v33 =>
                  fs_bind (fs_si r32 x1 (v33 + v13)) fun _ =>
                  fs_bind (fs_gi a0 12 25) fun v34 =>
                  fs_bind (fs_pi a0 12 25 (v34 + 1)) fun _ =>
                  fs_bind (fs_gi a0 12 25) fun v35 =>
                  fs_ret (v35 - 1)) else
                fs_bind (fs_gr a0 12 14) fun r36 =>
                fs_bind (fs_gr a0 12 14) fun r37 =>
                fs_bind (fs_ai r37 (v29 + (8 * v13))) fun v38 =>
                fs_bind (fs_si r36 v29 v38) fun _ =>
                fs_nm ((v29 + 1) : Int32) fun v39 =>
                k212 v39) v28) else
            fs_bind (fs_cv a0 12 (f_Rf_writeRecord a0 x1 v10 v25)) fun _ =>
            fs_nm ((v25 + 1) : Int32) fun v40 =>
            k175 v40) 0) fun j157 =>
        if v16 ≤ v13 then (
          j157 ()) else
        fs_bind (fs_gr a0 12 5) fun r17 =>
        fs_bind (fs_ai r17 x1) fun v18 =>
        if 100 ≤ (v18 + v13) then (
          j157 ()) else
        fs_bind (fs_cv a0 12 (f_Rf_recordOf a0 x1 v10 v13)) fun v19 =>
        if v14 < v19 then (
          j157 ()) else
        fs_bind (fs_cv a0 12 (f_Rf_recordOf a0 x1 v10 v13)) fun v20 =>
        fs_nm ((v14 - v20) : Int32) fun v21 =>
        fs_nm ((v13 + 1) : Int32) fun v22 =>
        k104 v22 v21) 0 57) else
    fs_ret 0) fun j55 =>
  if v1 = 0 then (
    fs_bind (fs_gr a0 12 13) fun r2 =>
    fs_bind (fs_ai r2 x1) fun v3 =>
    fs_let (fun (_ : Unit) =>
      j55 2) fun j50 =>
    if v3 = 0 then (
      j50 ()) else
    fs_bind (fs_cv a0 12 (f_Rf_last a0 x1)) fun v4 =>
    if v4 < 0 then (
      j50 ()) else
    fs_bind (fs_gr a0 12 5) fun r5 =>
    fs_bind (fs_ai r5 x1) fun v6 =>
    if v6 = 100 then (
      j50 ()) else
    fs_bind (fs_gi a0 12 25) fun v7 =>
    if v7 = 30 then (
      j50 ()) else
    j55 0) else
  j55 1

def f_Rf_tell (a0 : Nat) (x1 : Int32) : fs_T Int32 :=
  fs_bind (fs_cv a0 12 (f_Rf_noExporter a0 x1)) fun v1 =>
  fs_let (fun (v3 : Int32) =>
    fs_bind (fs_pi a0 12 0 v3) fun _ =>
    fs_bind (fs_gi a0 12 0) fun v4 =>
    if v4 = 0 then (
      fs_bind (fs_cv a0 12 (f_Rf_head a0 x1 2)) fun _ =>
      fs_bind (fs_gr a0 12 6) fun r5 =>
      fs_bind (fs_ai r5 x1) fun v6 =>
      fs_bind (fs_cv a0 12 (f_Rf_write a0 v6)) fun _ =>
      fs_bind (fs_gr a0 12 3) fun r7 =>
      fs_bind (fs_ai r7 x1) fun v8 =>
      fs_bind (fs_cv a0 12 (f_Rf_write a0 v8)) fun _ =>
      fs_bind (fs_gr a0 12 6) fun r9 =>
      fs_bind (fs_ai r9 x1) fun v10 =>
      fs_bind (fs_si r9 x1 (v10 + 1)) fun _ =>
      fs_bind (fs_gi a0 12 25) fun v11 =>
      fs_bind (fs_pi a0 12 25 (v11 + 1)) fun _ =>
      fs_bind (fs_gi a0 12 25) fun v12 =>
      fs_ret (v12 - 1)) else
    fs_ret 0) fun j27 =>
  if v1 = 0 then (
    fs_bind (fs_gi a0 12 25) fun v2 =>
    if v2 = 30 then (
      j27 2) else
    j27 0) else
  j27 1

def f_Rf_noReport (a0 : Nat) (x1 : Int32) : fs_T Int32 :=
  if x1 < 0 then (
    fs_rz 1) else
  fs_bind (fs_gi a0 12 25) fun v1 =>
  if x1 < v1 then (
    fs_rz 0) else
  fs_rz 1

def f_Rf_size (a0 : Nat) (x1 : Int32) : fs_T Int32 :=
  fs_bind (fs_pi a0 12 0 0) fun _ =>
  fs_bind (fs_cv a0 12 (f_Rf_noReport a0 x1)) fun v1 =>
  if v1 = 0 then (
    fs_bind (fs_gr a0 12 26) fun r2 =>
    fs_bind (fs_ai r2 x1) fun v3 =>
    fs_ret v3) else
  fs_ret (-1)

def f_Rf_byteOf (a0 : Nat) (x1 : Int32) (x2 : Int32) : fs_T Int32 :=
  fs_bind (fs_cv a0 12 (f_Rf_noReport a0 x1)) fun v1 =>
  fs_let (fun (v6 : Int32) =>
    fs_bind (fs_pi a0 12 0 v6) fun _ =>
    fs_bind (fs_gi a0 12 0) fun v7 =>
    if v7 = 0 then (
      fs_bind (fs_gr a0 12 27) fun r8 =>
      fs_bind (fs_ai r8 ((64 * x1) + x2)) fun v9 =>
      fs_ret v9) else
    fs_ret 0) fun j40 =>
  fs_let (fun (_ : Unit) =>
    j40 1) fun j35 =>
  if v1 = 0 then (
    if x2 < 0 then (
      j35 ()) else
    fs_bind (fs_gr a0 12 26) fun r2 =>
    fs_bind (fs_cv a0 12 (f_Rf_noReport a0 x1)) fun v3 =>
    fs_let (fun (v4 : Int32) =>
      fs_bind (fs_ai r2 v4) fun v5 =>
      if x2 < v5 then (
        j40 0) else
      j35 ()) fun j31 =>
    if v3 = 0 then (
      j31 x1) else
    j31 0) else
  j35 ()

def f_Rf_poke (a0 : Nat) (x1 : Int32) (x2 : Int32) (x3 : Int32) : fs_T Unit :=
  fs_bind (fs_cv a0 12 (f_Rf_noReport a0 x1)) fun v1 =>
  fs_let (fun (v7 : Int32) =>
    fs_bind (fs_pi a0 12 0 v7) fun _ =>
    fs_bind (fs_gi a0 12 0) fun v8 =>
    if v8 = 0 then (
      fs_bind (fs_gr a0 12 27) fun r9 =>
      fs_bind (fs_si r9 ((64 * x1) + x2) x3) fun _ =>
      fs_ret ()) else
    fs_ret ()) fun j52 =>
  fs_let (fun (_ : Unit) =>
    j52 1) fun j35 =>
  if v1 = 0 then (
    if x2 < 0 then (
      j35 ()) else
    fs_bind (fs_gr a0 12 26) fun r2 =>
    fs_bind (fs_cv a0 12 (f_Rf_noReport a0 x1)) fun v3 =>
    fs_let (fun (v4 : Int32) =>
      fs_bind (fs_ai r2 v4) fun v5 =>
      if x2 < v5 then (
        fs_bind (fs_cv a0 12 (f_Rf_noByte a0 x3)) fun v6 =>
        if v6 = 0 then (
          j52 0) else
        j52 2) else
      j35 ()) fun j31 =>
    if v3 = 0 then (
      j31 x1) else
    j31 0) else
  j35 ()

def f_Rf_badFields (a0 : Nat) : fs_T Int32 :=
  fs_lp3 4096 (fun k6 (v1 : Int32) (v2 : Int32) (v3 : Int32) =>
    fs_bind (fs_gr a0 12 46) fun r4 =>
    fs_bind (fs_ai r4 5) fun v5 =>
    if v5 ≤ v3 then (
      fs_rz v2) else
    fs_bind (fs_gr a0 12 46) fun r6 =>
    fs_bind (fs_ai r6 (6 + (2 * v3))) fun v7 =>
    fs_let (fun (v10 : Int32) =>
      fs_let (fun (v11 : Int32) =>
        fs_nm ((v3 + 1) : Int32) fun v12 =>
        k6 v11 v10 v12) fun j85 =>
      if v10 = 0 then (
        j85 (v1 ||| (1 <<< (v7 &&& 31)))) else
      j85 v1) fun j70 =>
    fs_let (fun (_ : Unit) =>
      j70 1) fun j65 =>
    if v2 = 0 then (
      if 7 < v7 then (
        j65 ()) else
      if ((v1 >>> (v7 &&& 31)) &&& 1) = 1 then (
        j65 ()) else
      fs_bind (fs_gr a0 12 46) fun r8 =>
      fs_bind (fs_ai r8 (7 + (2 * v3))) fun v9 =>
      if v9 ≤ 4 then (
        j70 0) else
      j65 ()) else
    j65 ()) 0 0 0

def f_Rf_isBad (a0 : Nat) : fs_T Int32 :=
  fs_bind (fs_gr a0 12 46) fun r1 =>
  fs_bind (fs_ai r1 0) fun v2 =>
  if 1 < v2 then (
    fs_rz 1) else
  fs_bind (fs_gr a0 12 46) fun r3 =>
  fs_bind (fs_ai r3 1) fun v4 =>
  if 5 < v4 then (
    fs_rz 1) else
  fs_bind (fs_gr a0 12 46) fun r5 =>
  fs_bind (fs_ai r5 2) fun v6 =>
  if v6 ≤ 2 then (
    fs_bind (fs_gr a0 12 46) fun r7 =>
    fs_bind (fs_ai r7 2) fun v8 =>
    if v8 = 2 then (
      fs_bind (fs_gi a0 12 45) fun v31 =>
      if v31 = 5 then (
        fs_bind (fs_gr a0 12 46) fun r32 =>
        fs_bind (fs_ai r32 4) fun v33 =>
        if v33 < 1 then (
          fs_rz 1) else
        fs_bind (fs_gr a0 12 46) fun r34 =>
        fs_bind (fs_ai r34 4) fun v35 =>
        if v35 ≤ 9 then (
          fs_rz 0) else
        fs_rz 1) else
      fs_rz 1) else
    fs_bind (fs_gr a0 12 46) fun r9 =>
    fs_bind (fs_ai r9 3) fun v10 =>
    if 2 < v10 then (
      fs_rz 1) else
    fs_bind (fs_gr a0 12 46) fun r11 =>
    fs_bind (fs_ai r11 4) fun v12 =>
    if v12 = 0 then (
      fs_rz 1) else
    fs_bind (fs_gr a0 12 46) fun r13 =>
    fs_bind (fs_ai r13 2) fun v14 =>
    if v14 = 1 then (
      fs_bind (fs_gi a0 12 45) fun v24 =>
      if v24 < 7 then (
        fs_rz 1) else
      fs_bind (fs_gr a0 12 46) fun r25 =>
      fs_bind (fs_ai r25 5) fun v26 =>
      if v26 = 0 then (
        fs_rz 1) else
      fs_bind (fs_gr a0 12 46) fun r27 =>
      fs_bind (fs_ai r27 6) fun v28 =>
      fs_bind (fs_gr a0 12 46) fun r29 =>
      fs_bind (fs_ai r29 5) fun v30 =>
      if (v28 + v30) ≤ 100 then (
        fs_rz 0) else
      fs_rz 1) else
    fs_bind (fs_gi a0 12 45) fun v15 =>
    if v15 < 6 then (
      fs_rz 1) else
    fs_bind (fs_gr a0 12 46) fun r16 =>
    fs_bind (fs_ai r16 5) fun v17 =>
    if v17 = 0 then (
      fs_rz 1) else
    fs_bind (fs_gr a0 12 46) fun r18 =>
    fs_bind (fs_ai r18 5) fun v19 =>
    if 8 < v19 then (
      fs_rz 1) else
    fs_bind (fs_gi a0 12 45) fun v20 =>
    fs_bind (fs_gr a0 12 46) fun r21 =>
    fs_bind (fs_ai r21 5) fun v22 =>
    if v20 = (6 + (2 * v22)) then (
      fs_bind (fs_cv a0 12 (f_Rf_badFields a0)) fun v23 =>
      if v23 = 0 then (
        fs_rz 0) else
      fs_rz 1) else
    fs_rz 1) else
  fs_rz 1

def f_Rf_nameOf (a0 : Nat) : fs_T Int32 :=
  fs_bind (fs_gr a0 12 46) fun r1 =>
  fs_bind (fs_ai r1 0) fun v2 =>
  fs_bind (fs_gr a0 12 46) fun r3 =>
  fs_bind (fs_ai r3 1) fun v4 =>
  fs_bind (fs_gr a0 12 46) fun r5 =>
  fs_bind (fs_ai r5 3) fun v6 =>
  fs_bind (fs_gr a0 12 46) fun r7 =>
  fs_bind (fs_ai r7 4) fun v8 =>
  fs_ret ((((v2 <<< (24 &&& 31)) ||| (v4 <<< (16 &&& 31))) ||| (v6 <<< (8 &&& 31))) ||| v8)

def f_Rf_find (a0 : Nat) (x1 : Int32) : fs_T Int32 :=
  fs_lp1 4096 (fun k2 (v1 : Int32) =>
    fs_bind (fs_gi a0 12 28) fun v2 =>
    if v2 ≤ v1 then (
      fs_ret (-1)) else
    fs_bind (fs_gr a0 12 29) fun r3 =>
    fs_bind (fs_ai r3 v1) fun v4 =>
    if v4 = x1 then (
      fs_ret v1) else
    fs_nm ((v1 + 1) : Int32) fun v5 =>
    k2 v5) 0

def f_Rf_waiting (a0 : Nat) (x1 : Int32) : fs_T Int32 :=
  fs_lp2 4096 (fun k4 (v1 : Int32) (v2 : Int32) =>
    fs_bind (fs_gi a0 12 33) fun v3 =>
    if v3 ≤ v2 then (
      fs_ret v1) else
    fs_bind (fs_gr a0 12 35) fun r4 =>
    fs_bind (fs_ai r4 (64 * v2)) fun v5 =>
    fs_bind (fs_gr a0 12 35) fun r6 =>
    fs_bind (fs_ai r6 ((64 * v2) + 1)) fun v7 =>
    fs_bind (fs_gr a0 12 35) fun r8 =>
    fs_bind (fs_ai r8 ((64 * v2) + 3)) fun v9 =>
    fs_bind (fs_gr a0 12 35) fun r10 =>
    fs_bind (fs_ai r10 ((64 * v2) + 4)) fun v11 =>
    fs_nm (((((v5 <<< (24 &&& 31)) ||| (v7 <<< (16 &&& 31))) ||| (v9 <<< (8 &&& 31))) ||| v11) : Int32) fun v12 =>
    fs_let (fun (v15 : Int32) =>
      fs_nm ((v1 + v15) : Int32) fun v16 =>
      fs_nm ((v2 + 1) : Int32) fun v17 =>
      k4 v16 v17) fun j90 =>
    if v12 = x1 then (
      fs_bind (fs_gr a0 12 35) fun r13 =>
      fs_bind (fs_ai r13 ((64 * v2) + 5)) fun v14 =>
      j90 v14) else
    j90 0) 0 0

def f_Rf_fetch (a0 : Nat) (x1 : Int32) : fs_T Unit :=
  fs_bind (fs_gr a0 12 34) fun r1 =>
  fs_bind (fs_ai r1 x1) fun v2 =>
  fs_bind (fs_pi a0 12 45 v2) fun _ =>
  fs_lp1 4096 (fun k12 (v3 : Int32) =>
    fs_bind (fs_gi a0 12 45) fun v4 =>
    if v4 ≤ v3 then (
      fs_ret ()) else
    fs_bind (fs_gr a0 12 46) fun r5 =>
    fs_bind (fs_gr a0 12 35) fun r6 =>
    fs_bind (fs_ai r6 ((64 * x1) + v3)) fun v7 =>
    fs_bind (fs_si r5 v3 v7) fun _ =>
    fs_nm ((v3 + 1) : Int32) fun v8 =>
    k12 v8) 0

def f_Rf_take (a0 : Nat) (x1 : Int32) : fs_T Int64 :=
  fs_let (fun (v7 : Int32) =>
    fs_let (fun (_ : Unit) =>
      fs_ret (-1)) fun j64 =>
    if v7 < 1 then (
      j64 ()) else
    if 4 < v7 then (
      j64 ()) else
    fs_bind (fs_gi a0 12 47) fun v8 =>
    fs_bind (fs_gi a0 12 45) fun v9 =>
    if (v8 + v7) ≤ v9 then (
      fs_lp2 4096 (fun k73 (v10 : Int64) (v11 : Int32) =>
        if v7 ≤ v11 then (
          fs_ret v10) else
        fs_bind (fs_gr a0 12 46) fun r12 =>
        fs_bind (fs_gi a0 12 47) fun v13 =>
        fs_bind (fs_ai r12 v13) fun v14 =>
        fs_nm (((256 * v10) + (Int32.toInt64 v14)) : Int64) fun v15 =>
        fs_bind (fs_gi a0 12 47) fun v16 =>
        fs_bind (fs_pi a0 12 47 (v16 + 1)) fun _ =>
        fs_nm ((v11 + 1) : Int32) fun v17 =>
        k73 v15 v17) 0 0) else
    j64 ()) fun j41 =>
  if x1 = 0 then (
    fs_bind (fs_gi a0 12 47) fun v1 =>
    fs_bind (fs_gi a0 12 45) fun v2 =>
    if v1 < v2 then (
      fs_bind (fs_gr a0 12 46) fun r3 =>
      fs_bind (fs_gi a0 12 47) fun v4 =>
      fs_bind (fs_ai r3 v4) fun v5 =>
      fs_bind (fs_gi a0 12 47) fun v6 =>
      fs_bind (fs_pi a0 12 47 (v6 + 1)) fun _ =>
      j41 v5) else
    fs_ret (-1)) else
  j41 x1

def f_Rf_read (a0 : Nat) (x1 : Int32) (x2 : Int32) : fs_T Int32 :=
  fs_bind (fs_pi a0 12 47 7) fun _ =>
  fs_lp1 4096 (fun k8 (v1 : Int32) =>
    fs_bind (fs_gr a0 12 46) fun r2 =>
    fs_bind (fs_ai r2 5) fun v3 =>
    if v3 ≤ v1 then (
      fs_bind (fs_gi a0 12 47) fun v4 =>
      fs_bind (fs_gi a0 12 45) fun v5 =>
      if v4 = v5 then (
        fs_rz 1) else
      fs_rz 0) else
    fs_let (fun (_ : Unit) =>
      fs_nm ((8 * x1) : Int32) fun v14 =>
      fs_lp1 4096 (fun k81 (v15 : Int32) =>
        fs_bind (fs_gr a0 12 30) fun r16 =>
        fs_bind (fs_ai r16 x1) fun v17 =>
        if ((8 * x1) + v17) ≤ v15 then (
          fs_nm ((v1 + 1) : Int32) fun v18 =>
          k8 v18) else
        fs_bind (fs_gr a0 12 32) fun r19 =>
        fs_bind (fs_ai r19 v15) fun v20 =>
        fs_bind (fs_cv a0 12 (f_Rf_take a0 v20)) fun v21 =>
        if 0 ≤ (lg_cmp v21 0) then (
          fs_let (fun (_ : Unit) =>
            fs_nm ((v15 + 1) : Int32) fun v26 =>
            k81 v26) fun j147 =>
          if x2 = 0 then (
            j147 ()) else
          fs_bind (fs_gr a0 12 39) fun r22 =>
          fs_bind (fs_gi a0 12 37) fun v23 =>
          fs_bind (fs_gr a0 12 31) fun r24 =>
          fs_bind (fs_ai r24 v15) fun v25 =>
          fs_bind (fs_sj r22 ((8 * (v23 + v1)) + v25) v21) fun _ =>
          j147 ()) else
        fs_rz 0) v14) fun j75 =>
    if x2 = 0 then (
      j75 ()) else
    fs_bind (fs_gr a0 12 38) fun r6 =>
    fs_bind (fs_gi a0 12 37) fun v7 =>
    fs_bind (fs_gr a0 12 46) fun r8 =>
    fs_bind (fs_ai r8 0) fun v9 =>
    fs_bind (fs_si r6 (v7 + v1) v9) fun _ =>
    fs_lp1 4096 (fun k42 (v10 : Int32) =>
      if 8 ≤ v10 then (
        j75 ()) else
      fs_bind (fs_gr a0 12 39) fun r11 =>
      fs_bind (fs_gi a0 12 37) fun v12 =>
      fs_bind (fs_sj r11 ((8 * (v12 + v1)) + v10) (-1)) fun _ =>
      fs_nm ((v10 + 1) : Int32) fun v13 =>
      k42 v13) 0) 0

def f_Rf_makeRows (a0 : Nat) (x1 : Int32) : fs_T Int32 :=
  fs_bind (fs_cv a0 12 (f_Rf_read a0 x1 0)) fun v1 =>
  if v1 = 0 then (
    fs_ret (-1)) else
  fs_bind (fs_cv a0 12 (f_Rf_read a0 x1 1)) fun v2 =>
  fs_bind (fs_gi a0 12 37) fun v3 =>
  fs_bind (fs_gr a0 12 46) fun r4 =>
  fs_bind (fs_ai r4 5) fun v5 =>
  fs_bind (fs_pi a0 12 37 (v3 + v5)) fun _ =>
  if v2 = 0 then (
    fs_ret (-1)) else
  fs_bind (fs_gr a0 12 46) fun r6 =>
  fs_bind (fs_ai r6 5) fun v7 =>
  fs_ret v7

def f_Rf_unshelve (a0 : Nat) (x1 : Int32) : fs_T Unit :=
  fs_bind (fs_gi a0 12 33) fun v1 =>
  fs_bind (fs_pi a0 12 33 (v1 - 1)) fun _ =>
  fs_lp1 4096 (fun k12 (v2 : Int32) =>
    fs_bind (fs_gi a0 12 33) fun v3 =>
    if v3 ≤ v2 then (
      fs_ret ()) else
    fs_bind (fs_gr a0 12 34) fun r4 =>
    fs_bind (fs_gr a0 12 34) fun r5 =>
    fs_bind (fs_ai r5 (v2 + 1)) fun v6 =>
    fs_bind (fs_si r4 v2 v6) fun _ =>
    fs_lp1 4096 (fun k36 (v7 : Int32) =>
      if 64 ≤ v7 then (
        fs_nm ((v2 + 1) : Int32) fun v8 =>
        k12 v8) else
      fs_bind (fs_gr a0 12 35) fun r9 =>
      fs_bind (fs_gr a0 12 35) fun r10 =>
      fs_bind (fs_ai r10 (((64 * v2) + 64) + v7)) fun v11 =>
      fs_bind (fs_si r9 ((64 * v2) + v7) v11) fun _ =>
      fs_nm ((v7 + 1) : Int32) fun v12 =>
      k36 v12) 0) x1

def f_Rf_hearTemplate (a0 : Nat) : fs_T Int32 :=
  fs_bind (fs_cv a0 12 (f_Rf_nameOf a0)) fun v1 =>
  fs_bind (fs_cv a0 12 (f_Rf_find a0 v1)) fun v2 =>
  if v2 < 0 then (
    fs_bind (fs_gi a0 12 28) fun v3 =>
    fs_let (fun (v6 : Int32) =>
      fs_bind (fs_pi a0 12 0 v6) fun _ =>
      fs_bind (fs_gi a0 12 0) fun v7 =>
      if v7 = 0 then (
        fs_bind (fs_gi a0 12 28) fun v8 =>
        fs_bind (fs_gr a0 12 29) fun r9 =>
        fs_bind (fs_si r9 v8 v1) fun _ =>
        fs_bind (fs_gr a0 12 30) fun r10 =>
        fs_bind (fs_gr a0 12 46) fun r11 =>
        fs_bind (fs_ai r11 5) fun v12 =>
        fs_bind (fs_si r10 v8 v12) fun _ =>
        fs_lp1 4096 (fun k83 (v13 : Int32) =>
          fs_bind (fs_gr a0 12 46) fun r14 =>
          fs_bind (fs_ai r14 5) fun v15 =>
          if v15 ≤ v13 then (
            fs_bind (fs_gi a0 12 28) fun v16 =>
            fs_bind (fs_pi a0 12 28 (v16 + 1)) fun _ =>
            fs_bind (fs_gi a0 12 37) fun v17 =>
            fs_lp1 4096 (fun k161 (v18 : Int32) =>
              fs_bind (fs_gi a0 12 33) fun v19 =>
              if v19 ≤ v18 then (
                fs_bind (fs_gi a0 12 37) fun v20 =>
                fs_ret (v20 - v17)) else
              fs_bind (fs_cv a0 12 (f_Rf_fetch a0 v18)) fun _ =>
              fs_bind (fs_cv a0 12 (f_Rf_nameOf a0)) fun v21 =>
              if v21 = v1 then (
                fs_bind (fs_gr a0 12 41) fun r23 =>
                fs_bind (fs_gr a0 12 46) fun r24 =>
                fs_bind (fs_ai r24 0) fun v25 =>
                fs_bind (fs_ai r23 v25) fun v26 =>
                fs_bind (fs_cv a0 12 (f_Rf_makeRows a0 v8)) fun v27 =>
                fs_let (fun (v28 : Int32) =>
                  fs_bind (fs_si r23 v25 (v26 + v28)) fun _ =>
                  fs_bind (fs_cv a0 12 (f_Rf_unshelve a0 v18)) fun _ =>
                  k161 v18) fun j209 =>
                if 0 ≤ v27 then (
                  j209 0) else
                j209 1) else
              fs_nm ((v18 + 1) : Int32) fun v22 =>
              k161 v22) 0) else
          fs_bind (fs_gr a0 12 31) fun r29 =>
          fs_bind (fs_gr a0 12 46) fun r30 =>
          fs_bind (fs_ai r30 (6 + (2 * v13))) fun v31 =>
          fs_bind (fs_si r29 ((8 * v8) + v13) v31) fun _ =>
          fs_bind (fs_gr a0 12 32) fun r32 =>
          fs_bind (fs_gr a0 12 46) fun r33 =>
          fs_bind (fs_ai r33 (7 + (2 * v13))) fun v34 =>
          fs_bind (fs_si r32 ((8 * v8) + v13) v34) fun _ =>
          fs_nm ((v13 + 1) : Int32) fun v35 =>
          k83 v35) 0) else
      fs_ret 0) fun j45 =>
    fs_let (fun (_ : Unit) =>
      j45 3) fun j40 =>
    if v3 = 20 then (
      j40 ()) else
    fs_bind (fs_gi a0 12 37) fun v4 =>
    fs_bind (fs_cv a0 12 (f_Rf_waiting a0 v1)) fun v5 =>
    if (v4 + v5) ≤ 80 then (
      j45 0) else
    j40 ()) else
  fs_ret 0

def f_Rf_hearRecords (a0 : Nat) : fs_T Int32 :=
  fs_bind (fs_gr a0 12 46) fun r1 =>
  fs_bind (fs_ai r1 0) fun v2 =>
  fs_bind (fs_gr a0 12 46) fun r3 =>
  fs_bind (fs_ai r3 1) fun v4 =>
  fs_bind (fs_gr a0 12 46) fun r5 =>
  fs_bind (fs_ai r5 6) fun v6 =>
  fs_nm ((((600 * v2) + (100 * v4)) + v6) : Int32) fun v7 =>
  fs_lp2 4096 (fun k33 (v8 : Int32) (v9 : Int32) =>
    fs_bind (fs_gr a0 12 46) fun r10 =>
    fs_bind (fs_ai r10 5) fun v11 =>
    if (v7 + v11) ≤ v9 then (
      if v8 = 0 then (
        fs_bind (fs_cv a0 12 (f_Rf_nameOf a0)) fun v12 =>
        fs_bind (fs_cv a0 12 (f_Rf_find a0 v12)) fun v13 =>
        fs_bind (fs_gr a0 12 46) fun r14 =>
        fs_bind (fs_ai r14 5) fun v15 =>
        fs_let (fun (v37 : Int32) =>
          fs_lp1 4096 (fun k247 (v38 : Int32) =>
            if (v7 + v15) ≤ v38 then (
              fs_ret v37) else
            fs_bind (fs_gr a0 12 36) fun r39 =>
            fs_bind (fs_sz r39 v38 1) fun _ =>
            fs_nm ((v38 + 1) : Int32) fun v40 =>
            k247 v40) v7) fun j244 =>
        if v13 < 0 then (
          fs_bind (fs_gi a0 12 33) fun v16 =>
          fs_let (fun (_ : Unit) =>
            fs_bind (fs_gr a0 12 34) fun r21 =>
            fs_bind (fs_gi a0 12 33) fun v22 =>
            fs_bind (fs_gi a0 12 45) fun v23 =>
            fs_bind (fs_si r21 v22 v23) fun _ =>
            fs_lp1 4096 (fun k197 (v24 : Int32) =>
              fs_bind (fs_gi a0 12 45) fun v25 =>
              if v25 ≤ v24 then (
                fs_bind (fs_gi a0 12 33) fun v26 =>
                fs_bind (fs_pi a0 12 33 (v26 + 1)) fun _ =>
                j244 0) else
              fs_bind (fs_gr a0 12 35) fun r27 =>
              fs_bind (fs_gi a0 12 33) fun v28 =>
              fs_bind (fs_gr a0 12 46) fun r29 =>
              fs_bind (fs_ai r29 v24) fun v30 =>
              fs_bind (fs_si r27 ((64 * v28) + v24) v30) fun _ =>
              fs_nm ((v24 + 1) : Int32) fun v31 =>
              k197 v31) 0) fun j181 =>
          if v16 = 5 then (
            fs_bind (fs_gr a0 12 40) fun r17 =>
            fs_bind (fs_gr a0 12 35) fun r18 =>
            fs_bind (fs_ai r18 0) fun v19 =>
            fs_bind (fs_ai r17 v19) fun v20 =>
            fs_bind (fs_si r17 v19 (v20 + 1)) fun _ =>
            fs_bind (fs_cv a0 12 (f_Rf_unshelve a0 0)) fun _ =>
            j181 ()) else
          j181 ()) else
        fs_bind (fs_cv a0 12 (f_Rf_read a0 v13 0)) fun v32 =>
        fs_let (fun (v34 : Int32) =>
          fs_bind (fs_pi a0 12 0 v34) fun _ =>
          fs_bind (fs_gi a0 12 0) fun v35 =>
          if v35 = 0 then (
            fs_bind (fs_cv a0 12 (f_Rf_makeRows a0 v13)) fun v36 =>
            j244 v36) else
          fs_ret 0) fun j131 =>
        if v32 = 0 then (
          j131 2) else
        fs_bind (fs_gi a0 12 37) fun v33 =>
        if (v33 + v15) ≤ 80 then (
          j131 0) else
        j131 3) else
      fs_ret 0) else
    fs_let (fun (v43 : Int32) =>
      fs_nm ((v9 + 1) : Int32) fun v44 =>
      k33 v43 v44) fun j63 =>
    fs_let (fun (_ : Unit) =>
      j63 1) fun j58 =>
    if v8 = 0 then (
      fs_bind (fs_gr a0 12 36) fun r41 =>
      fs_bind (fs_az r41 v9) fun v42 =>
      if v42 = 0 then (
        j63 0) else
      j58 ()) else
    j58 ()) 0 v7

def f_Rf_hear (a0 : Nat) (x1 : Int32) : fs_T Int32 :=
  fs_bind (fs_cv a0 12 (f_Rf_noReport a0 x1)) fun v1 =>
  fs_let (fun (v2 : Int32) =>
    fs_bind (fs_pi a0 12 0 v2) fun _ =>
    fs_bind (fs_gi a0 12 0) fun v3 =>
    if v3 = 0 then (
      fs_bind (fs_gr a0 12 26) fun r4 =>
      fs_bind (fs_ai r4 x1) fun v5 =>
      fs_bind (fs_pi a0 12 45 v5) fun _ =>
      fs_lp1 4096 (fun k38 (v6 : Int32) =>
        fs_bind (fs_gi a0 12 45) fun v7 =>
        if v7 ≤ v6 then (
          fs_bind (fs_cv a0 12 (f_Rf_isBad a0)) fun v8 =>
          if v8 = 0 then (
            fs_bind (fs_gr a0 12 46) fun r9 =>
            fs_bind (fs_ai r9 2) fun v10 =>
            if v10 = 0 then (
              fs_bind (fs_cv a0 12 (f_Rf_hearTemplate a0)) fun v40 =>
              fs_ret v40) else
            fs_bind (fs_gr a0 12 46) fun r11 =>
            fs_bind (fs_ai r11 2) fun v12 =>
            if v12 = 1 then (
              fs_bind (fs_cv a0 12 (f_Rf_hearRecords a0)) fun v39 =>
              fs_ret v39) else
            fs_bind (fs_gr a0 12 46) fun r13 =>
            fs_bind (fs_ai r13 0) fun v14 =>
            fs_bind (fs_gr a0 12 42) fun r15 =>
            fs_bind (fs_ai r15 v14) fun v16 =>
            fs_let (fun (v29 : Int32) =>
              if v29 = 0 then (
                fs_ret 0) else
              fs_bind (fs_gr a0 12 42) fun r30 =>
              fs_bind (fs_gr a0 12 46) fun r31 =>
              fs_bind (fs_ai r31 4) fun v32 =>
              fs_bind (fs_si r30 v14 v32) fun _ =>
              fs_bind (fs_gr a0 12 43) fun r33 =>
              fs_bind (fs_gr a0 12 46) fun r34 =>
              fs_bind (fs_ai r34 1) fun v35 =>
              fs_bind (fs_si r33 v14 v35) fun _ =>
              fs_bind (fs_gr a0 12 44) fun r36 =>
              fs_bind (fs_gr a0 12 46) fun r37 =>
              fs_bind (fs_ai r37 3) fun v38 =>
              fs_bind (fs_si r36 v14 v38) fun _ =>
              fs_ret 0) fun j178 =>
            fs_let (fun (_ : Unit) =>
              j178 1) fun j173 =>
            if v16 = 0 then (
              j173 ()) else
            fs_bind (fs_gr a0 12 46) fun r17 =>
            fs_bind (fs_ai r17 1) fun v18 =>
            fs_bind (fs_gr a0 12 43) fun r19 =>
            fs_bind (fs_ai r19 v14) fun v20 =>
            if v20 < v18 then (
              j173 ()) else
            fs_bind (fs_gr a0 12 46) fun r21 =>
            fs_bind (fs_ai r21 1) fun v22 =>
            fs_bind (fs_gr a0 12 43) fun r23 =>
            fs_bind (fs_ai r23 v14) fun v24 =>
            fs_let (fun (_ : Unit) =>
              j178 0) fun j177 =>
            if v22 = v24 then (
              fs_bind (fs_gr a0 12 46) fun r25 =>
              fs_bind (fs_ai r25 3) fun v26 =>
              fs_bind (fs_gr a0 12 44) fun r27 =>
              fs_bind (fs_ai r27 v14) fun v28 =>
              if v26 ≤ v28 then (
                j177 ()) else
              j173 ()) else
            j177 ()) else
          fs_bind (fs_pi a0 12 0 2) fun _ =>
          fs_ret 0) else
        fs_bind (fs_gr a0 12 46) fun r41 =>
        fs_bind (fs_gr a0 12 27) fun r42 =>
        fs_bind (fs_ai r42 ((64 * x1) + v6)) fun v43 =>
        fs_bind (fs_si r41 v6 v43) fun _ =>
        fs_nm ((v6 + 1) : Int32) fun v44 =>
        k38 v44) 0) else
    fs_ret 0) fun j14 =>
  if v1 = 0 then (
    j14 0) else
  j14 1

def f_Rf_rows (a0 : Nat) : fs_T Int32 :=
  fs_bind (fs_pi a0 12 0 0) fun _ =>
  fs_bind (fs_gi a0 12 37) fun v1 =>
  fs_ret v1

def f_Rf_row (a0 : Nat) (x1 : Int32) (x2 : Int32) : fs_T Int64 :=
  fs_let (fun (v2 : Int32) =>
    fs_bind (fs_pi a0 12 0 v2) fun _ =>
    fs_bind (fs_gi a0 12 0) fun v3 =>
    if v3 = 0 then (
      if x2 = 8 then (
        fs_bind (fs_gr a0 12 38) fun r6 =>
        fs_bind (fs_ai r6 x1) fun v7 =>
        fs_ret (Int32.toInt64 v7)) else
      fs_bind (fs_gr a0 12 39) fun r4 =>
      fs_bind (fs_aj r4 ((8 * x1) + x2)) fun v5 =>
      fs_ret v5) else
    fs_ret 0) fun j32 =>
  fs_let (fun (_ : Unit) =>
    j32 1) fun j13 =>
  if x1 < 0 then (
    j13 ()) else
  fs_bind (fs_gi a0 12 37) fun v1 =>
  if x1 < v1 then (
    fs_let (fun (_ : Unit) =>
      j32 2) fun j27 =>
    if x2 < 0 then (
      j27 ()) else
    if x2 ≤ 8 then (
      j32 0) else
    j27 ()) else
  j13 ()

def f_Rf_total (a0 : Nat) (x1 : Int32) (x2 : Int32) (x3 : Int64) (x4 : Int32) : fs_T Int64 :=
  fs_bind (fs_cv a0 12 (f_Rf_noExporter a0 x1)) fun v1 =>
  fs_let (fun (v2 : Int32) =>
    fs_bind (fs_pi a0 12 0 v2) fun _ =>
    fs_lp2 4096 (fun k45 (v3 : Int64) (v4 : Int32) =>
      fs_bind (fs_gi a0 12 37) fun v5 =>
      fs_let (fun (_ : Unit) =>
        fs_ret v3) fun j164 =>
      if v5 ≤ v4 then (
        j164 ()) else
      fs_bind (fs_gi a0 12 0) fun v6 =>
      if v6 = 0 then (
        fs_bind (fs_gr a0 12 38) fun r7 =>
        fs_bind (fs_ai r7 v4) fun v8 =>
        fs_let (fun (v15 : Int32) =>
          fs_let (fun (v18 : Int64) =>
            fs_nm ((v3 + v18) : Int64) fun v19 =>
            fs_nm ((v4 + 1) : Int32) fun v20 =>
            k45 v19 v20) fun j155 =>
          if v15 = 0 then (
            j155 0) else
          fs_bind (fs_gr a0 12 39) fun r16 =>
          fs_bind (fs_aj r16 ((8 * v4) + x4)) fun v17 =>
          j155 v17) fun j129 =>
        fs_let (fun (_ : Unit) =>
          j129 0) fun j128 =>
        if v8 = x1 then (
          fs_bind (fs_gr a0 12 39) fun r9 =>
          fs_bind (fs_aj r9 ((8 * v4) + x2)) fun v10 =>
          if (lg_cmp v10 0) < 0 then (
            j128 ()) else
          fs_bind (fs_gr a0 12 39) fun r11 =>
          fs_bind (fs_aj r11 ((8 * v4) + x2)) fun v12 =>
          if (lg_cmp v12 x3) = 0 then (
            fs_bind (fs_gr a0 12 39) fun r13 =>
            fs_bind (fs_aj r13 ((8 * v4) + x4)) fun v14 =>
            if (lg_cmp v14 0) < 0 then (
              j128 ()) else
            j129 1) else
          j128 ()) else
        j128 ()) else
      j164 ()) 0 0) fun j36 =>
  fs_let (fun (_ : Unit) =>
    j36 1) fun j31 =>
  if v1 = 0 then (
    if x2 < 0 then (
      j31 ()) else
    if 7 < x2 then (
      j31 ()) else
    if x4 < 0 then (
      j31 ()) else
    if x4 ≤ 7 then (
      j36 0) else
    j31 ()) else
  j31 ()

def f_Rf_isWhole (a0 : Nat) (x1 : Int32) : fs_T Int32 :=
  fs_bind (fs_gr a0 12 39) fun r1 =>
  fs_bind (fs_aj r1 (8 * x1)) fun v2 =>
  if (lg_cmp v2 0) < 0 then (
    fs_rz 0) else
  fs_bind (fs_gr a0 12 39) fun r3 =>
  fs_bind (fs_aj r3 ((8 * x1) + 1)) fun v4 =>
  if (lg_cmp v4 0) < 0 then (
    fs_rz 0) else
  fs_bind (fs_gr a0 12 39) fun r5 =>
  fs_bind (fs_aj r5 ((8 * x1) + 2)) fun v6 =>
  if (lg_cmp v6 0) < 0 then (
    fs_rz 0) else
  fs_bind (fs_gr a0 12 39) fun r7 =>
  fs_bind (fs_aj r7 ((8 * x1) + 5)) fun v8 =>
  if (lg_cmp v8 0) < 0 then (
    fs_rz 0) else
  fs_rz 1

def f_Rf_firstLeft (a0 : Nat) : fs_T Int32 :=
  fs_lp2 4096 (fun k4 (v1 : Int32) (v2 : Int32) =>
    fs_bind (fs_gi a0 12 37) fun v3 =>
    if v3 ≤ v2 then (
      fs_ret v1) else
    fs_bind (fs_gr a0 12 49) fun r4 =>
    fs_bind (fs_az r4 v2) fun v5 =>
    fs_let (fun (v11 : Int32) =>
      fs_let (fun (v12 : Int32) =>
        fs_nm ((v2 + 1) : Int32) fun v13 =>
        k4 v12 v13) fun j74 =>
      if v11 = 0 then (
        j74 v1) else
      j74 v2) fun j64 =>
    fs_let (fun (_ : Unit) =>
      j64 0) fun j63 =>
    if v5 = 0 then (
      fs_bind (fs_cv a0 12 (f_Rf_isWhole a0 v2)) fun v6 =>
      if v6 = 0 then (
        j63 ()) else
      fs_let (fun (_ : Unit) =>
        j64 1) fun j59 =>
      if v1 < 0 then (
        j59 ()) else
      fs_bind (fs_gr a0 12 39) fun r7 =>
      fs_bind (fs_aj r7 ((8 * v2) + 5)) fun v8 =>
      fs_bind (fs_gr a0 12 39) fun r9 =>
      fs_bind (fs_aj r9 ((8 * v1) + 5)) fun v10 =>
      if 0 ≤ (lg_cmp v8 v10) then (
        j63 ()) else
      j59 ()) else
    j63 ()) (-1) 0

def f_Rf_isBack (a0 : Nat) (x1 : Int32) (x2 : Int32) : fs_T Int32 :=
  fs_bind (fs_gr a0 12 38) fun r1 =>
  fs_bind (fs_ai r1 x1) fun v2 =>
  fs_bind (fs_gr a0 12 38) fun r3 =>
  fs_bind (fs_ai r3 x2) fun v4 =>
  if v2 = v4 then (
    fs_bind (fs_gr a0 12 39) fun r5 =>
    fs_bind (fs_aj r5 (8 * x1)) fun v6 =>
    fs_bind (fs_gr a0 12 39) fun r7 =>
    fs_bind (fs_aj r7 ((8 * x2) + 1)) fun v8 =>
    if (lg_cmp v6 v8) = 0 then (
      fs_bind (fs_gr a0 12 39) fun r9 =>
      fs_bind (fs_aj r9 ((8 * x1) + 1)) fun v10 =>
      fs_bind (fs_gr a0 12 39) fun r11 =>
      fs_bind (fs_aj r11 (8 * x2)) fun v12 =>
      if (lg_cmp v10 v12) = 0 then (
        fs_bind (fs_gr a0 12 39) fun r13 =>
        fs_bind (fs_aj r13 ((8 * x1) + 2)) fun v14 =>
        fs_bind (fs_gr a0 12 39) fun r15 =>
        fs_bind (fs_aj r15 ((8 * x2) + 2)) fun v16 =>
        if (lg_cmp v14 v16) = 0 then (
          fs_rz 1) else
        fs_rz 0) else
      fs_rz 0) else
    fs_rz 0) else
  fs_rz 0

def f_Rf_farness (a0 : Nat) (x1 : Int32) (x2 : Int32) : fs_T Int64 :=
  fs_bind (fs_gr a0 12 39) fun r1 =>
  fs_bind (fs_aj r1 ((8 * x1) + 5)) fun v2 =>
  fs_bind (fs_gr a0 12 39) fun r3 =>
  fs_bind (fs_aj r3 ((8 * x2) + 5)) fun v4 =>
  fs_nm ((v2 - v4) : Int64) fun v5 =>
  if 0 ≤ (lg_cmp v5 0) then (
    fs_ret v5) else
  fs_ret (-v5)

def f_Rf_pairOne (a0 : Nat) (x1 : Int32) : fs_T Unit :=
  fs_lp2 4096 (fun k4 (v1 : Int32) (v2 : Int32) =>
    fs_bind (fs_gi a0 12 37) fun v3 =>
    if v3 ≤ v2 then (
      if v1 < 0 then (
        fs_ret ()) else
      fs_bind (fs_gr a0 12 48) fun r4 =>
      fs_bind (fs_si r4 x1 v1) fun _ =>
      fs_bind (fs_gr a0 12 48) fun r5 =>
      fs_bind (fs_si r5 v1 x1) fun _ =>
      fs_ret ()) else
    fs_let (fun (v10 : Int32) =>
      fs_let (fun (v13 : Int32) =>
        fs_nm ((v2 + 1) : Int32) fun v14 =>
        k4 v13 v14) fun j80 =>
      fs_let (fun (_ : Unit) =>
        j80 v1) fun j79 =>
      if v10 = 0 then (
        j79 ()) else
      fs_let (fun (_ : Unit) =>
        j80 v2) fun j75 =>
      if v1 < 0 then (
        j75 ()) else
      fs_bind (fs_cv a0 12 (f_Rf_farness a0 x1 v2)) fun v11 =>
      fs_bind (fs_cv a0 12 (f_Rf_farness a0 x1 v1)) fun v12 =>
      if 0 ≤ (lg_cmp v11 v12) then (
        j79 ()) else
      j75 ()) fun j48 =>
    fs_let (fun (_ : Unit) =>
      j48 0) fun j47 =>
    if v2 = x1 then (
      j47 ()) else
    fs_bind (fs_gr a0 12 48) fun r6 =>
    fs_bind (fs_ai r6 v2) fun v7 =>
    if 0 ≤ v7 then (
      j47 ()) else
    fs_bind (fs_cv a0 12 (f_Rf_isWhole a0 v2)) fun v8 =>
    if v8 = 0 then (
      j47 ()) else
    fs_bind (fs_cv a0 12 (f_Rf_isBack a0 x1 v2)) fun v9 =>
    if v9 = 0 then (
      j47 ()) else
    j48 1) (-1) 0

def f_Rf_other (a0 : Nat) (x1 : Int32) : fs_T Int32 :=
  fs_let (fun (v2 : Int32) =>
    fs_bind (fs_pi a0 12 0 v2) fun _ =>
    fs_bind (fs_gi a0 12 0) fun v3 =>
    if v3 = 0 then (
      fs_lp1 4096 (fun k32 (v4 : Int32) =>
        if 80 ≤ v4 then (
          fs_bind (fs_cv a0 12 (f_Rf_firstLeft a0)) fun v5 =>
          fs_lp1 4096 (fun k63 (v6 : Int32) =>
            if v6 < 0 then (
              fs_bind (fs_gr a0 12 48) fun r7 =>
              fs_bind (fs_ai r7 x1) fun v8 =>
              fs_ret v8) else
            fs_bind (fs_gr a0 12 49) fun r9 =>
            fs_bind (fs_sz r9 v6 1) fun _ =>
            fs_bind (fs_gr a0 12 48) fun r10 =>
            fs_bind (fs_ai r10 v6) fun v11 =>
            fs_let (fun (_ : Unit) =>
              fs_bind (fs_cv a0 12 (f_Rf_firstLeft a0)) fun v12 =>
              k63 v12) fun j88 =>
            if 0 ≤ v11 then (
              j88 ()) else
            fs_bind (fs_cv a0 12 (f_Rf_pairOne a0 v6)) fun _ =>
            j88 ()) v5) else
        fs_bind (fs_gr a0 12 48) fun r13 =>
        fs_bind (fs_si r13 v4 (-1)) fun _ =>
        fs_bind (fs_gr a0 12 49) fun r14 =>
        fs_bind (fs_sz r14 v4 0) fun _ =>
        fs_nm ((v4 + 1) : Int32) fun v15 =>
        k32 v15) 0) else
    fs_ret 0) fun j18 =>
  fs_let (fun (_ : Unit) =>
    j18 1) fun j13 =>
  if x1 < 0 then (
    j13 ()) else
  fs_bind (fs_gi a0 12 37) fun v1 =>
  if x1 < v1 then (
    j18 0) else
  j13 ()

def f_Rf_lostOf (a0 : Nat) (x1 : Int32) : fs_T Int32 :=
  fs_lp2 4096 (fun k4 (v1 : Int32) (v2 : Int32) =>
    if 6 ≤ v2 then (
      fs_ret v1) else
    fs_lp4 4096 (fun k22 (v3 : Int32) (v4 : Int32) (v5 : Int32) (v6 : Int32) =>
      if 100 ≤ v6 then (
        fs_let (fun (v7 : Int32) =>
          fs_nm ((v1 + v7) : Int32) fun v8 =>
          fs_nm ((v2 + 1) : Int32) fun v9 =>
          k4 v8 v9) fun j97 =>
        if v5 = 0 then (
          j97 0) else
        j97 (((v4 - v3) + 1) - v5)) else
      fs_bind (fs_gr a0 12 36) fun r10 =>
      fs_bind (fs_az r10 (((600 * x1) + (100 * v2)) + v6)) fun v11 =>
      fs_let (fun (v14 : Int32) (v15 : Int32) (v16 : Int32) =>
        fs_nm ((v6 + 1) : Int32) fun v17 =>
        k22 v14 v15 v16 v17) fun j71 =>
      if v11 = 0 then (
        j71 v3 v4 v5) else
      fs_let (fun (v12 : Int32) =>
        fs_nm ((v5 + 1) : Int32) fun v13 =>
        j71 v12 v6 v13) fun j62 =>
      if 0 ≤ v3 then (
        j62 v3) else
      j62 v6) (-1) (-1) 0 0) 0 0

def f_Rf_count (a0 : Nat) (x1 : Int32) (x2 : Int32) : fs_T Int32 :=
  fs_bind (fs_cv a0 12 (f_Rf_noExporter a0 x1)) fun v1 =>
  fs_let (fun (v2 : Int32) =>
    fs_bind (fs_pi a0 12 0 v2) fun _ =>
    fs_bind (fs_gi a0 12 0) fun v3 =>
    if v3 = 0 then (
      fs_lp2 4096 (fun k41 (v4 : Int32) (v5 : Int32) =>
        fs_bind (fs_gi a0 12 33) fun v6 =>
        if v6 ≤ v5 then (
          if x2 = 0 then (
            fs_bind (fs_gr a0 12 1) fun r7 =>
            fs_bind (fs_ai r7 x1) fun v8 =>
            fs_ret v8) else
          if x2 = 1 then (
            fs_bind (fs_gr a0 12 2) fun r9 =>
            fs_bind (fs_ai r9 x1) fun v10 =>
            fs_ret v10) else
          if x2 = 2 then (
            fs_bind (fs_gr a0 12 7) fun r11 =>
            fs_bind (fs_ai r11 x1) fun v12 =>
            fs_ret v12) else
          if x2 = 3 then (
            fs_bind (fs_gr a0 12 13) fun r13 =>
            fs_bind (fs_ai r13 x1) fun v14 =>
            fs_ret v14) else
          if x2 = 4 then (
            fs_bind (fs_gr a0 12 5) fun r15 =>
            fs_bind (fs_ai r15 x1) fun v16 =>
            fs_ret v16) else
          if x2 = 5 then (
            fs_bind (fs_cv a0 12 (f_Rf_lostOf a0 x1)) fun v17 =>
            fs_ret v17) else
          if x2 = 6 then (
            fs_ret v4) else
          if x2 = 7 then (
            fs_bind (fs_gr a0 12 40) fun r18 =>
            fs_bind (fs_ai r18 x1) fun v19 =>
            fs_ret v19) else
          if x2 = 8 then (
            fs_bind (fs_gr a0 12 41) fun r20 =>
            fs_bind (fs_ai r20 x1) fun v21 =>
            fs_ret v21) else
          fs_bind (fs_gr a0 12 42) fun r22 =>
          fs_bind (fs_ai r22 x1) fun v23 =>
          fs_ret v23) else
        fs_bind (fs_gr a0 12 35) fun r24 =>
        fs_bind (fs_ai r24 (64 * v5)) fun v25 =>
        fs_let (fun (v26 : Int32) =>
          fs_nm ((v4 + v26) : Int32) fun v27 =>
          fs_nm ((v5 + 1) : Int32) fun v28 =>
          k41 v27 v28) fun j70 =>
        if v25 = x1 then (
          j70 1) else
        j70 0) 0 0) else
    fs_ret 0) fun j24 =>
  fs_let (fun (_ : Unit) =>
    j24 1) fun j19 =>
  if v1 = 0 then (
    if x2 < 0 then (
      j19 ()) else
    if x2 ≤ 9 then (
      j24 0) else
    j19 ()) else
  j19 ()

def f_Lw_law (a0 : Nat) : fs_T Int32 :=
  fs_bind (fs_nw 0 fs_d0) fun r1 =>
  fs_bind (f_Fs_init r1) fun _ =>
  fs_bind (fs_nw 12 fs_d12) fun r2 =>
  fs_bind (f_Rf_init r2) fun _ =>
  fs_bind (fs_nj 1) fun r3 =>
  fs_lp1 4096 (fun k23 (v4 : Int32) =>
    fs_bind (fs_al a0) fun v5 =>
    if (v5 - 7) < v4 then (
      fs_rz 1) else
    fs_bind (fs_ai a0 v4) fun v6 =>
    fs_let (fun (_ : Unit) =>
      fs_nm ((v4 + 7) : Int32) fun v172 =>
      k23 v172) fun j1513 =>
    if (v6 &&& 31) = 0 then (
      fs_bind (fs_ai a0 (v4 + 1)) fun v7 =>
      fs_bind (fs_ai a0 (v4 + 2)) fun v8 =>
      fs_bind (fs_ai a0 (v4 + 3)) fun v9 =>
      fs_bind (fs_ai a0 (v4 + 4)) fun v10 =>
      fs_bind (fs_ai a0 (v4 + 5)) fun v11 =>
      fs_bind (fs_ai a0 (v4 + 6)) fun v12 =>
      fs_let (fun (v13 : Int32) =>
        fs_bind (f_Lw_packet r1 v7 v8 v9 v10 v11 v13 r3) fun v14 =>
        fs_bind (fs_ai a0 (v4 + 1)) fun v15 =>
        fs_bind (fs_ai a0 (v4 + 2)) fun v16 =>
        fs_bind (fs_ai a0 (v4 + 3)) fun v17 =>
        fs_bind (fs_ai a0 (v4 + 4)) fun v18 =>
        fs_bind (fs_ai a0 (v4 + 5)) fun v19 =>
        fs_bind (fs_ai a0 (v4 + 6)) fun v20 =>
        fs_let (fun (v21 : Int32) =>
          fs_bind (fs_cv r2 12 (f_Rf_packet r2 v15 v16 v17 v18 v19 v21)) fun v22 =>
          fs_bind (fs_cv r2 12 (f_Rf_thrown r2)) fun v23 =>
          if v23 = v14 then (
            fs_let (fun (_ : Unit) =>
              j1513 ()) fun j278 =>
            if v14 = 0 then (
              fs_bind (fs_aj r3 0) fun v24 =>
              fs_let (fun (v25 : Int64) =>
                if (lg_cmp v24 v25) = 0 then (
                  j278 ()) else
                fs_rz 0) fun j272 =>
              if v22 = 0 then (
                j272 0) else
              j272 1) else
            j278 ()) else
          fs_rz 0) fun j238 =>
        if v20 = 0 then (
          j238 0) else
        j238 1) fun j186 =>
      if v12 = 0 then (
        j186 0) else
      j186 1) else
    if (v6 &&& 31) = 1 then (
      fs_bind (fs_ai a0 (v4 + 1)) fun v26 =>
      fs_bind (fs_ai a0 (v4 + 2)) fun v27 =>
      fs_bind (f_Lw_tick r1 v26 v27 r3) fun v28 =>
      fs_bind (fs_ai a0 (v4 + 1)) fun v29 =>
      fs_bind (fs_ai a0 (v4 + 2)) fun v30 =>
      fs_bind (fs_cv r2 12 (f_Rf_tick r2 v29 v30)) fun v31 =>
      fs_bind (fs_cv r2 12 (f_Rf_thrown r2)) fun v32 =>
      if v32 = v28 then (
        fs_let (fun (_ : Unit) =>
          j1513 ()) fun j346 =>
        if v28 = 0 then (
          fs_bind (fs_aj r3 0) fun v33 =>
          if (lg_cmp v33 (Int32.toInt64 v31)) = 0 then (
            j346 ()) else
          fs_rz 0) else
        j346 ()) else
      fs_rz 0) else
    if (v6 &&& 31) = 2 then (
      fs_bind (fs_ai a0 (v4 + 1)) fun v34 =>
      fs_bind (f_Lw_flush r1 v34 r3) fun v35 =>
      fs_bind (fs_ai a0 (v4 + 1)) fun v36 =>
      fs_bind (fs_cv r2 12 (f_Rf_flush r2 v36)) fun v37 =>
      fs_bind (fs_cv r2 12 (f_Rf_thrown r2)) fun v38 =>
      if v38 = v35 then (
        fs_let (fun (_ : Unit) =>
          j1513 ()) fun j402 =>
        if v35 = 0 then (
          fs_bind (fs_aj r3 0) fun v39 =>
          if (lg_cmp v39 (Int32.toInt64 v37)) = 0 then (
            j402 ()) else
          fs_rz 0) else
        j402 ()) else
      fs_rz 0) else
    if (v6 &&& 31) = 3 then (
      fs_bind (fs_ai a0 (v4 + 1)) fun v40 =>
      fs_bind (fs_ai a0 (v4 + 2)) fun v41 =>
      fs_bind (f_Lw_sampler r1 v40 v41) fun v42 =>
      fs_bind (fs_ai a0 (v4 + 1)) fun v43 =>
      fs_bind (fs_ai a0 (v4 + 2)) fun v44 =>
      fs_bind (fs_cv r2 12 (f_Rf_sampler r2 v43 v44)) fun _ =>
      fs_bind (fs_cv r2 12 (f_Rf_thrown r2)) fun v45 =>
      if v45 = v42 then (
        j1513 ()) else
      fs_rz 0) else
    if (v6 &&& 31) = 4 then (
      fs_bind (fs_ai a0 (v4 + 1)) fun v46 =>
      fs_bind (fs_ai a0 (v4 + 2)) fun v47 =>
      fs_bind (fs_ai a0 (v4 + 3)) fun v48 =>
      fs_bind (f_Lw_ended r1 v46 v47 v48 r3) fun v49 =>
      fs_bind (fs_ai a0 (v4 + 1)) fun v50 =>
      fs_bind (fs_ai a0 (v4 + 2)) fun v51 =>
      fs_bind (fs_ai a0 (v4 + 3)) fun v52 =>
      fs_bind (fs_cv r2 12 (f_Rf_ended r2 v50 v51 v52)) fun v53 =>
      fs_bind (fs_cv r2 12 (f_Rf_thrown r2)) fun v54 =>
      if v54 = v49 then (
        fs_let (fun (_ : Unit) =>
          j1513 ()) fun j530 =>
        if v49 = 0 then (
          fs_bind (fs_aj r3 0) fun v55 =>
          if (lg_cmp v55 (Int32.toInt64 v53)) = 0 then (
            j530 ()) else
          fs_rz 0) else
        j530 ()) else
      fs_rz 0) else
    if (v6 &&& 31) = 5 then (
      fs_bind (fs_ai a0 (v4 + 1)) fun v56 =>
      fs_bind (fs_ai a0 (v4 + 2)) fun v57 =>
      fs_bind (fs_ai a0 (v4 + 3)) fun v58 =>
      fs_bind (fs_ai a0 (v4 + 4)) fun v59 =>
      fs_bind (f_Lw_field r1 v56 v57 v58 v59 r3) fun v60 =>
      fs_bind (fs_ai a0 (v4 + 1)) fun v61 =>
      fs_bind (fs_ai a0 (v4 + 2)) fun v62 =>
      fs_bind (fs_ai a0 (v4 + 3)) fun v63 =>
      fs_bind (fs_ai a0 (v4 + 4)) fun v64 =>
      fs_bind (fs_cv r2 12 (f_Rf_field r2 v61 v62 v63 v64)) fun v65 =>
      fs_bind (fs_cv r2 12 (f_Rf_thrown r2)) fun v66 =>
      if v66 = v60 then (
        fs_let (fun (_ : Unit) =>
          j1513 ()) fun j622 =>
        if v60 = 0 then (
          fs_bind (fs_aj r3 0) fun v67 =>
          if (lg_cmp v67 (Int32.toInt64 v65)) = 0 then (
            j622 ()) else
          fs_rz 0) else
        j622 ()) else
      fs_rz 0) else
    if (v6 &&& 31) = 6 then (
      fs_bind (fs_ai a0 (v4 + 1)) fun v68 =>
      fs_bind (fs_ai a0 (v4 + 2)) fun v69 =>
      fs_bind (f_Lw_seal r1 v68 v69 r3) fun v70 =>
      fs_bind (fs_ai a0 (v4 + 1)) fun v71 =>
      fs_bind (fs_ai a0 (v4 + 2)) fun v72 =>
      fs_bind (fs_cv r2 12 (f_Rf_seal r2 v71 v72)) fun v73 =>
      fs_bind (fs_cv r2 12 (f_Rf_thrown r2)) fun v74 =>
      if v74 = v70 then (
        fs_let (fun (_ : Unit) =>
          j1513 ()) fun j690 =>
        if v70 = 0 then (
          fs_bind (fs_aj r3 0) fun v75 =>
          if (lg_cmp v75 (Int32.toInt64 v73)) = 0 then (
            j690 ()) else
          fs_rz 0) else
        j690 ()) else
      fs_rz 0) else
    if (v6 &&& 31) = 7 then (
      fs_bind (fs_ai a0 (v4 + 1)) fun v76 =>
      fs_bind (fs_ai a0 (v4 + 2)) fun v77 =>
      fs_bind (f_Lw_withdraw r1 v76 v77) fun v78 =>
      fs_bind (fs_ai a0 (v4 + 1)) fun v79 =>
      fs_bind (fs_ai a0 (v4 + 2)) fun v80 =>
      fs_bind (fs_cv r2 12 (f_Rf_withdraw r2 v79 v80)) fun _ =>
      fs_bind (fs_cv r2 12 (f_Rf_thrown r2)) fun v81 =>
      if v81 = v78 then (
        j1513 ()) else
      fs_rz 0) else
    if (v6 &&& 31) = 8 then (
      fs_bind (fs_ai a0 (v4 + 1)) fun v82 =>
      fs_bind (f_Lw_restart r1 v82 r3) fun v83 =>
      fs_bind (fs_ai a0 (v4 + 1)) fun v84 =>
      fs_bind (fs_cv r2 12 (f_Rf_restart r2 v84)) fun v85 =>
      fs_bind (fs_cv r2 12 (f_Rf_thrown r2)) fun v86 =>
      if v86 = v83 then (
        fs_let (fun (_ : Unit) =>
          j1513 ()) fun j794 =>
        if v83 = 0 then (
          fs_bind (fs_aj r3 0) fun v87 =>
          if (lg_cmp v87 (Int32.toInt64 v85)) = 0 then (
            j794 ()) else
          fs_rz 0) else
        j794 ()) else
      fs_rz 0) else
    if (v6 &&& 31) = 9 then (
      fs_bind (fs_ai a0 (v4 + 1)) fun v88 =>
      fs_bind (fs_ai a0 (v4 + 2)) fun v89 =>
      fs_bind (f_Lw_announce r1 v88 v89 r3) fun v90 =>
      fs_bind (fs_ai a0 (v4 + 1)) fun v91 =>
      fs_bind (fs_ai a0 (v4 + 2)) fun v92 =>
      fs_bind (fs_cv r2 12 (f_Rf_announce r2 v91 v92)) fun v93 =>
      fs_bind (fs_cv r2 12 (f_Rf_thrown r2)) fun v94 =>
      if v94 = v90 then (
        fs_let (fun (_ : Unit) =>
          j1513 ()) fun j862 =>
        if v90 = 0 then (
          fs_bind (fs_aj r3 0) fun v95 =>
          if (lg_cmp v95 (Int32.toInt64 v93)) = 0 then (
            j862 ()) else
          fs_rz 0) else
        j862 ()) else
      fs_rz 0) else
    if (v6 &&& 31) = 10 then (
      fs_bind (fs_ai a0 (v4 + 1)) fun v96 =>
      fs_bind (f_Lw_report r1 v96 r3) fun v97 =>
      fs_bind (fs_ai a0 (v4 + 1)) fun v98 =>
      fs_bind (fs_cv r2 12 (f_Rf_report r2 v98)) fun v99 =>
      fs_bind (fs_cv r2 12 (f_Rf_thrown r2)) fun v100 =>
      if v100 = v97 then (
        fs_let (fun (_ : Unit) =>
          j1513 ()) fun j918 =>
        if v97 = 0 then (
          fs_bind (fs_aj r3 0) fun v101 =>
          if (lg_cmp v101 (Int32.toInt64 v99)) = 0 then (
            j918 ()) else
          fs_rz 0) else
        j918 ()) else
      fs_rz 0) else
    if (v6 &&& 31) = 11 then (
      fs_bind (fs_ai a0 (v4 + 1)) fun v102 =>
      fs_bind (f_Lw_tell r1 v102 r3) fun v103 =>
      fs_bind (fs_ai a0 (v4 + 1)) fun v104 =>
      fs_bind (fs_cv r2 12 (f_Rf_tell r2 v104)) fun v105 =>
      fs_bind (fs_cv r2 12 (f_Rf_thrown r2)) fun v106 =>
      if v106 = v103 then (
        fs_let (fun (_ : Unit) =>
          j1513 ()) fun j974 =>
        if v103 = 0 then (
          fs_bind (fs_aj r3 0) fun v107 =>
          if (lg_cmp v107 (Int32.toInt64 v105)) = 0 then (
            j974 ()) else
          fs_rz 0) else
        j974 ()) else
      fs_rz 0) else
    if (v6 &&& 31) = 12 then (
      fs_bind (fs_ai a0 (v4 + 1)) fun v108 =>
      fs_bind (fs_cv r1 0 (f_Fs_size r1 v108)) fun v109 =>
      fs_bind (fs_ai a0 (v4 + 1)) fun v110 =>
      fs_bind (fs_cv r2 12 (f_Rf_size r2 v110)) fun v111 =>
      if v109 = v111 then (
        j1513 ()) else
      fs_rz 0) else
    if (v6 &&& 31) = 13 then (
      fs_bind (fs_ai a0 (v4 + 1)) fun v112 =>
      fs_bind (fs_ai a0 (v4 + 2)) fun v113 =>
      fs_bind (f_Lw_byteOf r1 v112 v113 r3) fun v114 =>
      fs_bind (fs_ai a0 (v4 + 1)) fun v115 =>
      fs_bind (fs_ai a0 (v4 + 2)) fun v116 =>
      fs_bind (fs_cv r2 12 (f_Rf_byteOf r2 v115 v116)) fun v117 =>
      fs_bind (fs_cv r2 12 (f_Rf_thrown r2)) fun v118 =>
      if v118 = v114 then (
        fs_let (fun (_ : Unit) =>
          j1513 ()) fun j1067 =>
        if v114 = 0 then (
          fs_bind (fs_aj r3 0) fun v119 =>
          if (lg_cmp v119 (Int32.toInt64 v117)) = 0 then (
            j1067 ()) else
          fs_rz 0) else
        j1067 ()) else
      fs_rz 0) else
    if (v6 &&& 31) = 14 then (
      fs_bind (fs_ai a0 (v4 + 1)) fun v120 =>
      fs_bind (fs_ai a0 (v4 + 2)) fun v121 =>
      fs_bind (fs_ai a0 (v4 + 3)) fun v122 =>
      fs_bind (f_Lw_poke r1 v120 v121 v122) fun v123 =>
      fs_bind (fs_ai a0 (v4 + 1)) fun v124 =>
      fs_bind (fs_ai a0 (v4 + 2)) fun v125 =>
      fs_bind (fs_ai a0 (v4 + 3)) fun v126 =>
      fs_bind (fs_cv r2 12 (f_Rf_poke r2 v124 v125 v126)) fun _ =>
      fs_bind (fs_cv r2 12 (f_Rf_thrown r2)) fun v127 =>
      if v127 = v123 then (
        j1513 ()) else
      fs_rz 0) else
    if (v6 &&& 31) = 15 then (
      fs_bind (fs_ai a0 (v4 + 1)) fun v128 =>
      fs_bind (f_Lw_hear r1 v128 r3) fun v129 =>
      fs_bind (fs_ai a0 (v4 + 1)) fun v130 =>
      fs_bind (fs_cv r2 12 (f_Rf_hear r2 v130)) fun v131 =>
      fs_bind (fs_cv r2 12 (f_Rf_thrown r2)) fun v132 =>
      if v132 = v129 then (
        fs_let (fun (_ : Unit) =>
          j1513 ()) fun j1183 =>
        if v129 = 0 then (
          fs_bind (fs_aj r3 0) fun v133 =>
          if (lg_cmp v133 (Int32.toInt64 v131)) = 0 then (
            j1183 ()) else
          fs_rz 0) else
        j1183 ()) else
      fs_rz 0) else
    if (v6 &&& 31) = 16 then (
      fs_bind (fs_cv r1 0 (f_Fs_rows r1)) fun v134 =>
      fs_bind (fs_cv r2 12 (f_Rf_rows r2)) fun v135 =>
      if v134 = v135 then (
        j1513 ()) else
      fs_rz 0) else
    if (v6 &&& 31) = 17 then (
      fs_bind (fs_ai a0 (v4 + 1)) fun v136 =>
      fs_bind (fs_ai a0 (v4 + 2)) fun v137 =>
      fs_bind (f_Lw_row r1 v136 v137 r3) fun v138 =>
      fs_bind (fs_ai a0 (v4 + 1)) fun v139 =>
      fs_bind (fs_ai a0 (v4 + 2)) fun v140 =>
      fs_bind (fs_cv r2 12 (f_Rf_row r2 v139 v140)) fun v141 =>
      fs_bind (fs_cv r2 12 (f_Rf_thrown r2)) fun v142 =>
      if v142 = v138 then (
        fs_let (fun (_ : Unit) =>
          j1513 ()) fun j1263 =>
        if v138 = 0 then (
          fs_bind (fs_aj r3 0) fun v143 =>
          if (lg_cmp v143 v141) = 0 then (
            j1263 ()) else
          fs_rz 0) else
        j1263 ()) else
      fs_rz 0) else
    if (v6 &&& 31) = 18 then (
      fs_bind (fs_ai a0 (v4 + 1)) fun v144 =>
      fs_bind (fs_ai a0 (v4 + 2)) fun v145 =>
      fs_bind (fs_ai a0 (v4 + 3)) fun v146 =>
      fs_bind (fs_ai a0 (v4 + 4)) fun v147 =>
      fs_bind (fs_ai a0 (v4 + 5)) fun v148 =>
      fs_bind (f_Lw_total r1 v144 v145 ((fs_lshl (Int32.toInt64 v146) 32) ||| ((Int32.toInt64 v147) &&& 4294967295)) v148 r3) fun v149 =>
      fs_bind (fs_ai a0 (v4 + 1)) fun v150 =>
      fs_bind (fs_ai a0 (v4 + 2)) fun v151 =>
      fs_bind (fs_ai a0 (v4 + 3)) fun v152 =>
      fs_bind (fs_ai a0 (v4 + 4)) fun v153 =>
      fs_bind (fs_ai a0 (v4 + 5)) fun v154 =>
      fs_bind (fs_cv r2 12 (f_Rf_total r2 v150 v151 ((fs_lshl (Int32.toInt64 v152) 32) ||| ((Int32.toInt64 v153) &&& 4294967295)) v154)) fun v155 =>
      fs_bind (fs_cv r2 12 (f_Rf_thrown r2)) fun v156 =>
      if v156 = v149 then (
        fs_let (fun (_ : Unit) =>
          j1513 ()) fun j1386 =>
        if v149 = 0 then (
          fs_bind (fs_aj r3 0) fun v157 =>
          if (lg_cmp v157 v155) = 0 then (
            j1386 ()) else
          fs_rz 0) else
        j1386 ()) else
      fs_rz 0) else
    if (v6 &&& 31) = 19 then (
      fs_bind (fs_ai a0 (v4 + 1)) fun v158 =>
      fs_bind (f_Lw_other r1 v158 r3) fun v159 =>
      fs_bind (fs_ai a0 (v4 + 1)) fun v160 =>
      fs_bind (fs_cv r2 12 (f_Rf_other r2 v160)) fun v161 =>
      fs_bind (fs_cv r2 12 (f_Rf_thrown r2)) fun v162 =>
      if v162 = v159 then (
        fs_let (fun (_ : Unit) =>
          j1513 ()) fun j1442 =>
        if v159 = 0 then (
          fs_bind (fs_aj r3 0) fun v163 =>
          if (lg_cmp v163 (Int32.toInt64 v161)) = 0 then (
            j1442 ()) else
          fs_rz 0) else
        j1442 ()) else
      fs_rz 0) else
    if (v6 &&& 31) = 20 then (
      fs_bind (fs_ai a0 (v4 + 1)) fun v164 =>
      fs_bind (fs_ai a0 (v4 + 2)) fun v165 =>
      fs_bind (f_Lw_count r1 v164 v165 r3) fun v166 =>
      fs_bind (fs_ai a0 (v4 + 1)) fun v167 =>
      fs_bind (fs_ai a0 (v4 + 2)) fun v168 =>
      fs_bind (fs_cv r2 12 (f_Rf_count r2 v167 v168)) fun v169 =>
      fs_bind (fs_cv r2 12 (f_Rf_thrown r2)) fun v170 =>
      if v170 = v166 then (
        fs_let (fun (_ : Unit) =>
          j1513 ()) fun j1510 =>
        if v166 = 0 then (
          fs_bind (fs_aj r3 0) fun v171 =>
          if (lg_cmp v171 (Int32.toInt64 v169)) = 0 then (
            j1510 ()) else
          fs_rz 0) else
        j1510 ()) else
      fs_rz 0) else
    j1513 ()) 0
end
section
/-! contracts -/
theorem d_Flow_hasKey_0 : decode prog_5_method_2_code 0 = .ok (.aload_n 0, 1) := by decide +kernel
theorem d_Flow_hasKey_1 : decode prog_5_method_2_code 1 = .ok (.getfield 9, 3) := by decide +kernel
theorem d_Flow_hasKey_4 : decode prog_5_method_2_code 4 = .ok (.iload_n 1, 1) := by decide +kernel
theorem d_Flow_hasKey_5 : decode prog_5_method_2_code 5 = .ok (.if_icmp .ne 23, 3) := by decide +kernel
theorem d_Flow_hasKey_8 : decode prog_5_method_2_code 8 = .ok (.aload_n 0, 1) := by decide +kernel
theorem d_Flow_hasKey_9 : decode prog_5_method_2_code 9 = .ok (.getfield 15, 3) := by decide +kernel
theorem d_Flow_hasKey_12 : decode prog_5_method_2_code 12 = .ok (.iload_n 2, 1) := by decide +kernel
theorem d_Flow_hasKey_13 : decode prog_5_method_2_code 13 = .ok (.if_icmp .ne 15, 3) := by decide +kernel
theorem d_Flow_hasKey_16 : decode prog_5_method_2_code 16 = .ok (.aload_n 0, 1) := by decide +kernel
theorem d_Flow_hasKey_17 : decode prog_5_method_2_code 17 = .ok (.getfield 18, 3) := by decide +kernel
theorem d_Flow_hasKey_20 : decode prog_5_method_2_code 20 = .ok (.iload_n 3, 1) := by decide +kernel
theorem d_Flow_hasKey_21 : decode prog_5_method_2_code 21 = .ok (.if_icmp .ne 7, 3) := by decide +kernel
theorem d_Flow_hasKey_24 : decode prog_5_method_2_code 24 = .ok (.iconst 1, 1) := by decide +kernel
theorem d_Flow_hasKey_25 : decode prog_5_method_2_code 25 = .ok (.goto 4, 3) := by decide +kernel
theorem d_Flow_hasKey_28 : decode prog_5_method_2_code 28 = .ok (.iconst 0, 1) := by decide +kernel
theorem d_Flow_hasKey_29 : decode prog_5_method_2_code 29 = .ok (.ireturn, 1) := by decide +kernel
theorem q_Flow_hasKey : (⟨"FlowShelf$Flow", "hasKey", "(III)Z"⟩ : MethodName).cls ≠ "java/lang/invoke/MethodHandle" ∧ (⟨"FlowShelf$Flow", "hasKey", "(III)Z"⟩ : MethodName).cls ≠ "java/lang/invoke/VarHandle" ∧ (parseMethodDescriptor (⟨"FlowShelf$Flow", "hasKey", "(III)Z"⟩ : MethodName).desc).map (fun d => d.parameters.length) = some 3 := by decide +kernel
set_option maxHeartbeats 4000000 in
set_option maxRecDepth 100000 in
theorem m_Flow_hasKey (X : fs_X) (l : Launch) (a0 : Nat) (x1 : Int32) (x2 : Int32) (x3 : Int32) {r : Int32} {σ σF : fs_S} (h : (f_Flow_hasKey a0 x1 x2 x3).1 σ = some (r, σF)) : fs_Met X l ⟨"FlowShelf$Flow", "hasKey", "(III)Z"⟩ (Cond.code ⟨"FlowShelf$Flow", "hasKey", "(III)Z"⟩ prog_5_method_2_code 4 (some FieldType.boolean)) 0 0 [.ref a0, .int x1, .int x2, .int x3] σ (fs_eI r) σF := by
  refine fs_ofW (by decide) ?_
  intro p e s m args below meth c s₁ B hml hT hv
  obtain ⟨rfl, hw0, hG⟩ := hv
  have hx := B.exec
  have hb := B.bytes
  have hr := B.returns
  have hk := B.notSynchronized
  have S : CallFix p m c prog_5_method_2_code 4 s _ fs_ws "FlowShelf$Flow" := ⟨B.exec, B.bytes, hml, findClass_of_methodNamed B.named, fun w hw => atoms_spec (ws := _ :: fs_ws) B.pre w (List.mem_cons_of_mem _ hw)⟩
  have hR := fs_hR (fr := 0) (lo := 0) ((f_Flow_hasKey a0 x1 x2 x3).2 _ _ _ h)
  have hl := lv_entry ([.ref a0, .int x1, .int x2, .int x3]) (n := 4) (Nat.le_of_ble_eq_true rfl)
  rw [lg_entry_eq]
  generalize (lg_sl ([.ref a0, .int x1, .int x2, .int x3]) ++ List.replicate (4 - (lg_sl ([.ref a0, .int x1, .int x2, .int x3])).length) Slot.unset).toArray = ls at hl ⊢
  have hl : lv_has ls 4 [(0, .ref a0), (1, .int x1), (2, .int x2), (3, .int x3)] := hl
  refine (?_ : fs_J X p l e (fs_rm 0 0 σ σF) s m _ below meth c (fs_Q X below _ s (fs_eI r) σ σF) r σ σF (f_Flow_hasKey a0 x1 x2 x3) (F0 m 0 ls [])) σ s.heap [] 0 0 h hw0 va_S.rf rfl rfl
  clear h hw0
  unfold f_Flow_hasKey
  refine fs_lift (fun _ _ _ _ => lv_aload_n hx hb d_Flow_hasKey_0 rfl (lv_at hl 0 rfl)) ?_
  refine fs_Jgi S hG fs_in8 rfl 0 (Nat.le_of_ble_eq_true rfl) tw_3_26 (fun _ h9 => h9) d_Flow_hasKey_1 (fun v1 => ?_)
  refine fs_lift (fun _ _ _ _ => lv_iload_n hx hb d_Flow_hasKey_4 rfl (lv_at hl 1 rfl)) ?_
  refine fs_ifn (fun _ _ _ _ => lv_icmp_ne hx hb d_Flow_hasKey_5 rfl) ?_ ?_
  · refine fs_lift (fun _ _ _ _ => lv_aload_n hx hb d_Flow_hasKey_8 rfl (lv_at hl 0 rfl)) ?_
    refine fs_Jgi S hG fs_in8 rfl 1 (Nat.le_of_ble_eq_true rfl) tw_3_27 (fun _ h9 => h9) d_Flow_hasKey_9 (fun v2 => ?_)
    refine fs_lift (fun _ _ _ _ => lv_iload_n hx hb d_Flow_hasKey_12 rfl (lv_at hl 2 rfl)) ?_
    refine fs_ifn (fun _ _ _ _ => lv_icmp_ne hx hb d_Flow_hasKey_13 rfl) ?_ ?_
    · refine fs_lift (fun _ _ _ _ => lv_aload_n hx hb d_Flow_hasKey_16 rfl (lv_at hl 0 rfl)) ?_
      refine fs_Jgi S hG fs_in8 rfl 2 (Nat.le_of_ble_eq_true rfl) tw_3_28 (fun _ h9 => h9) d_Flow_hasKey_17 (fun v3 => ?_)
      refine fs_lift (fun _ _ _ _ => lv_iload_n hx hb d_Flow_hasKey_20 rfl (lv_at hl 3 rfl)) ?_
      refine fs_ifn (fun _ _ _ _ => lv_icmp_ne hx hb d_Flow_hasKey_21 rfl) ?_ ?_
      · refine fs_lift (fun _ _ _ _ => lv_iconst (v := 1) hx hb d_Flow_hasKey_24 (by decide)) ?_
        refine fs_lift (fun _ _ _ _ => lv_goto hx hb d_Flow_hasKey_25 rfl) ?_
        exact fs_Jzret S hr hk rfl d_Flow_hasKey_29
      · refine fs_lift (fun _ _ _ _ => lv_iconst (v := 0) hx hb d_Flow_hasKey_28 (by decide)) ?_
        exact fs_Jzret S hr hk rfl d_Flow_hasKey_29
    · refine fs_lift (fun _ _ _ _ => lv_iconst (v := 0) hx hb d_Flow_hasKey_28 (by decide)) ?_
      exact fs_Jzret S hr hk rfl d_Flow_hasKey_29
  · refine fs_lift (fun _ _ _ _ => lv_iconst (v := 0) hx hb d_Flow_hasKey_28 (by decide)) ?_
    exact fs_Jzret S hr hk rfl d_Flow_hasKey_29

theorem d_Flow_init_0 : decode prog_5_method_1_code 0 = .ok (.aload_n 0, 1) := by decide +kernel
theorem d_Flow_init_1 : decode prog_5_method_1_code 1 = .ok (.invokespecial 3, 3) := by decide +kernel
theorem d_Flow_init_4 : decode prog_5_method_1_code 4 = .ok (.aload_n 0, 1) := by decide +kernel
theorem d_Flow_init_5 : decode prog_5_method_1_code 5 = .ok (.iload_n 1, 1) := by decide +kernel
theorem d_Flow_init_6 : decode prog_5_method_1_code 6 = .ok (.putfield 9, 3) := by decide +kernel
theorem d_Flow_init_9 : decode prog_5_method_1_code 9 = .ok (.aload_n 0, 1) := by decide +kernel
theorem d_Flow_init_10 : decode prog_5_method_1_code 10 = .ok (.iload_n 2, 1) := by decide +kernel
theorem d_Flow_init_11 : decode prog_5_method_1_code 11 = .ok (.putfield 15, 3) := by decide +kernel
theorem d_Flow_init_14 : decode prog_5_method_1_code 14 = .ok (.aload_n 0, 1) := by decide +kernel
theorem d_Flow_init_15 : decode prog_5_method_1_code 15 = .ok (.iload_n 3, 1) := by decide +kernel
theorem d_Flow_init_16 : decode prog_5_method_1_code 16 = .ok (.putfield 18, 3) := by decide +kernel
theorem d_Flow_init_19 : decode prog_5_method_1_code 19 = .ok (.aload_n 0, 1) := by decide +kernel
theorem d_Flow_init_20 : decode prog_5_method_1_code 20 = .ok (.iload 4, 2) := by decide +kernel
theorem d_Flow_init_22 : decode prog_5_method_1_code 22 = .ok (.putfield 21, 3) := by decide +kernel
theorem d_Flow_init_25 : decode prog_5_method_1_code 25 = .ok (.return_, 1) := by decide +kernel
theorem q_Flow_init : (⟨"FlowShelf$Flow", "<init>", "(IIII)V"⟩ : MethodName).cls ≠ "java/lang/invoke/MethodHandle" ∧ (⟨"FlowShelf$Flow", "<init>", "(IIII)V"⟩ : MethodName).cls ≠ "java/lang/invoke/VarHandle" ∧ (parseMethodDescriptor (⟨"FlowShelf$Flow", "<init>", "(IIII)V"⟩ : MethodName).desc).map (fun d => d.parameters.length) = some 4 := by decide +kernel
set_option maxHeartbeats 4000000 in
set_option maxRecDepth 100000 in
theorem m_Flow_init (X : fs_X) (l : Launch) (a0 : Nat) (x1 : Int32) (x2 : Int32) (x3 : Int32) (x4 : Int32) {r : Unit} {σ σF : fs_S} (h : (f_Flow_init a0 x1 x2 x3 x4).1 σ = some (r, σF)) : fs_Met X l ⟨"FlowShelf$Flow", "<init>", "(IIII)V"⟩ (Cond.code ⟨"FlowShelf$Flow", "<init>", "(IIII)V"⟩ prog_5_method_1_code 5 none) 1 12 [.ref a0, .int x1, .int x2, .int x3, .int x4] σ (fs_eV r) σF := by
  refine fs_ofW (by decide) ?_
  intro p e s m args below meth c s₁ B hml hT hv
  obtain ⟨rfl, hw0, hG⟩ := hv
  have hx := B.exec
  have hb := B.bytes
  have hr := B.returns
  have hk := B.notSynchronized
  have hin : meth.name = "<init>" := (name_of_methodNamed B.named B.method).1
  have S : CallFix p m c prog_5_method_1_code 5 s _ fs_ws "FlowShelf$Flow" := ⟨B.exec, B.bytes, hml, findClass_of_methodNamed B.named, fun w hw => atoms_spec (ws := _ :: fs_ws) B.pre w (List.mem_cons_of_mem _ hw)⟩
  have hR := fs_hR (fr := 1) (lo := 12) ((f_Flow_init a0 x1 x2 x3 x4).2 _ _ _ h)
  have hl := lv_entry ([.ref a0, .int x1, .int x2, .int x3, .int x4]) (n := 5) (Nat.le_of_ble_eq_true rfl)
  rw [lg_entry_eq]
  generalize (lg_sl ([.ref a0, .int x1, .int x2, .int x3, .int x4]) ++ List.replicate (5 - (lg_sl ([.ref a0, .int x1, .int x2, .int x3, .int x4])).length) Slot.unset).toArray = ls at hl ⊢
  have hl : lv_has ls 5 [(0, .ref a0), (1, .int x1), (2, .int x2), (3, .int x3), (4, .int x4)] := hl
  refine (?_ : fs_J X p l e (fs_rm 1 12 σ σF) s m _ below meth c (fs_Q X below _ s (fs_eV r) σ σF) r σ σF (f_Flow_init a0 x1 x2 x3 x4) (F0 m 0 ls [])) σ s.heap [] 0 0 h hw0 va_S.rf rfl rfl
  clear h hw0
  unfold f_Flow_init
  refine fs_lift (fun _ _ _ _ => lv_aload_n hx hb d_Flow_init_0 rfl (lv_at hl 0 rfl)) ?_
  refine fs_JO S tw_3_25 tw_1_35 tw_1_36 hl.1 (Nat.le_of_ble_eq_true rfl) (Nat.le_of_ble_eq_true rfl) d_Flow_init_1 ?_
  refine fs_Jeq (g2 := F0 m 4 ls []) rfl ?_
  refine fs_lift (fun _ _ _ _ => lv_aload_n hx hb d_Flow_init_4 rfl (lv_at hl 0 rfl)) ?_
  refine fs_lift (fun _ _ _ _ => lv_iload_n hx hb d_Flow_init_5 rfl (lv_at hl 1 rfl)) ?_
  refine fs_Jput S hG fs_in8 rfl 0 (Nat.le_of_ble_eq_true rfl) tw_3_26 (fun _ h9 => h9) fs_Y8 fs_ty8 fs_nm8 (Or.inr ⟨rfl, hin, rfl⟩) rfl rfl d_Flow_init_6 ?_
  refine fs_lift (fun _ _ _ _ => lv_aload_n hx hb d_Flow_init_9 rfl (lv_at hl 0 rfl)) ?_
  refine fs_lift (fun _ _ _ _ => lv_iload_n hx hb d_Flow_init_10 rfl (lv_at hl 2 rfl)) ?_
  refine fs_Jput S hG fs_in8 rfl 1 (Nat.le_of_ble_eq_true rfl) tw_3_27 (fun _ h9 => h9) fs_Y8 fs_ty8 fs_nm8 (Or.inr ⟨rfl, hin, rfl⟩) rfl rfl d_Flow_init_11 ?_
  refine fs_lift (fun _ _ _ _ => lv_aload_n hx hb d_Flow_init_14 rfl (lv_at hl 0 rfl)) ?_
  refine fs_lift (fun _ _ _ _ => lv_iload_n hx hb d_Flow_init_15 rfl (lv_at hl 3 rfl)) ?_
  refine fs_Jput S hG fs_in8 rfl 2 (Nat.le_of_ble_eq_true rfl) tw_3_28 (fun _ h9 => h9) fs_Y8 fs_ty8 fs_nm8 (Or.inr ⟨rfl, hin, rfl⟩) rfl rfl d_Flow_init_16 ?_
  refine fs_lift (fun _ _ _ _ => lv_aload_n hx hb d_Flow_init_19 rfl (lv_at hl 0 rfl)) ?_
  refine fs_lift (fun _ _ _ _ => lv_iload hx hb d_Flow_init_20 (lv_at hl 4 rfl)) ?_
  refine fs_Jput S hG fs_in8 rfl 3 (Nat.le_of_ble_eq_true rfl) tw_3_29 (fun _ h9 => h9) fs_Y8 fs_ty8 fs_nm8 (Or.inr ⟨rfl, hin, rfl⟩) rfl rfl d_Flow_init_22 ?_
  exact fs_Jvret S hr hk rfl d_Flow_init_25

theorem d_Flow_addPacket_0 : decode prog_5_method_3_code 0 = .ok (.aload_n 0, 1) := by decide +kernel
theorem d_Flow_addPacket_1 : decode prog_5_method_3_code 1 = .ok (.dup, 1) := by decide +kernel
theorem d_Flow_addPacket_2 : decode prog_5_method_3_code 2 = .ok (.getfield 24, 3) := by decide +kernel
theorem d_Flow_addPacket_5 : decode prog_5_method_3_code 5 = .ok (.iload_n 1, 1) := by decide +kernel
theorem d_Flow_addPacket_6 : decode prog_5_method_3_code 6 = .ok (.iadd, 1) := by decide +kernel
theorem d_Flow_addPacket_7 : decode prog_5_method_3_code 7 = .ok (.putfield 24, 3) := by decide +kernel
theorem d_Flow_addPacket_10 : decode prog_5_method_3_code 10 = .ok (.aload_n 0, 1) := by decide +kernel
theorem d_Flow_addPacket_11 : decode prog_5_method_3_code 11 = .ok (.dup, 1) := by decide +kernel
theorem d_Flow_addPacket_12 : decode prog_5_method_3_code 12 = .ok (.getfield 27, 3) := by decide +kernel
theorem d_Flow_addPacket_15 : decode prog_5_method_3_code 15 = .ok (.iconst 1, 1) := by decide +kernel
theorem d_Flow_addPacket_16 : decode prog_5_method_3_code 16 = .ok (.iadd, 1) := by decide +kernel
theorem d_Flow_addPacket_17 : decode prog_5_method_3_code 17 = .ok (.putfield 27, 3) := by decide +kernel
theorem d_Flow_addPacket_20 : decode prog_5_method_3_code 20 = .ok (.aload_n 0, 1) := by decide +kernel
theorem d_Flow_addPacket_21 : decode prog_5_method_3_code 21 = .ok (.iload_n 2, 1) := by decide +kernel
theorem d_Flow_addPacket_22 : decode prog_5_method_3_code 22 = .ok (.putfield 30, 3) := by decide +kernel
theorem d_Flow_addPacket_25 : decode prog_5_method_3_code 25 = .ok (.return_, 1) := by decide +kernel
theorem q_Flow_addPacket : (⟨"FlowShelf$Flow", "addPacket", "(II)V"⟩ : MethodName).cls ≠ "java/lang/invoke/MethodHandle" ∧ (⟨"FlowShelf$Flow", "addPacket", "(II)V"⟩ : MethodName).cls ≠ "java/lang/invoke/VarHandle" ∧ (parseMethodDescriptor (⟨"FlowShelf$Flow", "addPacket", "(II)V"⟩ : MethodName).desc).map (fun d => d.parameters.length) = some 2 := by decide +kernel
set_option maxHeartbeats 4000000 in
set_option maxRecDepth 100000 in
theorem m_Flow_addPacket (X : fs_X) (l : Launch) (a0 : Nat) (x1 : Int32) (x2 : Int32) {r : Unit} {σ σF : fs_S} (h : (f_Flow_addPacket a0 x1 x2).1 σ = some (r, σF)) : fs_Met X l ⟨"FlowShelf$Flow", "addPacket", "(II)V"⟩ (Cond.code ⟨"FlowShelf$Flow", "addPacket", "(II)V"⟩ prog_5_method_3_code 3 none) 0 0 [.ref a0, .int x1, .int x2] σ (fs_eV r) σF := by
  refine fs_ofW (by decide) ?_
  intro p e s m args below meth c s₁ B hml hT hv
  obtain ⟨rfl, hw0, hG⟩ := hv
  have hx := B.exec
  have hb := B.bytes
  have hr := B.returns
  have hk := B.notSynchronized
  have S : CallFix p m c prog_5_method_3_code 3 s _ fs_ws "FlowShelf$Flow" := ⟨B.exec, B.bytes, hml, findClass_of_methodNamed B.named, fun w hw => atoms_spec (ws := _ :: fs_ws) B.pre w (List.mem_cons_of_mem _ hw)⟩
  have hR := fs_hR (fr := 0) (lo := 0) ((f_Flow_addPacket a0 x1 x2).2 _ _ _ h)
  have hl := lv_entry ([.ref a0, .int x1, .int x2]) (n := 3) (Nat.le_of_ble_eq_true rfl)
  rw [lg_entry_eq]
  generalize (lg_sl ([.ref a0, .int x1, .int x2]) ++ List.replicate (3 - (lg_sl ([.ref a0, .int x1, .int x2])).length) Slot.unset).toArray = ls at hl ⊢
  have hl : lv_has ls 3 [(0, .ref a0), (1, .int x1), (2, .int x2)] := hl
  refine (?_ : fs_J X p l e (fs_rm 0 0 σ σF) s m _ below meth c (fs_Q X below _ s (fs_eV r) σ σF) r σ σF (f_Flow_addPacket a0 x1 x2) (F0 m 0 ls [])) σ s.heap [] 0 0 h hw0 va_S.rf rfl rfl
  clear h hw0
  unfold f_Flow_addPacket
  refine fs_lift (fun _ _ _ _ => lv_aload_n hx hb d_Flow_addPacket_0 rfl (lv_at hl 0 rfl)) ?_
  refine fs_lift (fun _ _ _ _ => lv_dup hx hb d_Flow_addPacket_1 rfl) ?_
  refine fs_Jgi S hG fs_in8 rfl 4 (Nat.le_of_ble_eq_true rfl) tw_3_30 (fun _ h9 => h9) d_Flow_addPacket_2 (fun v1 => ?_)
  refine fs_lift (fun _ _ _ _ => lv_iload_n hx hb d_Flow_addPacket_5 rfl (lv_at hl 1 rfl)) ?_
  refine fs_lift (fun _ _ _ _ => lv_iadd hx hb d_Flow_addPacket_6) ?_
  refine fs_Jput S hG fs_in8 rfl 4 (Nat.le_of_ble_eq_true rfl) tw_3_30 (fun _ h9 => h9) fs_Y8 fs_ty8 fs_nm8 (Or.inl rfl) rfl rfl d_Flow_addPacket_7 ?_
  refine fs_lift (fun _ _ _ _ => lv_aload_n hx hb d_Flow_addPacket_10 rfl (lv_at hl 0 rfl)) ?_
  refine fs_lift (fun _ _ _ _ => lv_dup hx hb d_Flow_addPacket_11 rfl) ?_
  refine fs_Jgi S hG fs_in8 rfl 5 (Nat.le_of_ble_eq_true rfl) tw_3_31 (fun _ h9 => h9) d_Flow_addPacket_12 (fun v2 => ?_)
  refine fs_lift (fun _ _ _ _ => lv_iconst (v := 1) hx hb d_Flow_addPacket_15 (by decide)) ?_
  refine fs_lift (fun _ _ _ _ => lv_iadd hx hb d_Flow_addPacket_16) ?_
  refine fs_Jput S hG fs_in8 rfl 5 (Nat.le_of_ble_eq_true rfl) tw_3_31 (fun _ h9 => h9) fs_Y8 fs_ty8 fs_nm8 (Or.inl rfl) rfl rfl d_Flow_addPacket_17 ?_
  refine fs_lift (fun _ _ _ _ => lv_aload_n hx hb d_Flow_addPacket_20 rfl (lv_at hl 0 rfl)) ?_
  refine fs_lift (fun _ _ _ _ => lv_iload_n hx hb d_Flow_addPacket_21 rfl (lv_at hl 2 rfl)) ?_
  refine fs_Jput S hG fs_in8 rfl 6 (Nat.le_of_ble_eq_true rfl) tw_3_32 (fun _ h9 => h9) fs_Y8 fs_ty8 fs_nm8 (Or.inl rfl) rfl rfl d_Flow_addPacket_22 ?_
  exact fs_Jvret S hr hk rfl d_Flow_addPacket_25

theorem d_Flow_reasonToEnd_0 : decode prog_5_method_4_code 0 = .ok (.iload_n 1, 1) := by decide +kernel
theorem d_Flow_reasonToEnd_1 : decode prog_5_method_4_code 1 = .ok (.aload_n 0, 1) := by decide +kernel
theorem d_Flow_reasonToEnd_2 : decode prog_5_method_4_code 2 = .ok (.getfield 30, 3) := by decide +kernel
theorem d_Flow_reasonToEnd_5 : decode prog_5_method_4_code 5 = .ok (.isub, 1) := by decide +kernel
theorem d_Flow_reasonToEnd_6 : decode prog_5_method_4_code 6 = .ok (.bipush 15, 2) := by decide +kernel
theorem d_Flow_reasonToEnd_8 : decode prog_5_method_4_code 8 = .ok (.if_icmp .lt 5, 3) := by decide +kernel
theorem d_Flow_reasonToEnd_11 : decode prog_5_method_4_code 11 = .ok (.iconst 1, 1) := by decide +kernel
theorem d_Flow_reasonToEnd_12 : decode prog_5_method_4_code 12 = .ok (.ireturn, 1) := by decide +kernel
theorem d_Flow_reasonToEnd_13 : decode prog_5_method_4_code 13 = .ok (.iload_n 1, 1) := by decide +kernel
theorem d_Flow_reasonToEnd_14 : decode prog_5_method_4_code 14 = .ok (.aload_n 0, 1) := by decide +kernel
theorem d_Flow_reasonToEnd_15 : decode prog_5_method_4_code 15 = .ok (.getfield 21, 3) := by decide +kernel
theorem d_Flow_reasonToEnd_18 : decode prog_5_method_4_code 18 = .ok (.isub, 1) := by decide +kernel
theorem d_Flow_reasonToEnd_19 : decode prog_5_method_4_code 19 = .ok (.bipush 60, 2) := by decide +kernel
theorem d_Flow_reasonToEnd_21 : decode prog_5_method_4_code 21 = .ok (.if_icmp .lt 7, 3) := by decide +kernel
theorem d_Flow_reasonToEnd_24 : decode prog_5_method_4_code 24 = .ok (.iconst 2, 1) := by decide +kernel
theorem d_Flow_reasonToEnd_25 : decode prog_5_method_4_code 25 = .ok (.goto 4, 3) := by decide +kernel
theorem d_Flow_reasonToEnd_28 : decode prog_5_method_4_code 28 = .ok (.iconst 0, 1) := by decide +kernel
theorem d_Flow_reasonToEnd_29 : decode prog_5_method_4_code 29 = .ok (.ireturn, 1) := by decide +kernel
theorem q_Flow_reasonToEnd : (⟨"FlowShelf$Flow", "reasonToEnd", "(I)I"⟩ : MethodName).cls ≠ "java/lang/invoke/MethodHandle" ∧ (⟨"FlowShelf$Flow", "reasonToEnd", "(I)I"⟩ : MethodName).cls ≠ "java/lang/invoke/VarHandle" ∧ (parseMethodDescriptor (⟨"FlowShelf$Flow", "reasonToEnd", "(I)I"⟩ : MethodName).desc).map (fun d => d.parameters.length) = some 1 := by decide +kernel
set_option maxHeartbeats 4000000 in
set_option maxRecDepth 100000 in
theorem m_Flow_reasonToEnd (X : fs_X) (l : Launch) (a0 : Nat) (x1 : Int32) {r : Int32} {σ σF : fs_S} (h : (f_Flow_reasonToEnd a0 x1).1 σ = some (r, σF)) : fs_Met X l ⟨"FlowShelf$Flow", "reasonToEnd", "(I)I"⟩ (Cond.code ⟨"FlowShelf$Flow", "reasonToEnd", "(I)I"⟩ prog_5_method_4_code 2 (some FieldType.int)) 0 0 [.ref a0, .int x1] σ (fs_eI r) σF := by
  refine fs_ofW (by decide) ?_
  intro p e s m args below meth c s₁ B hml hT hv
  obtain ⟨rfl, hw0, hG⟩ := hv
  have hx := B.exec
  have hb := B.bytes
  have hr := B.returns
  have hk := B.notSynchronized
  have S : CallFix p m c prog_5_method_4_code 2 s _ fs_ws "FlowShelf$Flow" := ⟨B.exec, B.bytes, hml, findClass_of_methodNamed B.named, fun w hw => atoms_spec (ws := _ :: fs_ws) B.pre w (List.mem_cons_of_mem _ hw)⟩
  have hR := fs_hR (fr := 0) (lo := 0) ((f_Flow_reasonToEnd a0 x1).2 _ _ _ h)
  have hl := lv_entry ([.ref a0, .int x1]) (n := 2) (Nat.le_of_ble_eq_true rfl)
  rw [lg_entry_eq]
  generalize (lg_sl ([.ref a0, .int x1]) ++ List.replicate (2 - (lg_sl ([.ref a0, .int x1])).length) Slot.unset).toArray = ls at hl ⊢
  have hl : lv_has ls 2 [(0, .ref a0), (1, .int x1)] := hl
  refine (?_ : fs_J X p l e (fs_rm 0 0 σ σF) s m _ below meth c (fs_Q X below _ s (fs_eI r) σ σF) r σ σF (f_Flow_reasonToEnd a0 x1) (F0 m 0 ls [])) σ s.heap [] 0 0 h hw0 va_S.rf rfl rfl
  clear h hw0
  unfold f_Flow_reasonToEnd
  refine fs_lift (fun _ _ _ _ => lv_iload_n hx hb d_Flow_reasonToEnd_0 rfl (lv_at hl 1 rfl)) ?_
  refine fs_lift (fun _ _ _ _ => lv_aload_n hx hb d_Flow_reasonToEnd_1 rfl (lv_at hl 0 rfl)) ?_
  refine fs_Jgi S hG fs_in8 rfl 6 (Nat.le_of_ble_eq_true rfl) tw_3_32 (fun _ h9 => h9) d_Flow_reasonToEnd_2 (fun v1 => ?_)
  refine fs_lift (fun _ _ _ _ => lv_isub hx hb d_Flow_reasonToEnd_5) ?_
  refine fs_lift (fun _ _ _ _ => lv_bipush (v := 15) hx hb d_Flow_reasonToEnd_6 (by decide)) ?_
  refine fs_if (fun _ _ _ _ => lv_icmp_lt hx hb d_Flow_reasonToEnd_8 rfl) ?_ ?_
  · refine fs_lift (fun _ _ _ _ => lv_iload_n hx hb d_Flow_reasonToEnd_13 rfl (lv_at hl 1 rfl)) ?_
    refine fs_lift (fun _ _ _ _ => lv_aload_n hx hb d_Flow_reasonToEnd_14 rfl (lv_at hl 0 rfl)) ?_
    refine fs_Jgi S hG fs_in8 rfl 3 (Nat.le_of_ble_eq_true rfl) tw_3_29 (fun _ h9 => h9) d_Flow_reasonToEnd_15 (fun v2 => ?_)
    refine fs_lift (fun _ _ _ _ => lv_isub hx hb d_Flow_reasonToEnd_18) ?_
    refine fs_lift (fun _ _ _ _ => lv_bipush (v := 60) hx hb d_Flow_reasonToEnd_19 (by decide)) ?_
    refine fs_if (fun _ _ _ _ => lv_icmp_lt hx hb d_Flow_reasonToEnd_21 rfl) ?_ ?_
    · refine fs_lift (fun _ _ _ _ => lv_iconst (v := 0) hx hb d_Flow_reasonToEnd_28 (by decide)) ?_
      exact fs_Jiret S hr hk rfl d_Flow_reasonToEnd_29
    · refine fs_lift (fun _ _ _ _ => lv_iconst (v := 2) hx hb d_Flow_reasonToEnd_24 (by decide)) ?_
      refine fs_lift (fun _ _ _ _ => lv_goto hx hb d_Flow_reasonToEnd_25 rfl) ?_
      exact fs_Jiret S hr hk rfl d_Flow_reasonToEnd_29
  · refine fs_lift (fun _ _ _ _ => lv_iconst (v := 1) hx hb d_Flow_reasonToEnd_11 (by decide)) ?_
    exact fs_Jiret S hr hk rfl d_Flow_reasonToEnd_12

theorem d_Flow_valueOf_0 : decode prog_5_method_5_code 0 = .ok (.iload_n 1, 1) := by decide +kernel
theorem d_Flow_valueOf_1 : decode prog_5_method_5_code 1 = .ok (.tableswitch 78 0 6 #[43, 48, 53, 58, 63, 68, 73], 43) := by decide +kernel
theorem d_Flow_valueOf_44 : decode prog_5_method_5_code 44 = .ok (.aload_n 0, 1) := by decide +kernel
theorem d_Flow_valueOf_45 : decode prog_5_method_5_code 45 = .ok (.getfield 9, 3) := by decide +kernel
theorem d_Flow_valueOf_48 : decode prog_5_method_5_code 48 = .ok (.ireturn, 1) := by decide +kernel
theorem d_Flow_valueOf_49 : decode prog_5_method_5_code 49 = .ok (.aload_n 0, 1) := by decide +kernel
theorem d_Flow_valueOf_50 : decode prog_5_method_5_code 50 = .ok (.getfield 15, 3) := by decide +kernel
theorem d_Flow_valueOf_53 : decode prog_5_method_5_code 53 = .ok (.ireturn, 1) := by decide +kernel
theorem d_Flow_valueOf_54 : decode prog_5_method_5_code 54 = .ok (.aload_n 0, 1) := by decide +kernel
theorem d_Flow_valueOf_55 : decode prog_5_method_5_code 55 = .ok (.getfield 18, 3) := by decide +kernel
theorem d_Flow_valueOf_58 : decode prog_5_method_5_code 58 = .ok (.ireturn, 1) := by decide +kernel
theorem d_Flow_valueOf_59 : decode prog_5_method_5_code 59 = .ok (.aload_n 0, 1) := by decide +kernel
theorem d_Flow_valueOf_60 : decode prog_5_method_5_code 60 = .ok (.getfield 24, 3) := by decide +kernel
theorem d_Flow_valueOf_63 : decode prog_5_method_5_code 63 = .ok (.ireturn, 1) := by decide +kernel
theorem d_Flow_valueOf_64 : decode prog_5_method_5_code 64 = .ok (.aload_n 0, 1) := by decide +kernel
theorem d_Flow_valueOf_65 : decode prog_5_method_5_code 65 = .ok (.getfield 27, 3) := by decide +kernel
theorem d_Flow_valueOf_68 : decode prog_5_method_5_code 68 = .ok (.ireturn, 1) := by decide +kernel
theorem d_Flow_valueOf_69 : decode prog_5_method_5_code 69 = .ok (.aload_n 0, 1) := by decide +kernel
theorem d_Flow_valueOf_70 : decode prog_5_method_5_code 70 = .ok (.getfield 21, 3) := by decide +kernel
theorem d_Flow_valueOf_73 : decode prog_5_method_5_code 73 = .ok (.ireturn, 1) := by decide +kernel
theorem d_Flow_valueOf_74 : decode prog_5_method_5_code 74 = .ok (.aload_n 0, 1) := by decide +kernel
theorem d_Flow_valueOf_75 : decode prog_5_method_5_code 75 = .ok (.getfield 33, 3) := by decide +kernel
theorem d_Flow_valueOf_78 : decode prog_5_method_5_code 78 = .ok (.ireturn, 1) := by decide +kernel
theorem d_Flow_valueOf_79 : decode prog_5_method_5_code 79 = .ok (.aload_n 0, 1) := by decide +kernel
theorem d_Flow_valueOf_80 : decode prog_5_method_5_code 80 = .ok (.getfield 36, 3) := by decide +kernel
theorem d_Flow_valueOf_83 : decode prog_5_method_5_code 83 = .ok (.ireturn, 1) := by decide +kernel
theorem q_Flow_valueOf : (⟨"FlowShelf$Flow", "valueOf", "(I)I"⟩ : MethodName).cls ≠ "java/lang/invoke/MethodHandle" ∧ (⟨"FlowShelf$Flow", "valueOf", "(I)I"⟩ : MethodName).cls ≠ "java/lang/invoke/VarHandle" ∧ (parseMethodDescriptor (⟨"FlowShelf$Flow", "valueOf", "(I)I"⟩ : MethodName).desc).map (fun d => d.parameters.length) = some 1 := by decide +kernel
set_option maxHeartbeats 4000000 in
set_option maxRecDepth 100000 in
theorem m_Flow_valueOf (X : fs_X) (l : Launch) (a0 : Nat) (x1 : Int32) {r : Int32} {σ σF : fs_S} (h : (f_Flow_valueOf a0 x1).1 σ = some (r, σF)) : fs_Met X l ⟨"FlowShelf$Flow", "valueOf", "(I)I"⟩ (Cond.code ⟨"FlowShelf$Flow", "valueOf", "(I)I"⟩ prog_5_method_5_code 2 (some FieldType.int)) 0 0 [.ref a0, .int x1] σ (fs_eI r) σF := by
  refine fs_ofW (by decide) ?_
  intro p e s m args below meth c s₁ B hml hT hv
  obtain ⟨rfl, hw0, hG⟩ := hv
  have hx := B.exec
  have hb := B.bytes
  have hr := B.returns
  have hk := B.notSynchronized
  have S : CallFix p m c prog_5_method_5_code 2 s _ fs_ws "FlowShelf$Flow" := ⟨B.exec, B.bytes, hml, findClass_of_methodNamed B.named, fun w hw => atoms_spec (ws := _ :: fs_ws) B.pre w (List.mem_cons_of_mem _ hw)⟩
  have hR := fs_hR (fr := 0) (lo := 0) ((f_Flow_valueOf a0 x1).2 _ _ _ h)
  have hl := lv_entry ([.ref a0, .int x1]) (n := 2) (Nat.le_of_ble_eq_true rfl)
  rw [lg_entry_eq]
  generalize (lg_sl ([.ref a0, .int x1]) ++ List.replicate (2 - (lg_sl ([.ref a0, .int x1])).length) Slot.unset).toArray = ls at hl ⊢
  have hl : lv_has ls 2 [(0, .ref a0), (1, .int x1)] := hl
  refine (?_ : fs_J X p l e (fs_rm 0 0 σ σF) s m _ below meth c (fs_Q X below _ s (fs_eI r) σ σF) r σ σF (f_Flow_valueOf a0 x1) (F0 m 0 ls [])) σ s.heap [] 0 0 h hw0 va_S.rf rfl rfl
  clear h hw0
  unfold f_Flow_valueOf
  refine fs_lift (fun _ _ _ _ => lv_iload_n hx hb d_Flow_valueOf_0 rfl (lv_at hl 1 rfl)) ?_
  refine fs_sw (fun q9 => ?_) (fun q100 => ?_)
  · refine fs_lift (fun _ _ _ _ => lv_tableIn (off := 43) (tgt := 44) hx hb d_Flow_valueOf_1 (by rw [q9]; decide) (by rw [q9]; decide) (by rw [q9]; rfl) rfl) ?_
    refine fs_lift (fun _ _ _ _ => lv_aload_n hx hb d_Flow_valueOf_44 rfl (lv_at hl 0 rfl)) ?_
    refine fs_Jgi S hG fs_in8 rfl 0 (Nat.le_of_ble_eq_true rfl) tw_3_26 (fun _ h9 => h9) d_Flow_valueOf_45 (fun v1 => ?_)
    exact fs_Jiret S hr hk rfl d_Flow_valueOf_48
  refine fs_sw (fun q9 => ?_) (fun q101 => ?_)
  · refine fs_lift (fun _ _ _ _ => lv_tableIn (off := 48) (tgt := 49) hx hb d_Flow_valueOf_1 (by rw [q9]; decide) (by rw [q9]; decide) (by rw [q9]; rfl) rfl) ?_
    refine fs_lift (fun _ _ _ _ => lv_aload_n hx hb d_Flow_valueOf_49 rfl (lv_at hl 0 rfl)) ?_
    refine fs_Jgi S hG fs_in8 rfl 1 (Nat.le_of_ble_eq_true rfl) tw_3_27 (fun _ h9 => h9) d_Flow_valueOf_50 (fun v2 => ?_)
    exact fs_Jiret S hr hk rfl d_Flow_valueOf_53
  refine fs_sw (fun q9 => ?_) (fun q102 => ?_)
  · refine fs_lift (fun _ _ _ _ => lv_tableIn (off := 53) (tgt := 54) hx hb d_Flow_valueOf_1 (by rw [q9]; decide) (by rw [q9]; decide) (by rw [q9]; rfl) rfl) ?_
    refine fs_lift (fun _ _ _ _ => lv_aload_n hx hb d_Flow_valueOf_54 rfl (lv_at hl 0 rfl)) ?_
    refine fs_Jgi S hG fs_in8 rfl 2 (Nat.le_of_ble_eq_true rfl) tw_3_28 (fun _ h9 => h9) d_Flow_valueOf_55 (fun v3 => ?_)
    exact fs_Jiret S hr hk rfl d_Flow_valueOf_58
  refine fs_sw (fun q9 => ?_) (fun q103 => ?_)
  · refine fs_lift (fun _ _ _ _ => lv_tableIn (off := 58) (tgt := 59) hx hb d_Flow_valueOf_1 (by rw [q9]; decide) (by rw [q9]; decide) (by rw [q9]; rfl) rfl) ?_
    refine fs_lift (fun _ _ _ _ => lv_aload_n hx hb d_Flow_valueOf_59 rfl (lv_at hl 0 rfl)) ?_
    refine fs_Jgi S hG fs_in8 rfl 4 (Nat.le_of_ble_eq_true rfl) tw_3_30 (fun _ h9 => h9) d_Flow_valueOf_60 (fun v4 => ?_)
    exact fs_Jiret S hr hk rfl d_Flow_valueOf_63
  refine fs_sw (fun q9 => ?_) (fun q104 => ?_)
  · refine fs_lift (fun _ _ _ _ => lv_tableIn (off := 63) (tgt := 64) hx hb d_Flow_valueOf_1 (by rw [q9]; decide) (by rw [q9]; decide) (by rw [q9]; rfl) rfl) ?_
    refine fs_lift (fun _ _ _ _ => lv_aload_n hx hb d_Flow_valueOf_64 rfl (lv_at hl 0 rfl)) ?_
    refine fs_Jgi S hG fs_in8 rfl 5 (Nat.le_of_ble_eq_true rfl) tw_3_31 (fun _ h9 => h9) d_Flow_valueOf_65 (fun v5 => ?_)
    exact fs_Jiret S hr hk rfl d_Flow_valueOf_68
  refine fs_sw (fun q9 => ?_) (fun q105 => ?_)
  · refine fs_lift (fun _ _ _ _ => lv_tableIn (off := 68) (tgt := 69) hx hb d_Flow_valueOf_1 (by rw [q9]; decide) (by rw [q9]; decide) (by rw [q9]; rfl) rfl) ?_
    refine fs_lift (fun _ _ _ _ => lv_aload_n hx hb d_Flow_valueOf_69 rfl (lv_at hl 0 rfl)) ?_
    refine fs_Jgi S hG fs_in8 rfl 3 (Nat.le_of_ble_eq_true rfl) tw_3_29 (fun _ h9 => h9) d_Flow_valueOf_70 (fun v6 => ?_)
    exact fs_Jiret S hr hk rfl d_Flow_valueOf_73
  refine fs_sw (fun q9 => ?_) (fun q106 => ?_)
  · refine fs_lift (fun _ _ _ _ => lv_tableIn (off := 73) (tgt := 74) hx hb d_Flow_valueOf_1 (by rw [q9]; decide) (by rw [q9]; decide) (by rw [q9]; rfl) rfl) ?_
    refine fs_lift (fun _ _ _ _ => lv_aload_n hx hb d_Flow_valueOf_74 rfl (lv_at hl 0 rfl)) ?_
    refine fs_Jgi S hG fs_in8 rfl 7 (Nat.le_of_ble_eq_true rfl) tw_3_34 (fun _ h9 => h9) d_Flow_valueOf_75 (fun v7 => ?_)
    exact fs_Jiret S hr hk rfl d_Flow_valueOf_78
  refine fs_lift (fun _ _ _ _ => lv_tableOut (tgt := 79) hx hb d_Flow_valueOf_1 (fs_tout 6 (fun k hk => match k, hk with | 0, _ => q100 | 1, _ => q101 | 2, _ => q102 | 3, _ => q103 | 4, _ => q104 | 5, _ => q105 | 6, _ => q106 | n + 7, h => absurd h (by omega)) (by decide)) rfl) ?_
  refine fs_lift (fun _ _ _ _ => lv_aload_n hx hb d_Flow_valueOf_79 rfl (lv_at hl 0 rfl)) ?_
  refine fs_Jgi S hG fs_in8 rfl 8 (Nat.le_of_ble_eq_true rfl) tw_3_36 (fun _ h9 => h9) d_Flow_valueOf_80 (fun v8 => ?_)
  exact fs_Jiret S hr hk rfl d_Flow_valueOf_83
end
