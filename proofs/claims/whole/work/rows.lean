section
-- ===== PART A: goes FIRST, ahead of the names: the tables' words, and 'selects' of the private methods out of them =====
/-- a private method of a class that the tables say can be made, by its rows of tables_1 -/
def lw_okq (q : MethodName × Nat) : Prop := (q.1.cls ≠ "java/lang/invoke/MethodHandle" ∧ q.1.cls ≠ "java/lang/invoke/VarHandle") ∧ Cond.instantiable q.1.cls q.2 ∈ tables_1 ∧ Cond.privateMethod q.1 ∈ tables_1 ∧ Cond.instanceMethod q.1 ∈ tables_1
theorem lw_p0 : lw_okq (⟨"FlowShelf", "isReport", "(I)Z"⟩, 4) := ⟨⟨by decide +kernel, by decide +kernel⟩, List.mem_of_getElem? (i := 30) (by decide +kernel), List.mem_of_getElem? (i := 265) (by decide +kernel), List.mem_of_getElem? (i := 266) (by decide +kernel)⟩
theorem lw_p1 : lw_okq (⟨"FlowShelf", "exporterOf", "(I)LFlowShelf$Exporter;"⟩, 4) := ⟨⟨by decide +kernel, by decide +kernel⟩, List.mem_of_getElem? (i := 30) (by decide +kernel), List.mem_of_getElem? (i := 301) (by decide +kernel), List.mem_of_getElem? (i := 302) (by decide +kernel)⟩
theorem lw_p2 : lw_okq (⟨"java/lang/Throwable", "fillInStackTrace", "(I)Ljava/lang/Throwable;"⟩, 6) := ⟨⟨by decide +kernel, by decide +kernel⟩, List.mem_of_getElem? (i := 347) (by decide +kernel), List.mem_of_getElem? (i := 345) (by decide +kernel), List.mem_of_getElem? (i := 346) (by decide +kernel)⟩
theorem lw_p3 : lw_okq (⟨"java/util/ArrayList", "fastRemove", "([Ljava/lang/Object;I)V"⟩, 3) := ⟨⟨by decide +kernel, by decide +kernel⟩, List.mem_of_getElem? (i := 44) (by decide +kernel), List.mem_of_getElem? (i := 433) (by decide +kernel), List.mem_of_getElem? (i := 434) (by decide +kernel)⟩
theorem lw_p4 : lw_okq (⟨"java/util/ArrayList", "add", "(Ljava/lang/Object;[Ljava/lang/Object;I)V"⟩, 3) := ⟨⟨by decide +kernel, by decide +kernel⟩, List.mem_of_getElem? (i := 44) (by decide +kernel), List.mem_of_getElem? (i := 444) (by decide +kernel), List.mem_of_getElem? (i := 445) (by decide +kernel)⟩
theorem lw_p5 : lw_okq (⟨"java/util/ArrayList", "grow", "()[Ljava/lang/Object;"⟩, 3) := ⟨⟨by decide +kernel, by decide +kernel⟩, List.mem_of_getElem? (i := 44) (by decide +kernel), List.mem_of_getElem? (i := 448) (by decide +kernel), List.mem_of_getElem? (i := 449) (by decide +kernel)⟩
theorem lw_p6 : lw_okq (⟨"java/util/ArrayList", "grow", "(I)[Ljava/lang/Object;"⟩, 3) := ⟨⟨by decide +kernel, by decide +kernel⟩, List.mem_of_getElem? (i := 44) (by decide +kernel), List.mem_of_getElem? (i := 452) (by decide +kernel), List.mem_of_getElem? (i := 453) (by decide +kernel)⟩
theorem lw_p7 : lw_okq (⟨"FlowShelf", "slotOf", "(II)LFlowShelf$Slot;"⟩, 4) := ⟨⟨by decide +kernel, by decide +kernel⟩, List.mem_of_getElem? (i := 30) (by decide +kernel), List.mem_of_getElem? (i := 621) (by decide +kernel), List.mem_of_getElem? (i := 622) (by decide +kernel)⟩
theorem lw_p8 : lw_okq (⟨"FlowShelf", "hasNoRoomForReport", "()Z"⟩, 4) := ⟨⟨by decide +kernel, by decide +kernel⟩, List.mem_of_getElem? (i := 30) (by decide +kernel), List.mem_of_getElem? (i := 691) (by decide +kernel), List.mem_of_getElem? (i := 692) (by decide +kernel)⟩
theorem lw_p9 : lw_okq (⟨"FlowShelf", "keep", "(LFlowShelf$Report;)I"⟩, 4) := ⟨⟨by decide +kernel, by decide +kernel⟩, List.mem_of_getElem? (i := 30) (by decide +kernel), List.mem_of_getElem? (i := 721) (by decide +kernel), List.mem_of_getElem? (i := 722) (by decide +kernel)⟩
theorem lw_p10 : lw_okq (⟨"FlowShelf", "reportWithByte", "(II)LFlowShelf$Report;"⟩, 4) := ⟨⟨by decide +kernel, by decide +kernel⟩, List.mem_of_getElem? (i := 30) (by decide +kernel), List.mem_of_getElem? (i := 789) (by decide +kernel), List.mem_of_getElem? (i := 790) (by decide +kernel)⟩
theorem lw_p11 : lw_okq (⟨"FlowShelf", "reportOf", "(I)LFlowShelf$Report;"⟩, 4) := ⟨⟨by decide +kernel, by decide +kernel⟩, List.mem_of_getElem? (i := 30) (by decide +kernel), List.mem_of_getElem? (i := 793) (by decide +kernel), List.mem_of_getElem? (i := 794) (by decide +kernel)⟩
theorem lw_p12 : lw_okq (⟨"FlowShelf", "requireRow", "(I)V"⟩, 4) := ⟨⟨by decide +kernel, by decide +kernel⟩, List.mem_of_getElem? (i := 30) (by decide +kernel), List.mem_of_getElem? (i := 1057) (by decide +kernel), List.mem_of_getElem? (i := 1058) (by decide +kernel)⟩
theorem lw_p13 : lw_okq (⟨"FlowShelfModel", "noExporter", "(I)Z"⟩, 50) := ⟨⟨by decide +kernel, by decide +kernel⟩, List.mem_of_getElem? (i := 1147) (by decide +kernel), List.mem_of_getElem? (i := 1312) (by decide +kernel), List.mem_of_getElem? (i := 1313) (by decide +kernel)⟩
theorem lw_p14 : lw_okq (⟨"FlowShelfModel", "noByte", "(I)Z"⟩, 50) := ⟨⟨by decide +kernel, by decide +kernel⟩, List.mem_of_getElem? (i := 1147) (by decide +kernel), List.mem_of_getElem? (i := 1316) (by decide +kernel), List.mem_of_getElem? (i := 1317) (by decide +kernel)⟩
theorem lw_p15 : lw_okq (⟨"FlowShelfModel", "flowOf", "(II)I"⟩, 50) := ⟨⟨by decide +kernel, by decide +kernel⟩, List.mem_of_getElem? (i := 1147) (by decide +kernel), List.mem_of_getElem? (i := 1320) (by decide +kernel), List.mem_of_getElem? (i := 1321) (by decide +kernel)⟩
def lw_privs_1 : List (MethodName × Nat) := [(⟨"FlowShelf", "isReport", "(I)Z"⟩, 4), (⟨"FlowShelf", "exporterOf", "(I)LFlowShelf$Exporter;"⟩, 4), (⟨"java/lang/Throwable", "fillInStackTrace", "(I)Ljava/lang/Throwable;"⟩, 6), (⟨"java/util/ArrayList", "fastRemove", "([Ljava/lang/Object;I)V"⟩, 3), (⟨"java/util/ArrayList", "add", "(Ljava/lang/Object;[Ljava/lang/Object;I)V"⟩, 3), (⟨"java/util/ArrayList", "grow", "()[Ljava/lang/Object;"⟩, 3), (⟨"java/util/ArrayList", "grow", "(I)[Ljava/lang/Object;"⟩, 3), (⟨"FlowShelf", "slotOf", "(II)LFlowShelf$Slot;"⟩, 4), (⟨"FlowShelf", "hasNoRoomForReport", "()Z"⟩, 4), (⟨"FlowShelf", "keep", "(LFlowShelf$Report;)I"⟩, 4), (⟨"FlowShelf", "reportWithByte", "(II)LFlowShelf$Report;"⟩, 4), (⟨"FlowShelf", "reportOf", "(I)LFlowShelf$Report;"⟩, 4), (⟨"FlowShelf", "requireRow", "(I)V"⟩, 4), (⟨"FlowShelfModel", "noExporter", "(I)Z"⟩, 50), (⟨"FlowShelfModel", "noByte", "(I)Z"⟩, 50), (⟨"FlowShelfModel", "flowOf", "(II)I"⟩, 50)]
theorem lw_r1 : ∀ q ∈ lw_privs_1, lw_okq q := List.forall_mem_cons.mpr ⟨lw_p0, List.forall_mem_cons.mpr ⟨lw_p1, List.forall_mem_cons.mpr ⟨lw_p2, List.forall_mem_cons.mpr ⟨lw_p3, List.forall_mem_cons.mpr ⟨lw_p4, List.forall_mem_cons.mpr ⟨lw_p5, List.forall_mem_cons.mpr ⟨lw_p6, List.forall_mem_cons.mpr ⟨lw_p7, List.forall_mem_cons.mpr ⟨lw_p8, List.forall_mem_cons.mpr ⟨lw_p9, List.forall_mem_cons.mpr ⟨lw_p10, List.forall_mem_cons.mpr ⟨lw_p11, List.forall_mem_cons.mpr ⟨lw_p12, List.forall_mem_cons.mpr ⟨lw_p13, List.forall_mem_cons.mpr ⟨lw_p14, List.forall_mem_cons.mpr ⟨lw_p15, fun _ h => absurd h List.not_mem_nil⟩⟩⟩⟩⟩⟩⟩⟩⟩⟩⟩⟩⟩⟩⟩⟩
theorem lw_p16 : lw_okq (⟨"FlowShelfModel", "end", "(III)V"⟩, 50) := ⟨⟨by decide +kernel, by decide +kernel⟩, List.mem_of_getElem? (i := 1147) (by decide +kernel), List.mem_of_getElem? (i := 1324) (by decide +kernel), List.mem_of_getElem? (i := 1325) (by decide +kernel)⟩
theorem lw_p17 : lw_okq (⟨"FlowShelfModel", "noTemplate", "(II)Z"⟩, 50) := ⟨⟨by decide +kernel, by decide +kernel⟩, List.mem_of_getElem? (i := 1147) (by decide +kernel), List.mem_of_getElem? (i := 1348) (by decide +kernel), List.mem_of_getElem? (i := 1349) (by decide +kernel)⟩
theorem lw_p18 : lw_okq (⟨"FlowShelfModel", "leastOf", "(I)I"⟩, 50) := ⟨⟨by decide +kernel, by decide +kernel⟩, List.mem_of_getElem? (i := 1147) (by decide +kernel), List.mem_of_getElem? (i := 1352) (by decide +kernel), List.mem_of_getElem? (i := 1353) (by decide +kernel)⟩
theorem lw_p19 : lw_okq (⟨"FlowShelfModel", "head", "(II)V"⟩, 50) := ⟨⟨by decide +kernel, by decide +kernel⟩, List.mem_of_getElem? (i := 1147) (by decide +kernel), List.mem_of_getElem? (i := 1372) (by decide +kernel), List.mem_of_getElem? (i := 1373) (by decide +kernel)⟩
theorem lw_p20 : lw_okq (⟨"FlowShelfModel", "write", "(I)V"⟩, 50) := ⟨⟨by decide +kernel, by decide +kernel⟩, List.mem_of_getElem? (i := 1147) (by decide +kernel), List.mem_of_getElem? (i := 1376) (by decide +kernel), List.mem_of_getElem? (i := 1377) (by decide +kernel)⟩
theorem lw_p21 : lw_okq (⟨"FlowShelfModel", "last", "(I)I"⟩, 50) := ⟨⟨by decide +kernel, by decide +kernel⟩, List.mem_of_getElem? (i := 1147) (by decide +kernel), List.mem_of_getElem? (i := 1384) (by decide +kernel), List.mem_of_getElem? (i := 1385) (by decide +kernel)⟩
theorem lw_p22 : lw_okq (⟨"FlowShelfModel", "recordOf", "(III)I"⟩, 50) := ⟨⟨by decide +kernel, by decide +kernel⟩, List.mem_of_getElem? (i := 1147) (by decide +kernel), List.mem_of_getElem? (i := 1388) (by decide +kernel), List.mem_of_getElem? (i := 1389) (by decide +kernel)⟩
theorem lw_p23 : lw_okq (⟨"FlowShelfModel", "widthOf", "(I)I"⟩, 50) := ⟨⟨by decide +kernel, by decide +kernel⟩, List.mem_of_getElem? (i := 1147) (by decide +kernel), List.mem_of_getElem? (i := 1392) (by decide +kernel), List.mem_of_getElem? (i := 1393) (by decide +kernel)⟩
theorem lw_p24 : lw_okq (⟨"FlowShelfModel", "writeRecord", "(III)V"⟩, 50) := ⟨⟨by decide +kernel, by decide +kernel⟩, List.mem_of_getElem? (i := 1147) (by decide +kernel), List.mem_of_getElem? (i := 1398) (by decide +kernel), List.mem_of_getElem? (i := 1399) (by decide +kernel)⟩
theorem lw_p25 : lw_okq (⟨"FlowShelfModel", "noReport", "(I)Z"⟩, 50) := ⟨⟨by decide +kernel, by decide +kernel⟩, List.mem_of_getElem? (i := 1147) (by decide +kernel), List.mem_of_getElem? (i := 1410) (by decide +kernel), List.mem_of_getElem? (i := 1411) (by decide +kernel)⟩
theorem lw_p26 : lw_okq (⟨"FlowShelfModel", "isBad", "()Z"⟩, 50) := ⟨⟨by decide +kernel, by decide +kernel⟩, List.mem_of_getElem? (i := 1147) (by decide +kernel), List.mem_of_getElem? (i := 1426) (by decide +kernel), List.mem_of_getElem? (i := 1427) (by decide +kernel)⟩
theorem lw_p27 : lw_okq (⟨"FlowShelfModel", "badFields", "()Z"⟩, 50) := ⟨⟨by decide +kernel, by decide +kernel⟩, List.mem_of_getElem? (i := 1147) (by decide +kernel), List.mem_of_getElem? (i := 1430) (by decide +kernel), List.mem_of_getElem? (i := 1431) (by decide +kernel)⟩
theorem lw_p28 : lw_okq (⟨"FlowShelfModel", "hearTemplate", "()I"⟩, 50) := ⟨⟨by decide +kernel, by decide +kernel⟩, List.mem_of_getElem? (i := 1147) (by decide +kernel), List.mem_of_getElem? (i := 1434) (by decide +kernel), List.mem_of_getElem? (i := 1435) (by decide +kernel)⟩
theorem lw_p29 : lw_okq (⟨"FlowShelfModel", "nameOf", "()I"⟩, 50) := ⟨⟨by decide +kernel, by decide +kernel⟩, List.mem_of_getElem? (i := 1147) (by decide +kernel), List.mem_of_getElem? (i := 1438) (by decide +kernel), List.mem_of_getElem? (i := 1439) (by decide +kernel)⟩
theorem lw_p30 : lw_okq (⟨"FlowShelfModel", "find", "(I)I"⟩, 50) := ⟨⟨by decide +kernel, by decide +kernel⟩, List.mem_of_getElem? (i := 1147) (by decide +kernel), List.mem_of_getElem? (i := 1442) (by decide +kernel), List.mem_of_getElem? (i := 1443) (by decide +kernel)⟩
theorem lw_p31 : lw_okq (⟨"FlowShelfModel", "waiting", "(I)I"⟩, 50) := ⟨⟨by decide +kernel, by decide +kernel⟩, List.mem_of_getElem? (i := 1147) (by decide +kernel), List.mem_of_getElem? (i := 1446) (by decide +kernel), List.mem_of_getElem? (i := 1447) (by decide +kernel)⟩
def lw_privs_2 : List (MethodName × Nat) := [(⟨"FlowShelfModel", "end", "(III)V"⟩, 50), (⟨"FlowShelfModel", "noTemplate", "(II)Z"⟩, 50), (⟨"FlowShelfModel", "leastOf", "(I)I"⟩, 50), (⟨"FlowShelfModel", "head", "(II)V"⟩, 50), (⟨"FlowShelfModel", "write", "(I)V"⟩, 50), (⟨"FlowShelfModel", "last", "(I)I"⟩, 50), (⟨"FlowShelfModel", "recordOf", "(III)I"⟩, 50), (⟨"FlowShelfModel", "widthOf", "(I)I"⟩, 50), (⟨"FlowShelfModel", "writeRecord", "(III)V"⟩, 50), (⟨"FlowShelfModel", "noReport", "(I)Z"⟩, 50), (⟨"FlowShelfModel", "isBad", "()Z"⟩, 50), (⟨"FlowShelfModel", "badFields", "()Z"⟩, 50), (⟨"FlowShelfModel", "hearTemplate", "()I"⟩, 50), (⟨"FlowShelfModel", "nameOf", "()I"⟩, 50), (⟨"FlowShelfModel", "find", "(I)I"⟩, 50), (⟨"FlowShelfModel", "waiting", "(I)I"⟩, 50)]
theorem lw_r2 : ∀ q ∈ lw_privs_2, lw_okq q := List.forall_mem_cons.mpr ⟨lw_p16, List.forall_mem_cons.mpr ⟨lw_p17, List.forall_mem_cons.mpr ⟨lw_p18, List.forall_mem_cons.mpr ⟨lw_p19, List.forall_mem_cons.mpr ⟨lw_p20, List.forall_mem_cons.mpr ⟨lw_p21, List.forall_mem_cons.mpr ⟨lw_p22, List.forall_mem_cons.mpr ⟨lw_p23, List.forall_mem_cons.mpr ⟨lw_p24, List.forall_mem_cons.mpr ⟨lw_p25, List.forall_mem_cons.mpr ⟨lw_p26, List.forall_mem_cons.mpr ⟨lw_p27, List.forall_mem_cons.mpr ⟨lw_p28, List.forall_mem_cons.mpr ⟨lw_p29, List.forall_mem_cons.mpr ⟨lw_p30, List.forall_mem_cons.mpr ⟨lw_p31, fun _ h => absurd h List.not_mem_nil⟩⟩⟩⟩⟩⟩⟩⟩⟩⟩⟩⟩⟩⟩⟩⟩
theorem lw_p32 : lw_okq (⟨"FlowShelfModel", "fetch", "(I)V"⟩, 50) := ⟨⟨by decide +kernel, by decide +kernel⟩, List.mem_of_getElem? (i := 1147) (by decide +kernel), List.mem_of_getElem? (i := 1450) (by decide +kernel), List.mem_of_getElem? (i := 1451) (by decide +kernel)⟩
theorem lw_p33 : lw_okq (⟨"FlowShelfModel", "makeRows", "(I)I"⟩, 50) := ⟨⟨by decide +kernel, by decide +kernel⟩, List.mem_of_getElem? (i := 1147) (by decide +kernel), List.mem_of_getElem? (i := 1454) (by decide +kernel), List.mem_of_getElem? (i := 1455) (by decide +kernel)⟩
theorem lw_p34 : lw_okq (⟨"FlowShelfModel", "read", "(IZ)Z"⟩, 50) := ⟨⟨by decide +kernel, by decide +kernel⟩, List.mem_of_getElem? (i := 1147) (by decide +kernel), List.mem_of_getElem? (i := 1458) (by decide +kernel), List.mem_of_getElem? (i := 1459) (by decide +kernel)⟩
theorem lw_p35 : lw_okq (⟨"FlowShelfModel", "take", "(I)J"⟩, 50) := ⟨⟨by decide +kernel, by decide +kernel⟩, List.mem_of_getElem? (i := 1147) (by decide +kernel), List.mem_of_getElem? (i := 1463) (by decide +kernel), List.mem_of_getElem? (i := 1464) (by decide +kernel)⟩
theorem lw_p36 : lw_okq (⟨"FlowShelfModel", "unshelve", "(I)V"⟩, 50) := ⟨⟨by decide +kernel, by decide +kernel⟩, List.mem_of_getElem? (i := 1147) (by decide +kernel), List.mem_of_getElem? (i := 1468) (by decide +kernel), List.mem_of_getElem? (i := 1469) (by decide +kernel)⟩
theorem lw_p37 : lw_okq (⟨"FlowShelfModel", "hearRecords", "()I"⟩, 50) := ⟨⟨by decide +kernel, by decide +kernel⟩, List.mem_of_getElem? (i := 1147) (by decide +kernel), List.mem_of_getElem? (i := 1472) (by decide +kernel), List.mem_of_getElem? (i := 1473) (by decide +kernel)⟩
theorem lw_p38 : lw_okq (⟨"FlowShelfModel", "firstLeft", "()I"⟩, 50) := ⟨⟨by decide +kernel, by decide +kernel⟩, List.mem_of_getElem? (i := 1147) (by decide +kernel), List.mem_of_getElem? (i := 1492) (by decide +kernel), List.mem_of_getElem? (i := 1493) (by decide +kernel)⟩
theorem lw_p39 : lw_okq (⟨"FlowShelfModel", "isWhole", "(I)Z"⟩, 50) := ⟨⟨by decide +kernel, by decide +kernel⟩, List.mem_of_getElem? (i := 1147) (by decide +kernel), List.mem_of_getElem? (i := 1496) (by decide +kernel), List.mem_of_getElem? (i := 1497) (by decide +kernel)⟩
theorem lw_p40 : lw_okq (⟨"FlowShelfModel", "pairOne", "(I)V"⟩, 50) := ⟨⟨by decide +kernel, by decide +kernel⟩, List.mem_of_getElem? (i := 1147) (by decide +kernel), List.mem_of_getElem? (i := 1500) (by decide +kernel), List.mem_of_getElem? (i := 1501) (by decide +kernel)⟩
theorem lw_p41 : lw_okq (⟨"FlowShelfModel", "isBack", "(II)Z"⟩, 50) := ⟨⟨by decide +kernel, by decide +kernel⟩, List.mem_of_getElem? (i := 1147) (by decide +kernel), List.mem_of_getElem? (i := 1504) (by decide +kernel), List.mem_of_getElem? (i := 1505) (by decide +kernel)⟩
theorem lw_p42 : lw_okq (⟨"FlowShelfModel", "farness", "(II)J"⟩, 50) := ⟨⟨by decide +kernel, by decide +kernel⟩, List.mem_of_getElem? (i := 1147) (by decide +kernel), List.mem_of_getElem? (i := 1508) (by decide +kernel), List.mem_of_getElem? (i := 1509) (by decide +kernel)⟩
theorem lw_p43 : lw_okq (⟨"FlowShelfModel", "lostOf", "(I)I"⟩, 50) := ⟨⟨by decide +kernel, by decide +kernel⟩, List.mem_of_getElem? (i := 1147) (by decide +kernel), List.mem_of_getElem? (i := 1516) (by decide +kernel), List.mem_of_getElem? (i := 1517) (by decide +kernel)⟩
def lw_privs_3 : List (MethodName × Nat) := [(⟨"FlowShelfModel", "fetch", "(I)V"⟩, 50), (⟨"FlowShelfModel", "makeRows", "(I)I"⟩, 50), (⟨"FlowShelfModel", "read", "(IZ)Z"⟩, 50), (⟨"FlowShelfModel", "take", "(I)J"⟩, 50), (⟨"FlowShelfModel", "unshelve", "(I)V"⟩, 50), (⟨"FlowShelfModel", "hearRecords", "()I"⟩, 50), (⟨"FlowShelfModel", "firstLeft", "()I"⟩, 50), (⟨"FlowShelfModel", "isWhole", "(I)Z"⟩, 50), (⟨"FlowShelfModel", "pairOne", "(I)V"⟩, 50), (⟨"FlowShelfModel", "isBack", "(II)Z"⟩, 50), (⟨"FlowShelfModel", "farness", "(II)J"⟩, 50), (⟨"FlowShelfModel", "lostOf", "(I)I"⟩, 50)]
theorem lw_r3 : ∀ q ∈ lw_privs_3, lw_okq q := List.forall_mem_cons.mpr ⟨lw_p32, List.forall_mem_cons.mpr ⟨lw_p33, List.forall_mem_cons.mpr ⟨lw_p34, List.forall_mem_cons.mpr ⟨lw_p35, List.forall_mem_cons.mpr ⟨lw_p36, List.forall_mem_cons.mpr ⟨lw_p37, List.forall_mem_cons.mpr ⟨lw_p38, List.forall_mem_cons.mpr ⟨lw_p39, List.forall_mem_cons.mpr ⟨lw_p40, List.forall_mem_cons.mpr ⟨lw_p41, List.forall_mem_cons.mpr ⟨lw_p42, List.forall_mem_cons.mpr ⟨lw_p43, fun _ h => absurd h List.not_mem_nil⟩⟩⟩⟩⟩⟩⟩⟩⟩⟩⟩⟩
def lw_privs : List (MethodName × Nat) := lw_privs_1 ++ (lw_privs_2 ++ (lw_privs_3))
def lw_tbl : List Cond := k2_sels lw_privs ++ tables_1
theorem lw_privs_ok : ∀ q ∈ lw_privs, lw_okq q := by
  show ∀ q ∈ lw_privs_1 ++ (lw_privs_2 ++ (lw_privs_3)), lw_okq q
  exact List.forall_mem_append.mpr ⟨lw_r1, List.forall_mem_append.mpr ⟨lw_r2, lw_r3⟩⟩
end
section
/-! The abstract heap, and programs over it. A cell: an array (its kind, length, contents) or an object (its class's place, fields). -/
abbrev fs_E : Type := (Nat × vp_A) ⊕ (Nat × List Value)
abbrev fs_M : Type := Nat → Option fs_E
/-- live cells; constant cells; addresses of constants; how many cells the heap has; how many slots were made -/
abbrev fs_S : Type := fs_M × fs_M × (Nat → Nat) × Nat × Nat
abbrev fs_m (s : fs_S) : fs_M := s.1
abbrev fs_k (s : fs_S) : fs_M := s.2.1
abbrev fs_c (s : fs_S) : Nat → Nat := s.2.2.1
abbrev fs_n (s : fs_S) : Nat := s.2.2.2.1
abbrev fs_u (s : fs_S) : Nat := s.2.2.2.2
def fs_le (a b : fs_S) : Prop := fs_n a ≤ fs_n b ∧ fs_u a ≤ fs_u b
theorem fs_le.rf (a : fs_S) : fs_le a a := ⟨Nat.le_refl _, Nat.le_refl _⟩
theorem fs_le.tr {a b c : fs_S} (h : fs_le a b) (k : fs_le b c) : fs_le a c := ⟨Nat.le_trans h.1 k.1, Nat.le_trans h.2 k.2⟩
def fs_up (M : fs_M) (a : Nat) (e : fs_E) : fs_M := fun b => if b = a then some e else M b
def fs_lk (s : fs_S) (a : Nat) : Option fs_E := match fs_m s a with
  | some e => some e
  | none => fs_k s a
/-- a program: it may fail; it never gives room back -/
abbrev fs_T (α : Type) : Type := { f : fs_S → Option (α × fs_S) // ∀ s a t, f s = some (a, t) → fs_le s t }
def fs_ret {α : Type} (a : α) : fs_T α := ⟨fun s => some (a, s), fun s b t h => by cases h; exact fs_le.rf s⟩
def fs_fail {α : Type} : fs_T α := ⟨fun _ => none, fun _ _ _ h => by cases h⟩
theorem fs_bd {α β : Type} {x : Option α} {f : α → Option β} {r : β} (h : x.bind f = some r) : ∃ v, x = some v ∧ f v = some r := by
  cases x with
  | none => cases h
  | some v => exact ⟨v, rfl, h⟩
def fs_bind {α β : Type} (x : fs_T α) (k : α → fs_T β) : fs_T β := ⟨fun s => (x.1 s).bind fun q => (k q.1).1 q.2, fun s b t h => by
  obtain ⟨⟨v, s1⟩, h1, h2⟩ := fs_bd h
  exact (x.2 s v s1 h1).tr ((k v).2 s1 b t h2)⟩
/-- a call of what may throw: the exception goes on -/
def fs_bindx {α β : Type} (x : fs_T (α ⊕ String)) (k : α → fs_T (β ⊕ String)) : fs_T (β ⊕ String) := fs_bind x fun r => match r with
  | .inl v => k v
  | .inr e => fs_ret (.inr e)
/-- .. it is caught -/
def fs_try {α β : Type} (x : fs_T (α ⊕ String)) (k : α → fs_T β) (h : String → fs_T β) : fs_T β := fs_bind x fun r => match r with
  | .inl v => k v
  | .inr e => h e
def fs_nm {α β : Type} (x : α) (k : α → fs_T β) : fs_T β := k x
def fs_let {α β : Type} (x : α) (k : α → fs_T β) : fs_T β := k x
def fs_lp1 {A α : Type} (n : Nat) (b : (A → fs_T α) → A → fs_T α) : A → fs_T α := match n with
  | 0 => fun _ => fs_fail
  | n + 1 => b (fs_lp1 n b)
def fs_lp2 {A B α : Type} (n : Nat) (b : (A → B → fs_T α) → A → B → fs_T α) : A → B → fs_T α := match n with
  | 0 => fun _ _ => fs_fail
  | n + 1 => b (fs_lp2 n b)
def fs_lp3 {A B C α : Type} (n : Nat) (b : (A → B → C → fs_T α) → A → B → C → fs_T α) : A → B → C → fs_T α := match n with
  | 0 => fun _ _ _ => fs_fail
  | n + 1 => b (fs_lp3 n b)
def fs_lp4 {A B C D α : Type} (n : Nat) (b : (A → B → C → D → fs_T α) → A → B → C → D → fs_T α) : A → B → C → D → fs_T α := match n with
  | 0 => fun _ _ _ _ => fs_fail
  | n + 1 => b (fs_lp4 n b)
/-- reading a cell, live or constant -/
def fs_rd {α : Type} (a : Nat) (g : fs_E → Option α) : fs_T α := ⟨fun s => ((fs_lk s a).bind g).map fun v => (v, s), fun s b t h => by
  dsimp only at h
  cases h1 : (fs_lk s a).bind g with
  | none => rw [h1] at h; cases h
  | some v => rw [h1] at h; cases h; exact fs_le.rf s⟩
/-- reading a live cell -/
def fs_rdm {α : Type} (a : Nat) (g : fs_E → Option α) : fs_T α := ⟨fun s => ((fs_m s a).bind g).map fun v => (v, s), fun s b t h => by
  dsimp only at h
  cases h1 : (fs_m s a).bind g with
  | none => rw [h1] at h; cases h
  | some v => rw [h1] at h; cases h; exact fs_le.rf s⟩
/-- writing a live cell -/
def fs_wr (a : Nat) (g : fs_E → Option fs_E) : fs_T Unit := ⟨fun s => ((fs_m s a).bind g).map fun e => ((), (fs_up (fs_m s) a e, s.2)), fun s b t h => by
  dsimp only at h
  cases h1 : (fs_m s a).bind g with
  | none => rw [h1] at h; cases h
  | some v => rw [h1] at h; cases h; exact fs_le.rf s⟩
/-- making a cell -/
def fs_mk (e : fs_E) (w : Nat) : fs_T Nat := ⟨fun s => some (fs_n s, (fs_up (fs_m s) (fs_n s) e, fs_k s, fs_c s, fs_n s + 1, fs_u s + w)), fun s b t h => by
  cases h; exact ⟨Nat.le_add_right _ _, Nat.le_add_right _ _⟩⟩
/-- an exception is made and thrown -/
def fs_throw {α : Type} (c : String) : fs_T (α ⊕ String) := ⟨fun s => some (.inr c, (fs_m s, fs_k s, fs_c s, fs_n s + 1, fs_u s + 6)), fun s b t h => by
  cases h; exact ⟨Nat.le_add_right _ _, Nat.le_add_right _ _⟩⟩
def fs_chk (p : Prop) [Decidable p] : fs_T Unit := if p then fs_ret () else fs_fail
/-! what is read of a cell -/
def fs_fI (ci k : Nat) (e : fs_E) : Option Int32 := match e with
  | .inr (c, fs) => if c = ci then (match fs[k]? with
    | some (.int v) => some v
    | _ => none) else none
  | .inl _ => none
def fs_fJ (ci k : Nat) (e : fs_E) : Option Int64 := match e with
  | .inr (c, fs) => if c = ci then (match fs[k]? with
    | some (.long v) => some v
    | _ => none) else none
  | .inl _ => none
def fs_fR (ci k : Nat) (e : fs_E) : Option Nat := match e with
  | .inr (c, fs) => if c = ci then (match fs[k]? with
    | some (.ref v) => some v
    | _ => none) else none
  | .inl _ => none
def fs_fP (ci k : Nat) (v : Value) (e : fs_E) : Option fs_E := match e with
  | .inr (c, fs) => if c = ci ∧ k < fs.length then some (.inr (c, fs.set k v)) else none
  | .inl _ => none
/-- kinds of arrays: 0 int[], 1 long[], 2 boolean[], 3 Object[], 4 Slot[] -/
def fs_xI (t : Nat) (i : Int32) (e : fs_E) : Option Int32 := match e with
  | .inl (u, n, .inl f) => if u = t ∧ ¬ (i < 0 ∨ n ≤ i.toNatClampNeg) then some (f i.toNatClampNeg) else none
  | _ => none
def fs_xJ (t : Nat) (i : Int32) (e : fs_E) : Option Int64 := match e with
  | .inl (u, n, .inr (.inl f)) => if u = t ∧ ¬ (i < 0 ∨ n ≤ i.toNatClampNeg) then some (f i.toNatClampNeg) else none
  | _ => none
def fs_xR (i : Int32) (e : fs_E) : Option Nat := match e with
  | .inl (u, n, .inr (.inr (.inr (.inr f)))) => if (u = 3 ∨ u = 4) ∧ ¬ (i < 0 ∨ n ≤ i.toNatClampNeg) then f i.toNatClampNeg else none
  | _ => none
def fs_xL (e : fs_E) : Option Int32 := match e with
  | .inl (t, n, _) => if t < 5 then some (Int32.ofNat n) else none
  | .inr _ => none
def fs_yI (t : Nat) (i v : Int32) (e : fs_E) : Option fs_E := match e with
  | .inl (u, n, .inl f) => if u = t ∧ ¬ (i < 0 ∨ n ≤ i.toNatClampNeg) then some (.inl (u, n, .inl (upd f i.toNatClampNeg v))) else none
  | _ => none
def fs_yJ (t : Nat) (i : Int32) (v : Int64) (e : fs_E) : Option fs_E := match e with
  | .inl (u, n, .inr (.inl f)) => if u = t ∧ ¬ (i < 0 ∨ n ≤ i.toNatClampNeg) then some (.inl (u, n, .inr (.inl (vp_updL f i.toNatClampNeg v)))) else none
  | _ => none
def fs_y0 (i : Int32) (e : fs_E) : Option fs_E := match e with
  | .inl (u, n, .inr (.inr (.inr (.inr f)))) => if u = 3 ∧ ¬ (i < 0 ∨ n ≤ i.toNatClampNeg) then some (.inl (u, n, .inr (.inr (.inr (.inr (va_up f i.toNatClampNeg none)))))) else none
  | _ => none
/-! the instructions -/
def fs_gi (a ci k : Nat) : fs_T Int32 := fs_rd a (fs_fI ci k)
def fs_gj (a ci k : Nat) : fs_T Int64 := fs_rd a (fs_fJ ci k)
def fs_gr (a ci k : Nat) : fs_T Nat := fs_rd a (fs_fR ci k)
def fs_pi (a ci k : Nat) (v : Int32) : fs_T Unit := fs_wr a (fs_fP ci k (.int v))
def fs_pj (a ci k : Nat) (v : Int64) : fs_T Unit := fs_wr a (fs_fP ci k (.long v))
def fs_pr (a ci k : Nat) (v : Nat) : fs_T Unit := fs_wr a (fs_fP ci k (.ref v))
def fs_pz (a ci k : Nat) (v : Int32) : fs_T Unit := if v = 0 ∨ v = 1 then fs_wr a (fs_fP ci k (.int v)) else fs_fail
def fs_ai (a : Nat) (i : Int32) : fs_T Int32 := fs_rd a (fs_xI 0 i)
def fs_az (a : Nat) (i : Int32) : fs_T Int32 := fs_rd a (fs_xI 2 i)
def fs_aj (a : Nat) (i : Int32) : fs_T Int64 := fs_rd a (fs_xJ 1 i)
def fs_ar (a : Nat) (i : Int32) : fs_T Nat := fs_rd a (fs_xR i)
def fs_al (a : Nat) : fs_T Int32 := fs_rd a fs_xL
def fs_si (a : Nat) (i v : Int32) : fs_T Unit := fs_wr a (fs_yI 0 i v)
def fs_sz (a : Nat) (i v : Int32) : fs_T Unit := if v = 0 ∨ v = 1 then fs_wr a (fs_yI 2 i v) else fs_fail
def fs_sj (a : Nat) (i : Int32) (v : Int64) : fs_T Unit := fs_wr a (fs_yJ 1 i v)
/-- a reference is stored: into Object[] any object, into Slot[] a Slot -/
def fs_oc (e : fs_E) : Option Nat := match e with
  | .inr (c, _) => some c
  | .inl _ => none
def fs_yC (i : Int32) (c v : Nat) (e : fs_E) : Option fs_E := match e with
  | .inl (u, n, .inr (.inr (.inr (.inr f)))) => if (u = 3 ∧ c ≠ 2 ∨ u = 4 ∧ c = 3) ∧ ¬ (i < 0 ∨ n ≤ i.toNatClampNeg) then some (.inl (u, n, .inr (.inr (.inr (.inr (va_up f i.toNatClampNeg (some v))))))) else none
  | _ => none
def fs_sr (a : Nat) (i : Int32) (v : Nat) : fs_T Unit := fs_bind (fs_rd v fs_oc) fun c => fs_wr a (fs_yC i c v)
def fs_s0 (a : Nat) (i : Int32) : fs_T Unit := fs_wr a (fs_y0 i)
def fs_ni (n : Int32) : fs_T Nat := if ¬ n < 0 ∧ n.toNatClampNeg ≤ 65536 then fs_mk (.inl (0, n.toNatClampNeg, .inl fun _ => 0)) n.toNatClampNeg else fs_fail
def fs_nj (n : Int32) : fs_T Nat := if ¬ n < 0 ∧ n.toNatClampNeg ≤ 65536 then fs_mk (.inl (1, n.toNatClampNeg, .inr (.inl fun _ => 0))) n.toNatClampNeg else fs_fail
def fs_nz (n : Int32) : fs_T Nat := if ¬ n < 0 ∧ n.toNatClampNeg ≤ 65536 then fs_mk (.inl (2, n.toNatClampNeg, .inl fun _ => 0)) n.toNatClampNeg else fs_fail
def fs_nr (t : Nat) (n : Int32) : fs_T Nat := if ¬ n < 0 ∧ n.toNatClampNeg ≤ 65536 then fs_mk (.inl (t, n.toNatClampNeg, .inr (.inr (.inr (.inr fun _ => none))))) n.toNatClampNeg else fs_fail
def fs_ck (a ci : Nat) : fs_T Unit := fs_rd a fun e => match e with
  | .inr (c, _) => if c = ci then some () else none
  | .inl _ => none
def fs_gs (i : Nat) : fs_T Nat := ⟨fun s => some (fs_c s i, s), fun s b t h => by cases h; exact fs_le.rf s⟩
def fs_rem (x y : Int32) : fs_T Int32 := if y = 0 then fs_fail else fs_ret (x - x / y * y)
def fs_rz (v : Int32) : fs_T Int32 := if v = 0 ∨ v = 1 then fs_ret v else fs_fail
def fs_rzx (v : Int32) : fs_T (Int32 ⊕ String) := if v = 0 ∨ v = 1 then fs_ret (.inl v) else fs_fail
def fs_ushr (x y : Int32) : Int32 := (x.toUInt32 >>> (y.toUInt32 &&& Int32.toUInt32 31)).toInt32
def fs_lshl (x : Int64) (y : Int32) : Int64 := x <<< (y.toInt64 &&& 63)
def fs_dv (d : String) : Value := if d = "J" then .long 0 else if d = "I" ∨ d = "Z" then .int 0 else .null
/-- an object with its fields as they are made -/
def fs_nw (ci : Nat) (ds : List Value) : fs_T Nat := fs_mk (.inr (ci, ds)) ds.length
def fs_ca (a : Nat) : fs_T Unit := fs_rdm a fun e => match e with
  | .inl (t, _) => if t = 3 then some () else none
  | .inr _ => none
def fs_ci (a : Nat) : fs_T Unit := fs_rdm a fun e => match e with
  | .inl (t, _) => if t = 0 then some () else none
  | .inr _ => none
/-- the class object of an Object[] -/
def fs_gc (a : Nat) : fs_T Nat := fs_bind (fs_ca a) fun _ => fs_gs 2
/-- a copy of an int[] -/
def fs_xA (e : fs_E) : Option (Nat × (Nat → Int32)) := match e with
  | .inl (t, n, .inl f) => if t = 0 then some (n, f) else none
  | _ => none
def fs_cln (a : Nat) : fs_T Nat := fs_bind (fs_rdm a fs_xA) fun q => fs_mk (.inl (0, q.1, .inl q.2)) q.1
/-- System.arraycopy between arrays of objects -/
def fs_xQ (e : fs_E) : Option (Nat × (Nat → Option Nat)) := match e with
  | .inl (t, n, .inr (.inr (.inr (.inr f)))) => if t = 3 then some (n, f) else none
  | _ => none
def fs_yQ (f : Nat → Option Nat) (sp dp n : Nat) (e : fs_E) : Option fs_E := match e with
  | .inl (t, k, .inr (.inr (.inr (.inr g)))) => if t = 3 ∧ dp + n ≤ k then some (.inl (t, k, .inr (.inr (.inr (.inr (va_cpy f g sp dp n)))))) else none
  | _ => none
/-- the copied places hold objects -/
def fs_oo (f : Nat → Option Nat) (sp n : Nat) : fs_T Unit := ⟨fun s => if (List.range n).all (fun i => match f (sp + i) with
    | none => true
    | some y => (match fs_lk s y with
      | some (.inr (c, _)) => decide (c ≠ 2)
      | _ => false)) = true then some ((), s) else none, fun s b t h => by
  dsimp only at h
  split at h
  · cases h; exact fs_le.rf s
  · cases h⟩
def fs_cp (a : Nat) (sp : Int32) (b : Nat) (dp n : Int32) : fs_T Unit := fs_bind (fs_rdm a fs_xQ) fun q =>
  if ¬ sp < 0 ∧ ¬ dp < 0 ∧ ¬ n < 0 ∧ sp.toNatClampNeg + n.toNatClampNeg ≤ q.1 then
    fs_bind (fs_oo q.2 sp.toNatClampNeg n.toNatClampNeg) fun _ => fs_wr b (fs_yQ q.2 sp.toNatClampNeg dp.toNatClampNeg n.toNatClampNeg)
  else fs_fail
def fs_max (x y : Int32) : Int32 := if x < y then y else x
def fs_min (x y : Int32) : Int32 := if y < x then y else x
def fs_abs (x : Int64) : Int64 := if 0 < x then x else -x
end
section
/-! the words that every method may lean on: those of the tables that stay true; the classes, by their fields -/
def fs_ws : List Cond := lw_tbl.filter goodWord
theorem fs_b1 {w : Cond} (h : w ∈ tables_1_1) : w ∈ lw_tbl := List.mem_append_right _ (show w ∈ tables_1 from List.mem_append_left _ (h))
theorem fs_t1 {w : Cond} (h : w ∈ tables_1_1) (g : goodWord w = true) : w ∈ fs_ws := List.mem_filter.mpr ⟨List.mem_append_right _ (show w ∈ tables_1 from List.mem_append_left _ (h)), g⟩
theorem fs_b2 {w : Cond} (h : w ∈ tables_1_2) : w ∈ lw_tbl := List.mem_append_right _ (show w ∈ tables_1 from List.mem_append_right _ (List.mem_append_left _ (h)))
theorem fs_t2 {w : Cond} (h : w ∈ tables_1_2) (g : goodWord w = true) : w ∈ fs_ws := List.mem_filter.mpr ⟨List.mem_append_right _ (show w ∈ tables_1 from List.mem_append_right _ (List.mem_append_left _ (h))), g⟩
theorem fs_b3 {w : Cond} (h : w ∈ tables_1_3) : w ∈ lw_tbl := List.mem_append_right _ (show w ∈ tables_1 from List.mem_append_right _ (List.mem_append_right _ (List.mem_append_left _ (h))))
theorem fs_t3 {w : Cond} (h : w ∈ tables_1_3) (g : goodWord w = true) : w ∈ fs_ws := List.mem_filter.mpr ⟨List.mem_append_right _ (show w ∈ tables_1 from List.mem_append_right _ (List.mem_append_right _ (List.mem_append_left _ (h)))), g⟩
theorem fs_b4 {w : Cond} (h : w ∈ tables_1_4) : w ∈ lw_tbl := List.mem_append_right _ (show w ∈ tables_1 from List.mem_append_right _ (List.mem_append_right _ (List.mem_append_right _ (List.mem_append_left _ (h)))))
theorem fs_t4 {w : Cond} (h : w ∈ tables_1_4) (g : goodWord w = true) : w ∈ fs_ws := List.mem_filter.mpr ⟨List.mem_append_right _ (show w ∈ tables_1 from List.mem_append_right _ (List.mem_append_right _ (List.mem_append_right _ (List.mem_append_left _ (h))))), g⟩
theorem fs_b5 {w : Cond} (h : w ∈ tables_1_5) : w ∈ lw_tbl := List.mem_append_right _ (show w ∈ tables_1 from List.mem_append_right _ (List.mem_append_right _ (List.mem_append_right _ (List.mem_append_right _ (List.mem_append_left _ (h))))))
theorem fs_t5 {w : Cond} (h : w ∈ tables_1_5) (g : goodWord w = true) : w ∈ fs_ws := List.mem_filter.mpr ⟨List.mem_append_right _ (show w ∈ tables_1 from List.mem_append_right _ (List.mem_append_right _ (List.mem_append_right _ (List.mem_append_right _ (List.mem_append_left _ (h)))))), g⟩
theorem fs_b6 {w : Cond} (h : w ∈ tables_1_6) : w ∈ lw_tbl := List.mem_append_right _ (show w ∈ tables_1 from List.mem_append_right _ (List.mem_append_right _ (List.mem_append_right _ (List.mem_append_right _ (List.mem_append_right _ (List.mem_append_left _ (h)))))))
theorem fs_t6 {w : Cond} (h : w ∈ tables_1_6) (g : goodWord w = true) : w ∈ fs_ws := List.mem_filter.mpr ⟨List.mem_append_right _ (show w ∈ tables_1 from List.mem_append_right _ (List.mem_append_right _ (List.mem_append_right _ (List.mem_append_right _ (List.mem_append_right _ (List.mem_append_left _ (h))))))), g⟩
theorem fs_b7 {w : Cond} (h : w ∈ tables_1_7) : w ∈ lw_tbl := List.mem_append_right _ (show w ∈ tables_1 from List.mem_append_right _ (List.mem_append_right _ (List.mem_append_right _ (List.mem_append_right _ (List.mem_append_right _ (List.mem_append_right _ (h)))))))
theorem fs_t7 {w : Cond} (h : w ∈ tables_1_7) (g : goodWord w = true) : w ∈ fs_ws := List.mem_filter.mpr ⟨List.mem_append_right _ (show w ∈ tables_1 from List.mem_append_right _ (List.mem_append_right _ (List.mem_append_right _ (List.mem_append_right _ (List.mem_append_right _ (List.mem_append_right _ (h))))))), g⟩
theorem fs_good {ws : List Cond} (h : ∀ w ∈ ws, w ∈ fs_ws) (c : Cond) (hc : c ∈ fs_ws) : GoodIn (c :: fs_ws) ws := fun w q => ⟨List.mem_cons_of_mem _ (h w q), good_of_word (List.mem_filter.mp (h w q)).2⟩
def fs_R0 : String := "FlowShelf"
def fs_T0 : u_T := fun k => match k with
  | 0 => ("FlowShelf", "first", "LFlowShelf$Exporter;", true)
  | 1 => ("FlowShelf", "second", "LFlowShelf$Exporter;", true)
  | 2 => ("FlowShelf", "reports", "Ljava/util/ArrayList;", true)
  | _ => ("FlowShelf", "collector", "LFlowShelf$Collector;", true)
def fs_Y0 : Nat → FieldType := fun k => match k with
  | 0 => .object "FlowShelf$Exporter"
  | 1 => .object "FlowShelf$Exporter"
  | 2 => .object "java/util/ArrayList"
  | _ => .object "FlowShelf$Collector"
theorem fs_nm0 : ∀ a, a < 4 → ∀ b, b < 4 → a ≠ b → (fs_T0 a).2.1 ≠ (fs_T0 b).2.1 := by decide +kernel
theorem fs_ty0 : ∀ k, k < 4 → parseFieldDescriptor (fs_T0 k).2.2.1 = some (fs_Y0 k) := by decide +kernel
theorem fs_l0 : ∀ k, k < 4 → u_lay fs_R0 fs_T0 k ∈ fs_ws := fun k hk => match k, hk with
  | 0, _ => fs_t2 (List.mem_of_getElem? (i := 11) rfl) rfl
  | 1, _ => fs_t2 (List.mem_of_getElem? (i := 13) rfl) rfl
  | 2, _ => fs_t2 (List.mem_of_getElem? (i := 15) rfl) rfl
  | 3, _ => fs_t2 (List.mem_of_getElem? (i := 17) rfl) rfl
  | q + 4, h => absurd h (by omega)
theorem fs_in0 : ∀ w ∈ u_ws fs_R0 fs_T0 4, w ∈ fs_ws := fun w h => by
  obtain ⟨k, hk, rfl⟩ := List.mem_map.mp h
  exact fs_l0 k (List.mem_range.mp hk)
def fs_d0 : List Value := [.null, .null, .null, .null]
def fs_R1 : String := "FlowShelf$Exporter"
def fs_T1 : u_T := fun k => match k with
  | 0 => ("FlowShelf$Exporter", "number", "I", true)
  | 1 => ("FlowShelf$Exporter", "cache", "Ljava/util/ArrayList;", true)
  | 2 => ("FlowShelf$Exporter", "endedFlows", "Ljava/util/ArrayList;", true)
  | 3 => ("FlowShelf$Exporter", "slots", "[LFlowShelf$Slot;", true)
  | 4 => ("FlowShelf$Exporter", "clock", "I", false)
  | 5 => ("FlowShelf$Exporter", "epoch", "I", false)
  | 6 => ("FlowShelf$Exporter", "sampleOf", "I", false)
  | 7 => ("FlowShelf$Exporter", "sampleCounter", "I", false)
  | 8 => ("FlowShelf$Exporter", "seals", "I", false)
  | 9 => ("FlowShelf$Exporter", "written", "I", false)
  | _ => ("FlowShelf$Exporter", "samplersWritten", "I", false)
def fs_Y1 : Nat → FieldType := fun k => match k with
  | 0 => .int
  | 1 => .object "java/util/ArrayList"
  | 2 => .object "java/util/ArrayList"
  | 3 => .array (.object "FlowShelf$Slot")
  | 4 => .int
  | 5 => .int
  | 6 => .int
  | 7 => .int
  | 8 => .int
  | 9 => .int
  | _ => .int
theorem fs_nm1 : ∀ a, a < 11 → ∀ b, b < 11 → a ≠ b → (fs_T1 a).2.1 ≠ (fs_T1 b).2.1 := by decide +kernel
theorem fs_ty1 : ∀ k, k < 11 → parseFieldDescriptor (fs_T1 k).2.2.1 = some (fs_Y1 k) := by decide +kernel
theorem fs_l1 : ∀ k, k < 11 → u_lay fs_R1 fs_T1 k ∈ fs_ws := fun k hk => match k, hk with
  | 0, _ => fs_t1 (List.mem_of_getElem? (i := 142) rfl) rfl
  | 1, _ => fs_t1 (List.mem_of_getElem? (i := 144) rfl) rfl
  | 2, _ => fs_t1 (List.mem_of_getElem? (i := 146) rfl) rfl
  | 3, _ => fs_t1 (List.mem_of_getElem? (i := 148) rfl) rfl
  | 4, _ => fs_t1 (List.mem_of_getElem? (i := 150) rfl) rfl
  | 5, _ => fs_t1 (List.mem_of_getElem? (i := 152) rfl) rfl
  | 6, _ => fs_t1 (List.mem_of_getElem? (i := 154) rfl) rfl
  | 7, _ => fs_t1 (List.mem_of_getElem? (i := 156) rfl) rfl
  | 8, _ => fs_t1 (List.mem_of_getElem? (i := 158) rfl) rfl
  | 9, _ => fs_t1 (List.mem_of_getElem? (i := 160) rfl) rfl
  | 10, _ => fs_t1 (List.mem_of_getElem? (i := 162) rfl) rfl
  | q + 11, h => absurd h (by omega)
theorem fs_in1 : ∀ w ∈ u_ws fs_R1 fs_T1 11, w ∈ fs_ws := fun w h => by
  obtain ⟨k, hk, rfl⟩ := List.mem_map.mp h
  exact fs_l1 k (List.mem_range.mp hk)
def fs_d1 : List Value := [.int 0, .null, .null, .null, .int 0, .int 0, .int 0, .int 0, .int 0, .int 0, .int 0]
def fs_R2 : String := "java/util/ArrayList"
def fs_T2 : u_T := fun k => match k with
  | 0 => ("java/util/ArrayList", "elementData", "[Ljava/lang/Object;", false)
  | 1 => ("java/util/ArrayList", "size", "I", false)
  | _ => ("java/util/AbstractList", "modCount", "I", false)
def fs_Y2 : Nat → FieldType := fun k => match k with
  | 0 => .array (.object "java/lang/Object")
  | 1 => .int
  | _ => .int
theorem fs_nm2 : ∀ a, a < 3 → ∀ b, b < 3 → a ≠ b → (fs_T2 a).2.1 ≠ (fs_T2 b).2.1 := by decide +kernel
theorem fs_ty2 : ∀ k, k < 3 → parseFieldDescriptor (fs_T2 k).2.2.1 = some (fs_Y2 k) := by decide +kernel
theorem fs_l2 : ∀ k, k < 3 → u_lay fs_R2 fs_T2 k ∈ fs_ws := fun k hk => match k, hk with
  | 0, _ => fs_t1 (List.mem_of_getElem? (i := 62) rfl) rfl
  | 1, _ => fs_t1 (List.mem_of_getElem? (i := 64) rfl) rfl
  | 2, _ => fs_t1 (List.mem_of_getElem? (i := 66) rfl) rfl
  | q + 3, h => absurd h (by omega)
theorem fs_in2 : ∀ w ∈ u_ws fs_R2 fs_T2 3, w ∈ fs_ws := fun w h => by
  obtain ⟨k, hk, rfl⟩ := List.mem_map.mp h
  exact fs_l2 k (List.mem_range.mp hk)
def fs_d2 : List Value := [.null, .int 0, .int 0]
def fs_R3 : String := "FlowShelf$Slot"
def fs_T3 : u_T := fun k => match k with
  | 0 => ("FlowShelf$Slot", "number", "I", true)
  | 1 => ("FlowShelf$Slot", "draft", "LFlowShelf$Layout;", false)
  | 2 => ("FlowShelf$Slot", "layout", "LFlowShelf$Layout;", false)
  | 3 => ("FlowShelf$Slot", "inForce", "Z", false)
  | 4 => ("FlowShelf$Slot", "revision", "I", false)
  | _ => ("FlowShelf$Slot", "sealedAt", "I", false)
def fs_Y3 : Nat → FieldType := fun k => match k with
  | 0 => .int
  | 1 => .object "FlowShelf$Layout"
  | 2 => .object "FlowShelf$Layout"
  | 3 => .boolean
  | 4 => .int
  | _ => .int
theorem fs_nm3 : ∀ a, a < 6 → ∀ b, b < 6 → a ≠ b → (fs_T3 a).2.1 ≠ (fs_T3 b).2.1 := by decide +kernel
theorem fs_ty3 : ∀ k, k < 6 → parseFieldDescriptor (fs_T3 k).2.2.1 = some (fs_Y3 k) := by decide +kernel
theorem fs_l3 : ∀ k, k < 6 → u_lay fs_R3 fs_T3 k ∈ fs_ws := fun k hk => match k, hk with
  | 0, _ => fs_t1 (List.mem_of_getElem? (i := 112) rfl) rfl
  | 1, _ => fs_t1 (List.mem_of_getElem? (i := 114) rfl) rfl
  | 2, _ => fs_t1 (List.mem_of_getElem? (i := 116) rfl) rfl
  | 3, _ => fs_t1 (List.mem_of_getElem? (i := 118) rfl) rfl
  | 4, _ => fs_t1 (List.mem_of_getElem? (i := 120) rfl) rfl
  | 5, _ => fs_t1 (List.mem_of_getElem? (i := 122) rfl) rfl
  | q + 6, h => absurd h (by omega)
theorem fs_in3 : ∀ w ∈ u_ws fs_R3 fs_T3 6, w ∈ fs_ws := fun w h => by
  obtain ⟨k, hk, rfl⟩ := List.mem_map.mp h
  exact fs_l3 k (List.mem_range.mp hk)
def fs_d3 : List Value := [.int 0, .null, .null, .int 0, .int 0, .int 0]
def fs_R4 : String := "FlowShelf$Layout"
def fs_T4 : u_T := fun k => match k with
  | 0 => ("FlowShelf$Layout", "fields", "[I", true)
  | 1 => ("FlowShelf$Layout", "lengths", "[I", true)
  | _ => ("FlowShelf$Layout", "used", "I", false)
def fs_Y4 : Nat → FieldType := fun k => match k with
  | 0 => .array .int
  | 1 => .array .int
  | _ => .int
theorem fs_nm4 : ∀ a, a < 3 → ∀ b, b < 3 → a ≠ b → (fs_T4 a).2.1 ≠ (fs_T4 b).2.1 := by decide +kernel
theorem fs_ty4 : ∀ k, k < 3 → parseFieldDescriptor (fs_T4 k).2.2.1 = some (fs_Y4 k) := by decide +kernel
theorem fs_l4 : ∀ k, k < 3 → u_lay fs_R4 fs_T4 k ∈ fs_ws := fun k hk => match k, hk with
  | 0, _ => fs_t1 (List.mem_of_getElem? (i := 90) rfl) rfl
  | 1, _ => fs_t1 (List.mem_of_getElem? (i := 92) rfl) rfl
  | 2, _ => fs_t1 (List.mem_of_getElem? (i := 94) rfl) rfl
  | q + 3, h => absurd h (by omega)
theorem fs_in4 : ∀ w ∈ u_ws fs_R4 fs_T4 3, w ∈ fs_ws := fun w h => by
  obtain ⟨k, hk, rfl⟩ := List.mem_map.mp h
  exact fs_l4 k (List.mem_range.mp hk)
def fs_d4 : List Value := [.null, .null, .int 0]
def fs_R5 : String := "FlowShelf$Collector"
def fs_T5 : u_T := fun k => match k with
  | 0 => ("FlowShelf$Collector", "known", "Ljava/util/ArrayList;", true)
  | 1 => ("FlowShelf$Collector", "shelf", "Ljava/util/ArrayList;", true)
  | 2 => ("FlowShelf$Collector", "table", "LFlowShelf$Table;", true)
  | 3 => ("FlowShelf$Collector", "ofFirst", "LFlowShelf$Ledger;", true)
  | _ => ("FlowShelf$Collector", "ofSecond", "LFlowShelf$Ledger;", true)
def fs_Y5 : Nat → FieldType := fun k => match k with
  | 0 => .object "java/util/ArrayList"
  | 1 => .object "java/util/ArrayList"
  | 2 => .object "FlowShelf$Table"
  | 3 => .object "FlowShelf$Ledger"
  | _ => .object "FlowShelf$Ledger"
theorem fs_nm5 : ∀ a, a < 5 → ∀ b, b < 5 → a ≠ b → (fs_T5 a).2.1 ≠ (fs_T5 b).2.1 := by decide +kernel
theorem fs_ty5 : ∀ k, k < 5 → parseFieldDescriptor (fs_T5 k).2.2.1 = some (fs_Y5 k) := by decide +kernel
theorem fs_l5 : ∀ k, k < 5 → u_lay fs_R5 fs_T5 k ∈ fs_ws := fun k hk => match k, hk with
  | 0, _ => fs_t1 (List.mem_of_getElem? (i := 236) rfl) rfl
  | 1, _ => fs_t1 (List.mem_of_getElem? (i := 238) rfl) rfl
  | 2, _ => fs_t2 (List.mem_of_getElem? (i := 0) rfl) rfl
  | 3, _ => fs_t2 (List.mem_of_getElem? (i := 2) rfl) rfl
  | 4, _ => fs_t2 (List.mem_of_getElem? (i := 4) rfl) rfl
  | q + 5, h => absurd h (by omega)
theorem fs_in5 : ∀ w ∈ u_ws fs_R5 fs_T5 5, w ∈ fs_ws := fun w h => by
  obtain ⟨k, hk, rfl⟩ := List.mem_map.mp h
  exact fs_l5 k (List.mem_range.mp hk)
def fs_d5 : List Value := [.null, .null, .null, .null, .null]
def fs_R6 : String := "FlowShelf$Table"
def fs_T6 : u_T := fun k => match k with
  | 0 => ("FlowShelf$Table", "list", "Ljava/util/ArrayList;", true)
  | 1 => ("FlowShelf$Table", "partner", "[I", true)
  | 2 => ("FlowShelf$Table", "order", "[I", true)
  | 3 => ("FlowShelf$Table", "ordered", "I", false)
  | _ => ("FlowShelf$Table", "pairedRows", "I", false)
def fs_Y6 : Nat → FieldType := fun k => match k with
  | 0 => .object "java/util/ArrayList"
  | 1 => .array .int
  | 2 => .array .int
  | 3 => .int
  | _ => .int
theorem fs_nm6 : ∀ a, a < 5 → ∀ b, b < 5 → a ≠ b → (fs_T6 a).2.1 ≠ (fs_T6 b).2.1 := by decide +kernel
theorem fs_ty6 : ∀ k, k < 5 → parseFieldDescriptor (fs_T6 k).2.2.1 = some (fs_Y6 k) := by decide +kernel
theorem fs_l6 : ∀ k, k < 5 → u_lay fs_R6 fs_T6 k ∈ fs_ws := fun k hk => match k, hk with
  | 0, _ => fs_t1 (List.mem_of_getElem? (i := 190) rfl) rfl
  | 1, _ => fs_t1 (List.mem_of_getElem? (i := 192) rfl) rfl
  | 2, _ => fs_t1 (List.mem_of_getElem? (i := 194) rfl) rfl
  | 3, _ => fs_t1 (List.mem_of_getElem? (i := 196) rfl) rfl
  | 4, _ => fs_t1 (List.mem_of_getElem? (i := 198) rfl) rfl
  | q + 5, h => absurd h (by omega)
theorem fs_in6 : ∀ w ∈ u_ws fs_R6 fs_T6 5, w ∈ fs_ws := fun w h => by
  obtain ⟨k, hk, rfl⟩ := List.mem_map.mp h
  exact fs_l6 k (List.mem_range.mp hk)
def fs_d6 : List Value := [.null, .null, .null, .int 0, .int 0]
def fs_R7 : String := "FlowShelf$Ledger"
def fs_T7 : u_T := fun k => match k with
  | 0 => ("FlowShelf$Ledger", "heard", "[Z", true)
  | 1 => ("FlowShelf$Ledger", "dropped", "I", false)
  | 2 => ("FlowShelf$Ledger", "spoilt", "I", false)
  | 3 => ("FlowShelf$Ledger", "notedSampler", "I", false)
  | 4 => ("FlowShelf$Ledger", "notedEpoch", "I", false)
  | _ => ("FlowShelf$Ledger", "notedBefore", "I", false)
def fs_Y7 : Nat → FieldType := fun k => match k with
  | 0 => .array .boolean
  | 1 => .int
  | 2 => .int
  | 3 => .int
  | 4 => .int
  | _ => .int
theorem fs_nm7 : ∀ a, a < 6 → ∀ b, b < 6 → a ≠ b → (fs_T7 a).2.1 ≠ (fs_T7 b).2.1 := by decide +kernel
theorem fs_ty7 : ∀ k, k < 6 → parseFieldDescriptor (fs_T7 k).2.2.1 = some (fs_Y7 k) := by decide +kernel
theorem fs_l7 : ∀ k, k < 6 → u_lay fs_R7 fs_T7 k ∈ fs_ws := fun k hk => match k, hk with
  | 0, _ => fs_t1 (List.mem_of_getElem? (i := 216) rfl) rfl
  | 1, _ => fs_t1 (List.mem_of_getElem? (i := 218) rfl) rfl
  | 2, _ => fs_t1 (List.mem_of_getElem? (i := 220) rfl) rfl
  | 3, _ => fs_t1 (List.mem_of_getElem? (i := 222) rfl) rfl
  | 4, _ => fs_t1 (List.mem_of_getElem? (i := 224) rfl) rfl
  | 5, _ => fs_t1 (List.mem_of_getElem? (i := 226) rfl) rfl
  | q + 6, h => absurd h (by omega)
theorem fs_in7 : ∀ w ∈ u_ws fs_R7 fs_T7 6, w ∈ fs_ws := fun w h => by
  obtain ⟨k, hk, rfl⟩ := List.mem_map.mp h
  exact fs_l7 k (List.mem_range.mp hk)
def fs_d7 : List Value := [.null, .int 0, .int 0, .int 0, .int 0, .int 0]
def fs_R8 : String := "FlowShelf$Flow"
def fs_T8 : u_T := fun k => match k with
  | 0 => ("FlowShelf$Flow", "source", "I", true)
  | 1 => ("FlowShelf$Flow", "target", "I", true)
  | 2 => ("FlowShelf$Flow", "service", "I", true)
  | 3 => ("FlowShelf$Flow", "began", "I", true)
  | 4 => ("FlowShelf$Flow", "bytes", "I", false)
  | 5 => ("FlowShelf$Flow", "packets", "I", false)
  | 6 => ("FlowShelf$Flow", "latest", "I", false)
  | 7 => ("FlowShelf$Flow", "endedAt", "I", false)
  | _ => ("FlowShelf$Flow", "reason", "I", false)
def fs_Y8 : Nat → FieldType := fun k => match k with
  | 0 => .int
  | 1 => .int
  | 2 => .int
  | 3 => .int
  | 4 => .int
  | 5 => .int
  | 6 => .int
  | 7 => .int
  | _ => .int
theorem fs_nm8 : ∀ a, a < 9 → ∀ b, b < 9 → a ≠ b → (fs_T8 a).2.1 ≠ (fs_T8 b).2.1 := by decide +kernel
theorem fs_ty8 : ∀ k, k < 9 → parseFieldDescriptor (fs_T8 k).2.2.1 = some (fs_Y8 k) := by decide +kernel
theorem fs_l8 : ∀ k, k < 9 → u_lay fs_R8 fs_T8 k ∈ fs_ws := fun k hk => match k, hk with
  | 0, _ => fs_t3 (List.mem_of_getElem? (i := 38) rfl) rfl
  | 1, _ => fs_t3 (List.mem_of_getElem? (i := 40) rfl) rfl
  | 2, _ => fs_t3 (List.mem_of_getElem? (i := 42) rfl) rfl
  | 3, _ => fs_t3 (List.mem_of_getElem? (i := 44) rfl) rfl
  | 4, _ => fs_t3 (List.mem_of_getElem? (i := 46) rfl) rfl
  | 5, _ => fs_t3 (List.mem_of_getElem? (i := 48) rfl) rfl
  | 6, _ => fs_t3 (List.mem_of_getElem? (i := 50) rfl) rfl
  | 7, _ => fs_t3 (List.mem_of_getElem? (i := 52) rfl) rfl
  | 8, _ => fs_t3 (List.mem_of_getElem? (i := 54) rfl) rfl
  | q + 9, h => absurd h (by omega)
theorem fs_in8 : ∀ w ∈ u_ws fs_R8 fs_T8 9, w ∈ fs_ws := fun w h => by
  obtain ⟨k, hk, rfl⟩ := List.mem_map.mp h
  exact fs_l8 k (List.mem_range.mp hk)
def fs_d8 : List Value := [.int 0, .int 0, .int 0, .int 0, .int 0, .int 0, .int 0, .int 0, .int 0]
def fs_R9 : String := "FlowShelf$Report"
def fs_T9 : u_T := fun k => match k with
  | 0 => ("FlowShelf$Report", "bytes", "[I", true)
  | _ => ("FlowShelf$Report", "used", "I", false)
def fs_Y9 : Nat → FieldType := fun k => match k with
  | 0 => .array .int
  | _ => .int
theorem fs_nm9 : ∀ a, a < 2 → ∀ b, b < 2 → a ≠ b → (fs_T9 a).2.1 ≠ (fs_T9 b).2.1 := by decide +kernel
theorem fs_ty9 : ∀ k, k < 2 → parseFieldDescriptor (fs_T9 k).2.2.1 = some (fs_Y9 k) := by decide +kernel
theorem fs_l9 : ∀ k, k < 2 → u_lay fs_R9 fs_T9 k ∈ fs_ws := fun k hk => match k, hk with
  | 0, _ => fs_t3 (List.mem_of_getElem? (i := 231) rfl) rfl
  | 1, _ => fs_t3 (List.mem_of_getElem? (i := 233) rfl) rfl
  | q + 2, h => absurd h (by omega)
theorem fs_in9 : ∀ w ∈ u_ws fs_R9 fs_T9 2, w ∈ fs_ws := fun w h => by
  obtain ⟨k, hk, rfl⟩ := List.mem_map.mp h
  exact fs_l9 k (List.mem_range.mp hk)
def fs_d9 : List Value := [.null, .int 0]
def fs_R10 : String := "FlowShelf$Cursor"
def fs_T10 : u_T := fun k => match k with
  | 0 => ("FlowShelf$Cursor", "records", "LFlowShelf$Report;", true)
  | 1 => ("FlowShelf$Cursor", "at", "I", false)
  | _ => ("FlowShelf$Cursor", "bad", "Z", false)
def fs_Y10 : Nat → FieldType := fun k => match k with
  | 0 => .object "FlowShelf$Report"
  | 1 => .int
  | _ => .boolean
theorem fs_nm10 : ∀ a, a < 3 → ∀ b, b < 3 → a ≠ b → (fs_T10 a).2.1 ≠ (fs_T10 b).2.1 := by decide +kernel
theorem fs_ty10 : ∀ k, k < 3 → parseFieldDescriptor (fs_T10 k).2.2.1 = some (fs_Y10 k) := by decide +kernel
theorem fs_l10 : ∀ k, k < 3 → u_lay fs_R10 fs_T10 k ∈ fs_ws := fun k hk => match k, hk with
  | 0, _ => fs_t4 (List.mem_of_getElem? (i := 232) rfl) rfl
  | 1, _ => fs_t4 (List.mem_of_getElem? (i := 234) rfl) rfl
  | 2, _ => fs_t4 (List.mem_of_getElem? (i := 236) rfl) rfl
  | q + 3, h => absurd h (by omega)
theorem fs_in10 : ∀ w ∈ u_ws fs_R10 fs_T10 3, w ∈ fs_ws := fun w h => by
  obtain ⟨k, hk, rfl⟩ := List.mem_map.mp h
  exact fs_l10 k (List.mem_range.mp hk)
def fs_d10 : List Value := [.null, .int 0, .int 0]
def fs_R11 : String := "FlowShelf$Row"
def fs_T11 : u_T := fun k => match k with
  | 0 => ("FlowShelf$Row", "exporter", "I", true)
  | _ => ("FlowShelf$Row", "values", "[J", true)
def fs_Y11 : Nat → FieldType := fun k => match k with
  | 0 => .int
  | _ => .array .long
theorem fs_nm11 : ∀ a, a < 2 → ∀ b, b < 2 → a ≠ b → (fs_T11 a).2.1 ≠ (fs_T11 b).2.1 := by decide +kernel
theorem fs_ty11 : ∀ k, k < 2 → parseFieldDescriptor (fs_T11 k).2.2.1 = some (fs_Y11 k) := by decide +kernel
theorem fs_l11 : ∀ k, k < 2 → u_lay fs_R11 fs_T11 k ∈ fs_ws := fun k hk => match k, hk with
  | 0, _ => fs_t5 (List.mem_of_getElem? (i := 35) rfl) rfl
  | 1, _ => fs_t5 (List.mem_of_getElem? (i := 37) rfl) rfl
  | q + 2, h => absurd h (by omega)
theorem fs_in11 : ∀ w ∈ u_ws fs_R11 fs_T11 2, w ∈ fs_ws := fun w h => by
  obtain ⟨k, hk, rfl⟩ := List.mem_map.mp h
  exact fs_l11 k (List.mem_range.mp hk)
def fs_d11 : List Value := [.int 0, .null]
def fs_R12 : String := "FlowShelfModel"
def fs_T12 : u_T := fun k => match k with
  | 0 => ("FlowShelfModel", "thrown", "I", false)
  | 1 => ("FlowShelfModel", "clock", "[I", false)
  | 2 => ("FlowShelfModel", "epoch", "[I", false)
  | 3 => ("FlowShelfModel", "every", "[I", false)
  | 4 => ("FlowShelfModel", "counter", "[I", false)
  | 5 => ("FlowShelfModel", "written", "[I", false)
  | 6 => ("FlowShelfModel", "told", "[I", false)
  | 7 => ("FlowShelfModel", "cached", "[I", false)
  | 8 => ("FlowShelfModel", "key", "[I", false)
  | 9 => ("FlowShelfModel", "bytes", "[I", false)
  | 10 => ("FlowShelfModel", "packets", "[I", false)
  | 11 => ("FlowShelfModel", "began", "[I", false)
  | 12 => ("FlowShelfModel", "latest", "[I", false)
  | 13 => ("FlowShelfModel", "endedMany", "[I", false)
  | 14 => ("FlowShelfModel", "endedFields", "[I", false)
  | 15 => ("FlowShelfModel", "draftMany", "[I", false)
  | 16 => ("FlowShelfModel", "draftField", "[I", false)
  | 17 => ("FlowShelfModel", "draftLength", "[I", false)
  | 18 => ("FlowShelfModel", "revisions", "[I", false)
  | 19 => ("FlowShelfModel", "inForce", "[I", false)
  | 20 => ("FlowShelfModel", "forceMany", "[I", false)
  | 21 => ("FlowShelfModel", "forceField", "[I", false)
  | 22 => ("FlowShelfModel", "forceLength", "[I", false)
  | 23 => ("FlowShelfModel", "sealedAt", "[I", false)
  | 24 => ("FlowShelfModel", "seals", "I", false)
  | 25 => ("FlowShelfModel", "reports", "I", false)
  | 26 => ("FlowShelfModel", "sizes", "[I", false)
  | 27 => ("FlowShelfModel", "texts", "[I", false)
  | 28 => ("FlowShelfModel", "knownMany", "I", false)
  | 29 => ("FlowShelfModel", "known", "[I", false)
  | 30 => ("FlowShelfModel", "knownFields", "[I", false)
  | 31 => ("FlowShelfModel", "knownField", "[I", false)
  | 32 => ("FlowShelfModel", "knownLength", "[I", false)
  | 33 => ("FlowShelfModel", "shelved", "I", false)
  | 34 => ("FlowShelfModel", "shelfSize", "[I", false)
  | 35 => ("FlowShelfModel", "shelf", "[I", false)
  | 36 => ("FlowShelfModel", "heard", "[Z", false)
  | 37 => ("FlowShelfModel", "rowMany", "I", false)
  | 38 => ("FlowShelfModel", "rowExporter", "[I", false)
  | 39 => ("FlowShelfModel", "values", "[J", false)
  | 40 => ("FlowShelfModel", "dropped", "[I", false)
  | 41 => ("FlowShelfModel", "spoilt", "[I", false)
  | 42 => ("FlowShelfModel", "noted", "[I", false)
  | 43 => ("FlowShelfModel", "notedEpoch", "[I", false)
  | 44 => ("FlowShelfModel", "notedCount", "[I", false)
  | 45 => ("FlowShelfModel", "length", "I", false)
  | 46 => ("FlowShelfModel", "b", "[I", false)
  | 47 => ("FlowShelfModel", "at", "I", false)
  | 48 => ("FlowShelfModel", "pair", "[I", false)
  | _ => ("FlowShelfModel", "done", "[Z", false)
def fs_Y12 : Nat → FieldType := fun k => match k with
  | 0 => .int
  | 1 => .array .int
  | 2 => .array .int
  | 3 => .array .int
  | 4 => .array .int
  | 5 => .array .int
  | 6 => .array .int
  | 7 => .array .int
  | 8 => .array .int
  | 9 => .array .int
  | 10 => .array .int
  | 11 => .array .int
  | 12 => .array .int
  | 13 => .array .int
  | 14 => .array .int
  | 15 => .array .int
  | 16 => .array .int
  | 17 => .array .int
  | 18 => .array .int
  | 19 => .array .int
  | 20 => .array .int
  | 21 => .array .int
  | 22 => .array .int
  | 23 => .array .int
  | 24 => .int
  | 25 => .int
  | 26 => .array .int
  | 27 => .array .int
  | 28 => .int
  | 29 => .array .int
  | 30 => .array .int
  | 31 => .array .int
  | 32 => .array .int
  | 33 => .int
  | 34 => .array .int
  | 35 => .array .int
  | 36 => .array .boolean
  | 37 => .int
  | 38 => .array .int
  | 39 => .array .long
  | 40 => .array .int
  | 41 => .array .int
  | 42 => .array .int
  | 43 => .array .int
  | 44 => .array .int
  | 45 => .int
  | 46 => .array .int
  | 47 => .int
  | 48 => .array .int
  | _ => .array .boolean
theorem fs_nm12 : ∀ a, a < 50 → ∀ b, b < 50 → a ≠ b → (fs_T12 a).2.1 ≠ (fs_T12 b).2.1 := by decide +kernel
theorem fs_ty12 : ∀ k, k < 50 → parseFieldDescriptor (fs_T12 k).2.2.1 = some (fs_Y12 k) := by decide +kernel
theorem fs_l12 : ∀ k, k < 50 → u_lay fs_R12 fs_T12 k ∈ fs_ws := fun k hk => match k, hk with
  | 0, _ => fs_t6 (List.mem_of_getElem? (i := 2) rfl) rfl
  | 1, _ => fs_t6 (List.mem_of_getElem? (i := 4) rfl) rfl
  | 2, _ => fs_t6 (List.mem_of_getElem? (i := 6) rfl) rfl
  | 3, _ => fs_t6 (List.mem_of_getElem? (i := 8) rfl) rfl
  | 4, _ => fs_t6 (List.mem_of_getElem? (i := 10) rfl) rfl
  | 5, _ => fs_t6 (List.mem_of_getElem? (i := 12) rfl) rfl
  | 6, _ => fs_t6 (List.mem_of_getElem? (i := 14) rfl) rfl
  | 7, _ => fs_t6 (List.mem_of_getElem? (i := 16) rfl) rfl
  | 8, _ => fs_t6 (List.mem_of_getElem? (i := 18) rfl) rfl
  | 9, _ => fs_t6 (List.mem_of_getElem? (i := 20) rfl) rfl
  | 10, _ => fs_t6 (List.mem_of_getElem? (i := 22) rfl) rfl
  | 11, _ => fs_t6 (List.mem_of_getElem? (i := 24) rfl) rfl
  | 12, _ => fs_t6 (List.mem_of_getElem? (i := 26) rfl) rfl
  | 13, _ => fs_t6 (List.mem_of_getElem? (i := 28) rfl) rfl
  | 14, _ => fs_t6 (List.mem_of_getElem? (i := 30) rfl) rfl
  | 15, _ => fs_t6 (List.mem_of_getElem? (i := 32) rfl) rfl
  | 16, _ => fs_t6 (List.mem_of_getElem? (i := 34) rfl) rfl
  | 17, _ => fs_t6 (List.mem_of_getElem? (i := 36) rfl) rfl
  | 18, _ => fs_t6 (List.mem_of_getElem? (i := 38) rfl) rfl
  | 19, _ => fs_t6 (List.mem_of_getElem? (i := 40) rfl) rfl
  | 20, _ => fs_t6 (List.mem_of_getElem? (i := 42) rfl) rfl
  | 21, _ => fs_t6 (List.mem_of_getElem? (i := 44) rfl) rfl
  | 22, _ => fs_t6 (List.mem_of_getElem? (i := 46) rfl) rfl
  | 23, _ => fs_t6 (List.mem_of_getElem? (i := 48) rfl) rfl
  | 24, _ => fs_t6 (List.mem_of_getElem? (i := 50) rfl) rfl
  | 25, _ => fs_t6 (List.mem_of_getElem? (i := 52) rfl) rfl
  | 26, _ => fs_t6 (List.mem_of_getElem? (i := 54) rfl) rfl
  | 27, _ => fs_t6 (List.mem_of_getElem? (i := 56) rfl) rfl
  | 28, _ => fs_t6 (List.mem_of_getElem? (i := 58) rfl) rfl
  | 29, _ => fs_t6 (List.mem_of_getElem? (i := 60) rfl) rfl
  | 30, _ => fs_t6 (List.mem_of_getElem? (i := 62) rfl) rfl
  | 31, _ => fs_t6 (List.mem_of_getElem? (i := 64) rfl) rfl
  | 32, _ => fs_t6 (List.mem_of_getElem? (i := 66) rfl) rfl
  | 33, _ => fs_t6 (List.mem_of_getElem? (i := 68) rfl) rfl
  | 34, _ => fs_t6 (List.mem_of_getElem? (i := 70) rfl) rfl
  | 35, _ => fs_t6 (List.mem_of_getElem? (i := 72) rfl) rfl
  | 36, _ => fs_t6 (List.mem_of_getElem? (i := 74) rfl) rfl
  | 37, _ => fs_t6 (List.mem_of_getElem? (i := 76) rfl) rfl
  | 38, _ => fs_t6 (List.mem_of_getElem? (i := 78) rfl) rfl
  | 39, _ => fs_t6 (List.mem_of_getElem? (i := 80) rfl) rfl
  | 40, _ => fs_t6 (List.mem_of_getElem? (i := 82) rfl) rfl
  | 41, _ => fs_t6 (List.mem_of_getElem? (i := 84) rfl) rfl
  | 42, _ => fs_t6 (List.mem_of_getElem? (i := 86) rfl) rfl
  | 43, _ => fs_t6 (List.mem_of_getElem? (i := 88) rfl) rfl
  | 44, _ => fs_t6 (List.mem_of_getElem? (i := 90) rfl) rfl
  | 45, _ => fs_t6 (List.mem_of_getElem? (i := 92) rfl) rfl
  | 46, _ => fs_t6 (List.mem_of_getElem? (i := 94) rfl) rfl
  | 47, _ => fs_t6 (List.mem_of_getElem? (i := 96) rfl) rfl
  | 48, _ => fs_t6 (List.mem_of_getElem? (i := 98) rfl) rfl
  | 49, _ => fs_t6 (List.mem_of_getElem? (i := 100) rfl) rfl
  | q + 50, h => absurd h (by omega)
theorem fs_in12 : ∀ w ∈ u_ws fs_R12 fs_T12 50, w ∈ fs_ws := fun w h => by
  obtain ⟨k, hk, rfl⟩ := List.mem_map.mp h
  exact fs_l12 k (List.mem_range.mp hk)
def fs_d12 : List Value := [.int 0, .null, .null, .null, .null, .null, .null, .null, .null, .null, .null, .null, .null, .null, .null, .null, .null, .null, .null, .null, .null, .null, .null, .null, .int 0, .int 0, .null, .null, .int 0, .null, .null, .null, .null, .int 0, .null, .null, .null, .int 0, .null, .null, .null, .null, .null, .null, .null, .int 0, .null, .int 0, .null, .null]
theorem fs_dv0 : ∀ j, j < 4 → defaultValue (fs_Y0 j) = vp_V fs_d0 j := fun j hj => match j, hj with
  | 0, _ => rfl
  | 1, _ => rfl
  | 2, _ => rfl
  | 3, _ => rfl
  | q + 4, h => absurd h (by omega)
theorem fs_dv1 : ∀ j, j < 11 → defaultValue (fs_Y1 j) = vp_V fs_d1 j := fun j hj => match j, hj with
  | 0, _ => rfl
  | 1, _ => rfl
  | 2, _ => rfl
  | 3, _ => rfl
  | 4, _ => rfl
  | 5, _ => rfl
  | 6, _ => rfl
  | 7, _ => rfl
  | 8, _ => rfl
  | 9, _ => rfl
  | 10, _ => rfl
  | q + 11, h => absurd h (by omega)
theorem fs_dv2 : ∀ j, j < 3 → defaultValue (fs_Y2 j) = vp_V fs_d2 j := fun j hj => match j, hj with
  | 0, _ => rfl
  | 1, _ => rfl
  | 2, _ => rfl
  | q + 3, h => absurd h (by omega)
theorem fs_dv3 : ∀ j, j < 6 → defaultValue (fs_Y3 j) = vp_V fs_d3 j := fun j hj => match j, hj with
  | 0, _ => rfl
  | 1, _ => rfl
  | 2, _ => rfl
  | 3, _ => rfl
  | 4, _ => rfl
  | 5, _ => rfl
  | q + 6, h => absurd h (by omega)
theorem fs_dv4 : ∀ j, j < 3 → defaultValue (fs_Y4 j) = vp_V fs_d4 j := fun j hj => match j, hj with
  | 0, _ => rfl
  | 1, _ => rfl
  | 2, _ => rfl
  | q + 3, h => absurd h (by omega)
theorem fs_dv5 : ∀ j, j < 5 → defaultValue (fs_Y5 j) = vp_V fs_d5 j := fun j hj => match j, hj with
  | 0, _ => rfl
  | 1, _ => rfl
  | 2, _ => rfl
  | 3, _ => rfl
  | 4, _ => rfl
  | q + 5, h => absurd h (by omega)
theorem fs_dv6 : ∀ j, j < 5 → defaultValue (fs_Y6 j) = vp_V fs_d6 j := fun j hj => match j, hj with
  | 0, _ => rfl
  | 1, _ => rfl
  | 2, _ => rfl
  | 3, _ => rfl
  | 4, _ => rfl
  | q + 5, h => absurd h (by omega)
theorem fs_dv7 : ∀ j, j < 6 → defaultValue (fs_Y7 j) = vp_V fs_d7 j := fun j hj => match j, hj with
  | 0, _ => rfl
  | 1, _ => rfl
  | 2, _ => rfl
  | 3, _ => rfl
  | 4, _ => rfl
  | 5, _ => rfl
  | q + 6, h => absurd h (by omega)
theorem fs_dv8 : ∀ j, j < 9 → defaultValue (fs_Y8 j) = vp_V fs_d8 j := fun j hj => match j, hj with
  | 0, _ => rfl
  | 1, _ => rfl
  | 2, _ => rfl
  | 3, _ => rfl
  | 4, _ => rfl
  | 5, _ => rfl
  | 6, _ => rfl
  | 7, _ => rfl
  | 8, _ => rfl
  | q + 9, h => absurd h (by omega)
theorem fs_dv9 : ∀ j, j < 2 → defaultValue (fs_Y9 j) = vp_V fs_d9 j := fun j hj => match j, hj with
  | 0, _ => rfl
  | 1, _ => rfl
  | q + 2, h => absurd h (by omega)
theorem fs_dv10 : ∀ j, j < 3 → defaultValue (fs_Y10 j) = vp_V fs_d10 j := fun j hj => match j, hj with
  | 0, _ => rfl
  | 1, _ => rfl
  | 2, _ => rfl
  | q + 3, h => absurd h (by omega)
theorem fs_dv11 : ∀ j, j < 2 → defaultValue (fs_Y11 j) = vp_V fs_d11 j := fun j hj => match j, hj with
  | 0, _ => rfl
  | 1, _ => rfl
  | q + 2, h => absurd h (by omega)
theorem fs_dv12 : ∀ j, j < 50 → defaultValue (fs_Y12 j) = vp_V fs_d12 j := fun j hj => match j, hj with
  | 0, _ => rfl
  | 1, _ => rfl
  | 2, _ => rfl
  | 3, _ => rfl
  | 4, _ => rfl
  | 5, _ => rfl
  | 6, _ => rfl
  | 7, _ => rfl
  | 8, _ => rfl
  | 9, _ => rfl
  | 10, _ => rfl
  | 11, _ => rfl
  | 12, _ => rfl
  | 13, _ => rfl
  | 14, _ => rfl
  | 15, _ => rfl
  | 16, _ => rfl
  | 17, _ => rfl
  | 18, _ => rfl
  | 19, _ => rfl
  | 20, _ => rfl
  | 21, _ => rfl
  | 22, _ => rfl
  | 23, _ => rfl
  | 24, _ => rfl
  | 25, _ => rfl
  | 26, _ => rfl
  | 27, _ => rfl
  | 28, _ => rfl
  | 29, _ => rfl
  | 30, _ => rfl
  | 31, _ => rfl
  | 32, _ => rfl
  | 33, _ => rfl
  | 34, _ => rfl
  | 35, _ => rfl
  | 36, _ => rfl
  | 37, _ => rfl
  | 38, _ => rfl
  | 39, _ => rfl
  | 40, _ => rfl
  | 41, _ => rfl
  | 42, _ => rfl
  | 43, _ => rfl
  | 44, _ => rfl
  | 45, _ => rfl
  | 46, _ => rfl
  | 47, _ => rfl
  | 48, _ => rfl
  | 49, _ => rfl
  | q + 50, h => absurd h (by omega)
abbrev fs_cl : List vw_C := [(fs_R0, fs_T0, 4), (fs_R1, fs_T1, 11), (fs_R2, fs_T2, 3), (fs_R3, fs_T3, 6), (fs_R4, fs_T4, 3), (fs_R5, fs_T5, 5), (fs_R6, fs_T6, 5), (fs_R7, fs_T7, 6), (fs_R8, fs_T8, 9), (fs_R9, fs_T9, 2), (fs_R10, fs_T10, 3), (fs_R11, fs_T11, 2), (fs_R12, fs_T12, 50)]
end
section
/-! the words, by their places -/
theorem tw_1_0 : (Cond.initialized "FlowShelfLaw") ∈ fs_ws := fs_t1 (List.mem_of_getElem? (i := 0) rfl) rfl
theorem tw_1_1 : (Cond.initialized "FlowShelf") ∈ fs_ws := fs_t1 (List.mem_of_getElem? (i := 1) rfl) rfl
theorem tw_1_2 : (Cond.initialized "FlowShelf$Exporter") ∈ fs_ws := fs_t1 (List.mem_of_getElem? (i := 2) rfl) rfl
theorem tw_1_3 : (Cond.initialized "java/util/AbstractCollection") ∈ fs_ws := fs_t1 (List.mem_of_getElem? (i := 3) rfl) rfl
theorem tw_1_4 : (Cond.initialized "java/util/AbstractList") ∈ fs_ws := fs_t1 (List.mem_of_getElem? (i := 4) rfl) rfl
theorem tw_1_5 : (Cond.initialized "java/util/ArrayList") ∈ fs_ws := fs_t1 (List.mem_of_getElem? (i := 5) rfl) rfl
theorem tw_1_6 : (Cond.initialized "FlowShelf$Slot") ∈ fs_ws := fs_t1 (List.mem_of_getElem? (i := 6) rfl) rfl
theorem tw_1_7 : (Cond.initialized "FlowShelf$Layout") ∈ fs_ws := fs_t1 (List.mem_of_getElem? (i := 7) rfl) rfl
theorem tw_1_8 : (Cond.initialized "FlowShelf$Collector") ∈ fs_ws := fs_t1 (List.mem_of_getElem? (i := 8) rfl) rfl
theorem tw_1_9 : (Cond.initialized "FlowShelf$Table") ∈ fs_ws := fs_t1 (List.mem_of_getElem? (i := 9) rfl) rfl
theorem tw_1_10 : (Cond.initialized "FlowShelf$Ledger") ∈ fs_ws := fs_t1 (List.mem_of_getElem? (i := 10) rfl) rfl
theorem tw_1_11 : (Cond.initialized "FlowShelfModel") ∈ fs_ws := fs_t1 (List.mem_of_getElem? (i := 11) rfl) rfl
theorem tw_1_12 : (Cond.initialized "java/lang/Throwable") ∈ fs_ws := fs_t1 (List.mem_of_getElem? (i := 12) rfl) rfl
theorem tw_1_13 : (Cond.initialized "java/lang/Exception") ∈ fs_ws := fs_t1 (List.mem_of_getElem? (i := 13) rfl) rfl
theorem tw_1_14 : (Cond.initialized "java/lang/RuntimeException") ∈ fs_ws := fs_t1 (List.mem_of_getElem? (i := 14) rfl) rfl
theorem tw_1_15 : (Cond.initialized "java/lang/IllegalArgumentException") ∈ fs_ws := fs_t1 (List.mem_of_getElem? (i := 15) rfl) rfl
theorem tw_1_16 : (Cond.initialized "java/lang/IllegalStateException") ∈ fs_ws := fs_t1 (List.mem_of_getElem? (i := 16) rfl) rfl
theorem tw_1_17 : (Cond.initialized "java/util/Objects") ∈ fs_ws := fs_t1 (List.mem_of_getElem? (i := 17) rfl) rfl
theorem tw_1_18 : (Cond.initialized "jdk/internal/util/Preconditions") ∈ fs_ws := fs_t1 (List.mem_of_getElem? (i := 18) rfl) rfl
theorem tw_1_19 : (Cond.initialized "java/lang/System") ∈ fs_ws := fs_t1 (List.mem_of_getElem? (i := 19) rfl) rfl
theorem tw_1_20 : (Cond.initialized "jdk/internal/util/ArraysSupport") ∈ fs_ws := fs_t1 (List.mem_of_getElem? (i := 20) rfl) rfl
theorem tw_1_21 : (Cond.initialized "java/lang/Math") ∈ fs_ws := fs_t1 (List.mem_of_getElem? (i := 21) rfl) rfl
theorem tw_1_22 : (Cond.initialized "java/util/Arrays") ∈ fs_ws := fs_t1 (List.mem_of_getElem? (i := 22) rfl) rfl
theorem tw_1_23 : (Cond.initialized "FlowShelf$Flow") ∈ fs_ws := fs_t1 (List.mem_of_getElem? (i := 23) rfl) rfl
theorem tw_1_24 : (Cond.initialized "java/lang/IndexOutOfBoundsException") ∈ fs_ws := fs_t1 (List.mem_of_getElem? (i := 24) rfl) rfl
theorem tw_1_25 : (Cond.initialized "FlowShelf$Report") ∈ fs_ws := fs_t1 (List.mem_of_getElem? (i := 25) rfl) rfl
theorem tw_1_26 : (Cond.initialized "java/lang/UnsupportedOperationException") ∈ fs_ws := fs_t1 (List.mem_of_getElem? (i := 26) rfl) rfl
theorem tw_1_27 : (Cond.initialized "FlowShelf$Cursor") ∈ fs_ws := fs_t1 (List.mem_of_getElem? (i := 27) rfl) rfl
theorem tw_1_28 : (Cond.initialized "FlowShelf$Row") ∈ fs_ws := fs_t1 (List.mem_of_getElem? (i := 28) rfl) rfl
theorem tw_1_29 : (Cond.classLink "FlowShelfLaw" 8 "FlowShelf") ∈ fs_ws := fs_t1 (List.mem_of_getElem? (i := 29) rfl) rfl
theorem tw_1_30 : (Cond.instantiable "FlowShelf" 4) ∈ fs_ws := fs_t1 (List.mem_of_getElem? (i := 30) rfl) rfl
theorem tw_1_31 : (Cond.methodLink "FlowShelfLaw" 83 ⟨"FlowShelf", "<init>", "()V"⟩) ∈ fs_ws := fs_t1 (List.mem_of_getElem? (i := 31) rfl) rfl
theorem tw_1_32 : (Cond.instanceMethod ⟨"FlowShelf", "<init>", "()V"⟩) ∈ fs_ws := fs_t1 (List.mem_of_getElem? (i := 32) rfl) rfl
theorem tw_1_33 : (Cond.code ⟨"FlowShelf", "<init>", "()V"⟩ prog_1_method_1_code 1 (Option.none : Option FieldType)) ∈ fs_ws := fs_t1 (List.mem_of_getElem? (i := 33) rfl) rfl
theorem tw_1_34 : (Cond.methodLink "FlowShelf" 1 ⟨"java/lang/Object", "<init>", "()V"⟩) ∈ fs_ws := fs_t1 (List.mem_of_getElem? (i := 34) rfl) rfl
theorem tw_1_35 : (Cond.instanceMethod ⟨"java/lang/Object", "<init>", "()V"⟩) ∈ fs_ws := fs_t1 (List.mem_of_getElem? (i := 35) rfl) rfl
theorem tw_1_36 : (Cond.code ⟨"java/lang/Object", "<init>", "()V"⟩ object_method_1_code 1 (Option.none : Option FieldType)) ∈ fs_ws := fs_t1 (List.mem_of_getElem? (i := 36) rfl) rfl
theorem tw_1_37 : (Cond.classLink "FlowShelf" 7 "FlowShelf$Exporter") ∈ fs_ws := fs_t1 (List.mem_of_getElem? (i := 37) rfl) rfl
theorem tw_1_38 : (Cond.instantiable "FlowShelf$Exporter" 11) ∈ fs_ws := fs_t1 (List.mem_of_getElem? (i := 38) rfl) rfl
theorem tw_1_39 : (Cond.methodLink "FlowShelf" 9 ⟨"FlowShelf$Exporter", "<init>", "(I)V"⟩) ∈ fs_ws := fs_t1 (List.mem_of_getElem? (i := 39) rfl) rfl
theorem tw_1_40 : (Cond.instanceMethod ⟨"FlowShelf$Exporter", "<init>", "(I)V"⟩) ∈ fs_ws := fs_t1 (List.mem_of_getElem? (i := 40) rfl) rfl
theorem tw_1_41 : (Cond.code ⟨"FlowShelf$Exporter", "<init>", "(I)V"⟩ prog_4_method_1_code 3 (Option.none : Option FieldType)) ∈ fs_ws := fs_t1 (List.mem_of_getElem? (i := 41) rfl) rfl
theorem tw_1_42 : (Cond.methodLink "FlowShelf$Exporter" 3 ⟨"java/lang/Object", "<init>", "()V"⟩) ∈ fs_ws := fs_t1 (List.mem_of_getElem? (i := 42) rfl) rfl
theorem tw_1_43 : (Cond.classLink "FlowShelf$Exporter" 9 "java/util/ArrayList") ∈ fs_ws := fs_t1 (List.mem_of_getElem? (i := 43) rfl) rfl
theorem tw_1_44 : (Cond.instantiable "java/util/ArrayList" 3) ∈ fs_ws := fs_t1 (List.mem_of_getElem? (i := 44) rfl) rfl
theorem tw_1_45 : (Cond.methodLink "FlowShelf$Exporter" 11 ⟨"java/util/ArrayList", "<init>", "()V"⟩) ∈ fs_ws := fs_t1 (List.mem_of_getElem? (i := 45) rfl) rfl
theorem tw_1_46 : (Cond.instanceMethod ⟨"java/util/ArrayList", "<init>", "()V"⟩) ∈ fs_ws := fs_t1 (List.mem_of_getElem? (i := 46) rfl) rfl
theorem tw_1_47 : (Cond.code ⟨"java/util/ArrayList", "<init>", "()V"⟩ prog_29_method_2_code 1 (Option.none : Option FieldType)) ∈ fs_ws := fs_t1 (List.mem_of_getElem? (i := 47) rfl) rfl
theorem tw_1_48 : (Cond.methodLink "java/util/ArrayList" 1 ⟨"java/util/AbstractList", "<init>", "()V"⟩) ∈ fs_ws := fs_t1 (List.mem_of_getElem? (i := 48) rfl) rfl
theorem tw_1_49 : (Cond.instanceMethod ⟨"java/util/AbstractList", "<init>", "()V"⟩) ∈ fs_ws := fs_t1 (List.mem_of_getElem? (i := 49) rfl) rfl
theorem tw_1_50 : (Cond.code ⟨"java/util/AbstractList", "<init>", "()V"⟩ prog_28_method_1_code 1 (Option.none : Option FieldType)) ∈ fs_ws := fs_t1 (List.mem_of_getElem? (i := 50) rfl) rfl
theorem tw_1_51 : (Cond.methodLink "java/util/AbstractList" 1 ⟨"java/util/AbstractCollection", "<init>", "()V"⟩) ∈ fs_ws := fs_t1 (List.mem_of_getElem? (i := 51) rfl) rfl
theorem tw_1_52 : (Cond.instanceMethod ⟨"java/util/AbstractCollection", "<init>", "()V"⟩) ∈ fs_ws := fs_t1 (List.mem_of_getElem? (i := 52) rfl) rfl
theorem tw_1_53 : (Cond.code ⟨"java/util/AbstractCollection", "<init>", "()V"⟩ prog_27_method_1_code 1 (Option.none : Option FieldType)) ∈ fs_ws := fs_t1 (List.mem_of_getElem? (i := 53) rfl) rfl
theorem tw_1_54 : (Cond.methodLink "java/util/AbstractCollection" 1 ⟨"java/lang/Object", "<init>", "()V"⟩) ∈ fs_ws := fs_t1 (List.mem_of_getElem? (i := 54) rfl) rfl
theorem tw_1_55 : (Cond.fieldLink "java/util/ArrayList" 39 "java/util/ArrayList" "DEFAULTCAPACITY_EMPTY_ELEMENTDATA" "[Ljava/lang/Object;") ∈ fs_ws := fs_t1 (List.mem_of_getElem? (i := 55) rfl) rfl
theorem tw_1_57 : (Cond.fieldLink "java/util/ArrayList" 9 "java/util/ArrayList" "elementData" "[Ljava/lang/Object;") ∈ fs_ws := fs_t1 (List.mem_of_getElem? (i := 57) rfl) rfl
theorem tw_1_58 : (Cond.fieldLink "java/util/ArrayList" 48 "java/util/ArrayList" "size" "I") ∈ fs_ws := fs_t1 (List.mem_of_getElem? (i := 58) rfl) rfl
theorem tw_1_59 : (Cond.fieldLink "java/util/AbstractList" 7 "java/util/AbstractList" "modCount" "I") ∈ fs_ws := fs_t1 (List.mem_of_getElem? (i := 59) rfl) rfl
theorem tw_1_60 : (Cond.fieldLink "java/util/ArrayList" 63 "java/util/ArrayList" "modCount" "I") ∈ fs_ws := fs_t1 (List.mem_of_getElem? (i := 60) rfl) rfl
theorem tw_1_61 : (Cond.sameField "java/util/ArrayList" "java/util/AbstractList" "modCount" "I") ∈ fs_ws := fs_t1 (List.mem_of_getElem? (i := 61) rfl) rfl
theorem tw_1_69 : (Cond.classLink "FlowShelf$Exporter" 21 "FlowShelf$Slot") ∈ fs_ws := fs_t1 (List.mem_of_getElem? (i := 69) rfl) rfl
theorem tw_1_71 : (Cond.instantiable "FlowShelf$Slot" 6) ∈ fs_ws := fs_t1 (List.mem_of_getElem? (i := 71) rfl) rfl
theorem tw_1_72 : (Cond.methodLink "FlowShelf$Exporter" 34 ⟨"FlowShelf$Slot", "<init>", "(I)V"⟩) ∈ fs_ws := fs_t1 (List.mem_of_getElem? (i := 72) rfl) rfl
theorem tw_1_73 : (Cond.instanceMethod ⟨"FlowShelf$Slot", "<init>", "(I)V"⟩) ∈ fs_ws := fs_t1 (List.mem_of_getElem? (i := 73) rfl) rfl
theorem tw_1_74 : (Cond.code ⟨"FlowShelf$Slot", "<init>", "(I)V"⟩ prog_10_method_1_code 2 (Option.none : Option FieldType)) ∈ fs_ws := fs_t1 (List.mem_of_getElem? (i := 74) rfl) rfl
theorem tw_1_75 : (Cond.methodLink "FlowShelf$Slot" 1 ⟨"java/lang/Object", "<init>", "()V"⟩) ∈ fs_ws := fs_t1 (List.mem_of_getElem? (i := 75) rfl) rfl
theorem tw_1_76 : (Cond.classLink "FlowShelf$Slot" 7 "FlowShelf$Layout") ∈ fs_ws := fs_t1 (List.mem_of_getElem? (i := 76) rfl) rfl
theorem tw_1_77 : (Cond.instantiable "FlowShelf$Layout" 3) ∈ fs_ws := fs_t1 (List.mem_of_getElem? (i := 77) rfl) rfl
theorem tw_1_79 : (Cond.instanceMethod ⟨"FlowShelf$Layout", "<init>", "()V"⟩) ∈ fs_ws := fs_t1 (List.mem_of_getElem? (i := 79) rfl) rfl
theorem tw_1_80 : (Cond.code ⟨"FlowShelf$Layout", "<init>", "()V"⟩ prog_6_method_1_code 1 (Option.none : Option FieldType)) ∈ fs_ws := fs_t1 (List.mem_of_getElem? (i := 80) rfl) rfl
theorem tw_1_81 : (Cond.methodLink "FlowShelf$Layout" 3 ⟨"java/lang/Object", "<init>", "()V"⟩) ∈ fs_ws := fs_t1 (List.mem_of_getElem? (i := 81) rfl) rfl
theorem tw_1_82 : (Cond.fieldLink "FlowShelf$Layout" 9 "FlowShelf$Layout" "fields" "[I") ∈ fs_ws := fs_t1 (List.mem_of_getElem? (i := 82) rfl) rfl
theorem tw_1_83 : (Cond.fieldLink "FlowShelf$Exporter" 143 "FlowShelf$Layout" "fields" "[I") ∈ fs_ws := fs_t1 (List.mem_of_getElem? (i := 83) rfl) rfl
theorem tw_1_84 : (Cond.fieldLink "FlowShelf$Layout" 15 "FlowShelf$Layout" "lengths" "[I") ∈ fs_ws := fs_t1 (List.mem_of_getElem? (i := 84) rfl) rfl
theorem tw_1_85 : (Cond.fieldLink "FlowShelf$Exporter" 147 "FlowShelf$Layout" "lengths" "[I") ∈ fs_ws := fs_t1 (List.mem_of_getElem? (i := 85) rfl) rfl
theorem tw_1_86 : (Cond.fieldLink "FlowShelf$Layout" 18 "FlowShelf$Layout" "used" "I") ∈ fs_ws := fs_t1 (List.mem_of_getElem? (i := 86) rfl) rfl
theorem tw_1_87 : (Cond.fieldLink "FlowShelf$Slot" 23 "FlowShelf$Layout" "used" "I") ∈ fs_ws := fs_t1 (List.mem_of_getElem? (i := 87) rfl) rfl
theorem tw_1_88 : (Cond.fieldLink "FlowShelf" 135 "FlowShelf$Layout" "used" "I") ∈ fs_ws := fs_t1 (List.mem_of_getElem? (i := 88) rfl) rfl
theorem tw_1_89 : (Cond.fieldLink "FlowShelf$Exporter" 138 "FlowShelf$Layout" "used" "I") ∈ fs_ws := fs_t1 (List.mem_of_getElem? (i := 89) rfl) rfl
theorem tw_1_97 : (Cond.arrayClass FieldType.int) ∈ fs_ws := fs_t1 (List.mem_of_getElem? (i := 97) rfl) rfl
theorem tw_1_98 : (Cond.fieldLink "FlowShelf$Slot" 19 "FlowShelf$Slot" "number" "I") ∈ fs_ws := fs_t1 (List.mem_of_getElem? (i := 98) rfl) rfl
theorem tw_1_99 : (Cond.fieldLink "FlowShelf$Exporter" 127 "FlowShelf$Slot" "number" "I") ∈ fs_ws := fs_t1 (List.mem_of_getElem? (i := 99) rfl) rfl
theorem tw_1_100 : (Cond.fieldLink "FlowShelf$Slot" 10 "FlowShelf$Slot" "draft" "LFlowShelf$Layout;") ∈ fs_ws := fs_t1 (List.mem_of_getElem? (i := 100) rfl) rfl
theorem tw_1_101 : (Cond.fieldLink "FlowShelf" 118 "FlowShelf$Slot" "draft" "LFlowShelf$Layout;") ∈ fs_ws := fs_t1 (List.mem_of_getElem? (i := 101) rfl) rfl
theorem tw_1_102 : (Cond.fieldLink "FlowShelf$Slot" 16 "FlowShelf$Slot" "layout" "LFlowShelf$Layout;") ∈ fs_ws := fs_t1 (List.mem_of_getElem? (i := 102) rfl) rfl
theorem tw_1_103 : (Cond.fieldLink "FlowShelf$Exporter" 134 "FlowShelf$Slot" "layout" "LFlowShelf$Layout;") ∈ fs_ws := fs_t1 (List.mem_of_getElem? (i := 103) rfl) rfl
theorem tw_1_104 : (Cond.fieldLink "FlowShelf$Slot" 26 "FlowShelf$Slot" "inForce" "Z") ∈ fs_ws := fs_t1 (List.mem_of_getElem? (i := 104) rfl) rfl
theorem tw_1_105 : (Cond.fieldLink "FlowShelf" 139 "FlowShelf$Slot" "inForce" "Z") ∈ fs_ws := fs_t1 (List.mem_of_getElem? (i := 105) rfl) rfl
theorem tw_1_106 : (Cond.fieldLink "FlowShelf$Exporter" 97 "FlowShelf$Slot" "inForce" "Z") ∈ fs_ws := fs_t1 (List.mem_of_getElem? (i := 106) rfl) rfl
theorem tw_1_107 : (Cond.fieldLink "FlowShelf$Slot" 30 "FlowShelf$Slot" "revision" "I") ∈ fs_ws := fs_t1 (List.mem_of_getElem? (i := 107) rfl) rfl
theorem tw_1_108 : (Cond.fieldLink "FlowShelf" 151 "FlowShelf$Slot" "revision" "I") ∈ fs_ws := fs_t1 (List.mem_of_getElem? (i := 108) rfl) rfl
theorem tw_1_109 : (Cond.fieldLink "FlowShelf$Exporter" 131 "FlowShelf$Slot" "revision" "I") ∈ fs_ws := fs_t1 (List.mem_of_getElem? (i := 109) rfl) rfl
theorem tw_1_110 : (Cond.fieldLink "FlowShelf$Slot" 33 "FlowShelf$Slot" "sealedAt" "I") ∈ fs_ws := fs_t1 (List.mem_of_getElem? (i := 110) rfl) rfl
theorem tw_1_111 : (Cond.fieldLink "FlowShelf$Exporter" 101 "FlowShelf$Slot" "sealedAt" "I") ∈ fs_ws := fs_t1 (List.mem_of_getElem? (i := 111) rfl) rfl
theorem tw_1_125 : (Cond.fieldLink "FlowShelf$Exporter" 31 "FlowShelf$Exporter" "number" "I") ∈ fs_ws := fs_t1 (List.mem_of_getElem? (i := 125) rfl) rfl
theorem tw_1_126 : (Cond.fieldLink "FlowShelf$Exporter" 12 "FlowShelf$Exporter" "cache" "Ljava/util/ArrayList;") ∈ fs_ws := fs_t1 (List.mem_of_getElem? (i := 126) rfl) rfl
theorem tw_1_127 : (Cond.fieldLink "FlowShelf" 284 "FlowShelf$Exporter" "cache" "Ljava/util/ArrayList;") ∈ fs_ws := fs_t1 (List.mem_of_getElem? (i := 127) rfl) rfl
theorem tw_1_128 : (Cond.fieldLink "FlowShelf$Exporter" 18 "FlowShelf$Exporter" "endedFlows" "Ljava/util/ArrayList;") ∈ fs_ws := fs_t1 (List.mem_of_getElem? (i := 128) rfl) rfl
theorem tw_1_129 : (Cond.fieldLink "FlowShelf" 85 "FlowShelf$Exporter" "endedFlows" "Ljava/util/ArrayList;") ∈ fs_ws := fs_t1 (List.mem_of_getElem? (i := 129) rfl) rfl
theorem tw_1_130 : (Cond.fieldLink "FlowShelf$Exporter" 23 "FlowShelf$Exporter" "slots" "[LFlowShelf$Slot;") ∈ fs_ws := fs_t1 (List.mem_of_getElem? (i := 130) rfl) rfl
theorem tw_1_131 : (Cond.fieldLink "FlowShelf" 188 "FlowShelf$Exporter" "slots" "[LFlowShelf$Slot;") ∈ fs_ws := fs_t1 (List.mem_of_getElem? (i := 131) rfl) rfl
theorem tw_1_132 : (Cond.fieldLink "FlowShelf$Exporter" 57 "FlowShelf$Exporter" "clock" "I") ∈ fs_ws := fs_t1 (List.mem_of_getElem? (i := 132) rfl) rfl
theorem tw_1_133 : (Cond.fieldLink "FlowShelf" 281 "FlowShelf$Exporter" "clock" "I") ∈ fs_ws := fs_t1 (List.mem_of_getElem? (i := 133) rfl) rfl
theorem tw_1_134 : (Cond.fieldLink "FlowShelf" 156 "FlowShelf$Exporter" "epoch" "I") ∈ fs_ws := fs_t1 (List.mem_of_getElem? (i := 134) rfl) rfl
theorem tw_1_135 : (Cond.fieldLink "FlowShelf$Exporter" 104 "FlowShelf$Exporter" "epoch" "I") ∈ fs_ws := fs_t1 (List.mem_of_getElem? (i := 135) rfl) rfl
theorem tw_1_136 : (Cond.fieldLink "FlowShelf$Exporter" 27 "FlowShelf$Exporter" "sampleOf" "I") ∈ fs_ws := fs_t1 (List.mem_of_getElem? (i := 136) rfl) rfl
theorem tw_1_137 : (Cond.fieldLink "FlowShelf$Exporter" 41 "FlowShelf$Exporter" "sampleCounter" "I") ∈ fs_ws := fs_t1 (List.mem_of_getElem? (i := 137) rfl) rfl
theorem tw_1_138 : (Cond.fieldLink "FlowShelf$Exporter" 94 "FlowShelf$Exporter" "seals" "I") ∈ fs_ws := fs_t1 (List.mem_of_getElem? (i := 138) rfl) rfl
theorem tw_1_139 : (Cond.fieldLink "FlowShelf" 183 "FlowShelf$Exporter" "written" "I") ∈ fs_ws := fs_t1 (List.mem_of_getElem? (i := 139) rfl) rfl
theorem tw_1_140 : (Cond.fieldLink "FlowShelf$Exporter" 116 "FlowShelf$Exporter" "written" "I") ∈ fs_ws := fs_t1 (List.mem_of_getElem? (i := 140) rfl) rfl
theorem tw_1_141 : (Cond.fieldLink "FlowShelf$Exporter" 119 "FlowShelf$Exporter" "samplersWritten" "I") ∈ fs_ws := fs_t1 (List.mem_of_getElem? (i := 141) rfl) rfl
theorem tw_1_165 : (Cond.classLink "FlowShelf" 21 "java/util/ArrayList") ∈ fs_ws := fs_t1 (List.mem_of_getElem? (i := 165) rfl) rfl
theorem tw_1_166 : (Cond.methodLink "FlowShelf" 23 ⟨"java/util/ArrayList", "<init>", "()V"⟩) ∈ fs_ws := fs_t1 (List.mem_of_getElem? (i := 166) rfl) rfl
theorem tw_1_167 : (Cond.classLink "FlowShelf" 28 "FlowShelf$Collector") ∈ fs_ws := fs_t1 (List.mem_of_getElem? (i := 167) rfl) rfl
theorem tw_1_168 : (Cond.instantiable "FlowShelf$Collector" 5) ∈ fs_ws := fs_t1 (List.mem_of_getElem? (i := 168) rfl) rfl
theorem tw_1_170 : (Cond.instanceMethod ⟨"FlowShelf$Collector", "<init>", "()V"⟩) ∈ fs_ws := fs_t1 (List.mem_of_getElem? (i := 170) rfl) rfl
theorem tw_1_171 : (Cond.code ⟨"FlowShelf$Collector", "<init>", "()V"⟩ prog_2_method_1_code 1 (Option.none : Option FieldType)) ∈ fs_ws := fs_t1 (List.mem_of_getElem? (i := 171) rfl) rfl
theorem tw_1_172 : (Cond.methodLink "FlowShelf$Collector" 3 ⟨"java/lang/Object", "<init>", "()V"⟩) ∈ fs_ws := fs_t1 (List.mem_of_getElem? (i := 172) rfl) rfl
theorem tw_1_173 : (Cond.classLink "FlowShelf$Collector" 9 "java/util/ArrayList") ∈ fs_ws := fs_t1 (List.mem_of_getElem? (i := 173) rfl) rfl
theorem tw_1_174 : (Cond.methodLink "FlowShelf$Collector" 11 ⟨"java/util/ArrayList", "<init>", "()V"⟩) ∈ fs_ws := fs_t1 (List.mem_of_getElem? (i := 174) rfl) rfl
theorem tw_1_175 : (Cond.classLink "FlowShelf$Collector" 21 "FlowShelf$Table") ∈ fs_ws := fs_t1 (List.mem_of_getElem? (i := 175) rfl) rfl
theorem tw_1_176 : (Cond.instantiable "FlowShelf$Table" 5) ∈ fs_ws := fs_t1 (List.mem_of_getElem? (i := 176) rfl) rfl
theorem tw_1_178 : (Cond.instanceMethod ⟨"FlowShelf$Table", "<init>", "()V"⟩) ∈ fs_ws := fs_t1 (List.mem_of_getElem? (i := 178) rfl) rfl
theorem tw_1_179 : (Cond.code ⟨"FlowShelf$Table", "<init>", "()V"⟩ prog_11_method_1_code 1 (Option.none : Option FieldType)) ∈ fs_ws := fs_t1 (List.mem_of_getElem? (i := 179) rfl) rfl
theorem tw_1_180 : (Cond.methodLink "FlowShelf$Table" 3 ⟨"java/lang/Object", "<init>", "()V"⟩) ∈ fs_ws := fs_t1 (List.mem_of_getElem? (i := 180) rfl) rfl
theorem tw_1_181 : (Cond.classLink "FlowShelf$Table" 9 "java/util/ArrayList") ∈ fs_ws := fs_t1 (List.mem_of_getElem? (i := 181) rfl) rfl
theorem tw_1_182 : (Cond.methodLink "FlowShelf$Table" 11 ⟨"java/util/ArrayList", "<init>", "()V"⟩) ∈ fs_ws := fs_t1 (List.mem_of_getElem? (i := 182) rfl) rfl
theorem tw_1_183 : (Cond.fieldLink "FlowShelf$Table" 12 "FlowShelf$Table" "list" "Ljava/util/ArrayList;") ∈ fs_ws := fs_t1 (List.mem_of_getElem? (i := 183) rfl) rfl
theorem tw_1_184 : (Cond.fieldLink "FlowShelf$Collector" 86 "FlowShelf$Table" "list" "Ljava/util/ArrayList;") ∈ fs_ws := fs_t1 (List.mem_of_getElem? (i := 184) rfl) rfl
theorem tw_1_185 : (Cond.fieldLink "FlowShelf" 251 "FlowShelf$Table" "list" "Ljava/util/ArrayList;") ∈ fs_ws := fs_t1 (List.mem_of_getElem? (i := 185) rfl) rfl
theorem tw_1_186 : (Cond.fieldLink "FlowShelf$Table" 18 "FlowShelf$Table" "partner" "[I") ∈ fs_ws := fs_t1 (List.mem_of_getElem? (i := 186) rfl) rfl
theorem tw_1_187 : (Cond.fieldLink "FlowShelf$Table" 22 "FlowShelf$Table" "order" "[I") ∈ fs_ws := fs_t1 (List.mem_of_getElem? (i := 187) rfl) rfl
theorem tw_1_188 : (Cond.fieldLink "FlowShelf$Table" 69 "FlowShelf$Table" "ordered" "I") ∈ fs_ws := fs_t1 (List.mem_of_getElem? (i := 188) rfl) rfl
theorem tw_1_189 : (Cond.fieldLink "FlowShelf$Table" 54 "FlowShelf$Table" "pairedRows" "I") ∈ fs_ws := fs_t1 (List.mem_of_getElem? (i := 189) rfl) rfl
theorem tw_1_201 : (Cond.classLink "FlowShelf$Collector" 28 "FlowShelf$Ledger") ∈ fs_ws := fs_t1 (List.mem_of_getElem? (i := 201) rfl) rfl
theorem tw_1_202 : (Cond.instantiable "FlowShelf$Ledger" 6) ∈ fs_ws := fs_t1 (List.mem_of_getElem? (i := 202) rfl) rfl
theorem tw_1_204 : (Cond.instanceMethod ⟨"FlowShelf$Ledger", "<init>", "()V"⟩) ∈ fs_ws := fs_t1 (List.mem_of_getElem? (i := 204) rfl) rfl
theorem tw_1_205 : (Cond.code ⟨"FlowShelf$Ledger", "<init>", "()V"⟩ prog_7_method_1_code 1 (Option.none : Option FieldType)) ∈ fs_ws := fs_t1 (List.mem_of_getElem? (i := 205) rfl) rfl
theorem tw_1_206 : (Cond.methodLink "FlowShelf$Ledger" 3 ⟨"java/lang/Object", "<init>", "()V"⟩) ∈ fs_ws := fs_t1 (List.mem_of_getElem? (i := 206) rfl) rfl
theorem tw_1_207 : (Cond.fieldLink "FlowShelf$Ledger" 9 "FlowShelf$Ledger" "heard" "[Z") ∈ fs_ws := fs_t1 (List.mem_of_getElem? (i := 207) rfl) rfl
theorem tw_1_208 : (Cond.fieldLink "FlowShelf$Collector" 128 "FlowShelf$Ledger" "dropped" "I") ∈ fs_ws := fs_t1 (List.mem_of_getElem? (i := 208) rfl) rfl
theorem tw_1_209 : (Cond.fieldLink "FlowShelf" 293 "FlowShelf$Ledger" "dropped" "I") ∈ fs_ws := fs_t1 (List.mem_of_getElem? (i := 209) rfl) rfl
theorem tw_1_210 : (Cond.fieldLink "FlowShelf$Collector" 107 "FlowShelf$Ledger" "spoilt" "I") ∈ fs_ws := fs_t1 (List.mem_of_getElem? (i := 210) rfl) rfl
theorem tw_1_211 : (Cond.fieldLink "FlowShelf" 296 "FlowShelf$Ledger" "spoilt" "I") ∈ fs_ws := fs_t1 (List.mem_of_getElem? (i := 211) rfl) rfl
theorem tw_1_212 : (Cond.fieldLink "FlowShelf$Ledger" 31 "FlowShelf$Ledger" "notedSampler" "I") ∈ fs_ws := fs_t1 (List.mem_of_getElem? (i := 212) rfl) rfl
theorem tw_1_213 : (Cond.fieldLink "FlowShelf" 299 "FlowShelf$Ledger" "notedSampler" "I") ∈ fs_ws := fs_t1 (List.mem_of_getElem? (i := 213) rfl) rfl
theorem tw_1_214 : (Cond.fieldLink "FlowShelf$Ledger" 35 "FlowShelf$Ledger" "notedEpoch" "I") ∈ fs_ws := fs_t1 (List.mem_of_getElem? (i := 214) rfl) rfl
theorem tw_1_215 : (Cond.fieldLink "FlowShelf$Ledger" 41 "FlowShelf$Ledger" "notedBefore" "I") ∈ fs_ws := fs_t1 (List.mem_of_getElem? (i := 215) rfl) rfl
theorem tw_1_229 : (Cond.arrayClass FieldType.boolean) ∈ fs_ws := fs_t1 (List.mem_of_getElem? (i := 229) rfl) rfl
theorem tw_1_230 : (Cond.fieldLink "FlowShelf$Collector" 12 "FlowShelf$Collector" "known" "Ljava/util/ArrayList;") ∈ fs_ws := fs_t1 (List.mem_of_getElem? (i := 230) rfl) rfl
theorem tw_1_231 : (Cond.fieldLink "FlowShelf$Collector" 18 "FlowShelf$Collector" "shelf" "Ljava/util/ArrayList;") ∈ fs_ws := fs_t1 (List.mem_of_getElem? (i := 231) rfl) rfl
theorem tw_1_232 : (Cond.fieldLink "FlowShelf$Collector" 24 "FlowShelf$Collector" "table" "LFlowShelf$Table;") ∈ fs_ws := fs_t1 (List.mem_of_getElem? (i := 232) rfl) rfl
theorem tw_1_233 : (Cond.fieldLink "FlowShelf" 247 "FlowShelf$Collector" "table" "LFlowShelf$Table;") ∈ fs_ws := fs_t1 (List.mem_of_getElem? (i := 233) rfl) rfl
theorem tw_1_234 : (Cond.fieldLink "FlowShelf$Collector" 31 "FlowShelf$Collector" "ofFirst" "LFlowShelf$Ledger;") ∈ fs_ws := fs_t1 (List.mem_of_getElem? (i := 234) rfl) rfl
theorem tw_1_235 : (Cond.fieldLink "FlowShelf$Collector" 35 "FlowShelf$Collector" "ofSecond" "LFlowShelf$Ledger;") ∈ fs_ws := fs_t1 (List.mem_of_getElem? (i := 235) rfl) rfl
theorem tw_2_7 : (Cond.fieldLink "FlowShelf" 12 "FlowShelf" "first" "LFlowShelf$Exporter;") ∈ fs_ws := fs_t2 (List.mem_of_getElem? (i := 7) rfl) rfl
theorem tw_2_8 : (Cond.fieldLink "FlowShelf" 18 "FlowShelf" "second" "LFlowShelf$Exporter;") ∈ fs_ws := fs_t2 (List.mem_of_getElem? (i := 8) rfl) rfl
theorem tw_2_9 : (Cond.fieldLink "FlowShelf" 24 "FlowShelf" "reports" "Ljava/util/ArrayList;") ∈ fs_ws := fs_t2 (List.mem_of_getElem? (i := 9) rfl) rfl
theorem tw_2_10 : (Cond.fieldLink "FlowShelf" 31 "FlowShelf" "collector" "LFlowShelf$Collector;") ∈ fs_ws := fs_t2 (List.mem_of_getElem? (i := 10) rfl) rfl
theorem tw_2_20 : (Cond.methodLink "FlowShelfLaw" 135 ⟨"FlowShelf", "size", "(I)I"⟩) ∈ fs_ws := fs_t2 (List.mem_of_getElem? (i := 20) rfl) rfl
theorem tw_2_21 : (Cond.instanceMethod ⟨"FlowShelf", "size", "(I)I"⟩) ∈ fs_ws := fs_t2 (List.mem_of_getElem? (i := 21) rfl) rfl
theorem tw_2_22 : (Cond.selects "FlowShelf" ⟨"FlowShelf", "size", "(I)I"⟩ ⟨"FlowShelf", "size", "(I)I"⟩) ∈ fs_ws := fs_t2 (List.mem_of_getElem? (i := 22) rfl) rfl
theorem tw_2_23 : (Cond.code ⟨"FlowShelf", "size", "(I)I"⟩ prog_1_method_14_code 2 (Option.some FieldType.int)) ∈ fs_ws := fs_t2 (List.mem_of_getElem? (i := 23) rfl) rfl
theorem tw_2_24 : (Cond.methodLink "FlowShelf" 201 ⟨"FlowShelf", "isReport", "(I)Z"⟩) ∈ fs_ws := fs_t2 (List.mem_of_getElem? (i := 24) rfl) rfl
theorem tw_2_26 : (Cond.instanceMethod ⟨"FlowShelf", "isReport", "(I)Z"⟩) ∈ fs_ws := fs_t2 (List.mem_of_getElem? (i := 26) rfl) rfl
theorem tw_2_27 : (Cond.code ⟨"FlowShelf", "isReport", "(I)Z"⟩ prog_1_method_29_code 2 (Option.some FieldType.boolean)) ∈ fs_ws := fs_t2 (List.mem_of_getElem? (i := 27) rfl) rfl
theorem tw_2_28 : (Cond.methodLink "FlowShelf" 88 ⟨"java/util/ArrayList", "size", "()I"⟩) ∈ fs_ws := fs_t2 (List.mem_of_getElem? (i := 28) rfl) rfl
theorem tw_2_29 : (Cond.instanceMethod ⟨"java/util/ArrayList", "size", "()I"⟩) ∈ fs_ws := fs_t2 (List.mem_of_getElem? (i := 29) rfl) rfl
theorem tw_2_30 : (Cond.selects "java/util/ArrayList" ⟨"java/util/ArrayList", "size", "()I"⟩ ⟨"java/util/ArrayList", "size", "()I"⟩) ∈ fs_ws := fs_t2 (List.mem_of_getElem? (i := 30) rfl) rfl
theorem tw_2_31 : (Cond.code ⟨"java/util/ArrayList", "size", "()I"⟩ prog_29_method_8_code 1 (Option.some FieldType.int)) ∈ fs_ws := fs_t2 (List.mem_of_getElem? (i := 31) rfl) rfl
theorem tw_2_32 : (Cond.methodLink "FlowShelf" 96 ⟨"java/util/ArrayList", "get", "(I)Ljava/lang/Object;"⟩) ∈ fs_ws := fs_t2 (List.mem_of_getElem? (i := 32) rfl) rfl
theorem tw_2_33 : (Cond.instanceMethod ⟨"java/util/ArrayList", "get", "(I)Ljava/lang/Object;"⟩) ∈ fs_ws := fs_t2 (List.mem_of_getElem? (i := 33) rfl) rfl
theorem tw_2_34 : (Cond.selects "java/util/ArrayList" ⟨"java/util/ArrayList", "get", "(I)Ljava/lang/Object;"⟩ ⟨"java/util/ArrayList", "get", "(I)Ljava/lang/Object;"⟩) ∈ fs_ws := fs_t2 (List.mem_of_getElem? (i := 34) rfl) rfl
theorem tw_2_35 : (Cond.code ⟨"java/util/ArrayList", "get", "(I)Ljava/lang/Object;"⟩ prog_29_method_20_code 2 (Option.some (FieldType.object "java/lang/Object"))) ∈ fs_ws := fs_t2 (List.mem_of_getElem? (i := 35) rfl) rfl
theorem tw_2_36 : (Cond.methodLink "java/util/ArrayList" 118 ⟨"java/util/Objects", "checkIndex", "(II)I"⟩) ∈ fs_ws := fs_t2 (List.mem_of_getElem? (i := 36) rfl) rfl
theorem tw_2_37 : (Cond.static ⟨"java/util/Objects", "checkIndex", "(II)I"⟩) ∈ fs_ws := fs_t2 (List.mem_of_getElem? (i := 37) rfl) rfl
theorem tw_2_38 : (Cond.code ⟨"java/util/Objects", "checkIndex", "(II)I"⟩ prog_33_method_17_code 2 (Option.some FieldType.int)) ∈ fs_ws := fs_t2 (List.mem_of_getElem? (i := 38) rfl) rfl
theorem tw_2_39 : (Cond.methodLink "java/util/Objects" 105 ⟨"jdk/internal/util/Preconditions", "checkIndex", "(IILjava/util/function/BiFunction;)I"⟩) ∈ fs_ws := fs_t2 (List.mem_of_getElem? (i := 39) rfl) rfl
theorem tw_2_40 : (Cond.static ⟨"jdk/internal/util/Preconditions", "checkIndex", "(IILjava/util/function/BiFunction;)I"⟩) ∈ fs_ws := fs_t2 (List.mem_of_getElem? (i := 40) rfl) rfl
theorem tw_2_41 : (Cond.code ⟨"jdk/internal/util/Preconditions", "checkIndex", "(IILjava/util/function/BiFunction;)I"⟩ prog_37_method_11_code 3 (Option.some FieldType.int)) ∈ fs_ws := fs_t2 (List.mem_of_getElem? (i := 41) rfl) rfl
theorem tw_2_42 : (Cond.methodLink "java/util/ArrayList" 123 ⟨"java/util/ArrayList", "elementData", "(I)Ljava/lang/Object;"⟩) ∈ fs_ws := fs_t2 (List.mem_of_getElem? (i := 42) rfl) rfl
theorem tw_2_43 : (Cond.instanceMethod ⟨"java/util/ArrayList", "elementData", "(I)Ljava/lang/Object;"⟩) ∈ fs_ws := fs_t2 (List.mem_of_getElem? (i := 43) rfl) rfl
theorem tw_2_44 : (Cond.selects "java/util/ArrayList" ⟨"java/util/ArrayList", "elementData", "(I)Ljava/lang/Object;"⟩ ⟨"java/util/ArrayList", "elementData", "(I)Ljava/lang/Object;"⟩) ∈ fs_ws := fs_t2 (List.mem_of_getElem? (i := 44) rfl) rfl
theorem tw_2_45 : (Cond.code ⟨"java/util/ArrayList", "elementData", "(I)Ljava/lang/Object;"⟩ prog_29_method_18_code 2 (Option.some (FieldType.object "java/lang/Object"))) ∈ fs_ws := fs_t2 (List.mem_of_getElem? (i := 45) rfl) rfl
theorem tw_2_46 : (Cond.classLink "FlowShelf" 204 "FlowShelf$Report") ∈ fs_ws := fs_t2 (List.mem_of_getElem? (i := 46) rfl) rfl
theorem tw_2_47 : (Cond.methodLink "FlowShelfLaw" 149 ⟨"FlowShelf", "rows", "()I"⟩) ∈ fs_ws := fs_t2 (List.mem_of_getElem? (i := 47) rfl) rfl
theorem tw_2_48 : (Cond.instanceMethod ⟨"FlowShelf", "rows", "()I"⟩) ∈ fs_ws := fs_t2 (List.mem_of_getElem? (i := 48) rfl) rfl
theorem tw_2_49 : (Cond.selects "FlowShelf" ⟨"FlowShelf", "rows", "()I"⟩ ⟨"FlowShelf", "rows", "()I"⟩) ∈ fs_ws := fs_t2 (List.mem_of_getElem? (i := 49) rfl) rfl
theorem tw_2_50 : (Cond.code ⟨"FlowShelf", "rows", "()I"⟩ prog_1_method_18_code 1 (Option.some FieldType.int)) ∈ fs_ws := fs_t2 (List.mem_of_getElem? (i := 50) rfl) rfl
theorem tw_2_51 : (Cond.methodLink "FlowShelfLaw" 87 ⟨"FlowShelfLaw", "packet", "(LFlowShelf;IIIIIZ[J)I"⟩) ∈ fs_ws := fs_t2 (List.mem_of_getElem? (i := 51) rfl) rfl
theorem tw_2_52 : (Cond.static ⟨"FlowShelfLaw", "packet", "(LFlowShelf;IIIIIZ[J)I"⟩) ∈ fs_ws := fs_t2 (List.mem_of_getElem? (i := 52) rfl) rfl
theorem tw_2_53 : (Cond.codeWith ⟨"FlowShelfLaw", "packet", "(LFlowShelf;IIIIIZ[J)I"⟩ method_3_code 9 (Option.some FieldType.int) [(0, 25, 28, 13), (0, 25, 32, 15)]) ∈ fs_ws := fs_t2 (List.mem_of_getElem? (i := 53) rfl) rfl
theorem tw_2_54 : (Cond.classLink "FlowShelfLaw" 13 "java/lang/IllegalArgumentException") ∈ fs_ws := fs_t2 (List.mem_of_getElem? (i := 54) rfl) rfl
theorem tw_2_55 : (Cond.classLink "FlowShelfLaw" 15 "java/lang/IllegalStateException") ∈ fs_ws := fs_t2 (List.mem_of_getElem? (i := 55) rfl) rfl
theorem tw_2_56 : (Cond.methodLink "FlowShelfLaw" 7 ⟨"FlowShelf", "packet", "(IIIIIZ)Z"⟩) ∈ fs_ws := fs_t2 (List.mem_of_getElem? (i := 56) rfl) rfl
theorem tw_2_57 : (Cond.instanceMethod ⟨"FlowShelf", "packet", "(IIIIIZ)Z"⟩) ∈ fs_ws := fs_t2 (List.mem_of_getElem? (i := 57) rfl) rfl
theorem tw_2_58 : (Cond.selects "FlowShelf" ⟨"FlowShelf", "packet", "(IIIIIZ)Z"⟩ ⟨"FlowShelf", "packet", "(IIIIIZ)Z"⟩) ∈ fs_ws := fs_t2 (List.mem_of_getElem? (i := 58) rfl) rfl
theorem tw_2_59 : (Cond.code ⟨"FlowShelf", "packet", "(IIIIIZ)Z"⟩ prog_1_method_2_code 8 (Option.some FieldType.boolean)) ∈ fs_ws := fs_t2 (List.mem_of_getElem? (i := 59) rfl) rfl
theorem tw_2_60 : (Cond.methodLink "FlowShelf" 35 ⟨"FlowShelf", "exporterOf", "(I)LFlowShelf$Exporter;"⟩) ∈ fs_ws := fs_t2 (List.mem_of_getElem? (i := 60) rfl) rfl
theorem tw_2_62 : (Cond.instanceMethod ⟨"FlowShelf", "exporterOf", "(I)LFlowShelf$Exporter;"⟩) ∈ fs_ws := fs_t2 (List.mem_of_getElem? (i := 62) rfl) rfl
theorem tw_2_63 : (Cond.code ⟨"FlowShelf", "exporterOf", "(I)LFlowShelf$Exporter;"⟩ prog_1_method_27_code 2 (Option.some (FieldType.object "FlowShelf$Exporter"))) ∈ fs_ws := fs_t2 (List.mem_of_getElem? (i := 63) rfl) rfl
theorem tw_2_64 : (Cond.methodLink "FlowShelf" 269 ⟨"FlowShelf", "isExporter", "(I)Z"⟩) ∈ fs_ws := fs_t2 (List.mem_of_getElem? (i := 64) rfl) rfl
theorem tw_2_65 : (Cond.static ⟨"FlowShelf", "isExporter", "(I)Z"⟩) ∈ fs_ws := fs_t2 (List.mem_of_getElem? (i := 65) rfl) rfl
theorem tw_2_66 : (Cond.code ⟨"FlowShelf", "isExporter", "(I)Z"⟩ prog_1_method_23_code 1 (Option.some FieldType.boolean)) ∈ fs_ws := fs_t2 (List.mem_of_getElem? (i := 66) rfl) rfl
theorem tw_2_67 : (Cond.classLink "FlowShelf" 43 "java/lang/IllegalArgumentException") ∈ fs_ws := fs_t2 (List.mem_of_getElem? (i := 67) rfl) rfl
theorem tw_2_68 : (Cond.instantiable "java/lang/IllegalArgumentException" 6) ∈ fs_ws := fs_t2 (List.mem_of_getElem? (i := 68) rfl) rfl
theorem tw_2_76 : (Cond.selects "java/lang/IllegalArgumentException" ⟨"java/lang/Throwable", "fillInStackTrace", "(I)Ljava/lang/Throwable;"⟩ ⟨"java/lang/Throwable", "fillInStackTrace", "(I)Ljava/lang/Throwable;"⟩) ∈ fs_ws := fs_t2 (List.mem_of_getElem? (i := 76) rfl) rfl
theorem tw_2_77 : (Cond.selects "java/lang/IllegalArgumentException" ⟨"java/lang/Throwable", "fillInStackTrace", "()Ljava/lang/Throwable;"⟩ ⟨"java/lang/Throwable", "fillInStackTrace", "()Ljava/lang/Throwable;"⟩) ∈ fs_ws := fs_t2 (List.mem_of_getElem? (i := 77) rfl) rfl
theorem tw_2_88 : (Cond.fieldLink "java/lang/Throwable" 198 "java/lang/Throwable" "backtrace" "Ljava/lang/Object;") ∈ fs_ws := fs_t2 (List.mem_of_getElem? (i := 88) rfl) rfl
theorem tw_2_90 : (Cond.instanceMethod ⟨"java/lang/Throwable", "<init>", "()V"⟩) ∈ fs_ws := fs_t2 (List.mem_of_getElem? (i := 90) rfl) rfl
theorem tw_2_91 : (Cond.code ⟨"java/lang/Throwable", "<init>", "()V"⟩ prog_25_method_1_code 1 (Option.none : Option FieldType)) ∈ fs_ws := fs_t2 (List.mem_of_getElem? (i := 91) rfl) rfl
theorem tw_2_92 : (Cond.methodLink "java/lang/Throwable" 1 ⟨"java/lang/Object", "<init>", "()V"⟩) ∈ fs_ws := fs_t2 (List.mem_of_getElem? (i := 92) rfl) rfl
theorem tw_2_93 : (Cond.fieldLink "java/lang/Throwable" 13 "java/lang/Throwable" "UNASSIGNED_STACK" "[Ljava/lang/StackTraceElement;") ∈ fs_ws := fs_t2 (List.mem_of_getElem? (i := 93) rfl) rfl
theorem tw_2_95 : (Cond.fieldLink "java/lang/Throwable" 20 "java/lang/Throwable" "SUPPRESSED_SENTINEL" "Ljava/util/List;") ∈ fs_ws := fs_t2 (List.mem_of_getElem? (i := 95) rfl) rfl
theorem tw_2_97 : (Cond.methodLink "java/lang/Throwable" 27 ⟨"java/lang/Throwable", "fillInStackTrace", "()Ljava/lang/Throwable;"⟩) ∈ fs_ws := fs_t2 (List.mem_of_getElem? (i := 97) rfl) rfl
theorem tw_2_98 : (Cond.instanceMethod ⟨"java/lang/Throwable", "fillInStackTrace", "()Ljava/lang/Throwable;"⟩) ∈ fs_ws := fs_t2 (List.mem_of_getElem? (i := 98) rfl) rfl
theorem tw_2_100 : (Cond.selects "java/lang/IllegalStateException" ⟨"java/lang/Throwable", "fillInStackTrace", "()Ljava/lang/Throwable;"⟩ ⟨"java/lang/Throwable", "fillInStackTrace", "()Ljava/lang/Throwable;"⟩) ∈ fs_ws := fs_t2 (List.mem_of_getElem? (i := 100) rfl) rfl
theorem tw_2_101 : (Cond.selects "java/lang/IndexOutOfBoundsException" ⟨"java/lang/Throwable", "fillInStackTrace", "()Ljava/lang/Throwable;"⟩ ⟨"java/lang/Throwable", "fillInStackTrace", "()Ljava/lang/Throwable;"⟩) ∈ fs_ws := fs_t2 (List.mem_of_getElem? (i := 101) rfl) rfl
theorem tw_2_102 : (Cond.selects "java/lang/UnsupportedOperationException" ⟨"java/lang/Throwable", "fillInStackTrace", "()Ljava/lang/Throwable;"⟩ ⟨"java/lang/Throwable", "fillInStackTrace", "()Ljava/lang/Throwable;"⟩) ∈ fs_ws := fs_t2 (List.mem_of_getElem? (i := 102) rfl) rfl
theorem tw_2_104 : (Cond.methodLink "java/lang/Throwable" 202 ⟨"java/lang/Throwable", "fillInStackTrace", "(I)Ljava/lang/Throwable;"⟩) ∈ fs_ws := fs_t2 (List.mem_of_getElem? (i := 104) rfl) rfl
theorem tw_2_106 : (Cond.instanceMethod ⟨"java/lang/Throwable", "fillInStackTrace", "(I)Ljava/lang/Throwable;"⟩) ∈ fs_ws := fs_t2 (List.mem_of_getElem? (i := 106) rfl) rfl
theorem tw_2_107 : (Cond.instantiable "java/lang/Throwable" 6) ∈ fs_ws := fs_t2 (List.mem_of_getElem? (i := 107) rfl) rfl
theorem tw_2_108 : (Cond.native ⟨"java/lang/Throwable", "fillInStackTrace", "(I)Ljava/lang/Throwable;"⟩) ∈ fs_ws := fs_t2 (List.mem_of_getElem? (i := 108) rfl) rfl
theorem tw_2_110 : (Cond.methodLink "FlowShelf" 47 ⟨"java/lang/IllegalArgumentException", "<init>", "(Ljava/lang/String;)V"⟩) ∈ fs_ws := fs_t2 (List.mem_of_getElem? (i := 110) rfl) rfl
theorem tw_2_111 : (Cond.instanceMethod ⟨"java/lang/IllegalArgumentException", "<init>", "(Ljava/lang/String;)V"⟩) ∈ fs_ws := fs_t2 (List.mem_of_getElem? (i := 111) rfl) rfl
theorem tw_2_112 : (Cond.code ⟨"java/lang/IllegalArgumentException", "<init>", "(Ljava/lang/String;)V"⟩ prog_17_method_2_code 2 (Option.none : Option FieldType)) ∈ fs_ws := fs_t2 (List.mem_of_getElem? (i := 112) rfl) rfl
theorem tw_2_113 : (Cond.methodLink "java/lang/IllegalArgumentException" 7 ⟨"java/lang/RuntimeException", "<init>", "(Ljava/lang/String;)V"⟩) ∈ fs_ws := fs_t2 (List.mem_of_getElem? (i := 113) rfl) rfl
theorem tw_2_114 : (Cond.instanceMethod ⟨"java/lang/RuntimeException", "<init>", "(Ljava/lang/String;)V"⟩) ∈ fs_ws := fs_t2 (List.mem_of_getElem? (i := 114) rfl) rfl
theorem tw_2_115 : (Cond.code ⟨"java/lang/RuntimeException", "<init>", "(Ljava/lang/String;)V"⟩ prog_22_method_2_code 2 (Option.none : Option FieldType)) ∈ fs_ws := fs_t2 (List.mem_of_getElem? (i := 115) rfl) rfl
theorem tw_2_116 : (Cond.methodLink "java/lang/RuntimeException" 7 ⟨"java/lang/Exception", "<init>", "(Ljava/lang/String;)V"⟩) ∈ fs_ws := fs_t2 (List.mem_of_getElem? (i := 116) rfl) rfl
theorem tw_2_117 : (Cond.instanceMethod ⟨"java/lang/Exception", "<init>", "(Ljava/lang/String;)V"⟩) ∈ fs_ws := fs_t2 (List.mem_of_getElem? (i := 117) rfl) rfl
theorem tw_2_118 : (Cond.code ⟨"java/lang/Exception", "<init>", "(Ljava/lang/String;)V"⟩ prog_16_method_2_code 2 (Option.none : Option FieldType)) ∈ fs_ws := fs_t2 (List.mem_of_getElem? (i := 118) rfl) rfl
theorem tw_2_119 : (Cond.methodLink "java/lang/Exception" 7 ⟨"java/lang/Throwable", "<init>", "(Ljava/lang/String;)V"⟩) ∈ fs_ws := fs_t2 (List.mem_of_getElem? (i := 119) rfl) rfl
theorem tw_2_120 : (Cond.instanceMethod ⟨"java/lang/Throwable", "<init>", "(Ljava/lang/String;)V"⟩) ∈ fs_ws := fs_t2 (List.mem_of_getElem? (i := 120) rfl) rfl
theorem tw_2_121 : (Cond.code ⟨"java/lang/Throwable", "<init>", "(Ljava/lang/String;)V"⟩ prog_25_method_2_code 2 (Option.none : Option FieldType)) ∈ fs_ws := fs_t2 (List.mem_of_getElem? (i := 121) rfl) rfl
theorem tw_2_122 : (Cond.fieldLink "java/lang/Throwable" 198 "java/lang/Throwable" "backtrace" "Ljava/lang/Object;") ∈ fs_ws := fs_t2 (List.mem_of_getElem? (i := 122) rfl) rfl
theorem tw_2_123 : (Cond.fieldLink "java/lang/Throwable" 31 "java/lang/Throwable" "detailMessage" "Ljava/lang/String;") ∈ fs_ws := fs_t2 (List.mem_of_getElem? (i := 123) rfl) rfl
theorem tw_2_124 : (Cond.fieldLink "java/lang/Throwable" 7 "java/lang/Throwable" "cause" "Ljava/lang/Throwable;") ∈ fs_ws := fs_t2 (List.mem_of_getElem? (i := 124) rfl) rfl
theorem tw_2_125 : (Cond.fieldLink "java/lang/Throwable" 17 "java/lang/Throwable" "stackTrace" "[Ljava/lang/StackTraceElement;") ∈ fs_ws := fs_t2 (List.mem_of_getElem? (i := 125) rfl) rfl
theorem tw_2_126 : (Cond.fieldLink "java/lang/Throwable" 24 "java/lang/Throwable" "suppressedExceptions" "Ljava/util/List;") ∈ fs_ws := fs_t2 (List.mem_of_getElem? (i := 126) rfl) rfl
theorem tw_2_135 : (Cond.arrayClass FieldType.byte) ∈ fs_ws := fs_t2 (List.mem_of_getElem? (i := 135) rfl) rfl
theorem tw_2_136 : (Cond.methodLink "FlowShelf" 39 ⟨"FlowShelf", "isByte", "(I)Z"⟩) ∈ fs_ws := fs_t2 (List.mem_of_getElem? (i := 136) rfl) rfl
theorem tw_2_137 : (Cond.static ⟨"FlowShelf", "isByte", "(I)Z"⟩) ∈ fs_ws := fs_t2 (List.mem_of_getElem? (i := 137) rfl) rfl
theorem tw_2_138 : (Cond.code ⟨"FlowShelf", "isByte", "(I)Z"⟩ prog_1_method_24_code 1 (Option.some FieldType.boolean)) ∈ fs_ws := fs_t2 (List.mem_of_getElem? (i := 138) rfl) rfl
theorem tw_2_141 : (Cond.methodLink "FlowShelf" 52 ⟨"FlowShelf$Exporter", "flowsHeld", "()I"⟩) ∈ fs_ws := fs_t2 (List.mem_of_getElem? (i := 141) rfl) rfl
theorem tw_2_142 : (Cond.instanceMethod ⟨"FlowShelf$Exporter", "flowsHeld", "()I"⟩) ∈ fs_ws := fs_t2 (List.mem_of_getElem? (i := 142) rfl) rfl
theorem tw_2_143 : (Cond.selects "FlowShelf$Exporter" ⟨"FlowShelf$Exporter", "flowsHeld", "()I"⟩ ⟨"FlowShelf$Exporter", "flowsHeld", "()I"⟩) ∈ fs_ws := fs_t2 (List.mem_of_getElem? (i := 143) rfl) rfl
theorem tw_2_144 : (Cond.code ⟨"FlowShelf$Exporter", "flowsHeld", "()I"⟩ prog_4_method_2_code 1 (Option.some FieldType.int)) ∈ fs_ws := fs_t2 (List.mem_of_getElem? (i := 144) rfl) rfl
theorem tw_2_145 : (Cond.methodLink "FlowShelf$Exporter" 37 ⟨"java/util/ArrayList", "size", "()I"⟩) ∈ fs_ws := fs_t2 (List.mem_of_getElem? (i := 145) rfl) rfl
theorem tw_2_146 : (Cond.classLink "FlowShelf" 56 "java/lang/IllegalStateException") ∈ fs_ws := fs_t2 (List.mem_of_getElem? (i := 146) rfl) rfl
theorem tw_2_147 : (Cond.instantiable "java/lang/IllegalStateException" 6) ∈ fs_ws := fs_t2 (List.mem_of_getElem? (i := 147) rfl) rfl
theorem tw_2_149 : (Cond.selects "java/lang/IllegalStateException" ⟨"java/lang/Throwable", "fillInStackTrace", "(I)Ljava/lang/Throwable;"⟩ ⟨"java/lang/Throwable", "fillInStackTrace", "(I)Ljava/lang/Throwable;"⟩) ∈ fs_ws := fs_t2 (List.mem_of_getElem? (i := 149) rfl) rfl
theorem tw_2_156 : (Cond.methodLink "FlowShelf" 60 ⟨"java/lang/IllegalStateException", "<init>", "(Ljava/lang/String;)V"⟩) ∈ fs_ws := fs_t2 (List.mem_of_getElem? (i := 156) rfl) rfl
theorem tw_2_157 : (Cond.instanceMethod ⟨"java/lang/IllegalStateException", "<init>", "(Ljava/lang/String;)V"⟩) ∈ fs_ws := fs_t2 (List.mem_of_getElem? (i := 157) rfl) rfl
theorem tw_2_158 : (Cond.code ⟨"java/lang/IllegalStateException", "<init>", "(Ljava/lang/String;)V"⟩ prog_18_method_2_code 2 (Option.none : Option FieldType)) ∈ fs_ws := fs_t2 (List.mem_of_getElem? (i := 158) rfl) rfl
theorem tw_2_159 : (Cond.methodLink "java/lang/IllegalStateException" 7 ⟨"java/lang/RuntimeException", "<init>", "(Ljava/lang/String;)V"⟩) ∈ fs_ws := fs_t2 (List.mem_of_getElem? (i := 159) rfl) rfl
theorem tw_2_162 : (Cond.methodLink "FlowShelf" 61 ⟨"FlowShelf$Exporter", "samplesNext", "()Z"⟩) ∈ fs_ws := fs_t2 (List.mem_of_getElem? (i := 162) rfl) rfl
theorem tw_2_163 : (Cond.instanceMethod ⟨"FlowShelf$Exporter", "samplesNext", "()Z"⟩) ∈ fs_ws := fs_t2 (List.mem_of_getElem? (i := 163) rfl) rfl
theorem tw_2_164 : (Cond.selects "FlowShelf$Exporter" ⟨"FlowShelf$Exporter", "samplesNext", "()Z"⟩ ⟨"FlowShelf$Exporter", "samplesNext", "()Z"⟩) ∈ fs_ws := fs_t2 (List.mem_of_getElem? (i := 164) rfl) rfl
theorem tw_2_165 : (Cond.code ⟨"FlowShelf$Exporter", "samplesNext", "()Z"⟩ prog_4_method_4_code 2 (Option.some FieldType.boolean)) ∈ fs_ws := fs_t2 (List.mem_of_getElem? (i := 165) rfl) rfl
theorem tw_2_166 : (Cond.methodLink "FlowShelf" 65 ⟨"FlowShelf$Exporter", "watch", "(IIIIZ)V"⟩) ∈ fs_ws := fs_t2 (List.mem_of_getElem? (i := 166) rfl) rfl
theorem tw_2_167 : (Cond.instanceMethod ⟨"FlowShelf$Exporter", "watch", "(IIIIZ)V"⟩) ∈ fs_ws := fs_t2 (List.mem_of_getElem? (i := 167) rfl) rfl
theorem tw_2_168 : (Cond.selects "FlowShelf$Exporter" ⟨"FlowShelf$Exporter", "watch", "(IIIIZ)V"⟩ ⟨"FlowShelf$Exporter", "watch", "(IIIIZ)V"⟩) ∈ fs_ws := fs_t2 (List.mem_of_getElem? (i := 168) rfl) rfl
theorem tw_2_169 : (Cond.code ⟨"FlowShelf$Exporter", "watch", "(IIIIZ)V"⟩ prog_4_method_5_code 7 (Option.none : Option FieldType)) ∈ fs_ws := fs_t2 (List.mem_of_getElem? (i := 169) rfl) rfl
theorem tw_2_170 : (Cond.methodLink "FlowShelf$Exporter" 44 ⟨"FlowShelf$Exporter", "placeInCache", "(III)I"⟩) ∈ fs_ws := fs_t2 (List.mem_of_getElem? (i := 170) rfl) rfl
theorem tw_2_171 : (Cond.instanceMethod ⟨"FlowShelf$Exporter", "placeInCache", "(III)I"⟩) ∈ fs_ws := fs_t2 (List.mem_of_getElem? (i := 171) rfl) rfl
theorem tw_2_172 : (Cond.selects "FlowShelf$Exporter" ⟨"FlowShelf$Exporter", "placeInCache", "(III)I"⟩ ⟨"FlowShelf$Exporter", "placeInCache", "(III)I"⟩) ∈ fs_ws := fs_t2 (List.mem_of_getElem? (i := 172) rfl) rfl
theorem tw_2_173 : (Cond.code ⟨"FlowShelf$Exporter", "placeInCache", "(III)I"⟩ prog_4_method_6_code 5 (Option.some FieldType.int)) ∈ fs_ws := fs_t2 (List.mem_of_getElem? (i := 173) rfl) rfl
theorem tw_2_174 : (Cond.methodLink "FlowShelf$Exporter" 67 ⟨"java/util/ArrayList", "get", "(I)Ljava/lang/Object;"⟩) ∈ fs_ws := fs_t2 (List.mem_of_getElem? (i := 174) rfl) rfl
theorem tw_2_175 : (Cond.classLink "FlowShelf$Exporter" 55 "FlowShelf$Flow") ∈ fs_ws := fs_t2 (List.mem_of_getElem? (i := 175) rfl) rfl
theorem tw_2_176 : (Cond.methodLink "FlowShelf$Exporter" 74 ⟨"FlowShelf$Flow", "hasKey", "(III)Z"⟩) ∈ fs_ws := fs_t2 (List.mem_of_getElem? (i := 176) rfl) rfl
theorem tw_2_177 : (Cond.instanceMethod ⟨"FlowShelf$Flow", "hasKey", "(III)Z"⟩) ∈ fs_ws := fs_t2 (List.mem_of_getElem? (i := 177) rfl) rfl
theorem tw_2_178 : (Cond.selects "FlowShelf$Flow" ⟨"FlowShelf$Flow", "hasKey", "(III)Z"⟩ ⟨"FlowShelf$Flow", "hasKey", "(III)Z"⟩) ∈ fs_ws := fs_t2 (List.mem_of_getElem? (i := 178) rfl) rfl
theorem tw_2_179 : (Cond.code ⟨"FlowShelf$Flow", "hasKey", "(III)Z"⟩ prog_5_method_2_code 4 (Option.some FieldType.boolean)) ∈ fs_ws := fs_t2 (List.mem_of_getElem? (i := 179) rfl) rfl
theorem tw_2_180 : (Cond.methodLink "FlowShelf$Exporter" 48 ⟨"FlowShelf$Exporter", "leastRecent", "()I"⟩) ∈ fs_ws := fs_t2 (List.mem_of_getElem? (i := 180) rfl) rfl
theorem tw_2_181 : (Cond.instanceMethod ⟨"FlowShelf$Exporter", "leastRecent", "()I"⟩) ∈ fs_ws := fs_t2 (List.mem_of_getElem? (i := 181) rfl) rfl
theorem tw_2_182 : (Cond.selects "FlowShelf$Exporter" ⟨"FlowShelf$Exporter", "leastRecent", "()I"⟩ ⟨"FlowShelf$Exporter", "leastRecent", "()I"⟩) ∈ fs_ws := fs_t2 (List.mem_of_getElem? (i := 182) rfl) rfl
theorem tw_2_183 : (Cond.code ⟨"FlowShelf$Exporter", "leastRecent", "()I"⟩ prog_4_method_7_code 3 (Option.some FieldType.int)) ∈ fs_ws := fs_t2 (List.mem_of_getElem? (i := 183) rfl) rfl
theorem tw_2_184 : (Cond.methodLink "FlowShelf$Exporter" 51 ⟨"FlowShelf$Exporter", "end", "(II)V"⟩) ∈ fs_ws := fs_t2 (List.mem_of_getElem? (i := 184) rfl) rfl
theorem tw_2_185 : (Cond.instanceMethod ⟨"FlowShelf$Exporter", "end", "(II)V"⟩) ∈ fs_ws := fs_t2 (List.mem_of_getElem? (i := 185) rfl) rfl
theorem tw_2_186 : (Cond.selects "FlowShelf$Exporter" ⟨"FlowShelf$Exporter", "end", "(II)V"⟩ ⟨"FlowShelf$Exporter", "end", "(II)V"⟩) ∈ fs_ws := fs_t2 (List.mem_of_getElem? (i := 186) rfl) rfl
theorem tw_2_187 : (Cond.code ⟨"FlowShelf$Exporter", "end", "(II)V"⟩ prog_4_method_8_code 4 (Option.none : Option FieldType)) ∈ fs_ws := fs_t2 (List.mem_of_getElem? (i := 187) rfl) rfl
theorem tw_2_188 : (Cond.methodLink "FlowShelf$Exporter" 81 ⟨"java/util/ArrayList", "remove", "(I)Ljava/lang/Object;"⟩) ∈ fs_ws := fs_t2 (List.mem_of_getElem? (i := 188) rfl) rfl
theorem tw_2_189 : (Cond.instanceMethod ⟨"java/util/ArrayList", "remove", "(I)Ljava/lang/Object;"⟩) ∈ fs_ws := fs_t2 (List.mem_of_getElem? (i := 189) rfl) rfl
theorem tw_2_190 : (Cond.selects "java/util/ArrayList" ⟨"java/util/ArrayList", "remove", "(I)Ljava/lang/Object;"⟩ ⟨"java/util/ArrayList", "remove", "(I)Ljava/lang/Object;"⟩) ∈ fs_ws := fs_t2 (List.mem_of_getElem? (i := 190) rfl) rfl
theorem tw_2_191 : (Cond.code ⟨"java/util/ArrayList", "remove", "(I)Ljava/lang/Object;"⟩ prog_29_method_29_code 4 (Option.some (FieldType.object "java/lang/Object"))) ∈ fs_ws := fs_t2 (List.mem_of_getElem? (i := 191) rfl) rfl
theorem tw_2_192 : (Cond.methodLink "java/util/ArrayList" 144 ⟨"java/util/ArrayList", "fastRemove", "([Ljava/lang/Object;I)V"⟩) ∈ fs_ws := fs_t2 (List.mem_of_getElem? (i := 192) rfl) rfl
theorem tw_2_194 : (Cond.instanceMethod ⟨"java/util/ArrayList", "fastRemove", "([Ljava/lang/Object;I)V"⟩) ∈ fs_ws := fs_t2 (List.mem_of_getElem? (i := 194) rfl) rfl
theorem tw_2_195 : (Cond.code ⟨"java/util/ArrayList", "fastRemove", "([Ljava/lang/Object;I)V"⟩ prog_29_method_39_code 4 (Option.none : Option FieldType)) ∈ fs_ws := fs_t2 (List.mem_of_getElem? (i := 195) rfl) rfl
theorem tw_2_196 : (Cond.methodLink "java/util/ArrayList" 112 ⟨"java/lang/System", "arraycopy", "(Ljava/lang/Object;ILjava/lang/Object;II)V"⟩) ∈ fs_ws := fs_t2 (List.mem_of_getElem? (i := 196) rfl) rfl
theorem tw_2_197 : (Cond.static ⟨"java/lang/System", "arraycopy", "(Ljava/lang/Object;ILjava/lang/Object;II)V"⟩) ∈ fs_ws := fs_t2 (List.mem_of_getElem? (i := 197) rfl) rfl
theorem tw_2_198 : (Cond.native ⟨"java/lang/System", "arraycopy", "(Ljava/lang/Object;ILjava/lang/Object;II)V"⟩) ∈ fs_ws := fs_t2 (List.mem_of_getElem? (i := 198) rfl) rfl
theorem tw_2_199 : (Cond.methodLink "FlowShelf$Exporter" 63 ⟨"java/util/ArrayList", "add", "(Ljava/lang/Object;)Z"⟩) ∈ fs_ws := fs_t2 (List.mem_of_getElem? (i := 199) rfl) rfl
theorem tw_2_200 : (Cond.instanceMethod ⟨"java/util/ArrayList", "add", "(Ljava/lang/Object;)Z"⟩) ∈ fs_ws := fs_t2 (List.mem_of_getElem? (i := 200) rfl) rfl
theorem tw_2_201 : (Cond.selects "java/util/ArrayList" ⟨"java/util/ArrayList", "add", "(Ljava/lang/Object;)Z"⟩ ⟨"java/util/ArrayList", "add", "(Ljava/lang/Object;)Z"⟩) ∈ fs_ws := fs_t2 (List.mem_of_getElem? (i := 201) rfl) rfl
theorem tw_2_202 : (Cond.code ⟨"java/util/ArrayList", "add", "(Ljava/lang/Object;)Z"⟩ prog_29_method_25_code 2 (Option.some FieldType.boolean)) ∈ fs_ws := fs_t2 (List.mem_of_getElem? (i := 202) rfl) rfl
theorem tw_2_203 : (Cond.methodLink "java/util/ArrayList" 131 ⟨"java/util/ArrayList", "add", "(Ljava/lang/Object;[Ljava/lang/Object;I)V"⟩) ∈ fs_ws := fs_t2 (List.mem_of_getElem? (i := 203) rfl) rfl
theorem tw_2_205 : (Cond.instanceMethod ⟨"java/util/ArrayList", "add", "(Ljava/lang/Object;[Ljava/lang/Object;I)V"⟩) ∈ fs_ws := fs_t2 (List.mem_of_getElem? (i := 205) rfl) rfl
theorem tw_2_206 : (Cond.code ⟨"java/util/ArrayList", "add", "(Ljava/lang/Object;[Ljava/lang/Object;I)V"⟩ prog_29_method_24_code 4 (Option.none : Option FieldType)) ∈ fs_ws := fs_t2 (List.mem_of_getElem? (i := 206) rfl) rfl
theorem tw_2_207 : (Cond.methodLink "java/util/ArrayList" 129 ⟨"java/util/ArrayList", "grow", "()[Ljava/lang/Object;"⟩) ∈ fs_ws := fs_t2 (List.mem_of_getElem? (i := 207) rfl) rfl
theorem tw_2_209 : (Cond.instanceMethod ⟨"java/util/ArrayList", "grow", "()[Ljava/lang/Object;"⟩) ∈ fs_ws := fs_t2 (List.mem_of_getElem? (i := 209) rfl) rfl
theorem tw_2_210 : (Cond.code ⟨"java/util/ArrayList", "grow", "()[Ljava/lang/Object;"⟩ prog_29_method_7_code 1 (Option.some (FieldType.array (FieldType.object "java/lang/Object")))) ∈ fs_ws := fs_t2 (List.mem_of_getElem? (i := 210) rfl) rfl
theorem tw_2_211 : (Cond.methodLink "java/util/ArrayList" 69 ⟨"java/util/ArrayList", "grow", "(I)[Ljava/lang/Object;"⟩) ∈ fs_ws := fs_t2 (List.mem_of_getElem? (i := 211) rfl) rfl
theorem tw_2_213 : (Cond.instanceMethod ⟨"java/util/ArrayList", "grow", "(I)[Ljava/lang/Object;"⟩) ∈ fs_ws := fs_t2 (List.mem_of_getElem? (i := 213) rfl) rfl
theorem tw_2_214 : (Cond.code ⟨"java/util/ArrayList", "grow", "(I)[Ljava/lang/Object;"⟩ prog_29_method_6_code 4 (Option.some (FieldType.array (FieldType.object "java/lang/Object")))) ∈ fs_ws := fs_t2 (List.mem_of_getElem? (i := 214) rfl) rfl
theorem tw_2_215 : (Cond.methodLink "java/util/ArrayList" 73 ⟨"jdk/internal/util/ArraysSupport", "newLength", "(III)I"⟩) ∈ fs_ws := fs_t2 (List.mem_of_getElem? (i := 215) rfl) rfl
theorem tw_2_216 : (Cond.static ⟨"jdk/internal/util/ArraysSupport", "newLength", "(III)I"⟩) ∈ fs_ws := fs_t2 (List.mem_of_getElem? (i := 216) rfl) rfl
theorem tw_2_217 : (Cond.code ⟨"jdk/internal/util/ArraysSupport", "newLength", "(III)I"⟩ prog_36_method_27_code 4 (Option.some FieldType.int)) ∈ fs_ws := fs_t2 (List.mem_of_getElem? (i := 217) rfl) rfl
theorem tw_2_218 : (Cond.methodLink "jdk/internal/util/ArraysSupport" 194 ⟨"java/lang/Math", "max", "(II)I"⟩) ∈ fs_ws := fs_t2 (List.mem_of_getElem? (i := 218) rfl) rfl
theorem tw_2_219 : (Cond.static ⟨"java/lang/Math", "max", "(II)I"⟩) ∈ fs_ws := fs_t2 (List.mem_of_getElem? (i := 219) rfl) rfl
theorem tw_2_220 : (Cond.code ⟨"java/lang/Math", "max", "(II)I"⟩ prog_21_method_65_code 2 (Option.some FieldType.int)) ∈ fs_ws := fs_t2 (List.mem_of_getElem? (i := 220) rfl) rfl
theorem tw_2_221 : (Cond.constant "jdk/internal/util/ArraysSupport" 200 (2147483639 : Int32)) ∈ fs_ws := fs_t2 (List.mem_of_getElem? (i := 221) rfl) rfl
theorem tw_2_222 : (Cond.methodLink "jdk/internal/util/ArraysSupport" 201 ⟨"jdk/internal/util/ArraysSupport", "hugeLength", "(II)I"⟩) ∈ fs_ws := fs_t2 (List.mem_of_getElem? (i := 222) rfl) rfl
theorem tw_2_223 : (Cond.static ⟨"jdk/internal/util/ArraysSupport", "hugeLength", "(II)I"⟩) ∈ fs_ws := fs_t2 (List.mem_of_getElem? (i := 223) rfl) rfl
theorem tw_2_224 : (Cond.code ⟨"jdk/internal/util/ArraysSupport", "hugeLength", "(II)I"⟩ prog_36_method_28_code 3 (Option.some FieldType.int)) ∈ fs_ws := fs_t2 (List.mem_of_getElem? (i := 224) rfl) rfl
theorem tw_2_225 : (Cond.methodLink "java/util/ArrayList" 66 ⟨"java/util/Arrays", "copyOf", "([Ljava/lang/Object;I)[Ljava/lang/Object;"⟩) ∈ fs_ws := fs_t2 (List.mem_of_getElem? (i := 225) rfl) rfl
theorem tw_2_226 : (Cond.static ⟨"java/util/Arrays", "copyOf", "([Ljava/lang/Object;I)[Ljava/lang/Object;"⟩) ∈ fs_ws := fs_t2 (List.mem_of_getElem? (i := 226) rfl) rfl
theorem tw_2_227 : (Cond.code ⟨"java/util/Arrays", "copyOf", "([Ljava/lang/Object;I)[Ljava/lang/Object;"⟩ prog_30_method_119_code 2 (Option.some (FieldType.array (FieldType.object "java/lang/Object")))) ∈ fs_ws := fs_t2 (List.mem_of_getElem? (i := 227) rfl) rfl
theorem tw_2_228 : (Cond.methodLink "java/util/Arrays" 86 ⟨"java/lang/Object", "getClass", "()Ljava/lang/Class;"⟩) ∈ fs_ws := fs_t2 (List.mem_of_getElem? (i := 228) rfl) rfl
theorem tw_2_229 : (Cond.instanceMethod ⟨"java/lang/Object", "getClass", "()Ljava/lang/Class;"⟩) ∈ fs_ws := fs_t2 (List.mem_of_getElem? (i := 229) rfl) rfl
theorem tw_2_231 : (Cond.selects "FlowShelf" ⟨"java/lang/Object", "getClass", "()Ljava/lang/Class;"⟩ ⟨"java/lang/Object", "getClass", "()Ljava/lang/Class;"⟩) ∈ fs_ws := fs_t2 (List.mem_of_getElem? (i := 231) rfl) rfl
theorem tw_2_232 : (Cond.selects "FlowShelf$Collector" ⟨"java/lang/Object", "getClass", "()Ljava/lang/Class;"⟩ ⟨"java/lang/Object", "getClass", "()Ljava/lang/Class;"⟩) ∈ fs_ws := fs_t2 (List.mem_of_getElem? (i := 232) rfl) rfl
theorem tw_2_233 : (Cond.selects "FlowShelf$Cursor" ⟨"java/lang/Object", "getClass", "()Ljava/lang/Class;"⟩ ⟨"java/lang/Object", "getClass", "()Ljava/lang/Class;"⟩) ∈ fs_ws := fs_t2 (List.mem_of_getElem? (i := 233) rfl) rfl
theorem tw_2_234 : (Cond.selects "FlowShelf$Exporter" ⟨"java/lang/Object", "getClass", "()Ljava/lang/Class;"⟩ ⟨"java/lang/Object", "getClass", "()Ljava/lang/Class;"⟩) ∈ fs_ws := fs_t2 (List.mem_of_getElem? (i := 234) rfl) rfl
theorem tw_2_235 : (Cond.selects "FlowShelf$Flow" ⟨"java/lang/Object", "getClass", "()Ljava/lang/Class;"⟩ ⟨"java/lang/Object", "getClass", "()Ljava/lang/Class;"⟩) ∈ fs_ws := fs_t2 (List.mem_of_getElem? (i := 235) rfl) rfl
theorem tw_2_236 : (Cond.selects "FlowShelf$Layout" ⟨"java/lang/Object", "getClass", "()Ljava/lang/Class;"⟩ ⟨"java/lang/Object", "getClass", "()Ljava/lang/Class;"⟩) ∈ fs_ws := fs_t2 (List.mem_of_getElem? (i := 236) rfl) rfl
theorem tw_2_237 : (Cond.selects "FlowShelf$Ledger" ⟨"java/lang/Object", "getClass", "()Ljava/lang/Class;"⟩ ⟨"java/lang/Object", "getClass", "()Ljava/lang/Class;"⟩) ∈ fs_ws := fs_t2 (List.mem_of_getElem? (i := 237) rfl) rfl
theorem tw_2_238 : (Cond.selects "FlowShelf$Report" ⟨"java/lang/Object", "getClass", "()Ljava/lang/Class;"⟩ ⟨"java/lang/Object", "getClass", "()Ljava/lang/Class;"⟩) ∈ fs_ws := fs_t2 (List.mem_of_getElem? (i := 238) rfl) rfl
theorem tw_2_239 : (Cond.selects "FlowShelf$Row" ⟨"java/lang/Object", "getClass", "()Ljava/lang/Class;"⟩ ⟨"java/lang/Object", "getClass", "()Ljava/lang/Class;"⟩) ∈ fs_ws := fs_t2 (List.mem_of_getElem? (i := 239) rfl) rfl
theorem tw_3_0 : (Cond.selects "FlowShelf$Slot" ⟨"java/lang/Object", "getClass", "()Ljava/lang/Class;"⟩ ⟨"java/lang/Object", "getClass", "()Ljava/lang/Class;"⟩) ∈ fs_ws := fs_t3 (List.mem_of_getElem? (i := 0) rfl) rfl
theorem tw_3_1 : (Cond.selects "FlowShelf$Table" ⟨"java/lang/Object", "getClass", "()Ljava/lang/Class;"⟩ ⟨"java/lang/Object", "getClass", "()Ljava/lang/Class;"⟩) ∈ fs_ws := fs_t3 (List.mem_of_getElem? (i := 1) rfl) rfl
theorem tw_3_2 : (Cond.selects "FlowShelfModel" ⟨"java/lang/Object", "getClass", "()Ljava/lang/Class;"⟩ ⟨"java/lang/Object", "getClass", "()Ljava/lang/Class;"⟩) ∈ fs_ws := fs_t3 (List.mem_of_getElem? (i := 2) rfl) rfl
theorem tw_3_3 : (Cond.selects "java/lang/IllegalArgumentException" ⟨"java/lang/Object", "getClass", "()Ljava/lang/Class;"⟩ ⟨"java/lang/Object", "getClass", "()Ljava/lang/Class;"⟩) ∈ fs_ws := fs_t3 (List.mem_of_getElem? (i := 3) rfl) rfl
theorem tw_3_4 : (Cond.selects "java/lang/IllegalStateException" ⟨"java/lang/Object", "getClass", "()Ljava/lang/Class;"⟩ ⟨"java/lang/Object", "getClass", "()Ljava/lang/Class;"⟩) ∈ fs_ws := fs_t3 (List.mem_of_getElem? (i := 4) rfl) rfl
theorem tw_3_5 : (Cond.selects "java/lang/IndexOutOfBoundsException" ⟨"java/lang/Object", "getClass", "()Ljava/lang/Class;"⟩ ⟨"java/lang/Object", "getClass", "()Ljava/lang/Class;"⟩) ∈ fs_ws := fs_t3 (List.mem_of_getElem? (i := 5) rfl) rfl
theorem tw_3_6 : (Cond.selects "java/lang/UnsupportedOperationException" ⟨"java/lang/Object", "getClass", "()Ljava/lang/Class;"⟩ ⟨"java/lang/Object", "getClass", "()Ljava/lang/Class;"⟩) ∈ fs_ws := fs_t3 (List.mem_of_getElem? (i := 6) rfl) rfl
theorem tw_3_7 : (Cond.selects "java/util/ArrayList" ⟨"java/lang/Object", "getClass", "()Ljava/lang/Class;"⟩ ⟨"java/lang/Object", "getClass", "()Ljava/lang/Class;"⟩) ∈ fs_ws := fs_t3 (List.mem_of_getElem? (i := 7) rfl) rfl
theorem tw_3_8 : (Cond.native ⟨"java/lang/Object", "getClass", "()Ljava/lang/Class;"⟩) ∈ fs_ws := fs_t3 (List.mem_of_getElem? (i := 8) rfl) rfl
theorem tw_3_9 : (Cond.methodLink "java/util/Arrays" 300 ⟨"java/util/Arrays", "copyOf", "([Ljava/lang/Object;ILjava/lang/Class;)[Ljava/lang/Object;"⟩) ∈ fs_ws := fs_t3 (List.mem_of_getElem? (i := 9) rfl) rfl
theorem tw_3_10 : (Cond.static ⟨"java/util/Arrays", "copyOf", "([Ljava/lang/Object;ILjava/lang/Class;)[Ljava/lang/Object;"⟩) ∈ fs_ws := fs_t3 (List.mem_of_getElem? (i := 10) rfl) rfl
theorem tw_3_11 : (Cond.code ⟨"java/util/Arrays", "copyOf", "([Ljava/lang/Object;ILjava/lang/Class;)[Ljava/lang/Object;"⟩ prog_30_method_120_code 4 (Option.some (FieldType.array (FieldType.object "java/lang/Object")))) ∈ fs_ws := fs_t3 (List.mem_of_getElem? (i := 11) rfl) rfl
theorem tw_3_12 : (Cond.classLink "java/util/Arrays" 110 "[Ljava/lang/Object;") ∈ fs_ws := fs_t3 (List.mem_of_getElem? (i := 12) rfl) rfl
theorem tw_3_14 : (Cond.classLink "java/util/Arrays" 2 "java/lang/Object") ∈ fs_ws := fs_t3 (List.mem_of_getElem? (i := 14) rfl) rfl
theorem tw_3_15 : (Cond.methodLink "java/util/Arrays" 304 ⟨"java/lang/Math", "min", "(II)I"⟩) ∈ fs_ws := fs_t3 (List.mem_of_getElem? (i := 15) rfl) rfl
theorem tw_3_16 : (Cond.static ⟨"java/lang/Math", "min", "(II)I"⟩) ∈ fs_ws := fs_t3 (List.mem_of_getElem? (i := 16) rfl) rfl
theorem tw_3_17 : (Cond.code ⟨"java/lang/Math", "min", "(II)I"⟩ prog_21_method_69_code 2 (Option.some FieldType.int)) ∈ fs_ws := fs_t3 (List.mem_of_getElem? (i := 17) rfl) rfl
theorem tw_3_18 : (Cond.methodLink "java/util/Arrays" 150 ⟨"java/lang/System", "arraycopy", "(Ljava/lang/Object;ILjava/lang/Object;II)V"⟩) ∈ fs_ws := fs_t3 (List.mem_of_getElem? (i := 18) rfl) rfl
theorem tw_3_19 : (Cond.methodLink "java/util/ArrayList" 79 ⟨"java/lang/Math", "max", "(II)I"⟩) ∈ fs_ws := fs_t3 (List.mem_of_getElem? (i := 19) rfl) rfl
theorem tw_3_20 : (Cond.classLink "java/util/ArrayList" 7 "java/lang/Object") ∈ fs_ws := fs_t3 (List.mem_of_getElem? (i := 20) rfl) rfl
theorem tw_3_21 : (Cond.instantiable "FlowShelf$Flow" 9) ∈ fs_ws := fs_t3 (List.mem_of_getElem? (i := 21) rfl) rfl
theorem tw_3_22 : (Cond.methodLink "FlowShelf$Exporter" 60 ⟨"FlowShelf$Flow", "<init>", "(IIII)V"⟩) ∈ fs_ws := fs_t3 (List.mem_of_getElem? (i := 22) rfl) rfl
theorem tw_3_23 : (Cond.instanceMethod ⟨"FlowShelf$Flow", "<init>", "(IIII)V"⟩) ∈ fs_ws := fs_t3 (List.mem_of_getElem? (i := 23) rfl) rfl
theorem tw_3_24 : (Cond.code ⟨"FlowShelf$Flow", "<init>", "(IIII)V"⟩ prog_5_method_1_code 5 (Option.none : Option FieldType)) ∈ fs_ws := fs_t3 (List.mem_of_getElem? (i := 24) rfl) rfl
theorem tw_3_25 : (Cond.methodLink "FlowShelf$Flow" 3 ⟨"java/lang/Object", "<init>", "()V"⟩) ∈ fs_ws := fs_t3 (List.mem_of_getElem? (i := 25) rfl) rfl
theorem tw_3_26 : (Cond.fieldLink "FlowShelf$Flow" 9 "FlowShelf$Flow" "source" "I") ∈ fs_ws := fs_t3 (List.mem_of_getElem? (i := 26) rfl) rfl
theorem tw_3_27 : (Cond.fieldLink "FlowShelf$Flow" 15 "FlowShelf$Flow" "target" "I") ∈ fs_ws := fs_t3 (List.mem_of_getElem? (i := 27) rfl) rfl
theorem tw_3_28 : (Cond.fieldLink "FlowShelf$Flow" 18 "FlowShelf$Flow" "service" "I") ∈ fs_ws := fs_t3 (List.mem_of_getElem? (i := 28) rfl) rfl
theorem tw_3_29 : (Cond.fieldLink "FlowShelf$Flow" 21 "FlowShelf$Flow" "began" "I") ∈ fs_ws := fs_t3 (List.mem_of_getElem? (i := 29) rfl) rfl
theorem tw_3_30 : (Cond.fieldLink "FlowShelf$Flow" 24 "FlowShelf$Flow" "bytes" "I") ∈ fs_ws := fs_t3 (List.mem_of_getElem? (i := 30) rfl) rfl
theorem tw_3_31 : (Cond.fieldLink "FlowShelf$Flow" 27 "FlowShelf$Flow" "packets" "I") ∈ fs_ws := fs_t3 (List.mem_of_getElem? (i := 31) rfl) rfl
theorem tw_3_32 : (Cond.fieldLink "FlowShelf$Flow" 30 "FlowShelf$Flow" "latest" "I") ∈ fs_ws := fs_t3 (List.mem_of_getElem? (i := 32) rfl) rfl
theorem tw_3_33 : (Cond.fieldLink "FlowShelf$Exporter" 78 "FlowShelf$Flow" "latest" "I") ∈ fs_ws := fs_t3 (List.mem_of_getElem? (i := 33) rfl) rfl
theorem tw_3_34 : (Cond.fieldLink "FlowShelf$Flow" 33 "FlowShelf$Flow" "endedAt" "I") ∈ fs_ws := fs_t3 (List.mem_of_getElem? (i := 34) rfl) rfl
theorem tw_3_35 : (Cond.fieldLink "FlowShelf$Exporter" 84 "FlowShelf$Flow" "endedAt" "I") ∈ fs_ws := fs_t3 (List.mem_of_getElem? (i := 35) rfl) rfl
theorem tw_3_36 : (Cond.fieldLink "FlowShelf$Flow" 36 "FlowShelf$Flow" "reason" "I") ∈ fs_ws := fs_t3 (List.mem_of_getElem? (i := 36) rfl) rfl
theorem tw_3_37 : (Cond.fieldLink "FlowShelf$Exporter" 87 "FlowShelf$Flow" "reason" "I") ∈ fs_ws := fs_t3 (List.mem_of_getElem? (i := 37) rfl) rfl
theorem tw_3_57 : (Cond.methodLink "FlowShelf$Exporter" 71 ⟨"FlowShelf$Flow", "addPacket", "(II)V"⟩) ∈ fs_ws := fs_t3 (List.mem_of_getElem? (i := 57) rfl) rfl
theorem tw_3_58 : (Cond.instanceMethod ⟨"FlowShelf$Flow", "addPacket", "(II)V"⟩) ∈ fs_ws := fs_t3 (List.mem_of_getElem? (i := 58) rfl) rfl
theorem tw_3_59 : (Cond.selects "FlowShelf$Flow" ⟨"FlowShelf$Flow", "addPacket", "(II)V"⟩ ⟨"FlowShelf$Flow", "addPacket", "(II)V"⟩) ∈ fs_ws := fs_t3 (List.mem_of_getElem? (i := 59) rfl) rfl
theorem tw_3_60 : (Cond.code ⟨"FlowShelf$Flow", "addPacket", "(II)V"⟩ prog_5_method_3_code 3 (Option.none : Option FieldType)) ∈ fs_ws := fs_t3 (List.mem_of_getElem? (i := 60) rfl) rfl
theorem tw_3_61 : (Cond.methodLink "FlowShelfLaw" 97 ⟨"FlowShelfLaw", "tick", "(LFlowShelf;II[J)I"⟩) ∈ fs_ws := fs_t3 (List.mem_of_getElem? (i := 61) rfl) rfl
theorem tw_3_62 : (Cond.static ⟨"FlowShelfLaw", "tick", "(LFlowShelf;II[J)I"⟩) ∈ fs_ws := fs_t3 (List.mem_of_getElem? (i := 62) rfl) rfl
theorem tw_3_63 : (Cond.codeWith ⟨"FlowShelfLaw", "tick", "(LFlowShelf;II[J)I"⟩ method_4_code 5 (Option.some FieldType.int) [(0, 10, 13, 13)]) ∈ fs_ws := fs_t3 (List.mem_of_getElem? (i := 63) rfl) rfl
theorem tw_3_64 : (Cond.methodLink "FlowShelfLaw" 17 ⟨"FlowShelf", "tick", "(II)I"⟩) ∈ fs_ws := fs_t3 (List.mem_of_getElem? (i := 64) rfl) rfl
theorem tw_3_65 : (Cond.instanceMethod ⟨"FlowShelf", "tick", "(II)I"⟩) ∈ fs_ws := fs_t3 (List.mem_of_getElem? (i := 65) rfl) rfl
theorem tw_3_66 : (Cond.selects "FlowShelf" ⟨"FlowShelf", "tick", "(II)I"⟩ ⟨"FlowShelf", "tick", "(II)I"⟩) ∈ fs_ws := fs_t3 (List.mem_of_getElem? (i := 66) rfl) rfl
theorem tw_3_67 : (Cond.code ⟨"FlowShelf", "tick", "(II)I"⟩ prog_1_method_3_code 6 (Option.some FieldType.int)) ∈ fs_ws := fs_t3 (List.mem_of_getElem? (i := 67) rfl) rfl
theorem tw_3_69 : (Cond.methodLink "FlowShelf" 71 ⟨"FlowShelf$Exporter", "passTick", "()I"⟩) ∈ fs_ws := fs_t3 (List.mem_of_getElem? (i := 69) rfl) rfl
theorem tw_3_70 : (Cond.instanceMethod ⟨"FlowShelf$Exporter", "passTick", "()I"⟩) ∈ fs_ws := fs_t3 (List.mem_of_getElem? (i := 70) rfl) rfl
theorem tw_3_71 : (Cond.selects "FlowShelf$Exporter" ⟨"FlowShelf$Exporter", "passTick", "()I"⟩ ⟨"FlowShelf$Exporter", "passTick", "()I"⟩) ∈ fs_ws := fs_t3 (List.mem_of_getElem? (i := 71) rfl) rfl
theorem tw_3_72 : (Cond.code ⟨"FlowShelf$Exporter", "passTick", "()I"⟩ prog_4_method_9_code 5 (Option.some FieldType.int)) ∈ fs_ws := fs_t3 (List.mem_of_getElem? (i := 72) rfl) rfl
theorem tw_3_73 : (Cond.methodLink "FlowShelf$Exporter" 90 ⟨"FlowShelf$Flow", "reasonToEnd", "(I)I"⟩) ∈ fs_ws := fs_t3 (List.mem_of_getElem? (i := 73) rfl) rfl
theorem tw_3_74 : (Cond.instanceMethod ⟨"FlowShelf$Flow", "reasonToEnd", "(I)I"⟩) ∈ fs_ws := fs_t3 (List.mem_of_getElem? (i := 74) rfl) rfl
theorem tw_3_75 : (Cond.selects "FlowShelf$Flow" ⟨"FlowShelf$Flow", "reasonToEnd", "(I)I"⟩ ⟨"FlowShelf$Flow", "reasonToEnd", "(I)I"⟩) ∈ fs_ws := fs_t3 (List.mem_of_getElem? (i := 75) rfl) rfl
theorem tw_3_76 : (Cond.code ⟨"FlowShelf$Flow", "reasonToEnd", "(I)I"⟩ prog_5_method_4_code 2 (Option.some FieldType.int)) ∈ fs_ws := fs_t3 (List.mem_of_getElem? (i := 76) rfl) rfl
theorem tw_3_77 : (Cond.methodLink "FlowShelfLaw" 101 ⟨"FlowShelfLaw", "flush", "(LFlowShelf;I[J)I"⟩) ∈ fs_ws := fs_t3 (List.mem_of_getElem? (i := 77) rfl) rfl
theorem tw_3_78 : (Cond.static ⟨"FlowShelfLaw", "flush", "(LFlowShelf;I[J)I"⟩) ∈ fs_ws := fs_t3 (List.mem_of_getElem? (i := 78) rfl) rfl
theorem tw_3_79 : (Cond.codeWith ⟨"FlowShelfLaw", "flush", "(LFlowShelf;I[J)I"⟩ method_5_code 4 (Option.some FieldType.int) [(0, 9, 12, 13)]) ∈ fs_ws := fs_t3 (List.mem_of_getElem? (i := 79) rfl) rfl
theorem tw_3_80 : (Cond.methodLink "FlowShelfLaw" 21 ⟨"FlowShelf", "flush", "(I)I"⟩) ∈ fs_ws := fs_t3 (List.mem_of_getElem? (i := 80) rfl) rfl
theorem tw_3_81 : (Cond.instanceMethod ⟨"FlowShelf", "flush", "(I)I"⟩) ∈ fs_ws := fs_t3 (List.mem_of_getElem? (i := 81) rfl) rfl
theorem tw_3_82 : (Cond.selects "FlowShelf" ⟨"FlowShelf", "flush", "(I)I"⟩ ⟨"FlowShelf", "flush", "(I)I"⟩) ∈ fs_ws := fs_t3 (List.mem_of_getElem? (i := 82) rfl) rfl
theorem tw_3_83 : (Cond.code ⟨"FlowShelf", "flush", "(I)I"⟩ prog_1_method_4_code 2 (Option.some FieldType.int)) ∈ fs_ws := fs_t3 (List.mem_of_getElem? (i := 83) rfl) rfl
theorem tw_3_84 : (Cond.methodLink "FlowShelf" 74 ⟨"FlowShelf$Exporter", "flushCache", "()I"⟩) ∈ fs_ws := fs_t3 (List.mem_of_getElem? (i := 84) rfl) rfl
theorem tw_3_85 : (Cond.instanceMethod ⟨"FlowShelf$Exporter", "flushCache", "()I"⟩) ∈ fs_ws := fs_t3 (List.mem_of_getElem? (i := 85) rfl) rfl
theorem tw_3_86 : (Cond.selects "FlowShelf$Exporter" ⟨"FlowShelf$Exporter", "flushCache", "()I"⟩ ⟨"FlowShelf$Exporter", "flushCache", "()I"⟩) ∈ fs_ws := fs_t3 (List.mem_of_getElem? (i := 86) rfl) rfl
theorem tw_3_87 : (Cond.code ⟨"FlowShelf$Exporter", "flushCache", "()I"⟩ prog_4_method_10_code 3 (Option.some FieldType.int)) ∈ fs_ws := fs_t3 (List.mem_of_getElem? (i := 87) rfl) rfl
theorem tw_3_88 : (Cond.methodLink "FlowShelfLaw" 105 ⟨"FlowShelfLaw", "sampler", "(LFlowShelf;II)I"⟩) ∈ fs_ws := fs_t3 (List.mem_of_getElem? (i := 88) rfl) rfl
theorem tw_3_89 : (Cond.static ⟨"FlowShelfLaw", "sampler", "(LFlowShelf;II)I"⟩) ∈ fs_ws := fs_t3 (List.mem_of_getElem? (i := 89) rfl) rfl
theorem tw_3_90 : (Cond.codeWith ⟨"FlowShelfLaw", "sampler", "(LFlowShelf;II)I"⟩ method_6_code 4 (Option.some FieldType.int) [(0, 6, 9, 13)]) ∈ fs_ws := fs_t3 (List.mem_of_getElem? (i := 90) rfl) rfl
theorem tw_3_91 : (Cond.methodLink "FlowShelfLaw" 25 ⟨"FlowShelf", "sampler", "(II)V"⟩) ∈ fs_ws := fs_t3 (List.mem_of_getElem? (i := 91) rfl) rfl
theorem tw_3_92 : (Cond.instanceMethod ⟨"FlowShelf", "sampler", "(II)V"⟩) ∈ fs_ws := fs_t3 (List.mem_of_getElem? (i := 92) rfl) rfl
theorem tw_3_93 : (Cond.selects "FlowShelf" ⟨"FlowShelf", "sampler", "(II)V"⟩ ⟨"FlowShelf", "sampler", "(II)V"⟩) ∈ fs_ws := fs_t3 (List.mem_of_getElem? (i := 93) rfl) rfl
theorem tw_3_94 : (Cond.code ⟨"FlowShelf", "sampler", "(II)V"⟩ prog_1_method_5_code 4 (Option.none : Option FieldType)) ∈ fs_ws := fs_t3 (List.mem_of_getElem? (i := 94) rfl) rfl
theorem tw_3_96 : (Cond.methodLink "FlowShelf" 79 ⟨"FlowShelf$Exporter", "sampleEvery", "(I)V"⟩) ∈ fs_ws := fs_t3 (List.mem_of_getElem? (i := 96) rfl) rfl
theorem tw_3_97 : (Cond.instanceMethod ⟨"FlowShelf$Exporter", "sampleEvery", "(I)V"⟩) ∈ fs_ws := fs_t3 (List.mem_of_getElem? (i := 97) rfl) rfl
theorem tw_3_98 : (Cond.selects "FlowShelf$Exporter" ⟨"FlowShelf$Exporter", "sampleEvery", "(I)V"⟩ ⟨"FlowShelf$Exporter", "sampleEvery", "(I)V"⟩) ∈ fs_ws := fs_t3 (List.mem_of_getElem? (i := 98) rfl) rfl
theorem tw_3_99 : (Cond.code ⟨"FlowShelf$Exporter", "sampleEvery", "(I)V"⟩ prog_4_method_3_code 2 (Option.none : Option FieldType)) ∈ fs_ws := fs_t3 (List.mem_of_getElem? (i := 99) rfl) rfl
theorem tw_3_100 : (Cond.methodLink "FlowShelfLaw" 109 ⟨"FlowShelfLaw", "ended", "(LFlowShelf;III[J)I"⟩) ∈ fs_ws := fs_t3 (List.mem_of_getElem? (i := 100) rfl) rfl
theorem tw_3_101 : (Cond.static ⟨"FlowShelfLaw", "ended", "(LFlowShelf;III[J)I"⟩) ∈ fs_ws := fs_t3 (List.mem_of_getElem? (i := 101) rfl) rfl
theorem tw_3_102 : (Cond.codeWith ⟨"FlowShelfLaw", "ended", "(LFlowShelf;III[J)I"⟩ method_7_code 6 (Option.some FieldType.int) [(0, 12, 15, 13), (0, 12, 19, 33)]) ∈ fs_ws := fs_t3 (List.mem_of_getElem? (i := 102) rfl) rfl
theorem tw_3_103 : (Cond.classLink "FlowShelfLaw" 33 "java/lang/IndexOutOfBoundsException") ∈ fs_ws := fs_t3 (List.mem_of_getElem? (i := 103) rfl) rfl
theorem tw_3_104 : (Cond.methodLink "FlowShelfLaw" 29 ⟨"FlowShelf", "ended", "(III)I"⟩) ∈ fs_ws := fs_t3 (List.mem_of_getElem? (i := 104) rfl) rfl
theorem tw_3_105 : (Cond.instanceMethod ⟨"FlowShelf", "ended", "(III)I"⟩) ∈ fs_ws := fs_t3 (List.mem_of_getElem? (i := 105) rfl) rfl
theorem tw_3_106 : (Cond.selects "FlowShelf" ⟨"FlowShelf", "ended", "(III)I"⟩ ⟨"FlowShelf", "ended", "(III)I"⟩) ∈ fs_ws := fs_t3 (List.mem_of_getElem? (i := 106) rfl) rfl
theorem tw_3_107 : (Cond.code ⟨"FlowShelf", "ended", "(III)I"⟩ prog_1_method_6_code 5 (Option.some FieldType.int)) ∈ fs_ws := fs_t3 (List.mem_of_getElem? (i := 107) rfl) rfl
theorem tw_3_108 : (Cond.methodLink "FlowShelf" 82 ⟨"FlowShelf", "requireField", "(I)V"⟩) ∈ fs_ws := fs_t3 (List.mem_of_getElem? (i := 108) rfl) rfl
theorem tw_3_109 : (Cond.static ⟨"FlowShelf", "requireField", "(I)V"⟩) ∈ fs_ws := fs_t3 (List.mem_of_getElem? (i := 109) rfl) rfl
theorem tw_3_110 : (Cond.code ⟨"FlowShelf", "requireField", "(I)V"⟩ prog_1_method_25_code 1 (Option.none : Option FieldType)) ∈ fs_ws := fs_t3 (List.mem_of_getElem? (i := 110) rfl) rfl
theorem tw_3_112 : (Cond.classLink "FlowShelf" 91 "java/lang/IndexOutOfBoundsException") ∈ fs_ws := fs_t3 (List.mem_of_getElem? (i := 112) rfl) rfl
theorem tw_3_113 : (Cond.instantiable "java/lang/IndexOutOfBoundsException" 6) ∈ fs_ws := fs_t3 (List.mem_of_getElem? (i := 113) rfl) rfl
theorem tw_3_115 : (Cond.selects "java/lang/IndexOutOfBoundsException" ⟨"java/lang/Throwable", "fillInStackTrace", "(I)Ljava/lang/Throwable;"⟩ ⟨"java/lang/Throwable", "fillInStackTrace", "(I)Ljava/lang/Throwable;"⟩) ∈ fs_ws := fs_t3 (List.mem_of_getElem? (i := 115) rfl) rfl
theorem tw_3_122 : (Cond.methodLink "FlowShelf" 95 ⟨"java/lang/IndexOutOfBoundsException", "<init>", "(Ljava/lang/String;)V"⟩) ∈ fs_ws := fs_t3 (List.mem_of_getElem? (i := 122) rfl) rfl
theorem tw_3_123 : (Cond.instanceMethod ⟨"java/lang/IndexOutOfBoundsException", "<init>", "(Ljava/lang/String;)V"⟩) ∈ fs_ws := fs_t3 (List.mem_of_getElem? (i := 123) rfl) rfl
theorem tw_3_124 : (Cond.code ⟨"java/lang/IndexOutOfBoundsException", "<init>", "(Ljava/lang/String;)V"⟩ prog_19_method_2_code 2 (Option.none : Option FieldType)) ∈ fs_ws := fs_t3 (List.mem_of_getElem? (i := 124) rfl) rfl
theorem tw_3_125 : (Cond.methodLink "java/lang/IndexOutOfBoundsException" 7 ⟨"java/lang/RuntimeException", "<init>", "(Ljava/lang/String;)V"⟩) ∈ fs_ws := fs_t3 (List.mem_of_getElem? (i := 125) rfl) rfl
theorem tw_3_128 : (Cond.classLink "FlowShelf" 100 "FlowShelf$Flow") ∈ fs_ws := fs_t3 (List.mem_of_getElem? (i := 128) rfl) rfl
theorem tw_3_129 : (Cond.methodLink "FlowShelf" 102 ⟨"FlowShelf$Flow", "valueOf", "(I)I"⟩) ∈ fs_ws := fs_t3 (List.mem_of_getElem? (i := 129) rfl) rfl
theorem tw_3_130 : (Cond.instanceMethod ⟨"FlowShelf$Flow", "valueOf", "(I)I"⟩) ∈ fs_ws := fs_t3 (List.mem_of_getElem? (i := 130) rfl) rfl
theorem tw_3_131 : (Cond.selects "FlowShelf$Flow" ⟨"FlowShelf$Flow", "valueOf", "(I)I"⟩ ⟨"FlowShelf$Flow", "valueOf", "(I)I"⟩) ∈ fs_ws := fs_t3 (List.mem_of_getElem? (i := 131) rfl) rfl
theorem tw_3_132 : (Cond.code ⟨"FlowShelf$Flow", "valueOf", "(I)I"⟩ prog_5_method_5_code 2 (Option.some FieldType.int)) ∈ fs_ws := fs_t3 (List.mem_of_getElem? (i := 132) rfl) rfl
theorem tw_3_133 : (Cond.methodLink "FlowShelfLaw" 113 ⟨"FlowShelfLaw", "field", "(LFlowShelf;IIII[J)I"⟩) ∈ fs_ws := fs_t3 (List.mem_of_getElem? (i := 133) rfl) rfl
theorem tw_3_134 : (Cond.static ⟨"FlowShelfLaw", "field", "(LFlowShelf;IIII[J)I"⟩) ∈ fs_ws := fs_t3 (List.mem_of_getElem? (i := 134) rfl) rfl
theorem tw_3_135 : (Cond.codeWith ⟨"FlowShelfLaw", "field", "(LFlowShelf;IIII[J)I"⟩ method_8_code 7 (Option.some FieldType.int) [(0, 14, 17, 13), (0, 14, 21, 15)]) ∈ fs_ws := fs_t3 (List.mem_of_getElem? (i := 135) rfl) rfl
theorem tw_3_136 : (Cond.methodLink "FlowShelfLaw" 35 ⟨"FlowShelf", "field", "(IIII)I"⟩) ∈ fs_ws := fs_t3 (List.mem_of_getElem? (i := 136) rfl) rfl
theorem tw_3_137 : (Cond.instanceMethod ⟨"FlowShelf", "field", "(IIII)I"⟩) ∈ fs_ws := fs_t3 (List.mem_of_getElem? (i := 137) rfl) rfl
theorem tw_3_138 : (Cond.selects "FlowShelf" ⟨"FlowShelf", "field", "(IIII)I"⟩ ⟨"FlowShelf", "field", "(IIII)I"⟩) ∈ fs_ws := fs_t3 (List.mem_of_getElem? (i := 138) rfl) rfl
theorem tw_3_139 : (Cond.code ⟨"FlowShelf", "field", "(IIII)I"⟩ prog_1_method_7_code 6 (Option.some FieldType.int)) ∈ fs_ws := fs_t3 (List.mem_of_getElem? (i := 139) rfl) rfl
theorem tw_3_140 : (Cond.methodLink "FlowShelf" 106 ⟨"FlowShelf", "slotOf", "(II)LFlowShelf$Slot;"⟩) ∈ fs_ws := fs_t3 (List.mem_of_getElem? (i := 140) rfl) rfl
theorem tw_3_142 : (Cond.instanceMethod ⟨"FlowShelf", "slotOf", "(II)LFlowShelf$Slot;"⟩) ∈ fs_ws := fs_t3 (List.mem_of_getElem? (i := 142) rfl) rfl
theorem tw_3_143 : (Cond.code ⟨"FlowShelf", "slotOf", "(II)LFlowShelf$Slot;"⟩ prog_1_method_28_code 4 (Option.some (FieldType.object "FlowShelf$Slot"))) ∈ fs_ws := fs_t3 (List.mem_of_getElem? (i := 143) rfl) rfl
theorem tw_3_146 : (Cond.fieldLink "FlowShelf" 112 "FlowShelf" "LEAST_LENGTH" "[I") ∈ fs_ws := fs_t3 (List.mem_of_getElem? (i := 146) rfl) rfl
theorem tw_3_149 : (Cond.methodLink "FlowShelf" 124 ⟨"FlowShelf$Layout", "has", "(I)Z"⟩) ∈ fs_ws := fs_t3 (List.mem_of_getElem? (i := 149) rfl) rfl
theorem tw_3_150 : (Cond.instanceMethod ⟨"FlowShelf$Layout", "has", "(I)Z"⟩) ∈ fs_ws := fs_t3 (List.mem_of_getElem? (i := 150) rfl) rfl
theorem tw_3_151 : (Cond.selects "FlowShelf$Layout" ⟨"FlowShelf$Layout", "has", "(I)Z"⟩ ⟨"FlowShelf$Layout", "has", "(I)Z"⟩) ∈ fs_ws := fs_t3 (List.mem_of_getElem? (i := 151) rfl) rfl
theorem tw_3_152 : (Cond.code ⟨"FlowShelf$Layout", "has", "(I)Z"⟩ prog_6_method_2_code 3 (Option.some FieldType.boolean)) ∈ fs_ws := fs_t3 (List.mem_of_getElem? (i := 152) rfl) rfl
theorem tw_3_154 : (Cond.methodLink "FlowShelf" 131 ⟨"FlowShelf$Layout", "append", "(II)V"⟩) ∈ fs_ws := fs_t3 (List.mem_of_getElem? (i := 154) rfl) rfl
theorem tw_3_155 : (Cond.instanceMethod ⟨"FlowShelf$Layout", "append", "(II)V"⟩) ∈ fs_ws := fs_t3 (List.mem_of_getElem? (i := 155) rfl) rfl
theorem tw_3_156 : (Cond.selects "FlowShelf$Layout" ⟨"FlowShelf$Layout", "append", "(II)V"⟩ ⟨"FlowShelf$Layout", "append", "(II)V"⟩) ∈ fs_ws := fs_t3 (List.mem_of_getElem? (i := 156) rfl) rfl
theorem tw_3_157 : (Cond.code ⟨"FlowShelf$Layout", "append", "(II)V"⟩ prog_6_method_3_code 3 (Option.none : Option FieldType)) ∈ fs_ws := fs_t3 (List.mem_of_getElem? (i := 157) rfl) rfl
theorem tw_3_158 : (Cond.methodLink "FlowShelfLaw" 117 ⟨"FlowShelfLaw", "seal", "(LFlowShelf;II[J)I"⟩) ∈ fs_ws := fs_t3 (List.mem_of_getElem? (i := 158) rfl) rfl
theorem tw_3_159 : (Cond.static ⟨"FlowShelfLaw", "seal", "(LFlowShelf;II[J)I"⟩) ∈ fs_ws := fs_t3 (List.mem_of_getElem? (i := 159) rfl) rfl
theorem tw_3_160 : (Cond.codeWith ⟨"FlowShelfLaw", "seal", "(LFlowShelf;II[J)I"⟩ method_9_code 5 (Option.some FieldType.int) [(0, 10, 13, 13), (0, 10, 17, 15)]) ∈ fs_ws := fs_t3 (List.mem_of_getElem? (i := 160) rfl) rfl
theorem tw_3_161 : (Cond.methodLink "FlowShelfLaw" 39 ⟨"FlowShelf", "seal", "(II)I"⟩) ∈ fs_ws := fs_t3 (List.mem_of_getElem? (i := 161) rfl) rfl
theorem tw_3_162 : (Cond.instanceMethod ⟨"FlowShelf", "seal", "(II)I"⟩) ∈ fs_ws := fs_t3 (List.mem_of_getElem? (i := 162) rfl) rfl
theorem tw_3_163 : (Cond.selects "FlowShelf" ⟨"FlowShelf", "seal", "(II)I"⟩ ⟨"FlowShelf", "seal", "(II)I"⟩) ∈ fs_ws := fs_t3 (List.mem_of_getElem? (i := 163) rfl) rfl
theorem tw_3_164 : (Cond.code ⟨"FlowShelf", "seal", "(II)I"⟩ prog_1_method_8_code 4 (Option.some FieldType.int)) ∈ fs_ws := fs_t3 (List.mem_of_getElem? (i := 164) rfl) rfl
theorem tw_3_166 : (Cond.methodLink "FlowShelf" 145 ⟨"FlowShelf$Exporter", "nextSeal", "()I"⟩) ∈ fs_ws := fs_t3 (List.mem_of_getElem? (i := 166) rfl) rfl
theorem tw_3_167 : (Cond.instanceMethod ⟨"FlowShelf$Exporter", "nextSeal", "()I"⟩) ∈ fs_ws := fs_t3 (List.mem_of_getElem? (i := 167) rfl) rfl
theorem tw_3_168 : (Cond.selects "FlowShelf$Exporter" ⟨"FlowShelf$Exporter", "nextSeal", "()I"⟩ ⟨"FlowShelf$Exporter", "nextSeal", "()I"⟩) ∈ fs_ws := fs_t3 (List.mem_of_getElem? (i := 168) rfl) rfl
theorem tw_3_169 : (Cond.code ⟨"FlowShelf$Exporter", "nextSeal", "()I"⟩ prog_4_method_11_code 1 (Option.some FieldType.int)) ∈ fs_ws := fs_t3 (List.mem_of_getElem? (i := 169) rfl) rfl
theorem tw_3_170 : (Cond.methodLink "FlowShelf" 148 ⟨"FlowShelf$Slot", "putInForce", "(I)V"⟩) ∈ fs_ws := fs_t3 (List.mem_of_getElem? (i := 170) rfl) rfl
theorem tw_3_171 : (Cond.instanceMethod ⟨"FlowShelf$Slot", "putInForce", "(I)V"⟩) ∈ fs_ws := fs_t3 (List.mem_of_getElem? (i := 171) rfl) rfl
theorem tw_3_172 : (Cond.selects "FlowShelf$Slot" ⟨"FlowShelf$Slot", "putInForce", "(I)V"⟩ ⟨"FlowShelf$Slot", "putInForce", "(I)V"⟩) ∈ fs_ws := fs_t3 (List.mem_of_getElem? (i := 172) rfl) rfl
theorem tw_3_173 : (Cond.code ⟨"FlowShelf$Slot", "putInForce", "(I)V"⟩ prog_10_method_2_code 3 (Option.none : Option FieldType)) ∈ fs_ws := fs_t3 (List.mem_of_getElem? (i := 173) rfl) rfl
theorem tw_3_174 : (Cond.methodLink "FlowShelfLaw" 120 ⟨"FlowShelfLaw", "withdraw", "(LFlowShelf;II)I"⟩) ∈ fs_ws := fs_t3 (List.mem_of_getElem? (i := 174) rfl) rfl
theorem tw_3_175 : (Cond.static ⟨"FlowShelfLaw", "withdraw", "(LFlowShelf;II)I"⟩) ∈ fs_ws := fs_t3 (List.mem_of_getElem? (i := 175) rfl) rfl
theorem tw_3_176 : (Cond.codeWith ⟨"FlowShelfLaw", "withdraw", "(LFlowShelf;II)I"⟩ method_10_code 4 (Option.some FieldType.int) [(0, 6, 9, 13), (0, 6, 12, 15)]) ∈ fs_ws := fs_t3 (List.mem_of_getElem? (i := 176) rfl) rfl
theorem tw_3_177 : (Cond.methodLink "FlowShelfLaw" 42 ⟨"FlowShelf", "withdraw", "(II)V"⟩) ∈ fs_ws := fs_t3 (List.mem_of_getElem? (i := 177) rfl) rfl
theorem tw_3_178 : (Cond.instanceMethod ⟨"FlowShelf", "withdraw", "(II)V"⟩) ∈ fs_ws := fs_t3 (List.mem_of_getElem? (i := 178) rfl) rfl
theorem tw_3_179 : (Cond.selects "FlowShelf" ⟨"FlowShelf", "withdraw", "(II)V"⟩ ⟨"FlowShelf", "withdraw", "(II)V"⟩) ∈ fs_ws := fs_t3 (List.mem_of_getElem? (i := 179) rfl) rfl
theorem tw_3_180 : (Cond.code ⟨"FlowShelf", "withdraw", "(II)V"⟩ prog_1_method_9_code 4 (Option.none : Option FieldType)) ∈ fs_ws := fs_t3 (List.mem_of_getElem? (i := 180) rfl) rfl
theorem tw_3_182 : (Cond.methodLink "FlowShelfLaw" 123 ⟨"FlowShelfLaw", "restart", "(LFlowShelf;I[J)I"⟩) ∈ fs_ws := fs_t3 (List.mem_of_getElem? (i := 182) rfl) rfl
theorem tw_3_183 : (Cond.static ⟨"FlowShelfLaw", "restart", "(LFlowShelf;I[J)I"⟩) ∈ fs_ws := fs_t3 (List.mem_of_getElem? (i := 183) rfl) rfl
theorem tw_3_184 : (Cond.codeWith ⟨"FlowShelfLaw", "restart", "(LFlowShelf;I[J)I"⟩ method_11_code 4 (Option.some FieldType.int) [(0, 9, 12, 13), (0, 9, 15, 15)]) ∈ fs_ws := fs_t3 (List.mem_of_getElem? (i := 184) rfl) rfl
theorem tw_3_185 : (Cond.methodLink "FlowShelfLaw" 45 ⟨"FlowShelf", "restart", "(I)I"⟩) ∈ fs_ws := fs_t3 (List.mem_of_getElem? (i := 185) rfl) rfl
theorem tw_3_186 : (Cond.instanceMethod ⟨"FlowShelf", "restart", "(I)I"⟩) ∈ fs_ws := fs_t3 (List.mem_of_getElem? (i := 186) rfl) rfl
theorem tw_3_187 : (Cond.selects "FlowShelf" ⟨"FlowShelf", "restart", "(I)I"⟩ ⟨"FlowShelf", "restart", "(I)I"⟩) ∈ fs_ws := fs_t3 (List.mem_of_getElem? (i := 187) rfl) rfl
theorem tw_3_188 : (Cond.code ⟨"FlowShelf", "restart", "(I)I"⟩ prog_1_method_10_code 3 (Option.some FieldType.int)) ∈ fs_ws := fs_t3 (List.mem_of_getElem? (i := 188) rfl) rfl
theorem tw_3_190 : (Cond.methodLink "FlowShelf" 161 ⟨"FlowShelf$Exporter", "beginNextEpoch", "()V"⟩) ∈ fs_ws := fs_t3 (List.mem_of_getElem? (i := 190) rfl) rfl
theorem tw_3_191 : (Cond.instanceMethod ⟨"FlowShelf$Exporter", "beginNextEpoch", "()V"⟩) ∈ fs_ws := fs_t3 (List.mem_of_getElem? (i := 191) rfl) rfl
theorem tw_3_192 : (Cond.selects "FlowShelf$Exporter" ⟨"FlowShelf$Exporter", "beginNextEpoch", "()V"⟩ ⟨"FlowShelf$Exporter", "beginNextEpoch", "()V"⟩) ∈ fs_ws := fs_t3 (List.mem_of_getElem? (i := 192) rfl) rfl
theorem tw_3_193 : (Cond.code ⟨"FlowShelf$Exporter", "beginNextEpoch", "()V"⟩ prog_4_method_13_code 2 (Option.none : Option FieldType)) ∈ fs_ws := fs_t3 (List.mem_of_getElem? (i := 193) rfl) rfl
theorem tw_3_194 : (Cond.methodLink "FlowShelf$Exporter" 107 ⟨"java/util/ArrayList", "clear", "()V"⟩) ∈ fs_ws := fs_t3 (List.mem_of_getElem? (i := 194) rfl) rfl
theorem tw_3_195 : (Cond.instanceMethod ⟨"java/util/ArrayList", "clear", "()V"⟩) ∈ fs_ws := fs_t3 (List.mem_of_getElem? (i := 195) rfl) rfl
theorem tw_3_196 : (Cond.selects "java/util/ArrayList" ⟨"java/util/ArrayList", "clear", "()V"⟩ ⟨"java/util/ArrayList", "clear", "()V"⟩) ∈ fs_ws := fs_t3 (List.mem_of_getElem? (i := 196) rfl) rfl
theorem tw_3_197 : (Cond.code ⟨"java/util/ArrayList", "clear", "()V"⟩ prog_29_method_40_code 4 (Option.none : Option FieldType)) ∈ fs_ws := fs_t3 (List.mem_of_getElem? (i := 197) rfl) rfl
theorem tw_3_198 : (Cond.methodLink "FlowShelf$Exporter" 110 ⟨"FlowShelf$Slot", "forget", "()V"⟩) ∈ fs_ws := fs_t3 (List.mem_of_getElem? (i := 198) rfl) rfl
theorem tw_3_199 : (Cond.instanceMethod ⟨"FlowShelf$Slot", "forget", "()V"⟩) ∈ fs_ws := fs_t3 (List.mem_of_getElem? (i := 199) rfl) rfl
theorem tw_3_200 : (Cond.selects "FlowShelf$Slot" ⟨"FlowShelf$Slot", "forget", "()V"⟩ ⟨"FlowShelf$Slot", "forget", "()V"⟩) ∈ fs_ws := fs_t3 (List.mem_of_getElem? (i := 200) rfl) rfl
theorem tw_3_201 : (Cond.code ⟨"FlowShelf$Slot", "forget", "()V"⟩ prog_10_method_3_code 1 (Option.none : Option FieldType)) ∈ fs_ws := fs_t3 (List.mem_of_getElem? (i := 201) rfl) rfl
theorem tw_3_202 : (Cond.methodLink "FlowShelf$Exporter" 113 ⟨"FlowShelf$Exporter", "sampleEvery", "(I)V"⟩) ∈ fs_ws := fs_t3 (List.mem_of_getElem? (i := 202) rfl) rfl
theorem tw_3_203 : (Cond.methodLink "FlowShelfLaw" 126 ⟨"FlowShelfLaw", "announce", "(LFlowShelf;II[J)I"⟩) ∈ fs_ws := fs_t3 (List.mem_of_getElem? (i := 203) rfl) rfl
theorem tw_3_204 : (Cond.static ⟨"FlowShelfLaw", "announce", "(LFlowShelf;II[J)I"⟩) ∈ fs_ws := fs_t3 (List.mem_of_getElem? (i := 204) rfl) rfl
theorem tw_3_205 : (Cond.codeWith ⟨"FlowShelfLaw", "announce", "(LFlowShelf;II[J)I"⟩ method_12_code 5 (Option.some FieldType.int) [(0, 10, 13, 13), (0, 10, 17, 15)]) ∈ fs_ws := fs_t3 (List.mem_of_getElem? (i := 205) rfl) rfl
theorem tw_3_206 : (Cond.methodLink "FlowShelfLaw" 48 ⟨"FlowShelf", "announce", "(II)I"⟩) ∈ fs_ws := fs_t3 (List.mem_of_getElem? (i := 206) rfl) rfl
theorem tw_3_207 : (Cond.instanceMethod ⟨"FlowShelf", "announce", "(II)I"⟩) ∈ fs_ws := fs_t3 (List.mem_of_getElem? (i := 207) rfl) rfl
theorem tw_3_208 : (Cond.selects "FlowShelf" ⟨"FlowShelf", "announce", "(II)I"⟩ ⟨"FlowShelf", "announce", "(II)I"⟩) ∈ fs_ws := fs_t3 (List.mem_of_getElem? (i := 208) rfl) rfl
theorem tw_3_209 : (Cond.code ⟨"FlowShelf", "announce", "(II)I"⟩ prog_1_method_11_code 4 (Option.some FieldType.int)) ∈ fs_ws := fs_t3 (List.mem_of_getElem? (i := 209) rfl) rfl
theorem tw_3_210 : (Cond.methodLink "FlowShelf" 164 ⟨"FlowShelf", "hasNoRoomForReport", "()Z"⟩) ∈ fs_ws := fs_t3 (List.mem_of_getElem? (i := 210) rfl) rfl
theorem tw_3_212 : (Cond.instanceMethod ⟨"FlowShelf", "hasNoRoomForReport", "()Z"⟩) ∈ fs_ws := fs_t3 (List.mem_of_getElem? (i := 212) rfl) rfl
theorem tw_3_213 : (Cond.code ⟨"FlowShelf", "hasNoRoomForReport", "()Z"⟩ prog_1_method_32_code 1 (Option.some FieldType.boolean)) ∈ fs_ws := fs_t3 (List.mem_of_getElem? (i := 213) rfl) rfl
theorem tw_3_215 : (Cond.methodLink "FlowShelf" 169 ⟨"FlowShelf$Exporter", "writeTemplate", "(LFlowShelf$Slot;)LFlowShelf$Report;"⟩) ∈ fs_ws := fs_t3 (List.mem_of_getElem? (i := 215) rfl) rfl
theorem tw_3_216 : (Cond.instanceMethod ⟨"FlowShelf$Exporter", "writeTemplate", "(LFlowShelf$Slot;)LFlowShelf$Report;"⟩) ∈ fs_ws := fs_t3 (List.mem_of_getElem? (i := 216) rfl) rfl
theorem tw_3_217 : (Cond.selects "FlowShelf$Exporter" ⟨"FlowShelf$Exporter", "writeTemplate", "(LFlowShelf$Slot;)LFlowShelf$Report;"⟩ ⟨"FlowShelf$Exporter", "writeTemplate", "(LFlowShelf$Slot;)LFlowShelf$Report;"⟩) ∈ fs_ws := fs_t3 (List.mem_of_getElem? (i := 217) rfl) rfl
theorem tw_3_218 : (Cond.code ⟨"FlowShelf$Exporter", "writeTemplate", "(LFlowShelf$Slot;)LFlowShelf$Report;"⟩ prog_4_method_14_code 4 (Option.some (FieldType.object "FlowShelf$Report"))) ∈ fs_ws := fs_t3 (List.mem_of_getElem? (i := 218) rfl) rfl
theorem tw_3_219 : (Cond.classLink "FlowShelf$Exporter" 122 "FlowShelf$Report") ∈ fs_ws := fs_t3 (List.mem_of_getElem? (i := 219) rfl) rfl
theorem tw_3_220 : (Cond.instantiable "FlowShelf$Report" 2) ∈ fs_ws := fs_t3 (List.mem_of_getElem? (i := 220) rfl) rfl
theorem tw_3_221 : (Cond.methodLink "FlowShelf$Exporter" 124 ⟨"FlowShelf$Report", "<init>", "(III)V"⟩) ∈ fs_ws := fs_t3 (List.mem_of_getElem? (i := 221) rfl) rfl
theorem tw_3_222 : (Cond.instanceMethod ⟨"FlowShelf$Report", "<init>", "(III)V"⟩) ∈ fs_ws := fs_t3 (List.mem_of_getElem? (i := 222) rfl) rfl
theorem tw_3_223 : (Cond.code ⟨"FlowShelf$Report", "<init>", "(III)V"⟩ prog_8_method_1_code 4 (Option.none : Option FieldType)) ∈ fs_ws := fs_t3 (List.mem_of_getElem? (i := 223) rfl) rfl
theorem tw_3_224 : (Cond.methodLink "FlowShelf$Report" 3 ⟨"java/lang/Object", "<init>", "()V"⟩) ∈ fs_ws := fs_t3 (List.mem_of_getElem? (i := 224) rfl) rfl
theorem tw_3_225 : (Cond.fieldLink "FlowShelf$Report" 9 "FlowShelf$Report" "bytes" "[I") ∈ fs_ws := fs_t3 (List.mem_of_getElem? (i := 225) rfl) rfl
theorem tw_3_226 : (Cond.fieldLink "FlowShelf$Cursor" 32 "FlowShelf$Report" "bytes" "[I") ∈ fs_ws := fs_t3 (List.mem_of_getElem? (i := 226) rfl) rfl
theorem tw_3_227 : (Cond.fieldLink "FlowShelf" 211 "FlowShelf$Report" "bytes" "[I") ∈ fs_ws := fs_t3 (List.mem_of_getElem? (i := 227) rfl) rfl
theorem tw_3_228 : (Cond.fieldLink "FlowShelf$Report" 15 "FlowShelf$Report" "used" "I") ∈ fs_ws := fs_t3 (List.mem_of_getElem? (i := 228) rfl) rfl
theorem tw_3_229 : (Cond.fieldLink "FlowShelf$Cursor" 19 "FlowShelf$Report" "used" "I") ∈ fs_ws := fs_t3 (List.mem_of_getElem? (i := 229) rfl) rfl
theorem tw_3_230 : (Cond.fieldLink "FlowShelf" 206 "FlowShelf$Report" "used" "I") ∈ fs_ws := fs_t3 (List.mem_of_getElem? (i := 230) rfl) rfl
theorem tw_3_236 : (Cond.methodLink "FlowShelf$Exporter" 128 ⟨"FlowShelf$Report", "append", "(I)V"⟩) ∈ fs_ws := fs_t3 (List.mem_of_getElem? (i := 236) rfl) rfl
theorem tw_3_237 : (Cond.instanceMethod ⟨"FlowShelf$Report", "append", "(I)V"⟩) ∈ fs_ws := fs_t3 (List.mem_of_getElem? (i := 237) rfl) rfl
theorem tw_3_238 : (Cond.selects "FlowShelf$Report" ⟨"FlowShelf$Report", "append", "(I)V"⟩ ⟨"FlowShelf$Report", "append", "(I)V"⟩) ∈ fs_ws := fs_t3 (List.mem_of_getElem? (i := 238) rfl) rfl
theorem tw_3_239 : (Cond.code ⟨"FlowShelf$Report", "append", "(I)V"⟩ prog_8_method_3_code 2 (Option.none : Option FieldType)) ∈ fs_ws := fs_t3 (List.mem_of_getElem? (i := 239) rfl) rfl
theorem tw_4_0 : (Cond.methodLink "FlowShelf" 173 ⟨"FlowShelf", "keep", "(LFlowShelf$Report;)I"⟩) ∈ fs_ws := fs_t4 (List.mem_of_getElem? (i := 0) rfl) rfl
theorem tw_4_2 : (Cond.instanceMethod ⟨"FlowShelf", "keep", "(LFlowShelf$Report;)I"⟩) ∈ fs_ws := fs_t4 (List.mem_of_getElem? (i := 2) rfl) rfl
theorem tw_4_3 : (Cond.code ⟨"FlowShelf", "keep", "(LFlowShelf$Report;)I"⟩ prog_1_method_33_code 2 (Option.some FieldType.int)) ∈ fs_ws := fs_t4 (List.mem_of_getElem? (i := 3) rfl) rfl
theorem tw_4_4 : (Cond.methodLink "FlowShelf" 314 ⟨"java/util/ArrayList", "add", "(Ljava/lang/Object;)Z"⟩) ∈ fs_ws := fs_t4 (List.mem_of_getElem? (i := 4) rfl) rfl
theorem tw_4_5 : (Cond.methodLink "FlowShelfLaw" 129 ⟨"FlowShelfLaw", "report", "(LFlowShelf;I[J)I"⟩) ∈ fs_ws := fs_t4 (List.mem_of_getElem? (i := 5) rfl) rfl
theorem tw_4_6 : (Cond.static ⟨"FlowShelfLaw", "report", "(LFlowShelf;I[J)I"⟩) ∈ fs_ws := fs_t4 (List.mem_of_getElem? (i := 6) rfl) rfl
theorem tw_4_7 : (Cond.codeWith ⟨"FlowShelfLaw", "report", "(LFlowShelf;I[J)I"⟩ method_13_code 4 (Option.some FieldType.int) [(0, 9, 12, 13), (0, 9, 15, 15)]) ∈ fs_ws := fs_t4 (List.mem_of_getElem? (i := 7) rfl) rfl
theorem tw_4_8 : (Cond.methodLink "FlowShelfLaw" 51 ⟨"FlowShelf", "report", "(I)I"⟩) ∈ fs_ws := fs_t4 (List.mem_of_getElem? (i := 8) rfl) rfl
theorem tw_4_9 : (Cond.instanceMethod ⟨"FlowShelf", "report", "(I)I"⟩) ∈ fs_ws := fs_t4 (List.mem_of_getElem? (i := 9) rfl) rfl
theorem tw_4_10 : (Cond.selects "FlowShelf" ⟨"FlowShelf", "report", "(I)I"⟩ ⟨"FlowShelf", "report", "(I)I"⟩) ∈ fs_ws := fs_t4 (List.mem_of_getElem? (i := 10) rfl) rfl
theorem tw_4_11 : (Cond.code ⟨"FlowShelf", "report", "(I)I"⟩ prog_1_method_12_code 4 (Option.some FieldType.int)) ∈ fs_ws := fs_t4 (List.mem_of_getElem? (i := 11) rfl) rfl
theorem tw_4_12 : (Cond.methodLink "FlowShelf" 177 ⟨"FlowShelf$Exporter", "numberSealedLast", "()I"⟩) ∈ fs_ws := fs_t4 (List.mem_of_getElem? (i := 12) rfl) rfl
theorem tw_4_13 : (Cond.instanceMethod ⟨"FlowShelf$Exporter", "numberSealedLast", "()I"⟩) ∈ fs_ws := fs_t4 (List.mem_of_getElem? (i := 13) rfl) rfl
theorem tw_4_14 : (Cond.selects "FlowShelf$Exporter" ⟨"FlowShelf$Exporter", "numberSealedLast", "()I"⟩ ⟨"FlowShelf$Exporter", "numberSealedLast", "()I"⟩) ∈ fs_ws := fs_t4 (List.mem_of_getElem? (i := 14) rfl) rfl
theorem tw_4_15 : (Cond.code ⟨"FlowShelf$Exporter", "numberSealedLast", "()I"⟩ prog_4_method_12_code 3 (Option.some FieldType.int)) ∈ fs_ws := fs_t4 (List.mem_of_getElem? (i := 15) rfl) rfl
theorem tw_4_16 : (Cond.methodLink "FlowShelf" 180 ⟨"java/util/ArrayList", "isEmpty", "()Z"⟩) ∈ fs_ws := fs_t4 (List.mem_of_getElem? (i := 16) rfl) rfl
theorem tw_4_17 : (Cond.instanceMethod ⟨"java/util/ArrayList", "isEmpty", "()Z"⟩) ∈ fs_ws := fs_t4 (List.mem_of_getElem? (i := 17) rfl) rfl
theorem tw_4_18 : (Cond.selects "java/util/ArrayList" ⟨"java/util/ArrayList", "isEmpty", "()Z"⟩ ⟨"java/util/ArrayList", "isEmpty", "()Z"⟩) ∈ fs_ws := fs_t4 (List.mem_of_getElem? (i := 18) rfl) rfl
theorem tw_4_19 : (Cond.code ⟨"java/util/ArrayList", "isEmpty", "()Z"⟩ prog_29_method_9_code 1 (Option.some FieldType.boolean)) ∈ fs_ws := fs_t4 (List.mem_of_getElem? (i := 19) rfl) rfl
theorem tw_4_21 : (Cond.methodLink "FlowShelf" 192 ⟨"FlowShelf$Exporter", "writeRecords", "(LFlowShelf$Slot;)LFlowShelf$Report;"⟩) ∈ fs_ws := fs_t4 (List.mem_of_getElem? (i := 21) rfl) rfl
theorem tw_4_22 : (Cond.instanceMethod ⟨"FlowShelf$Exporter", "writeRecords", "(LFlowShelf$Slot;)LFlowShelf$Report;"⟩) ∈ fs_ws := fs_t4 (List.mem_of_getElem? (i := 22) rfl) rfl
theorem tw_4_23 : (Cond.selects "FlowShelf$Exporter" ⟨"FlowShelf$Exporter", "writeRecords", "(LFlowShelf$Slot;)LFlowShelf$Report;"⟩ ⟨"FlowShelf$Exporter", "writeRecords", "(LFlowShelf$Slot;)LFlowShelf$Report;"⟩) ∈ fs_ws := fs_t4 (List.mem_of_getElem? (i := 23) rfl) rfl
theorem tw_4_24 : (Cond.code ⟨"FlowShelf$Exporter", "writeRecords", "(LFlowShelf$Slot;)LFlowShelf$Report;"⟩ prog_4_method_15_code 5 (Option.some (FieldType.object "FlowShelf$Report"))) ∈ fs_ws := fs_t4 (List.mem_of_getElem? (i := 24) rfl) rfl
theorem tw_4_25 : (Cond.methodLink "FlowShelf$Exporter" 150 ⟨"FlowShelf$Exporter", "recordsThatFit", "(LFlowShelf$Layout;)I"⟩) ∈ fs_ws := fs_t4 (List.mem_of_getElem? (i := 25) rfl) rfl
theorem tw_4_26 : (Cond.instanceMethod ⟨"FlowShelf$Exporter", "recordsThatFit", "(LFlowShelf$Layout;)I"⟩) ∈ fs_ws := fs_t4 (List.mem_of_getElem? (i := 26) rfl) rfl
theorem tw_4_27 : (Cond.selects "FlowShelf$Exporter" ⟨"FlowShelf$Exporter", "recordsThatFit", "(LFlowShelf$Layout;)I"⟩ ⟨"FlowShelf$Exporter", "recordsThatFit", "(LFlowShelf$Layout;)I"⟩) ∈ fs_ws := fs_t4 (List.mem_of_getElem? (i := 27) rfl) rfl
theorem tw_4_28 : (Cond.code ⟨"FlowShelf$Exporter", "recordsThatFit", "(LFlowShelf$Layout;)I"⟩ prog_4_method_16_code 5 (Option.some FieldType.int)) ∈ fs_ws := fs_t4 (List.mem_of_getElem? (i := 28) rfl) rfl
theorem tw_4_29 : (Cond.methodLink "FlowShelf$Exporter" 162 ⟨"java/lang/Math", "min", "(II)I"⟩) ∈ fs_ws := fs_t4 (List.mem_of_getElem? (i := 29) rfl) rfl
theorem tw_4_30 : (Cond.methodLink "FlowShelf$Exporter" 168 ⟨"FlowShelf$Layout", "bytesFor", "(LFlowShelf$Flow;)I"⟩) ∈ fs_ws := fs_t4 (List.mem_of_getElem? (i := 30) rfl) rfl
theorem tw_4_31 : (Cond.instanceMethod ⟨"FlowShelf$Layout", "bytesFor", "(LFlowShelf$Flow;)I"⟩) ∈ fs_ws := fs_t4 (List.mem_of_getElem? (i := 31) rfl) rfl
theorem tw_4_32 : (Cond.selects "FlowShelf$Layout" ⟨"FlowShelf$Layout", "bytesFor", "(LFlowShelf$Flow;)I"⟩ ⟨"FlowShelf$Layout", "bytesFor", "(LFlowShelf$Flow;)I"⟩) ∈ fs_ws := fs_t4 (List.mem_of_getElem? (i := 32) rfl) rfl
theorem tw_4_33 : (Cond.code ⟨"FlowShelf$Layout", "bytesFor", "(LFlowShelf$Flow;)I"⟩ prog_6_method_4_code 4 (Option.some FieldType.int)) ∈ fs_ws := fs_t4 (List.mem_of_getElem? (i := 33) rfl) rfl
theorem tw_4_34 : (Cond.methodLink "FlowShelf$Layout" 22 ⟨"FlowShelf$Flow", "valueOf", "(I)I"⟩) ∈ fs_ws := fs_t4 (List.mem_of_getElem? (i := 34) rfl) rfl
theorem tw_4_35 : (Cond.methodLink "FlowShelf$Layout" 28 ⟨"FlowShelf$Layout", "fewestBytes", "(I)I"⟩) ∈ fs_ws := fs_t4 (List.mem_of_getElem? (i := 35) rfl) rfl
theorem tw_4_36 : (Cond.static ⟨"FlowShelf$Layout", "fewestBytes", "(I)I"⟩) ∈ fs_ws := fs_t4 (List.mem_of_getElem? (i := 36) rfl) rfl
theorem tw_4_37 : (Cond.code ⟨"FlowShelf$Layout", "fewestBytes", "(I)I"⟩ prog_6_method_6_code 3 (Option.some FieldType.int)) ∈ fs_ws := fs_t4 (List.mem_of_getElem? (i := 37) rfl) rfl
theorem tw_4_38 : (Cond.methodLink "FlowShelf$Exporter" 154 ⟨"java/util/ArrayList", "isEmpty", "()Z"⟩) ∈ fs_ws := fs_t4 (List.mem_of_getElem? (i := 38) rfl) rfl
theorem tw_4_39 : (Cond.methodLink "FlowShelf$Exporter" 158 ⟨"FlowShelf$Layout", "write", "(LFlowShelf$Flow;LFlowShelf$Report;)V"⟩) ∈ fs_ws := fs_t4 (List.mem_of_getElem? (i := 39) rfl) rfl
theorem tw_4_40 : (Cond.instanceMethod ⟨"FlowShelf$Layout", "write", "(LFlowShelf$Flow;LFlowShelf$Report;)V"⟩) ∈ fs_ws := fs_t4 (List.mem_of_getElem? (i := 40) rfl) rfl
theorem tw_4_41 : (Cond.selects "FlowShelf$Layout" ⟨"FlowShelf$Layout", "write", "(LFlowShelf$Flow;LFlowShelf$Report;)V"⟩ ⟨"FlowShelf$Layout", "write", "(LFlowShelf$Flow;LFlowShelf$Report;)V"⟩) ∈ fs_ws := fs_t4 (List.mem_of_getElem? (i := 41) rfl) rfl
theorem tw_4_42 : (Cond.code ⟨"FlowShelf$Layout", "write", "(LFlowShelf$Flow;LFlowShelf$Report;)V"⟩ prog_6_method_5_code 6 (Option.none : Option FieldType)) ∈ fs_ws := fs_t4 (List.mem_of_getElem? (i := 42) rfl) rfl
theorem tw_4_43 : (Cond.methodLink "FlowShelf$Layout" 31 ⟨"FlowShelf$Report", "append", "(I)V"⟩) ∈ fs_ws := fs_t4 (List.mem_of_getElem? (i := 43) rfl) rfl
theorem tw_4_44 : (Cond.methodLink "FlowShelf$Layout" 37 ⟨"FlowShelf$Report", "appendNumber", "(II)V"⟩) ∈ fs_ws := fs_t4 (List.mem_of_getElem? (i := 44) rfl) rfl
theorem tw_4_45 : (Cond.instanceMethod ⟨"FlowShelf$Report", "appendNumber", "(II)V"⟩) ∈ fs_ws := fs_t4 (List.mem_of_getElem? (i := 45) rfl) rfl
theorem tw_4_46 : (Cond.selects "FlowShelf$Report" ⟨"FlowShelf$Report", "appendNumber", "(II)V"⟩ ⟨"FlowShelf$Report", "appendNumber", "(II)V"⟩) ∈ fs_ws := fs_t4 (List.mem_of_getElem? (i := 46) rfl) rfl
theorem tw_4_47 : (Cond.code ⟨"FlowShelf$Report", "appendNumber", "(II)V"⟩ prog_8_method_4_code 4 (Option.none : Option FieldType)) ∈ fs_ws := fs_t4 (List.mem_of_getElem? (i := 47) rfl) rfl
theorem tw_4_48 : (Cond.methodLink "FlowShelf$Report" 25 ⟨"FlowShelf$Report", "append", "(I)V"⟩) ∈ fs_ws := fs_t4 (List.mem_of_getElem? (i := 48) rfl) rfl
theorem tw_4_49 : (Cond.methodLink "FlowShelfLaw" 132 ⟨"FlowShelfLaw", "tell", "(LFlowShelf;I[J)I"⟩) ∈ fs_ws := fs_t4 (List.mem_of_getElem? (i := 49) rfl) rfl
theorem tw_4_50 : (Cond.static ⟨"FlowShelfLaw", "tell", "(LFlowShelf;I[J)I"⟩) ∈ fs_ws := fs_t4 (List.mem_of_getElem? (i := 50) rfl) rfl
theorem tw_4_51 : (Cond.codeWith ⟨"FlowShelfLaw", "tell", "(LFlowShelf;I[J)I"⟩ method_14_code 4 (Option.some FieldType.int) [(0, 9, 12, 13), (0, 9, 15, 15)]) ∈ fs_ws := fs_t4 (List.mem_of_getElem? (i := 51) rfl) rfl
theorem tw_4_52 : (Cond.methodLink "FlowShelfLaw" 54 ⟨"FlowShelf", "tell", "(I)I"⟩) ∈ fs_ws := fs_t4 (List.mem_of_getElem? (i := 52) rfl) rfl
theorem tw_4_53 : (Cond.instanceMethod ⟨"FlowShelf", "tell", "(I)I"⟩) ∈ fs_ws := fs_t4 (List.mem_of_getElem? (i := 53) rfl) rfl
theorem tw_4_54 : (Cond.selects "FlowShelf" ⟨"FlowShelf", "tell", "(I)I"⟩ ⟨"FlowShelf", "tell", "(I)I"⟩) ∈ fs_ws := fs_t4 (List.mem_of_getElem? (i := 54) rfl) rfl
theorem tw_4_55 : (Cond.code ⟨"FlowShelf", "tell", "(I)I"⟩ prog_1_method_13_code 3 (Option.some FieldType.int)) ∈ fs_ws := fs_t4 (List.mem_of_getElem? (i := 55) rfl) rfl
theorem tw_4_57 : (Cond.methodLink "FlowShelf" 197 ⟨"FlowShelf$Exporter", "writeSampler", "()LFlowShelf$Report;"⟩) ∈ fs_ws := fs_t4 (List.mem_of_getElem? (i := 57) rfl) rfl
theorem tw_4_58 : (Cond.instanceMethod ⟨"FlowShelf$Exporter", "writeSampler", "()LFlowShelf$Report;"⟩) ∈ fs_ws := fs_t4 (List.mem_of_getElem? (i := 58) rfl) rfl
theorem tw_4_59 : (Cond.selects "FlowShelf$Exporter" ⟨"FlowShelf$Exporter", "writeSampler", "()LFlowShelf$Report;"⟩ ⟨"FlowShelf$Exporter", "writeSampler", "()LFlowShelf$Report;"⟩) ∈ fs_ws := fs_t4 (List.mem_of_getElem? (i := 59) rfl) rfl
theorem tw_4_60 : (Cond.code ⟨"FlowShelf$Exporter", "writeSampler", "()LFlowShelf$Report;"⟩ prog_4_method_17_code 2 (Option.some (FieldType.object "FlowShelf$Report"))) ∈ fs_ws := fs_t4 (List.mem_of_getElem? (i := 60) rfl) rfl
theorem tw_4_61 : (Cond.methodLink "FlowShelfLaw" 139 ⟨"FlowShelfLaw", "byteOf", "(LFlowShelf;II[J)I"⟩) ∈ fs_ws := fs_t4 (List.mem_of_getElem? (i := 61) rfl) rfl
theorem tw_4_62 : (Cond.static ⟨"FlowShelfLaw", "byteOf", "(LFlowShelf;II[J)I"⟩) ∈ fs_ws := fs_t4 (List.mem_of_getElem? (i := 62) rfl) rfl
theorem tw_4_63 : (Cond.codeWith ⟨"FlowShelfLaw", "byteOf", "(LFlowShelf;II[J)I"⟩ method_15_code 5 (Option.some FieldType.int) [(0, 10, 13, 33)]) ∈ fs_ws := fs_t4 (List.mem_of_getElem? (i := 63) rfl) rfl
theorem tw_4_64 : (Cond.methodLink "FlowShelfLaw" 57 ⟨"FlowShelf", "byteOf", "(II)I"⟩) ∈ fs_ws := fs_t4 (List.mem_of_getElem? (i := 64) rfl) rfl
theorem tw_4_65 : (Cond.instanceMethod ⟨"FlowShelf", "byteOf", "(II)I"⟩) ∈ fs_ws := fs_t4 (List.mem_of_getElem? (i := 65) rfl) rfl
theorem tw_4_66 : (Cond.selects "FlowShelf" ⟨"FlowShelf", "byteOf", "(II)I"⟩ ⟨"FlowShelf", "byteOf", "(II)I"⟩) ∈ fs_ws := fs_t4 (List.mem_of_getElem? (i := 66) rfl) rfl
theorem tw_4_67 : (Cond.code ⟨"FlowShelf", "byteOf", "(II)I"⟩ prog_1_method_15_code 3 (Option.some FieldType.int)) ∈ fs_ws := fs_t4 (List.mem_of_getElem? (i := 67) rfl) rfl
theorem tw_4_68 : (Cond.methodLink "FlowShelf" 207 ⟨"FlowShelf", "reportWithByte", "(II)LFlowShelf$Report;"⟩) ∈ fs_ws := fs_t4 (List.mem_of_getElem? (i := 68) rfl) rfl
theorem tw_4_70 : (Cond.instanceMethod ⟨"FlowShelf", "reportWithByte", "(II)LFlowShelf$Report;"⟩) ∈ fs_ws := fs_t4 (List.mem_of_getElem? (i := 70) rfl) rfl
theorem tw_4_71 : (Cond.code ⟨"FlowShelf", "reportWithByte", "(II)LFlowShelf$Report;"⟩ prog_1_method_31_code 4 (Option.some (FieldType.object "FlowShelf$Report"))) ∈ fs_ws := fs_t4 (List.mem_of_getElem? (i := 71) rfl) rfl
theorem tw_4_72 : (Cond.methodLink "FlowShelf" 216 ⟨"FlowShelf", "reportOf", "(I)LFlowShelf$Report;"⟩) ∈ fs_ws := fs_t4 (List.mem_of_getElem? (i := 72) rfl) rfl
theorem tw_4_74 : (Cond.instanceMethod ⟨"FlowShelf", "reportOf", "(I)LFlowShelf$Report;"⟩) ∈ fs_ws := fs_t4 (List.mem_of_getElem? (i := 74) rfl) rfl
theorem tw_4_75 : (Cond.code ⟨"FlowShelf", "reportOf", "(I)LFlowShelf$Report;"⟩ prog_1_method_30_code 2 (Option.some (FieldType.object "FlowShelf$Report"))) ∈ fs_ws := fs_t4 (List.mem_of_getElem? (i := 75) rfl) rfl
theorem tw_4_78 : (Cond.methodLink "FlowShelfLaw" 142 ⟨"FlowShelfLaw", "poke", "(LFlowShelf;III)I"⟩) ∈ fs_ws := fs_t4 (List.mem_of_getElem? (i := 78) rfl) rfl
theorem tw_4_79 : (Cond.static ⟨"FlowShelfLaw", "poke", "(LFlowShelf;III)I"⟩) ∈ fs_ws := fs_t4 (List.mem_of_getElem? (i := 79) rfl) rfl
theorem tw_4_80 : (Cond.codeWith ⟨"FlowShelfLaw", "poke", "(LFlowShelf;III)I"⟩ method_16_code 5 (Option.some FieldType.int) [(0, 7, 10, 33), (0, 7, 14, 13)]) ∈ fs_ws := fs_t4 (List.mem_of_getElem? (i := 80) rfl) rfl
theorem tw_4_81 : (Cond.methodLink "FlowShelfLaw" 60 ⟨"FlowShelf", "poke", "(III)V"⟩) ∈ fs_ws := fs_t4 (List.mem_of_getElem? (i := 81) rfl) rfl
theorem tw_4_82 : (Cond.instanceMethod ⟨"FlowShelf", "poke", "(III)V"⟩) ∈ fs_ws := fs_t4 (List.mem_of_getElem? (i := 82) rfl) rfl
theorem tw_4_83 : (Cond.selects "FlowShelf" ⟨"FlowShelf", "poke", "(III)V"⟩ ⟨"FlowShelf", "poke", "(III)V"⟩) ∈ fs_ws := fs_t4 (List.mem_of_getElem? (i := 83) rfl) rfl
theorem tw_4_84 : (Cond.code ⟨"FlowShelf", "poke", "(III)V"⟩ prog_1_method_16_code 5 (Option.none : Option FieldType)) ∈ fs_ws := fs_t4 (List.mem_of_getElem? (i := 84) rfl) rfl
theorem tw_4_86 : (Cond.methodLink "FlowShelfLaw" 146 ⟨"FlowShelfLaw", "hear", "(LFlowShelf;I[J)I"⟩) ∈ fs_ws := fs_t4 (List.mem_of_getElem? (i := 86) rfl) rfl
theorem tw_4_87 : (Cond.static ⟨"FlowShelfLaw", "hear", "(LFlowShelf;I[J)I"⟩) ∈ fs_ws := fs_t4 (List.mem_of_getElem? (i := 87) rfl) rfl
theorem tw_4_88 : (Cond.codeWith ⟨"FlowShelfLaw", "hear", "(LFlowShelf;I[J)I"⟩ method_17_code 4 (Option.some FieldType.int) [(0, 9, 12, 33), (0, 9, 15, 13), (0, 9, 18, 67)]) ∈ fs_ws := fs_t4 (List.mem_of_getElem? (i := 88) rfl) rfl
theorem tw_4_89 : (Cond.classLink "FlowShelfLaw" 67 "java/lang/UnsupportedOperationException") ∈ fs_ws := fs_t4 (List.mem_of_getElem? (i := 89) rfl) rfl
theorem tw_4_90 : (Cond.methodLink "FlowShelfLaw" 64 ⟨"FlowShelf", "hear", "(I)I"⟩) ∈ fs_ws := fs_t4 (List.mem_of_getElem? (i := 90) rfl) rfl
theorem tw_4_91 : (Cond.instanceMethod ⟨"FlowShelf", "hear", "(I)I"⟩) ∈ fs_ws := fs_t4 (List.mem_of_getElem? (i := 91) rfl) rfl
theorem tw_4_92 : (Cond.selects "FlowShelf" ⟨"FlowShelf", "hear", "(I)I"⟩ ⟨"FlowShelf", "hear", "(I)I"⟩) ∈ fs_ws := fs_t4 (List.mem_of_getElem? (i := 92) rfl) rfl
theorem tw_4_93 : (Cond.code ⟨"FlowShelf", "hear", "(I)I"⟩ prog_1_method_17_code 3 (Option.some FieldType.int)) ∈ fs_ws := fs_t4 (List.mem_of_getElem? (i := 93) rfl) rfl
theorem tw_4_94 : (Cond.methodLink "FlowShelf" 220 ⟨"FlowShelf$Report", "isBad", "()Z"⟩) ∈ fs_ws := fs_t4 (List.mem_of_getElem? (i := 94) rfl) rfl
theorem tw_4_95 : (Cond.instanceMethod ⟨"FlowShelf$Report", "isBad", "()Z"⟩) ∈ fs_ws := fs_t4 (List.mem_of_getElem? (i := 95) rfl) rfl
theorem tw_4_96 : (Cond.selects "FlowShelf$Report" ⟨"FlowShelf$Report", "isBad", "()Z"⟩ ⟨"FlowShelf$Report", "isBad", "()Z"⟩) ∈ fs_ws := fs_t4 (List.mem_of_getElem? (i := 96) rfl) rfl
theorem tw_4_97 : (Cond.code ⟨"FlowShelf$Report", "isBad", "()Z"⟩ prog_8_method_16_code 1 (Option.some FieldType.boolean)) ∈ fs_ws := fs_t4 (List.mem_of_getElem? (i := 97) rfl) rfl
theorem tw_4_98 : (Cond.methodLink "FlowShelf$Report" 29 ⟨"FlowShelf$Report", "exporter", "()I"⟩) ∈ fs_ws := fs_t4 (List.mem_of_getElem? (i := 98) rfl) rfl
theorem tw_4_99 : (Cond.instanceMethod ⟨"FlowShelf$Report", "exporter", "()I"⟩) ∈ fs_ws := fs_t4 (List.mem_of_getElem? (i := 99) rfl) rfl
theorem tw_4_100 : (Cond.selects "FlowShelf$Report" ⟨"FlowShelf$Report", "exporter", "()I"⟩ ⟨"FlowShelf$Report", "exporter", "()I"⟩) ∈ fs_ws := fs_t4 (List.mem_of_getElem? (i := 100) rfl) rfl
theorem tw_4_101 : (Cond.code ⟨"FlowShelf$Report", "exporter", "()I"⟩ prog_8_method_5_code 1 (Option.some FieldType.int)) ∈ fs_ws := fs_t4 (List.mem_of_getElem? (i := 101) rfl) rfl
theorem tw_4_103 : (Cond.methodLink "FlowShelf$Report" 37 ⟨"FlowShelf$Report", "epoch", "()I"⟩) ∈ fs_ws := fs_t4 (List.mem_of_getElem? (i := 103) rfl) rfl
theorem tw_4_104 : (Cond.instanceMethod ⟨"FlowShelf$Report", "epoch", "()I"⟩) ∈ fs_ws := fs_t4 (List.mem_of_getElem? (i := 104) rfl) rfl
theorem tw_4_105 : (Cond.selects "FlowShelf$Report" ⟨"FlowShelf$Report", "epoch", "()I"⟩ ⟨"FlowShelf$Report", "epoch", "()I"⟩) ∈ fs_ws := fs_t4 (List.mem_of_getElem? (i := 105) rfl) rfl
theorem tw_4_106 : (Cond.code ⟨"FlowShelf$Report", "epoch", "()I"⟩ prog_8_method_6_code 1 (Option.some FieldType.int)) ∈ fs_ws := fs_t4 (List.mem_of_getElem? (i := 106) rfl) rfl
theorem tw_4_107 : (Cond.methodLink "FlowShelf$Report" 40 ⟨"FlowShelf$Report", "kind", "()I"⟩) ∈ fs_ws := fs_t4 (List.mem_of_getElem? (i := 107) rfl) rfl
theorem tw_4_108 : (Cond.instanceMethod ⟨"FlowShelf$Report", "kind", "()I"⟩) ∈ fs_ws := fs_t4 (List.mem_of_getElem? (i := 108) rfl) rfl
theorem tw_4_109 : (Cond.selects "FlowShelf$Report" ⟨"FlowShelf$Report", "kind", "()I"⟩ ⟨"FlowShelf$Report", "kind", "()I"⟩) ∈ fs_ws := fs_t4 (List.mem_of_getElem? (i := 109) rfl) rfl
theorem tw_4_110 : (Cond.code ⟨"FlowShelf$Report", "kind", "()I"⟩ prog_8_method_7_code 1 (Option.some FieldType.int)) ∈ fs_ws := fs_t4 (List.mem_of_getElem? (i := 110) rfl) rfl
theorem tw_4_111 : (Cond.methodLink "FlowShelf$Report" 43 ⟨"FlowShelf$Report", "namesNoTemplate", "()Z"⟩) ∈ fs_ws := fs_t4 (List.mem_of_getElem? (i := 111) rfl) rfl
theorem tw_4_112 : (Cond.instanceMethod ⟨"FlowShelf$Report", "namesNoTemplate", "()Z"⟩) ∈ fs_ws := fs_t4 (List.mem_of_getElem? (i := 112) rfl) rfl
theorem tw_4_113 : (Cond.selects "FlowShelf$Report" ⟨"FlowShelf$Report", "namesNoTemplate", "()Z"⟩ ⟨"FlowShelf$Report", "namesNoTemplate", "()Z"⟩) ∈ fs_ws := fs_t4 (List.mem_of_getElem? (i := 113) rfl) rfl
theorem tw_4_114 : (Cond.code ⟨"FlowShelf$Report", "namesNoTemplate", "()Z"⟩ prog_8_method_17_code 1 (Option.some FieldType.boolean)) ∈ fs_ws := fs_t4 (List.mem_of_getElem? (i := 114) rfl) rfl
theorem tw_4_115 : (Cond.methodLink "FlowShelf$Report" 47 ⟨"FlowShelf$Report", "isBadTemplate", "()Z"⟩) ∈ fs_ws := fs_t4 (List.mem_of_getElem? (i := 115) rfl) rfl
theorem tw_4_116 : (Cond.instanceMethod ⟨"FlowShelf$Report", "isBadTemplate", "()Z"⟩) ∈ fs_ws := fs_t4 (List.mem_of_getElem? (i := 116) rfl) rfl
theorem tw_4_117 : (Cond.selects "FlowShelf$Report" ⟨"FlowShelf$Report", "isBadTemplate", "()Z"⟩ ⟨"FlowShelf$Report", "isBadTemplate", "()Z"⟩) ∈ fs_ws := fs_t4 (List.mem_of_getElem? (i := 117) rfl) rfl
theorem tw_4_118 : (Cond.code ⟨"FlowShelf$Report", "isBadTemplate", "()Z"⟩ prog_8_method_18_code 5 (Option.some FieldType.boolean)) ∈ fs_ws := fs_t4 (List.mem_of_getElem? (i := 118) rfl) rfl
theorem tw_4_119 : (Cond.methodLink "FlowShelf$Report" 56 ⟨"FlowShelf$Report", "templateFields", "()I"⟩) ∈ fs_ws := fs_t4 (List.mem_of_getElem? (i := 119) rfl) rfl
theorem tw_4_120 : (Cond.instanceMethod ⟨"FlowShelf$Report", "templateFields", "()I"⟩) ∈ fs_ws := fs_t4 (List.mem_of_getElem? (i := 120) rfl) rfl
theorem tw_4_121 : (Cond.selects "FlowShelf$Report" ⟨"FlowShelf$Report", "templateFields", "()I"⟩ ⟨"FlowShelf$Report", "templateFields", "()I"⟩) ∈ fs_ws := fs_t4 (List.mem_of_getElem? (i := 121) rfl) rfl
theorem tw_4_122 : (Cond.code ⟨"FlowShelf$Report", "templateFields", "()I"⟩ prog_8_method_8_code 1 (Option.some FieldType.int)) ∈ fs_ws := fs_t4 (List.mem_of_getElem? (i := 122) rfl) rfl
theorem tw_4_123 : (Cond.methodLink "FlowShelf$Report" 59 ⟨"FlowShelf$Report", "templateField", "(I)I"⟩) ∈ fs_ws := fs_t4 (List.mem_of_getElem? (i := 123) rfl) rfl
theorem tw_4_124 : (Cond.instanceMethod ⟨"FlowShelf$Report", "templateField", "(I)I"⟩) ∈ fs_ws := fs_t4 (List.mem_of_getElem? (i := 124) rfl) rfl
theorem tw_4_125 : (Cond.selects "FlowShelf$Report" ⟨"FlowShelf$Report", "templateField", "(I)I"⟩ ⟨"FlowShelf$Report", "templateField", "(I)I"⟩) ∈ fs_ws := fs_t4 (List.mem_of_getElem? (i := 125) rfl) rfl
theorem tw_4_126 : (Cond.code ⟨"FlowShelf$Report", "templateField", "(I)I"⟩ prog_8_method_9_code 2 (Option.some FieldType.int)) ∈ fs_ws := fs_t4 (List.mem_of_getElem? (i := 126) rfl) rfl
theorem tw_4_127 : (Cond.methodLink "FlowShelf$Report" 63 ⟨"FlowShelf$Report", "templateLength", "(I)I"⟩) ∈ fs_ws := fs_t4 (List.mem_of_getElem? (i := 127) rfl) rfl
theorem tw_4_128 : (Cond.instanceMethod ⟨"FlowShelf$Report", "templateLength", "(I)I"⟩) ∈ fs_ws := fs_t4 (List.mem_of_getElem? (i := 128) rfl) rfl
theorem tw_4_129 : (Cond.selects "FlowShelf$Report" ⟨"FlowShelf$Report", "templateLength", "(I)I"⟩ ⟨"FlowShelf$Report", "templateLength", "(I)I"⟩) ∈ fs_ws := fs_t4 (List.mem_of_getElem? (i := 129) rfl) rfl
theorem tw_4_130 : (Cond.code ⟨"FlowShelf$Report", "templateLength", "(I)I"⟩ prog_8_method_10_code 2 (Option.some FieldType.int)) ∈ fs_ws := fs_t4 (List.mem_of_getElem? (i := 130) rfl) rfl
theorem tw_4_131 : (Cond.methodLink "FlowShelf$Report" 50 ⟨"FlowShelf$Report", "isBadRecords", "()Z"⟩) ∈ fs_ws := fs_t4 (List.mem_of_getElem? (i := 131) rfl) rfl
theorem tw_4_132 : (Cond.instanceMethod ⟨"FlowShelf$Report", "isBadRecords", "()Z"⟩) ∈ fs_ws := fs_t4 (List.mem_of_getElem? (i := 132) rfl) rfl
theorem tw_4_133 : (Cond.selects "FlowShelf$Report" ⟨"FlowShelf$Report", "isBadRecords", "()Z"⟩ ⟨"FlowShelf$Report", "isBadRecords", "()Z"⟩) ∈ fs_ws := fs_t4 (List.mem_of_getElem? (i := 133) rfl) rfl
theorem tw_4_134 : (Cond.code ⟨"FlowShelf$Report", "isBadRecords", "()Z"⟩ prog_8_method_19_code 1 (Option.some FieldType.boolean)) ∈ fs_ws := fs_t4 (List.mem_of_getElem? (i := 134) rfl) rfl
theorem tw_4_135 : (Cond.methodLink "FlowShelf$Report" 66 ⟨"FlowShelf$Report", "records", "()I"⟩) ∈ fs_ws := fs_t4 (List.mem_of_getElem? (i := 135) rfl) rfl
theorem tw_4_136 : (Cond.instanceMethod ⟨"FlowShelf$Report", "records", "()I"⟩) ∈ fs_ws := fs_t4 (List.mem_of_getElem? (i := 136) rfl) rfl
theorem tw_4_137 : (Cond.selects "FlowShelf$Report" ⟨"FlowShelf$Report", "records", "()I"⟩ ⟨"FlowShelf$Report", "records", "()I"⟩) ∈ fs_ws := fs_t4 (List.mem_of_getElem? (i := 137) rfl) rfl
theorem tw_4_138 : (Cond.code ⟨"FlowShelf$Report", "records", "()I"⟩ prog_8_method_11_code 1 (Option.some FieldType.int)) ∈ fs_ws := fs_t4 (List.mem_of_getElem? (i := 138) rfl) rfl
theorem tw_4_139 : (Cond.methodLink "FlowShelf$Report" 69 ⟨"FlowShelf$Report", "firstPlace", "()I"⟩) ∈ fs_ws := fs_t4 (List.mem_of_getElem? (i := 139) rfl) rfl
theorem tw_4_140 : (Cond.instanceMethod ⟨"FlowShelf$Report", "firstPlace", "()I"⟩) ∈ fs_ws := fs_t4 (List.mem_of_getElem? (i := 140) rfl) rfl
theorem tw_4_141 : (Cond.selects "FlowShelf$Report" ⟨"FlowShelf$Report", "firstPlace", "()I"⟩ ⟨"FlowShelf$Report", "firstPlace", "()I"⟩) ∈ fs_ws := fs_t4 (List.mem_of_getElem? (i := 141) rfl) rfl
theorem tw_4_142 : (Cond.code ⟨"FlowShelf$Report", "firstPlace", "()I"⟩ prog_8_method_12_code 1 (Option.some FieldType.int)) ∈ fs_ws := fs_t4 (List.mem_of_getElem? (i := 142) rfl) rfl
theorem tw_4_143 : (Cond.methodLink "FlowShelf$Report" 53 ⟨"FlowShelf$Report", "samplerN", "()I"⟩) ∈ fs_ws := fs_t4 (List.mem_of_getElem? (i := 143) rfl) rfl
theorem tw_4_144 : (Cond.instanceMethod ⟨"FlowShelf$Report", "samplerN", "()I"⟩) ∈ fs_ws := fs_t4 (List.mem_of_getElem? (i := 144) rfl) rfl
theorem tw_4_145 : (Cond.selects "FlowShelf$Report" ⟨"FlowShelf$Report", "samplerN", "()I"⟩ ⟨"FlowShelf$Report", "samplerN", "()I"⟩) ∈ fs_ws := fs_t4 (List.mem_of_getElem? (i := 145) rfl) rfl
theorem tw_4_146 : (Cond.code ⟨"FlowShelf$Report", "samplerN", "()I"⟩ prog_8_method_14_code 1 (Option.some FieldType.int)) ∈ fs_ws := fs_t4 (List.mem_of_getElem? (i := 146) rfl) rfl
theorem tw_4_148 : (Cond.methodLink "FlowShelf" 225 ⟨"FlowShelf$Report", "kind", "()I"⟩) ∈ fs_ws := fs_t4 (List.mem_of_getElem? (i := 148) rfl) rfl
theorem tw_4_149 : (Cond.methodLink "FlowShelf" 228 ⟨"FlowShelf$Collector", "hearTemplate", "(LFlowShelf$Report;)I"⟩) ∈ fs_ws := fs_t4 (List.mem_of_getElem? (i := 149) rfl) rfl
theorem tw_4_150 : (Cond.instanceMethod ⟨"FlowShelf$Collector", "hearTemplate", "(LFlowShelf$Report;)I"⟩) ∈ fs_ws := fs_t4 (List.mem_of_getElem? (i := 150) rfl) rfl
theorem tw_4_151 : (Cond.selects "FlowShelf$Collector" ⟨"FlowShelf$Collector", "hearTemplate", "(LFlowShelf$Report;)I"⟩ ⟨"FlowShelf$Collector", "hearTemplate", "(LFlowShelf$Report;)I"⟩) ∈ fs_ws := fs_t4 (List.mem_of_getElem? (i := 151) rfl) rfl
theorem tw_4_152 : (Cond.code ⟨"FlowShelf$Collector", "hearTemplate", "(LFlowShelf$Report;)I"⟩ prog_2_method_5_code 2 (Option.some FieldType.int)) ∈ fs_ws := fs_t4 (List.mem_of_getElem? (i := 152) rfl) rfl
theorem tw_4_153 : (Cond.methodLink "FlowShelf$Collector" 55 ⟨"FlowShelf$Collector", "knownTemplate", "(LFlowShelf$Report;)I"⟩) ∈ fs_ws := fs_t4 (List.mem_of_getElem? (i := 153) rfl) rfl
theorem tw_4_154 : (Cond.instanceMethod ⟨"FlowShelf$Collector", "knownTemplate", "(LFlowShelf$Report;)I"⟩) ∈ fs_ws := fs_t4 (List.mem_of_getElem? (i := 154) rfl) rfl
theorem tw_4_155 : (Cond.selects "FlowShelf$Collector" ⟨"FlowShelf$Collector", "knownTemplate", "(LFlowShelf$Report;)I"⟩ ⟨"FlowShelf$Collector", "knownTemplate", "(LFlowShelf$Report;)I"⟩) ∈ fs_ws := fs_t4 (List.mem_of_getElem? (i := 155) rfl) rfl
theorem tw_4_156 : (Cond.code ⟨"FlowShelf$Collector", "knownTemplate", "(LFlowShelf$Report;)I"⟩ prog_2_method_4_code 3 (Option.some FieldType.int)) ∈ fs_ws := fs_t4 (List.mem_of_getElem? (i := 156) rfl) rfl
theorem tw_4_157 : (Cond.methodLink "FlowShelf$Collector" 38 ⟨"java/util/ArrayList", "size", "()I"⟩) ∈ fs_ws := fs_t4 (List.mem_of_getElem? (i := 157) rfl) rfl
theorem tw_4_158 : (Cond.methodLink "FlowShelf$Collector" 42 ⟨"java/util/ArrayList", "get", "(I)Ljava/lang/Object;"⟩) ∈ fs_ws := fs_t4 (List.mem_of_getElem? (i := 158) rfl) rfl
theorem tw_4_159 : (Cond.classLink "FlowShelf$Collector" 46 "FlowShelf$Report") ∈ fs_ws := fs_t4 (List.mem_of_getElem? (i := 159) rfl) rfl
theorem tw_4_160 : (Cond.methodLink "FlowShelf$Collector" 51 ⟨"FlowShelf$Report", "namesSameTemplate", "(LFlowShelf$Report;)Z"⟩) ∈ fs_ws := fs_t4 (List.mem_of_getElem? (i := 160) rfl) rfl
theorem tw_4_161 : (Cond.instanceMethod ⟨"FlowShelf$Report", "namesSameTemplate", "(LFlowShelf$Report;)Z"⟩) ∈ fs_ws := fs_t4 (List.mem_of_getElem? (i := 161) rfl) rfl
theorem tw_4_162 : (Cond.selects "FlowShelf$Report" ⟨"FlowShelf$Report", "namesSameTemplate", "(LFlowShelf$Report;)Z"⟩ ⟨"FlowShelf$Report", "namesSameTemplate", "(LFlowShelf$Report;)Z"⟩) ∈ fs_ws := fs_t4 (List.mem_of_getElem? (i := 162) rfl) rfl
theorem tw_4_163 : (Cond.code ⟨"FlowShelf$Report", "namesSameTemplate", "(LFlowShelf$Report;)Z"⟩ prog_8_method_15_code 2 (Option.some FieldType.boolean)) ∈ fs_ws := fs_t4 (List.mem_of_getElem? (i := 163) rfl) rfl
theorem tw_4_164 : (Cond.classLink "FlowShelf$Collector" 59 "java/lang/UnsupportedOperationException") ∈ fs_ws := fs_t4 (List.mem_of_getElem? (i := 164) rfl) rfl
theorem tw_4_165 : (Cond.instantiable "java/lang/UnsupportedOperationException" 6) ∈ fs_ws := fs_t4 (List.mem_of_getElem? (i := 165) rfl) rfl
theorem tw_4_167 : (Cond.selects "java/lang/UnsupportedOperationException" ⟨"java/lang/Throwable", "fillInStackTrace", "(I)Ljava/lang/Throwable;"⟩ ⟨"java/lang/Throwable", "fillInStackTrace", "(I)Ljava/lang/Throwable;"⟩) ∈ fs_ws := fs_t4 (List.mem_of_getElem? (i := 167) rfl) rfl
theorem tw_4_174 : (Cond.methodLink "FlowShelf$Collector" 63 ⟨"java/lang/UnsupportedOperationException", "<init>", "(Ljava/lang/String;)V"⟩) ∈ fs_ws := fs_t4 (List.mem_of_getElem? (i := 174) rfl) rfl
theorem tw_4_175 : (Cond.instanceMethod ⟨"java/lang/UnsupportedOperationException", "<init>", "(Ljava/lang/String;)V"⟩) ∈ fs_ws := fs_t4 (List.mem_of_getElem? (i := 175) rfl) rfl
theorem tw_4_176 : (Cond.code ⟨"java/lang/UnsupportedOperationException", "<init>", "(Ljava/lang/String;)V"⟩ prog_26_method_2_code 2 (Option.none : Option FieldType)) ∈ fs_ws := fs_t4 (List.mem_of_getElem? (i := 176) rfl) rfl
theorem tw_4_177 : (Cond.methodLink "java/lang/UnsupportedOperationException" 7 ⟨"java/lang/RuntimeException", "<init>", "(Ljava/lang/String;)V"⟩) ∈ fs_ws := fs_t4 (List.mem_of_getElem? (i := 177) rfl) rfl
theorem tw_4_180 : (Cond.methodLink "FlowShelf$Collector" 66 ⟨"FlowShelf$Collector", "recordsWaitingFor", "(LFlowShelf$Report;)I"⟩) ∈ fs_ws := fs_t4 (List.mem_of_getElem? (i := 180) rfl) rfl
theorem tw_4_181 : (Cond.instanceMethod ⟨"FlowShelf$Collector", "recordsWaitingFor", "(LFlowShelf$Report;)I"⟩) ∈ fs_ws := fs_t4 (List.mem_of_getElem? (i := 181) rfl) rfl
theorem tw_4_182 : (Cond.selects "FlowShelf$Collector" ⟨"FlowShelf$Collector", "recordsWaitingFor", "(LFlowShelf$Report;)I"⟩ ⟨"FlowShelf$Collector", "recordsWaitingFor", "(LFlowShelf$Report;)I"⟩) ∈ fs_ws := fs_t4 (List.mem_of_getElem? (i := 182) rfl) rfl
theorem tw_4_183 : (Cond.code ⟨"FlowShelf$Collector", "recordsWaitingFor", "(LFlowShelf$Report;)I"⟩ prog_2_method_6_code 4 (Option.some FieldType.int)) ∈ fs_ws := fs_t4 (List.mem_of_getElem? (i := 183) rfl) rfl
theorem tw_4_184 : (Cond.methodLink "FlowShelf$Collector" 83 ⟨"FlowShelf$Report", "records", "()I"⟩) ∈ fs_ws := fs_t4 (List.mem_of_getElem? (i := 184) rfl) rfl
theorem tw_4_185 : (Cond.methodLink "FlowShelf$Collector" 69 ⟨"FlowShelf$Collector", "requireRoomFor", "(I)V"⟩) ∈ fs_ws := fs_t4 (List.mem_of_getElem? (i := 185) rfl) rfl
theorem tw_4_186 : (Cond.instanceMethod ⟨"FlowShelf$Collector", "requireRoomFor", "(I)V"⟩) ∈ fs_ws := fs_t4 (List.mem_of_getElem? (i := 186) rfl) rfl
theorem tw_4_187 : (Cond.selects "FlowShelf$Collector" ⟨"FlowShelf$Collector", "requireRoomFor", "(I)V"⟩ ⟨"FlowShelf$Collector", "requireRoomFor", "(I)V"⟩) ∈ fs_ws := fs_t4 (List.mem_of_getElem? (i := 187) rfl) rfl
theorem tw_4_188 : (Cond.code ⟨"FlowShelf$Collector", "requireRoomFor", "(I)V"⟩ prog_2_method_12_code 2 (Option.none : Option FieldType)) ∈ fs_ws := fs_t4 (List.mem_of_getElem? (i := 188) rfl) rfl
theorem tw_4_189 : (Cond.methodLink "FlowShelf$Collector" 131 ⟨"FlowShelf$Table", "hasRoomFor", "(I)Z"⟩) ∈ fs_ws := fs_t4 (List.mem_of_getElem? (i := 189) rfl) rfl
theorem tw_4_190 : (Cond.instanceMethod ⟨"FlowShelf$Table", "hasRoomFor", "(I)Z"⟩) ∈ fs_ws := fs_t4 (List.mem_of_getElem? (i := 190) rfl) rfl
theorem tw_4_191 : (Cond.selects "FlowShelf$Table" ⟨"FlowShelf$Table", "hasRoomFor", "(I)Z"⟩ ⟨"FlowShelf$Table", "hasRoomFor", "(I)Z"⟩) ∈ fs_ws := fs_t4 (List.mem_of_getElem? (i := 191) rfl) rfl
theorem tw_4_192 : (Cond.code ⟨"FlowShelf$Table", "hasRoomFor", "(I)Z"⟩ prog_11_method_2_code 2 (Option.some FieldType.boolean)) ∈ fs_ws := fs_t4 (List.mem_of_getElem? (i := 192) rfl) rfl
theorem tw_4_193 : (Cond.methodLink "FlowShelf$Table" 25 ⟨"java/util/ArrayList", "size", "()I"⟩) ∈ fs_ws := fs_t4 (List.mem_of_getElem? (i := 193) rfl) rfl
theorem tw_4_195 : (Cond.methodLink "FlowShelf$Collector" 73 ⟨"FlowShelf$Report", "<init>", "(LFlowShelf$Report;)V"⟩) ∈ fs_ws := fs_t4 (List.mem_of_getElem? (i := 195) rfl) rfl
theorem tw_4_196 : (Cond.instanceMethod ⟨"FlowShelf$Report", "<init>", "(LFlowShelf$Report;)V"⟩) ∈ fs_ws := fs_t4 (List.mem_of_getElem? (i := 196) rfl) rfl
theorem tw_4_197 : (Cond.code ⟨"FlowShelf$Report", "<init>", "(LFlowShelf$Report;)V"⟩ prog_8_method_2_code 2 (Option.none : Option FieldType)) ∈ fs_ws := fs_t4 (List.mem_of_getElem? (i := 197) rfl) rfl
theorem tw_4_198 : (Cond.methodLink "FlowShelf$Report" 19 ⟨"java/util/Arrays", "copyOf", "([II)[I"⟩) ∈ fs_ws := fs_t4 (List.mem_of_getElem? (i := 198) rfl) rfl
theorem tw_4_199 : (Cond.static ⟨"java/util/Arrays", "copyOf", "([II)[I"⟩) ∈ fs_ws := fs_t4 (List.mem_of_getElem? (i := 199) rfl) rfl
theorem tw_4_200 : (Cond.code ⟨"java/util/Arrays", "copyOf", "([II)[I"⟩ prog_30_method_123_code 3 (Option.some (FieldType.array FieldType.int))) ∈ fs_ws := fs_t4 (List.mem_of_getElem? (i := 200) rfl) rfl
theorem tw_4_201 : (Cond.methodLink "java/util/Arrays" 316 ⟨"[I", "clone", "()Ljava/lang/Object;"⟩) ∈ fs_ws := fs_t4 (List.mem_of_getElem? (i := 201) rfl) rfl
theorem tw_4_203 : (Cond.native ⟨"java/lang/Object", "clone", "()Ljava/lang/Object;"⟩) ∈ fs_ws := fs_t4 (List.mem_of_getElem? (i := 203) rfl) rfl
theorem tw_4_204 : (Cond.instanceMethod ⟨"java/lang/Object", "clone", "()Ljava/lang/Object;"⟩) ∈ fs_ws := fs_t4 (List.mem_of_getElem? (i := 204) rfl) rfl
theorem tw_4_205 : (Cond.selects "[I" ⟨"[I", "clone", "()Ljava/lang/Object;"⟩ ⟨"java/lang/Object", "clone", "()Ljava/lang/Object;"⟩) ∈ fs_ws := fs_t4 (List.mem_of_getElem? (i := 205) rfl) rfl
theorem tw_4_207 : (Cond.classLink "java/util/Arrays" 317 "[I") ∈ fs_ws := fs_t4 (List.mem_of_getElem? (i := 207) rfl) rfl
theorem tw_4_208 : (Cond.methodLink "FlowShelf$Collector" 76 ⟨"java/util/ArrayList", "add", "(Ljava/lang/Object;)Z"⟩) ∈ fs_ws := fs_t4 (List.mem_of_getElem? (i := 208) rfl) rfl
theorem tw_4_209 : (Cond.methodLink "FlowShelf$Collector" 80 ⟨"FlowShelf$Collector", "readShelf", "(LFlowShelf$Report;)I"⟩) ∈ fs_ws := fs_t4 (List.mem_of_getElem? (i := 209) rfl) rfl
theorem tw_4_210 : (Cond.instanceMethod ⟨"FlowShelf$Collector", "readShelf", "(LFlowShelf$Report;)I"⟩) ∈ fs_ws := fs_t4 (List.mem_of_getElem? (i := 210) rfl) rfl
theorem tw_4_211 : (Cond.selects "FlowShelf$Collector" ⟨"FlowShelf$Collector", "readShelf", "(LFlowShelf$Report;)I"⟩ ⟨"FlowShelf$Collector", "readShelf", "(LFlowShelf$Report;)I"⟩) ∈ fs_ws := fs_t4 (List.mem_of_getElem? (i := 211) rfl) rfl
theorem tw_4_212 : (Cond.code ⟨"FlowShelf$Collector", "readShelf", "(LFlowShelf$Report;)I"⟩ prog_2_method_7_code 6 (Option.some FieldType.int)) ∈ fs_ws := fs_t4 (List.mem_of_getElem? (i := 212) rfl) rfl
theorem tw_4_213 : (Cond.methodLink "FlowShelf$Collector" 89 ⟨"java/util/ArrayList", "remove", "(I)Ljava/lang/Object;"⟩) ∈ fs_ws := fs_t4 (List.mem_of_getElem? (i := 213) rfl) rfl
theorem tw_4_214 : (Cond.methodLink "FlowShelf$Collector" 92 ⟨"FlowShelf$Collector", "readOrSpoil", "(LFlowShelf$Report;LFlowShelf$Report;)V"⟩) ∈ fs_ws := fs_t4 (List.mem_of_getElem? (i := 214) rfl) rfl
theorem tw_4_215 : (Cond.instanceMethod ⟨"FlowShelf$Collector", "readOrSpoil", "(LFlowShelf$Report;LFlowShelf$Report;)V"⟩) ∈ fs_ws := fs_t4 (List.mem_of_getElem? (i := 215) rfl) rfl
theorem tw_4_216 : (Cond.selects "FlowShelf$Collector" ⟨"FlowShelf$Collector", "readOrSpoil", "(LFlowShelf$Report;LFlowShelf$Report;)V"⟩ ⟨"FlowShelf$Collector", "readOrSpoil", "(LFlowShelf$Report;LFlowShelf$Report;)V"⟩) ∈ fs_ws := fs_t4 (List.mem_of_getElem? (i := 216) rfl) rfl
theorem tw_4_217 : (Cond.code ⟨"FlowShelf$Collector", "readOrSpoil", "(LFlowShelf$Report;LFlowShelf$Report;)V"⟩ prog_2_method_8_code 3 (Option.none : Option FieldType)) ∈ fs_ws := fs_t4 (List.mem_of_getElem? (i := 217) rfl) rfl
theorem tw_4_218 : (Cond.methodLink "FlowShelf$Collector" 96 ⟨"FlowShelf$Collector", "canRead", "(LFlowShelf$Report;LFlowShelf$Report;)Z"⟩) ∈ fs_ws := fs_t4 (List.mem_of_getElem? (i := 218) rfl) rfl
theorem tw_4_219 : (Cond.instanceMethod ⟨"FlowShelf$Collector", "canRead", "(LFlowShelf$Report;LFlowShelf$Report;)Z"⟩) ∈ fs_ws := fs_t4 (List.mem_of_getElem? (i := 219) rfl) rfl
theorem tw_4_220 : (Cond.selects "FlowShelf$Collector" ⟨"FlowShelf$Collector", "canRead", "(LFlowShelf$Report;LFlowShelf$Report;)Z"⟩ ⟨"FlowShelf$Collector", "canRead", "(LFlowShelf$Report;LFlowShelf$Report;)Z"⟩) ∈ fs_ws := fs_t4 (List.mem_of_getElem? (i := 220) rfl) rfl
theorem tw_4_221 : (Cond.code ⟨"FlowShelf$Collector", "canRead", "(LFlowShelf$Report;LFlowShelf$Report;)Z"⟩ prog_2_method_13_code 6 (Option.some FieldType.boolean)) ∈ fs_ws := fs_t4 (List.mem_of_getElem? (i := 221) rfl) rfl
theorem tw_4_222 : (Cond.classLink "FlowShelf$Collector" 137 "FlowShelf$Cursor") ∈ fs_ws := fs_t4 (List.mem_of_getElem? (i := 222) rfl) rfl
theorem tw_4_223 : (Cond.instantiable "FlowShelf$Cursor" 3) ∈ fs_ws := fs_t4 (List.mem_of_getElem? (i := 223) rfl) rfl
theorem tw_4_224 : (Cond.methodLink "FlowShelf$Collector" 139 ⟨"FlowShelf$Cursor", "<init>", "(LFlowShelf$Report;)V"⟩) ∈ fs_ws := fs_t4 (List.mem_of_getElem? (i := 224) rfl) rfl
theorem tw_4_225 : (Cond.instanceMethod ⟨"FlowShelf$Cursor", "<init>", "(LFlowShelf$Report;)V"⟩) ∈ fs_ws := fs_t4 (List.mem_of_getElem? (i := 225) rfl) rfl
theorem tw_4_226 : (Cond.code ⟨"FlowShelf$Cursor", "<init>", "(LFlowShelf$Report;)V"⟩ prog_3_method_1_code 2 (Option.none : Option FieldType)) ∈ fs_ws := fs_t4 (List.mem_of_getElem? (i := 226) rfl) rfl
theorem tw_4_227 : (Cond.methodLink "FlowShelf$Cursor" 3 ⟨"java/lang/Object", "<init>", "()V"⟩) ∈ fs_ws := fs_t4 (List.mem_of_getElem? (i := 227) rfl) rfl
theorem tw_4_228 : (Cond.fieldLink "FlowShelf$Cursor" 15 "FlowShelf$Cursor" "records" "LFlowShelf$Report;") ∈ fs_ws := fs_t4 (List.mem_of_getElem? (i := 228) rfl) rfl
theorem tw_4_229 : (Cond.fieldLink "FlowShelf$Cursor" 9 "FlowShelf$Cursor" "at" "I") ∈ fs_ws := fs_t4 (List.mem_of_getElem? (i := 229) rfl) rfl
theorem tw_4_230 : (Cond.fieldLink "FlowShelf$Cursor" 28 "FlowShelf$Cursor" "bad" "Z") ∈ fs_ws := fs_t4 (List.mem_of_getElem? (i := 230) rfl) rfl
theorem tw_4_231 : (Cond.fieldLink "FlowShelf$Collector" 151 "FlowShelf$Cursor" "bad" "Z") ∈ fs_ws := fs_t4 (List.mem_of_getElem? (i := 231) rfl) rfl
theorem tw_4_239 : (Cond.methodLink "FlowShelf$Collector" 140 ⟨"FlowShelf$Report", "templateFields", "()I"⟩) ∈ fs_ws := fs_t4 (List.mem_of_getElem? (i := 239) rfl) rfl
theorem tw_5_0 : (Cond.methodLink "FlowShelf$Collector" 143 ⟨"FlowShelf$Report", "templateLength", "(I)I"⟩) ∈ fs_ws := fs_t5 (List.mem_of_getElem? (i := 0) rfl) rfl
theorem tw_5_1 : (Cond.methodLink "FlowShelf$Collector" 147 ⟨"FlowShelf$Cursor", "takeField", "(I)J"⟩) ∈ fs_ws := fs_t5 (List.mem_of_getElem? (i := 1) rfl) rfl
theorem tw_5_2 : (Cond.instanceMethod ⟨"FlowShelf$Cursor", "takeField", "(I)J"⟩) ∈ fs_ws := fs_t5 (List.mem_of_getElem? (i := 2) rfl) rfl
theorem tw_5_3 : (Cond.selects "FlowShelf$Cursor" ⟨"FlowShelf$Cursor", "takeField", "(I)J"⟩ ⟨"FlowShelf$Cursor", "takeField", "(I)J"⟩) ∈ fs_ws := fs_t5 (List.mem_of_getElem? (i := 3) rfl) rfl
theorem tw_5_4 : (Cond.code ⟨"FlowShelf$Cursor", "takeField", "(I)J"⟩ prog_3_method_3_code 6 (Option.some FieldType.long)) ∈ fs_ws := fs_t5 (List.mem_of_getElem? (i := 4) rfl) rfl
theorem tw_5_5 : (Cond.methodLink "FlowShelf$Cursor" 24 ⟨"FlowShelf$Cursor", "takeByte", "()I"⟩) ∈ fs_ws := fs_t5 (List.mem_of_getElem? (i := 5) rfl) rfl
theorem tw_5_6 : (Cond.instanceMethod ⟨"FlowShelf$Cursor", "takeByte", "()I"⟩) ∈ fs_ws := fs_t5 (List.mem_of_getElem? (i := 6) rfl) rfl
theorem tw_5_7 : (Cond.selects "FlowShelf$Cursor" ⟨"FlowShelf$Cursor", "takeByte", "()I"⟩ ⟨"FlowShelf$Cursor", "takeByte", "()I"⟩) ∈ fs_ws := fs_t5 (List.mem_of_getElem? (i := 7) rfl) rfl
theorem tw_5_8 : (Cond.code ⟨"FlowShelf$Cursor", "takeByte", "()I"⟩ prog_3_method_4_code 2 (Option.some FieldType.int)) ∈ fs_ws := fs_t5 (List.mem_of_getElem? (i := 8) rfl) rfl
theorem tw_5_9 : (Cond.methodLink "FlowShelf$Collector" 155 ⟨"FlowShelf$Cursor", "isAtEnd", "()Z"⟩) ∈ fs_ws := fs_t5 (List.mem_of_getElem? (i := 9) rfl) rfl
theorem tw_5_10 : (Cond.instanceMethod ⟨"FlowShelf$Cursor", "isAtEnd", "()Z"⟩) ∈ fs_ws := fs_t5 (List.mem_of_getElem? (i := 10) rfl) rfl
theorem tw_5_11 : (Cond.selects "FlowShelf$Cursor" ⟨"FlowShelf$Cursor", "isAtEnd", "()Z"⟩ ⟨"FlowShelf$Cursor", "isAtEnd", "()Z"⟩) ∈ fs_ws := fs_t5 (List.mem_of_getElem? (i := 11) rfl) rfl
theorem tw_5_12 : (Cond.code ⟨"FlowShelf$Cursor", "isAtEnd", "()Z"⟩ prog_3_method_2_code 1 (Option.some FieldType.boolean)) ∈ fs_ws := fs_t5 (List.mem_of_getElem? (i := 12) rfl) rfl
theorem tw_5_13 : (Cond.methodLink "FlowShelf$Collector" 100 ⟨"FlowShelf$Collector", "makeRows", "(LFlowShelf$Report;LFlowShelf$Report;)V"⟩) ∈ fs_ws := fs_t5 (List.mem_of_getElem? (i := 13) rfl) rfl
theorem tw_5_14 : (Cond.instanceMethod ⟨"FlowShelf$Collector", "makeRows", "(LFlowShelf$Report;LFlowShelf$Report;)V"⟩) ∈ fs_ws := fs_t5 (List.mem_of_getElem? (i := 14) rfl) rfl
theorem tw_5_15 : (Cond.selects "FlowShelf$Collector" ⟨"FlowShelf$Collector", "makeRows", "(LFlowShelf$Report;LFlowShelf$Report;)V"⟩ ⟨"FlowShelf$Collector", "makeRows", "(LFlowShelf$Report;LFlowShelf$Report;)V"⟩) ∈ fs_ws := fs_t5 (List.mem_of_getElem? (i := 15) rfl) rfl
theorem tw_5_16 : (Cond.code ⟨"FlowShelf$Collector", "makeRows", "(LFlowShelf$Report;LFlowShelf$Report;)V"⟩ prog_2_method_14_code 7 (Option.none : Option FieldType)) ∈ fs_ws := fs_t5 (List.mem_of_getElem? (i := 16) rfl) rfl
theorem tw_5_17 : (Cond.classLink "FlowShelf$Collector" 159 "FlowShelf$Row") ∈ fs_ws := fs_t5 (List.mem_of_getElem? (i := 17) rfl) rfl
theorem tw_5_18 : (Cond.instantiable "FlowShelf$Row" 2) ∈ fs_ws := fs_t5 (List.mem_of_getElem? (i := 18) rfl) rfl
theorem tw_5_19 : (Cond.methodLink "FlowShelf$Collector" 48 ⟨"FlowShelf$Report", "exporter", "()I"⟩) ∈ fs_ws := fs_t5 (List.mem_of_getElem? (i := 19) rfl) rfl
theorem tw_5_20 : (Cond.methodLink "FlowShelf$Collector" 161 ⟨"FlowShelf$Row", "<init>", "(I)V"⟩) ∈ fs_ws := fs_t5 (List.mem_of_getElem? (i := 20) rfl) rfl
theorem tw_5_21 : (Cond.instanceMethod ⟨"FlowShelf$Row", "<init>", "(I)V"⟩) ∈ fs_ws := fs_t5 (List.mem_of_getElem? (i := 21) rfl) rfl
theorem tw_5_22 : (Cond.code ⟨"FlowShelf$Row", "<init>", "(I)V"⟩ prog_9_method_1_code 2 (Option.none : Option FieldType)) ∈ fs_ws := fs_t5 (List.mem_of_getElem? (i := 22) rfl) rfl
theorem tw_5_23 : (Cond.methodLink "FlowShelf$Row" 3 ⟨"java/lang/Object", "<init>", "()V"⟩) ∈ fs_ws := fs_t5 (List.mem_of_getElem? (i := 23) rfl) rfl
theorem tw_5_24 : (Cond.constantLong "FlowShelf$Row" 19 (-1 : Int64)) ∈ fs_ws := fs_t5 (List.mem_of_getElem? (i := 24) rfl) rfl
theorem tw_5_25 : (Cond.methodLink "FlowShelf$Row" 21 ⟨"java/util/Arrays", "fill", "([JJ)V"⟩) ∈ fs_ws := fs_t5 (List.mem_of_getElem? (i := 25) rfl) rfl
theorem tw_5_26 : (Cond.static ⟨"java/util/Arrays", "fill", "([JJ)V"⟩) ∈ fs_ws := fs_t5 (List.mem_of_getElem? (i := 26) rfl) rfl
theorem tw_5_27 : (Cond.code ⟨"java/util/Arrays", "fill", "([JJ)V"⟩ prog_30_method_101_code 5 (Option.none : Option FieldType)) ∈ fs_ws := fs_t5 (List.mem_of_getElem? (i := 27) rfl) rfl
theorem tw_5_28 : (Cond.fieldLink "FlowShelf$Row" 15 "FlowShelf$Row" "exporter" "I") ∈ fs_ws := fs_t5 (List.mem_of_getElem? (i := 28) rfl) rfl
theorem tw_5_29 : (Cond.fieldLink "FlowShelf$Table" 43 "FlowShelf$Row" "exporter" "I") ∈ fs_ws := fs_t5 (List.mem_of_getElem? (i := 29) rfl) rfl
theorem tw_5_30 : (Cond.fieldLink "FlowShelf" 263 "FlowShelf$Row" "exporter" "I") ∈ fs_ws := fs_t5 (List.mem_of_getElem? (i := 30) rfl) rfl
theorem tw_5_31 : (Cond.fieldLink "FlowShelf$Row" 9 "FlowShelf$Row" "values" "[J") ∈ fs_ws := fs_t5 (List.mem_of_getElem? (i := 31) rfl) rfl
theorem tw_5_32 : (Cond.fieldLink "FlowShelf$Table" 50 "FlowShelf$Row" "values" "[J") ∈ fs_ws := fs_t5 (List.mem_of_getElem? (i := 32) rfl) rfl
theorem tw_5_33 : (Cond.fieldLink "FlowShelf$Collector" 163 "FlowShelf$Row" "values" "[J") ∈ fs_ws := fs_t5 (List.mem_of_getElem? (i := 33) rfl) rfl
theorem tw_5_34 : (Cond.fieldLink "FlowShelf" 265 "FlowShelf$Row" "values" "[J") ∈ fs_ws := fs_t5 (List.mem_of_getElem? (i := 34) rfl) rfl
theorem tw_5_40 : (Cond.arrayClass FieldType.long) ∈ fs_ws := fs_t5 (List.mem_of_getElem? (i := 40) rfl) rfl
theorem tw_5_41 : (Cond.methodLink "FlowShelf$Collector" 167 ⟨"FlowShelf$Report", "templateField", "(I)I"⟩) ∈ fs_ws := fs_t5 (List.mem_of_getElem? (i := 41) rfl) rfl
theorem tw_5_42 : (Cond.methodLink "FlowShelf$Collector" 170 ⟨"FlowShelf$Table", "addRow", "(LFlowShelf$Row;)V"⟩) ∈ fs_ws := fs_t5 (List.mem_of_getElem? (i := 42) rfl) rfl
theorem tw_5_43 : (Cond.instanceMethod ⟨"FlowShelf$Table", "addRow", "(LFlowShelf$Row;)V"⟩) ∈ fs_ws := fs_t5 (List.mem_of_getElem? (i := 43) rfl) rfl
theorem tw_5_44 : (Cond.selects "FlowShelf$Table" ⟨"FlowShelf$Table", "addRow", "(LFlowShelf$Row;)V"⟩ ⟨"FlowShelf$Table", "addRow", "(LFlowShelf$Row;)V"⟩) ∈ fs_ws := fs_t5 (List.mem_of_getElem? (i := 44) rfl) rfl
theorem tw_5_45 : (Cond.code ⟨"FlowShelf$Table", "addRow", "(LFlowShelf$Row;)V"⟩ prog_11_method_3_code 2 (Option.none : Option FieldType)) ∈ fs_ws := fs_t5 (List.mem_of_getElem? (i := 45) rfl) rfl
theorem tw_5_46 : (Cond.methodLink "FlowShelf$Table" 29 ⟨"FlowShelf$Table", "hasRoomFor", "(I)Z"⟩) ∈ fs_ws := fs_t5 (List.mem_of_getElem? (i := 46) rfl) rfl
theorem tw_5_47 : (Cond.methodLink "FlowShelf$Table" 33 ⟨"java/util/ArrayList", "add", "(Ljava/lang/Object;)Z"⟩) ∈ fs_ws := fs_t5 (List.mem_of_getElem? (i := 47) rfl) rfl
theorem tw_5_48 : (Cond.methodLink "FlowShelf$Collector" 103 ⟨"FlowShelf$Collector", "ledgerOf", "(I)LFlowShelf$Ledger;"⟩) ∈ fs_ws := fs_t5 (List.mem_of_getElem? (i := 48) rfl) rfl
theorem tw_5_49 : (Cond.instanceMethod ⟨"FlowShelf$Collector", "ledgerOf", "(I)LFlowShelf$Ledger;"⟩) ∈ fs_ws := fs_t5 (List.mem_of_getElem? (i := 49) rfl) rfl
theorem tw_5_50 : (Cond.selects "FlowShelf$Collector" ⟨"FlowShelf$Collector", "ledgerOf", "(I)LFlowShelf$Ledger;"⟩ ⟨"FlowShelf$Collector", "ledgerOf", "(I)LFlowShelf$Ledger;"⟩) ∈ fs_ws := fs_t5 (List.mem_of_getElem? (i := 50) rfl) rfl
theorem tw_5_51 : (Cond.code ⟨"FlowShelf$Collector", "ledgerOf", "(I)LFlowShelf$Ledger;"⟩ prog_2_method_2_code 2 (Option.some (FieldType.object "FlowShelf$Ledger"))) ∈ fs_ws := fs_t5 (List.mem_of_getElem? (i := 51) rfl) rfl
theorem tw_5_52 : (Cond.methodLink "FlowShelf" 231 ⟨"FlowShelf$Collector", "hearRecords", "(LFlowShelf$Report;)I"⟩) ∈ fs_ws := fs_t5 (List.mem_of_getElem? (i := 52) rfl) rfl
theorem tw_5_53 : (Cond.instanceMethod ⟨"FlowShelf$Collector", "hearRecords", "(LFlowShelf$Report;)I"⟩) ∈ fs_ws := fs_t5 (List.mem_of_getElem? (i := 53) rfl) rfl
theorem tw_5_54 : (Cond.selects "FlowShelf$Collector" ⟨"FlowShelf$Collector", "hearRecords", "(LFlowShelf$Report;)I"⟩ ⟨"FlowShelf$Collector", "hearRecords", "(LFlowShelf$Report;)I"⟩) ∈ fs_ws := fs_t5 (List.mem_of_getElem? (i := 54) rfl) rfl
theorem tw_5_55 : (Cond.code ⟨"FlowShelf$Collector", "hearRecords", "(LFlowShelf$Report;)I"⟩ prog_2_method_9_code 5 (Option.some FieldType.int)) ∈ fs_ws := fs_t5 (List.mem_of_getElem? (i := 55) rfl) rfl
theorem tw_5_56 : (Cond.methodLink "FlowShelf$Collector" 111 ⟨"FlowShelf$Ledger", "heardOneOf", "(LFlowShelf$Report;)Z"⟩) ∈ fs_ws := fs_t5 (List.mem_of_getElem? (i := 56) rfl) rfl
theorem tw_5_57 : (Cond.instanceMethod ⟨"FlowShelf$Ledger", "heardOneOf", "(LFlowShelf$Report;)Z"⟩) ∈ fs_ws := fs_t5 (List.mem_of_getElem? (i := 57) rfl) rfl
theorem tw_5_58 : (Cond.selects "FlowShelf$Ledger" ⟨"FlowShelf$Ledger", "heardOneOf", "(LFlowShelf$Report;)Z"⟩ ⟨"FlowShelf$Ledger", "heardOneOf", "(LFlowShelf$Report;)Z"⟩) ∈ fs_ws := fs_t5 (List.mem_of_getElem? (i := 58) rfl) rfl
theorem tw_5_59 : (Cond.code ⟨"FlowShelf$Ledger", "heardOneOf", "(LFlowShelf$Report;)Z"⟩ prog_7_method_2_code 4 (Option.some FieldType.boolean)) ∈ fs_ws := fs_t5 (List.mem_of_getElem? (i := 59) rfl) rfl
theorem tw_5_60 : (Cond.methodLink "FlowShelf$Ledger" 15 ⟨"FlowShelf$Report", "epoch", "()I"⟩) ∈ fs_ws := fs_t5 (List.mem_of_getElem? (i := 60) rfl) rfl
theorem tw_5_61 : (Cond.methodLink "FlowShelf$Ledger" 21 ⟨"FlowShelf$Report", "firstPlace", "()I"⟩) ∈ fs_ws := fs_t5 (List.mem_of_getElem? (i := 61) rfl) rfl
theorem tw_5_62 : (Cond.methodLink "FlowShelf$Ledger" 24 ⟨"FlowShelf$Report", "records", "()I"⟩) ∈ fs_ws := fs_t5 (List.mem_of_getElem? (i := 62) rfl) rfl
theorem tw_5_63 : (Cond.methodLink "FlowShelf$Collector" 114 ⟨"FlowShelf$Collector", "putOnShelf", "(LFlowShelf$Report;)V"⟩) ∈ fs_ws := fs_t5 (List.mem_of_getElem? (i := 63) rfl) rfl
theorem tw_5_64 : (Cond.instanceMethod ⟨"FlowShelf$Collector", "putOnShelf", "(LFlowShelf$Report;)V"⟩) ∈ fs_ws := fs_t5 (List.mem_of_getElem? (i := 64) rfl) rfl
theorem tw_5_65 : (Cond.selects "FlowShelf$Collector" ⟨"FlowShelf$Collector", "putOnShelf", "(LFlowShelf$Report;)V"⟩ ⟨"FlowShelf$Collector", "putOnShelf", "(LFlowShelf$Report;)V"⟩) ∈ fs_ws := fs_t5 (List.mem_of_getElem? (i := 65) rfl) rfl
theorem tw_5_66 : (Cond.code ⟨"FlowShelf$Collector", "putOnShelf", "(LFlowShelf$Report;)V"⟩ prog_2_method_11_code 2 (Option.none : Option FieldType)) ∈ fs_ws := fs_t5 (List.mem_of_getElem? (i := 66) rfl) rfl
theorem tw_5_67 : (Cond.methodLink "FlowShelf$Collector" 117 ⟨"FlowShelf$Collector", "readNow", "(LFlowShelf$Report;LFlowShelf$Report;)V"⟩) ∈ fs_ws := fs_t5 (List.mem_of_getElem? (i := 67) rfl) rfl
theorem tw_5_68 : (Cond.instanceMethod ⟨"FlowShelf$Collector", "readNow", "(LFlowShelf$Report;LFlowShelf$Report;)V"⟩) ∈ fs_ws := fs_t5 (List.mem_of_getElem? (i := 68) rfl) rfl
theorem tw_5_69 : (Cond.selects "FlowShelf$Collector" ⟨"FlowShelf$Collector", "readNow", "(LFlowShelf$Report;LFlowShelf$Report;)V"⟩ ⟨"FlowShelf$Collector", "readNow", "(LFlowShelf$Report;LFlowShelf$Report;)V"⟩) ∈ fs_ws := fs_t5 (List.mem_of_getElem? (i := 69) rfl) rfl
theorem tw_5_70 : (Cond.code ⟨"FlowShelf$Collector", "readNow", "(LFlowShelf$Report;LFlowShelf$Report;)V"⟩ prog_2_method_10_code 3 (Option.none : Option FieldType)) ∈ fs_ws := fs_t5 (List.mem_of_getElem? (i := 70) rfl) rfl
theorem tw_5_71 : (Cond.classLink "FlowShelf$Collector" 123 "java/lang/IllegalArgumentException") ∈ fs_ws := fs_t5 (List.mem_of_getElem? (i := 71) rfl) rfl
theorem tw_5_73 : (Cond.methodLink "FlowShelf$Collector" 127 ⟨"java/lang/IllegalArgumentException", "<init>", "(Ljava/lang/String;)V"⟩) ∈ fs_ws := fs_t5 (List.mem_of_getElem? (i := 73) rfl) rfl
theorem tw_5_74 : (Cond.methodLink "FlowShelf$Collector" 120 ⟨"FlowShelf$Ledger", "markHeard", "(LFlowShelf$Report;)V"⟩) ∈ fs_ws := fs_t5 (List.mem_of_getElem? (i := 74) rfl) rfl
theorem tw_5_75 : (Cond.instanceMethod ⟨"FlowShelf$Ledger", "markHeard", "(LFlowShelf$Report;)V"⟩) ∈ fs_ws := fs_t5 (List.mem_of_getElem? (i := 75) rfl) rfl
theorem tw_5_76 : (Cond.selects "FlowShelf$Ledger" ⟨"FlowShelf$Ledger", "markHeard", "(LFlowShelf$Report;)V"⟩ ⟨"FlowShelf$Ledger", "markHeard", "(LFlowShelf$Report;)V"⟩) ∈ fs_ws := fs_t5 (List.mem_of_getElem? (i := 76) rfl) rfl
theorem tw_5_77 : (Cond.code ⟨"FlowShelf$Ledger", "markHeard", "(LFlowShelf$Report;)V"⟩ prog_7_method_3_code 4 (Option.none : Option FieldType)) ∈ fs_ws := fs_t5 (List.mem_of_getElem? (i := 77) rfl) rfl
theorem tw_5_78 : (Cond.methodLink "FlowShelf" 234 ⟨"FlowShelf$Report", "exporter", "()I"⟩) ∈ fs_ws := fs_t5 (List.mem_of_getElem? (i := 78) rfl) rfl
theorem tw_5_79 : (Cond.methodLink "FlowShelf" 237 ⟨"FlowShelf$Collector", "ledgerOf", "(I)LFlowShelf$Ledger;"⟩) ∈ fs_ws := fs_t5 (List.mem_of_getElem? (i := 79) rfl) rfl
theorem tw_5_80 : (Cond.methodLink "FlowShelf" 241 ⟨"FlowShelf$Ledger", "noteSampler", "(LFlowShelf$Report;)V"⟩) ∈ fs_ws := fs_t5 (List.mem_of_getElem? (i := 80) rfl) rfl
theorem tw_5_81 : (Cond.instanceMethod ⟨"FlowShelf$Ledger", "noteSampler", "(LFlowShelf$Report;)V"⟩) ∈ fs_ws := fs_t5 (List.mem_of_getElem? (i := 81) rfl) rfl
theorem tw_5_82 : (Cond.selects "FlowShelf$Ledger" ⟨"FlowShelf$Ledger", "noteSampler", "(LFlowShelf$Report;)V"⟩ ⟨"FlowShelf$Ledger", "noteSampler", "(LFlowShelf$Report;)V"⟩) ∈ fs_ws := fs_t5 (List.mem_of_getElem? (i := 82) rfl) rfl
theorem tw_5_83 : (Cond.code ⟨"FlowShelf$Ledger", "noteSampler", "(LFlowShelf$Report;)V"⟩ prog_7_method_6_code 4 (Option.none : Option FieldType)) ∈ fs_ws := fs_t5 (List.mem_of_getElem? (i := 83) rfl) rfl
theorem tw_5_84 : (Cond.methodLink "FlowShelf$Ledger" 38 ⟨"FlowShelf$Report", "samplersBefore", "()I"⟩) ∈ fs_ws := fs_t5 (List.mem_of_getElem? (i := 84) rfl) rfl
theorem tw_5_85 : (Cond.instanceMethod ⟨"FlowShelf$Report", "samplersBefore", "()I"⟩) ∈ fs_ws := fs_t5 (List.mem_of_getElem? (i := 85) rfl) rfl
theorem tw_5_86 : (Cond.selects "FlowShelf$Report" ⟨"FlowShelf$Report", "samplersBefore", "()I"⟩ ⟨"FlowShelf$Report", "samplersBefore", "()I"⟩) ∈ fs_ws := fs_t5 (List.mem_of_getElem? (i := 86) rfl) rfl
theorem tw_5_87 : (Cond.code ⟨"FlowShelf$Report", "samplersBefore", "()I"⟩ prog_8_method_13_code 1 (Option.some FieldType.int)) ∈ fs_ws := fs_t5 (List.mem_of_getElem? (i := 87) rfl) rfl
theorem tw_5_88 : (Cond.methodLink "FlowShelf$Ledger" 44 ⟨"FlowShelf$Report", "samplerN", "()I"⟩) ∈ fs_ws := fs_t5 (List.mem_of_getElem? (i := 88) rfl) rfl
theorem tw_5_89 : (Cond.methodLink "FlowShelfLaw" 153 ⟨"FlowShelfLaw", "row", "(LFlowShelf;II[J)I"⟩) ∈ fs_ws := fs_t5 (List.mem_of_getElem? (i := 89) rfl) rfl
theorem tw_5_90 : (Cond.static ⟨"FlowShelfLaw", "row", "(LFlowShelf;II[J)I"⟩) ∈ fs_ws := fs_t5 (List.mem_of_getElem? (i := 90) rfl) rfl
theorem tw_5_91 : (Cond.codeWith ⟨"FlowShelfLaw", "row", "(LFlowShelf;II[J)I"⟩ method_18_code 5 (Option.some FieldType.int) [(0, 9, 12, 33), (0, 9, 16, 13)]) ∈ fs_ws := fs_t5 (List.mem_of_getElem? (i := 91) rfl) rfl
theorem tw_5_92 : (Cond.methodLink "FlowShelfLaw" 69 ⟨"FlowShelf", "row", "(II)J"⟩) ∈ fs_ws := fs_t5 (List.mem_of_getElem? (i := 92) rfl) rfl
theorem tw_5_93 : (Cond.instanceMethod ⟨"FlowShelf", "row", "(II)J"⟩) ∈ fs_ws := fs_t5 (List.mem_of_getElem? (i := 93) rfl) rfl
theorem tw_5_94 : (Cond.selects "FlowShelf" ⟨"FlowShelf", "row", "(II)J"⟩ ⟨"FlowShelf", "row", "(II)J"⟩) ∈ fs_ws := fs_t5 (List.mem_of_getElem? (i := 94) rfl) rfl
theorem tw_5_95 : (Cond.code ⟨"FlowShelf", "row", "(II)J"⟩ prog_1_method_19_code 4 (Option.some FieldType.long)) ∈ fs_ws := fs_t5 (List.mem_of_getElem? (i := 95) rfl) rfl
theorem tw_5_96 : (Cond.methodLink "FlowShelf" 256 ⟨"FlowShelf", "requireRow", "(I)V"⟩) ∈ fs_ws := fs_t5 (List.mem_of_getElem? (i := 96) rfl) rfl
theorem tw_5_98 : (Cond.instanceMethod ⟨"FlowShelf", "requireRow", "(I)V"⟩) ∈ fs_ws := fs_t5 (List.mem_of_getElem? (i := 98) rfl) rfl
theorem tw_5_99 : (Cond.code ⟨"FlowShelf", "requireRow", "(I)V"⟩ prog_1_method_26_code 2 (Option.none : Option FieldType)) ∈ fs_ws := fs_t5 (List.mem_of_getElem? (i := 99) rfl) rfl
theorem tw_5_102 : (Cond.classLink "FlowShelf" 261 "FlowShelf$Row") ∈ fs_ws := fs_t5 (List.mem_of_getElem? (i := 102) rfl) rfl
theorem tw_5_103 : (Cond.methodLink "FlowShelfLaw" 158 ⟨"FlowShelfLaw", "total", "(LFlowShelf;IIJI[J)I"⟩) ∈ fs_ws := fs_t5 (List.mem_of_getElem? (i := 103) rfl) rfl
theorem tw_5_104 : (Cond.static ⟨"FlowShelfLaw", "total", "(LFlowShelf;IIJI[J)I"⟩) ∈ fs_ws := fs_t5 (List.mem_of_getElem? (i := 104) rfl) rfl
theorem tw_5_105 : (Cond.codeWith ⟨"FlowShelfLaw", "total", "(LFlowShelf;IIJI[J)I"⟩ method_19_code 8 (Option.some FieldType.int) [(0, 13, 16, 13)]) ∈ fs_ws := fs_t5 (List.mem_of_getElem? (i := 105) rfl) rfl
theorem tw_5_106 : (Cond.methodLink "FlowShelfLaw" 73 ⟨"FlowShelf", "total", "(IIJI)J"⟩) ∈ fs_ws := fs_t5 (List.mem_of_getElem? (i := 106) rfl) rfl
theorem tw_5_107 : (Cond.instanceMethod ⟨"FlowShelf", "total", "(IIJI)J"⟩) ∈ fs_ws := fs_t5 (List.mem_of_getElem? (i := 107) rfl) rfl
theorem tw_5_108 : (Cond.selects "FlowShelf" ⟨"FlowShelf", "total", "(IIJI)J"⟩ ⟨"FlowShelf", "total", "(IIJI)J"⟩) ∈ fs_ws := fs_t5 (List.mem_of_getElem? (i := 108) rfl) rfl
theorem tw_5_109 : (Cond.code ⟨"FlowShelf", "total", "(IIJI)J"⟩ prog_1_method_20_code 6 (Option.some FieldType.long)) ∈ fs_ws := fs_t5 (List.mem_of_getElem? (i := 109) rfl) rfl
theorem tw_5_110 : (Cond.methodLink "FlowShelf" 274 ⟨"FlowShelf$Table", "sumOf", "(IIJI)J"⟩) ∈ fs_ws := fs_t5 (List.mem_of_getElem? (i := 110) rfl) rfl
theorem tw_5_111 : (Cond.instanceMethod ⟨"FlowShelf$Table", "sumOf", "(IIJI)J"⟩) ∈ fs_ws := fs_t5 (List.mem_of_getElem? (i := 111) rfl) rfl
theorem tw_5_112 : (Cond.selects "FlowShelf$Table" ⟨"FlowShelf$Table", "sumOf", "(IIJI)J"⟩ ⟨"FlowShelf$Table", "sumOf", "(IIJI)J"⟩) ∈ fs_ws := fs_t5 (List.mem_of_getElem? (i := 112) rfl) rfl
theorem tw_5_113 : (Cond.code ⟨"FlowShelf$Table", "sumOf", "(IIJI)J"⟩ prog_11_method_4_code 10 (Option.some FieldType.long)) ∈ fs_ws := fs_t5 (List.mem_of_getElem? (i := 113) rfl) rfl
theorem tw_5_114 : (Cond.methodLink "FlowShelf$Table" 37 ⟨"java/util/ArrayList", "get", "(I)Ljava/lang/Object;"⟩) ∈ fs_ws := fs_t5 (List.mem_of_getElem? (i := 114) rfl) rfl
theorem tw_5_115 : (Cond.classLink "FlowShelf$Table" 41 "FlowShelf$Row") ∈ fs_ws := fs_t5 (List.mem_of_getElem? (i := 115) rfl) rfl
theorem tw_5_116 : (Cond.methodLink "FlowShelf$Table" 47 ⟨"FlowShelf$Row", "has", "(I)Z"⟩) ∈ fs_ws := fs_t5 (List.mem_of_getElem? (i := 116) rfl) rfl
theorem tw_5_117 : (Cond.instanceMethod ⟨"FlowShelf$Row", "has", "(I)Z"⟩) ∈ fs_ws := fs_t5 (List.mem_of_getElem? (i := 117) rfl) rfl
theorem tw_5_118 : (Cond.selects "FlowShelf$Row" ⟨"FlowShelf$Row", "has", "(I)Z"⟩ ⟨"FlowShelf$Row", "has", "(I)Z"⟩) ∈ fs_ws := fs_t5 (List.mem_of_getElem? (i := 118) rfl) rfl
theorem tw_5_119 : (Cond.code ⟨"FlowShelf$Row", "has", "(I)Z"⟩ prog_9_method_2_code 2 (Option.some FieldType.boolean)) ∈ fs_ws := fs_t5 (List.mem_of_getElem? (i := 119) rfl) rfl
theorem tw_5_120 : (Cond.methodLink "FlowShelfLaw" 162 ⟨"FlowShelfLaw", "other", "(LFlowShelf;I[J)I"⟩) ∈ fs_ws := fs_t5 (List.mem_of_getElem? (i := 120) rfl) rfl
theorem tw_5_121 : (Cond.static ⟨"FlowShelfLaw", "other", "(LFlowShelf;I[J)I"⟩) ∈ fs_ws := fs_t5 (List.mem_of_getElem? (i := 121) rfl) rfl
theorem tw_5_122 : (Cond.codeWith ⟨"FlowShelfLaw", "other", "(LFlowShelf;I[J)I"⟩ method_20_code 4 (Option.some FieldType.int) [(0, 9, 12, 33)]) ∈ fs_ws := fs_t5 (List.mem_of_getElem? (i := 122) rfl) rfl
theorem tw_5_123 : (Cond.methodLink "FlowShelfLaw" 77 ⟨"FlowShelf", "other", "(I)I"⟩) ∈ fs_ws := fs_t5 (List.mem_of_getElem? (i := 123) rfl) rfl
theorem tw_5_124 : (Cond.instanceMethod ⟨"FlowShelf", "other", "(I)I"⟩) ∈ fs_ws := fs_t5 (List.mem_of_getElem? (i := 124) rfl) rfl
theorem tw_5_125 : (Cond.selects "FlowShelf" ⟨"FlowShelf", "other", "(I)I"⟩ ⟨"FlowShelf", "other", "(I)I"⟩) ∈ fs_ws := fs_t5 (List.mem_of_getElem? (i := 125) rfl) rfl
theorem tw_5_126 : (Cond.code ⟨"FlowShelf", "other", "(I)I"⟩ prog_1_method_21_code 2 (Option.some FieldType.int)) ∈ fs_ws := fs_t5 (List.mem_of_getElem? (i := 126) rfl) rfl
theorem tw_5_127 : (Cond.methodLink "FlowShelf" 278 ⟨"FlowShelf$Table", "partnerOf", "(I)I"⟩) ∈ fs_ws := fs_t5 (List.mem_of_getElem? (i := 127) rfl) rfl
theorem tw_5_128 : (Cond.instanceMethod ⟨"FlowShelf$Table", "partnerOf", "(I)I"⟩) ∈ fs_ws := fs_t5 (List.mem_of_getElem? (i := 128) rfl) rfl
theorem tw_5_129 : (Cond.selects "FlowShelf$Table" ⟨"FlowShelf$Table", "partnerOf", "(I)I"⟩ ⟨"FlowShelf$Table", "partnerOf", "(I)I"⟩) ∈ fs_ws := fs_t5 (List.mem_of_getElem? (i := 129) rfl) rfl
theorem tw_5_130 : (Cond.code ⟨"FlowShelf$Table", "partnerOf", "(I)I"⟩ prog_11_method_5_code 2 (Option.some FieldType.int)) ∈ fs_ws := fs_t5 (List.mem_of_getElem? (i := 130) rfl) rfl
theorem tw_5_131 : (Cond.methodLink "FlowShelf$Table" 57 ⟨"FlowShelf$Table", "pairAll", "()V"⟩) ∈ fs_ws := fs_t5 (List.mem_of_getElem? (i := 131) rfl) rfl
theorem tw_5_132 : (Cond.instanceMethod ⟨"FlowShelf$Table", "pairAll", "()V"⟩) ∈ fs_ws := fs_t5 (List.mem_of_getElem? (i := 132) rfl) rfl
theorem tw_5_133 : (Cond.selects "FlowShelf$Table" ⟨"FlowShelf$Table", "pairAll", "()V"⟩ ⟨"FlowShelf$Table", "pairAll", "()V"⟩) ∈ fs_ws := fs_t5 (List.mem_of_getElem? (i := 133) rfl) rfl
theorem tw_5_134 : (Cond.code ⟨"FlowShelf$Table", "pairAll", "()V"⟩ prog_11_method_6_code 4 (Option.none : Option FieldType)) ∈ fs_ws := fs_t5 (List.mem_of_getElem? (i := 134) rfl) rfl
theorem tw_5_135 : (Cond.methodLink "FlowShelf$Table" 60 ⟨"java/util/Arrays", "fill", "([II)V"⟩) ∈ fs_ws := fs_t5 (List.mem_of_getElem? (i := 135) rfl) rfl
theorem tw_5_136 : (Cond.static ⟨"java/util/Arrays", "fill", "([II)V"⟩) ∈ fs_ws := fs_t5 (List.mem_of_getElem? (i := 136) rfl) rfl
theorem tw_5_137 : (Cond.code ⟨"java/util/Arrays", "fill", "([II)V"⟩ prog_30_method_103_code 4 (Option.none : Option FieldType)) ∈ fs_ws := fs_t5 (List.mem_of_getElem? (i := 137) rfl) rfl
theorem tw_5_138 : (Cond.methodLink "FlowShelf$Table" 66 ⟨"FlowShelf$Table", "putInOrder", "()V"⟩) ∈ fs_ws := fs_t5 (List.mem_of_getElem? (i := 138) rfl) rfl
theorem tw_5_139 : (Cond.instanceMethod ⟨"FlowShelf$Table", "putInOrder", "()V"⟩) ∈ fs_ws := fs_t5 (List.mem_of_getElem? (i := 139) rfl) rfl
theorem tw_5_140 : (Cond.selects "FlowShelf$Table" ⟨"FlowShelf$Table", "putInOrder", "()V"⟩ ⟨"FlowShelf$Table", "putInOrder", "()V"⟩) ∈ fs_ws := fs_t5 (List.mem_of_getElem? (i := 140) rfl) rfl
theorem tw_5_141 : (Cond.code ⟨"FlowShelf$Table", "putInOrder", "()V"⟩ prog_11_method_7_code 2 (Option.none : Option FieldType)) ∈ fs_ws := fs_t5 (List.mem_of_getElem? (i := 141) rfl) rfl
theorem tw_5_142 : (Cond.methodLink "FlowShelf$Table" 76 ⟨"FlowShelf$Row", "canBePaired", "()Z"⟩) ∈ fs_ws := fs_t5 (List.mem_of_getElem? (i := 142) rfl) rfl
theorem tw_5_143 : (Cond.instanceMethod ⟨"FlowShelf$Row", "canBePaired", "()Z"⟩) ∈ fs_ws := fs_t5 (List.mem_of_getElem? (i := 143) rfl) rfl
theorem tw_5_144 : (Cond.selects "FlowShelf$Row" ⟨"FlowShelf$Row", "canBePaired", "()Z"⟩ ⟨"FlowShelf$Row", "canBePaired", "()Z"⟩) ∈ fs_ws := fs_t5 (List.mem_of_getElem? (i := 144) rfl) rfl
theorem tw_5_145 : (Cond.code ⟨"FlowShelf$Row", "canBePaired", "()Z"⟩ prog_9_method_3_code 1 (Option.some FieldType.boolean)) ∈ fs_ws := fs_t5 (List.mem_of_getElem? (i := 145) rfl) rfl
theorem tw_5_146 : (Cond.methodLink "FlowShelf$Row" 27 ⟨"FlowShelf$Row", "has", "(I)Z"⟩) ∈ fs_ws := fs_t5 (List.mem_of_getElem? (i := 146) rfl) rfl
theorem tw_5_147 : (Cond.methodLink "FlowShelf$Table" 80 ⟨"FlowShelf$Table", "insertInOrder", "(I)V"⟩) ∈ fs_ws := fs_t5 (List.mem_of_getElem? (i := 147) rfl) rfl
theorem tw_5_148 : (Cond.instanceMethod ⟨"FlowShelf$Table", "insertInOrder", "(I)V"⟩) ∈ fs_ws := fs_t5 (List.mem_of_getElem? (i := 148) rfl) rfl
theorem tw_5_149 : (Cond.selects "FlowShelf$Table" ⟨"FlowShelf$Table", "insertInOrder", "(I)V"⟩ ⟨"FlowShelf$Table", "insertInOrder", "(I)V"⟩) ∈ fs_ws := fs_t5 (List.mem_of_getElem? (i := 149) rfl) rfl
theorem tw_5_150 : (Cond.code ⟨"FlowShelf$Table", "insertInOrder", "(I)V"⟩ prog_11_method_8_code 3 (Option.none : Option FieldType)) ∈ fs_ws := fs_t5 (List.mem_of_getElem? (i := 150) rfl) rfl
theorem tw_5_151 : (Cond.methodLink "FlowShelf$Table" 72 ⟨"FlowShelf$Table", "nearestReverse", "(I)I"⟩) ∈ fs_ws := fs_t5 (List.mem_of_getElem? (i := 151) rfl) rfl
theorem tw_5_152 : (Cond.instanceMethod ⟨"FlowShelf$Table", "nearestReverse", "(I)I"⟩) ∈ fs_ws := fs_t5 (List.mem_of_getElem? (i := 152) rfl) rfl
theorem tw_5_153 : (Cond.selects "FlowShelf$Table" ⟨"FlowShelf$Table", "nearestReverse", "(I)I"⟩ ⟨"FlowShelf$Table", "nearestReverse", "(I)I"⟩) ∈ fs_ws := fs_t5 (List.mem_of_getElem? (i := 153) rfl) rfl
theorem tw_5_154 : (Cond.code ⟨"FlowShelf$Table", "nearestReverse", "(I)I"⟩ prog_11_method_9_code 6 (Option.some FieldType.int)) ∈ fs_ws := fs_t5 (List.mem_of_getElem? (i := 154) rfl) rfl
theorem tw_5_155 : (Cond.methodLink "FlowShelf$Table" 84 ⟨"FlowShelf$Row", "isReverseOf", "(LFlowShelf$Row;)Z"⟩) ∈ fs_ws := fs_t5 (List.mem_of_getElem? (i := 155) rfl) rfl
theorem tw_5_156 : (Cond.instanceMethod ⟨"FlowShelf$Row", "isReverseOf", "(LFlowShelf$Row;)Z"⟩) ∈ fs_ws := fs_t5 (List.mem_of_getElem? (i := 156) rfl) rfl
theorem tw_5_157 : (Cond.selects "FlowShelf$Row" ⟨"FlowShelf$Row", "isReverseOf", "(LFlowShelf$Row;)Z"⟩ ⟨"FlowShelf$Row", "isReverseOf", "(LFlowShelf$Row;)Z"⟩) ∈ fs_ws := fs_t5 (List.mem_of_getElem? (i := 157) rfl) rfl
theorem tw_5_158 : (Cond.code ⟨"FlowShelf$Row", "isReverseOf", "(LFlowShelf$Row;)Z"⟩ prog_9_method_4_code 2 (Option.some FieldType.boolean)) ∈ fs_ws := fs_t5 (List.mem_of_getElem? (i := 158) rfl) rfl
theorem tw_5_159 : (Cond.methodLink "FlowShelf$Table" 88 ⟨"FlowShelf$Row", "ticksBetween", "(LFlowShelf$Row;)J"⟩) ∈ fs_ws := fs_t5 (List.mem_of_getElem? (i := 159) rfl) rfl
theorem tw_5_160 : (Cond.instanceMethod ⟨"FlowShelf$Row", "ticksBetween", "(LFlowShelf$Row;)J"⟩) ∈ fs_ws := fs_t5 (List.mem_of_getElem? (i := 160) rfl) rfl
theorem tw_5_161 : (Cond.selects "FlowShelf$Row" ⟨"FlowShelf$Row", "ticksBetween", "(LFlowShelf$Row;)J"⟩ ⟨"FlowShelf$Row", "ticksBetween", "(LFlowShelf$Row;)J"⟩) ∈ fs_ws := fs_t5 (List.mem_of_getElem? (i := 161) rfl) rfl
theorem tw_5_162 : (Cond.code ⟨"FlowShelf$Row", "ticksBetween", "(LFlowShelf$Row;)J"⟩ prog_9_method_5_code 2 (Option.some FieldType.long)) ∈ fs_ws := fs_t5 (List.mem_of_getElem? (i := 162) rfl) rfl
theorem tw_5_163 : (Cond.methodLink "FlowShelf$Row" 31 ⟨"java/lang/Math", "abs", "(J)J"⟩) ∈ fs_ws := fs_t5 (List.mem_of_getElem? (i := 163) rfl) rfl
theorem tw_5_164 : (Cond.static ⟨"java/lang/Math", "abs", "(J)J"⟩) ∈ fs_ws := fs_t5 (List.mem_of_getElem? (i := 164) rfl) rfl
theorem tw_5_165 : (Cond.code ⟨"java/lang/Math", "abs", "(J)J"⟩ prog_21_method_61_code 2 (Option.some FieldType.long)) ∈ fs_ws := fs_t5 (List.mem_of_getElem? (i := 165) rfl) rfl
theorem tw_5_166 : (Cond.methodLink "FlowShelfLaw" 165 ⟨"FlowShelfLaw", "count", "(LFlowShelf;II[J)I"⟩) ∈ fs_ws := fs_t5 (List.mem_of_getElem? (i := 166) rfl) rfl
theorem tw_5_167 : (Cond.static ⟨"FlowShelfLaw", "count", "(LFlowShelf;II[J)I"⟩) ∈ fs_ws := fs_t5 (List.mem_of_getElem? (i := 167) rfl) rfl
theorem tw_5_168 : (Cond.codeWith ⟨"FlowShelfLaw", "count", "(LFlowShelf;II[J)I"⟩ method_21_code 5 (Option.some FieldType.int) [(0, 10, 13, 13)]) ∈ fs_ws := fs_t5 (List.mem_of_getElem? (i := 168) rfl) rfl
theorem tw_5_169 : (Cond.methodLink "FlowShelfLaw" 80 ⟨"FlowShelf", "count", "(II)I"⟩) ∈ fs_ws := fs_t5 (List.mem_of_getElem? (i := 169) rfl) rfl
theorem tw_5_170 : (Cond.instanceMethod ⟨"FlowShelf", "count", "(II)I"⟩) ∈ fs_ws := fs_t5 (List.mem_of_getElem? (i := 170) rfl) rfl
theorem tw_5_171 : (Cond.selects "FlowShelf" ⟨"FlowShelf", "count", "(II)I"⟩ ⟨"FlowShelf", "count", "(II)I"⟩) ∈ fs_ws := fs_t5 (List.mem_of_getElem? (i := 171) rfl) rfl
theorem tw_5_172 : (Cond.code ⟨"FlowShelf", "count", "(II)I"⟩ prog_1_method_22_code 5 (Option.some FieldType.int)) ∈ fs_ws := fs_t5 (List.mem_of_getElem? (i := 172) rfl) rfl
theorem tw_5_173 : (Cond.methodLink "FlowShelf" 287 ⟨"FlowShelf$Ledger", "lostRecords", "()I"⟩) ∈ fs_ws := fs_t5 (List.mem_of_getElem? (i := 173) rfl) rfl
theorem tw_5_174 : (Cond.instanceMethod ⟨"FlowShelf$Ledger", "lostRecords", "()I"⟩) ∈ fs_ws := fs_t5 (List.mem_of_getElem? (i := 174) rfl) rfl
theorem tw_5_175 : (Cond.selects "FlowShelf$Ledger" ⟨"FlowShelf$Ledger", "lostRecords", "()I"⟩ ⟨"FlowShelf$Ledger", "lostRecords", "()I"⟩) ∈ fs_ws := fs_t5 (List.mem_of_getElem? (i := 175) rfl) rfl
theorem tw_5_176 : (Cond.code ⟨"FlowShelf$Ledger", "lostRecords", "()I"⟩ prog_7_method_4_code 3 (Option.some FieldType.int)) ∈ fs_ws := fs_t5 (List.mem_of_getElem? (i := 176) rfl) rfl
theorem tw_5_177 : (Cond.methodLink "FlowShelf$Ledger" 27 ⟨"FlowShelf$Ledger", "lostInEpoch", "(I)I"⟩) ∈ fs_ws := fs_t5 (List.mem_of_getElem? (i := 177) rfl) rfl
theorem tw_5_178 : (Cond.instanceMethod ⟨"FlowShelf$Ledger", "lostInEpoch", "(I)I"⟩) ∈ fs_ws := fs_t5 (List.mem_of_getElem? (i := 178) rfl) rfl
theorem tw_5_179 : (Cond.selects "FlowShelf$Ledger" ⟨"FlowShelf$Ledger", "lostInEpoch", "(I)I"⟩ ⟨"FlowShelf$Ledger", "lostInEpoch", "(I)I"⟩) ∈ fs_ws := fs_t5 (List.mem_of_getElem? (i := 179) rfl) rfl
theorem tw_5_180 : (Cond.code ⟨"FlowShelf$Ledger", "lostInEpoch", "(I)I"⟩ prog_7_method_5_code 6 (Option.some FieldType.int)) ∈ fs_ws := fs_t5 (List.mem_of_getElem? (i := 180) rfl) rfl
theorem tw_5_181 : (Cond.methodLink "FlowShelf" 290 ⟨"FlowShelf$Collector", "waitingOf", "(I)I"⟩) ∈ fs_ws := fs_t5 (List.mem_of_getElem? (i := 181) rfl) rfl
theorem tw_5_182 : (Cond.instanceMethod ⟨"FlowShelf$Collector", "waitingOf", "(I)I"⟩) ∈ fs_ws := fs_t5 (List.mem_of_getElem? (i := 182) rfl) rfl
theorem tw_5_183 : (Cond.selects "FlowShelf$Collector" ⟨"FlowShelf$Collector", "waitingOf", "(I)I"⟩ ⟨"FlowShelf$Collector", "waitingOf", "(I)I"⟩) ∈ fs_ws := fs_t5 (List.mem_of_getElem? (i := 183) rfl) rfl
theorem tw_5_184 : (Cond.code ⟨"FlowShelf$Collector", "waitingOf", "(I)I"⟩ prog_2_method_3_code 4 (Option.some FieldType.int)) ∈ fs_ws := fs_t5 (List.mem_of_getElem? (i := 184) rfl) rfl
theorem tw_5_186 : (Cond.classLink "FlowShelfLaw" 84 "FlowShelfModel") ∈ fs_ws := fs_t5 (List.mem_of_getElem? (i := 186) rfl) rfl
theorem tw_5_187 : (Cond.instantiable "FlowShelfModel" 50) ∈ fs_ws := fs_t5 (List.mem_of_getElem? (i := 187) rfl) rfl
theorem tw_5_188 : (Cond.methodLink "FlowShelfLaw" 86 ⟨"FlowShelfModel", "<init>", "()V"⟩) ∈ fs_ws := fs_t5 (List.mem_of_getElem? (i := 188) rfl) rfl
theorem tw_5_189 : (Cond.instanceMethod ⟨"FlowShelfModel", "<init>", "()V"⟩) ∈ fs_ws := fs_t5 (List.mem_of_getElem? (i := 189) rfl) rfl
theorem tw_5_190 : (Cond.code ⟨"FlowShelfModel", "<init>", "()V"⟩ prog_13_method_1_code 1 (Option.none : Option FieldType)) ∈ fs_ws := fs_t5 (List.mem_of_getElem? (i := 190) rfl) rfl
theorem tw_5_191 : (Cond.methodLink "FlowShelfModel" 1 ⟨"java/lang/Object", "<init>", "()V"⟩) ∈ fs_ws := fs_t5 (List.mem_of_getElem? (i := 191) rfl) rfl
theorem tw_5_192 : (Cond.fieldLink "FlowShelfModel" 138 "FlowShelfModel" "thrown" "I") ∈ fs_ws := fs_t5 (List.mem_of_getElem? (i := 192) rfl) rfl
theorem tw_5_193 : (Cond.fieldLink "FlowShelfModel" 7 "FlowShelfModel" "clock" "[I") ∈ fs_ws := fs_t5 (List.mem_of_getElem? (i := 193) rfl) rfl
theorem tw_5_194 : (Cond.fieldLink "FlowShelfModel" 13 "FlowShelfModel" "epoch" "[I") ∈ fs_ws := fs_t5 (List.mem_of_getElem? (i := 194) rfl) rfl
theorem tw_5_195 : (Cond.fieldLink "FlowShelfModel" 16 "FlowShelfModel" "every" "[I") ∈ fs_ws := fs_t5 (List.mem_of_getElem? (i := 195) rfl) rfl
theorem tw_5_196 : (Cond.fieldLink "FlowShelfModel" 19 "FlowShelfModel" "counter" "[I") ∈ fs_ws := fs_t5 (List.mem_of_getElem? (i := 196) rfl) rfl
theorem tw_5_197 : (Cond.fieldLink "FlowShelfModel" 22 "FlowShelfModel" "written" "[I") ∈ fs_ws := fs_t5 (List.mem_of_getElem? (i := 197) rfl) rfl
theorem tw_5_198 : (Cond.fieldLink "FlowShelfModel" 25 "FlowShelfModel" "told" "[I") ∈ fs_ws := fs_t5 (List.mem_of_getElem? (i := 198) rfl) rfl
theorem tw_5_199 : (Cond.fieldLink "FlowShelfModel" 28 "FlowShelfModel" "cached" "[I") ∈ fs_ws := fs_t5 (List.mem_of_getElem? (i := 199) rfl) rfl
theorem tw_5_200 : (Cond.fieldLink "FlowShelfModel" 31 "FlowShelfModel" "key" "[I") ∈ fs_ws := fs_t5 (List.mem_of_getElem? (i := 200) rfl) rfl
theorem tw_5_201 : (Cond.fieldLink "FlowShelfModel" 34 "FlowShelfModel" "bytes" "[I") ∈ fs_ws := fs_t5 (List.mem_of_getElem? (i := 201) rfl) rfl
theorem tw_5_202 : (Cond.fieldLink "FlowShelfModel" 37 "FlowShelfModel" "packets" "[I") ∈ fs_ws := fs_t5 (List.mem_of_getElem? (i := 202) rfl) rfl
theorem tw_5_203 : (Cond.fieldLink "FlowShelfModel" 40 "FlowShelfModel" "began" "[I") ∈ fs_ws := fs_t5 (List.mem_of_getElem? (i := 203) rfl) rfl
theorem tw_5_204 : (Cond.fieldLink "FlowShelfModel" 43 "FlowShelfModel" "latest" "[I") ∈ fs_ws := fs_t5 (List.mem_of_getElem? (i := 204) rfl) rfl
theorem tw_5_205 : (Cond.fieldLink "FlowShelfModel" 46 "FlowShelfModel" "endedMany" "[I") ∈ fs_ws := fs_t5 (List.mem_of_getElem? (i := 205) rfl) rfl
theorem tw_5_206 : (Cond.fieldLink "FlowShelfModel" 49 "FlowShelfModel" "endedFields" "[I") ∈ fs_ws := fs_t5 (List.mem_of_getElem? (i := 206) rfl) rfl
theorem tw_5_207 : (Cond.fieldLink "FlowShelfModel" 52 "FlowShelfModel" "draftMany" "[I") ∈ fs_ws := fs_t5 (List.mem_of_getElem? (i := 207) rfl) rfl
theorem tw_5_208 : (Cond.fieldLink "FlowShelfModel" 55 "FlowShelfModel" "draftField" "[I") ∈ fs_ws := fs_t5 (List.mem_of_getElem? (i := 208) rfl) rfl
theorem tw_5_209 : (Cond.fieldLink "FlowShelfModel" 58 "FlowShelfModel" "draftLength" "[I") ∈ fs_ws := fs_t5 (List.mem_of_getElem? (i := 209) rfl) rfl
theorem tw_5_210 : (Cond.fieldLink "FlowShelfModel" 61 "FlowShelfModel" "revisions" "[I") ∈ fs_ws := fs_t5 (List.mem_of_getElem? (i := 210) rfl) rfl
theorem tw_5_211 : (Cond.fieldLink "FlowShelfModel" 64 "FlowShelfModel" "inForce" "[I") ∈ fs_ws := fs_t5 (List.mem_of_getElem? (i := 211) rfl) rfl
theorem tw_5_212 : (Cond.fieldLink "FlowShelfModel" 67 "FlowShelfModel" "forceMany" "[I") ∈ fs_ws := fs_t5 (List.mem_of_getElem? (i := 212) rfl) rfl
theorem tw_5_213 : (Cond.fieldLink "FlowShelfModel" 70 "FlowShelfModel" "forceField" "[I") ∈ fs_ws := fs_t5 (List.mem_of_getElem? (i := 213) rfl) rfl
theorem tw_5_214 : (Cond.fieldLink "FlowShelfModel" 73 "FlowShelfModel" "forceLength" "[I") ∈ fs_ws := fs_t5 (List.mem_of_getElem? (i := 214) rfl) rfl
theorem tw_5_215 : (Cond.fieldLink "FlowShelfModel" 76 "FlowShelfModel" "sealedAt" "[I") ∈ fs_ws := fs_t5 (List.mem_of_getElem? (i := 215) rfl) rfl
theorem tw_5_216 : (Cond.fieldLink "FlowShelfModel" 165 "FlowShelfModel" "seals" "I") ∈ fs_ws := fs_t5 (List.mem_of_getElem? (i := 216) rfl) rfl
theorem tw_5_217 : (Cond.fieldLink "FlowShelfModel" 168 "FlowShelfModel" "reports" "I") ∈ fs_ws := fs_t5 (List.mem_of_getElem? (i := 217) rfl) rfl
theorem tw_5_218 : (Cond.fieldLink "FlowShelfModel" 79 "FlowShelfModel" "sizes" "[I") ∈ fs_ws := fs_t5 (List.mem_of_getElem? (i := 218) rfl) rfl
theorem tw_5_219 : (Cond.fieldLink "FlowShelfModel" 82 "FlowShelfModel" "texts" "[I") ∈ fs_ws := fs_t5 (List.mem_of_getElem? (i := 219) rfl) rfl
theorem tw_5_220 : (Cond.fieldLink "FlowShelfModel" 204 "FlowShelfModel" "knownMany" "I") ∈ fs_ws := fs_t5 (List.mem_of_getElem? (i := 220) rfl) rfl
theorem tw_5_221 : (Cond.fieldLink "FlowShelfModel" 85 "FlowShelfModel" "known" "[I") ∈ fs_ws := fs_t5 (List.mem_of_getElem? (i := 221) rfl) rfl
theorem tw_5_222 : (Cond.fieldLink "FlowShelfModel" 88 "FlowShelfModel" "knownFields" "[I") ∈ fs_ws := fs_t5 (List.mem_of_getElem? (i := 222) rfl) rfl
theorem tw_5_223 : (Cond.fieldLink "FlowShelfModel" 91 "FlowShelfModel" "knownField" "[I") ∈ fs_ws := fs_t5 (List.mem_of_getElem? (i := 223) rfl) rfl
theorem tw_5_224 : (Cond.fieldLink "FlowShelfModel" 94 "FlowShelfModel" "knownLength" "[I") ∈ fs_ws := fs_t5 (List.mem_of_getElem? (i := 224) rfl) rfl
theorem tw_5_225 : (Cond.fieldLink "FlowShelfModel" 225 "FlowShelfModel" "shelved" "I") ∈ fs_ws := fs_t5 (List.mem_of_getElem? (i := 225) rfl) rfl
theorem tw_5_226 : (Cond.fieldLink "FlowShelfModel" 97 "FlowShelfModel" "shelfSize" "[I") ∈ fs_ws := fs_t5 (List.mem_of_getElem? (i := 226) rfl) rfl
theorem tw_5_227 : (Cond.fieldLink "FlowShelfModel" 100 "FlowShelfModel" "shelf" "[I") ∈ fs_ws := fs_t5 (List.mem_of_getElem? (i := 227) rfl) rfl
theorem tw_5_228 : (Cond.fieldLink "FlowShelfModel" 103 "FlowShelfModel" "heard" "[Z") ∈ fs_ws := fs_t5 (List.mem_of_getElem? (i := 228) rfl) rfl
theorem tw_5_229 : (Cond.fieldLink "FlowShelfModel" 214 "FlowShelfModel" "rowMany" "I") ∈ fs_ws := fs_t5 (List.mem_of_getElem? (i := 229) rfl) rfl
theorem tw_5_230 : (Cond.fieldLink "FlowShelfModel" 107 "FlowShelfModel" "rowExporter" "[I") ∈ fs_ws := fs_t5 (List.mem_of_getElem? (i := 230) rfl) rfl
theorem tw_5_231 : (Cond.fieldLink "FlowShelfModel" 110 "FlowShelfModel" "values" "[J") ∈ fs_ws := fs_t5 (List.mem_of_getElem? (i := 231) rfl) rfl
theorem tw_5_232 : (Cond.fieldLink "FlowShelfModel" 114 "FlowShelfModel" "dropped" "[I") ∈ fs_ws := fs_t5 (List.mem_of_getElem? (i := 232) rfl) rfl
theorem tw_5_233 : (Cond.fieldLink "FlowShelfModel" 117 "FlowShelfModel" "spoilt" "[I") ∈ fs_ws := fs_t5 (List.mem_of_getElem? (i := 233) rfl) rfl
theorem tw_5_234 : (Cond.fieldLink "FlowShelfModel" 120 "FlowShelfModel" "noted" "[I") ∈ fs_ws := fs_t5 (List.mem_of_getElem? (i := 234) rfl) rfl
theorem tw_5_235 : (Cond.fieldLink "FlowShelfModel" 123 "FlowShelfModel" "notedEpoch" "[I") ∈ fs_ws := fs_t5 (List.mem_of_getElem? (i := 235) rfl) rfl
theorem tw_5_236 : (Cond.fieldLink "FlowShelfModel" 126 "FlowShelfModel" "notedCount" "[I") ∈ fs_ws := fs_t5 (List.mem_of_getElem? (i := 236) rfl) rfl
theorem tw_5_237 : (Cond.fieldLink "FlowShelfModel" 197 "FlowShelfModel" "length" "I") ∈ fs_ws := fs_t5 (List.mem_of_getElem? (i := 237) rfl) rfl
theorem tw_5_238 : (Cond.fieldLink "FlowShelfModel" 129 "FlowShelfModel" "b" "[I") ∈ fs_ws := fs_t5 (List.mem_of_getElem? (i := 238) rfl) rfl
theorem tw_5_239 : (Cond.fieldLink "FlowShelfModel" 207 "FlowShelfModel" "at" "I") ∈ fs_ws := fs_t5 (List.mem_of_getElem? (i := 239) rfl) rfl
theorem tw_6_0 : (Cond.fieldLink "FlowShelfModel" 132 "FlowShelfModel" "pair" "[I") ∈ fs_ws := fs_t6 (List.mem_of_getElem? (i := 0) rfl) rfl
theorem tw_6_1 : (Cond.fieldLink "FlowShelfModel" 135 "FlowShelfModel" "done" "[Z") ∈ fs_ws := fs_t6 (List.mem_of_getElem? (i := 1) rfl) rfl
theorem tw_6_103 : (Cond.methodLink "FlowShelfLaw" 93 ⟨"FlowShelfModel", "thrown", "()I"⟩) ∈ fs_ws := fs_t6 (List.mem_of_getElem? (i := 103) rfl) rfl
theorem tw_6_104 : (Cond.instanceMethod ⟨"FlowShelfModel", "thrown", "()I"⟩) ∈ fs_ws := fs_t6 (List.mem_of_getElem? (i := 104) rfl) rfl
theorem tw_6_105 : (Cond.selects "FlowShelfModel" ⟨"FlowShelfModel", "thrown", "()I"⟩ ⟨"FlowShelfModel", "thrown", "()I"⟩) ∈ fs_ws := fs_t6 (List.mem_of_getElem? (i := 105) rfl) rfl
theorem tw_6_106 : (Cond.code ⟨"FlowShelfModel", "thrown", "()I"⟩ prog_13_method_2_code 1 (Option.some FieldType.int)) ∈ fs_ws := fs_t6 (List.mem_of_getElem? (i := 106) rfl) rfl
theorem tw_6_107 : (Cond.methodLink "FlowShelfLaw" 92 ⟨"FlowShelfModel", "packet", "(IIIIIZ)Z"⟩) ∈ fs_ws := fs_t6 (List.mem_of_getElem? (i := 107) rfl) rfl
theorem tw_6_108 : (Cond.instanceMethod ⟨"FlowShelfModel", "packet", "(IIIIIZ)Z"⟩) ∈ fs_ws := fs_t6 (List.mem_of_getElem? (i := 108) rfl) rfl
theorem tw_6_109 : (Cond.selects "FlowShelfModel" ⟨"FlowShelfModel", "packet", "(IIIIIZ)Z"⟩ ⟨"FlowShelfModel", "packet", "(IIIIIZ)Z"⟩) ∈ fs_ws := fs_t6 (List.mem_of_getElem? (i := 109) rfl) rfl
theorem tw_6_110 : (Cond.code ⟨"FlowShelfModel", "packet", "(IIIIIZ)Z"⟩ prog_13_method_7_code 10 (Option.some FieldType.boolean)) ∈ fs_ws := fs_t6 (List.mem_of_getElem? (i := 110) rfl) rfl
theorem tw_6_111 : (Cond.methodLink "FlowShelfModel" 146 ⟨"FlowShelfModel", "noExporter", "(I)Z"⟩) ∈ fs_ws := fs_t6 (List.mem_of_getElem? (i := 111) rfl) rfl
theorem tw_6_113 : (Cond.instanceMethod ⟨"FlowShelfModel", "noExporter", "(I)Z"⟩) ∈ fs_ws := fs_t6 (List.mem_of_getElem? (i := 113) rfl) rfl
theorem tw_6_114 : (Cond.code ⟨"FlowShelfModel", "noExporter", "(I)Z"⟩ prog_13_method_3_code 2 (Option.some FieldType.boolean)) ∈ fs_ws := fs_t6 (List.mem_of_getElem? (i := 114) rfl) rfl
theorem tw_6_115 : (Cond.methodLink "FlowShelfModel" 150 ⟨"FlowShelfModel", "noByte", "(I)Z"⟩) ∈ fs_ws := fs_t6 (List.mem_of_getElem? (i := 115) rfl) rfl
theorem tw_6_117 : (Cond.instanceMethod ⟨"FlowShelfModel", "noByte", "(I)Z"⟩) ∈ fs_ws := fs_t6 (List.mem_of_getElem? (i := 117) rfl) rfl
theorem tw_6_118 : (Cond.code ⟨"FlowShelfModel", "noByte", "(I)Z"⟩ prog_13_method_4_code 2 (Option.some FieldType.boolean)) ∈ fs_ws := fs_t6 (List.mem_of_getElem? (i := 118) rfl) rfl
theorem tw_6_119 : (Cond.methodLink "FlowShelfModel" 153 ⟨"FlowShelfModel", "flowOf", "(II)I"⟩) ∈ fs_ws := fs_t6 (List.mem_of_getElem? (i := 119) rfl) rfl
theorem tw_6_121 : (Cond.instanceMethod ⟨"FlowShelfModel", "flowOf", "(II)I"⟩) ∈ fs_ws := fs_t6 (List.mem_of_getElem? (i := 121) rfl) rfl
theorem tw_6_122 : (Cond.code ⟨"FlowShelfModel", "flowOf", "(II)I"⟩ prog_13_method_6_code 5 (Option.some FieldType.int)) ∈ fs_ws := fs_t6 (List.mem_of_getElem? (i := 122) rfl) rfl
theorem tw_6_123 : (Cond.methodLink "FlowShelfModel" 142 ⟨"FlowShelfModel", "end", "(III)V"⟩) ∈ fs_ws := fs_t6 (List.mem_of_getElem? (i := 123) rfl) rfl
theorem tw_6_125 : (Cond.instanceMethod ⟨"FlowShelfModel", "end", "(III)V"⟩) ∈ fs_ws := fs_t6 (List.mem_of_getElem? (i := 125) rfl) rfl
theorem tw_6_126 : (Cond.code ⟨"FlowShelfModel", "end", "(III)V"⟩ prog_13_method_5_code 7 (Option.none : Option FieldType)) ∈ fs_ws := fs_t6 (List.mem_of_getElem? (i := 126) rfl) rfl
theorem tw_6_127 : (Cond.methodLink "FlowShelfLaw" 100 ⟨"FlowShelfModel", "tick", "(II)I"⟩) ∈ fs_ws := fs_t6 (List.mem_of_getElem? (i := 127) rfl) rfl
theorem tw_6_128 : (Cond.instanceMethod ⟨"FlowShelfModel", "tick", "(II)I"⟩) ∈ fs_ws := fs_t6 (List.mem_of_getElem? (i := 128) rfl) rfl
theorem tw_6_129 : (Cond.selects "FlowShelfModel" ⟨"FlowShelfModel", "tick", "(II)I"⟩ ⟨"FlowShelfModel", "tick", "(II)I"⟩) ∈ fs_ws := fs_t6 (List.mem_of_getElem? (i := 129) rfl) rfl
theorem tw_6_130 : (Cond.code ⟨"FlowShelfModel", "tick", "(II)I"⟩ prog_13_method_8_code 7 (Option.some FieldType.int)) ∈ fs_ws := fs_t6 (List.mem_of_getElem? (i := 130) rfl) rfl
theorem tw_6_131 : (Cond.methodLink "FlowShelfLaw" 104 ⟨"FlowShelfModel", "flush", "(I)I"⟩) ∈ fs_ws := fs_t6 (List.mem_of_getElem? (i := 131) rfl) rfl
theorem tw_6_132 : (Cond.instanceMethod ⟨"FlowShelfModel", "flush", "(I)I"⟩) ∈ fs_ws := fs_t6 (List.mem_of_getElem? (i := 132) rfl) rfl
theorem tw_6_133 : (Cond.selects "FlowShelfModel" ⟨"FlowShelfModel", "flush", "(I)I"⟩ ⟨"FlowShelfModel", "flush", "(I)I"⟩) ∈ fs_ws := fs_t6 (List.mem_of_getElem? (i := 133) rfl) rfl
theorem tw_6_134 : (Cond.code ⟨"FlowShelfModel", "flush", "(I)I"⟩ prog_13_method_9_code 4 (Option.some FieldType.int)) ∈ fs_ws := fs_t6 (List.mem_of_getElem? (i := 134) rfl) rfl
theorem tw_6_135 : (Cond.methodLink "FlowShelfLaw" 108 ⟨"FlowShelfModel", "sampler", "(II)V"⟩) ∈ fs_ws := fs_t6 (List.mem_of_getElem? (i := 135) rfl) rfl
theorem tw_6_136 : (Cond.instanceMethod ⟨"FlowShelfModel", "sampler", "(II)V"⟩) ∈ fs_ws := fs_t6 (List.mem_of_getElem? (i := 136) rfl) rfl
theorem tw_6_137 : (Cond.selects "FlowShelfModel" ⟨"FlowShelfModel", "sampler", "(II)V"⟩ ⟨"FlowShelfModel", "sampler", "(II)V"⟩) ∈ fs_ws := fs_t6 (List.mem_of_getElem? (i := 137) rfl) rfl
theorem tw_6_138 : (Cond.code ⟨"FlowShelfModel", "sampler", "(II)V"⟩ prog_13_method_10_code 3 (Option.none : Option FieldType)) ∈ fs_ws := fs_t6 (List.mem_of_getElem? (i := 138) rfl) rfl
theorem tw_6_139 : (Cond.methodLink "FlowShelfLaw" 112 ⟨"FlowShelfModel", "ended", "(III)I"⟩) ∈ fs_ws := fs_t6 (List.mem_of_getElem? (i := 139) rfl) rfl
theorem tw_6_140 : (Cond.instanceMethod ⟨"FlowShelfModel", "ended", "(III)I"⟩) ∈ fs_ws := fs_t6 (List.mem_of_getElem? (i := 140) rfl) rfl
theorem tw_6_141 : (Cond.selects "FlowShelfModel" ⟨"FlowShelfModel", "ended", "(III)I"⟩ ⟨"FlowShelfModel", "ended", "(III)I"⟩) ∈ fs_ws := fs_t6 (List.mem_of_getElem? (i := 141) rfl) rfl
theorem tw_6_142 : (Cond.code ⟨"FlowShelfModel", "ended", "(III)I"⟩ prog_13_method_11_code 4 (Option.some FieldType.int)) ∈ fs_ws := fs_t6 (List.mem_of_getElem? (i := 142) rfl) rfl
theorem tw_6_143 : (Cond.methodLink "FlowShelfLaw" 116 ⟨"FlowShelfModel", "field", "(IIII)I"⟩) ∈ fs_ws := fs_t6 (List.mem_of_getElem? (i := 143) rfl) rfl
theorem tw_6_144 : (Cond.instanceMethod ⟨"FlowShelfModel", "field", "(IIII)I"⟩) ∈ fs_ws := fs_t6 (List.mem_of_getElem? (i := 144) rfl) rfl
theorem tw_6_145 : (Cond.selects "FlowShelfModel" ⟨"FlowShelfModel", "field", "(IIII)I"⟩ ⟨"FlowShelfModel", "field", "(IIII)I"⟩) ∈ fs_ws := fs_t6 (List.mem_of_getElem? (i := 145) rfl) rfl
theorem tw_6_146 : (Cond.code ⟨"FlowShelfModel", "field", "(IIII)I"⟩ prog_13_method_14_code 8 (Option.some FieldType.int)) ∈ fs_ws := fs_t6 (List.mem_of_getElem? (i := 146) rfl) rfl
theorem tw_6_147 : (Cond.methodLink "FlowShelfModel" 157 ⟨"FlowShelfModel", "noTemplate", "(II)Z"⟩) ∈ fs_ws := fs_t6 (List.mem_of_getElem? (i := 147) rfl) rfl
theorem tw_6_149 : (Cond.instanceMethod ⟨"FlowShelfModel", "noTemplate", "(II)Z"⟩) ∈ fs_ws := fs_t6 (List.mem_of_getElem? (i := 149) rfl) rfl
theorem tw_6_150 : (Cond.code ⟨"FlowShelfModel", "noTemplate", "(II)Z"⟩ prog_13_method_12_code 3 (Option.some FieldType.boolean)) ∈ fs_ws := fs_t6 (List.mem_of_getElem? (i := 150) rfl) rfl
theorem tw_6_151 : (Cond.methodLink "FlowShelfModel" 161 ⟨"FlowShelfModel", "leastOf", "(I)I"⟩) ∈ fs_ws := fs_t6 (List.mem_of_getElem? (i := 151) rfl) rfl
theorem tw_6_153 : (Cond.instanceMethod ⟨"FlowShelfModel", "leastOf", "(I)I"⟩) ∈ fs_ws := fs_t6 (List.mem_of_getElem? (i := 153) rfl) rfl
theorem tw_6_154 : (Cond.code ⟨"FlowShelfModel", "leastOf", "(I)I"⟩ prog_13_method_13_code 2 (Option.some FieldType.int)) ∈ fs_ws := fs_t6 (List.mem_of_getElem? (i := 154) rfl) rfl
theorem tw_6_155 : (Cond.methodLink "FlowShelfLaw" 119 ⟨"FlowShelfModel", "seal", "(II)I"⟩) ∈ fs_ws := fs_t6 (List.mem_of_getElem? (i := 155) rfl) rfl
theorem tw_6_156 : (Cond.instanceMethod ⟨"FlowShelfModel", "seal", "(II)I"⟩) ∈ fs_ws := fs_t6 (List.mem_of_getElem? (i := 156) rfl) rfl
theorem tw_6_157 : (Cond.selects "FlowShelfModel" ⟨"FlowShelfModel", "seal", "(II)I"⟩ ⟨"FlowShelfModel", "seal", "(II)I"⟩) ∈ fs_ws := fs_t6 (List.mem_of_getElem? (i := 157) rfl) rfl
theorem tw_6_158 : (Cond.code ⟨"FlowShelfModel", "seal", "(II)I"⟩ prog_13_method_15_code 5 (Option.some FieldType.int)) ∈ fs_ws := fs_t6 (List.mem_of_getElem? (i := 158) rfl) rfl
theorem tw_6_159 : (Cond.methodLink "FlowShelfLaw" 122 ⟨"FlowShelfModel", "withdraw", "(II)V"⟩) ∈ fs_ws := fs_t6 (List.mem_of_getElem? (i := 159) rfl) rfl
theorem tw_6_160 : (Cond.instanceMethod ⟨"FlowShelfModel", "withdraw", "(II)V"⟩) ∈ fs_ws := fs_t6 (List.mem_of_getElem? (i := 160) rfl) rfl
theorem tw_6_161 : (Cond.selects "FlowShelfModel" ⟨"FlowShelfModel", "withdraw", "(II)V"⟩ ⟨"FlowShelfModel", "withdraw", "(II)V"⟩) ∈ fs_ws := fs_t6 (List.mem_of_getElem? (i := 161) rfl) rfl
theorem tw_6_162 : (Cond.code ⟨"FlowShelfModel", "withdraw", "(II)V"⟩ prog_13_method_16_code 4 (Option.none : Option FieldType)) ∈ fs_ws := fs_t6 (List.mem_of_getElem? (i := 162) rfl) rfl
theorem tw_6_163 : (Cond.methodLink "FlowShelfLaw" 125 ⟨"FlowShelfModel", "restart", "(I)I"⟩) ∈ fs_ws := fs_t6 (List.mem_of_getElem? (i := 163) rfl) rfl
theorem tw_6_164 : (Cond.instanceMethod ⟨"FlowShelfModel", "restart", "(I)I"⟩) ∈ fs_ws := fs_t6 (List.mem_of_getElem? (i := 164) rfl) rfl
theorem tw_6_165 : (Cond.selects "FlowShelfModel" ⟨"FlowShelfModel", "restart", "(I)I"⟩ ⟨"FlowShelfModel", "restart", "(I)I"⟩) ∈ fs_ws := fs_t6 (List.mem_of_getElem? (i := 165) rfl) rfl
theorem tw_6_166 : (Cond.code ⟨"FlowShelfModel", "restart", "(I)I"⟩ prog_13_method_17_code 3 (Option.some FieldType.int)) ∈ fs_ws := fs_t6 (List.mem_of_getElem? (i := 166) rfl) rfl
theorem tw_6_167 : (Cond.methodLink "FlowShelfLaw" 128 ⟨"FlowShelfModel", "announce", "(II)I"⟩) ∈ fs_ws := fs_t6 (List.mem_of_getElem? (i := 167) rfl) rfl
theorem tw_6_168 : (Cond.instanceMethod ⟨"FlowShelfModel", "announce", "(II)I"⟩) ∈ fs_ws := fs_t6 (List.mem_of_getElem? (i := 168) rfl) rfl
theorem tw_6_169 : (Cond.selects "FlowShelfModel" ⟨"FlowShelfModel", "announce", "(II)I"⟩ ⟨"FlowShelfModel", "announce", "(II)I"⟩) ∈ fs_ws := fs_t6 (List.mem_of_getElem? (i := 169) rfl) rfl
theorem tw_6_170 : (Cond.code ⟨"FlowShelfModel", "announce", "(II)I"⟩ prog_13_method_20_code 5 (Option.some FieldType.int)) ∈ fs_ws := fs_t6 (List.mem_of_getElem? (i := 170) rfl) rfl
theorem tw_6_171 : (Cond.methodLink "FlowShelfModel" 175 ⟨"FlowShelfModel", "head", "(II)V"⟩) ∈ fs_ws := fs_t6 (List.mem_of_getElem? (i := 171) rfl) rfl
theorem tw_6_173 : (Cond.instanceMethod ⟨"FlowShelfModel", "head", "(II)V"⟩) ∈ fs_ws := fs_t6 (List.mem_of_getElem? (i := 173) rfl) rfl
theorem tw_6_174 : (Cond.code ⟨"FlowShelfModel", "head", "(II)V"⟩ prog_13_method_19_code 3 (Option.none : Option FieldType)) ∈ fs_ws := fs_t6 (List.mem_of_getElem? (i := 174) rfl) rfl
theorem tw_6_175 : (Cond.methodLink "FlowShelfModel" 171 ⟨"FlowShelfModel", "write", "(I)V"⟩) ∈ fs_ws := fs_t6 (List.mem_of_getElem? (i := 175) rfl) rfl
theorem tw_6_177 : (Cond.instanceMethod ⟨"FlowShelfModel", "write", "(I)V"⟩) ∈ fs_ws := fs_t6 (List.mem_of_getElem? (i := 177) rfl) rfl
theorem tw_6_178 : (Cond.code ⟨"FlowShelfModel", "write", "(I)V"⟩ prog_13_method_18_code 2 (Option.none : Option FieldType)) ∈ fs_ws := fs_t6 (List.mem_of_getElem? (i := 178) rfl) rfl
theorem tw_6_179 : (Cond.methodLink "FlowShelfLaw" 131 ⟨"FlowShelfModel", "report", "(I)I"⟩) ∈ fs_ws := fs_t6 (List.mem_of_getElem? (i := 179) rfl) rfl
theorem tw_6_180 : (Cond.instanceMethod ⟨"FlowShelfModel", "report", "(I)I"⟩) ∈ fs_ws := fs_t6 (List.mem_of_getElem? (i := 180) rfl) rfl
theorem tw_6_181 : (Cond.selects "FlowShelfModel" ⟨"FlowShelfModel", "report", "(I)I"⟩ ⟨"FlowShelfModel", "report", "(I)I"⟩) ∈ fs_ws := fs_t6 (List.mem_of_getElem? (i := 181) rfl) rfl
theorem tw_6_182 : (Cond.code ⟨"FlowShelfModel", "report", "(I)I"⟩ prog_13_method_25_code 6 (Option.some FieldType.int)) ∈ fs_ws := fs_t6 (List.mem_of_getElem? (i := 182) rfl) rfl
theorem tw_6_183 : (Cond.methodLink "FlowShelfModel" 184 ⟨"FlowShelfModel", "last", "(I)I"⟩) ∈ fs_ws := fs_t6 (List.mem_of_getElem? (i := 183) rfl) rfl
theorem tw_6_185 : (Cond.instanceMethod ⟨"FlowShelfModel", "last", "(I)I"⟩) ∈ fs_ws := fs_t6 (List.mem_of_getElem? (i := 185) rfl) rfl
theorem tw_6_186 : (Cond.code ⟨"FlowShelfModel", "last", "(I)I"⟩ prog_13_method_21_code 4 (Option.some FieldType.int)) ∈ fs_ws := fs_t6 (List.mem_of_getElem? (i := 186) rfl) rfl
theorem tw_6_187 : (Cond.methodLink "FlowShelfModel" 187 ⟨"FlowShelfModel", "recordOf", "(III)I"⟩) ∈ fs_ws := fs_t6 (List.mem_of_getElem? (i := 187) rfl) rfl
theorem tw_6_189 : (Cond.instanceMethod ⟨"FlowShelfModel", "recordOf", "(III)I"⟩) ∈ fs_ws := fs_t6 (List.mem_of_getElem? (i := 189) rfl) rfl
theorem tw_6_190 : (Cond.code ⟨"FlowShelfModel", "recordOf", "(III)I"⟩ prog_13_method_23_code 7 (Option.some FieldType.int)) ∈ fs_ws := fs_t6 (List.mem_of_getElem? (i := 190) rfl) rfl
theorem tw_6_191 : (Cond.methodLink "FlowShelfModel" 181 ⟨"FlowShelfModel", "widthOf", "(I)I"⟩) ∈ fs_ws := fs_t6 (List.mem_of_getElem? (i := 191) rfl) rfl
theorem tw_6_193 : (Cond.instanceMethod ⟨"FlowShelfModel", "widthOf", "(I)I"⟩) ∈ fs_ws := fs_t6 (List.mem_of_getElem? (i := 193) rfl) rfl
theorem tw_6_194 : (Cond.code ⟨"FlowShelfModel", "widthOf", "(I)I"⟩ prog_13_method_22_code 2 (Option.some FieldType.int)) ∈ fs_ws := fs_t6 (List.mem_of_getElem? (i := 194) rfl) rfl
theorem tw_6_195 : (Cond.constant "FlowShelfModel" 179 (65536 : Int32)) ∈ fs_ws := fs_t6 (List.mem_of_getElem? (i := 195) rfl) rfl
theorem tw_6_196 : (Cond.constant "FlowShelfModel" 180 (16777216 : Int32)) ∈ fs_ws := fs_t6 (List.mem_of_getElem? (i := 196) rfl) rfl
theorem tw_6_197 : (Cond.methodLink "FlowShelfModel" 191 ⟨"FlowShelfModel", "writeRecord", "(III)V"⟩) ∈ fs_ws := fs_t6 (List.mem_of_getElem? (i := 197) rfl) rfl
theorem tw_6_199 : (Cond.instanceMethod ⟨"FlowShelfModel", "writeRecord", "(III)V"⟩) ∈ fs_ws := fs_t6 (List.mem_of_getElem? (i := 199) rfl) rfl
theorem tw_6_200 : (Cond.code ⟨"FlowShelfModel", "writeRecord", "(III)V"⟩ prog_13_method_24_code 8 (Option.none : Option FieldType)) ∈ fs_ws := fs_t6 (List.mem_of_getElem? (i := 200) rfl) rfl
theorem tw_6_201 : (Cond.methodLink "FlowShelfLaw" 134 ⟨"FlowShelfModel", "tell", "(I)I"⟩) ∈ fs_ws := fs_t6 (List.mem_of_getElem? (i := 201) rfl) rfl
theorem tw_6_202 : (Cond.instanceMethod ⟨"FlowShelfModel", "tell", "(I)I"⟩) ∈ fs_ws := fs_t6 (List.mem_of_getElem? (i := 202) rfl) rfl
theorem tw_6_203 : (Cond.selects "FlowShelfModel" ⟨"FlowShelfModel", "tell", "(I)I"⟩ ⟨"FlowShelfModel", "tell", "(I)I"⟩) ∈ fs_ws := fs_t6 (List.mem_of_getElem? (i := 203) rfl) rfl
theorem tw_6_204 : (Cond.code ⟨"FlowShelfModel", "tell", "(I)I"⟩ prog_13_method_26_code 2 (Option.some FieldType.int)) ∈ fs_ws := fs_t6 (List.mem_of_getElem? (i := 204) rfl) rfl
theorem tw_6_205 : (Cond.methodLink "FlowShelfLaw" 138 ⟨"FlowShelfModel", "size", "(I)I"⟩) ∈ fs_ws := fs_t6 (List.mem_of_getElem? (i := 205) rfl) rfl
theorem tw_6_206 : (Cond.instanceMethod ⟨"FlowShelfModel", "size", "(I)I"⟩) ∈ fs_ws := fs_t6 (List.mem_of_getElem? (i := 206) rfl) rfl
theorem tw_6_207 : (Cond.selects "FlowShelfModel" ⟨"FlowShelfModel", "size", "(I)I"⟩ ⟨"FlowShelfModel", "size", "(I)I"⟩) ∈ fs_ws := fs_t6 (List.mem_of_getElem? (i := 207) rfl) rfl
theorem tw_6_208 : (Cond.code ⟨"FlowShelfModel", "size", "(I)I"⟩ prog_13_method_28_code 2 (Option.some FieldType.int)) ∈ fs_ws := fs_t6 (List.mem_of_getElem? (i := 208) rfl) rfl
theorem tw_6_209 : (Cond.methodLink "FlowShelfModel" 194 ⟨"FlowShelfModel", "noReport", "(I)Z"⟩) ∈ fs_ws := fs_t6 (List.mem_of_getElem? (i := 209) rfl) rfl
theorem tw_6_211 : (Cond.instanceMethod ⟨"FlowShelfModel", "noReport", "(I)Z"⟩) ∈ fs_ws := fs_t6 (List.mem_of_getElem? (i := 211) rfl) rfl
theorem tw_6_212 : (Cond.code ⟨"FlowShelfModel", "noReport", "(I)Z"⟩ prog_13_method_27_code 2 (Option.some FieldType.boolean)) ∈ fs_ws := fs_t6 (List.mem_of_getElem? (i := 212) rfl) rfl
theorem tw_6_213 : (Cond.methodLink "FlowShelfLaw" 141 ⟨"FlowShelfModel", "byteOf", "(II)I"⟩) ∈ fs_ws := fs_t6 (List.mem_of_getElem? (i := 213) rfl) rfl
theorem tw_6_214 : (Cond.instanceMethod ⟨"FlowShelfModel", "byteOf", "(II)I"⟩) ∈ fs_ws := fs_t6 (List.mem_of_getElem? (i := 214) rfl) rfl
theorem tw_6_215 : (Cond.selects "FlowShelfModel" ⟨"FlowShelfModel", "byteOf", "(II)I"⟩ ⟨"FlowShelfModel", "byteOf", "(II)I"⟩) ∈ fs_ws := fs_t6 (List.mem_of_getElem? (i := 215) rfl) rfl
theorem tw_6_216 : (Cond.code ⟨"FlowShelfModel", "byteOf", "(II)I"⟩ prog_13_method_29_code 3 (Option.some FieldType.int)) ∈ fs_ws := fs_t6 (List.mem_of_getElem? (i := 216) rfl) rfl
theorem tw_6_217 : (Cond.methodLink "FlowShelfLaw" 145 ⟨"FlowShelfModel", "poke", "(III)V"⟩) ∈ fs_ws := fs_t6 (List.mem_of_getElem? (i := 217) rfl) rfl
theorem tw_6_218 : (Cond.instanceMethod ⟨"FlowShelfModel", "poke", "(III)V"⟩) ∈ fs_ws := fs_t6 (List.mem_of_getElem? (i := 218) rfl) rfl
theorem tw_6_219 : (Cond.selects "FlowShelfModel" ⟨"FlowShelfModel", "poke", "(III)V"⟩ ⟨"FlowShelfModel", "poke", "(III)V"⟩) ∈ fs_ws := fs_t6 (List.mem_of_getElem? (i := 219) rfl) rfl
theorem tw_6_220 : (Cond.code ⟨"FlowShelfModel", "poke", "(III)V"⟩ prog_13_method_30_code 4 (Option.none : Option FieldType)) ∈ fs_ws := fs_t6 (List.mem_of_getElem? (i := 220) rfl) rfl
theorem tw_6_221 : (Cond.methodLink "FlowShelfLaw" 148 ⟨"FlowShelfModel", "hear", "(I)I"⟩) ∈ fs_ws := fs_t6 (List.mem_of_getElem? (i := 221) rfl) rfl
theorem tw_6_222 : (Cond.instanceMethod ⟨"FlowShelfModel", "hear", "(I)I"⟩) ∈ fs_ws := fs_t6 (List.mem_of_getElem? (i := 222) rfl) rfl
theorem tw_6_223 : (Cond.selects "FlowShelfModel" ⟨"FlowShelfModel", "hear", "(I)I"⟩ ⟨"FlowShelfModel", "hear", "(I)I"⟩) ∈ fs_ws := fs_t6 (List.mem_of_getElem? (i := 223) rfl) rfl
theorem tw_6_224 : (Cond.code ⟨"FlowShelfModel", "hear", "(I)I"⟩ prog_13_method_43_code 4 (Option.some FieldType.int)) ∈ fs_ws := fs_t6 (List.mem_of_getElem? (i := 224) rfl) rfl
theorem tw_6_225 : (Cond.methodLink "FlowShelfModel" 247 ⟨"FlowShelfModel", "isBad", "()Z"⟩) ∈ fs_ws := fs_t6 (List.mem_of_getElem? (i := 225) rfl) rfl
theorem tw_6_227 : (Cond.instanceMethod ⟨"FlowShelfModel", "isBad", "()Z"⟩) ∈ fs_ws := fs_t6 (List.mem_of_getElem? (i := 227) rfl) rfl
theorem tw_6_228 : (Cond.code ⟨"FlowShelfModel", "isBad", "()Z"⟩ prog_13_method_32_code 1 (Option.some FieldType.boolean)) ∈ fs_ws := fs_t6 (List.mem_of_getElem? (i := 228) rfl) rfl
theorem tw_6_229 : (Cond.methodLink "FlowShelfModel" 200 ⟨"FlowShelfModel", "badFields", "()Z"⟩) ∈ fs_ws := fs_t6 (List.mem_of_getElem? (i := 229) rfl) rfl
theorem tw_6_231 : (Cond.instanceMethod ⟨"FlowShelfModel", "badFields", "()Z"⟩) ∈ fs_ws := fs_t6 (List.mem_of_getElem? (i := 231) rfl) rfl
theorem tw_6_232 : (Cond.code ⟨"FlowShelfModel", "badFields", "()Z"⟩ prog_13_method_31_code 5 (Option.some FieldType.boolean)) ∈ fs_ws := fs_t6 (List.mem_of_getElem? (i := 232) rfl) rfl
theorem tw_6_233 : (Cond.methodLink "FlowShelfModel" 250 ⟨"FlowShelfModel", "hearTemplate", "()I"⟩) ∈ fs_ws := fs_t6 (List.mem_of_getElem? (i := 233) rfl) rfl
theorem tw_6_235 : (Cond.instanceMethod ⟨"FlowShelfModel", "hearTemplate", "()I"⟩) ∈ fs_ws := fs_t6 (List.mem_of_getElem? (i := 235) rfl) rfl
theorem tw_6_236 : (Cond.code ⟨"FlowShelfModel", "hearTemplate", "()I"⟩ prog_13_method_41_code 5 (Option.some FieldType.int)) ∈ fs_ws := fs_t6 (List.mem_of_getElem? (i := 236) rfl) rfl
theorem tw_6_237 : (Cond.methodLink "FlowShelfModel" 228 ⟨"FlowShelfModel", "nameOf", "()I"⟩) ∈ fs_ws := fs_t6 (List.mem_of_getElem? (i := 237) rfl) rfl
theorem tw_6_239 : (Cond.instanceMethod ⟨"FlowShelfModel", "nameOf", "()I"⟩) ∈ fs_ws := fs_t6 (List.mem_of_getElem? (i := 239) rfl) rfl
theorem tw_7_0 : (Cond.code ⟨"FlowShelfModel", "nameOf", "()I"⟩ prog_13_method_33_code 1 (Option.some FieldType.int)) ∈ fs_ws := fs_t7 (List.mem_of_getElem? (i := 0) rfl) rfl
theorem tw_7_1 : (Cond.methodLink "FlowShelfModel" 232 ⟨"FlowShelfModel", "find", "(I)I"⟩) ∈ fs_ws := fs_t7 (List.mem_of_getElem? (i := 1) rfl) rfl
theorem tw_7_3 : (Cond.instanceMethod ⟨"FlowShelfModel", "find", "(I)I"⟩) ∈ fs_ws := fs_t7 (List.mem_of_getElem? (i := 3) rfl) rfl
theorem tw_7_4 : (Cond.code ⟨"FlowShelfModel", "find", "(I)I"⟩ prog_13_method_34_code 3 (Option.some FieldType.int)) ∈ fs_ws := fs_t7 (List.mem_of_getElem? (i := 4) rfl) rfl
theorem tw_7_5 : (Cond.methodLink "FlowShelfModel" 235 ⟨"FlowShelfModel", "waiting", "(I)I"⟩) ∈ fs_ws := fs_t7 (List.mem_of_getElem? (i := 5) rfl) rfl
theorem tw_7_7 : (Cond.instanceMethod ⟨"FlowShelfModel", "waiting", "(I)I"⟩) ∈ fs_ws := fs_t7 (List.mem_of_getElem? (i := 7) rfl) rfl
theorem tw_7_8 : (Cond.code ⟨"FlowShelfModel", "waiting", "(I)I"⟩ prog_13_method_40_code 5 (Option.some FieldType.int)) ∈ fs_ws := fs_t7 (List.mem_of_getElem? (i := 8) rfl) rfl
theorem tw_7_9 : (Cond.methodLink "FlowShelfModel" 238 ⟨"FlowShelfModel", "fetch", "(I)V"⟩) ∈ fs_ws := fs_t7 (List.mem_of_getElem? (i := 9) rfl) rfl
theorem tw_7_11 : (Cond.instanceMethod ⟨"FlowShelfModel", "fetch", "(I)V"⟩) ∈ fs_ws := fs_t7 (List.mem_of_getElem? (i := 11) rfl) rfl
theorem tw_7_12 : (Cond.code ⟨"FlowShelfModel", "fetch", "(I)V"⟩ prog_13_method_38_code 3 (Option.none : Option FieldType)) ∈ fs_ws := fs_t7 (List.mem_of_getElem? (i := 12) rfl) rfl
theorem tw_7_13 : (Cond.methodLink "FlowShelfModel" 241 ⟨"FlowShelfModel", "makeRows", "(I)I"⟩) ∈ fs_ws := fs_t7 (List.mem_of_getElem? (i := 13) rfl) rfl
theorem tw_7_15 : (Cond.instanceMethod ⟨"FlowShelfModel", "makeRows", "(I)I"⟩) ∈ fs_ws := fs_t7 (List.mem_of_getElem? (i := 15) rfl) rfl
theorem tw_7_16 : (Cond.code ⟨"FlowShelfModel", "makeRows", "(I)I"⟩ prog_13_method_37_code 3 (Option.some FieldType.int)) ∈ fs_ws := fs_t7 (List.mem_of_getElem? (i := 16) rfl) rfl
theorem tw_7_17 : (Cond.methodLink "FlowShelfModel" 221 ⟨"FlowShelfModel", "read", "(IZ)Z"⟩) ∈ fs_ws := fs_t7 (List.mem_of_getElem? (i := 17) rfl) rfl
theorem tw_7_19 : (Cond.instanceMethod ⟨"FlowShelfModel", "read", "(IZ)Z"⟩) ∈ fs_ws := fs_t7 (List.mem_of_getElem? (i := 19) rfl) rfl
theorem tw_7_20 : (Cond.code ⟨"FlowShelfModel", "read", "(IZ)Z"⟩ prog_13_method_36_code 7 (Option.some FieldType.boolean)) ∈ fs_ws := fs_t7 (List.mem_of_getElem? (i := 20) rfl) rfl
theorem tw_7_21 : (Cond.constantLong "FlowShelfModel" 210 (-1 : Int64)) ∈ fs_ws := fs_t7 (List.mem_of_getElem? (i := 21) rfl) rfl
theorem tw_7_22 : (Cond.methodLink "FlowShelfModel" 217 ⟨"FlowShelfModel", "take", "(I)J"⟩) ∈ fs_ws := fs_t7 (List.mem_of_getElem? (i := 22) rfl) rfl
theorem tw_7_24 : (Cond.instanceMethod ⟨"FlowShelfModel", "take", "(I)J"⟩) ∈ fs_ws := fs_t7 (List.mem_of_getElem? (i := 24) rfl) rfl
theorem tw_7_25 : (Cond.code ⟨"FlowShelfModel", "take", "(I)J"⟩ prog_13_method_35_code 6 (Option.some FieldType.long)) ∈ fs_ws := fs_t7 (List.mem_of_getElem? (i := 25) rfl) rfl
theorem tw_7_26 : (Cond.constantLong "FlowShelfModel" 212 (256 : Int64)) ∈ fs_ws := fs_t7 (List.mem_of_getElem? (i := 26) rfl) rfl
theorem tw_7_27 : (Cond.methodLink "FlowShelfModel" 244 ⟨"FlowShelfModel", "unshelve", "(I)V"⟩) ∈ fs_ws := fs_t7 (List.mem_of_getElem? (i := 27) rfl) rfl
theorem tw_7_29 : (Cond.instanceMethod ⟨"FlowShelfModel", "unshelve", "(I)V"⟩) ∈ fs_ws := fs_t7 (List.mem_of_getElem? (i := 29) rfl) rfl
theorem tw_7_30 : (Cond.code ⟨"FlowShelfModel", "unshelve", "(I)V"⟩ prog_13_method_39_code 4 (Option.none : Option FieldType)) ∈ fs_ws := fs_t7 (List.mem_of_getElem? (i := 30) rfl) rfl
theorem tw_7_31 : (Cond.methodLink "FlowShelfModel" 253 ⟨"FlowShelfModel", "hearRecords", "()I"⟩) ∈ fs_ws := fs_t7 (List.mem_of_getElem? (i := 31) rfl) rfl
theorem tw_7_33 : (Cond.instanceMethod ⟨"FlowShelfModel", "hearRecords", "()I"⟩) ∈ fs_ws := fs_t7 (List.mem_of_getElem? (i := 33) rfl) rfl
theorem tw_7_34 : (Cond.code ⟨"FlowShelfModel", "hearRecords", "()I"⟩ prog_13_method_42_code 7 (Option.some FieldType.int)) ∈ fs_ws := fs_t7 (List.mem_of_getElem? (i := 34) rfl) rfl
theorem tw_7_35 : (Cond.methodLink "FlowShelfLaw" 152 ⟨"FlowShelfModel", "rows", "()I"⟩) ∈ fs_ws := fs_t7 (List.mem_of_getElem? (i := 35) rfl) rfl
theorem tw_7_36 : (Cond.instanceMethod ⟨"FlowShelfModel", "rows", "()I"⟩) ∈ fs_ws := fs_t7 (List.mem_of_getElem? (i := 36) rfl) rfl
theorem tw_7_37 : (Cond.selects "FlowShelfModel" ⟨"FlowShelfModel", "rows", "()I"⟩ ⟨"FlowShelfModel", "rows", "()I"⟩) ∈ fs_ws := fs_t7 (List.mem_of_getElem? (i := 37) rfl) rfl
theorem tw_7_38 : (Cond.code ⟨"FlowShelfModel", "rows", "()I"⟩ prog_13_method_44_code 1 (Option.some FieldType.int)) ∈ fs_ws := fs_t7 (List.mem_of_getElem? (i := 38) rfl) rfl
theorem tw_7_39 : (Cond.methodLink "FlowShelfLaw" 155 ⟨"FlowShelfModel", "row", "(II)J"⟩) ∈ fs_ws := fs_t7 (List.mem_of_getElem? (i := 39) rfl) rfl
theorem tw_7_40 : (Cond.instanceMethod ⟨"FlowShelfModel", "row", "(II)J"⟩) ∈ fs_ws := fs_t7 (List.mem_of_getElem? (i := 40) rfl) rfl
theorem tw_7_41 : (Cond.selects "FlowShelfModel" ⟨"FlowShelfModel", "row", "(II)J"⟩ ⟨"FlowShelfModel", "row", "(II)J"⟩) ∈ fs_ws := fs_t7 (List.mem_of_getElem? (i := 41) rfl) rfl
theorem tw_7_42 : (Cond.code ⟨"FlowShelfModel", "row", "(II)J"⟩ prog_13_method_45_code 3 (Option.some FieldType.long)) ∈ fs_ws := fs_t7 (List.mem_of_getElem? (i := 42) rfl) rfl
theorem tw_7_43 : (Cond.methodLink "FlowShelfLaw" 161 ⟨"FlowShelfModel", "total", "(IIJI)J"⟩) ∈ fs_ws := fs_t7 (List.mem_of_getElem? (i := 43) rfl) rfl
theorem tw_7_44 : (Cond.instanceMethod ⟨"FlowShelfModel", "total", "(IIJI)J"⟩) ∈ fs_ws := fs_t7 (List.mem_of_getElem? (i := 44) rfl) rfl
theorem tw_7_45 : (Cond.selects "FlowShelfModel" ⟨"FlowShelfModel", "total", "(IIJI)J"⟩ ⟨"FlowShelfModel", "total", "(IIJI)J"⟩) ∈ fs_ws := fs_t7 (List.mem_of_getElem? (i := 45) rfl) rfl
theorem tw_7_46 : (Cond.code ⟨"FlowShelfModel", "total", "(IIJI)J"⟩ prog_13_method_46_code 10 (Option.some FieldType.long)) ∈ fs_ws := fs_t7 (List.mem_of_getElem? (i := 46) rfl) rfl
theorem tw_7_47 : (Cond.methodLink "FlowShelfLaw" 164 ⟨"FlowShelfModel", "other", "(I)I"⟩) ∈ fs_ws := fs_t7 (List.mem_of_getElem? (i := 47) rfl) rfl
theorem tw_7_48 : (Cond.instanceMethod ⟨"FlowShelfModel", "other", "(I)I"⟩) ∈ fs_ws := fs_t7 (List.mem_of_getElem? (i := 48) rfl) rfl
theorem tw_7_49 : (Cond.selects "FlowShelfModel" ⟨"FlowShelfModel", "other", "(I)I"⟩ ⟨"FlowShelfModel", "other", "(I)I"⟩) ∈ fs_ws := fs_t7 (List.mem_of_getElem? (i := 49) rfl) rfl
theorem tw_7_50 : (Cond.code ⟨"FlowShelfModel", "other", "(I)I"⟩ prog_13_method_52_code 3 (Option.some FieldType.int)) ∈ fs_ws := fs_t7 (List.mem_of_getElem? (i := 50) rfl) rfl
theorem tw_7_51 : (Cond.methodLink "FlowShelfModel" 266 ⟨"FlowShelfModel", "firstLeft", "()I"⟩) ∈ fs_ws := fs_t7 (List.mem_of_getElem? (i := 51) rfl) rfl
theorem tw_7_53 : (Cond.instanceMethod ⟨"FlowShelfModel", "firstLeft", "()I"⟩) ∈ fs_ws := fs_t7 (List.mem_of_getElem? (i := 53) rfl) rfl
theorem tw_7_54 : (Cond.code ⟨"FlowShelfModel", "firstLeft", "()I"⟩ prog_13_method_50_code 4 (Option.some FieldType.int)) ∈ fs_ws := fs_t7 (List.mem_of_getElem? (i := 54) rfl) rfl
theorem tw_7_55 : (Cond.methodLink "FlowShelfModel" 256 ⟨"FlowShelfModel", "isWhole", "(I)Z"⟩) ∈ fs_ws := fs_t7 (List.mem_of_getElem? (i := 55) rfl) rfl
theorem tw_7_57 : (Cond.instanceMethod ⟨"FlowShelfModel", "isWhole", "(I)Z"⟩) ∈ fs_ws := fs_t7 (List.mem_of_getElem? (i := 57) rfl) rfl
theorem tw_7_58 : (Cond.code ⟨"FlowShelfModel", "isWhole", "(I)Z"⟩ prog_13_method_47_code 2 (Option.some FieldType.boolean)) ∈ fs_ws := fs_t7 (List.mem_of_getElem? (i := 58) rfl) rfl
theorem tw_7_59 : (Cond.methodLink "FlowShelfModel" 269 ⟨"FlowShelfModel", "pairOne", "(I)V"⟩) ∈ fs_ws := fs_t7 (List.mem_of_getElem? (i := 59) rfl) rfl
theorem tw_7_61 : (Cond.instanceMethod ⟨"FlowShelfModel", "pairOne", "(I)V"⟩) ∈ fs_ws := fs_t7 (List.mem_of_getElem? (i := 61) rfl) rfl
theorem tw_7_62 : (Cond.code ⟨"FlowShelfModel", "pairOne", "(I)V"⟩ prog_13_method_51_code 5 (Option.none : Option FieldType)) ∈ fs_ws := fs_t7 (List.mem_of_getElem? (i := 62) rfl) rfl
theorem tw_7_63 : (Cond.methodLink "FlowShelfModel" 259 ⟨"FlowShelfModel", "isBack", "(II)Z"⟩) ∈ fs_ws := fs_t7 (List.mem_of_getElem? (i := 63) rfl) rfl
theorem tw_7_65 : (Cond.instanceMethod ⟨"FlowShelfModel", "isBack", "(II)Z"⟩) ∈ fs_ws := fs_t7 (List.mem_of_getElem? (i := 65) rfl) rfl
theorem tw_7_66 : (Cond.code ⟨"FlowShelfModel", "isBack", "(II)Z"⟩ prog_13_method_48_code 3 (Option.some FieldType.boolean)) ∈ fs_ws := fs_t7 (List.mem_of_getElem? (i := 66) rfl) rfl
theorem tw_7_67 : (Cond.methodLink "FlowShelfModel" 262 ⟨"FlowShelfModel", "farness", "(II)J"⟩) ∈ fs_ws := fs_t7 (List.mem_of_getElem? (i := 67) rfl) rfl
theorem tw_7_69 : (Cond.instanceMethod ⟨"FlowShelfModel", "farness", "(II)J"⟩) ∈ fs_ws := fs_t7 (List.mem_of_getElem? (i := 69) rfl) rfl
theorem tw_7_70 : (Cond.code ⟨"FlowShelfModel", "farness", "(II)J"⟩ prog_13_method_49_code 5 (Option.some FieldType.long)) ∈ fs_ws := fs_t7 (List.mem_of_getElem? (i := 70) rfl) rfl
theorem tw_7_71 : (Cond.methodLink "FlowShelfLaw" 167 ⟨"FlowShelfModel", "count", "(II)I"⟩) ∈ fs_ws := fs_t7 (List.mem_of_getElem? (i := 71) rfl) rfl
theorem tw_7_72 : (Cond.instanceMethod ⟨"FlowShelfModel", "count", "(II)I"⟩) ∈ fs_ws := fs_t7 (List.mem_of_getElem? (i := 72) rfl) rfl
theorem tw_7_73 : (Cond.selects "FlowShelfModel" ⟨"FlowShelfModel", "count", "(II)I"⟩ ⟨"FlowShelfModel", "count", "(II)I"⟩) ∈ fs_ws := fs_t7 (List.mem_of_getElem? (i := 73) rfl) rfl
theorem tw_7_74 : (Cond.code ⟨"FlowShelfModel", "count", "(II)I"⟩ prog_13_method_54_code 5 (Option.some FieldType.int)) ∈ fs_ws := fs_t7 (List.mem_of_getElem? (i := 74) rfl) rfl
theorem tw_7_75 : (Cond.methodLink "FlowShelfModel" 272 ⟨"FlowShelfModel", "lostOf", "(I)I"⟩) ∈ fs_ws := fs_t7 (List.mem_of_getElem? (i := 75) rfl) rfl
theorem tw_7_77 : (Cond.instanceMethod ⟨"FlowShelfModel", "lostOf", "(I)I"⟩) ∈ fs_ws := fs_t7 (List.mem_of_getElem? (i := 77) rfl) rfl
theorem tw_7_78 : (Cond.code ⟨"FlowShelfModel", "lostOf", "(I)I"⟩ prog_13_method_53_code 8 (Option.some FieldType.int)) ∈ fs_ws := fs_t7 (List.mem_of_getElem? (i := 78) rfl) rfl
theorem tw_7_79 : (Cond.constantLong "FlowShelfLaw" 156 (4294967295 : Int64)) ∈ fs_ws := fs_t7 (List.mem_of_getElem? (i := 79) rfl) rfl
theorem tw_7_85 : (Cond.selects "[Ljava/lang/Object;" ⟨"java/lang/Object", "getClass", "()Ljava/lang/Class;"⟩ ⟨"java/lang/Object", "getClass", "()Ljava/lang/Class;"⟩) ∈ fs_ws := fs_t7 (List.mem_of_getElem? (i := 85) rfl) rfl
theorem fs_p {k : List (MethodName × Nat)} (hk : ∀ q ∈ k, q ∈ lw_privs) {q : MethodName × Nat} (h : q ∈ k) : Cond.selects q.1.cls q.1 q.1 ∈ fs_ws := List.mem_filter.mpr ⟨List.mem_append_left _ (List.mem_map.mpr ⟨q, hk q h, rfl⟩), rfl⟩
theorem fs_p1 : ∀ q ∈ lw_privs_1, q ∈ lw_privs := fun q h => List.mem_append_left _ h
theorem fs_p2 : ∀ q ∈ lw_privs_2, q ∈ lw_privs := fun q h => List.mem_append_right _ (List.mem_append_left _ h)
theorem fs_p3 : ∀ q ∈ lw_privs_3, q ∈ lw_privs := fun q h => List.mem_append_right _ (List.mem_append_right _ h)
theorem tp_1_0 : Cond.selects "FlowShelf" ⟨"FlowShelf", "isReport", "(I)Z"⟩ ⟨"FlowShelf", "isReport", "(I)Z"⟩ ∈ fs_ws := fs_p fs_p1 (q := (⟨"FlowShelf", "isReport", "(I)Z"⟩, 4)) (List.mem_of_getElem? (i := 0) rfl)
theorem tp_1_1 : Cond.selects "FlowShelf" ⟨"FlowShelf", "exporterOf", "(I)LFlowShelf$Exporter;"⟩ ⟨"FlowShelf", "exporterOf", "(I)LFlowShelf$Exporter;"⟩ ∈ fs_ws := fs_p fs_p1 (q := (⟨"FlowShelf", "exporterOf", "(I)LFlowShelf$Exporter;"⟩, 4)) (List.mem_of_getElem? (i := 1) rfl)
theorem tp_1_2 : Cond.selects "java/lang/Throwable" ⟨"java/lang/Throwable", "fillInStackTrace", "(I)Ljava/lang/Throwable;"⟩ ⟨"java/lang/Throwable", "fillInStackTrace", "(I)Ljava/lang/Throwable;"⟩ ∈ fs_ws := fs_p fs_p1 (q := (⟨"java/lang/Throwable", "fillInStackTrace", "(I)Ljava/lang/Throwable;"⟩, 6)) (List.mem_of_getElem? (i := 2) rfl)
theorem tp_1_3 : Cond.selects "java/util/ArrayList" ⟨"java/util/ArrayList", "fastRemove", "([Ljava/lang/Object;I)V"⟩ ⟨"java/util/ArrayList", "fastRemove", "([Ljava/lang/Object;I)V"⟩ ∈ fs_ws := fs_p fs_p1 (q := (⟨"java/util/ArrayList", "fastRemove", "([Ljava/lang/Object;I)V"⟩, 3)) (List.mem_of_getElem? (i := 3) rfl)
theorem tp_1_4 : Cond.selects "java/util/ArrayList" ⟨"java/util/ArrayList", "add", "(Ljava/lang/Object;[Ljava/lang/Object;I)V"⟩ ⟨"java/util/ArrayList", "add", "(Ljava/lang/Object;[Ljava/lang/Object;I)V"⟩ ∈ fs_ws := fs_p fs_p1 (q := (⟨"java/util/ArrayList", "add", "(Ljava/lang/Object;[Ljava/lang/Object;I)V"⟩, 3)) (List.mem_of_getElem? (i := 4) rfl)
theorem tp_1_5 : Cond.selects "java/util/ArrayList" ⟨"java/util/ArrayList", "grow", "()[Ljava/lang/Object;"⟩ ⟨"java/util/ArrayList", "grow", "()[Ljava/lang/Object;"⟩ ∈ fs_ws := fs_p fs_p1 (q := (⟨"java/util/ArrayList", "grow", "()[Ljava/lang/Object;"⟩, 3)) (List.mem_of_getElem? (i := 5) rfl)
theorem tp_1_6 : Cond.selects "java/util/ArrayList" ⟨"java/util/ArrayList", "grow", "(I)[Ljava/lang/Object;"⟩ ⟨"java/util/ArrayList", "grow", "(I)[Ljava/lang/Object;"⟩ ∈ fs_ws := fs_p fs_p1 (q := (⟨"java/util/ArrayList", "grow", "(I)[Ljava/lang/Object;"⟩, 3)) (List.mem_of_getElem? (i := 6) rfl)
theorem tp_1_7 : Cond.selects "FlowShelf" ⟨"FlowShelf", "slotOf", "(II)LFlowShelf$Slot;"⟩ ⟨"FlowShelf", "slotOf", "(II)LFlowShelf$Slot;"⟩ ∈ fs_ws := fs_p fs_p1 (q := (⟨"FlowShelf", "slotOf", "(II)LFlowShelf$Slot;"⟩, 4)) (List.mem_of_getElem? (i := 7) rfl)
theorem tp_1_8 : Cond.selects "FlowShelf" ⟨"FlowShelf", "hasNoRoomForReport", "()Z"⟩ ⟨"FlowShelf", "hasNoRoomForReport", "()Z"⟩ ∈ fs_ws := fs_p fs_p1 (q := (⟨"FlowShelf", "hasNoRoomForReport", "()Z"⟩, 4)) (List.mem_of_getElem? (i := 8) rfl)
theorem tp_1_9 : Cond.selects "FlowShelf" ⟨"FlowShelf", "keep", "(LFlowShelf$Report;)I"⟩ ⟨"FlowShelf", "keep", "(LFlowShelf$Report;)I"⟩ ∈ fs_ws := fs_p fs_p1 (q := (⟨"FlowShelf", "keep", "(LFlowShelf$Report;)I"⟩, 4)) (List.mem_of_getElem? (i := 9) rfl)
theorem tp_1_10 : Cond.selects "FlowShelf" ⟨"FlowShelf", "reportWithByte", "(II)LFlowShelf$Report;"⟩ ⟨"FlowShelf", "reportWithByte", "(II)LFlowShelf$Report;"⟩ ∈ fs_ws := fs_p fs_p1 (q := (⟨"FlowShelf", "reportWithByte", "(II)LFlowShelf$Report;"⟩, 4)) (List.mem_of_getElem? (i := 10) rfl)
theorem tp_1_11 : Cond.selects "FlowShelf" ⟨"FlowShelf", "reportOf", "(I)LFlowShelf$Report;"⟩ ⟨"FlowShelf", "reportOf", "(I)LFlowShelf$Report;"⟩ ∈ fs_ws := fs_p fs_p1 (q := (⟨"FlowShelf", "reportOf", "(I)LFlowShelf$Report;"⟩, 4)) (List.mem_of_getElem? (i := 11) rfl)
theorem tp_1_12 : Cond.selects "FlowShelf" ⟨"FlowShelf", "requireRow", "(I)V"⟩ ⟨"FlowShelf", "requireRow", "(I)V"⟩ ∈ fs_ws := fs_p fs_p1 (q := (⟨"FlowShelf", "requireRow", "(I)V"⟩, 4)) (List.mem_of_getElem? (i := 12) rfl)
theorem tp_1_13 : Cond.selects "FlowShelfModel" ⟨"FlowShelfModel", "noExporter", "(I)Z"⟩ ⟨"FlowShelfModel", "noExporter", "(I)Z"⟩ ∈ fs_ws := fs_p fs_p1 (q := (⟨"FlowShelfModel", "noExporter", "(I)Z"⟩, 50)) (List.mem_of_getElem? (i := 13) rfl)
theorem tp_1_14 : Cond.selects "FlowShelfModel" ⟨"FlowShelfModel", "noByte", "(I)Z"⟩ ⟨"FlowShelfModel", "noByte", "(I)Z"⟩ ∈ fs_ws := fs_p fs_p1 (q := (⟨"FlowShelfModel", "noByte", "(I)Z"⟩, 50)) (List.mem_of_getElem? (i := 14) rfl)
theorem tp_1_15 : Cond.selects "FlowShelfModel" ⟨"FlowShelfModel", "flowOf", "(II)I"⟩ ⟨"FlowShelfModel", "flowOf", "(II)I"⟩ ∈ fs_ws := fs_p fs_p1 (q := (⟨"FlowShelfModel", "flowOf", "(II)I"⟩, 50)) (List.mem_of_getElem? (i := 15) rfl)
theorem tp_2_0 : Cond.selects "FlowShelfModel" ⟨"FlowShelfModel", "end", "(III)V"⟩ ⟨"FlowShelfModel", "end", "(III)V"⟩ ∈ fs_ws := fs_p fs_p2 (q := (⟨"FlowShelfModel", "end", "(III)V"⟩, 50)) (List.mem_of_getElem? (i := 0) rfl)
theorem tp_2_1 : Cond.selects "FlowShelfModel" ⟨"FlowShelfModel", "noTemplate", "(II)Z"⟩ ⟨"FlowShelfModel", "noTemplate", "(II)Z"⟩ ∈ fs_ws := fs_p fs_p2 (q := (⟨"FlowShelfModel", "noTemplate", "(II)Z"⟩, 50)) (List.mem_of_getElem? (i := 1) rfl)
theorem tp_2_2 : Cond.selects "FlowShelfModel" ⟨"FlowShelfModel", "leastOf", "(I)I"⟩ ⟨"FlowShelfModel", "leastOf", "(I)I"⟩ ∈ fs_ws := fs_p fs_p2 (q := (⟨"FlowShelfModel", "leastOf", "(I)I"⟩, 50)) (List.mem_of_getElem? (i := 2) rfl)
theorem tp_2_3 : Cond.selects "FlowShelfModel" ⟨"FlowShelfModel", "head", "(II)V"⟩ ⟨"FlowShelfModel", "head", "(II)V"⟩ ∈ fs_ws := fs_p fs_p2 (q := (⟨"FlowShelfModel", "head", "(II)V"⟩, 50)) (List.mem_of_getElem? (i := 3) rfl)
theorem tp_2_4 : Cond.selects "FlowShelfModel" ⟨"FlowShelfModel", "write", "(I)V"⟩ ⟨"FlowShelfModel", "write", "(I)V"⟩ ∈ fs_ws := fs_p fs_p2 (q := (⟨"FlowShelfModel", "write", "(I)V"⟩, 50)) (List.mem_of_getElem? (i := 4) rfl)
theorem tp_2_5 : Cond.selects "FlowShelfModel" ⟨"FlowShelfModel", "last", "(I)I"⟩ ⟨"FlowShelfModel", "last", "(I)I"⟩ ∈ fs_ws := fs_p fs_p2 (q := (⟨"FlowShelfModel", "last", "(I)I"⟩, 50)) (List.mem_of_getElem? (i := 5) rfl)
theorem tp_2_6 : Cond.selects "FlowShelfModel" ⟨"FlowShelfModel", "recordOf", "(III)I"⟩ ⟨"FlowShelfModel", "recordOf", "(III)I"⟩ ∈ fs_ws := fs_p fs_p2 (q := (⟨"FlowShelfModel", "recordOf", "(III)I"⟩, 50)) (List.mem_of_getElem? (i := 6) rfl)
theorem tp_2_7 : Cond.selects "FlowShelfModel" ⟨"FlowShelfModel", "widthOf", "(I)I"⟩ ⟨"FlowShelfModel", "widthOf", "(I)I"⟩ ∈ fs_ws := fs_p fs_p2 (q := (⟨"FlowShelfModel", "widthOf", "(I)I"⟩, 50)) (List.mem_of_getElem? (i := 7) rfl)
theorem tp_2_8 : Cond.selects "FlowShelfModel" ⟨"FlowShelfModel", "writeRecord", "(III)V"⟩ ⟨"FlowShelfModel", "writeRecord", "(III)V"⟩ ∈ fs_ws := fs_p fs_p2 (q := (⟨"FlowShelfModel", "writeRecord", "(III)V"⟩, 50)) (List.mem_of_getElem? (i := 8) rfl)
theorem tp_2_9 : Cond.selects "FlowShelfModel" ⟨"FlowShelfModel", "noReport", "(I)Z"⟩ ⟨"FlowShelfModel", "noReport", "(I)Z"⟩ ∈ fs_ws := fs_p fs_p2 (q := (⟨"FlowShelfModel", "noReport", "(I)Z"⟩, 50)) (List.mem_of_getElem? (i := 9) rfl)
theorem tp_2_10 : Cond.selects "FlowShelfModel" ⟨"FlowShelfModel", "isBad", "()Z"⟩ ⟨"FlowShelfModel", "isBad", "()Z"⟩ ∈ fs_ws := fs_p fs_p2 (q := (⟨"FlowShelfModel", "isBad", "()Z"⟩, 50)) (List.mem_of_getElem? (i := 10) rfl)
theorem tp_2_11 : Cond.selects "FlowShelfModel" ⟨"FlowShelfModel", "badFields", "()Z"⟩ ⟨"FlowShelfModel", "badFields", "()Z"⟩ ∈ fs_ws := fs_p fs_p2 (q := (⟨"FlowShelfModel", "badFields", "()Z"⟩, 50)) (List.mem_of_getElem? (i := 11) rfl)
theorem tp_2_12 : Cond.selects "FlowShelfModel" ⟨"FlowShelfModel", "hearTemplate", "()I"⟩ ⟨"FlowShelfModel", "hearTemplate", "()I"⟩ ∈ fs_ws := fs_p fs_p2 (q := (⟨"FlowShelfModel", "hearTemplate", "()I"⟩, 50)) (List.mem_of_getElem? (i := 12) rfl)
theorem tp_2_13 : Cond.selects "FlowShelfModel" ⟨"FlowShelfModel", "nameOf", "()I"⟩ ⟨"FlowShelfModel", "nameOf", "()I"⟩ ∈ fs_ws := fs_p fs_p2 (q := (⟨"FlowShelfModel", "nameOf", "()I"⟩, 50)) (List.mem_of_getElem? (i := 13) rfl)
theorem tp_2_14 : Cond.selects "FlowShelfModel" ⟨"FlowShelfModel", "find", "(I)I"⟩ ⟨"FlowShelfModel", "find", "(I)I"⟩ ∈ fs_ws := fs_p fs_p2 (q := (⟨"FlowShelfModel", "find", "(I)I"⟩, 50)) (List.mem_of_getElem? (i := 14) rfl)
theorem tp_2_15 : Cond.selects "FlowShelfModel" ⟨"FlowShelfModel", "waiting", "(I)I"⟩ ⟨"FlowShelfModel", "waiting", "(I)I"⟩ ∈ fs_ws := fs_p fs_p2 (q := (⟨"FlowShelfModel", "waiting", "(I)I"⟩, 50)) (List.mem_of_getElem? (i := 15) rfl)
theorem tp_3_0 : Cond.selects "FlowShelfModel" ⟨"FlowShelfModel", "fetch", "(I)V"⟩ ⟨"FlowShelfModel", "fetch", "(I)V"⟩ ∈ fs_ws := fs_p fs_p3 (q := (⟨"FlowShelfModel", "fetch", "(I)V"⟩, 50)) (List.mem_of_getElem? (i := 0) rfl)
theorem tp_3_1 : Cond.selects "FlowShelfModel" ⟨"FlowShelfModel", "makeRows", "(I)I"⟩ ⟨"FlowShelfModel", "makeRows", "(I)I"⟩ ∈ fs_ws := fs_p fs_p3 (q := (⟨"FlowShelfModel", "makeRows", "(I)I"⟩, 50)) (List.mem_of_getElem? (i := 1) rfl)
theorem tp_3_2 : Cond.selects "FlowShelfModel" ⟨"FlowShelfModel", "read", "(IZ)Z"⟩ ⟨"FlowShelfModel", "read", "(IZ)Z"⟩ ∈ fs_ws := fs_p fs_p3 (q := (⟨"FlowShelfModel", "read", "(IZ)Z"⟩, 50)) (List.mem_of_getElem? (i := 2) rfl)
theorem tp_3_3 : Cond.selects "FlowShelfModel" ⟨"FlowShelfModel", "take", "(I)J"⟩ ⟨"FlowShelfModel", "take", "(I)J"⟩ ∈ fs_ws := fs_p fs_p3 (q := (⟨"FlowShelfModel", "take", "(I)J"⟩, 50)) (List.mem_of_getElem? (i := 3) rfl)
theorem tp_3_4 : Cond.selects "FlowShelfModel" ⟨"FlowShelfModel", "unshelve", "(I)V"⟩ ⟨"FlowShelfModel", "unshelve", "(I)V"⟩ ∈ fs_ws := fs_p fs_p3 (q := (⟨"FlowShelfModel", "unshelve", "(I)V"⟩, 50)) (List.mem_of_getElem? (i := 4) rfl)
theorem tp_3_5 : Cond.selects "FlowShelfModel" ⟨"FlowShelfModel", "hearRecords", "()I"⟩ ⟨"FlowShelfModel", "hearRecords", "()I"⟩ ∈ fs_ws := fs_p fs_p3 (q := (⟨"FlowShelfModel", "hearRecords", "()I"⟩, 50)) (List.mem_of_getElem? (i := 5) rfl)
theorem tp_3_6 : Cond.selects "FlowShelfModel" ⟨"FlowShelfModel", "firstLeft", "()I"⟩ ⟨"FlowShelfModel", "firstLeft", "()I"⟩ ∈ fs_ws := fs_p fs_p3 (q := (⟨"FlowShelfModel", "firstLeft", "()I"⟩, 50)) (List.mem_of_getElem? (i := 6) rfl)
theorem tp_3_7 : Cond.selects "FlowShelfModel" ⟨"FlowShelfModel", "isWhole", "(I)Z"⟩ ⟨"FlowShelfModel", "isWhole", "(I)Z"⟩ ∈ fs_ws := fs_p fs_p3 (q := (⟨"FlowShelfModel", "isWhole", "(I)Z"⟩, 50)) (List.mem_of_getElem? (i := 7) rfl)
theorem tp_3_8 : Cond.selects "FlowShelfModel" ⟨"FlowShelfModel", "pairOne", "(I)V"⟩ ⟨"FlowShelfModel", "pairOne", "(I)V"⟩ ∈ fs_ws := fs_p fs_p3 (q := (⟨"FlowShelfModel", "pairOne", "(I)V"⟩, 50)) (List.mem_of_getElem? (i := 8) rfl)
theorem tp_3_9 : Cond.selects "FlowShelfModel" ⟨"FlowShelfModel", "isBack", "(II)Z"⟩ ⟨"FlowShelfModel", "isBack", "(II)Z"⟩ ∈ fs_ws := fs_p fs_p3 (q := (⟨"FlowShelfModel", "isBack", "(II)Z"⟩, 50)) (List.mem_of_getElem? (i := 9) rfl)
theorem tp_3_10 : Cond.selects "FlowShelfModel" ⟨"FlowShelfModel", "farness", "(II)J"⟩ ⟨"FlowShelfModel", "farness", "(II)J"⟩ ∈ fs_ws := fs_p fs_p3 (q := (⟨"FlowShelfModel", "farness", "(II)J"⟩, 50)) (List.mem_of_getElem? (i := 10) rfl)
theorem tp_3_11 : Cond.selects "FlowShelfModel" ⟨"FlowShelfModel", "lostOf", "(I)I"⟩ ⟨"FlowShelfModel", "lostOf", "(I)I"⟩ ∈ fs_ws := fs_p fs_p3 (q := (⟨"FlowShelfModel", "lostOf", "(I)I"⟩, 50)) (List.mem_of_getElem? (i := 11) rfl)
theorem tb_1_56 : (Cond.laysStatic "java/util/ArrayList" "DEFAULTCAPACITY_EMPTY_ELEMENTDATA" "[Ljava/lang/Object;") ∈ lw_tbl := fs_b1 (List.mem_of_getElem? (i := 56) rfl)
theorem tb_1_68 : (Cond.superclass "java/util/ArrayList" "java/util/AbstractList") ∈ lw_tbl := fs_b1 (List.mem_of_getElem? (i := 68) rfl)
theorem tb_1_70 : (Cond.arrayOver (FieldType.object "FlowShelf$Slot")) ∈ lw_tbl := fs_b1 (List.mem_of_getElem? (i := 70) rfl)
theorem tb_1_78 : (Cond.methodLinkNest "FlowShelf$Slot" 9 ⟨"FlowShelf$Layout", "<init>", "()V"⟩ "FlowShelf") ∈ lw_tbl := fs_b1 (List.mem_of_getElem? (i := 78) rfl)
theorem tb_1_96 : (Cond.superclass "FlowShelf$Layout" "java/lang/Object") ∈ lw_tbl := fs_b1 (List.mem_of_getElem? (i := 96) rfl)
theorem tb_1_124 : (Cond.superclass "FlowShelf$Slot" "java/lang/Object") ∈ lw_tbl := fs_b1 (List.mem_of_getElem? (i := 124) rfl)
theorem tb_1_164 : (Cond.superclass "FlowShelf$Exporter" "java/lang/Object") ∈ lw_tbl := fs_b1 (List.mem_of_getElem? (i := 164) rfl)
theorem tb_1_169 : (Cond.methodLinkNest "FlowShelf" 30 ⟨"FlowShelf$Collector", "<init>", "()V"⟩ "FlowShelf") ∈ lw_tbl := fs_b1 (List.mem_of_getElem? (i := 169) rfl)
theorem tb_1_177 : (Cond.methodLinkNest "FlowShelf$Collector" 23 ⟨"FlowShelf$Table", "<init>", "()V"⟩ "FlowShelf") ∈ lw_tbl := fs_b1 (List.mem_of_getElem? (i := 177) rfl)
theorem tb_1_200 : (Cond.superclass "FlowShelf$Table" "java/lang/Object") ∈ lw_tbl := fs_b1 (List.mem_of_getElem? (i := 200) rfl)
theorem tb_1_203 : (Cond.methodLinkNest "FlowShelf$Collector" 30 ⟨"FlowShelf$Ledger", "<init>", "()V"⟩ "FlowShelf") ∈ lw_tbl := fs_b1 (List.mem_of_getElem? (i := 203) rfl)
theorem tb_1_228 : (Cond.superclass "FlowShelf$Ledger" "java/lang/Object") ∈ lw_tbl := fs_b1 (List.mem_of_getElem? (i := 228) rfl)
theorem tb_2_6 : (Cond.superclass "FlowShelf$Collector" "java/lang/Object") ∈ lw_tbl := fs_b2 (List.mem_of_getElem? (i := 6) rfl)
theorem tb_2_19 : (Cond.superclass "FlowShelf" "java/lang/Object") ∈ lw_tbl := fs_b2 (List.mem_of_getElem? (i := 19) rfl)
theorem tb_2_69 : (Cond.castable "java/lang/IllegalArgumentException" "java/lang/IllegalArgumentException") ∈ lw_tbl := fs_b2 (List.mem_of_getElem? (i := 69) rfl)
theorem tb_2_70 : (Cond.declares ⟨"java/lang/RuntimeException", "<init>", "()V"⟩) ∈ lw_tbl := fs_b2 (List.mem_of_getElem? (i := 70) rfl)
theorem tb_2_71 : (Cond.declares ⟨"java/lang/RuntimeException", "<init>", "(Ljava/lang/String;)V"⟩) ∈ lw_tbl := fs_b2 (List.mem_of_getElem? (i := 71) rfl)
theorem tb_2_72 : (Cond.declares ⟨"java/lang/Exception", "<init>", "()V"⟩) ∈ lw_tbl := fs_b2 (List.mem_of_getElem? (i := 72) rfl)
theorem tb_2_73 : (Cond.declares ⟨"java/lang/Exception", "<init>", "(Ljava/lang/String;)V"⟩) ∈ lw_tbl := fs_b2 (List.mem_of_getElem? (i := 73) rfl)
theorem tb_2_74 : (Cond.declares ⟨"java/lang/Throwable", "<init>", "()V"⟩) ∈ lw_tbl := fs_b2 (List.mem_of_getElem? (i := 74) rfl)
theorem tb_2_75 : (Cond.declares ⟨"java/lang/Throwable", "<init>", "(Ljava/lang/String;)V"⟩) ∈ lw_tbl := fs_b2 (List.mem_of_getElem? (i := 75) rfl)
theorem tb_2_89 : (Cond.superclass "java/lang/Throwable" "java/lang/Object") ∈ lw_tbl := fs_b2 (List.mem_of_getElem? (i := 89) rfl)
theorem tb_2_94 : (Cond.laysStatic "java/lang/Throwable" "UNASSIGNED_STACK" "[Ljava/lang/StackTraceElement;") ∈ lw_tbl := fs_b2 (List.mem_of_getElem? (i := 94) rfl)
theorem tb_2_96 : (Cond.laysStatic "java/lang/Throwable" "SUPPRESSED_SENTINEL" "Ljava/util/List;") ∈ lw_tbl := fs_b2 (List.mem_of_getElem? (i := 96) rfl)
theorem tb_2_99 : (Cond.sameMethod "java/lang/Throwable" "java/lang/Throwable" "fillInStackTrace" "()Ljava/lang/Throwable;") ∈ lw_tbl := fs_b2 (List.mem_of_getElem? (i := 99) rfl)
theorem tb_2_103 : (Cond.codeSync ⟨"java/lang/Throwable", "fillInStackTrace", "()Ljava/lang/Throwable;"⟩ prog_25_method_18_code 1 (Option.some (FieldType.object "java/lang/Throwable"))) ∈ lw_tbl := fs_b2 (List.mem_of_getElem? (i := 103) rfl)
theorem tb_2_109 : (Cond.stringRef "FlowShelf" 272 "no such exporter") ∈ lw_tbl := fs_b2 (List.mem_of_getElem? (i := 109) rfl)
theorem tb_2_134 : (Cond.superclass "java/lang/IllegalArgumentException" "java/lang/RuntimeException") ∈ lw_tbl := fs_b2 (List.mem_of_getElem? (i := 134) rfl)
theorem tb_2_139 : (Cond.stringRef "FlowShelf" 45 "a part of the key is not 0 .. 255") ∈ lw_tbl := fs_b2 (List.mem_of_getElem? (i := 139) rfl)
theorem tb_2_140 : (Cond.stringRef "FlowShelf" 50 "bytes is not 0 .. 9999") ∈ lw_tbl := fs_b2 (List.mem_of_getElem? (i := 140) rfl)
theorem tb_2_148 : (Cond.castable "java/lang/IllegalStateException" "java/lang/IllegalStateException") ∈ lw_tbl := fs_b2 (List.mem_of_getElem? (i := 148) rfl)
theorem tb_2_155 : (Cond.stringRef "FlowShelf" 58 "20 flows are in the cache or ended") ∈ lw_tbl := fs_b2 (List.mem_of_getElem? (i := 155) rfl)
theorem tb_2_161 : (Cond.superclass "java/lang/IllegalStateException" "java/lang/RuntimeException") ∈ lw_tbl := fs_b2 (List.mem_of_getElem? (i := 161) rfl)
theorem tb_2_230 : (Cond.sameMethod "java/lang/Object" "java/lang/Object" "getClass" "()Ljava/lang/Class;") ∈ lw_tbl := fs_b2 (List.mem_of_getElem? (i := 230) rfl)
theorem tb_3_13 : (Cond.arrayOver (FieldType.object "java/lang/Object")) ∈ lw_tbl := fs_b3 (List.mem_of_getElem? (i := 13) rfl)
theorem tb_3_56 : (Cond.superclass "FlowShelf$Flow" "java/lang/Object") ∈ lw_tbl := fs_b3 (List.mem_of_getElem? (i := 56) rfl)
theorem tb_3_68 : (Cond.stringRef "FlowShelf" 69 "n is not 1 .. 100") ∈ lw_tbl := fs_b3 (List.mem_of_getElem? (i := 68) rfl)
theorem tb_3_95 : (Cond.stringRef "FlowShelf" 77 "n is not 1 .. 9") ∈ lw_tbl := fs_b3 (List.mem_of_getElem? (i := 95) rfl)
theorem tb_3_111 : (Cond.stringRef "FlowShelf" 304 "no such field") ∈ lw_tbl := fs_b3 (List.mem_of_getElem? (i := 111) rfl)
theorem tb_3_114 : (Cond.castable "java/lang/IndexOutOfBoundsException" "java/lang/IndexOutOfBoundsException") ∈ lw_tbl := fs_b3 (List.mem_of_getElem? (i := 114) rfl)
theorem tb_3_121 : (Cond.stringRef "FlowShelf" 93 "no such ended flow") ∈ lw_tbl := fs_b3 (List.mem_of_getElem? (i := 121) rfl)
theorem tb_3_127 : (Cond.superclass "java/lang/IndexOutOfBoundsException" "java/lang/RuntimeException") ∈ lw_tbl := fs_b3 (List.mem_of_getElem? (i := 127) rfl)
theorem tb_3_144 : (Cond.stringRef "FlowShelf" 308 "no such template number") ∈ lw_tbl := fs_b3 (List.mem_of_getElem? (i := 144) rfl)
theorem tb_3_145 : (Cond.stringRef "FlowShelf" 110 "length is not 0 .. 4") ∈ lw_tbl := fs_b3 (List.mem_of_getElem? (i := 145) rfl)
theorem tb_3_147 : (Cond.laysStatic "FlowShelf" "LEAST_LENGTH" "[I") ∈ lw_tbl := fs_b3 (List.mem_of_getElem? (i := 147) rfl)
theorem tb_3_148 : (Cond.stringRef "FlowShelf" 116 "length is less than the field's least") ∈ lw_tbl := fs_b3 (List.mem_of_getElem? (i := 148) rfl)
theorem tb_3_153 : (Cond.stringRef "FlowShelf" 129 "the draft has that field") ∈ lw_tbl := fs_b3 (List.mem_of_getElem? (i := 153) rfl)
theorem tb_3_165 : (Cond.stringRef "FlowShelf" 143 "the draft is empty, or a template is in force") ∈ lw_tbl := fs_b3 (List.mem_of_getElem? (i := 165) rfl)
theorem tb_3_181 : (Cond.stringRef "FlowShelf" 154 "no template is in force") ∈ lw_tbl := fs_b3 (List.mem_of_getElem? (i := 181) rfl)
theorem tb_3_189 : (Cond.stringRef "FlowShelf" 159 "the epoch is 5") ∈ lw_tbl := fs_b3 (List.mem_of_getElem? (i := 189) rfl)
theorem tb_3_214 : (Cond.stringRef "FlowShelf" 167 "no template is in force, or there are 30 reports") ∈ lw_tbl := fs_b3 (List.mem_of_getElem? (i := 214) rfl)
theorem tb_3_235 : (Cond.superclass "FlowShelf$Report" "java/lang/Object") ∈ lw_tbl := fs_b3 (List.mem_of_getElem? (i := 235) rfl)
theorem tb_4_20 : (Cond.stringRef "FlowShelf" 186 "no flow is ended, or no place is left") ∈ lw_tbl := fs_b4 (List.mem_of_getElem? (i := 20) rfl)
theorem tb_4_56 : (Cond.stringRef "FlowShelf" 195 "there are 30 reports") ∈ lw_tbl := fs_b4 (List.mem_of_getElem? (i := 56) rfl)
theorem tb_4_76 : (Cond.stringRef "FlowShelf" 310 "no such report") ∈ lw_tbl := fs_b4 (List.mem_of_getElem? (i := 76) rfl)
theorem tb_4_77 : (Cond.stringRef "FlowShelf" 312 "no such byte") ∈ lw_tbl := fs_b4 (List.mem_of_getElem? (i := 77) rfl)
theorem tb_4_85 : (Cond.stringRef "FlowShelf" 214 "v is not 0 .. 255") ∈ lw_tbl := fs_b4 (List.mem_of_getElem? (i := 85) rfl)
theorem tb_4_102 : (Cond.methodLinkNest "FlowShelf$Report" 33 ⟨"FlowShelf", "isExporter", "(I)Z"⟩ "FlowShelf") ∈ lw_tbl := fs_b4 (List.mem_of_getElem? (i := 102) rfl)
theorem tb_4_147 : (Cond.stringRef "FlowShelf" 223 "the report is bad") ∈ lw_tbl := fs_b4 (List.mem_of_getElem? (i := 147) rfl)
theorem tb_4_166 : (Cond.castable "java/lang/UnsupportedOperationException" "java/lang/UnsupportedOperationException") ∈ lw_tbl := fs_b4 (List.mem_of_getElem? (i := 166) rfl)
theorem tb_4_173 : (Cond.stringRef "FlowShelf$Collector" 61 "20 templates are known") ∈ lw_tbl := fs_b4 (List.mem_of_getElem? (i := 173) rfl)
theorem tb_4_179 : (Cond.superclass "java/lang/UnsupportedOperationException" "java/lang/RuntimeException") ∈ lw_tbl := fs_b4 (List.mem_of_getElem? (i := 179) rfl)
theorem tb_4_194 : (Cond.stringRef "FlowShelf$Collector" 135 "there would be more than 80 rows") ∈ lw_tbl := fs_b4 (List.mem_of_getElem? (i := 194) rfl)
theorem tb_4_202 : (Cond.sameMethod "[I" "java/lang/Object" "clone" "()Ljava/lang/Object;") ∈ lw_tbl := fs_b4 (List.mem_of_getElem? (i := 202) rfl)
theorem tb_4_206 : (Cond.castable "[I" "java/lang/Cloneable") ∈ lw_tbl := fs_b4 (List.mem_of_getElem? (i := 206) rfl)
theorem tb_4_238 : (Cond.superclass "FlowShelf$Cursor" "java/lang/Object") ∈ lw_tbl := fs_b4 (List.mem_of_getElem? (i := 238) rfl)
theorem tb_5_39 : (Cond.superclass "FlowShelf$Row" "java/lang/Object") ∈ lw_tbl := fs_b5 (List.mem_of_getElem? (i := 39) rfl)
theorem tb_5_72 : (Cond.stringRef "FlowShelf$Collector" 125 "the records can't be read by their template") ∈ lw_tbl := fs_b5 (List.mem_of_getElem? (i := 72) rfl)
theorem tb_5_100 : (Cond.stringRef "FlowShelf" 306 "no such row") ∈ lw_tbl := fs_b5 (List.mem_of_getElem? (i := 100) rfl)
theorem tb_5_101 : (Cond.stringRef "FlowShelf" 259 "f is not 0 .. 8") ∈ lw_tbl := fs_b5 (List.mem_of_getElem? (i := 101) rfl)
theorem tb_5_185 : (Cond.stringRef "FlowShelf" 302 "no such number") ∈ lw_tbl := fs_b5 (List.mem_of_getElem? (i := 185) rfl)
theorem tb_6_102 : (Cond.superclass "FlowShelfModel" "java/lang/Object") ∈ lw_tbl := fs_b6 (List.mem_of_getElem? (i := 102) rfl)
theorem tb_7_80 : (Cond.sameMethod "java/lang/Throwable" "java/lang/Throwable" "fillInStackTrace" "(I)Ljava/lang/Throwable;") ∈ lw_tbl := fs_b7 (List.mem_of_getElem? (i := 80) rfl)
theorem tb_7_81 : (Cond.castable "FlowShelf$Report" "FlowShelf$Report") ∈ lw_tbl := fs_b7 (List.mem_of_getElem? (i := 81) rfl)
theorem tb_7_82 : (Cond.castable "FlowShelf$Flow" "FlowShelf$Flow") ∈ lw_tbl := fs_b7 (List.mem_of_getElem? (i := 82) rfl)
theorem tb_7_83 : (Cond.castable "FlowShelf$Row" "FlowShelf$Row") ∈ lw_tbl := fs_b7 (List.mem_of_getElem? (i := 83) rfl)
theorem tb_7_84 : (Cond.sameMethod "[Ljava/lang/Object;" "java/lang/Object" "getClass" "()Ljava/lang/Class;") ∈ lw_tbl := fs_b7 (List.mem_of_getElem? (i := 84) rfl)
theorem tb_7_86 : (Cond.declares ⟨"java/lang/Object", "getClass", "()Ljava/lang/Class;"⟩) ∈ lw_tbl := fs_b7 (List.mem_of_getElem? (i := 86) rfl)
theorem tb_7_87 : (Cond.castable "FlowShelf" "java/lang/Object") ∈ lw_tbl := fs_b7 (List.mem_of_getElem? (i := 87) rfl)
theorem tb_7_88 : (Cond.castable "FlowShelf$Exporter" "java/lang/Object") ∈ lw_tbl := fs_b7 (List.mem_of_getElem? (i := 88) rfl)
theorem tb_7_89 : (Cond.castable "FlowShelf$Slot" "java/lang/Object") ∈ lw_tbl := fs_b7 (List.mem_of_getElem? (i := 89) rfl)
theorem tb_7_90 : (Cond.castable "FlowShelf$Layout" "java/lang/Object") ∈ lw_tbl := fs_b7 (List.mem_of_getElem? (i := 90) rfl)
theorem tb_7_91 : (Cond.castable "FlowShelf$Collector" "java/lang/Object") ∈ lw_tbl := fs_b7 (List.mem_of_getElem? (i := 91) rfl)
theorem tb_7_92 : (Cond.castable "FlowShelf$Table" "java/lang/Object") ∈ lw_tbl := fs_b7 (List.mem_of_getElem? (i := 92) rfl)
theorem tb_7_93 : (Cond.castable "FlowShelf$Ledger" "java/lang/Object") ∈ lw_tbl := fs_b7 (List.mem_of_getElem? (i := 93) rfl)
theorem tb_7_94 : (Cond.castable "FlowShelfModel" "java/lang/Object") ∈ lw_tbl := fs_b7 (List.mem_of_getElem? (i := 94) rfl)
theorem tb_7_95 : (Cond.castable "FlowShelf$Flow" "java/lang/Object") ∈ lw_tbl := fs_b7 (List.mem_of_getElem? (i := 95) rfl)
theorem tb_7_96 : (Cond.castable "FlowShelf$Report" "java/lang/Object") ∈ lw_tbl := fs_b7 (List.mem_of_getElem? (i := 96) rfl)
theorem tb_7_97 : (Cond.castable "FlowShelf$Cursor" "java/lang/Object") ∈ lw_tbl := fs_b7 (List.mem_of_getElem? (i := 97) rfl)
theorem tb_7_98 : (Cond.castable "FlowShelf$Row" "java/lang/Object") ∈ lw_tbl := fs_b7 (List.mem_of_getElem? (i := 98) rfl)
theorem tb_7_99 : (Cond.castable "java/lang/String" "java/lang/Object") ∈ lw_tbl := fs_b7 (List.mem_of_getElem? (i := 99) rfl)
end
section
/-! A heap that holds a state; a walk that follows a program -/
/-- numbers of classes and slots; classes of arrays; addresses of constants; the state in which the law began -/
abbrev fs_X : Type := va_G × (Nat → ClassId) × (Nat → Nat) × State
abbrev fs_D (X : fs_X) : va_G := X.1
abbrev fs_ta (X : fs_X) : Nat → ClassId := X.2.1
abbrev fs_cz (X : fs_X) : Nat → Nat := X.2.2.1
abbrev fs_o (X : fs_X) : State := X.2.2.2
abbrev fs_z (X : fs_X) : Nat := (fs_o X).heap.size
def fs_A (X : fs_X) : Nat → Prop := fun q => fs_z X ≤ q
def fs_tr (X : fs_X) (e : fs_E) : va_E := match e with
  | .inl (t, x) => .inl (fs_ta X t, x)
  | .inr o => .inr o
abbrev fs_at (X : fs_X) (a : Nat) (e : fs_E) (H : Heap) : Prop := va_at (fs_D X) fs_cl (a, fs_tr X e) H
/-- what the state in which the law began says of a constant cell: an int[], or an Object[] of length 0 -/
def fs_ac (X : fs_X) (a : Nat) (e : fs_E) : Prop := match e with
  | .inl (t, n, .inl f) => t = 0 ∧ va_X a n f (fs_o X) (fs_o X).heap
  | .inl (t, n, .inr _) => t = 3 ∧ n = 0 ∧ ∃ scr : Cell, (fs_o X).heap[a]? = some scr ∧ (fs_o X).isArrayOf scr (.object "java/lang/Object") ∧ scr.slots.size = 0
  | .inr _ => False
def fs_w (X : fs_X) (σ : fs_S) (H : Heap) : Prop :=
  H.size = fs_n σ ∧ fs_z X ≤ fs_n σ ∧ fs_c σ = fs_cz X ∧ (∀ a e, fs_m σ a = some e → fs_z X ≤ a ∧ fs_at X a e H) ∧ (∀ a e, fs_k σ a = some e → a < fs_z X ∧ fs_ac X a e) ∧ ∀ q : Nat, q < fs_z X → H[q]? = (fs_o X).heap[q]?
theorem fs_w.lk {X : fs_X} {σ : fs_S} {H : Heap} (h : fs_w X σ H) {a : Nat} {e : fs_E} (he : fs_lk σ a = some e) : fs_at X a e H ∨ (a < fs_z X ∧ fs_ac X a e) := by
  unfold fs_lk at he
  cases hm : fs_m σ a with
  | some e1 => rw [hm] at he; cases he; exact Or.inl (h.2.2.2.1 a e hm).2
  | none => rw [hm] at he; exact Or.inr (h.2.2.2.2.1 a e he)
theorem fs_w.lko {X : fs_X} {σ : fs_S} {H : Heap} (h : fs_w X σ H) {a : Nat} {o : Nat × List Value} (he : fs_lk σ a = some (.inr o)) : fs_at X a (.inr o) H := by
  rcases h.lk he with q | ⟨-, q⟩
  · exact q
  · exact q.elim
theorem fs_w.So {X : fs_X} {σ : fs_S} {H H0 : Heap} {locs : List Loc} (h : fs_w X σ H) (hS : va_S (fs_A X) H0 H locs) : va_S (fs_A X) (fs_o X).heap H locs :=
  ⟨by rw [h.1]; exact h.2.1, fun q hq _ => h.2.2.2.2.2 q hq, hS.2.2⟩
/-- a cell is changed -/
theorem fs_w.set {X : fs_X} {σ : fs_S} {H H1 : Heap} (h : fs_w X σ H) {a : Nat} {e0 e : fs_E} (hm : fs_m σ a = some e0) (he : fs_at X a e H1) (z : H1.size = H.size) (oq : ∀ q : Nat, q ≠ a → H1[q]? = H[q]?) : fs_w X (fs_up (fs_m σ) a e, σ.2) H1 := by
  obtain ⟨h1, h2, h3, h4, h5, h6⟩ := h
  refine ⟨z.trans h1, h2, h3, fun b f hb => ?_, fun b f hb => ?_, fun q hq => (oq q (fun e1 => by
    have := (h4 a e0 hm).1
    omega)).trans (h6 q hq)⟩
  · have hb' : (if b = a then some e else fs_m σ b) = some f := hb
    by_cases hba : b = a
    · subst hba
      rw [if_pos rfl] at hb'
      cases hb'
      exact ⟨(h4 b e0 hm).1, he⟩
    · rw [if_neg hba] at hb'
      exact ⟨(h4 b f hb').1, (h4 b f hb').2.kept (oq b hba)⟩
  · exact h5 b f hb
/-- a cell is made -/
theorem fs_w.push {X : fs_X} {σ : fs_S} {H H1 : Heap} (h : fs_w X σ H) {e : fs_E} {w : Nat} (he : fs_at X H.size e H1) (z : H1.size = H.size + 1) (oq : ∀ q : Nat, q < H.size → H1[q]? = H[q]?) : fs_w X (fs_up (fs_m σ) (fs_n σ) e, fs_k σ, fs_c σ, fs_n σ + 1, fs_u σ + w) H1 := by
  obtain ⟨h1, h2, h3, h4, h5, h6⟩ := h
  refine ⟨by rw [z, h1], Nat.le_trans h2 (Nat.le_succ _), h3, fun b f hb => ?_, fun b f hb => ?_, fun q hq => (oq q (by omega)).trans (h6 q hq)⟩
  · have hb' : (if b = fs_n σ then some e else fs_m σ b) = some f := hb
    by_cases hba : b = fs_n σ
    · rw [if_pos hba] at hb'
      cases hb'
      exact ⟨by rw [hba]; exact h2, by rw [hba, ← h1]; exact he⟩
    · rw [if_neg hba] at hb'
      have q := h4 b f hb'
      exact ⟨q.1, q.2.kept (oq b q.2.lt)⟩
  · exact h5 b f hb
/-- more cells, that the state doesn't speak of -/
theorem fs_w.more {X : fs_X} {σ : fs_S} {H H1 : Heap} (h : fs_w X σ H) {w : Nat} (z : H1.size = H.size + 1) (oq : ∀ q : Nat, q < H.size → H1[q]? = H[q]?) : fs_w X (fs_m σ, fs_k σ, fs_c σ, fs_n σ + 1, fs_u σ + w) H1 := by
  obtain ⟨h1, h2, h3, h4, h5, h6⟩ := h
  refine ⟨by rw [z, h1], Nat.le_trans h2 (Nat.le_succ _), h3, fun b f hb => ?_, fun b f hb => ?_, fun q hq => (oq q (by omega)).trans (h6 q hq)⟩
  · have q := h4 b f hb
    exact ⟨q.1, q.2.kept (oq b q.2.lt)⟩
  · exact h5 b f hb
def fs_tys (X : fs_X) : List (ClassId × FieldType) := [(fs_ta X 0, .int), (fs_ta X 1, .long), (fs_ta X 2, .boolean), (fs_ta X 3, .object "java/lang/Object"), (fs_ta X 4, .object "FlowShelf$Slot")]
/-- what the Statement gives of the law's beginning; where the constants lie -/
def fs_B (X : fs_X) : Prop := (∃ b : Nat, (∀ w ∈ lw_tbl, w.before #[Value.ref b] (fs_o X) = true) ∧ (Jvm.Cond.and given_1 narrow_1).before #[Value.ref b] (fs_o X) = true) ∧
  va_Z "FlowShelf" "LEAST_LENGTH" "[I" (.ref (fs_cz X 0)) (fs_A X) (fs_o X) (fs_o X).heap ∧ va_Z "java/util/ArrayList" "DEFAULTCAPACITY_EMPTY_ELEMENTDATA" "[Ljava/lang/Object;" (.ref (fs_cz X 1)) (fs_A X) (fs_o X) (fs_o X).heap ∧
  va_Mi "[Ljava/lang/Object;" (fs_cz X 2) (fs_o X)
/-- the tables, as the law's beginning had them -/
def fs_G (X : fs_X) (U : State) : Prop := fs_B X ∧ (fs_o X).WarmedH U.vm ∧ va_K (fs_D X) fs_cl (fs_tys X) U
theorem fs_G.moved {X : fs_X} {u U : State} (hW : u.WarmedH U.vm) (h : fs_G X u) : fs_G X U := ⟨h.1, State.WarmedH.trans h.2.1 hW, va_K.moved hW.alike h.2.2⟩
theorem fs_G.word {X : fs_X} {U : State} (h : fs_G X U) {w : Cond} (hw : w ∈ lw_tbl) (ht : w.onTables = true) : va_Nw w (fs_o X) := by
  obtain ⟨⟨⟨b, hb, -⟩, -⟩, -⟩ := h
  exact va_Nw.of ht (hb w hw)
theorem fs_G.castable {X : fs_X} {U : State} (h : fs_G X U) {C T : String} (hw : Cond.castable C T ∈ lw_tbl) : va_Nw (.castable C T) U := va_Nw.warmC h.2.1 (h.word hw rfl)
theorem fs_G.nest {X : fs_X} {U : State} (h : fs_G X U) {a : String} {i : Nat} {x : MethodName} {t : String} (hw : Cond.methodLinkNest a i x t ∈ lw_tbl) : va_Nw (.methodLinkNest a i x t) U := va_Nw.warmM h.2.1 (h.word hw rfl)
theorem fs_G.over {X : fs_X} {U : State} (h : fs_G X U) {C : String} (hw : Cond.arrayOver (.object C) ∈ lw_tbl) : va_AO C U := by
  obtain ⟨⟨⟨b, hb, -⟩, -⟩, hW, -⟩ := h
  exact va_AO.moved hW.alike (va_AO.of (hb _ hw))
/-- a method's end: it has returned the value, or thrown an object of the class; the heap holds the new state; nothing that was there at the law's beginning has changed -/
def fs_End (X : fs_X) (rv : Option Value ⊕ String) (σF : fs_S) (mc ms : Nat) : Array Value → State → Outcome → State → Prop := fun _ st o t =>
  (match rv with
    | .inl v => o = .returned v
    | .inr E => ∃ (q : Addr) (ce : Cell), o = .threw q ∧ t.heap[q]? = some ce ∧ ce.vm = .none ∧ st.vm.findClass E = some ce.cls) ∧
  fs_w X σF t.heap ∧ va_F (fs_A X) st t ∧ st.WarmedH t.vm ∧ ∃ L, st.sameButNew ({ t with vm := st.vm } : State) L mc ms ∧ ∀ q ∈ L, fs_A X q.base
abbrev fs_pre (X : fs_X) (av : List Value) (σ : fs_S) : Array Value → State → Prop := va_Pc av fun U => fs_w X σ U.heap ∧ fs_G X U
abbrev fs_rm (fr lo : Nat) (σ σF : fs_S) : Room := { frames := fr, cells := fs_n σF - fs_n σ, slots := fs_u σF - fs_u σ, locals := lo }
/-- a method's contract: cy is its row of code -/
def fs_Met (X : fs_X) (l : Launch) (y : MethodName) (cy : Cond) (fr lo : Nat) (av : List Value) (σ : fs_S) (rv : Option Value ⊕ String) (σF : fs_S) : Prop :=
  MetFree l y (headSpec (cy :: fs_ws) (fs_rm fr lo σ σF)) (fs_pre X av σ) (fun _ _ _ _ _ => True) (fs_End X rv σF (fs_n σF - fs_n σ) (fs_u σF - fs_u σ))
def fs_Q (X : fs_X) (below : List Frame) (args : Array Value) (s : State) (rv : Option Value ⊕ String) (σ0 σF : fs_S) : State → Prop := fun t =>
  ∃ o, t.status = .running ∧ Ended t below o ∧ fs_End X rv σF (fs_n σF - fs_n σ0) (fs_u σF - fs_u σ0) args s o t
/-- what a call that returns says -/
def fs_Qr (X : fs_X) (v : Option Value) (σF : fs_S) : Array Value → State → Outcome → State → Prop := fun _ st o t => o = .returned v ∧ fs_w X σF t.heap ∧ va_F (fs_A X) st t
theorem fs_Met.ret {X : fs_X} {l : Launch} {y : MethodName} {cy : Cond} {fr lo : Nat} {av : List Value} {σ σF : fs_S} {v : Option Value} (h : fs_Met X l y cy fr lo av σ (.inl v) σF) :
    Met l y (cy :: fs_ws) (fs_rm fr lo σ σF) (fs_pre X av σ) (fs_Qr X v σF) (fs_n σF - fs_n σ) (fs_u σF - fs_u σ) (fs_A X) := by
  intro p e ha hc hk s m args below h1 h2 h3 h4
  obtain ⟨n, o, g1, g2, g3, g4, g5, g6, g7, L, g8, g9⟩ := h p e ha hc hk s m args below h1 h2 h3 h4
  exact ⟨n, o, g1, g2, g3, ⟨g4, g5, g6⟩, L, ⟨⟨v, g4⟩, g7, g8⟩, g9⟩
theorem fs_blind {X : fs_X} {av : List Value} {σ : fs_S} : FrameBlind (fs_pre X av σ) := fun a U g mk q => by
  obtain ⟨q0, q1, q2⟩ := q
  exact ⟨q0, q1, fs_G.moved (u := U) (U := U.calling g mk a) (State.WarmedH.refl U) q2⟩
theorem fs_gd {cy : Cond} (h : cy ∈ fs_ws) : GoodIn fs_ws (cy :: fs_ws) := fun w q => by
  have hw : w ∈ fs_ws := (List.mem_cons.mp q).elim (fun e => by rw [e]; exact h) id
  exact ⟨hw, good_of_word (List.mem_filter.mp hw).2⟩
/-- a body's walk gives the contract -/
theorem fs_ofW {X : fs_X} {l : Launch} {y : MethodName} {cc : ByteArray} {maxL : Nat} {ret : Option FieldType} {fr lo : Nat} {av : List Value} {σ σF : fs_S} {rv : Option Value ⊕ String} (hy : plainName y.cls = true)
    (body : ∀ p e s m args below meth c s₁, BodyLoose p l y (headSpec (Cond.code y cc maxL ret :: fs_ws) (fs_rm fr lo σ σF)) cc maxL ret e s m args below meth c s₁ → c.maxLocals = maxL → (∀ x ∈ c.exceptionTable.toList, False) → fs_pre X av σ args s →
      W p l e (fs_rm fr lo σ σF) s m args below meth c s.heap [] 0 0 (fs_Q X below args s rv σ σF) (entryFrame m args maxL)) : fs_Met X l y (Cond.code y cc maxL ret) fr lo av σ rv σF := by
  refine MetFree.of_bodyS (code := cc) (maxLocals := maxL) (ret := ret) hy ?_ ?_
  · intro args s m h hn
    obtain ⟨meth, c, h1, h2, h3, h4, h5, h6, -, -⟩ := Cond.code_spec hn (atoms_spec (ws := Cond.code y cc maxL ret :: fs_ws) h _ List.mem_cons_self)
    exact ⟨meth, c, h1, h2, h3, h4, h5, h6⟩
  · intro p e s m args below meth c s₁ B hml hP _
    have hh0 : s₁.heap = s.heap := by rw [B.state]; rfl
    have ht : ∀ x ∈ c.exceptionTable.toList, False := by
      obtain ⟨meth9, c9, h1, h2, -, -, -, -, h7, -⟩ := Cond.code_spec B.named (atoms_spec (ws := Cond.code y cc maxL ret :: fs_ws) B.pre _ List.mem_cons_self)
      cases Option.some.inj (h1.symm.trans B.method)
      cases Option.some.inj (h2.symm.trans (Stand.of_body B).code)
      intro x hx
      rw [Array.isEmpty_iff.mp h7] at hx
      cases hx
    obtain ⟨t, a1, o, b1, b2, b3⟩ := body p e s m args below meth c s₁ B hml ht hP s₁ hh0 (Stand.of_body B)
    exact ⟨t, o, a1, b1, b2, b3⟩
/-- the walk at g goes as the program t says -/
def fs_J (X : fs_X) (p : Program) (l : Launch) (e : Env) (R : Room) (s : State) (m : MethodId) (args : Array Value) (below : List Frame) (meth : Method) (c : Code) (Q : State → Prop) {α : Type} (rF : α) (σ0 σF : fs_S) (t : fs_T α) (g : JFrame) : Prop :=
  ∀ (σ : fs_S) (H : Heap) (locs : List Loc) (cells slots : Nat), t.1 σ = some (rF, σF) → fs_w X σ H → va_S (fs_A X) s.heap H locs → fs_n σ0 + cells = fs_n σ → fs_u σ0 + slots = fs_u σ →
    W p l e R s m args below meth c H locs cells slots Q g
section FSJ
variable {X : fs_X} {p : Program} {l : Launch} {e : Env} {R : Room} {s : State} {m : MethodId} {args : Array Value} {below : List Frame} {meth : Method} {c : Code} {Q : State → Prop} {α β : Type} {rF : α} {σ0 σF : fs_S}
variable {cc : ByteArray} {nL : Nat} {own : String} {pc : Nat} {ls : Array Slot} {rest : List Value}
theorem fs_lift {t : fs_T α} {g g2 : JFrame} (h : ∀ (H : Heap) (locs : List Loc) (cells slots : Nat), W p l e R s m args below meth c H locs cells slots Q g2 → W p l e R s m args below meth c H locs cells slots Q g)
    (k : fs_J X p l e R s m args below meth c Q rF σ0 σF t g2) : fs_J X p l e R s m args below meth c Q rF σ0 σF t g := fun σ H locs cells slots h1 h2 h3 h4 h5 => h H locs cells slots (k σ H locs cells slots h1 h2 h3 h4 h5)
theorem fs_liftL {t : fs_T α} {g : JFrame} {P : Array Slot → Prop} {g2 : Array Slot → JFrame} (h : ∀ (H : Heap) (locs : List Loc) (cells slots : Nat), (∀ ls, P ls → W p l e R s m args below meth c H locs cells slots Q (g2 ls)) → W p l e R s m args below meth c H locs cells slots Q g)
    (k : ∀ ls, P ls → fs_J X p l e R s m args below meth c Q rF σ0 σF t (g2 ls)) : fs_J X p l e R s m args below meth c Q rF σ0 σF t g := fun σ H locs cells slots h1 h2 h3 h4 h5 => h H locs cells slots (fun ls q => k ls q σ H locs cells slots h1 h2 h3 h4 h5)
theorem fs_if {t1 t2 : fs_T α} {P : Prop} [Decidable P] {g g1 g2 : JFrame} (h : ∀ (H : Heap) (locs : List Loc) (cells slots : Nat), (P → W p l e R s m args below meth c H locs cells slots Q g1) → (¬ P → W p l e R s m args below meth c H locs cells slots Q g2) → W p l e R s m args below meth c H locs cells slots Q g)
    (k1 : fs_J X p l e R s m args below meth c Q rF σ0 σF t1 g1) (k2 : fs_J X p l e R s m args below meth c Q rF σ0 σF t2 g2) : fs_J X p l e R s m args below meth c Q rF σ0 σF (if P then t1 else t2) g := by
  intro σ H locs cells slots h1 h2 h3 h4 h5
  refine h H locs cells slots (fun q => k1 σ H locs cells slots ?_ h2 h3 h4 h5) (fun q => k2 σ H locs cells slots ?_ h2 h3 h4 h5)
  · rw [if_pos q] at h1; exact h1
  · rw [if_neg q] at h1; exact h1
theorem fs_ifn {t1 t2 : fs_T α} {P : Prop} [Decidable P] {g g1 g2 : JFrame} (h : ∀ (H : Heap) (locs : List Loc) (cells slots : Nat), (¬ P → W p l e R s m args below meth c H locs cells slots Q g2) → (P → W p l e R s m args below meth c H locs cells slots Q g1) → W p l e R s m args below meth c H locs cells slots Q g)
    (k1 : fs_J X p l e R s m args below meth c Q rF σ0 σF t1 g1) (k2 : fs_J X p l e R s m args below meth c Q rF σ0 σF t2 g2) : fs_J X p l e R s m args below meth c Q rF σ0 σF (if P then t1 else t2) g := by
  refine fs_if (fun H locs cells slots a b => h H locs cells slots b a) k1 k2
/-- both roads, from the same frame -/
theorem fs_sw {t1 t2 : fs_T α} {P : Prop} [Decidable P] {g : JFrame} (k1 : P → fs_J X p l e R s m args below meth c Q rF σ0 σF t1 g) (k2 : ¬ P → fs_J X p l e R s m args below meth c Q rF σ0 σF t2 g) : fs_J X p l e R s m args below meth c Q rF σ0 σF (if P then t1 else t2) g := by
  by_cases q : P
  · rw [if_pos q]; exact k1 q
  · rw [if_neg q]; exact k2 q
theorem fs_Jnm {A : Type} {x : A} {kk : A → fs_T α} {g : JFrame} (k : ∀ v, v = x → fs_J X p l e R s m args below meth c Q rF σ0 σF (kk v) g) : fs_J X p l e R s m args below meth c Q rF σ0 σF (fs_nm x kk) g := k x rfl
theorem fs_Jni {x : Int32} {kk : Int32 → fs_T α} (k : ∀ v, fs_J X p l e R s m args below meth c Q rF σ0 σF (kk v) (F0 m pc ls (.int v :: rest))) : fs_J X p l e R s m args below meth c Q rF σ0 σF (fs_nm x kk) (F0 m pc ls (.int x :: rest)) := k x
theorem fs_Jnj {x : Int64} {kk : Int64 → fs_T α} (k : ∀ v, fs_J X p l e R s m args below meth c Q rF σ0 σF (kk v) (F0 m pc ls (.long v :: rest))) : fs_J X p l e R s m args below meth c Q rF σ0 σF (fs_nm x kk) (F0 m pc ls (.long x :: rest)) := k x
/-- a join: its rest once, then the roads to it -/
theorem fs_Jlet {A : Type} {x : A} {kk : A → fs_T α} {g : JFrame} (k : fs_J X p l e R s m args below meth c Q rF σ0 σF (kk x) g) : fs_J X p l e R s m args below meth c Q rF σ0 σF (fs_let x kk) g := k
theorem fs_Jfail {g : JFrame} : fs_J X p l e R s m args below meth c Q rF σ0 σF fs_fail g := fun _ _ _ _ _ h => by cases h
/-- loops -/
theorem fs_Jlp1 {A : Type} {b : (A → fs_T α) → A → fs_T α} {I : A → List (Nat × Value)}
    (h : ∀ rec : A → fs_T α, (∀ x ls, lv_has ls nL (I x) → fs_J X p l e R s m args below meth c Q rF σ0 σF (rec x) (F0 m pc ls rest)) → ∀ x ls, lv_has ls nL (I x) → fs_J X p l e R s m args below meth c Q rF σ0 σF (b rec x) (F0 m pc ls rest)) :
    ∀ (n : Nat) (x : A) (ls : Array Slot), lv_has ls nL (I x) → fs_J X p l e R s m args below meth c Q rF σ0 σF (fs_lp1 n b x) (F0 m pc ls rest)
  | 0, _, _, _ => fs_Jfail
  | n + 1, x, ls, q => h _ (fs_Jlp1 h n) x ls q
theorem fs_Jlp2 {A B : Type} {b : (A → B → fs_T α) → A → B → fs_T α} {I : A → B → List (Nat × Value)}
    (h : ∀ rec : A → B → fs_T α, (∀ x y ls, lv_has ls nL (I x y) → fs_J X p l e R s m args below meth c Q rF σ0 σF (rec x y) (F0 m pc ls rest)) → ∀ x y ls, lv_has ls nL (I x y) → fs_J X p l e R s m args below meth c Q rF σ0 σF (b rec x y) (F0 m pc ls rest)) :
    ∀ (n : Nat) (x : A) (y : B) (ls : Array Slot), lv_has ls nL (I x y) → fs_J X p l e R s m args below meth c Q rF σ0 σF (fs_lp2 n b x y) (F0 m pc ls rest)
  | 0, _, _, _, _ => fs_Jfail
  | n + 1, x, y, ls, q => h _ (fs_Jlp2 h n) x y ls q
theorem fs_Jlp3 {A B C : Type} {b : (A → B → C → fs_T α) → A → B → C → fs_T α} {I : A → B → C → List (Nat × Value)}
    (h : ∀ rec : A → B → C → fs_T α, (∀ x y w ls, lv_has ls nL (I x y w) → fs_J X p l e R s m args below meth c Q rF σ0 σF (rec x y w) (F0 m pc ls rest)) → ∀ x y w ls, lv_has ls nL (I x y w) → fs_J X p l e R s m args below meth c Q rF σ0 σF (b rec x y w) (F0 m pc ls rest)) :
    ∀ (n : Nat) (x : A) (y : B) (w : C) (ls : Array Slot), lv_has ls nL (I x y w) → fs_J X p l e R s m args below meth c Q rF σ0 σF (fs_lp3 n b x y w) (F0 m pc ls rest)
  | 0, _, _, _, _, _ => fs_Jfail
  | n + 1, x, y, w, ls, q => h _ (fs_Jlp3 h n) x y w ls q
theorem fs_Jlp4 {A B C D : Type} {b : (A → B → C → D → fs_T α) → A → B → C → D → fs_T α} {I : A → B → C → D → List (Nat × Value)}
    (h : ∀ rec : A → B → C → D → fs_T α, (∀ x y w v ls, lv_has ls nL (I x y w v) → fs_J X p l e R s m args below meth c Q rF σ0 σF (rec x y w v) (F0 m pc ls rest)) → ∀ x y w v ls, lv_has ls nL (I x y w v) → fs_J X p l e R s m args below meth c Q rF σ0 σF (b rec x y w v) (F0 m pc ls rest)) :
    ∀ (n : Nat) (x : A) (y : B) (w : C) (v : D) (ls : Array Slot), lv_has ls nL (I x y w v) → fs_J X p l e R s m args below meth c Q rF σ0 σF (fs_lp4 n b x y w v) (F0 m pc ls rest)
  | 0, _, _, _, _, _, _ => fs_Jfail
  | n + 1, x, y, w, v, ls, q => h _ (fs_Jlp4 h n) x y w v ls q
end FSJ
end
section
/-! instructions that read or write the heap, as rows of fs_J -/
theorem fs_bdT {α β : Type} {x : fs_T α} {k : α → fs_T β} {σ : fs_S} {r : β × fs_S} (h : (fs_bind x k).1 σ = some r) : ∃ v σ1, x.1 σ = some (v, σ1) ∧ (k v).1 σ1 = some r := by
  have h : (x.1 σ).bind (fun q => (k q.1).1 q.2) = some r := h
  obtain ⟨⟨v, σ1⟩, h1, h2⟩ := fs_bd h
  exact ⟨v, σ1, h1, h2⟩
theorem fs_rdm_ok {α : Type} {a : Nat} {g : fs_E → Option α} {σ σ1 : fs_S} {v : α} (h : (fs_rdm a g).1 σ = some (v, σ1)) : ∃ e, fs_m σ a = some e ∧ g e = some v ∧ σ1 = σ := by
  have h' : ((fs_m σ a).bind g).map (fun v => (v, σ)) = some (v, σ1) := h
  cases h1 : (fs_m σ a).bind g with
  | none => rw [h1] at h'; cases h'
  | some w =>
    rw [h1] at h'
    cases h'
    obtain ⟨e, e1, e2⟩ := fs_bd h1
    exact ⟨e, e1, e2, rfl⟩
theorem fs_rd_ok {α : Type} {a : Nat} {g : fs_E → Option α} {σ σ1 : fs_S} {v : α} (h : (fs_rd a g).1 σ = some (v, σ1)) : ∃ e, fs_lk σ a = some e ∧ g e = some v ∧ σ1 = σ := by
  have h : ((fs_lk σ a).bind g).map (fun v => (v, σ)) = some (v, σ1) := h
  cases h1 : fs_lk σ a with
  | none => rw [h1] at h; cases h
  | some e =>
    rw [h1] at h
    have h : (g e).map (fun v => (v, σ)) = some (v, σ1) := h
    cases h2 : g e with
    | none => rw [h2] at h; cases h
    | some w => rw [h2] at h; cases h; exact ⟨e, rfl, h2, rfl⟩
theorem fs_wr_ok {a : Nat} {g : fs_E → Option fs_E} {σ σ1 : fs_S} {u : Unit} (h : (fs_wr a g).1 σ = some (u, σ1)) : ∃ e e1, fs_m σ a = some e ∧ g e = some e1 ∧ σ1 = (fs_up (fs_m σ) a e1, σ.2) := by
  have h : ((fs_m σ a).bind g).map (fun e => ((), (fs_up (fs_m σ) a e, σ.2))) = some (u, σ1) := h
  cases h1 : fs_m σ a with
  | none => rw [h1] at h; cases h
  | some e =>
    rw [h1] at h
    have h : (g e).map (fun e => ((), (fs_up (fs_m σ) a e, σ.2))) = some (u, σ1) := h
    cases h2 : g e with
    | none => rw [h2] at h; cases h
    | some w => rw [h2] at h; cases h; exact ⟨e, w, rfl, h2, rfl⟩
theorem fs_fI_ok {ci k : Nat} {e : fs_E} {v : Int32} (h : fs_fI ci k e = some v) : ∃ fs, e = .inr (ci, fs) ∧ fs[k]? = some (.int v) := by
  unfold fs_fI at h
  split at h
  · rename_i c fs
    split at h
    · rename_i hc
      subst hc
      split at h
      · rename_i w hw
        cases h
        exact ⟨fs, rfl, hw⟩
      · cases h
    · cases h
  · cases h
theorem fs_fJ_ok {ci k : Nat} {e : fs_E} {v : Int64} (h : fs_fJ ci k e = some v) : ∃ fs, e = .inr (ci, fs) ∧ fs[k]? = some (.long v) := by
  unfold fs_fJ at h
  split at h
  · rename_i c fs
    split at h
    · rename_i hc
      subst hc
      split at h
      · rename_i w hw
        cases h
        exact ⟨fs, rfl, hw⟩
      · cases h
    · cases h
  · cases h
theorem fs_fR_ok {ci k : Nat} {e : fs_E} {v : Nat} (h : fs_fR ci k e = some v) : ∃ fs, e = .inr (ci, fs) ∧ fs[k]? = some (.ref v) := by
  unfold fs_fR at h
  split at h
  · rename_i c fs
    split at h
    · rename_i hc
      subst hc
      split at h
      · rename_i w hw
        cases h
        exact ⟨fs, rfl, hw⟩
      · cases h
    · cases h
  · cases h
theorem fs_fP_ok {ci k : Nat} {v : Value} {e e1 : fs_E} (h : fs_fP ci k v e = some e1) : ∃ fs, e = .inr (ci, fs) ∧ k < fs.length ∧ e1 = .inr (ci, fs.set k v) := by
  unfold fs_fP at h
  split at h
  · rename_i c fs
    split at h
    · rename_i hc
      obtain ⟨hc, hk⟩ := hc
      subst hc
      cases h
      exact ⟨fs, rfl, hk, rfl⟩
    · cases h
  · cases h
theorem fs_xI_ok {t : Nat} {i : Int32} {e : fs_E} {v : Int32} (h : fs_xI t i e = some v) : ∃ n f, e = .inl (t, n, .inl f) ∧ vp_in i n ∧ v = f i.toNatClampNeg := by
  unfold fs_xI at h
  split at h
  · rename_i u n f
    split at h
    · rename_i hc
      obtain ⟨hc, hk⟩ := hc
      subst hc
      cases h
      exact ⟨n, f, rfl, hk, rfl⟩
    · cases h
  · cases h
theorem fs_xJ_ok {t : Nat} {i : Int32} {e : fs_E} {v : Int64} (h : fs_xJ t i e = some v) : ∃ n f, e = .inl (t, n, .inr (.inl f)) ∧ vp_in i n ∧ v = f i.toNatClampNeg := by
  unfold fs_xJ at h
  split at h
  · rename_i u n f
    split at h
    · rename_i hc
      obtain ⟨hc, hk⟩ := hc
      subst hc
      cases h
      exact ⟨n, f, rfl, hk, rfl⟩
    · cases h
  · cases h
theorem fs_yI_ok {t : Nat} {i v : Int32} {e e1 : fs_E} (h : fs_yI t i v e = some e1) : ∃ n f, e = .inl (t, n, .inl f) ∧ vp_in i n ∧ e1 = .inl (t, n, .inl (upd f i.toNatClampNeg v)) := by
  unfold fs_yI at h
  split at h
  · rename_i u n f
    split at h
    · rename_i hc
      obtain ⟨hc, hk⟩ := hc
      subst hc
      cases h
      exact ⟨n, f, rfl, hk, rfl⟩
    · cases h
  · cases h
theorem fs_yJ_ok {t : Nat} {i : Int32} {v : Int64} {e e1 : fs_E} (h : fs_yJ t i v e = some e1) : ∃ n f, e = .inl (t, n, .inr (.inl f)) ∧ vp_in i n ∧ e1 = .inl (t, n, .inr (.inl (vp_updL f i.toNatClampNeg v))) := by
  unfold fs_yJ at h
  split at h
  · rename_i u n f
    split at h
    · rename_i hc
      obtain ⟨hc, hk⟩ := hc
      subst hc
      cases h
      exact ⟨n, f, rfl, hk, rfl⟩
    · cases h
  · cases h
theorem fs_one {D : va_G} {cl : List vw_C} {q : Nat × va_E} {H : Heap} (h : va_at D cl q H) : va_P D cl [q] H := fun k x hx => by
  have hz : k < 1 := (List.getElem?_eq_some_iff.mp hx).1
  rw [show k = 0 by omega] at hx
  cases hx
  exact h
theorem fs_xR_ok {i : Int32} {e : fs_E} {v : Nat} (h : fs_xR i e = some v) : ∃ t n f, e = .inl (t, n, .inr (.inr (.inr (.inr f)))) ∧ (t = 3 ∨ t = 4) ∧ vp_in i n ∧ f i.toNatClampNeg = some v := by
  unfold fs_xR at h
  split at h
  · rename_i t n f
    split at h
    · rename_i hk
      exact ⟨t, n, f, rfl, hk.1, hk.2, h⟩
    · cases h
  · cases h
theorem fs_y0_ok {i : Int32} {e e1 : fs_E} (h : fs_y0 i e = some e1) : ∃ n f, e = .inl (3, n, .inr (.inr (.inr (.inr f)))) ∧ vp_in i n ∧ e1 = .inl (3, n, .inr (.inr (.inr (.inr (va_up f i.toNatClampNeg none))))) := by
  unfold fs_y0 at h
  split at h
  · rename_i t n f
    split at h
    · rename_i hk
      obtain ⟨hk1, hk2⟩ := hk
      subst hk1
      cases h
      exact ⟨n, f, rfl, hk2, rfl⟩
    · cases h
  · cases h
theorem fs_yC_ok {i : Int32} {c v : Nat} {e e1 : fs_E} (h : fs_yC i c v e = some e1) : ∃ t n f, e = .inl (t, n, .inr (.inr (.inr (.inr f)))) ∧ (t = 3 ∧ c ≠ 2 ∨ t = 4 ∧ c = 3) ∧ vp_in i n ∧ e1 = .inl (t, n, .inr (.inr (.inr (.inr (va_up f i.toNatClampNeg (some v)))))) := by
  unfold fs_yC at h
  split at h
  · rename_i t n f
    split at h
    · rename_i hk
      obtain ⟨hk1, hk2⟩ := hk
      cases h
      exact ⟨t, n, f, rfl, hk1, hk2, rfl⟩
    · cases h
  · cases h
theorem fs_oc_ok {e : fs_E} {c : Nat} (h : fs_oc e = some c) : ∃ fs, e = .inr (c, fs) := by
  unfold fs_oc at h
  split at h
  · cases h; exact ⟨_, rfl⟩
  · cases h
theorem fs_xL_ok {e : fs_E} {v : Int32} (h : fs_xL e = some v) : ∃ t x, e = .inl (t, x) ∧ t < 5 ∧ Int32.ofNat x.1 = v := by
  unfold fs_xL at h
  split at h
  · rename_i t n q
    split at h
    · rename_i ht
      cases h
      exact ⟨t, (n, q), rfl, ht, rfl⟩
    · cases h
  · cases h
theorem fs_ck_ok {a ci : Nat} {σ σ1 : fs_S} {u : Unit} (h : (fs_ck a ci).1 σ = some (u, σ1)) : ∃ fs, fs_lk σ a = some (.inr (ci, fs)) ∧ σ1 = σ := by
  obtain ⟨e, e1, e2, e3⟩ := fs_rd_ok h
  split at e2
  · rename_i c fs
    split at e2
    · rename_i hc
      subst hc
      exact ⟨fs, e1, e3⟩
    · cases e2
  · cases e2
/-- behind a store -/
theorem fs_put {X : fs_X} {s : State} {H H1 : Heap} {locs : List Loc} {a i : Nat} (hS : va_S (fs_A X) s.heap H locs) (z : H1.size = H.size) (oq : ∀ q : Nat, q ≠ a → H1[q]? = H[q]?) (ha : fs_z X ≤ a) : va_S (fs_A X) s.heap H1 (locs ++ [⟨a, i⟩]) := hS.put z oq ha
/-- behind a new cell -/
theorem fs_new {X : fs_X} {s : State} {H H1 : Heap} {locs : List Loc} (hS : va_S (fs_A X) s.heap H locs) (z : H1.size = H.size + 1) (oq : ∀ q : Nat, q < H.size → H1[q]? = H[q]?) : va_S (fs_A X) s.heap H1 locs :=
  ⟨Nat.le_trans hS.1 (by omega), fun q h1 h2 => (oq q (Nat.lt_of_lt_of_le h1 hS.1)).trans (hS.2.1 q h1 h2), hS.2.2⟩
section FSH
variable {X : fs_X} {p : Program} {l : Launch} {e : Env} {R : Room} {s : State} {m : MethodId} {args : Array Value} {below : List Frame} {meth : Method} {c : Code} {Q : State → Prop} {α β : Type} {rF : α} {σ0 σF : fs_S}
variable {cc : ByteArray} {nL : Nat} {own ref C : String} {T : u_T} {N ci index a pc : Nat} {Ts : List Cond} {ls : Array Slot} {rest : List Value}
theorem fs_Jgi (S : CallFix p m c cc nL s args fs_ws own) (hG : fs_G X s) (hin : ∀ w ∈ u_ws C T N, w ∈ fs_ws) (hc : fs_cl[ci]? = some (C, T, N)) (k : Nat) (hk : k < N) (hlink : Cond.fieldLink own index ref (T k).2.1 (T k).2.2.1 ∈ fs_ws) (hsame : ∀ x, s.fieldFound? (T k).1 (T k).2.1 (T k).2.2.1 = some x → s.fieldFound? ref (T k).2.1 (T k).2.2.1 = some x) (hdg : decode cc pc = .ok (.getfield index, 3))
    {kk : Int32 → fs_T α} (K : ∀ v, fs_J X p l e R s m args below meth c Q rF σ0 σF (kk v) (F0 m (pc + 3) ls (.int v :: rest))) : fs_J X p l e R s m args below meth c Q rF σ0 σF (fs_bind (fs_gi a ci k) kk) (F0 m pc ls (.ref a :: rest)) := by
  intro σ H locs cells slots h hw hS h4 h5
  obtain ⟨v, σ1, h1, h2⟩ := fs_bdT h
  obtain ⟨e, e1, e2, rfl⟩ := fs_rd_ok h1
  obtain ⟨fs, rfl, e3⟩ := fs_fI_ok e2
  exact va_get (ws := [(a, .inr (ci, fs))]) S.1 S.2.1 S.2.2.2.2 hin S.2.2.2.1 hG.2.2 (fs_one (hw.lko e1)) 0 rfl hc k hk (S.2.2.2.2 _ hlink) hsame e3 hdg (K v _ H locs cells slots h2 hw hS h4 h5)
theorem fs_Jgj (S : CallFix p m c cc nL s args fs_ws own) (hG : fs_G X s) (hin : ∀ w ∈ u_ws C T N, w ∈ fs_ws) (hc : fs_cl[ci]? = some (C, T, N)) (k : Nat) (hk : k < N) (hlink : Cond.fieldLink own index ref (T k).2.1 (T k).2.2.1 ∈ fs_ws) (hsame : ∀ x, s.fieldFound? (T k).1 (T k).2.1 (T k).2.2.1 = some x → s.fieldFound? ref (T k).2.1 (T k).2.2.1 = some x) (hdg : decode cc pc = .ok (.getfield index, 3))
    {kk : Int64 → fs_T α} (K : ∀ v, fs_J X p l e R s m args below meth c Q rF σ0 σF (kk v) (F0 m (pc + 3) ls (.long v :: rest))) : fs_J X p l e R s m args below meth c Q rF σ0 σF (fs_bind (fs_gj a ci k) kk) (F0 m pc ls (.ref a :: rest)) := by
  intro σ H locs cells slots h hw hS h4 h5
  obtain ⟨v, σ1, h1, h2⟩ := fs_bdT h
  obtain ⟨e, e1, e2, rfl⟩ := fs_rd_ok h1
  obtain ⟨fs, rfl, e3⟩ := fs_fJ_ok e2
  exact va_get (ws := [(a, .inr (ci, fs))]) S.1 S.2.1 S.2.2.2.2 hin S.2.2.2.1 hG.2.2 (fs_one (hw.lko e1)) 0 rfl hc k hk (S.2.2.2.2 _ hlink) hsame e3 hdg (K v _ H locs cells slots h2 hw hS h4 h5)
theorem fs_Jgr (S : CallFix p m c cc nL s args fs_ws own) (hG : fs_G X s) (hin : ∀ w ∈ u_ws C T N, w ∈ fs_ws) (hc : fs_cl[ci]? = some (C, T, N)) (k : Nat) (hk : k < N) (hlink : Cond.fieldLink own index ref (T k).2.1 (T k).2.2.1 ∈ fs_ws) (hsame : ∀ x, s.fieldFound? (T k).1 (T k).2.1 (T k).2.2.1 = some x → s.fieldFound? ref (T k).2.1 (T k).2.2.1 = some x) (hdg : decode cc pc = .ok (.getfield index, 3))
    {kk : Nat → fs_T α} (K : ∀ v, fs_J X p l e R s m args below meth c Q rF σ0 σF (kk v) (F0 m (pc + 3) ls (.ref v :: rest))) : fs_J X p l e R s m args below meth c Q rF σ0 σF (fs_bind (fs_gr a ci k) kk) (F0 m pc ls (.ref a :: rest)) := by
  intro σ H locs cells slots h hw hS h4 h5
  obtain ⟨v, σ1, h1, h2⟩ := fs_bdT h
  obtain ⟨e, e1, e2, rfl⟩ := fs_rd_ok h1
  obtain ⟨fs, rfl, e3⟩ := fs_fR_ok e2
  exact va_get (ws := [(a, .inr (ci, fs))]) S.1 S.2.1 S.2.2.2.2 hin S.2.2.2.1 hG.2.2 (fs_one (hw.lko e1)) 0 rfl hc k hk (S.2.2.2.2 _ hlink) hsame e3 hdg (K v _ H locs cells slots h2 hw hS h4 h5)
theorem fs_Jput (S : CallFix p m c cc nL s args fs_ws own) (hG : fs_G X s) (hin : ∀ w ∈ u_ws C T N, w ∈ fs_ws) (hc : fs_cl[ci]? = some (C, T, N)) (k : Nat) (hk : k < N) (hlink : Cond.fieldLink own index ref (T k).2.1 (T k).2.2.1 ∈ fs_ws) (hsame : ∀ x, s.fieldFound? (T k).1 (T k).2.1 (T k).2.2.1 = some x → s.fieldFound? ref (T k).2.1 (T k).2.2.1 = some x) (ty0 : Nat → FieldType) (hty : ∀ k, k < N → parseFieldDescriptor (T k).2.2.1 = some (ty0 k)) (hnm : ∀ a, a < N → ∀ b, b < N → a ≠ b → (T a).2.1 ≠ (T b).2.1)
    (hfin : (T k).2.2.2 = false ∨ (T k).2.2.2 = true ∧ meth.name = "<init>" ∧ (T k).1 = own) {v : Value} (hn : narrow (ty0 k) v = v) (hfit : fits (ty0 k) v = true) (hdg : decode cc pc = .ok (.putfield index, 3))
    {kk : Unit → fs_T α} (K : fs_J X p l e R s m args below meth c Q rF σ0 σF (kk ()) (F0 m (pc + 3) ls rest)) : fs_J X p l e R s m args below meth c Q rF σ0 σF (fs_bind (fs_wr a (fs_fP ci k v)) kk) (F0 m pc ls (v :: .ref a :: rest)) := by
  intro σ H locs cells slots h hw hS h4 h5
  obtain ⟨u, σ1, h1, h2⟩ := fs_bdT h
  obtain ⟨e, e1, q1, q2, rfl⟩ := fs_wr_ok h1
  obtain ⟨fs, rfl, hl, rfl⟩ := fs_fP_ok q2
  have hz := (hw.2.2.2.1 a _ q1).1
  have hK := hG.2.2
  have hts := S.2.2.2.2
  have hown := S.2.2.2.1
  have hap := va_apart (own := own) hts hin ty0 hty hnm hK hc
  obtain ⟨r, h1', cell, g1, g2, g3, g4⟩ := (hw.2.2.2.1 a _ q1).2
  have hr : r = (C, T, N) := Option.some.inj (h1'.symm.trans hc)
  subst hr
  obtain ⟨hSl, hfc, kC, hkC, hkind⟩ := hK.1 ci _ hc
  obtain ⟨cf, kf, fi, f, hi, hsl⟩ := hSl k hk
  have hlay := hts _ (hin _ (u_in_lay hk))
  have hst := (u_facts hfc hkC (u_lays hts hin hk) hi).1
  have fin : ∀ H1 : Heap, H1[a]? = some (cell.setSlot f.slot v) → H1.size = H.size → (∀ q, q ≠ a → H1[q]? = H[q]?) → W p l e R s m args below meth c H1 (locs ++ [⟨a, f.slot⟩]) cells slots Q (F0 m (pc + 3) ls rest) := by
    intro H1 e1 e2 e3
    rw [hsl] at e1
    exact K _ H1 _ cells slots h2 (hw.set q1 ⟨_, hc, t_OB.to (V := updV (vp_V fs) k v) ⟨_, e1, g2, g3, t_set g4 hap hk v⟩ (fun j _ => vp_updV_set hl v j)⟩ e2 e3) (fs_put hS e2 e3 hz) h4 h5
  unfold u_lay at hlay
  rcases hfin with hfin | ⟨hfin, hin2, hdecl⟩
  · rw [if_neg (by rw [hfin]; decide)] at hlay
    have h6 := u_store hfc hkC hkind hlay hi (hty k hk) hn hfit
    exact W.putK S.1 S.2.1 (f := f) ⟨hown, hts _ hlink, ⟨_, _, _, hsame _ hi⟩, hst⟩ (by rw [g2]; exact h6) g1 g3 (by rw [hsl]; exact k2_hasslot (g4 k hk)) rfl rfl hdg fin
  · rw [if_pos hfin] at hlay
    have hcf : m.cls = cf := by
      obtain ⟨_, _, c', _, _, _, -, -, hf', -, -, -, hown2, -⟩ := Cond.laysFinal_spec hlay
      have e1 : c' = cf := by have := hi.symm.trans hf'; simp at this; exact this.1.symm
      rw [hdecl] at hown2
      rw [← e1]; exact Option.some.inj (hown.symm.trans hown2)
    have h6 := u_fits hfc hkC hkind (Or.inr hlay) hi (hty k hk) hn hfit
    exact W.putFinK S.1 S.2.1 hown (hts _ hlink) (hsame _ hi) hst hcf hin2 (by rw [g2]; exact h6) g1 g3 (by rw [hsl]; exact k2_hasslot (g4 k hk)) rfl rfl hdg fin
/-- a store that fails unless its value is a boolean -/
theorem fs_Jpz {x : fs_T Unit} {v : Int32} {kk : Unit → fs_T α} {g : JFrame} (K : v = 0 ∨ v = 1 → fs_J X p l e R s m args below meth c Q rF σ0 σF (fs_bind x kk) g) : fs_J X p l e R s m args below meth c Q rF σ0 σF (fs_bind (if v = 0 ∨ v = 1 then x else fs_fail) kk) g := by
  intro σ H locs cells slots h hw hS h4 h5
  by_cases q : v = 0 ∨ v = 1
  · rw [if_pos q] at h
    exact K q σ H locs cells slots h hw hS h4 h5
  · rw [if_neg q] at h
    cases h
theorem fs_nar {v : Int32} (h : v = 0 ∨ v = 1) : narrow .boolean (.int v) = .int v := by
  rcases h with rfl | rfl <;> decide
theorem fs_Jai (S : CallFix p m c cc nL s args fs_ws own) (hG : fs_G X s) {i : Int32} (hdg : decode cc pc = .ok (.iaload, 1))
    {kk : Int32 → fs_T α} (K : ∀ v, fs_J X p l e R s m args below meth c Q rF σ0 σF (kk v) (F0 m (pc + 1) ls (.int v :: rest))) : fs_J X p l e R s m args below meth c Q rF σ0 σF (fs_bind (fs_ai a i) kk) (F0 m pc ls (.int i :: .ref a :: rest)) := by
  intro σ H locs cells slots h hw hS h4 h5
  obtain ⟨v, σ1, h1, h2⟩ := fs_bdT h
  obtain ⟨e, e1, e2, rfl⟩ := fs_rd_ok h1
  obtain ⟨n, f, rfl, e3, rfl⟩ := fs_xI_ok e2
  rcases hw.lk e1 with q | ⟨q1, -, q2⟩
  · exact va_iald (ws := [(a, .inl (fs_ta X 0, n, .inl f))]) S.1 S.2.1 hG.2.2 (fs_one q) 0 0 rfl rfl e3 hdg (K _ _ H locs cells slots h2 hw hS h4 h5)
  · exact va_sld S.1 S.2.1 (va_X.moved hG.2.1.alike q2) q1 (Nat.not_le.mpr q1) (hw.So hS) e3 hdg (K _ _ H locs cells slots h2 hw hS h4 h5)
theorem fs_Jaz (S : CallFix p m c cc nL s args fs_ws own) (hG : fs_G X s) {i : Int32} (hdg : decode cc pc = .ok (.baload, 1))
    {kk : Int32 → fs_T α} (K : ∀ v, fs_J X p l e R s m args below meth c Q rF σ0 σF (kk v) (F0 m (pc + 1) ls (.int v :: rest))) : fs_J X p l e R s m args below meth c Q rF σ0 σF (fs_bind (fs_az a i) kk) (F0 m pc ls (.int i :: .ref a :: rest)) := by
  intro σ H locs cells slots h hw hS h4 h5
  obtain ⟨v, σ1, h1, h2⟩ := fs_bdT h
  obtain ⟨e, e1, e2, rfl⟩ := fs_rd_ok h1
  obtain ⟨n, f, rfl, e3, rfl⟩ := fs_xI_ok e2
  rcases hw.lk e1 with q | ⟨-, q, -⟩
  · exact va_zald (ws := [(a, .inl (fs_ta X 2, n, .inl f))]) S.1 S.2.1 hG.2.2 (fs_one (q)) 0 2 rfl rfl e3 hdg (K _ _ H locs cells slots h2 hw hS h4 h5)
  · cases q
theorem fs_Jaj (S : CallFix p m c cc nL s args fs_ws own) (hG : fs_G X s) {i : Int32} (hdg : decode cc pc = .ok (.laload, 1))
    {kk : Int64 → fs_T α} (K : ∀ v, fs_J X p l e R s m args below meth c Q rF σ0 σF (kk v) (F0 m (pc + 1) ls (.long v :: rest))) : fs_J X p l e R s m args below meth c Q rF σ0 σF (fs_bind (fs_aj a i) kk) (F0 m pc ls (.int i :: .ref a :: rest)) := by
  intro σ H locs cells slots h hw hS h4 h5
  obtain ⟨v, σ1, h1, h2⟩ := fs_bdT h
  obtain ⟨e, e1, e2, rfl⟩ := fs_rd_ok h1
  obtain ⟨n, f, rfl, e3, rfl⟩ := fs_xJ_ok e2
  rcases hw.lk e1 with q | ⟨-, q, -⟩
  · exact va_lald (ws := [(a, .inl (fs_ta X 1, n, .inr (.inl f)))]) S.1 S.2.1 hG.2.2 (fs_one (q)) 0 1 rfl rfl e3 hdg (K _ _ H locs cells slots h2 hw hS h4 h5)
  · cases q
theorem fs_tyR {X : fs_X} {U : State} (h : va_K (fs_D X) fs_cl (fs_tys X) U) {t : Nat} (ht : t = 3 ∨ t = 4) : ∃ (C : String) (k : Nat), (fs_tys X)[k]? = some (fs_ta X t, FieldType.object C) := by
  rcases ht with rfl | rfl
  · exact ⟨_, 3, rfl⟩
  · exact ⟨_, 4, rfl⟩
theorem fs_Jsi (S : CallFix p m c cc nL s args fs_ws own) (hG : fs_G X s) {i : Int32} {v : Int32} (hdg : decode cc pc = .ok (.iastore, 1))
    {kk : Unit → fs_T α} (K : fs_J X p l e R s m args below meth c Q rF σ0 σF (kk ()) (F0 m (pc + 1) ls rest)) : fs_J X p l e R s m args below meth c Q rF σ0 σF (fs_bind (fs_si a i v) kk) (F0 m pc ls (.int v :: .int i :: .ref a :: rest)) := by
  intro σ H locs cells slots h hw hS h4 h5
  obtain ⟨u, σ1, h1, h2⟩ := fs_bdT h
  obtain ⟨e, e1, q1, q2, rfl⟩ := fs_wr_ok h1
  obtain ⟨n, f, rfl, hin, rfl⟩ := fs_yI_ok q2
  have hz := (hw.2.2.2.1 a _ q1).1
  refine W.iast S.1 S.2.1 (hw.2.2.2.1 a _ q1).2 ((hG.2.2.2 0 _ rfl).1 n (fun j => .int (f j))) (fun q => by cases q) (by show ¬ (i < 0 ∨ (arrV _ _ _).slots.size ≤ _); rw [arrV_size]; exact hin) rfl rfl hdg fun H1 e z oq => ?_
  refine K _ H1 _ cells slots h2 (hw.set q1 ?_ z oq) (fs_put hS z oq hz) h4 h5
  show H1[a]? = some (vp_cell _ _)
  rw [e]
  show some (Cell.setSlot (vp_cell _ (n, _)) _ _) = _
  rw [vp_cell_i, vp_cell_i, arrV_store]
  congr 2
  funext q
  by_cases hq : q = i.toNatClampNeg
  · subst hq
    simp [updV, upd]
  · simp [updV, upd, hq]
theorem fs_Jsj (S : CallFix p m c cc nL s args fs_ws own) (hG : fs_G X s) {i : Int32} {v : Int64} (hdg : decode cc pc = .ok (.lastore, 1))
    {kk : Unit → fs_T α} (K : fs_J X p l e R s m args below meth c Q rF σ0 σF (kk ()) (F0 m (pc + 1) ls rest)) : fs_J X p l e R s m args below meth c Q rF σ0 σF (fs_bind (fs_sj a i v) kk) (F0 m pc ls (.long v :: .int i :: .ref a :: rest)) := by
  intro σ H locs cells slots h hw hS h4 h5
  obtain ⟨u, σ1, h1, h2⟩ := fs_bdT h
  obtain ⟨e, e1, q1, q2, rfl⟩ := fs_wr_ok h1
  obtain ⟨n, f, rfl, hin, rfl⟩ := fs_yJ_ok q2
  have hz := (hw.2.2.2.1 a _ q1).1
  refine W.last S.1 S.2.1 (hw.2.2.2.1 a _ q1).2 ((hG.2.2.2 1 _ rfl).1 n (fun j => .long (f j))) (fun q => by cases q) (by show ¬ (i < 0 ∨ (arrV _ _ _).slots.size ≤ _); rw [arrV_size]; exact hin) rfl rfl hdg fun H1 e z oq => ?_
  refine K _ H1 _ cells slots h2 (hw.set q1 ?_ z oq) (fs_put hS z oq hz) h4 h5
  show H1[a]? = some (vp_cell _ _)
  rw [e]
  show some (Cell.setSlot (vp_cell _ (n, _)) _ _) = _
  rw [vp_cell_l, vp_cell_l, arrV_store]
  congr 2
  funext q
  by_cases hq : q = i.toNatClampNeg
  · subst hq
    simp [updV, vp_updL]
  · simp [updV, vp_updL, hq]
theorem fs_Jsz (S : CallFix p m c cc nL s args fs_ws own) (hG : fs_G X s) {i : Int32} {v : Int32} (hdg : decode cc pc = .ok (.bastore, 1))
    {kk : Unit → fs_T α} (K : fs_J X p l e R s m args below meth c Q rF σ0 σF (kk ()) (F0 m (pc + 1) ls rest)) : fs_J X p l e R s m args below meth c Q rF σ0 σF (fs_bind (fs_sz a i v) kk) (F0 m pc ls (.int v :: .int i :: .ref a :: rest)) := by
  refine fs_Jpz fun hv => ?_
  intro σ H locs cells slots h hw hS h4 h5
  obtain ⟨u, σ1, h1, h2⟩ := fs_bdT h
  obtain ⟨e, e1, q1, q2, rfl⟩ := fs_wr_ok h1
  obtain ⟨n, f, rfl, hin, rfl⟩ := fs_yI_ok q2
  have hz := (hw.2.2.2.1 a _ q1).1
  refine W.zast S.1 S.2.1 (hw.2.2.2.1 a _ q1).2 ((hG.2.2.2 2 _ rfl).1 n (fun j => .int (f j))) (fun q => by cases q) (by show ¬ (i < 0 ∨ (arrV _ _ _).slots.size ≤ _); rw [arrV_size]; exact hin) rfl rfl hdg fun H1 e z oq => ?_
  refine K _ H1 _ cells slots h2 (hw.set q1 ?_ z oq) (fs_put hS z oq hz) h4 h5
  show H1[a]? = some (vp_cell _ _)
  rw [e, fs_nar hv]
  show some (Cell.setSlot (vp_cell _ (n, _)) _ _) = _
  rw [vp_cell_i, vp_cell_i, arrV_store]
  congr 2
  funext q
  by_cases hq : q = i.toNatClampNeg
  · subst hq
    simp [updV, upd]
  · simp [updV, upd, hq]
theorem fs_Jal (S : CallFix p m c cc nL s args fs_ws own) (hG : fs_G X s) (hdg : decode cc pc = .ok (.arraylength, 1))
    {kk : Int32 → fs_T α} (K : ∀ v, fs_J X p l e R s m args below meth c Q rF σ0 σF (kk v) (F0 m (pc + 1) ls (.int v :: rest))) : fs_J X p l e R s m args below meth c Q rF σ0 σF (fs_bind (fs_al a) kk) (F0 m pc ls (.ref a :: rest)) := by
  intro σ H locs cells slots h hw hS h4 h5
  obtain ⟨v, σ1, h1, h2⟩ := fs_bdT h
  obtain ⟨e, e1, e2, rfl⟩ := fs_rd_ok h1
  obtain ⟨t, x, rfl, ht, rfl⟩ := fs_xL_ok e2
  have hk : ∃ (ty : FieldType) (k : Nat), (fs_tys X)[k]? = some (fs_ta X t, ty) := by
    match t, ht with
    | 0, _ => exact ⟨_, 0, rfl⟩
    | 1, _ => exact ⟨_, 1, rfl⟩
    | 2, _ => exact ⟨_, 2, rfl⟩
    | 3, _ => exact ⟨_, 3, rfl⟩
    | 4, _ => exact ⟨_, 4, rfl⟩
    | n + 5, h => exact absurd h (by omega)
  obtain ⟨ty, k, hk⟩ := hk
  rcases hw.lk e1 with q | ⟨q1, q2⟩
  · exact va_alen (ws := [(a, .inl (fs_ta X t, x))]) S.1 S.2.1 hG.2.2 (fs_one (q)) 0 k rfl hk rfl hdg (K _ _ H locs cells slots h2 hw hS h4 h5)
  · obtain ⟨n, f | f⟩ := x
    · exact va_slen S.1 S.2.1 (va_X.moved hG.2.1.alike q2.2) q1 (Nat.not_le.mpr q1) (hw.So hS) hdg (K _ _ H locs cells slots h2 hw hS h4 h5)
    · obtain ⟨-, rfl, scr, r1, r2, r3⟩ := q2
      exact W.alen (n := Int32.ofNat 0) S.1 S.2.1 (by rw [hw.2.2.2.2.2 a q1]; exact r1) (State.isArrayOf_alike hG.2.1.alike r2) (by rw [r3]) rfl rfl hdg (K _ _ H locs cells slots h2 hw hS h4 h5)
theorem fs_Jck (S : CallFix p m c cc nL s args fs_ws own) (hG : fs_G X s) (hc : fs_cl[ci]? = some (C, T, N)) (hlink : Cond.classLink own index C ∈ fs_ws) (hcast : Cond.castable C C ∈ lw_tbl) (hdg : decode cc pc = .ok (.checkcast index, 3))
    {kk : Unit → fs_T α} (K : fs_J X p l e R s m args below meth c Q rF σ0 σF (kk ()) (F0 m (pc + 3) ls (.ref a :: rest))) : fs_J X p l e R s m args below meth c Q rF σ0 σF (fs_bind (fs_ck a ci) kk) (F0 m pc ls (.ref a :: rest)) := by
  intro σ H locs cells slots h hw hS h4 h5
  obtain ⟨v, σ1, h1, h2⟩ := fs_bdT h
  obtain ⟨fs, e1, rfl⟩ := fs_ck_ok h1
  exact va_castY S.1 S.2.1 S.2.2.2.1 (S.2.2.2.2 _ hlink) (hG.castable hcast) (va_recv (ws := [(a, .inr (ci, fs))]) hG.2.2 (fs_one (hw.lko e1)) hc (q0 := 0) rfl) hdg (K _ H locs cells slots h2 hw hS h4 h5)
theorem fs_Jnw (S : CallFix p m c cc nL s args fs_ws own) (hG : fs_G X s) (hR : fs_n σF ≤ fs_n σ0 + R.cells ∧ fs_u σF ≤ fs_u σ0 + R.slots) (hin : ∀ w ∈ u_ws C T N, w ∈ fs_ws) (hc : fs_cl[ci]? = some (C, T, N)) (ty0 : Nat → FieldType) (hty : ∀ k, k < N → parseFieldDescriptor (T k).2.2.1 = some (ty0 k)) {ds : List Value} (hds : ∀ j, j < N → defaultValue (ty0 j) = vp_V ds j) (hlen : ds.length = N)
    (hlink : Cond.classLink own index C ∈ fs_ws) (hinst : Cond.instantiable C N ∈ fs_ws) (hini : Cond.initialized C ∈ fs_ws) (hdg : decode cc pc = .ok (.new index, 3))
    {kk : Nat → fs_T α} (K : ∀ v, fs_J X p l e R s m args below meth c Q rF σ0 σF (kk v) (F0 m (pc + 3) ls (.ref v :: rest))) : fs_J X p l e R s m args below meth c Q rF σ0 σF (fs_bind (fs_nw ci ds) kk) (F0 m pc ls rest) := by
  intro σ H locs cells slots h hw hS h4 h5
  obtain ⟨v, σ1, h1, h2⟩ := fs_bdT h
  cases h1
  have hm := (kk (fs_n σ)).2 _ _ _ h2
  have hm1 : fs_n σ + 1 ≤ fs_n σF := hm.1
  have hm2 : fs_u σ + ds.length ≤ fs_u σF := hm.2
  have hKn := hG.2.2.1 ci _ hc
  have hts := S.2.2.2.2
  refine W.newcK S.1 S.2.1 S.2.2.2.1 (hts _ hlink) (hts _ hinst) (hts _ hini) rfl hdg (by omega) (by omega) hKn.2.1 rfl fun H1 kC hkC e1 z1 o1 => ?_
  have hz : H.size = fs_n σ := hw.1
  rw [hz]
  refine K _ _ H1 locs (cells + 1) (slots + N) h2 (hw.push ⟨_, hc, (u_born ty0 hts hin hKn hkC e1 hty).to hds⟩ z1 o1) (fs_new hS z1 o1) (by show _ = fs_n σ + 1; omega) (by show _ = fs_u σ + ds.length; omega)
theorem fs_Jwi (S : CallFix p m c cc nL s args fs_ws own) (hG : fs_G X s) (hR : fs_n σF ≤ fs_n σ0 + R.cells ∧ fs_u σF ≤ fs_u σ0 + R.slots) {n : Int32} {at9 : ArrayType} (hat : newarray.typeOf at9 = .int) (harr : Cond.arrayClass .int ∈ fs_ws) (hdg : decode cc pc = .ok (.newarray at9, 2))
    {kk : Nat → fs_T α} (K : ∀ v, fs_J X p l e R s m args below meth c Q rF σ0 σF (kk v) (F0 m (pc + 2) ls (.ref v :: rest))) : fs_J X p l e R s m args below meth c Q rF σ0 σF (fs_bind (fs_ni n) kk) (F0 m pc ls (.int n :: rest)) := by
  intro σ H locs cells slots h hw hS h4 h5
  obtain ⟨v, σ1, h1, h2⟩ := fs_bdT h
  unfold fs_ni at h1
  by_cases q : ¬ n < 0 ∧ n.toNatClampNeg ≤ 65536
  · rw [if_pos q] at h1
    cases h1
    have hm := (kk (fs_n σ)).2 _ _ _ h2
    have hm1 : fs_n σ + 1 ≤ fs_n σF := hm.1
    have hm2 : fs_u σ + n.toNatClampNeg ≤ fs_u σF := hm.2
    have hts := S.2.2.2.2
    have hcb : componentBytes .int ≤ 8 := by decide
    have hb1 : n.toNatClampNeg * componentBytes .int ≤ 65536 * 8 := Nat.mul_le_mul q.2 hcb
    refine va_newaK S.1 S.2.1 (atype := at9) (by rw [hat]; exact hts _ harr) rfl hdg rfl q.1 rfl (by rw [hat]; omega) (by omega) (by omega) rfl fun H1 cA e1 z1 o1 hAr hNm => ?_
    rw [hat] at hNm e1
    have hcA : cA = fs_ta X 0 := Option.some.inj (hNm.symm.trans (hG.2.2.2 0 _ rfl).2)
    subst hcA
    have hz : H.size = fs_n σ := hw.1
    refine W.eq (g2 := F0 m (pc + 2) ls (.ref (fs_n σ) :: rest)) (by rw [← hz]) ?_
    exact K _ _ H1 locs (cells + 1) (slots + n.toNatClampNeg) h2 (hw.push (show H1[H.size]? = some (vp_cell _ _) by rw [vp_cell_i]; exact e1) z1 o1) (fs_new hS z1 o1) (by show _ = fs_n σ + 1; omega) (by show _ = fs_u σ + n.toNatClampNeg; omega)
  · rw [if_neg q] at h1
    cases h1
theorem fs_Jwj (S : CallFix p m c cc nL s args fs_ws own) (hG : fs_G X s) (hR : fs_n σF ≤ fs_n σ0 + R.cells ∧ fs_u σF ≤ fs_u σ0 + R.slots) {n : Int32} {at9 : ArrayType} (hat : newarray.typeOf at9 = .long) (harr : Cond.arrayClass .long ∈ fs_ws) (hdg : decode cc pc = .ok (.newarray at9, 2))
    {kk : Nat → fs_T α} (K : ∀ v, fs_J X p l e R s m args below meth c Q rF σ0 σF (kk v) (F0 m (pc + 2) ls (.ref v :: rest))) : fs_J X p l e R s m args below meth c Q rF σ0 σF (fs_bind (fs_nj n) kk) (F0 m pc ls (.int n :: rest)) := by
  intro σ H locs cells slots h hw hS h4 h5
  obtain ⟨v, σ1, h1, h2⟩ := fs_bdT h
  unfold fs_nj at h1
  by_cases q : ¬ n < 0 ∧ n.toNatClampNeg ≤ 65536
  · rw [if_pos q] at h1
    cases h1
    have hm := (kk (fs_n σ)).2 _ _ _ h2
    have hm1 : fs_n σ + 1 ≤ fs_n σF := hm.1
    have hm2 : fs_u σ + n.toNatClampNeg ≤ fs_u σF := hm.2
    have hts := S.2.2.2.2
    have hcb : componentBytes .long ≤ 8 := by decide
    have hb1 : n.toNatClampNeg * componentBytes .long ≤ 65536 * 8 := Nat.mul_le_mul q.2 hcb
    refine va_newaK S.1 S.2.1 (atype := at9) (by rw [hat]; exact hts _ harr) rfl hdg rfl q.1 rfl (by rw [hat]; omega) (by omega) (by omega) rfl fun H1 cA e1 z1 o1 hAr hNm => ?_
    rw [hat] at hNm e1
    have hcA : cA = fs_ta X 1 := Option.some.inj (hNm.symm.trans (hG.2.2.2 1 _ rfl).2)
    subst hcA
    have hz : H.size = fs_n σ := hw.1
    refine W.eq (g2 := F0 m (pc + 2) ls (.ref (fs_n σ) :: rest)) (by rw [← hz]) ?_
    exact K _ _ H1 locs (cells + 1) (slots + n.toNatClampNeg) h2 (hw.push (show H1[H.size]? = some (vp_cell _ _) by rw [vp_cell_l]; exact e1) z1 o1) (fs_new hS z1 o1) (by show _ = fs_n σ + 1; omega) (by show _ = fs_u σ + n.toNatClampNeg; omega)
  · rw [if_neg q] at h1
    cases h1
theorem fs_Jwz (S : CallFix p m c cc nL s args fs_ws own) (hG : fs_G X s) (hR : fs_n σF ≤ fs_n σ0 + R.cells ∧ fs_u σF ≤ fs_u σ0 + R.slots) {n : Int32} {at9 : ArrayType} (hat : newarray.typeOf at9 = .boolean) (harr : Cond.arrayClass .boolean ∈ fs_ws) (hdg : decode cc pc = .ok (.newarray at9, 2))
    {kk : Nat → fs_T α} (K : ∀ v, fs_J X p l e R s m args below meth c Q rF σ0 σF (kk v) (F0 m (pc + 2) ls (.ref v :: rest))) : fs_J X p l e R s m args below meth c Q rF σ0 σF (fs_bind (fs_nz n) kk) (F0 m pc ls (.int n :: rest)) := by
  intro σ H locs cells slots h hw hS h4 h5
  obtain ⟨v, σ1, h1, h2⟩ := fs_bdT h
  unfold fs_nz at h1
  by_cases q : ¬ n < 0 ∧ n.toNatClampNeg ≤ 65536
  · rw [if_pos q] at h1
    cases h1
    have hm := (kk (fs_n σ)).2 _ _ _ h2
    have hm1 : fs_n σ + 1 ≤ fs_n σF := hm.1
    have hm2 : fs_u σ + n.toNatClampNeg ≤ fs_u σF := hm.2
    have hts := S.2.2.2.2
    have hcb : componentBytes .boolean ≤ 8 := by decide
    have hb1 : n.toNatClampNeg * componentBytes .boolean ≤ 65536 * 8 := Nat.mul_le_mul q.2 hcb
    refine va_newaK S.1 S.2.1 (atype := at9) (by rw [hat]; exact hts _ harr) rfl hdg rfl q.1 rfl (by rw [hat]; omega) (by omega) (by omega) rfl fun H1 cA e1 z1 o1 hAr hNm => ?_
    rw [hat] at hNm e1
    have hcA : cA = fs_ta X 2 := Option.some.inj (hNm.symm.trans (hG.2.2.2 2 _ rfl).2)
    subst hcA
    have hz : H.size = fs_n σ := hw.1
    refine W.eq (g2 := F0 m (pc + 2) ls (.ref (fs_n σ) :: rest)) (by rw [← hz]) ?_
    exact K _ _ H1 locs (cells + 1) (slots + n.toNatClampNeg) h2 (hw.push (show H1[H.size]? = some (vp_cell _ _) by rw [vp_cell_i]; exact e1) z1 o1) (fs_new hS z1 o1) (by show _ = fs_n σ + 1; omega) (by show _ = fs_u σ + n.toNatClampNeg; omega)
  · rw [if_neg q] at h1
    cases h1
end FSH
end
section
/-! ends of methods, and calls that return -/
section FSC
variable {X : fs_X} {p : Program} {l : Launch} {e : Env} {R : Room} {s : State} {m : MethodId} {args : Array Value} {below : List Frame} {meth : Method} {c : Code} {Q Q2 : State → Prop} {α β : Type} {rF : α} {σ0 σF : fs_S}
variable {cc : ByteArray} {nL : Nat} {own ref C : String} {T : u_T} {N ci index a pc : Nat} {ls : Array Slot} {rest : List Value} {H : Heap} {locs : List Loc} {cells slots : Nat}
theorem fs_mono {g : JFrame} (h : ∀ t, Q t → Q2 t) (k : W p l e R s m args below meth c H locs cells slots Q g) : W p l e R s m args below meth c H locs cells slots Q2 g := by
  intro T hT X
  obtain ⟨t, a1, b1⟩ := k T hT X
  exact ⟨t, a1, h t b1⟩
theorem fs_end {rv : Option Value ⊕ String} {v : Option Value} (hv : rv = .inl v) (h4 : fs_n σ0 + cells = fs_n σF) (h5 : fs_u σ0 + slots = fs_u σF) : ∀ t, MQ below (fs_Qr X v σF) args s cells slots (fs_A X) t → fs_Q X below args s rv σ0 σF t := by
  intro t ht
  obtain ⟨o, h1, h2, ⟨ho, hw, hF⟩, L, ⟨-, hW, hsm⟩, hL⟩ := ht
  subst hv
  have e1 : fs_n σF - fs_n σ0 = cells := by omega
  have e2 : fs_u σF - fs_u σ0 = slots := by omega
  exact ⟨o, h1, h2, ho, hw, hF, hW, L, by rw [e1, e2]; exact hsm, hL⟩
theorem fs_Jiret (S : CallFix p m c cc nL s args fs_ws own) (hr : meth.sig.returnType = some .int) (hlocks : meth.locks = false) {enc : α → Option Value ⊕ String} {w : α} {x : Int32} (he : enc w = .inl (some (.int x))) (hdg : decode cc pc = .ok (.ireturn, 1)) :
    fs_J X p l e R s m args below meth c (fs_Q X below args s (enc rF) σ0 σF) rF σ0 σF (fs_ret w) (F0 m pc ls [.int x]) := by
  intro σ H locs cells slots h hw hS h4 h5
  cases h
  exact fs_mono (fs_end he h4 h5) (W.iret S.1 S.2.1 hr (fun t ht hW => ⟨rfl, by rw [ht]; exact hw, hS.F ht⟩) hS.2.2 hdg hlocks)
theorem fs_Jzret (S : CallFix p m c cc nL s args fs_ws own) (hr : meth.sig.returnType = some .boolean) (hlocks : meth.locks = false) {enc : α → Option Value ⊕ String} {w : α} {x : Int32} (he : enc w = .inl (some (.int x))) (hdg : decode cc pc = .ok (.ireturn, 1)) :
    fs_J X p l e R s m args below meth c (fs_Q X below args s (enc rF) σ0 σF) rF σ0 σF (if x = 0 ∨ x = 1 then fs_ret w else fs_fail) (F0 m pc ls [.int x]) := by
  intro σ H locs cells slots h hw hS h4 h5
  by_cases q : x = 0 ∨ x = 1
  · rw [if_pos q] at h
    cases h
    exact fs_mono (fs_end he h4 h5) (W.zret S.1 S.2.1 hr (fs_nar q) (fun t ht hW => ⟨rfl, by rw [ht]; exact hw, hS.F ht⟩) hS.2.2 hdg hlocks)
  · rw [if_neg q] at h
    cases h
theorem fs_Jlret (S : CallFix p m c cc nL s args fs_ws own) (hr : meth.sig.returnType = some .long) (hlocks : meth.locks = false) {enc : α → Option Value ⊕ String} {w : α} {x : Int64} (he : enc w = .inl (some (.long x))) (hdg : decode cc pc = .ok (.lreturn, 1)) :
    fs_J X p l e R s m args below meth c (fs_Q X below args s (enc rF) σ0 σF) rF σ0 σF (fs_ret w) (F0 m pc ls [.long x]) := by
  intro σ H locs cells slots h hw hS h4 h5
  cases h
  exact fs_mono (fs_end he h4 h5) (W.lret S.1 S.2.1 hr (fun t ht hW => ⟨rfl, by rw [ht]; exact hw, hS.F ht⟩) hS.2.2 hdg hlocks)
theorem fs_Jaret (S : CallFix p m c cc nL s args fs_ws own) {rt : FieldType} (hr : meth.sig.returnType = some rt) (hrt : (∃ n, rt = .object n) ∨ ∃ t, rt = .array t) (hlocks : meth.locks = false) {enc : α → Option Value ⊕ String} {w : α} {x : Nat} (he : enc w = .inl (some (.ref x))) (hdg : decode cc pc = .ok (.areturn, 1)) :
    fs_J X p l e R s m args below meth c (fs_Q X below args s (enc rF) σ0 σF) rF σ0 σF (fs_ret w) (F0 m pc ls [.ref x]) := by
  intro σ H locs cells slots h hw hS h4 h5
  cases h
  exact fs_mono (fs_end he h4 h5) (W.aret S.1 S.2.1 hr hrt (Or.inr ⟨x, rfl⟩) (fun t ht hW => ⟨rfl, by rw [ht]; exact hw, hS.F ht⟩) hS.2.2 hdg hlocks)
theorem fs_Jvret (S : CallFix p m c cc nL s args fs_ws own) (hr : meth.sig.returnType = none) (hlocks : meth.locks = false) {enc : α → Option Value ⊕ String} {w : α} (he : enc w = .inl none) (hdg : decode cc pc = .ok (.return_, 1)) :
    fs_J X p l e R s m args below meth c (fs_Q X below args s (enc rF) σ0 σF) rF σ0 σF (fs_ret w) (F0 m pc ls []) := by
  intro σ H locs cells slots h hw hS h4 h5
  cases h
  exact fs_mono (fs_end he h4 h5) (W.vret S.1 S.2.1 hr (fun t ht hW => ⟨rfl, by rw [ht]; exact hw, hS.F ht⟩) hS.2.2 hdg hlocks)
theorem fs_go {mc ms : Nat} {v : Option Value} {σ1 : fs_S} {a : Array Value} {st0 : List Value} (hr : va_Run p l e R s m args below meth c H locs cells slots mc ms (F0 m pc ls st0) rest (fs_Qr X v σ1 a) (fs_A X)) (hS : va_S (fs_A X) s.heap H locs)
    (kk : ∀ (H1 : Heap) (locs1 : List Loc), fs_w X σ1 H1 → va_S (fs_A X) s.heap H1 locs1 → W p l e R s m args below meth c H1 locs1 (cells + mc) (slots + ms) Q (F0 m (pc + 3) ls (v.toList ++ rest))) : W p l e R s m args below meth c H locs cells slots Q (F0 m pc ls st0) := by
  intro T hT X'
  obtain ⟨v', st₀, t, T', L, h0, XX, hL, e1, e2, ⟨hv, hw, hz, hk⟩, st⟩ := hr T hT X'
  cases hv
  rw [h0] at hz hk
  obtain ⟨t2, a1, b1⟩ := kk T'.heap (locs ++ L) (by rw [e1]; exact hw) ⟨Nat.le_trans hS.1 (by rw [e1]; exact hz), fun q h1 h2 => by rw [e1, hk q (Nat.lt_of_lt_of_le h1 hS.1) h2]; exact hS.2.1 q h1 h2, fun q hq => by
      rcases List.mem_append.mp hq with h | h
      · exact hS.2.2 q h
      · exact hL q h⟩ T' rfl XX
  exact ⟨t2, st t2 a1, b1⟩
/-- a call of an object's method: the receiver is of the class -/
def fs_cv {α : Type} (b ci : Nat) (x : fs_T α) : fs_T α := fs_bind (fs_ck b ci) fun _ => x
variable {y : MethodName} {bytes : ByteArray} {maxL fr lo b : Nat} {ret : Option FieldType} {As st0 : List Value}
theorem fs_JV (S : CallFix p m c cc nL s args fs_ws own) (hG : fs_G X s) (hR : fs_n σF ≤ fs_n σ0 + R.cells ∧ fs_u σF ≤ fs_u σ0 + R.slots) (hc : fs_cl[ci]? = some (C, T, N)) (As : List Value) {x : fs_T β} {enc : β → Option Value}
    (hM : ∀ r σ σ1, x.1 σ = some (r, σ1) → fs_Met X l y (Cond.code y bytes maxL ret) fr lo (.ref b :: As) σ (.inl (enc r)) σ1)
    (wl : Cond.methodLink own index y ∈ fs_ws) (wi : Cond.instanceMethod y ∈ fs_ws) (wx : Cond.selects C y y ∈ fs_ws) (wc : Cond.code y bytes maxL ret ∈ fs_ws) (wn : Cond.initialized y.cls ∈ fs_ws)
    (hd : y.cls ≠ "java/lang/invoke/MethodHandle" ∧ y.cls ≠ "java/lang/invoke/VarHandle" ∧ (parseMethodDescriptor y.desc).map (fun d => d.parameters.length) = some As.length) (hfr : fr + 1 ≤ R.frames ∧ 8 + (maxL + 11) + lo ≤ R.locals)
    (hsz : ls.size = nL) (hst : st0 = As.reverse ++ .ref b :: rest) (hW : (rest.map fun v => v.category).sum ≤ 8) (hdg : decode cc pc = .ok (.invokevirtual index, 3))
    {kk : β → fs_T α} (K : ∀ r, fs_J X p l e R s m args below meth c Q rF σ0 σF (kk r) (F0 m (pc + 3) ls ((enc r).toList ++ rest))) : fs_J X p l e R s m args below meth c Q rF σ0 σF (fs_bind (fs_cv b ci x) kk) (F0 m pc ls st0) := by
  intro σ H locs cells slots h hw hS h4 h5
  obtain ⟨r, σ1, h1, h2⟩ := fs_bdT h
  obtain ⟨u, σ2, h1a, h1b⟩ := fs_bdT h1
  obtain ⟨fs, e1, rfl⟩ := fs_ck_ok h1a
  have hm1 := x.2 _ _ _ h1b
  have hm2 := (kk r).2 _ _ _ h2
  have q1 := hm1.1
  have q2 := hm1.2
  have q3 := hm2.1
  have q4 := hm2.2
  have hts := S.2.2.2.2
  refine fs_go (mc := fs_n σ1 - fs_n σ2) (ms := fs_u σ1 - fs_u σ2) (va_runV (As := As) (rest := rest) S (hM r σ2 σ1 h1b).ret ⟨callB_of As.length hts (fs_gd wc) rfl rfl rfl (hts _ wn) (hts _ wl) hd hfr, hts _ wi, hts _ wx⟩ ⟨fs_blind, va_recv (ws := [(b, .inr (ci, fs))]) hG.2.2 (fs_one (hw.lko e1)) hc (q0 := 0) rfl, fun U hU hW2 => ⟨rfl, by rw [hU]; exact hw, hG.moved hW2⟩⟩ rfl rfl hsz hst (lv_room hW) hdg ⟨by omega, by omega⟩) hS (fun H1 locs1 hw1 hS1 => ?_)
  exact K r σ1 H1 locs1 _ _ h2 hw1 hS1 (by omega) (by omega)
theorem fs_JS (S : CallFix p m c cc nL s args fs_ws own) (hG : fs_G X s) (hR : fs_n σF ≤ fs_n σ0 + R.cells ∧ fs_u σF ≤ fs_u σ0 + R.slots) (As : List Value) {x : fs_T β} {enc : β → Option Value}
    (hM : ∀ r σ σ1, x.1 σ = some (r, σ1) → fs_Met X l y (Cond.code y bytes maxL ret) fr lo As σ (.inl (enc r)) σ1)
    (wl : Cond.methodLink own index y ∈ fs_ws) (wi : Cond.static y ∈ fs_ws) (wc : Cond.code y bytes maxL ret ∈ fs_ws) (wn : Cond.initialized y.cls ∈ fs_ws)
    (hd : y.cls ≠ "java/lang/invoke/MethodHandle" ∧ y.cls ≠ "java/lang/invoke/VarHandle" ∧ (parseMethodDescriptor y.desc).map (fun d => d.parameters.length) = some As.length) (hfr : fr + 1 ≤ R.frames ∧ 8 + (maxL + 11) + lo ≤ R.locals)
    (hsz : ls.size = nL) (hst : st0 = As.reverse ++ rest) (hW : (rest.map fun v => v.category).sum ≤ 8) (hdg : decode cc pc = .ok (.invokestatic index, 3))
    {kk : β → fs_T α} (K : ∀ r, fs_J X p l e R s m args below meth c Q rF σ0 σF (kk r) (F0 m (pc + 3) ls ((enc r).toList ++ rest))) : fs_J X p l e R s m args below meth c Q rF σ0 σF (fs_bind x kk) (F0 m pc ls st0) := by
  intro σ H locs cells slots h hw hS h4 h5
  obtain ⟨r, σ1, h1, h2⟩ := fs_bdT h
  have hm1 := x.2 _ _ _ h1
  have hm2 := (kk r).2 _ _ _ h2
  have q1 := hm1.1
  have q2 := hm1.2
  have q3 := hm2.1
  have q4 := hm2.2
  have hts := S.2.2.2.2
  refine fs_go (mc := fs_n σ1 - fs_n σ) (ms := fs_u σ1 - fs_u σ) (va_runS (As := As) (rest := rest) S (hM r σ σ1 h1).ret ⟨callB_of As.length hts (fs_gd wc) rfl rfl rfl (hts _ wn) (hts _ wl) hd hfr, hts _ wi⟩ ⟨fs_blind, fun U hU hW2 => ⟨rfl, by rw [hU]; exact hw, hG.moved hW2⟩⟩ rfl rfl hsz hst (lv_room hW) hdg ⟨by omega, by omega⟩) hS (fun H1 locs1 hw1 hS1 => ?_)
  exact K r σ1 H1 locs1 _ _ h2 hw1 hS1 (by omega) (by omega)
theorem fs_JI (S : CallFix p m c cc nL s args fs_ws own) (hG : fs_G X s) (hR : fs_n σF ≤ fs_n σ0 + R.cells ∧ fs_u σF ≤ fs_u σ0 + R.slots) (As : List Value) {x : fs_T Unit}
    (hM : ∀ r σ σ1, x.1 σ = some (r, σ1) → fs_Met X l y (Cond.code y bytes maxL none) fr lo (.ref b :: As) σ (.inl none) σ1)
    (wl : Cond.methodLink own index y ∈ fs_ws) (wi : Cond.instanceMethod y ∈ fs_ws) (wc : Cond.code y bytes maxL none ∈ fs_ws) (wn : Cond.initialized y.cls ∈ fs_ws) (hnm : y.name = "<init>")
    (hd : y.cls ≠ "java/lang/invoke/MethodHandle" ∧ y.cls ≠ "java/lang/invoke/VarHandle" ∧ (parseMethodDescriptor y.desc).map (fun d => d.parameters.length) = some As.length) (hfr : fr + 1 ≤ R.frames ∧ 8 + (maxL + 11) + lo ≤ R.locals)
    (hsz : ls.size = nL) (hst : st0 = As.reverse ++ .ref b :: rest) (hW : (rest.map fun v => v.category).sum ≤ 8) (hdg : decode cc pc = .ok (.invokespecial index, 3))
    {kk : Unit → fs_T α} (K : fs_J X p l e R s m args below meth c Q rF σ0 σF (kk ()) (F0 m (pc + 3) ls rest)) : fs_J X p l e R s m args below meth c Q rF σ0 σF (fs_bind x kk) (F0 m pc ls st0) := by
  intro σ H locs cells slots h hw hS h4 h5
  obtain ⟨r, σ1, h1, h2⟩ := fs_bdT h
  have hm1 := x.2 _ _ _ h1
  have hm2 := (kk r).2 _ _ _ h2
  have q1 := hm1.1
  have q2 := hm1.2
  have q3 := hm2.1
  have q4 := hm2.2
  have hts := S.2.2.2.2
  refine fs_go (mc := fs_n σ1 - fs_n σ) (ms := fs_u σ1 - fs_u σ) (va_runI (As := As) (rest := rest) S (hM r σ σ1 h1).ret ⟨callB_of As.length hts (fs_gd wc) rfl rfl rfl (hts _ wn) (hts _ wl) hd hfr, hnm, hts _ wi⟩ ⟨fs_blind, fun U hU hW2 => ⟨rfl, by rw [hU]; exact hw, hG.moved hW2⟩⟩ rfl rfl hsz hst (lv_room hW) hdg ⟨by omega, by omega⟩) hS (fun H1 locs1 hw1 hS1 => ?_)
  exact K σ1 H1 locs1 _ _ h2 hw1 hS1 (by omega) (by omega)
/-- private constructors and methods of a nest mate -/
theorem fs_JIN (S : CallFix p m c cc nL s args fs_ws own) (hG : fs_G X s) (hR : fs_n σF ≤ fs_n σ0 + R.cells ∧ fs_u σF ≤ fs_u σ0 + R.slots) (As : List Value) {x : fs_T Unit} {host : String}
    (hM : ∀ r σ σ1, x.1 σ = some (r, σ1) → fs_Met X l y (Cond.code y bytes maxL none) fr lo (.ref b :: As) σ (.inl none) σ1)
    (wl : Cond.methodLinkNest own index y host ∈ lw_tbl) (wi : Cond.instanceMethod y ∈ fs_ws) (wc : Cond.code y bytes maxL none ∈ fs_ws) (wn : Cond.initialized y.cls ∈ fs_ws) (hnm : y.name = "<init>")
    (hd : y.cls ≠ "java/lang/invoke/MethodHandle" ∧ y.cls ≠ "java/lang/invoke/VarHandle" ∧ (parseMethodDescriptor y.desc).map (fun d => d.parameters.length) = some As.length) (hfr : fr + 1 ≤ R.frames ∧ 8 + (maxL + 11) + lo ≤ R.locals)
    (hsz : ls.size = nL) (hst : st0 = As.reverse ++ .ref b :: rest) (hW : (rest.map fun v => v.category).sum ≤ 8) (hdg : decode cc pc = .ok (.invokespecial index, 3))
    {kk : Unit → fs_T α} (K : fs_J X p l e R s m args below meth c Q rF σ0 σF (kk ()) (F0 m (pc + 3) ls rest)) : fs_J X p l e R s m args below meth c Q rF σ0 σF (fs_bind x kk) (F0 m pc ls st0) := by
  intro σ H locs cells slots h hw hS h4 h5
  obtain ⟨r, σ1, h1, h2⟩ := fs_bdT h
  have hm1 := x.2 _ _ _ h1
  have hm2 := (kk r).2 _ _ _ h2
  have q1 := hm1.1
  have q2 := hm1.2
  have q3 := hm2.1
  have q4 := hm2.2
  have hts := S.2.2.2.2
  refine fs_go (mc := fs_n σ1 - fs_n σ) (ms := fs_u σ1 - fs_u σ) (va_runIN (As := As) (rest := rest) S (hM r σ σ1 h1).ret ⟨va_cnB As.length hts (fs_gd wc) rfl rfl rfl (hG.nest wl) (hts _ wn) hd hfr, hnm, hts _ wi⟩ ⟨fs_blind, fun U hU hW2 => ⟨rfl, by rw [hU]; exact hw, hG.moved hW2⟩⟩ rfl rfl hsz hst (lv_room hW) hdg ⟨by omega, by omega⟩) hS (fun H1 locs1 hw1 hS1 => ?_)
  exact K σ1 H1 locs1 _ _ h2 hw1 hS1 (by omega) (by omega)
theorem fs_JSN (S : CallFix p m c cc nL s args fs_ws own) (hG : fs_G X s) (hR : fs_n σF ≤ fs_n σ0 + R.cells ∧ fs_u σF ≤ fs_u σ0 + R.slots) (As : List Value) {x : fs_T β} {enc : β → Option Value} {host : String}
    (hM : ∀ r σ σ1, x.1 σ = some (r, σ1) → fs_Met X l y (Cond.code y bytes maxL ret) fr lo As σ (.inl (enc r)) σ1)
    (wl : Cond.methodLinkNest own index y host ∈ lw_tbl) (wi : Cond.static y ∈ fs_ws) (wc : Cond.code y bytes maxL ret ∈ fs_ws) (wn : Cond.initialized y.cls ∈ fs_ws)
    (hd : y.cls ≠ "java/lang/invoke/MethodHandle" ∧ y.cls ≠ "java/lang/invoke/VarHandle" ∧ (parseMethodDescriptor y.desc).map (fun d => d.parameters.length) = some As.length) (hfr : fr + 1 ≤ R.frames ∧ 8 + (maxL + 11) + lo ≤ R.locals)
    (hsz : ls.size = nL) (hst : st0 = As.reverse ++ rest) (hW : (rest.map fun v => v.category).sum ≤ 8) (hdg : decode cc pc = .ok (.invokestatic index, 3))
    {kk : β → fs_T α} (K : ∀ r, fs_J X p l e R s m args below meth c Q rF σ0 σF (kk r) (F0 m (pc + 3) ls ((enc r).toList ++ rest))) : fs_J X p l e R s m args below meth c Q rF σ0 σF (fs_bind x kk) (F0 m pc ls st0) := by
  intro σ H locs cells slots h hw hS h4 h5
  obtain ⟨r, σ1, h1, h2⟩ := fs_bdT h
  have hm1 := x.2 _ _ _ h1
  have hm2 := (kk r).2 _ _ _ h2
  have q1 := hm1.1
  have q2 := hm1.2
  have q3 := hm2.1
  have q4 := hm2.2
  have hts := S.2.2.2.2
  refine fs_go (mc := fs_n σ1 - fs_n σ) (ms := fs_u σ1 - fs_u σ) (va_runSN (As := As) (rest := rest) S (hM r σ σ1 h1).ret ⟨va_cnB As.length hts (fs_gd wc) rfl rfl rfl (hG.nest wl) (hts _ wn) hd hfr, hts _ wi, trivial⟩ ⟨fs_blind, fun U hU hW2 => ⟨rfl, by rw [hU]; exact hw, hG.moved hW2⟩⟩ rfl rfl hsz hst (lv_room hW) hdg ⟨by omega, by omega⟩) hS (fun H1 locs1 hw1 hS1 => ?_)
  exact K r σ1 H1 locs1 _ _ h2 hw1 hS1 (by omega) (by omega)
theorem fs_JO (S : CallFix p m c cc nL s args fs_ws own) {t : fs_T α} (wl : Cond.methodLink own index Lib.objectInit ∈ fs_ws) (wi : Cond.instanceMethod Lib.objectInit ∈ fs_ws) (wc : Cond.code Lib.objectInit ⟨#[0xb1]⟩ 1 none ∈ fs_ws) (hsz : ls.size = nL) (hfr : 1 ≤ R.frames) (hlo : (rest.map fun v => v.category).sum + 12 ≤ R.locals) (hdg : decode cc pc = .ok (.invokespecial index, 3))
    (K : fs_J X p l e R s m args below meth c Q rF σ0 σF t (F0 m (pc + 3) ls rest)) : fs_J X p l e R s m args below meth c Q rF σ0 σF t (F0 m pc ls (.ref a :: rest)) := by
  refine fs_lift (fun H locs cells slots k => ?_) K
  have hts := S.2.2.2.2
  exact W.objInit S.1 S.2.1 S.2.2.2.1 (hts _ wl) (hts _ wi) (hts _ wc) rfl (by rw [S.2.2.1]; exact hsz) rfl hdg hfr (by show 2 * 0 + _ + 12 ≤ _; omega) k
end FSC
end
section
/-! encodings of answers; joins; switches -/
def fs_eV (_ : Unit) : Option Value ⊕ String := .inl none
def fs_eI (v : Int32) : Option Value ⊕ String := .inl (some (.int v))
def fs_eJ (v : Int64) : Option Value ⊕ String := .inl (some (.long v))
def fs_eR (v : Nat) : Option Value ⊕ String := .inl (some (.ref v))
def fs_qV (r : Unit ⊕ String) : Option Value ⊕ String := match r with
  | .inl _ => .inl none
  | .inr e => .inr e
def fs_qI (r : Int32 ⊕ String) : Option Value ⊕ String := match r with
  | .inl v => .inl (some (.int v))
  | .inr e => .inr e
def fs_qJ (r : Int64 ⊕ String) : Option Value ⊕ String := match r with
  | .inl v => .inl (some (.long v))
  | .inr e => .inr e
def fs_qR (r : Nat ⊕ String) : Option Value ⊕ String := match r with
  | .inl v => .inl (some (.ref v))
  | .inr e => .inr e
theorem fs_hR {fr lo : Nat} {σ σF : fs_S} (h : fs_le σ σF) : fs_n σF ≤ fs_n σ + (fs_rm fr lo σ σF).cells ∧ fs_u σF ≤ fs_u σ + (fs_rm fr lo σ σF).slots := by
  have h1 := h.1
  have h2 := h.2
  constructor
  · show fs_n σF ≤ fs_n σ + (fs_n σF - fs_n σ)
    omega
  · show fs_u σF ≤ fs_u σ + (fs_u σF - fs_u σ)
    omega
theorem fs_tout {x : Int32} (hi : Nat) (h : ∀ k, k < hi + 1 → ¬ x = nI k) (hh : hi < 2 ^ 30) : x.toInt < 0 ∨ (hi : Int) < x.toInt := by
  by_cases h0 : x.toInt < 0
  · exact Or.inl h0
  · refine Or.inr ?_
    by_cases h1 : (hi : Int) < x.toInt
    · exact h1
    · exfalso
      have hk : x.toInt.toNat < hi + 1 := by omega
      refine h x.toInt.toNat hk (Int32.toInt_inj.mp ?_)
      rw [nI_toInt (by omega)]
      omega
section FSM
variable {X : fs_X} {p : Program} {l : Launch} {e : Env} {R : Room} {s : State} {m : MethodId} {args : Array Value} {below : List Frame} {meth : Method} {c : Code} {Q : State → Prop} {α β : Type} {rF : α} {σ0 σF : fs_S}
variable {cc : ByteArray} {nL : Nat} {own ref C : String} {T : u_T} {N ci index a pc pj : Nat} {ls : Array Slot} {rest : List Value}
theorem fs_Jeq {t : fs_T α} {g g2 : JFrame} (h : g = g2) (k : fs_J X p l e R s m args below meth c Q rF σ0 σF t g2) : fs_J X p l e R s m args below meth c Q rF σ0 σF t g := h ▸ k
theorem fs_Jlet1 {A1 : Type} {f : A1 → fs_T α} {kk : (A1 → fs_T α) → fs_T α} {I : A1 → List (Nat × Value)} {st : A1 → List Value} {g : JFrame} (h : ∀ v ls, lv_has ls nL (I v) → fs_J X p l e R s m args below meth c Q rF σ0 σF (f v) (F0 m pj ls (st v)))
    (k : ∀ f : A1 → fs_T α, (∀ v ls, lv_has ls nL (I v) → fs_J X p l e R s m args below meth c Q rF σ0 σF (f v) (F0 m pj ls (st v))) → fs_J X p l e R s m args below meth c Q rF σ0 σF (kk f) g) : fs_J X p l e R s m args below meth c Q rF σ0 σF (fs_let f kk) g := k f h
theorem fs_Jlet2 {A1 A2 : Type} {f : A1 → A2 → fs_T α} {kk : (A1 → A2 → fs_T α) → fs_T α} {I : A1 → A2 → List (Nat × Value)} {st : A1 → A2 → List Value} {g : JFrame} (h : ∀ v w ls, lv_has ls nL (I v w) → fs_J X p l e R s m args below meth c Q rF σ0 σF (f v w) (F0 m pj ls (st v w)))
    (k : ∀ f : A1 → A2 → fs_T α, (∀ v w ls, lv_has ls nL (I v w) → fs_J X p l e R s m args below meth c Q rF σ0 σF (f v w) (F0 m pj ls (st v w))) → fs_J X p l e R s m args below meth c Q rF σ0 σF (kk f) g) : fs_J X p l e R s m args below meth c Q rF σ0 σF (fs_let f kk) g := k f h
theorem fs_Jlet3 {A1 A2 A3 : Type} {f : A1 → A2 → A3 → fs_T α} {kk : (A1 → A2 → A3 → fs_T α) → fs_T α} {I : A1 → A2 → A3 → List (Nat × Value)} {st : A1 → A2 → A3 → List Value} {g : JFrame} (h : ∀ v w u ls, lv_has ls nL (I v w u) → fs_J X p l e R s m args below meth c Q rF σ0 σF (f v w u) (F0 m pj ls (st v w u)))
    (k : ∀ f : A1 → A2 → A3 → fs_T α, (∀ v w u ls, lv_has ls nL (I v w u) → fs_J X p l e R s m args below meth c Q rF σ0 σF (f v w u) (F0 m pj ls (st v w u))) → fs_J X p l e R s m args below meth c Q rF σ0 σF (kk f) g) : fs_J X p l e R s m args below meth c Q rF σ0 σF (fs_let f kk) g := k f h
theorem fs_Jrem (S : CallFix p m c cc nL s args fs_ws own) {x y : Int32} (hdg : decode cc pc = .ok (.irem, 1)) {kk : Int32 → fs_T α} (K : ∀ v, fs_J X p l e R s m args below meth c Q rF σ0 σF (kk v) (F0 m (pc + 1) ls (.int v :: rest))) : fs_J X p l e R s m args below meth c Q rF σ0 σF (fs_bind (fs_rem x y) kk) (F0 m pc ls (.int y :: .int x :: rest)) := by
  intro σ H locs cells slots h hw hS h4 h5
  obtain ⟨v, σ1, h1, h2⟩ := fs_bdT h
  unfold fs_rem at h1
  by_cases q : y = 0
  · rw [if_pos q] at h1
    cases h1
  · rw [if_neg q] at h1
    cases h1
    exact lv_irem S.1 S.2.1 hdg q (K _ σ H locs cells slots h2 hw hS h4 h5)
end FSM
end
section
/-! arrays of references, statics, class objects, copies -/
theorem fs_co : ∀ (c : Nat) (r : vw_C), fs_cl[c]? = some r → c ≠ 2 → Cond.castable r.1 "java/lang/Object" ∈ lw_tbl := fun c r h hc => match c, h, hc with
  | 0, rfl, _ => tb_7_87
  | 1, rfl, _ => tb_7_88
  | 2, _, h => absurd rfl h
  | 3, rfl, _ => tb_7_89
  | 4, rfl, _ => tb_7_90
  | 5, rfl, _ => tb_7_91
  | 6, rfl, _ => tb_7_92
  | 7, rfl, _ => tb_7_93
  | 8, rfl, _ => tb_7_95
  | 9, rfl, _ => tb_7_96
  | 10, rfl, _ => tb_7_97
  | 11, rfl, _ => tb_7_98
  | 12, rfl, _ => tb_7_94
  | n + 13, h, _ => by cases h
theorem fs_G.decl {X : fs_X} {U : State} (h : fs_G X U) {x : MethodName} (hw : Cond.declares x ∈ lw_tbl) : va_Nw (.declares x) U := va_tabs rfl (rfl : ((fs_o X).setVm U.vm).vm = U.vm) (by rw [Cond.declares_setVm h.2.1.alike]; exact h.word hw rfl)
theorem fs_G.same {X : fs_X} {U : State} (h : fs_G X U) {a b n d : String} (hw : Cond.sameMethod a b n d ∈ lw_tbl) (hg : goodWord (Cond.sameMethod a b n d) = true) (args : Array Value) : (Cond.sameMethod a b n d).before args U = true := by
  obtain ⟨⟨⟨b, hb, -⟩, -⟩, hW, -⟩ := h
  exact word_at hW (good_of_word hg) (hb _ hw)
section FSR
variable {X : fs_X} {p : Program} {l : Launch} {e : Env} {R : Room} {s : State} {m : MethodId} {args : Array Value} {below : List Frame} {meth : Method} {c : Code} {Q : State → Prop} {α β : Type} {rF : α} {σ0 σF : fs_S}
variable {cc : ByteArray} {nL : Nat} {own ref C : String} {T : u_T} {N ci index a pc : Nat} {ls : Array Slot} {rest : List Value}
theorem fs_aceq {H : Heap} {locs : List Loc} {cells slots : Nat} (hexec : p.tables.exec = Jvm.exec) (hb : c.code = cc) {x y : Nat} {off : Int} {tgt : Nat} (hdg : decode cc pc = .ok (.if_acmp .eq off, 3)) (ht : (pc : Int) + off = (tgt : Int))
    (kt : x = y → W p l e R s m args below meth c H locs cells slots Q (F0 m tgt ls rest)) (kf : ¬ x = y → W p l e R s m args below meth c H locs cells slots Q (F0 m (pc + 3) ls rest)) : W p l e R s m args below meth c H locs cells slots Q (F0 m pc ls (.ref y :: .ref x :: rest)) :=
  lv_acmp_eq (rx := some x) (ry := some y) hexec hb hdg ht (fun q => kt (Option.some.inj q)) (fun q => kf (fun e => q (by rw [e])))
theorem fs_acne {H : Heap} {locs : List Loc} {cells slots : Nat} (hexec : p.tables.exec = Jvm.exec) (hb : c.code = cc) {x y : Nat} {off : Int} {tgt : Nat} (hdg : decode cc pc = .ok (.if_acmp .ne off, 3)) (ht : (pc : Int) + off = (tgt : Int))
    (kt : ¬ x = y → W p l e R s m args below meth c H locs cells slots Q (F0 m tgt ls rest)) (kf : x = y → W p l e R s m args below meth c H locs cells slots Q (F0 m (pc + 3) ls rest)) : W p l e R s m args below meth c H locs cells slots Q (F0 m pc ls (.ref y :: .ref x :: rest)) :=
  lv_acmp_ne (rx := some x) (ry := some y) hexec hb hdg ht (fun q => kt (fun e => q (by rw [e]))) (fun q => kf (Option.some.inj q))
theorem fs_Jmax (S : CallFix p m c cc nL s args fs_ws own) (hR : fs_n σF ≤ fs_n σ0 + R.cells ∧ fs_u σF ≤ fs_u σ0 + R.slots) (hsz : ls.size = nL) (wl : Cond.methodLink own index Lib.Math.max.name ∈ fs_ws) (wt : Cond.static Lib.Math.max.name ∈ fs_ws) (wc : Cond.code Lib.Math.max.name Lib.Math.max.code 2 (some .int) ∈ fs_ws) (hfr : 1 ≤ R.frames) (hlo : (rest.map fun v => v.category).sum + 13 ≤ R.locals) {x y : Int32} (hdg : decode cc pc = .ok (.invokestatic index, 3))
    {t : fs_T α} (K : fs_J X p l e R s m args below meth c Q rF σ0 σF t (F0 m (pc + 3) ls (.int (fs_max x y) :: rest))) : fs_J X p l e R s m args below meth c Q rF σ0 σF t (F0 m pc ls (.int y :: .int x :: rest)) := by
  intro σ H locs cells slots h hw hS h4 h5
  have hm := t.2 _ _ _ h
  have hm1 := hm.1
  have hm2 := hm.2
  have hts := S.2.2.2.2
  exact va_mmax S.1 S.2.1 (by rw [S.2.2.1]; exact hsz.symm) S.2.2.2.1 (hts _ wl) (hts _ wt) (hts _ tw_1_21) (hts _ wc) hfr hlo (by omega) (by omega) hdg (K σ H locs cells slots h hw hS h4 h5)
theorem fs_Jmin (S : CallFix p m c cc nL s args fs_ws own) (hR : fs_n σF ≤ fs_n σ0 + R.cells ∧ fs_u σF ≤ fs_u σ0 + R.slots) (hsz : ls.size = nL) (wl : Cond.methodLink own index Lib.Math.min.name ∈ fs_ws) (wt : Cond.static Lib.Math.min.name ∈ fs_ws) (wc : Cond.code Lib.Math.min.name Lib.Math.min.code 2 (some .int) ∈ fs_ws) (hfr : 1 ≤ R.frames) (hlo : (rest.map fun v => v.category).sum + 13 ≤ R.locals) {x y : Int32} (hdg : decode cc pc = .ok (.invokestatic index, 3))
    {t : fs_T α} (K : fs_J X p l e R s m args below meth c Q rF σ0 σF t (F0 m (pc + 3) ls (.int (fs_min x y) :: rest))) : fs_J X p l e R s m args below meth c Q rF σ0 σF t (F0 m pc ls (.int y :: .int x :: rest)) := by
  intro σ H locs cells slots h hw hS h4 h5
  have hm := t.2 _ _ _ h
  have hm1 := hm.1
  have hm2 := hm.2
  have hts := S.2.2.2.2
  exact va_mmin S.1 S.2.1 (by rw [S.2.2.1]; exact hsz.symm) S.2.2.2.1 (hts _ wl) (hts _ wt) (hts _ tw_1_21) (hts _ wc) hfr hlo (by omega) (by omega) hdg (K σ H locs cells slots h hw hS h4 h5)
theorem fs_Jabs (S : CallFix p m c cc nL s args fs_ws own) (hR : fs_n σF ≤ fs_n σ0 + R.cells ∧ fs_u σF ≤ fs_u σ0 + R.slots) (hsz : ls.size = nL) (wl : Cond.methodLink own index Lib.MathLoose.abs_long.x ∈ fs_ws) (wt : Cond.static Lib.MathLoose.abs_long.x ∈ fs_ws) (wc : Cond.code Lib.MathLoose.abs_long.x Lib.MathLoose.abs_long.code 2 (some .long) ∈ fs_ws) (hfr : 1 ≤ R.frames) (hlo : (rest.map fun v => v.category).sum + 13 ≤ R.locals) {x : Int64} (hdg : decode cc pc = .ok (.invokestatic index, 3))
    {t : fs_T α} (K : fs_J X p l e R s m args below meth c Q rF σ0 σF t (F0 m (pc + 3) ls (.long (fs_abs x) :: rest))) : fs_J X p l e R s m args below meth c Q rF σ0 σF t (F0 m pc ls (.long x :: rest)) := by
  intro σ H locs cells slots h hw hS h4 h5
  have hm := t.2 _ _ _ h
  have hm1 := hm.1
  have hm2 := hm.2
  have hts := S.2.2.2.2
  exact va_mabs_long S.1 S.2.1 (by rw [S.2.2.1]; exact hsz.symm) S.2.2.2.1 (hts _ wl) (hts _ wt) (hts _ tw_1_21) (hts _ wc) hfr hlo (by omega) (by omega) hdg (K σ H locs cells slots h hw hS h4 h5)
theorem fs_Jar (S : CallFix p m c cc nL s args fs_ws own) (hG : fs_G X s) {i : Int32} (hdg : decode cc pc = .ok (.aaload, 1))
    {kk : Nat → fs_T α} (K : ∀ v, fs_J X p l e R s m args below meth c Q rF σ0 σF (kk v) (F0 m (pc + 1) ls (.ref v :: rest))) : fs_J X p l e R s m args below meth c Q rF σ0 σF (fs_bind (fs_ar a i) kk) (F0 m pc ls (.int i :: .ref a :: rest)) := by
  intro σ H locs cells slots h hw hS h4 h5
  obtain ⟨v, σ1, h1, h2⟩ := fs_bdT h
  obtain ⟨e, e1, e2, rfl⟩ := fs_rd_ok h1
  obtain ⟨t, n, f, rfl, ht, e3, e4⟩ := fs_xR_ok e2
  obtain ⟨C, k, hk⟩ := fs_tyR hG.2.2 ht
  rcases hw.lk e1 with q | ⟨-, -, rfl, -⟩
  · refine va_aldq (ws := [(a, .inl (fs_ta X t, n, .inr (.inr (.inr (.inr f)))))]) S.1 S.2.1 hG.2.2 (fs_one q) 0 k rfl hk e3 hdg ?_
    rw [e4]
    exact K _ _ H locs cells slots h2 hw hS h4 h5
  · exact (e3 (Or.inr (Nat.zero_le _))).elim
theorem fs_Js0 (S : CallFix p m c cc nL s args fs_ws own) (hG : fs_G X s) {i : Int32} (hdg : decode cc pc = .ok (.aastore, 1))
    {kk : Unit → fs_T α} (K : fs_J X p l e R s m args below meth c Q rF σ0 σF (kk ()) (F0 m (pc + 1) ls rest)) : fs_J X p l e R s m args below meth c Q rF σ0 σF (fs_bind (fs_s0 a i) kk) (F0 m pc ls (.null :: .int i :: .ref a :: rest)) := by
  intro σ H locs cells slots h hw hS h4 h5
  obtain ⟨u, σ1, h1, h2⟩ := fs_bdT h
  obtain ⟨e, e1, q1, q2, rfl⟩ := fs_wr_ok h1
  obtain ⟨n, f, rfl, hin, rfl⟩ := fs_y0_ok q2
  have hz := (hw.2.2.2.1 a _ q1).1
  refine va_WaastN (C := "java/lang/Object") S.1 S.2.1 (hw.2.2.2.1 a _ q1).2 ((hG.2.2.2 3 _ rfl).1 n (fun j => va_rf (f j))) (fun h => by cases h) (by show ¬ (i < 0 ∨ (arrV _ _ _).slots.size ≤ _); rw [arrV_size]; exact hin) rfl rfl hdg fun H1 e z oq => ?_
  refine K _ H1 _ cells slots h2 (hw.set q1 ?_ z oq) (fs_put hS z oq hz) h4 h5
  show H1[a]? = some (vp_cell _ _)
  rw [e]
  show some (Cell.setSlot (vp_cell _ (n, _)) _ _) = _
  rw [vp_cell_q, vp_cell_q, arrV_store]
  congr 2
  funext q
  by_cases hq : q = i.toNatClampNeg
  · subst hq
    simp [updV, va_up, va_rf]
  · simp [updV, va_up, hq]
theorem fs_Jsr (S : CallFix p m c cc nL s args fs_ws own) (hG : fs_G X s) {i : Int32} {v : Nat} (hdg : decode cc pc = .ok (.aastore, 1))
    {kk : Unit → fs_T α} (K : fs_J X p l e R s m args below meth c Q rF σ0 σF (kk ()) (F0 m (pc + 1) ls rest)) : fs_J X p l e R s m args below meth c Q rF σ0 σF (fs_bind (fs_sr a i v) kk) (F0 m pc ls (.ref v :: .int i :: .ref a :: rest)) := by
  intro σ H locs cells slots h hw hS h4 h5
  obtain ⟨u, σ1, h1, h2⟩ := fs_bdT h
  obtain ⟨ci, σ2, h3, h1b⟩ := fs_bdT (show (fs_bind (fs_rd v fs_oc) fun c => fs_wr a (fs_yC i c v)).1 σ = some (u, σ1) from h1)
  obtain ⟨e0, w1, w2, rfl⟩ := fs_rd_ok h3
  obtain ⟨vs, rfl⟩ := fs_oc_ok w2
  obtain ⟨e, e1, q1, q2, rfl⟩ := fs_wr_ok h1b
  obtain ⟨t, n, f, rfl, ht, hin, rfl⟩ := fs_yC_ok q2
  have hz := (hw.2.2.2.1 a _ q1).1
  have hlt : i.toNatClampNeg < n := Nat.not_le.mp fun q => hin (Or.inr q)
  have h0 : ¬ i < 0 := fun q => hin (Or.inl q)
  obtain ⟨r, hr, cellV, g1, g2, g3, -⟩ := hw.lko w1
  have hK := hG.2.2
  have hcls := (hK.1 ci r hr).2
  obtain ⟨kC, hkC, -⟩ := hcls.2
  have key : ∃ (kA kcomp : Class) (comp : ClassId) (ty : FieldType), s.vm.classes[fs_ta X t]? = some kA ∧ kA.kind = .array comp ty ∧ ty.isReference = true ∧ s.vm.classes[comp]? = some kcomp ∧ s.vm.assignable ((fs_D X).1 ci) comp = true := by
    rcases ht with ⟨rfl, hne⟩ | ⟨rfl, rfl⟩
    · obtain ⟨kA, comp, k1, k2, k3, -⟩ := (hK.2 3 _ rfl).2
      obtain ⟨kE, hkE, -⟩ := Vm.findClass_spec k3
      obtain ⟨c0, t1, f1, f2, f3⟩ := Cond.castable_spec (va_Nw.use (A := args) rfl (hG.castable (fs_co ci r hr hne)))
      cases hcls.1.symm.trans f1
      cases k3.symm.trans f2
      exact ⟨kA, kE, comp, _, k1, k2, rfl, hkE, f3⟩
    · obtain ⟨kA, comp, k1, k2, k3, -⟩ := (hK.2 4 _ rfl).2
      cases hr
      have hcomp : comp = (fs_D X).1 3 := Option.some.inj (k3.symm.trans hcls.1)
      subst hcomp
      exact ⟨kA, kC, _, _, k1, k2, rfl, hkC, va_assign hcls⟩
  obtain ⟨kA, kcomp, comp, ty, k1, k2, k3, k4, k5⟩ := key
  refine W.aast S.1 S.2.1 (hw.2.2.2.1 a _ q1).2 (fun q h => by cases h) (fun h => by cases h) k1 k2 k3 k4 ⟨h0, by show _ < (arrV _ _ _).slots.size; rw [arrV_size]; exact hlt⟩ g1 (fun q h => by rw [g3] at h; cases h) (by rw [g2]; exact hkC) (by rw [g2]; exact k5) rfl rfl hdg fun H1 e z oq => ?_
  refine K _ H1 _ cells slots h2 (hw.set q1 ?_ z oq) (fs_put hS z oq hz) h4 h5
  show H1[a]? = some (vp_cell _ _)
  rw [e]
  show some (Cell.setSlot (vp_cell _ (n, _)) _ _) = _
  rw [vp_cell_q, vp_cell_q, arrV_store]
  congr 2
  funext q
  by_cases hq : q = i.toNatClampNeg
  · subst hq
    simp [updV, va_up, va_rf]
  · simp [updV, va_up, hq]
/-- new Object[n], new Slot[n] -/
theorem fs_Jwr (S : CallFix p m c cc nL s args fs_ws own) (hG : fs_G X s) (hR : fs_n σF ≤ fs_n σ0 + R.cells ∧ fs_u σF ≤ fs_u σ0 + R.slots) {n : Int32} (t : Nat) (C : String) (ht : (fs_tys X)[t]? = some (fs_ta X t, .object C)) (wl : Cond.classLink own index C ∈ fs_ws) (wo : Cond.arrayOver (.object C) ∈ lw_tbl) (hdg : decode cc pc = .ok (.anewarray index, 3))
    {kk : Nat → fs_T α} (K : ∀ v, fs_J X p l e R s m args below meth c Q rF σ0 σF (kk v) (F0 m (pc + 3) ls (.ref v :: rest))) : fs_J X p l e R s m args below meth c Q rF σ0 σF (fs_bind (fs_nr t n) kk) (F0 m pc ls (.int n :: rest)) := by
  intro σ H locs cells slots h hw hS h4 h5
  obtain ⟨v, σ1, h1, h2⟩ := fs_bdT h
  unfold fs_nr at h1
  by_cases q : ¬ n < 0 ∧ n.toNatClampNeg ≤ 65536
  · rw [if_pos q] at h1
    cases h1
    have hm := (kk (fs_n σ)).2 _ _ _ h2
    have hm1 : fs_n σ + 1 ≤ fs_n σF := hm.1
    have hm2 : fs_u σ + n.toNatClampNeg ≤ fs_u σF := hm.2
    have hts := S.2.2.2.2
    refine W.anew S.1 S.2.1 S.2.2.2.1 (hts _ wl) (va_AO.use (hG.over wo)) rfl hdg rfl q.1 (by omega) (by omega) (by omega) fun cA kA comp f1 f2 f3 f4 => ?_
    obtain ⟨-, -, k1, k2, k3, k4⟩ := (hG.2.2.2 t _ ht).2
    have hcA : cA = fs_ta X t := Option.some.inj (f1.symm.trans k4)
    subst hcA
    generalize hH1 : H.push ({ cls := fs_ta X t, slots := Array.replicate n.toNatClampNeg .null, vm := .none } : Cell) = H1
    have z1 : H1.size = H.size + 1 := by rw [← hH1, Array.size_push]
    have e1 : H1[H.size]? = some (arrV (fs_ta X t) n.toNatClampNeg (fun _ => .null)) := by rw [← hH1, Array.getElem?_push_size, ← arrV_new]
    have o1 : ∀ q : Nat, q < H.size → H1[q]? = H[q]? := fun q hq => by rw [← hH1, Array.getElem?_push, if_neg (Nat.ne_of_lt hq)]
    have hz : H.size = fs_n σ := hw.1
    refine W.eq (g2 := F0 m (pc + 3) ls (.ref (fs_n σ) :: rest)) (by rw [← hz]) ?_
    exact K _ _ H1 locs (cells + 1) (slots + n.toNatClampNeg) h2 (hw.push (show H1[H.size]? = some (vp_cell _ _) by rw [vp_cell_q]; exact e1) z1 o1) (fs_new hS z1 o1) (by show _ = fs_n σ + 1; omega) (by show _ = fs_u σ + n.toNatClampNeg; omega)
  · rw [if_neg q] at h1
    cases h1
theorem fs_Jwo (S : CallFix p m c cc nL s args fs_ws own) (hG : fs_G X s) (hR : fs_n σF ≤ fs_n σ0 + R.cells ∧ fs_u σF ≤ fs_u σ0 + R.slots) {n : Int32} (wl : Cond.classLink own index "java/lang/Object" ∈ fs_ws) (wo : Cond.arrayOver (.object "java/lang/Object") ∈ lw_tbl) (hdg : decode cc pc = .ok (.anewarray index, 3))
    {kk : Nat → fs_T α} (K : ∀ v, fs_J X p l e R s m args below meth c Q rF σ0 σF (kk v) (F0 m (pc + 3) ls (.ref v :: rest))) : fs_J X p l e R s m args below meth c Q rF σ0 σF (fs_bind (fs_nr 3 n) kk) (F0 m pc ls (.int n :: rest)) := fs_Jwr S hG hR 3 _ rfl wl wo hdg K
theorem fs_Jws (S : CallFix p m c cc nL s args fs_ws own) (hG : fs_G X s) (hR : fs_n σF ≤ fs_n σ0 + R.cells ∧ fs_u σF ≤ fs_u σ0 + R.slots) {n : Int32} (wl : Cond.classLink own index "FlowShelf$Slot" ∈ fs_ws) (wo : Cond.arrayOver (.object "FlowShelf$Slot") ∈ lw_tbl) (hdg : decode cc pc = .ok (.anewarray index, 3))
    {kk : Nat → fs_T α} (K : ∀ v, fs_J X p l e R s m args below meth c Q rF σ0 σF (kk v) (F0 m (pc + 3) ls (.ref v :: rest))) : fs_J X p l e R s m args below meth c Q rF σ0 σF (fs_bind (fs_nr 4 n) kk) (F0 m pc ls (.int n :: rest)) := fs_Jwr S hG hR 4 _ rfl wl wo hdg K
/-- a static that nobody writes -/
theorem fs_Jgs (S : CallFix p m c cc nL s args fs_ws own) (hG : fs_G X s) (i : Nat) {C n d : String} (hZ : va_Z C n d (.ref (fs_cz X i)) (fs_A X) (fs_o X) (fs_o X).heap) (wl : Cond.fieldLink own index C n d ∈ fs_ws) (hdg : decode cc pc = .ok (.getstatic index, 3))
    {kk : Nat → fs_T α} (K : ∀ v, fs_J X p l e R s m args below meth c Q rF σ0 σF (kk v) (F0 m (pc + 3) ls (.ref v :: rest))) : fs_J X p l e R s m args below meth c Q rF σ0 σF (fs_bind (fs_gs i) kk) (F0 m pc ls rest) := by
  intro σ H locs cells slots h hw hS h4 h5
  obtain ⟨v, σ1, h1, h2⟩ := fs_bdT h
  cases h1
  have hv : fs_c σ i = fs_cz X i := by rw [hw.2.2.1]
  rw [hv] at h2
  have hZ1 : va_Z C n d (.ref (fs_cz X i)) (fs_A X) s H := va_Z.moved hG.2.1.alike (va_Z.kept hZ (fun q hq _ => hw.2.2.2.2.2 q hq))
  obtain ⟨cf, kf, fi, f, a, cell, z1, z2, z3, z4, z5, z6, z7, z8⟩ := hZ1
  exact W.gets S.1 S.2.1 S.2.2.2.1 (S.2.2.2.2 _ wl) z1 z2 z3 z4 z5 (fun e => by rw [e] at z6; cases z6) z7 rfl hdg (K _ _ H locs cells slots h2 hw hS h4 h5)
theorem fs_Jgs0 (S : CallFix p m c cc nL s args fs_ws own) (hG : fs_G X s) (wl : Cond.fieldLink own index "FlowShelf" "LEAST_LENGTH" "[I" ∈ fs_ws) (hdg : decode cc pc = .ok (.getstatic index, 3))
    {kk : Nat → fs_T α} (K : ∀ v, fs_J X p l e R s m args below meth c Q rF σ0 σF (kk v) (F0 m (pc + 3) ls (.ref v :: rest))) : fs_J X p l e R s m args below meth c Q rF σ0 σF (fs_bind (fs_gs 0) kk) (F0 m pc ls rest) := fs_Jgs S hG 0 hG.1.2.1 wl hdg K
theorem fs_Jgs1 (S : CallFix p m c cc nL s args fs_ws own) (hG : fs_G X s) (wl : Cond.fieldLink own index "java/util/ArrayList" "DEFAULTCAPACITY_EMPTY_ELEMENTDATA" "[Ljava/lang/Object;" ∈ fs_ws) (hdg : decode cc pc = .ok (.getstatic index, 3))
    {kk : Nat → fs_T α} (K : ∀ v, fs_J X p l e R s m args below meth c Q rF σ0 σF (kk v) (F0 m (pc + 3) ls (.ref v :: rest))) : fs_J X p l e R s m args below meth c Q rF σ0 σF (fs_bind (fs_gs 1) kk) (F0 m pc ls rest) := fs_Jgs S hG 1 hG.1.2.2.1 wl hdg K
/-- Object[].class -/
theorem fs_Jlc (S : CallFix p m c cc nL s args fs_ws own) (hG : fs_G X s) (wl : Cond.classLink own index "[Ljava/lang/Object;" ∈ fs_ws) (hdg : decode cc pc = .ok (.ldc index, 2))
    {kk : Nat → fs_T α} (K : ∀ v, fs_J X p l e R s m args below meth c Q rF σ0 σF (kk v) (F0 m (pc + 2) ls (.ref v :: rest))) : fs_J X p l e R s m args below meth c Q rF σ0 σF (fs_bind (fs_gs 2) kk) (F0 m pc ls rest) := by
  intro σ H locs cells slots h hw hS h4 h5
  obtain ⟨v, σ1, h1, h2⟩ := fs_bdT h
  cases h1
  have hv : fs_c σ 2 = fs_cz X 2 := by rw [hw.2.2.1]
  rw [hv] at h2
  exact va_ldcM S.1 S.2.1 S.2.2.2.1 (S.2.2.2.2 _ wl) (va_Mi.moved hG.2.1.alike hG.1.2.2.2) hdg (K _ _ H locs cells slots h2 hw hS h4 h5)
theorem fs_ca_ok {a : Nat} {σ σ1 : fs_S} {u : Unit} (h : (fs_ca a).1 σ = some (u, σ1)) : ∃ x, fs_m σ a = some (.inl (3, x)) ∧ σ1 = σ := by
  obtain ⟨e, e1, e2, e3⟩ := fs_rdm_ok h
  split at e2
  · rename_i t x
    split at e2
    · rename_i hc
      subst hc
      exact ⟨x, e1, e3⟩
    · cases e2
  · cases e2
theorem fs_ci_ok {a : Nat} {σ σ1 : fs_S} {u : Unit} (h : (fs_ci a).1 σ = some (u, σ1)) : ∃ x, fs_m σ a = some (.inl (0, x)) ∧ σ1 = σ := by
  obtain ⟨e, e1, e2, e3⟩ := fs_rdm_ok h
  split at e2
  · rename_i t x
    split at e2
    · rename_i hc
      subst hc
      exact ⟨x, e1, e3⟩
    · cases e2
  · cases e2
theorem fs_Jca (S : CallFix p m c cc nL s args fs_ws own) (hG : fs_G X s) (wl : Cond.classLink own index "[Ljava/lang/Object;" ∈ fs_ws) (hdg : decode cc pc = .ok (.checkcast index, 3))
    {kk : Unit → fs_T α} (K : fs_J X p l e R s m args below meth c Q rF σ0 σF (kk ()) (F0 m (pc + 3) ls (.ref a :: rest))) : fs_J X p l e R s m args below meth c Q rF σ0 σF (fs_bind (fs_ca a) kk) (F0 m pc ls (.ref a :: rest)) := by
  intro σ H locs cells slots h hw hS h4 h5
  obtain ⟨v, σ1, h1, h2⟩ := fs_bdT h
  obtain ⟨x, e1, rfl⟩ := fs_ca_ok h1
  exact va_castA (ws := [(a, .inl (fs_ta X 3, x))]) S.1 S.2.1 S.2.2.2.1 (S.2.2.2.2 _ wl) (fs_one (hw.2.2.2.1 _ _ e1).2) 0 rfl (va_nmO (hG.2.2.2 3 _ rfl).2 rfl) hdg (K _ H locs cells slots h2 hw hS h4 h5)
theorem fs_Jci (S : CallFix p m c cc nL s args fs_ws own) (hG : fs_G X s) (wl : Cond.classLink own index "[I" ∈ fs_ws) (hdg : decode cc pc = .ok (.checkcast index, 3))
    {kk : Unit → fs_T α} (K : fs_J X p l e R s m args below meth c Q rF σ0 σF (kk ()) (F0 m (pc + 3) ls (.ref a :: rest))) : fs_J X p l e R s m args below meth c Q rF σ0 σF (fs_bind (fs_ci a) kk) (F0 m pc ls (.ref a :: rest)) := by
  intro σ H locs cells slots h hw hS h4 h5
  obtain ⟨v, σ1, h1, h2⟩ := fs_bdT h
  obtain ⟨x, e1, rfl⟩ := fs_ci_ok h1
  exact va_castA (ws := [(a, .inl (fs_ta X 0, x))]) S.1 S.2.1 S.2.2.2.1 (S.2.2.2.2 _ wl) (fs_one (hw.2.2.2.1 _ _ e1).2) 0 rfl (hG.2.2.2 0 _ rfl).2 hdg (K _ H locs cells slots h2 hw hS h4 h5)
/-- getClass() of an Object[] -/
theorem fs_Jgc (S : CallFix p m c cc nL s args fs_ws own) (hG : fs_G X s) (wl : Cond.methodLink own index ⟨"java/lang/Object", "getClass", "()Ljava/lang/Class;"⟩ ∈ fs_ws) (hsz : ls.size = nL) (hfr : 1 ≤ R.frames) (hlo : (rest.map fun v => v.category).sum + 14 ≤ R.locals) (hdg : decode cc pc = .ok (.invokevirtual index, 3))
    {kk : Nat → fs_T α} (K : ∀ v, fs_J X p l e R s m args below meth c Q rF σ0 σF (kk v) (F0 m (pc + 3) ls (.ref v :: rest))) : fs_J X p l e R s m args below meth c Q rF σ0 σF (fs_bind (fs_gc a) kk) (F0 m pc ls (.ref a :: rest)) := by
  intro σ H locs cells slots h hw hS h4 h5
  obtain ⟨v, σ1, h1, h2⟩ := fs_bdT h
  obtain ⟨u, σ2, h3, h1b⟩ := fs_bdT (show (fs_bind (fs_ca a) fun _ => fs_gs 2).1 σ = some (v, σ1) from h1)
  obtain ⟨x, e1, rfl⟩ := fs_ca_ok h3
  cases h1b
  have hv : fs_c σ1 2 = fs_cz X 2 := by rw [hw.2.2.1]
  rw [hv] at h2
  have hts := S.2.2.2.2
  have hdecl : (Cond.declares ⟨"java/lang/Object", "getClass", "()Ljava/lang/Class;"⟩).before args s = true := va_Nw.use rfl (fs_G.decl hG tb_7_86)
  exact va_getC S.1 S.2.1 (by rw [S.2.2.1]; exact hsz.symm) S.2.2.2.1 (hts _ wl) hdecl (hts _ tw_7_85) (hts _ tw_2_229) (hts _ tw_3_8) (va_Mi.moved hG.2.1.alike hG.1.2.2.2)
    ⟨_, (hw.2.2.2.1 _ _ e1).2, by obtain ⟨n, f | f | f | f | f⟩ := x <;> rfl, by
      have hq : s.vm.findClass "[Ljava/lang/Object;" = some (fs_ta X 3) := va_nmO (hG.2.2.2 3 _ rfl).2 rfl
      rw [hq]
      obtain ⟨n, f | f | f | f | f⟩ := x <;> rfl⟩ hfr hlo hdg (K _ _ H locs cells slots h2 hw hS h4 h5)
theorem fs_xA_ok {e : fs_E} {q : Nat × (Nat → Int32)} (h : fs_xA e = some q) : e = .inl (0, q.1, .inl q.2) := by
  unfold fs_xA at h
  split at h
  · split at h
    · rename_i hc
      subst hc
      cases h
      rfl
    · cases h
  · cases h
/-- clone() of an int[] -/
theorem fs_Jcln (S : CallFix p m c cc nL s args fs_ws own) (hG : fs_G X s) (hR : fs_n σF ≤ fs_n σ0 + R.cells ∧ fs_u σF ≤ fs_u σ0 + R.slots) (wl : Cond.methodLink own index ⟨"[I", "clone", "()Ljava/lang/Object;"⟩ ∈ fs_ws) (hsz : ls.size = nL) (hfr : 1 ≤ R.frames) (hlo : (rest.map fun v => v.category).sum + 14 ≤ R.locals) (hdg : decode cc pc = .ok (.invokevirtual index, 3))
    {kk : Nat → fs_T α} (K : ∀ v, fs_J X p l e R s m args below meth c Q rF σ0 σF (kk v) (F0 m (pc + 3) ls (.ref v :: rest))) : fs_J X p l e R s m args below meth c Q rF σ0 σF (fs_bind (fs_cln a) kk) (F0 m pc ls (.ref a :: rest)) := by
  intro σ H locs cells slots h hw hS h4 h5
  obtain ⟨v, σ1, h1, h2⟩ := fs_bdT h
  obtain ⟨x, σ2, h3, h1b⟩ := fs_bdT (show (fs_bind (fs_rdm a fs_xA) fun q => fs_mk (.inl (0, q.1, .inl q.2)) q.1).1 σ = some (v, σ1) from h1)
  obtain ⟨e0, w1, w2, rfl⟩ := fs_rdm_ok h3
  have w3 := fs_xA_ok w2
  subst w3
  cases h1b
  have hm := (kk (fs_n σ2)).2 _ _ _ h2
  have hm1 : fs_n σ2 + 1 ≤ fs_n σF := hm.1
  have hm2 : fs_u σ2 + x.1 ≤ fs_u σF := hm.2
  have hts := S.2.2.2.2
  have hK := hG.2.2
  have hcl0 := hG.castable tb_4_206
  obtain ⟨c0, t0', f1, f2, f3⟩ := Cond.castable_spec (va_Nw.use (A := args) rfl hcl0)
  have hnm : s.vm.findClass "[I" = some (fs_ta X 0) := (hK.2 0 _ rfl).2
  cases hnm.symm.trans f1
  have hcell : H[a]? = some (arrV (fs_ta X 0) x.1 (fun j => .int (x.2 j))) := (hw.2.2.2.1 _ _ w1).2
  intro T hT XX
  have hcellT : T.heap[a]? = some (arrV (fs_ta X 0) x.1 (fun j => .int (x.2 j))) := by rw [hT]; exact hcell
  obtain ⟨-, kA, hkA, comp, hkind⟩ := State.isArrayOf_alike XX.warmed.alike ((hK.2 0 _ rfl).1 0 (fun _ => .null))
  obtain ⟨-, kS, hkS, compS, hkindS⟩ := (hK.2 0 _ rfl).1 0 (fun _ => .null)
  obtain ⟨vm', X', st⟩ := XX.cloneArray S.1 S.2.2.2.1 (hts _ wl) (hG.same tb_4_202 rfl _) (hts _ tw_4_203) (hts _ tw_4_204) (hts _ tw_4_205) (a := a) (cell := arrV (fs_ta X 0) x.1 (fun j => .int (x.2 j))) hcellT (fun k h => by cases h) (fun h => by cases h) hnm f2 f3
    (fun i v hv => by
      have hk' : T.vm.classes[fs_ta X 0]? = some kA := hkA
      have hv2 : ∃ q : Int32, v = .int q := by
        by_cases hi : i < x.1
        · rw [arrV_read _ _ hi] at hv
          cases hv
          exact ⟨_, rfl⟩
        · have := (Array.getElem?_eq_some_iff.mp hv).1
          rw [arrV_size] at this
          exact absurd this hi
      obtain ⟨q, rfl⟩ := hv2
      show T.fitsSlot (fs_ta X 0) .none i (.int q) = true
      simp [State.fitsSlot, State.slotType?, hk', hkind, fits])
    (g := F0 m pc ls (.ref a :: rest)) rfl (by rw [S.2.2.1]; exact hsz) rfl (by rw [S.2.1]; exact hdg) hfr (by show 2 * 0 + _ + 14 ≤ _; omega) (by omega) (by rw [arrV_size]; omega) (hloader := Vm.clonesLoader_of_array hkS hkindS)
  have hcellE : ({ cls := (arrV (fs_ta X 0) x.1 (fun j => .int (x.2 j))).cls, slots := (arrV (fs_ta X 0) x.1 (fun j => .int (x.2 j))).slots } : Cell) = arrV (fs_ta X 0) x.1 (fun j => .int (x.2 j)) := rfl
  rw [hcellE, arrV_size] at X'
  generalize hH1 : H.push (arrV (fs_ta X 0) x.1 (fun j => .int (x.2 j))) = H1
  have z1 : H1.size = H.size + 1 := by rw [← hH1, Array.size_push]
  have e1 : H1[H.size]? = some (arrV (fs_ta X 0) x.1 (fun j => .int (x.2 j))) := by rw [← hH1, Array.getElem?_push_size]
  have o1 : ∀ q : Nat, q < H.size → H1[q]? = H[q]? := fun q hq => by rw [← hH1, Array.getElem?_push, if_neg (Nat.ne_of_lt hq)]
  have hz : H.size = fs_n σ2 := hw.1
  obtain ⟨t, b1, b2⟩ := K (fs_n σ2) _ H1 locs (cells + 1) (slots + x.1) h2 (hw.push (show H1[H.size]? = some (vp_cell _ _) from e1) z1 o1) (fs_new hS z1 o1) (by show _ = fs_n σ2 + 1; omega) (by show _ = fs_u σ2 + x.1; omega) ((T.setVm vm').pushCell (arrV (fs_ta X 0) x.1 (fun j => .int (x.2 j)))) (by rw [← hH1, ← hT]; rfl) X'
  refine ⟨t, st t ?_, b2⟩
  rw [hcellE, hT, hz]
  exact b1
theorem fs_xQ_ok {e : fs_E} {q : Nat × (Nat → Option Nat)} (h : fs_xQ e = some q) : e = .inl (3, q.1, .inr (.inr (.inr (.inr q.2)))) := by
  unfold fs_xQ at h
  split at h
  · split at h
    · rename_i hc
      subst hc
      cases h
      rfl
    · cases h
  · cases h
theorem fs_yQ_ok {f : Nat → Option Nat} {sp dp n : Nat} {e e1 : fs_E} (h : fs_yQ f sp dp n e = some e1) : ∃ k g, e = .inl (3, k, .inr (.inr (.inr (.inr g)))) ∧ dp + n ≤ k ∧ e1 = .inl (3, k, .inr (.inr (.inr (.inr (va_cpy f g sp dp n))))) := by
  unfold fs_yQ at h
  split at h
  · rename_i t k g
    split at h
    · rename_i hc
      obtain ⟨hc1, hc2⟩ := hc
      subst hc1
      cases h
      exact ⟨k, g, rfl, hc2, rfl⟩
    · cases h
  · cases h
theorem fs_oo_ok {f : Nat → Option Nat} {sp n : Nat} {σ σ1 : fs_S} {u : Unit} (h : (fs_oo f sp n).1 σ = some (u, σ1)) : σ1 = σ ∧ ∀ i, i < n → ∀ y, f (sp + i) = some y → ∃ c fs, fs_lk σ y = some (.inr (c, fs)) ∧ c ≠ 2 := by
  unfold fs_oo at h
  dsimp only at h
  split at h
  · rename_i hall
    cases h
    refine ⟨rfl, fun i hi y hy => ?_⟩
    have h1 := List.all_eq_true.mp hall i (List.mem_range.mpr hi)
    rw [hy] at h1
    dsimp only at h1
    split at h1
    · rename_i c fs hq
      exact ⟨c, fs, hq, of_decide_eq_true h1⟩
    · cases h1
  · cases h
/-- System.arraycopy between two Object[] -/
theorem fs_Jcp (S : CallFix p m c cc nL s args fs_ws own) (hG : fs_G X s) (wl : Cond.methodLink own index arraycopyName ∈ fs_ws) (hsz : ls.size = nL) (hfr : 1 ≤ R.frames) (hlo : (rest.map fun v => v.category).sum + (nativeFrameWords "java/lang/System" "arraycopy" 5 + 11) ≤ R.locals) (hdg : decode cc pc = .ok (.invokestatic index, 3)) {b : Nat} {sp dp n : Int32}
    {kk : Unit → fs_T α} (K : fs_J X p l e R s m args below meth c Q rF σ0 σF (kk ()) (F0 m (pc + 3) ls rest)) : fs_J X p l e R s m args below meth c Q rF σ0 σF (fs_bind (fs_cp a sp b dp n) kk) (F0 m pc ls (.int n :: .int dp :: .ref b :: .int sp :: .ref a :: rest)) := by
  have nn : ∀ z : Int32, ¬ z < 0 → z.toInt = (z.toNatClampNeg : Int) := by
    intro z hz
    have hz0 : (0 : Int) ≤ z.toInt := by
      have := Int32.not_lt.mp hz
      simpa using Int32.le_iff_toInt_le.mp this
    show z.toInt = ((z.toInt.toNat : Nat) : Int)
    omega
  intro σ H locs cells slots h hw hS h4' h5'
  obtain ⟨u, σ1, h1, h2⟩ := fs_bdT h
  unfold fs_cp at h1
  obtain ⟨q, σ2, w1, h1b⟩ := fs_bdT h1
  obtain ⟨e0, w2, w3, rfl⟩ := fs_rdm_ok w1
  have w4 := fs_xQ_ok w3
  subst w4
  by_cases hq : ¬ sp < 0 ∧ ¬ dp < 0 ∧ ¬ n < 0 ∧ sp.toNatClampNeg + n.toNatClampNeg ≤ q.1
  · rw [if_pos hq] at h1b
    obtain ⟨h1', h2', h3', h4⟩ := hq
    obtain ⟨u2, σ3, w5, w6⟩ := fs_bdT h1b
    obtain ⟨rfl, hel⟩ := fs_oo_ok w5
    obtain ⟨e, e1, q1, q2, rfl⟩ := fs_wr_ok w6
    obtain ⟨k, g, rfl, h5, rfl⟩ := fs_yQ_ok q2
    have hz := (hw.2.2.2.1 b _ q1).1
    have hK := hG.2.2
    have hts := S.2.2.2.2
    have hc0 : H[a]? = some (vp_cell (fs_ta X 3) (q.1, .inr (.inr (.inr (.inr q.2))))) := (hw.2.2.2.1 _ _ w2).2
    have hc1 : H[b]? = some (vp_cell (fs_ta X 3) (k, .inr (.inr (.inr (.inr g))))) := (hw.2.2.2.1 b _ q1).2
    obtain ⟨-, k0, hk0, cm0, hkk0⟩ := (hK.2 3 _ rfl).1 q.1 (fun j => va_rf (q.2 j))
    obtain ⟨-, k1, hk1, cm1, hkk1⟩ := (hK.2 3 _ rfl).1 k (fun j => va_rf (g j))
    intro T hT XX
    obtain ⟨vm', X', step⟩ := XX.arraycopy S.1 S.2.2.2.1 (hts _ wl) (hts _ tw_2_198) (hts _ tw_2_197) (hts _ tw_1_19) (src := a) (dst := b) (cs := vp_cell (fs_ta X 3) (q.1, .inr (.inr (.inr (.inr q.2))))) (cd := vp_cell (fs_ta X 3) (k, .inr (.inr (.inr (.inr g))))) (srcPos := sp) (destPos := dp) (n := n) (by rw [hT]; exact hc0) (by rw [hT]; exact hc1)
      (fun _ h => by cases h) (fun _ h => by cases h) (fun h => by cases h) (fun h => by cases h) hk0 hk1 hkk0 hkk1 rfl h1' h2' h3'
      (by rw [nn sp h1', nn n h3']; show ¬ _ > ((arrV (fs_ta X 3) q.1 (fun j => va_rf (q.2 j))).slots.size : Int); rw [arrV_size]; omega)
      (by rw [nn dp h2', nn n h3']; show ¬ _ > ((arrV (fs_ta X 3) k (fun j => va_rf (g j))).slots.size : Int); rw [arrV_size]; omega)
      (fun vm₁ hal i hi => by
        have e : (vp_cell (fs_ta X 3) (q.1, .inr (.inr (.inr (.inr q.2))))).slots.getD (sp.toNatClampNeg + i) .null = va_rf (q.2 (sp.toNatClampNeg + i)) := by
          show (arrV (fs_ta X 3) q.1 (fun j => va_rf (q.2 j))).slots.getD _ _ = _
          rw [Array.getD_eq_getD_getElem?, arrV_read _ _ (by omega)]
          rfl
        rw [e]
        cases hy : q.2 (sp.toNatClampNeg + i) with
        | none => exact ⟨rfl, trivial⟩
        | some y =>
          obtain ⟨ci, vs, hlk, hne⟩ := hel i hi y hy
          obtain ⟨r, hr, cellV, g1, g2, g3, -⟩ := hw.lko hlk
          have hcls := (hK.1 ci r hr).2
          obtain ⟨kA, comp, r1, r2, r3, -⟩ := (hK.2 3 _ rfl).2
          cases hk1.symm.trans r1
          cases hkk1.symm.trans r2
          obtain ⟨kC, hkC, -⟩ := hcls.2
          obtain ⟨kE, hkE, -⟩ := Vm.findClass_spec r3
          obtain ⟨kC', hkC', -⟩ := hal.2.2 _ _ hkC
          obtain ⟨kE', hkE', -⟩ := hal.2.2 _ _ hkE
          obtain ⟨c0, t1, f1, f2, f3⟩ := Cond.castable_spec (va_Nw.use (A := args) rfl (hG.castable (fs_co ci r hr hne)))
          cases hcls.1.symm.trans f1
          cases r3.symm.trans f2
          refine ⟨rfl, cellV, (show T.heap[y]? = some cellV by rw [hT]; exact g1), (fun q h => by rw [g3] at h; cases h), ⟨kC', by rw [g2]; exact hkC'⟩, ?_, ?_⟩
          · exact ⟨kE', hkE'⟩
          · show vm₁.assignable _ _ = true
            rw [hal.assignable, g2]
            exact f3)
      (g := F0 m pc ls (.int n :: .int dp :: .ref b :: .int sp :: .ref a :: rest)) rfl (by rw [S.2.2.1]; exact hsz) (rest := rest) rfl (by rw [S.2.1]; exact hdg) hfr (by show 2 * 0 + _ + _ ≤ _; omega)
    have e1 : copied (vp_cell (fs_ta X 3) (q.1, .inr (.inr (.inr (.inr q.2))))) (vp_cell (fs_ta X 3) (k, .inr (.inr (.inr (.inr g))))) sp dp n = vp_cell (fs_ta X 3) (k, .inr (.inr (.inr (.inr (va_cpy q.2 g sp.toNatClampNeg dp.toNatClampNeg n.toNatClampNeg))))) := by
      rw [vp_cell_q, vp_cell_q, vp_cell_q]
      exact va_copied (fun z => va_rf z) (fs_ta X 3) (fs_ta X 3) q.2 g h4
    rw [e1] at X' step
    have hl : b < H.size := (Array.getElem?_eq_some_iff.mp hc1).1
    have hheap : ((T.setVm vm').setCell b (vp_cell (fs_ta X 3) (k, .inr (.inr (.inr (.inr (va_cpy q.2 g sp.toNatClampNeg dp.toNatClampNeg n.toNatClampNeg))))))).heap = H.setIfInBounds b (vp_cell (fs_ta X 3) (k, .inr (.inr (.inr (.inr (va_cpy q.2 g sp.toNatClampNeg dp.toNatClampNeg n.toNatClampNeg)))))) := by rw [← hT]; rfl
    have oq : ∀ z : Nat, z ≠ b → (H.setIfInBounds b (vp_cell (fs_ta X 3) (k, .inr (.inr (.inr (.inr (va_cpy q.2 g sp.toNatClampNeg dp.toNatClampNeg n.toNatClampNeg)))))))[z]? = H[z]? := fun z hz => by simp [Array.getElem?_setIfInBounds, Ne.symm hz]
    obtain ⟨t, a1, b1⟩ := K _ _ _ cells slots h2 (hw.set q1 (show (H.setIfInBounds b _)[b]? = some _ by simp [Array.getElem?_setIfInBounds, hl]) (by simp) oq) ⟨by simp; exact hS.1, fun z g1 g2 => by
        rw [oq z (fun e => g2 (by rw [e]; exact hz))]
        exact hS.2.1 z g1 g2, fun z hz2 => by
        rcases List.mem_append.mp hz2 with h | h
        · exact hS.2.2 z h
        · obtain ⟨j, -, hj⟩ := List.mem_map.mp h
          rw [← hj]
          exact hz⟩ h4' h5' _ hheap X'
    exact ⟨t, step t a1, b1⟩
  · rw [if_neg hq] at h1b
    cases h1b
end FSR
end
section
/-! an exception is made and thrown -/
theorem fs_isRef {C n d : String} {v : Value} {A : Nat → Prop} {s : State} {args : Array Value} (h : va_Z C n d v A s s.heap) (hv : v.isRef = true) : (Cond.isRef (.static C n d)).before args s = true := by
  obtain ⟨cf, kf, fi, f, a, cell, h1, h2, h3, h4, h5, h6, h7, -⟩ := h
  have he : (Term.static C n d).eval args s none [] s = some v := by simp [Term.eval, State.fieldNamed?, h1, h2, h4, h5, h6, h7]
  cases v <;> first | (simp only [Cond.before, Cond.holds, Cond.value, he]; rfl) | cases hv
theorem fs_isRefq {C n d : String} {A : Nat → Prop} {s : State} {args : Array Value} (h : va_Zq C n d A s s.heap) : (Cond.isRef (.static C n d)).before args s = true := by
  rcases h with h | ⟨t, h⟩
  · exact fs_isRef h rfl
  · exact fs_isRef h rfl
theorem fs_lays {X : fs_X} {s : State} {H : Heap} {σ : fs_S} {A : Array Value} {C n d : String} (hW : (fs_o X).WarmedH s.vm) (hw : fs_w X σ s.heap) (h : (Cond.laysStatic C n d).before A (fs_o X) = true) {B : Array Value} : (Cond.laysStatic C n d).before B s = true := by
  obtain ⟨c, k, i, f, a, cell, hc, hi, hst, ha, hcell, hs, hcls, hlt, hty⟩ := Cond.laysStatic_spec h
  obtain ⟨k', hi', hek⟩ := State.fieldFound?_setVm hW.alike hi
  have hq : s.heap[a]? = some cell := by rw [hw.2.2.2.2.2 a (Array.getElem?_eq_some_iff.mp hcell).1]; exact hcell
  exact Cond.laysStatic_of (s := s) (by rw [hW.alike.findClass]; exact hc) hi' hst (by rw [hek]; exact ha) hq hs hcls hlt (by rw [hek]; exact hty)
/-- the words of a throw, where they stand -/
def fs_tk (w : Cond) : Prop := w ∈ lw_tbl ∧ (goodWord w = true ∨ (∃ C T, w = .castable C T) ∨ (∃ x, w = .declares x) ∨ ∃ a b d, w = .laysStatic a b d) ∨
  w = .isRef (.static Bundle.tN "UNASSIGNED_STACK" Bundle.steD) ∨ w = .isRef (.static Bundle.tN "SUPPRESSED_SENTINEL" Bundle.listD)
theorem fs_zq {X : fs_X} {s : State} {σ : fs_S} (hG : fs_G X s) (hw : fs_w X σ s.heap) {C n d : String} (hl : Cond.laysStatic C n d ∈ lw_tbl) (hi : Cond.initialized C ∈ fs_ws) (hr : ∀ b : Nat, (Jvm.Cond.and given_1 narrow_1).before #[Value.ref b] (fs_o X) = true → (Cond.isRef (.static C n d)).before #[Value.ref b] (fs_o X) = true) : va_Zq C n d (fs_A X) s s.heap := by
  obtain ⟨⟨⟨b, hb, hn⟩, -⟩, hW, -⟩ := hG
  have h0 : va_Zq C n d (fs_A X) (fs_o X) (fs_o X).heap := va_Zqof (hb _ hl) (hb _ (List.mem_filter.mp hi).1) (hr b hn) (fun a ha h => absurd ha (Nat.not_lt.mpr h))
  exact va_Zq.moved hW.alike (va_Zq.kept h0 (fun q hq _ => hw.2.2.2.2.2 q hq))
theorem fs_tw {X : fs_X} {s : State} {σ : fs_S} (hG : fs_G X s) (hw : fs_w X σ s.heap) {w : Cond} (h : fs_tk w) (args : Array Value) : w.before args s = true := by
  rcases h with ⟨hm, hg | ⟨C, T, rfl⟩ | ⟨x, rfl⟩ | ⟨a, b, d, rfl⟩⟩ | rfl | rfl
  · obtain ⟨⟨⟨b, hb, -⟩, -⟩, hW, -⟩ := hG
    exact word_at hW (good_of_word hg) (hb _ hm)
  · exact va_Nw.use rfl (hG.castable hm)
  · exact va_Nw.use rfl (hG.decl hm)
  · obtain ⟨⟨⟨q, hb, -⟩, -⟩, hW, -⟩ := hG
    exact fs_lays (H := s.heap) hW hw (hb _ hm)
  · exact fs_isRefq (fs_zq hG hw tb_2_94 tw_1_12 (fun b h => flat_of_before _ h _ (by decide +kernel)))
  · exact fs_isRefq (fs_zq hG hw tb_2_96 tw_1_12 (fun b h => flat_of_before _ h _ (by decide +kernel)))
section FST
variable {X : fs_X} {p : Program} {l : Launch} {e : Env} {R : Room} {s : State} {m : MethodId} {args : Array Value} {below : List Frame} {meth : Method} {c : Code} {Q : State → Prop} {α β : Type} {rF : α} {σ0 σF : fs_S}
variable {cc : ByteArray} {nL : Nat} {own : String} {pc : Nat} {ls : Array Slot} {rest : List Value} {locs : List Loc} {cells slots : Nat}
/-- the walk, looked at as if it began here -/
theorem fs_anew {T : State} (Y : Stand p l e R s m args below meth c T locs cells slots) {R2 : Room} (h1 : R2.frames ≤ R.frames) (h2 : R2.locals ≤ R.locals) (h3 : cells + R2.cells ≤ R.cells) (h4 : slots + R2.slots ≤ R.slots) :
    Stand p l e R2 ((T.setVm s.vm).setFrames (.invoking m args :: below)) m args below meth c T [] 0 0 := by
  obtain ⟨g₀, hfr⟩ := Y.frames_eq
  have hcur : (T.setVm s.vm).cur < (T.setVm s.vm).threads.size := State.cur_lt_of_frames (s := T.setVm s.vm) hfr
  have hF : ((T.setVm s.vm).setFrames (.invoking m args :: below)).frames = .invoking m args :: below := State.frames_setFrames _ hcur
  refine ⟨Y.admits, Y.cas, Y.clock, hF, ?_, Y.hears, Y.method, Y.code, Y.here, Y.tail, Y.warmed, ?_, ?_, ?_⟩
  · have hU : ((T.setVm s.vm).setFrames (.invoking m args :: below)).localsInUse = s.localsInUse := by
      rw [State.localsInUse_invoking hF (meth := meth) (c := c) Y.method Y.code, State.localsInUse_invoking Y.frames Y.method Y.code]
    have hr := Y.room
    have k1 := Y.heapSize
    have k2 := Y.used
    have k3 : e.platform.stackLimits (T.setVm s.vm).me = e.platform.stackLimits s.me := Y.limits
    have k4 : (T.setVm s.vm).me.stackBytes = s.me.stackBytes := Y.bytes
    simp only [State.hasRoom, Bool.and_eq_true, decide_eq_true_eq] at hr ⊢
    obtain ⟨⟨⟨⟨a1, a2, a3, a4, a5, a6⟩, a7⟩, a8⟩, a9⟩ := hr
    rw [Y.frames, List.length_cons] at a2 a3
    simp only [hF, hU, List.length_cons, State.stackLimits_setFrames, State.stackBytes_setFrames, k3, k4]
    refine ⟨⟨⟨⟨by omega, by omega, by omega, by omega, by omega, a6⟩, ?_⟩, ?_⟩, Y.book⟩
    · show T.heap.size + R2.cells ≤ e.platform.maxCells
      omega
    · show T.slotsUsed + R2.slots ≤ e.platform.maxSlots
      omega
  · rw [State.stackLimits_setFrames]
    rfl
  · rw [State.stackBytes_setFrames]
    rfl
  · have hz : ((T.heap.toList.drop T.heap.size).map (·.slots.size)).sum = 0 := by
      rw [List.drop_eq_nil_of_le (Nat.le_of_eq Array.length_toList)]
      rfl
    refine ⟨?_, Nat.le_refl _, Nat.le_refl _, ?_, Nat.le_of_eq hz, fun a c9 h9 => ⟨c9, h9, rfl, rfl, fun _ _ => rfl⟩⟩
    · obtain ⟨t, ht, -⟩ := State.frames_cons hfr
      show T.setVm s.vm = { ((T.setVm s.vm).setFrames (.invoking m args :: below)).setFrames (T.setVm s.vm).frames with heap := T.heap, slotsUsed := T.slotsUsed }
      rw [State.setFrames_setFrames, State.setFrames_self (s := T.setVm s.vm) ht]
      rfl
    · show T.slotsUsed = T.slotsUsed + ((T.heap.toList.drop T.heap.size).map (·.slots.size)).sum
      rw [hz]
      rfl
/-- behind the message: the constructor and athrow -/
theorem fs_thrown {T : State} {H : Heap} {σ : fs_S} (S : CallFix p m c cc nL s args fs_ws own) (hG : fs_G X s) (hl : l.stackTraces = false) {cls text : String} {names : List String} {ik is ic : Nat} {len : Nat} (ii : Instr) (hii : ii = .ldc is ∧ len = 2 ∨ ii = .ldc_w is ∧ len = 3)
    (hcls : Bundle.fit cls = true) (hnames : ∀ n ∈ names, Bundle.fit n = true) (hat : ∀ w ∈ Bundle.ownAtoms own ic cls names, fs_tk w) (wk : Cond.classLink own ik cls ∈ fs_ws) (wi : Cond.initialized cls ∈ fs_ws) (wt : Cond.stringRef own is text ∈ lw_tbl)
    (hsz : ls.size = nL) (hT : ∀ x ∈ c.exceptionTable.toList, False) (hk : meth.locks = false) (hfr : names.length + 3 < R.frames) (hlo : (rest.map fun v => v.category).sum + (13 * (names.length + 1) + 43) ≤ R.locals) (h1 : cells + 1 ≤ R.cells) (h2 : slots + 6 ≤ R.slots)
    (d0 : decode cc pc = .ok (.new ik, 3)) (d1 : decode cc (pc + 3) = .ok (.dup, 1)) (d2 : decode cc (pc + 4) = .ok (ii, len)) (d3 : decode cc (pc + 4 + len) = .ok (.invokespecial ic, 3)) (d4 : decode cc (pc + 4 + len + 3) = .ok (.athrow, 1))
    (hTH : T.heap = H) (hw : fs_w X σ H) (Y : Stand p l e R s m args below meth c T locs cells slots) :
    ∃ (U : State) (ce : Cell), Steps p.tables e below (T.setTop (F0 m pc ls rest)) U ∧ U.status = .running ∧ Ended U below (.threw T.heap.size) ∧ s.WarmedH U.vm ∧ s.sameButNew ({ U with vm := s.vm } : State) locs (cells + 1) (slots + 6) ∧
      U.heap[T.heap.size]? = some ce ∧ ce.vm = .none ∧ s.vm.findClass cls = some ce.cls ∧ U.heap.size = H.size + 1 ∧ ∀ q : Nat, q < H.size → U.heap[q]? = H[q]? := by
  have htr : e.platform.stackTraces = false := (show e.platform.stackTraces = l.stackTraces by rw [Y.admits.platform]).trans hl
  have Z := fs_anew Y (R2 := { frames := R.frames, locals := R.locals, cells := 1, slots := 6 }) (Nat.le_refl _) (Nat.le_refl _) h1 h2
  obtain ⟨s', hs'⟩ : ∃ z, z = (T.setVm s.vm).setFrames (.invoking m args :: below) := ⟨_, rfl⟩
  rw [← hs'] at Z
  have hvm : s'.vm = s.vm := by rw [hs']; rfl
  have hhp : s'.heap = H := by rw [hs']; exact hTH
  have hW0 : s.WarmedH s'.vm := by rw [hvm]; exact State.WarmedH.refl s
  have hG' : fs_G X s' := hG.moved hW0
  have hw' : fs_w X σ s'.heap := by rw [hhp]; exact hw
  have hatom : ∀ w ∈ Bundle.ownAtoms own ic cls names, w.before args s' = true := fun w h => fs_tw hG' hw' (hat w h) args
  have hword : ∀ w ∈ fs_ws, w.before args s' = true := fun w h => word_at hW0 (good_of_word (List.mem_filter.mp h).2) (S.2.2.2.2 w h)
  have hown : s'.vm.findClass own = some m.cls := by rw [hvm]; exact S.2.2.2.1
  have hb := S.2.1
  have hexec := S.1
  obtain ⟨sa, hstr⟩ : ∃ sa, vk_R own is text sa s' := by
    obtain ⟨⟨⟨b, hb0, -⟩, -⟩, hW, -⟩ := hG'
    have hs0 := hb0 _ wt
    have hfc : ∃ d, (fs_o X).vm.findClass own = some d := ⟨m.cls, by rw [← hW.alike.findClass]; exact hown⟩
    obtain ⟨d, hd⟩ := hfc
    obtain ⟨k, cf, i, a, -, -, -, -, -, hev⟩ := Cond.stringRef_spec hd hs0
    exact ⟨a, vk_R.warm hW (vk_R.of hs0 hev)⟩
  obtain ⟨vm₁, cX, kX, hfX, hkX, -, -, Z1, st1⟩ := Z.newCold hexec (own := own) (C := cls) (index := ik) (n := 6) hown (hword _ wk) (hatom _ (by simp [Bundle.ownAtoms])) (hword _ wi) (g := F0 m pc ls rest) rfl (by rw [hb]; exact d0) (Nat.le_refl _) (Nat.le_refl _)
  generalize hT1 : (T.setVm vm₁).pushCell { cls := cX, slots := kX.instanceTypes.map defaultValue, vm := .none } = T1 at Z1 st1
  have hcellA : T1.heap[T.heap.size]? = some (freshCell cX kX) := by rw [← hT1]; exact State.heap_pushCell_size _ _
  have d1' : decode c.code (pc + 3) = .ok (.dup, 1) := by rw [hb]; exact d1
  obtain ⟨U, hsteps, hrun, hend, hW, hsame, ce, hce, hO⟩ := Z1.ctorThrowS hexec htr (own := own) (cls := cls) (names := names) (ic := ic) hown hcls hnames hatom (fun x hx => nomatch hx) hfX hkX hcellA (by rw [hhp, hTH]; exact Nat.le_refl _) (msg := .ref sa) rfl
    (g := { method := m, pc := pc + 4 + len, locals := ls, stack := .ref sa :: .ref T.heap.size :: .ref T.heap.size :: rest, locked := none }) rfl (by rw [S.2.2.1]; exact hsz) rfl rfl (rest := rest) rfl
    (by rw [hb]; exact d3) (by rw [hb]; exact d4) (fun x hx => (hT x hx).elim) hfr (by
      have e1 : (Value.ref T.heap.size).category = 1 := rfl
      simp only [List.map_cons, List.sum_cons, e1]
      show 2 * 0 + _ + _ ≤ R.locals
      omega) hk
  have hWs : s.WarmedH U.vm := State.WarmedH.trans hW0 hW
  have hall : s.sameButNew ({ U with vm := s.vm } : State) locs (cells + 1) (slots + 6) := by
    subst hs'
    obtain ⟨e1, e2⟩ := hsame
    rw [State.setFrames_setFrames] at e1
    have q2 : (T.setVm s.vm).sameButNew ({ U with vm := s.vm } : State) [] (0 + 1) (0 + 6) := ⟨e1, e2⟩
    have q3 := Y.same.trans q2
    rw [List.append_nil] at q3
    simpa using q3
  have hsz1 : s'.heap.size ≤ U.heap.size ∧ U.heap.size ≤ s'.heap.size + (0 + 1) := ⟨hsame.2.1, hsame.2.2.1⟩
  have hlt := (Array.getElem?_eq_some_iff.mp hce).1
  rw [hhp] at hsz1
  refine ⟨U, ce, ?_, hrun, hend, hWs, hall, hce, hO.vm, by have h9 := hO.cls; rw [hvm] at h9; exact h9, by rw [hTH] at hlt; omega, fun q hq => ?_⟩
  · refine st1 _ ?_
    show Steps p.tables e below (T1.setTop { method := m, pc := pc + 3, locals := ls, stack := .ref T.heap.size :: rest, locked := none }) _
    jvm_step Z1.here [Z1.here.top, hexec, d1', Value.category]
    rcases hii with ⟨rfl, rfl⟩ | ⟨rfl, rfl⟩
    · exact Z1.ldcString hexec (own := own) (text := text) (index := is) (a := sa) hown hstr.1 hstr.2 (g := { method := m, pc := pc + 4, locals := ls, stack := .ref T.heap.size :: .ref T.heap.size :: rest, locked := none }) rfl (by rw [hb]; exact d2) _ hsteps
    · exact Z1.ldcStringW hexec (own := own) (text := text) (index := is) (a := sa) hown hstr.1 hstr.2 (g := { method := m, pc := pc + 4, locals := ls, stack := .ref T.heap.size :: .ref T.heap.size :: rest, locked := none }) rfl (by rw [hb]; exact d2) _ hsteps
  · have hq' : q < s'.heap.size := by rw [hhp]; exact hq
    have h9 := hsame.old_cell (a := q) (Array.getElem?_eq_getElem hq')
    rw [← hhp, Array.getElem?_eq_getElem hq']
    exact h9
/-- 'throw new E(text)' -/
theorem fs_Jthrow (S : CallFix p m c cc nL s args fs_ws own) (hG : fs_G X s) (hR : fs_n σF ≤ fs_n σ0 + R.cells ∧ fs_u σF ≤ fs_u σ0 + R.slots) (hl : l.stackTraces = false) {cls text : String} {names : List String} {ik is ic : Nat} {len : Nat} (ii : Instr) (hii : ii = .ldc is ∧ len = 2 ∨ ii = .ldc_w is ∧ len = 3)
    (hcls : Bundle.fit cls = true) (hnames : ∀ n ∈ names, Bundle.fit n = true) (hat : ∀ w ∈ Bundle.ownAtoms own ic cls names, fs_tk w) (wk : Cond.classLink own ik cls ∈ fs_ws) (wi : Cond.initialized cls ∈ fs_ws) (wt : Cond.stringRef own is text ∈ lw_tbl)
    (hsz : ls.size = nL) (hT : ∀ x ∈ c.exceptionTable.toList, False) (hk : meth.locks = false) (hfr : names.length + 3 < R.frames) (hlo : (rest.map fun v => v.category).sum + (13 * (names.length + 1) + 43) ≤ R.locals)
    (d0 : decode cc pc = .ok (.new ik, 3)) (d1 : decode cc (pc + 3) = .ok (.dup, 1)) (d2 : decode cc (pc + 4) = .ok (ii, len)) (d3 : decode cc (pc + 4 + len) = .ok (.invokespecial ic, 3)) (d4 : decode cc (pc + 4 + len + 3) = .ok (.athrow, 1))
    {rF : β ⊕ String} {enc : β ⊕ String → Option Value ⊕ String} (he : enc (.inr cls) = .inr cls) :
    fs_J X p l e R s m args below meth c (fs_Q X below args s (enc rF) σ0 σF) rF σ0 σF (fs_throw cls) (F0 m pc ls rest) := by
  intro σ H locs cells slots h hw hS h4 h5
  cases h
  intro T hTH Y
  have q1 : fs_n (fs_m σ, fs_k σ, fs_c σ, fs_n σ + 1, fs_u σ + 6) = fs_n σ + 1 := rfl
  have q2 : fs_u (fs_m σ, fs_k σ, fs_c σ, fs_n σ + 1, fs_u σ + 6) = fs_u σ + 6 := rfl
  rw [q1, q2] at hR
  obtain ⟨U, ce, st, hrun, hend, hW, hsm, hce, hcv, hcl, hz, hq⟩ := fs_thrown S hG hl ii hii hcls hnames hat wk wi wt hsz hT hk hfr hlo (by omega) (by omega) d0 d1 d2 d3 d4 hTH hw Y
  have e1 : fs_n (fs_m σ, fs_k σ, fs_c σ, fs_n σ + 1, fs_u σ + 6) - fs_n σ0 = cells + 1 := by rw [q1]; omega
  have e2 : fs_u (fs_m σ, fs_k σ, fs_c σ, fs_n σ + 1, fs_u σ + 6) - fs_u σ0 = slots + 6 := by rw [q2]; omega
  refine ⟨U, st, .threw T.heap.size, hrun, hend, ?_, hw.more hz hq, ⟨by rw [hz]; exact Nat.le_trans hS.1 (Nat.le_succ _), fun q a1 a2 => by rw [hq q (Nat.lt_of_lt_of_le a1 hS.1)]; exact hS.2.1 q a1 a2⟩, hW, locs, by rw [e1, e2]; exact hsm, hS.2.2⟩
  rw [he]
  exact ⟨_, ce, rfl, hce, hcv, hcl⟩
end FST
end
section
/-! a callee that throws -/
section FSX
variable {X : fs_X} {p : Program} {l : Launch} {e : Env} {R : Room} {s : State} {m : MethodId} {args : Array Value} {below : List Frame} {meth : Method} {c : Code} {Q : State → Prop} {α β : Type} {rF : α} {σ0 σF : fs_S}
variable {cc : ByteArray} {nL : Nat} {own C : String} {T : u_T} {N ci index pc : Nat} {ls : Array Slot} {rest : List Value} {locs : List Loc} {cells slots : Nat}
variable {y : MethodName} {bytes : ByteArray} {maxL fr lo b : Nat} {ret : Option FieldType} {As st0 : List Value}
/-- what the caller sees of a call that threw: from T on, at the frame g (its arguments popped), with q thrown over it -/
def fs_Thr (X : fs_X) (p : Program) (l : Launch) (e : Env) (R : Room) (s : State) (m : MethodId) (args : Array Value) (below : List Frame) (meth : Method) (c : Code) (H : Heap) (locs : List Loc) (cells slots mc ms : Nat) (σ1 : fs_S) (E : String) (V0 : State) (g : JFrame) : Prop :=
  ∃ (q : Addr) (ce : Cell) (V : State) (L : List Loc), Stand p l e R s m args below meth c V (locs ++ L) (cells + mc) (slots + ms) ∧ fs_w X σ1 V.heap ∧ (H.size ≤ V.heap.size ∧ ∀ z : Nat, z < H.size → ¬ fs_A X z → V.heap[z]? = H[z]?) ∧ (∀ z ∈ L, fs_A X z.base) ∧ V.heap[q]? = some ce ∧ ce.vm = .none ∧ s.vm.findClass E = some ce.cls ∧
    Steps p.tables e below V0 ((V.setTop g).pushFrame (.throwing q))
theorem fs_backT {U : State} {av : List Value} {σ σ1 : fs_S} {E : String} (hM : fs_Met X l y (Cond.code y bytes maxL ret) fr lo av σ (.inr E) σ1) (Y : Stand p l e R s m args below meth c U locs cells slots) {g : JFrame} {ig : Instr} {len : Nat} (hg : g.method = m) (hsize : g.locals.size = c.maxLocals) (hdg : decode c.code g.pc = .ok (ig, len))
    (hW : 2 * g.monitorRoom + (g.stack.map fun v => v.category).sum ≤ 8) {mk : MethodId} (hn : U.methodNamed? y = some mk) (hts : ∀ w ∈ fs_ws, w.before args s = true) (wc : Cond.code y bytes maxL ret ∈ fs_ws) (wn : Cond.initialized y.cls ∈ fs_ws)
    (hfr : fr + 1 ≤ R.frames ∧ 8 + (maxL + 11) + lo ≤ R.locals) (hc : cells + (fs_n σ1 - fs_n σ) ≤ R.cells) (hs : slots + (fs_u σ1 - fs_u σ) ≤ R.slots) (hw : fs_w X σ U.heap) (hG : fs_G X U) :
    fs_Thr X p l e R s m args below meth c U.heap locs cells slots (fs_n σ1 - fs_n σ) (fs_u σ1 - fs_u σ) σ1 E (doInvoke e (U.setTop g) [] mk av.toArray).1 g := by
  have hword : ∀ w ∈ fs_ws, ∀ a : Array Value, w.before a U = true := fun w h a => word_at Y.warmed (good_of_word (List.mem_filter.mp h).2) (hts w h)
  have h1 : (headSpec (Cond.code y bytes maxL ret :: fs_ws) (fs_rm fr lo σ σ1)).pre.before av.toArray U = true := atoms_intro fun w hw => (List.mem_cons.mp hw).elim (fun e => by rw [e]; exact hword _ wc _) (fun h => hword _ h _)
  obtain ⟨methY, cY, hmY, hcY, -, hlY, -, -, -, -⟩ := Cond.code_spec hn (hword _ wc av.toArray)
  obtain ⟨kY, hkY, -⟩ := className_of_methodNamed hn
  have hinitY : kY.init = .initialized := Cond.initialized_spec (findClass_of_methodNamed hn) hkY (hword _ wn av.toArray)
  have h : At U g.method c below := by rw [hg]; exact Y.here
  have happ : (headSpec (Cond.code y bytes maxL ret :: fs_ws) (fs_rm fr lo σ σ1)).appliesLoose y e.platform (U.calling g mk av.toArray) = true :=
    Spec.appliesLoose_calling (g := g) h hdg hn hkY hinitY (Y.room_calling (g := g) (R' := fs_rm fr lo σ σ1) hsize hmY hcY hfr.1 (by
      have e1 : (fs_rm fr lo σ σ1).locals = lo := rfl
      rw [hlY, e1]
      omega) hc hs) h1
  obtain ⟨mid, hmid⟩ := h.above
  have hfr2 : (U.setTop g).frames = (.java g :: mid) ++ below := by rw [State.frames_setTop' g h.top, hmid]; rfl
  obtain ⟨o, s₂, hsteps, -, hend, hq⟩ := Steps.callFree hM p Y.admits Y.cas Y.clock (acts := []) hfr2 happ ⟨rfl, hw, hG.moved (State.WarmedH.refl U)⟩ trivial
  obtain ⟨⟨q, ce, rfl, hce, hcv, hcl⟩, hw1, hF, hW2, L, hsm, hL⟩ := hq
  rw [State.frames_setTop' g h.top] at hend
  obtain ⟨g₀, hg0⟩ := Option.isSome_iff_exists.mp h.top
  obtain ⟨r, hr⟩ := State.topJava?_eq_some.mp hg0
  obtain ⟨e2, q2, q3, q4, q5, q6⟩ := id hsm
  have e3 : s₂ = ({ (U.calling g mk av.toArray).setFrames s₂.frames with heap := s₂.heap, slotsUsed := s₂.slotsUsed } : State).setVm s₂.vm := by
    have : s₂ = ({ s₂ with vm := (U.calling g mk av.toArray).vm } : State).setVm s₂.vm := rfl
    rw [show ({ s₂ with vm := (U.calling g mk av.toArray).vm } : State) = _ from e2] at this
    exact this
  have hf₂ : s₂.frames = .throwing q :: .java g :: U.frames.tail := hend
  have hW' : U.WarmedH s₂.vm := hW2
  have hr' : (({ U with heap := s₂.heap, slotsUsed := s₂.slotsUsed } : State).setVm s₂.vm).frames = .java g₀ :: r := hr
  have hs₂ : s₂ = ((({ U with heap := s₂.heap, slotsUsed := s₂.slotsUsed } : State).setVm s₂.vm).setTop g).pushFrame (.throwing q) := by
    refine e3.trans ?_
    rw [hf₂, State.calling_eq h.top, State.setFrames_setFrames, State.pushFrame, State.frames_setTop _ hr', State.setTop_of_frames _ hr', State.setFrames_setFrames, hr]
    rfl
  have hsame : U.sameButNew ({ U with heap := s₂.heap, slotsUsed := s₂.slotsUsed } : State) L (fs_n σ1 - fs_n σ) (fs_u σ1 - fs_u σ) := by
    refine ⟨?_, q2, q3, q4, q5, q6⟩
    obtain ⟨t, ht, -⟩ := State.frames_cons hr
    show ({ U with heap := s₂.heap, slotsUsed := s₂.slotsUsed } : State) = { U.setFrames U.frames with heap := s₂.heap, slotsUsed := s₂.slotsUsed }
    rw [State.setFrames_self ht]
  subst hg
  refine ⟨q, ce, (({ U with heap := s₂.heap, slotsUsed := s₂.slotsUsed } : State).setVm s₂.vm), L,
    ⟨Y.admits, Y.cas, Y.clock, Y.frames, Y.room, Y.hears, Y.method, Y.code, (Y.here.setHeapUsed s₂.heap s₂.slotsUsed).setVm hW'.alike, Y.tail, State.WarmedH.trans Y.warmed hW', Y.limits, Y.bytes, Y.same.trans (hsame.setVm s.vm)⟩, hw1, hF, hL, hce, hcv, ?_, ?_⟩
  · have h9 : U.vm.findClass E = some ce.cls := hcl
    rw [Y.warmed.alike.findClass] at h9
    exact h9
  · show Steps p.tables e below _ (((({ U with heap := s₂.heap, slotsUsed := s₂.slotsUsed } : State).setVm s₂.vm).setTop g).pushFrame (.throwing q))
    rw [← hs₂]
    exact hsteps
/-- it isn't caught here -/
theorem fs_out {T : State} {H : Heap} {σ1 : fs_S} {E : String} {mc ms : Nat} {V0 : State} (hthr : fs_Thr X p l e R s m args below meth c H locs cells slots mc ms σ1 E V0 (F0 m pc ls rest)) (hS : va_S (fs_A X) s.heap H locs) (hT : ∀ x ∈ c.exceptionTable.toList, False) (hk : meth.locks = false) {rv : Option Value ⊕ String} (hrv : rv = .inr E) (h1 : fs_n σ0 + (cells + mc) = fs_n σ1) (h2 : fs_u σ0 + (slots + ms) = fs_u σ1) :
    ∃ t, Steps p.tables e below V0 t ∧ fs_Q X below args s rv σ0 σ1 t := by
  obtain ⟨q, ce, V, L, Y, hw, ⟨hz, hq⟩, hL, hce, hcv, hcl, st⟩ := hthr
  obtain ⟨st1, hrun, hend, hW, hsm⟩ := Y.leaveThrown q (g := F0 m pc ls rest) rfl rfl rfl (fun x hx => (hT x hx).elim) hk
  have e1 : fs_n σ1 - fs_n σ0 = cells + mc := by omega
  have e2 : fs_u σ1 - fs_u σ0 = slots + ms := by omega
  subst hrv
  refine ⟨_, st.trans st1, .threw q, hrun, hend, ⟨q, ce, rfl, hce, hcv, hcl⟩, hw, ⟨Nat.le_trans hS.1 hz, fun z a1 a2 => ?_⟩, hW, locs ++ L, by rw [e1, e2]; exact hsm, fun z hz2 => ?_⟩
  · show V.heap[z]? = _
    rw [hq z (Nat.lt_of_lt_of_le a1 hS.1) a2]
    exact hS.2.1 z a1 a2
  · rcases List.mem_append.mp hz2 with h | h
    · exact hS.2.2 z h
    · exact hL z h
/-- the two kinds of calls, to a callee that threw -/
theorem fs_runVT {T0 : State} {H : Heap} {σ σ1 : fs_S} {E : String} {fs : List Value} (S : CallFix p m c cc nL s args fs_ws own) (hG : fs_G X s) (hc : fs_cl[ci]? = some (C, T, N)) (e1 : fs_lk σ b = some (.inr (ci, fs))) (hM : fs_Met X l y (Cond.code y bytes maxL ret) fr lo (.ref b :: As) σ (.inr E) σ1)
    (wl : Cond.methodLink own index y ∈ fs_ws) (wi : Cond.instanceMethod y ∈ fs_ws) (wx : Cond.selects C y y ∈ fs_ws) (wc : Cond.code y bytes maxL ret ∈ fs_ws) (wn : Cond.initialized y.cls ∈ fs_ws)
    (hd : y.cls ≠ "java/lang/invoke/MethodHandle" ∧ y.cls ≠ "java/lang/invoke/VarHandle" ∧ (parseMethodDescriptor y.desc).map (fun d => d.parameters.length) = some As.length) (hfr : fr + 1 ≤ R.frames ∧ 8 + (maxL + 11) + lo ≤ R.locals)
    (hsz : ls.size = nL) (hW : (rest.map fun v => v.category).sum ≤ 8) (hdg : decode cc pc = .ok (.invokevirtual index, 3)) (hcl : cells + (fs_n σ1 - fs_n σ) ≤ R.cells) (hsl : slots + (fs_u σ1 - fs_u σ) ≤ R.slots) (hTH : T0.heap = H) (hw : fs_w X σ H) (Y : Stand p l e R s m args below meth c T0 locs cells slots) :
    fs_Thr X p l e R s m args below meth c H locs cells slots (fs_n σ1 - fs_n σ) (fs_u σ1 - fs_u σ) σ1 E (T0.setTop (F0 m pc ls (As.reverse ++ .ref b :: rest))) (F0 m pc ls rest) := by
  have hts := S.2.2.2.2
  obtain ⟨cellB, hcB, hoB, hclB⟩ := va_recv (ws := [(b, .inr (ci, fs))]) hG.2.2 (fs_one (hw.lko e1)) hc (q0 := 0) rfl
  obtain ⟨mk, methM, hnamed, hmethM, hstM, habM⟩ := Cond.instanceMethod_spec (hts _ wi)
  obtain ⟨methM', cM, hmethM', -, -, -, -, -, -, hsigM⟩ := Cond.code_spec hnamed (hts _ wc)
  cases hmethM.symm.trans hmethM'
  obtain ⟨c2, r2, m2, q1, q2, q3, q4, kP, hkP, hkPi⟩ := Cond.selects_spec (hts _ wx)
  cases hclB.symm.trans q1
  cases (State.methodFound?_of_named hnamed ⟨hd.1, hd.2.1⟩).symm.trans q2
  cases hnamed.symm.trans q3
  have hselP : selectMethod e.platform s.vm cellB.cls mk = .method mk := by rw [Launch.admits_selectMethod Y.admits]; exact q4
  have hlen : As.length = methM.sig.parameters.length := by
    have h2 := hd.2.2
    rw [hsigM] at h2
    exact (Option.some.inj h2).symm
  obtain ⟨vm₁, Y1, hstep⟩ := Y.invokevirtual S.1 S.2.2.2.1 (hts _ wl) hnamed hmethM hstM hkP hkPi ⟨hd.1, hd.2.1⟩ (a := b) (cell := cellB) (by rw [hTH]; exact hcB)
    (fun z h => by rw [h] at hoB; cases hoB) hselP hmethM habM hkP hkPi (g := F0 m pc ls (As.reverse ++ .ref b :: rest)) rfl (argsL := As) (rest := rest) hlen rfl (by rw [S.2.1]; exact hdg)
  have B := fs_backT (av := .ref b :: As) hM Y1 (g := F0 m pc ls rest) rfl (by rw [S.2.2.1]; exact hsz) (by rw [S.2.1]; exact hdg) (lv_room hW) (Y1.named hnamed) hts wc wn hfr hcl hsl (by show fs_w X σ T0.heap; rw [hTH]; exact hw) (hG.moved Y1.warmed)
  obtain ⟨q, ce, V, L, k1, k2, k3, k4, k5, k6, k7, st⟩ := B
  refine ⟨q, ce, V, L, k1, k2, by rw [← hTH]; exact k3, k4, k5, k6, k7, ?_⟩
  exact hstep _ fun acts => by rw [doInvoke_state]; exact st
theorem fs_runST {T0 : State} {H : Heap} {σ σ1 : fs_S} {E : String} (S : CallFix p m c cc nL s args fs_ws own) (hG : fs_G X s) (hM : fs_Met X l y (Cond.code y bytes maxL ret) fr lo As σ (.inr E) σ1)
    (wl : Cond.methodLink own index y ∈ fs_ws) (wi : Cond.static y ∈ fs_ws) (wc : Cond.code y bytes maxL ret ∈ fs_ws) (wn : Cond.initialized y.cls ∈ fs_ws)
    (hd : y.cls ≠ "java/lang/invoke/MethodHandle" ∧ y.cls ≠ "java/lang/invoke/VarHandle" ∧ (parseMethodDescriptor y.desc).map (fun d => d.parameters.length) = some As.length) (hfr : fr + 1 ≤ R.frames ∧ 8 + (maxL + 11) + lo ≤ R.locals)
    (hsz : ls.size = nL) (hW : (rest.map fun v => v.category).sum ≤ 8) (hdg : decode cc pc = .ok (.invokestatic index, 3)) (hcl : cells + (fs_n σ1 - fs_n σ) ≤ R.cells) (hsl : slots + (fs_u σ1 - fs_u σ) ≤ R.slots) (hTH : T0.heap = H) (hw : fs_w X σ H) (Y : Stand p l e R s m args below meth c T0 locs cells slots) :
    fs_Thr X p l e R s m args below meth c H locs cells slots (fs_n σ1 - fs_n σ) (fs_u σ1 - fs_u σ) σ1 E (T0.setTop (F0 m pc ls (As.reverse ++ rest))) (F0 m pc ls rest) := by
  have hts := S.2.2.2.2
  obtain ⟨mk, hnamed⟩ := Cond.code_named (hts _ wc)
  obtain ⟨methM, cM, hmethM, -, -, -, -, -, -, hsigM⟩ := Cond.code_spec hnamed (hts _ wc)
  have hstatic : methM.isStatic = true := Cond.static_spec hnamed hmethM (hts _ wi)
  obtain ⟨kP, hkP, -⟩ := className_of_methodNamed hnamed
  have hinitP : kP.init = .initialized := Cond.initialized_spec (findClass_of_methodNamed hnamed) hkP (hts _ wn)
  have hlen : As.length = methM.sig.parameters.length := by
    have h2 := hd.2.2
    rw [hsigM] at h2
    exact (Option.some.inj h2).symm
  obtain ⟨vm₁, Y1, hstep⟩ := Y.invokestatic S.1 S.2.2.2.1 (hts _ wl) hnamed hmethM hstatic hkP hinitP ⟨hd.1, hd.2.1⟩ (g := F0 m pc ls (As.reverse ++ rest)) rfl (argsL := As) (rest := rest) hlen rfl (by rw [S.2.1]; exact hdg)
  have B := fs_backT (av := As) hM Y1 (g := F0 m pc ls rest) rfl (by rw [S.2.2.1]; exact hsz) (by rw [S.2.1]; exact hdg) (lv_room hW) (Y1.named hnamed) hts wc wn hfr hcl hsl (by show fs_w X σ T0.heap; rw [hTH]; exact hw) (hG.moved Y1.warmed)
  obtain ⟨q, ce, V, L, k1, k2, k3, k4, k5, k6, k7, st⟩ := B
  refine ⟨q, ce, V, L, k1, k2, by rw [← hTH]; exact k3, k4, k5, k6, k7, ?_⟩
  exact hstep _ fun acts => by rw [doInvoke_state]; exact st
end FSX
end
section
/-! calls of what may throw: gone on, or caught -/
section FSY
variable {X : fs_X} {p : Program} {l : Launch} {e : Env} {R : Room} {s : State} {m : MethodId} {args : Array Value} {below : List Frame} {meth : Method} {c : Code} {Q : State → Prop} {α β γ : Type} {rF : α} {σ0 σF : fs_S}
variable {cc : ByteArray} {nL : Nat} {own C : String} {T : u_T} {N ci index pc : Nat} {ls : Array Slot} {rest : List Value} {locs : List Loc} {cells slots : Nat}
variable {y : MethodName} {bytes : ByteArray} {maxL fr lo b : Nat} {ret : Option FieldType} {As st0 : List Value}
theorem fs_JVx (S : CallFix p m c cc nL s args fs_ws own) (hG : fs_G X s) (hR : fs_n σF ≤ fs_n σ0 + R.cells ∧ fs_u σF ≤ fs_u σ0 + R.slots) (hT : ∀ x ∈ c.exceptionTable.toList, False) (hk : meth.locks = false) (hc : fs_cl[ci]? = some (C, T, N)) (As : List Value) {x : fs_T (β ⊕ String)} (ev : β → Option Value) {encx : β ⊕ String → Option Value ⊕ String} (hx1 : ∀ v, encx (.inl v) = .inl (ev v)) (hx2 : ∀ E, encx (.inr E) = .inr E)
    (hM : ∀ r σ σ1, x.1 σ = some (r, σ1) → fs_Met X l y (Cond.code y bytes maxL ret) fr lo (.ref b :: As) σ (encx r) σ1)
    (wl : Cond.methodLink own index y ∈ fs_ws) (wi : Cond.instanceMethod y ∈ fs_ws) (wx : Cond.selects C y y ∈ fs_ws) (wc : Cond.code y bytes maxL ret ∈ fs_ws) (wn : Cond.initialized y.cls ∈ fs_ws)
    (hd : y.cls ≠ "java/lang/invoke/MethodHandle" ∧ y.cls ≠ "java/lang/invoke/VarHandle" ∧ (parseMethodDescriptor y.desc).map (fun d => d.parameters.length) = some As.length) (hfr : fr + 1 ≤ R.frames ∧ 8 + (maxL + 11) + lo ≤ R.locals)
    (hsz : ls.size = nL) (hst : st0 = As.reverse ++ .ref b :: rest) (hW : (rest.map fun v => v.category).sum ≤ 8) (hdg : decode cc pc = .ok (.invokevirtual index, 3))
    {rF : γ ⊕ String} {enc : γ ⊕ String → Option Value ⊕ String} (he : ∀ E, enc (.inr E) = .inr E)
    {kk : β → fs_T (γ ⊕ String)} (K : ∀ r, fs_J X p l e R s m args below meth c (fs_Q X below args s (enc rF) σ0 σF) rF σ0 σF (kk r) (F0 m (pc + 3) ls ((ev r).toList ++ rest))) : fs_J X p l e R s m args below meth c (fs_Q X below args s (enc rF) σ0 σF) rF σ0 σF (fs_bindx (fs_cv b ci x) kk) (F0 m pc ls st0) := by
  intro σ H locs cells slots h hw hS h4 h5
  obtain ⟨r, σ1, h1, h2⟩ := fs_bdT h
  obtain ⟨u, σ2, h1a, h1b⟩ := fs_bdT h1
  obtain ⟨fs, e1, rfl⟩ := fs_ck_ok h1a
  have hm1 := x.2 _ _ _ h1b
  have q1 := hm1.1
  have q2 := hm1.2
  have hts := S.2.2.2.2
  have hM1 := hM r σ2 σ1 h1b
  subst hst
  cases r with
  | inl v =>
    have hm2 := (kk v).2 _ _ _ h2
    have q3 := hm2.1
    have q4 := hm2.2
    rw [hx1] at hM1
    refine fs_go (mc := fs_n σ1 - fs_n σ2) (ms := fs_u σ1 - fs_u σ2) (va_runV (As := As) (rest := rest) S hM1.ret ⟨callB_of As.length hts (fs_gd wc) rfl rfl rfl (hts _ wn) (hts _ wl) hd hfr, hts _ wi, hts _ wx⟩ ⟨fs_blind, va_recv (ws := [(b, .inr (ci, fs))]) hG.2.2 (fs_one (hw.lko e1)) hc (q0 := 0) rfl, fun U hU hW2 => ⟨rfl, by rw [hU]; exact hw, hG.moved hW2⟩⟩ rfl rfl hsz rfl (lv_room hW) hdg ⟨by omega, by omega⟩) hS (fun H1 locs1 hw1 hS1 => ?_)
    exact K v σ1 H1 locs1 _ _ h2 hw1 hS1 (by omega) (by omega)
  | inr E =>
    cases h2
    rw [hx2] at hM1
    intro T0 hT0 Y
    exact fs_out (T := T0) (fs_runVT S hG hc e1 hM1 wl wi wx wc wn hd hfr hsz hW hdg (by omega) (by omega) hT0 hw Y) hS hT hk (he E) (by omega) (by omega)
theorem fs_JSx (S : CallFix p m c cc nL s args fs_ws own) (hG : fs_G X s) (hR : fs_n σF ≤ fs_n σ0 + R.cells ∧ fs_u σF ≤ fs_u σ0 + R.slots) (hT : ∀ x ∈ c.exceptionTable.toList, False) (hk : meth.locks = false) (As : List Value) {x : fs_T (β ⊕ String)} (ev : β → Option Value) {encx : β ⊕ String → Option Value ⊕ String} (hx1 : ∀ v, encx (.inl v) = .inl (ev v)) (hx2 : ∀ E, encx (.inr E) = .inr E)
    (hM : ∀ r σ σ1, x.1 σ = some (r, σ1) → fs_Met X l y (Cond.code y bytes maxL ret) fr lo As σ (encx r) σ1)
    (wl : Cond.methodLink own index y ∈ fs_ws) (wi : Cond.static y ∈ fs_ws) (wc : Cond.code y bytes maxL ret ∈ fs_ws) (wn : Cond.initialized y.cls ∈ fs_ws)
    (hd : y.cls ≠ "java/lang/invoke/MethodHandle" ∧ y.cls ≠ "java/lang/invoke/VarHandle" ∧ (parseMethodDescriptor y.desc).map (fun d => d.parameters.length) = some As.length) (hfr : fr + 1 ≤ R.frames ∧ 8 + (maxL + 11) + lo ≤ R.locals)
    (hsz : ls.size = nL) (hst : st0 = As.reverse ++ rest) (hW : (rest.map fun v => v.category).sum ≤ 8) (hdg : decode cc pc = .ok (.invokestatic index, 3))
    {rF : γ ⊕ String} {enc : γ ⊕ String → Option Value ⊕ String} (he : ∀ E, enc (.inr E) = .inr E)
    {kk : β → fs_T (γ ⊕ String)} (K : ∀ r, fs_J X p l e R s m args below meth c (fs_Q X below args s (enc rF) σ0 σF) rF σ0 σF (kk r) (F0 m (pc + 3) ls ((ev r).toList ++ rest))) : fs_J X p l e R s m args below meth c (fs_Q X below args s (enc rF) σ0 σF) rF σ0 σF (fs_bindx x kk) (F0 m pc ls st0) := by
  intro σ H locs cells slots h hw hS h4 h5
  obtain ⟨r, σ1, h1, h2⟩ := fs_bdT h
  have hm1 := x.2 _ _ _ h1
  have q1 := hm1.1
  have q2 := hm1.2
  have hts := S.2.2.2.2
  have hM1 := hM r σ σ1 h1
  subst hst
  cases r with
  | inl v =>
    have hm2 := (kk v).2 _ _ _ h2
    have q3 := hm2.1
    have q4 := hm2.2
    rw [hx1] at hM1
    refine fs_go (mc := fs_n σ1 - fs_n σ) (ms := fs_u σ1 - fs_u σ) (va_runS (As := As) (rest := rest) S hM1.ret ⟨callB_of As.length hts (fs_gd wc) rfl rfl rfl (hts _ wn) (hts _ wl) hd hfr, hts _ wi⟩ ⟨fs_blind, fun U hU hW2 => ⟨rfl, by rw [hU]; exact hw, hG.moved hW2⟩⟩ rfl rfl hsz rfl (lv_room hW) hdg ⟨by omega, by omega⟩) hS (fun H1 locs1 hw1 hS1 => ?_)
    exact K v σ1 H1 locs1 _ _ h2 hw1 hS1 (by omega) (by omega)
  | inr E =>
    cases h2
    rw [hx2] at hM1
    intro T0 hT0 Y
    exact fs_out (T := T0) (fs_runST S hG hM1 wl wi wc wn hd hfr hsz hW hdg (by omega) (by omega) hT0 hw Y) hS hT hk (he E) (by omega) (by omega)
/-- the search through a table finds the handler h, whatever has been linked meanwhile -/
def fs_F (e : Env) (s : State) (g : JFrame) (a : Addr) (ce : Cell) (tb : List ExceptionTableEntry) (h : Nat) : Prop :=
  ∀ U : State, s.WarmedH U.vm → U.heap[a]? = some ce → ∃ vm1, s.WarmedH vm1 ∧ ∀ (Q : Handler → Pre) (E : CtlPost) (d : Bool) (acts : List Action), wp (findHandler.go g a tb) Q E e d acts U ↔ Q (.found h) d acts (U.setVm vm1)
theorem fs_row {g : JFrame} {a : Addr} {ce : Cell} {name E : String} {x : ExceptionTableEntry} {tb : List ExceptionTableEntry} (hpl : e.platform.magicAccessors = ({} : Platform).magicAccessors) (hown : s.vm.findClass own = some g.method.cls) (hx : covers x g.pc = true) (h0 : x.catchType ≠ 0) (hlink : (Cond.classLink own x.catchType name).before args s = true)
    (hcv : ce.vm = .none) (hE : s.vm.findClass E = some ce.cls) : ∃ t : ClassId, s.vm.findClass name = some t ∧ ∀ U : State, s.WarmedH U.vm → U.heap[a]? = some ce → ∃ vm1, s.WarmedH vm1 ∧ ∀ (Q : Handler → Pre) (E : CtlPost) (d : Bool) (acts : List Action),
      wp (findHandler.go g a (x :: tb)) Q E e d acts U ↔ if s.vm.assignable ce.cls t = true then Q (.found x.handlerPc) d acts (U.setVm vm1) else wp (findHandler.go g a tb) Q E e d acts (U.setVm vm1) := by
  obtain ⟨t, ht, hl⟩ := Cond.classLink_spec hown hlink e.platform hpl
  refine ⟨t, ht, fun U hW hcell => ?_⟩
  obtain ⟨dk, _, _, kt, hd, _, _, _, _, hkt, _, hopen⟩ := hl.here
  have hl0 := hW.classLinks hl
  refine ⟨U.vm.noted g.method.cls x.catchType (.cls t), hW.noted hd hopen (State.rightAt_cls hl), fun Q E d acts => ?_⟩
  have hal : U.vm.Alike (U.vm.noted g.method.cls x.catchType (.cls t)) := (Vm.Alike.refl U.vm).noted _ _ _
  obtain ⟨k0, hk0⟩ := Vm.classAt_of_findClass hE
  obtain ⟨k1, hk1, -⟩ := hW.alike.2.2 _ _ hk0
  obtain ⟨k2, hk2, -⟩ := hW.alike.2.2 _ _ hkt
  obtain ⟨k3, hk3, -⟩ := hal.2.2 _ _ hk1
  obtain ⟨k4, hk4, -⟩ := hal.2.2 _ _ hk2
  have hob : ∀ k, ce.vm ≠ .statics k := fun k h => by rw [hcv] at h; cases h
  have has : (U.vm.noted g.method.cls x.catchType (.cls t)).assignable ce.cls t = s.vm.assignable ce.cls t := by rw [hal.assignable, hW.alike.assignable]
  obtain ⟨r1, r2⟩ := (resolveClass_links e.toSetting hl0).op (op := VmOp.resolveClass g.method.cls x.catchType) rfl
  simp only [covers] at hx
  cases hf : s.vm.assignable ce.cls t <;> simp [findHandler.go, hx, h0, r1, r2, hcell, hob, hk3, hk4, has, hf, VmOp.dirties, VmOp.acts]
theorem fs_F.take {g : JFrame} {a : Addr} {ce : Cell} {E : String} {x : ExceptionTableEntry} {tb : List ExceptionTableEntry} (hpl : e.platform.magicAccessors = ({} : Platform).magicAccessors) (hown : s.vm.findClass own = some g.method.cls) (hx : covers x g.pc = true) (h0 : x.catchType ≠ 0) (hlink : (Cond.classLink own x.catchType E).before args s = true)
    (hcv : ce.vm = .none) (hE : s.vm.findClass E = some ce.cls) (hc : (Cond.castable E E).before args s = true) : fs_F e s g a ce (x :: tb) x.handlerPc := by
  obtain ⟨t, ht, hr⟩ := fs_row (a := a) (tb := tb) hpl hown hx h0 hlink hcv hE
  obtain ⟨c3, c4, hc3, hc4, has⟩ := Cond.castable_spec hc
  cases hc3.symm.trans hE
  cases hc4.symm.trans ht
  intro U hW hcell
  obtain ⟨vm1, hW1, h1⟩ := hr U hW hcell
  exact ⟨vm1, hW1, fun Q E d acts => by rw [h1 Q E d acts, if_pos has]⟩
theorem fs_F.pass {g : JFrame} {a : Addr} {ce : Cell} {E name : String} {x : ExceptionTableEntry} {tb : List ExceptionTableEntry} {h : Nat} (hpl : e.platform.magicAccessors = ({} : Platform).magicAccessors) (hown : s.vm.findClass own = some g.method.cls) (hx : covers x g.pc = true) (h0 : x.catchType ≠ 0) (hlink : (Cond.classLink own x.catchType name).before args s = true)
    (hcv : ce.vm = .none) (hE : s.vm.findClass E = some ce.cls) (hn : va_Nc E name s) (k : fs_F e s g a ce tb h) : fs_F e s g a ce (x :: tb) h := by
  obtain ⟨t, ht, hr⟩ := fs_row (a := a) (tb := tb) hpl hown hx h0 hlink hcv hE
  obtain ⟨c3, c4, hc3, hc4, has⟩ := hn
  cases hc3.symm.trans hE
  cases hc4.symm.trans ht
  intro U hW hcell
  obtain ⟨vm1, hW1, h1⟩ := hr U hW hcell
  obtain ⟨vm2, hW2, h2⟩ := k (U.setVm vm1) hW1 hcell
  exact ⟨vm2, hW2, fun Q E d acts => by rw [h1 Q E d acts, if_neg (by rw [has]; decide)]; exact h2 Q E d acts⟩
theorem fs_stepC {U : State} {a : Addr} {g : JFrame} {r : List Frame} {h : Nat} {vm1 : Vm} (hf : ∀ (Q : Handler → Pre) (E : CtlPost) (d : Bool) (acts : List Action), wp (findHandler g a) Q E e d acts U ↔ Q (.found h) d acts (U.setVm vm1)) :
    (stepThrowing e U a (.java g :: r)).1 = (U.setVm vm1).setFrames (.java { g with pc := h, stack := [.ref a] } :: r) := by
  simp only [stepThrowing, searchFrame, vmDo]
  generalize hr : Sem.go _ e false [] U = res
  obtain ⟨as, rfl, -⟩ := Sem.eq_ok_of hr (a := Handler.found h) (s' := U.setVm vm1) (acts' := []) (by simp [hf _ _ _ _])
  rfl
theorem fs_caught {V : State} (Y : Stand p l e R s m args below meth c V locs cells slots) {g : JFrame} (hg : g.method = m) {a : Addr} {ce : Cell} (hce : V.heap[a]? = some ce) {h : Nat} (hF : fs_F e s g a ce c.exceptionTable.toList h) :
    ∃ vm1, Stand p l e R s m args below meth c (V.setVm vm1) locs cells slots ∧ ∀ t, Steps p.tables e below ((V.setVm vm1).setTop { g with pc := h, stack := [.ref a] }) t → Steps p.tables e below ((V.setTop g).pushFrame (.throwing a)) t := by
  obtain ⟨vm1, hW1, h1⟩ := hF ((V.setTop g).pushFrame (.throwing a)) (by rw [Stand.throwing_vm]; exact Y.warmed) (by rw [Stand.throwing_heap]; exact hce)
  refine ⟨vm1, Y.noted hW1, fun t ht => ?_⟩
  subst hg
  obtain ⟨hgo, hw⟩ := Y.here.throwing a
  refine Steps.head hgo hw ?_
  rw [stepThread_throwing (frames_entered Y.here.top _), fs_stepC (vm1 := vm1) (h := h) (fun Q E d acts => (W.findHandler_eq (meth := meth) (code := c) (by rw [Stand.throwing_vm]; exact Y.method') Y.code).trans (h1 Q E d acts))]
  obtain ⟨g₀, hg0⟩ := Option.isSome_iff_exists.mp Y.here.top
  obtain ⟨r, hr⟩ := State.topJava?_eq_some.mp hg0
  have hr' : (V.setVm vm1).frames = .java g₀ :: r := hr
  have e1 : ∀ (u : State) (F : List Frame), (u.setFrames F).setVm vm1 = (u.setVm vm1).setFrames F := fun _ _ => rfl
  rw [State.setTop_of_frames _ hr'] at ht
  rw [hr, List.tail_cons, State.pushFrame, e1, State.setFrames_setFrames, State.setTop_of_frames _ hr, e1, State.setFrames_setFrames]
  exact ht
/-- the handlers' part of a try -/
def fs_H (X : fs_X) (p : Program) (l : Launch) (e : Env) (R : Room) (s : State) (m : MethodId) (args : Array Value) (below : List Frame) (meth : Method) (c : Code) (Q : State → Prop) {α : Type} (rF : α) (σ0 σF : fs_S) (pc : Nat) (ls : Array Slot) (rest : List Value) (t : fs_T α) (E : String) : Prop :=
  ∀ (a : Addr) (ce : Cell) (σ : fs_S), ce.vm = .none → s.vm.findClass E = some ce.cls → t.1 σ = some (rF, σF) → ∃ h, fs_F e s (F0 m pc ls rest) a ce c.exceptionTable.toList h ∧ fs_J X p l e R s m args below meth c Q rF σ0 σF t (F0 m h ls [.ref a])
theorem fs_Hif {n : String} {t1 t2 : fs_T α} {E : String} (h : Nat) (hF : ∀ (a : Addr) (ce : Cell), ce.vm = .none → s.vm.findClass n = some ce.cls → fs_F e s (F0 m pc ls rest) a ce c.exceptionTable.toList h)
    (hJ : ∀ a, fs_J X p l e R s m args below meth c Q rF σ0 σF t1 (F0 m h ls [.ref a])) (k : fs_H X p l e R s m args below meth c Q rF σ0 σF pc ls rest t2 E) : fs_H X p l e R s m args below meth c Q rF σ0 σF pc ls rest (if E = n then t1 else t2) E := by
  intro a ce σ h1 h2 h3
  by_cases q : E = n
  · subst q
    rw [if_pos rfl]
    exact ⟨h, hF a ce h1 h2, hJ a⟩
  · rw [if_neg q] at h3 ⊢
    exact k a ce σ h1 h2 h3
theorem fs_Hfail {E : String} : fs_H X p l e R s m args below meth c Q rF σ0 σF pc ls rest fs_fail E := fun _ _ _ _ _ h => by cases h
theorem fs_JVt (S : CallFix p m c cc nL s args fs_ws own) (hG : fs_G X s) (hR : fs_n σF ≤ fs_n σ0 + R.cells ∧ fs_u σF ≤ fs_u σ0 + R.slots) (hc : fs_cl[ci]? = some (C, T, N)) (As : List Value) {x : fs_T (β ⊕ String)} (ev : β → Option Value) {encx : β ⊕ String → Option Value ⊕ String} (hx1 : ∀ v, encx (.inl v) = .inl (ev v)) (hx2 : ∀ E, encx (.inr E) = .inr E)
    (hM : ∀ r σ σ1, x.1 σ = some (r, σ1) → fs_Met X l y (Cond.code y bytes maxL ret) fr lo (.ref b :: As) σ (encx r) σ1)
    (wl : Cond.methodLink own index y ∈ fs_ws) (wi : Cond.instanceMethod y ∈ fs_ws) (wx : Cond.selects C y y ∈ fs_ws) (wc : Cond.code y bytes maxL ret ∈ fs_ws) (wn : Cond.initialized y.cls ∈ fs_ws)
    (hd : y.cls ≠ "java/lang/invoke/MethodHandle" ∧ y.cls ≠ "java/lang/invoke/VarHandle" ∧ (parseMethodDescriptor y.desc).map (fun d => d.parameters.length) = some As.length) (hfr : fr + 1 ≤ R.frames ∧ 8 + (maxL + 11) + lo ≤ R.locals)
    (hsz : ls.size = nL) (hst : st0 = As.reverse ++ .ref b :: rest) (hW : (rest.map fun v => v.category).sum ≤ 8) (hdg : decode cc pc = .ok (.invokevirtual index, 3))
    {kk : β → fs_T α} {hh : String → fs_T α} (K : ∀ r, fs_J X p l e R s m args below meth c Q rF σ0 σF (kk r) (F0 m (pc + 3) ls ((ev r).toList ++ rest))) (K2 : ∀ E, fs_H X p l e R s m args below meth c Q rF σ0 σF pc ls rest (hh E) E) :
    fs_J X p l e R s m args below meth c Q rF σ0 σF (fs_try (fs_cv b ci x) kk hh) (F0 m pc ls st0) := by
  intro σ H locs cells slots h hw hS h4 h5
  obtain ⟨r, σ1, h1, h2⟩ := fs_bdT h
  obtain ⟨u, σ2, h1a, h1b⟩ := fs_bdT h1
  obtain ⟨fs, e1, rfl⟩ := fs_ck_ok h1a
  have hm1 := x.2 _ _ _ h1b
  have q1 := hm1.1
  have q2 := hm1.2
  have hts := S.2.2.2.2
  have hM1 := hM r σ2 σ1 h1b
  subst hst
  cases r with
  | inl v =>
    have hm2 := (kk v).2 _ _ _ h2
    have q3 := hm2.1
    have q4 := hm2.2
    rw [hx1] at hM1
    refine fs_go (mc := fs_n σ1 - fs_n σ2) (ms := fs_u σ1 - fs_u σ2) (va_runV (As := As) (rest := rest) S hM1.ret ⟨callB_of As.length hts (fs_gd wc) rfl rfl rfl (hts _ wn) (hts _ wl) hd hfr, hts _ wi, hts _ wx⟩ ⟨fs_blind, va_recv (ws := [(b, .inr (ci, fs))]) hG.2.2 (fs_one (hw.lko e1)) hc (q0 := 0) rfl, fun U hU hW2 => ⟨rfl, by rw [hU]; exact hw, hG.moved hW2⟩⟩ rfl rfl hsz rfl (lv_room hW) hdg ⟨by omega, by omega⟩) hS (fun H1 locs1 hw1 hS1 => ?_)
    exact K v σ1 H1 locs1 _ _ h2 hw1 hS1 (by omega) (by omega)
  | inr E =>
    have h2' : (hh E).1 σ1 = some (rF, σF) := h2
    have hm2 := (hh E).2 _ _ _ h2'
    have q3 := hm2.1
    have q4 := hm2.2
    rw [hx2] at hM1
    intro T0 hT0 Y
    obtain ⟨q, ce, V, L, YV, hwV, ⟨hz, hq⟩, hL, hce, hcv, hcl, st⟩ := fs_runVT S hG hc e1 hM1 wl wi wx wc wn hd hfr hsz hW hdg (cells := cells) (slots := slots) (by omega) (by omega) hT0 hw Y
    obtain ⟨ph, hF, hJ⟩ := K2 E q ce σ1 hcv hcl h2'
    obtain ⟨vm1, Y1, st1⟩ := fs_caught YV (g := F0 m pc ls rest) rfl hce hF
    obtain ⟨t, st2, hQ⟩ := hJ σ1 V.heap (locs ++ L) _ _ h2' hwV ⟨Nat.le_trans hS.1 hz, fun z a1 a2 => by rw [hq z (Nat.lt_of_lt_of_le a1 hS.1) a2]; exact hS.2.1 z a1 a2, fun z hz2 => by
        rcases List.mem_append.mp hz2 with h | h
        · exact hS.2.2 z h
        · exact hL z h⟩ (by omega) (by omega) (V.setVm vm1) rfl Y1
    exact ⟨t, st.trans (st1 t st2), hQ⟩
/-- a body with a table of handlers -/
theorem fs_ofWH {hs : List (Nat × Nat × Nat × Nat)} {av : List Value} {σ : fs_S} {rv : Option Value ⊕ String} (hy : plainName y.cls = true)
    (body : ∀ p e s m args below meth c s₁, BodyLoose p l y (headSpec (Cond.codeWith y cc maxL ret hs :: fs_ws) (fs_rm fr lo σ σF)) cc maxL ret e s m args below meth c s₁ → c.maxLocals = maxL → c.exceptionTable.toList = tableOf hs → fs_pre X av σ args s →
      W p l e (fs_rm fr lo σ σF) s m args below meth c s.heap [] 0 0 (fs_Q X below args s rv σ σF) (entryFrame m args maxL)) : fs_Met X l y (Cond.codeWith y cc maxL ret hs) fr lo av σ rv σF := by
  have his : ∀ args (s : State) m, (headSpec (Cond.codeWith y cc maxL ret hs :: fs_ws) (fs_rm fr lo σ σF)).pre.before args s = true → s.methodNamed? y = some m → ∃ meth c, s.vm.method? m = some meth ∧ meth.code = some c ∧ c.code = cc ∧ c.maxLocals = maxL ∧ meth.sig.returnType = ret ∧ meth.locks = false ∧ c.exceptionTable.toList = tableOf hs := by
    intro args s m h hn
    obtain ⟨m9, meth, c, hn9, h1, h2, h3, h4, h5, h6, h7, -⟩ := Cond.codeWith_spec (atoms_spec (ws := Cond.codeWith y cc maxL ret hs :: fs_ws) h _ List.mem_cons_self)
    cases hn.symm.trans hn9
    exact ⟨meth, c, h1, h2, h3, h4, h6, h7, by rw [← h5, table_eq]⟩
  refine MetFree.of_bodyS (code := cc) (maxLocals := maxL) (ret := ret) hy (fun args s m h hn => ?_) ?_
  · obtain ⟨meth, c, h1, h2, h3, h4, h5, h6, -⟩ := his args s m h hn
    exact ⟨meth, c, h1, h2, h3, h4, h5, h6⟩
  · intro p e s m args below meth c s₁ B hml hP _
    have hh0 : s₁.heap = s.heap := by rw [B.state]; rfl
    have ht : c.exceptionTable.toList = tableOf hs := by
      obtain ⟨meth9, c9, h1, h2, -, -, -, -, h7⟩ := his args s m B.pre B.named
      cases Option.some.inj (h1.symm.trans B.method)
      cases Option.some.inj (h2.symm.trans (Stand.of_body B).code)
      exact h7
    obtain ⟨t, a1, o, b1, b2, b3⟩ := body p e s m args below meth c s₁ B hml ht hP s₁ hh0 (Stand.of_body B)
    exact ⟨t, o, a1, b1, b2, b3⟩
/-- a call of such a static method -/
theorem fs_JSW (S : CallFix p m c cc nL s args fs_ws own) (hG : fs_G X s) (hR : fs_n σF ≤ fs_n σ0 + R.cells ∧ fs_u σF ≤ fs_u σ0 + R.slots) (As : List Value) {x : fs_T β} {enc : β → Option Value} {hs : List (Nat × Nat × Nat × Nat)}
    (hM : ∀ r σ σ1, x.1 σ = some (r, σ1) → fs_Met X l y (Cond.codeWith y bytes maxL ret hs) fr lo As σ (.inl (enc r)) σ1)
    (wl : Cond.methodLink own index y ∈ fs_ws) (wi : Cond.static y ∈ fs_ws) (wc : Cond.codeWith y bytes maxL ret hs ∈ fs_ws) (wn : Cond.initialized y.cls ∈ fs_ws)
    (hd : y.cls ≠ "java/lang/invoke/MethodHandle" ∧ y.cls ≠ "java/lang/invoke/VarHandle" ∧ (parseMethodDescriptor y.desc).map (fun d => d.parameters.length) = some As.length) (hfr : fr + 1 ≤ R.frames ∧ 8 + (maxL + 11) + lo ≤ R.locals)
    (hsz : ls.size = nL) (hst : st0 = As.reverse ++ rest) (hW : (rest.map fun v => v.category).sum ≤ 8) (hdg : decode cc pc = .ok (.invokestatic index, 3))
    {kk : β → fs_T α} (K : ∀ r, fs_J X p l e R s m args below meth c Q rF σ0 σF (kk r) (F0 m (pc + 3) ls ((enc r).toList ++ rest))) : fs_J X p l e R s m args below meth c Q rF σ0 σF (fs_bind x kk) (F0 m pc ls st0) := by
  intro σ H locs cells slots h hw hS h4 h5
  obtain ⟨r, σ1, h1, h2⟩ := fs_bdT h
  have hm1 := x.2 _ _ _ h1
  have hm2 := (kk r).2 _ _ _ h2
  have q1 := hm1.1
  have q2 := hm1.2
  have q3 := hm2.1
  have q4 := hm2.2
  have hts := S.2.2.2.2
  subst hst
  have hword : ∀ w ∈ fs_ws, ∀ (a : Array Value) (U : State), s.WarmedH U.vm → w.before a U = true := fun w h a U hU => word_at hU (good_of_word (List.mem_filter.mp h).2) (hts w h)
  have hK : Back l R p e below s args y 3 8 (PreOf R (fs_n σ1 - fs_n σ) (fs_u σ1 - fs_u σ) (fs_pre X As σ)) (PostOf (fs_Qr X (enc r) σ1) (fs_n σ1 - fs_n σ) (fs_u σ1 - fs_u σ) (fs_A X)) :=
    va_backW (hh := hs) (bytes := bytes) (maxL := maxL) (ret := ret) (hM r σ σ1 h1).ret fs_blind rfl rfl hfr.1 hfr.2 (fun w hw => (List.mem_cons.mp hw).elim (fun e => by rw [e]; exact hword _ wc) (fun h => hword _ h)) List.mem_cons_self (fun a U hU => hword _ wn a U hU)
  have hrun : va_Run p l e R s m args below meth c H locs cells slots (fs_n σ1 - fs_n σ) (fs_u σ1 - fs_u σ) (F0 m pc ls (As.reverse ++ rest)) rest (fs_Qr X (enc r) σ1 As.toArray) (fs_A X) := by
    intro T0 hT0 Y
    obtain ⟨mk, methM, cM, hnamed, hmethM, -, -, -, -, -, -, hsigM⟩ := Cond.codeWith_spec (hts _ wc)
    have hstatic : methM.isStatic = true := Cond.static_spec hnamed hmethM (hts _ wi)
    obtain ⟨kP, hkP, -⟩ := className_of_methodNamed hnamed
    have hinitP : kP.init = .initialized := Cond.initialized_spec (findClass_of_methodNamed hnamed) hkP (hts _ wn)
    have hlen : As.length = methM.sig.parameters.length := by
      have h2 := hd.2.2
      rw [hsigM] at h2
      exact (Option.some.inj h2).symm
    obtain ⟨vm₁, Y1, hstep⟩ := Y.invokestatic S.1 S.2.2.2.1 (hts _ wl) hnamed hmethM hstatic hkP hinitP ⟨hd.1, hd.2.1⟩ (g := F0 m pc ls (As.reverse ++ rest)) rfl (argsL := As) (rest := rest) hlen rfl (by rw [S.2.1]; exact hdg)
    obtain ⟨v, ⟨U', l2, c2, s2⟩, X', ⟨g', mk', t, L, e1, e2, hq, h1, hL, h2, h3⟩, st⟩ := hK m meth c ⟨T0.setVm vm₁, locs, cells, slots⟩ (F0 m pc ls rest) _ mk As.toArray Y1 rfl (by rw [S.2.2.1]; exact hsz) (by rw [S.2.1]; exact hdg) (lv_room hW) (Y1.named hnamed) ⟨by show cells + _ ≤ _; omega, by show slots + _ ≤ _; omega, rfl, by show fs_w X σ T0.heap; rw [hT0]; exact hw, hG.moved Y1.warmed⟩
    dsimp only [Pt.U, Pt.locs, Pt.cells, Pt.slots] at X' e1 e2 h1 h2 h3 st
    subst h1; subst h2; subst h3
    exact ⟨v, (T0.setVm vm₁).calling g' mk' As.toArray, t, U', L, hT0, X', hL, e1, e2, hq, fun target hgo => hstep _ fun acts => by rw [doInvoke_state]; exact st.trans hgo⟩
  exact fs_go hrun hS (fun H1 locs1 hw1 hS1 => K r σ1 H1 locs1 _ _ h2 hw1 hS1 (by omega) (by omega))
end FSY
end
section
/-! the words of the throws -/
def fs_tkb (w : Cond) : Bool := (decide (w ∈ lw_tbl) && (goodWord w || (match w with
    | .castable _ _ => true
    | .declares _ => true
    | .laysStatic _ _ _ => true
    | _ => false))) || decide (w = .isRef (.static Bundle.tN "UNASSIGNED_STACK" Bundle.steD)) || decide (w = .isRef (.static Bundle.tN "SUPPRESSED_SENTINEL" Bundle.listD))
theorem fs_tk_of {w : Cond} (h : fs_tkb w = true) : fs_tk w := by
  unfold fs_tkb at h
  rw [Bool.or_eq_true, Bool.or_eq_true, Bool.and_eq_true, Bool.or_eq_true] at h
  rcases h with (⟨h1, h2⟩ | h) | h
  · refine Or.inl ⟨of_decide_eq_true h1, ?_⟩
    rcases h2 with h2 | h2
    · exact Or.inl h2
    · cases w <;> first | (exact Or.inr (Or.inl ⟨_, _, rfl⟩)) | (exact Or.inr (Or.inr (Or.inl ⟨_, rfl⟩))) | (exact Or.inr (Or.inr (Or.inr ⟨_, _, _, rfl⟩))) | cases h2
  · exact Or.inr (Or.inl (of_decide_eq_true h))
  · exact Or.inr (Or.inr (of_decide_eq_true h))
def fs_nms : List String := ["java/lang/RuntimeException", "java/lang/Exception"]
theorem fs_all {L : List Cond} (h : L.all fs_tkb = true) : ∀ w ∈ L, fs_tk w := fun w hw => fs_tk_of (List.all_eq_true.mp h w hw)
theorem fs_fit : ∀ n ∈ fs_nms, Bundle.fit n = true := by decide +kernel
theorem fs_at1 : ∀ w ∈ Bundle.ownAtoms "FlowShelf" 47 "java/lang/IllegalArgumentException" fs_nms, fs_tk w := fs_all (by decide +kernel)
theorem fs_at2 : ∀ w ∈ Bundle.ownAtoms "FlowShelf" 60 "java/lang/IllegalStateException" fs_nms, fs_tk w := fs_all (by decide +kernel)
theorem fs_at3 : ∀ w ∈ Bundle.ownAtoms "FlowShelf" 95 "java/lang/IndexOutOfBoundsException" fs_nms, fs_tk w := fs_all (by decide +kernel)
theorem fs_at4 : ∀ w ∈ Bundle.ownAtoms "FlowShelf$Collector" 63 "java/lang/UnsupportedOperationException" fs_nms, fs_tk w := fs_all (by decide +kernel)
theorem fs_at5 : ∀ w ∈ Bundle.ownAtoms "FlowShelf$Collector" 127 "java/lang/IllegalArgumentException" fs_nms, fs_tk w := fs_all (by decide +kernel)
theorem fs_nc1 {X : fs_X} {U : State} (hG : fs_G X U) : va_Nc "java/lang/IllegalStateException" "java/lang/IllegalArgumentException" U := by
  obtain ⟨⟨⟨b, -, hn⟩, -⟩, hW, -⟩ := hG
  exact va_Nc.moved hW.alike (va_Nc.of (flat_of_before _ hn _ (by decide +kernel)))
theorem fs_nc2 {X : fs_X} {U : State} (hG : fs_G X U) : va_Nc "java/lang/IndexOutOfBoundsException" "java/lang/IllegalArgumentException" U := by
  obtain ⟨⟨⟨b, -, hn⟩, -⟩, hW, -⟩ := hG
  exact va_Nc.moved hW.alike (va_Nc.of (flat_of_before _ hn _ (by decide +kernel)))
theorem fs_nc3 {X : fs_X} {U : State} (hG : fs_G X U) : va_Nc "java/lang/IllegalArgumentException" "java/lang/IndexOutOfBoundsException" U := by
  obtain ⟨⟨⟨b, -, hn⟩, -⟩, hW, -⟩ := hG
  exact va_Nc.moved hW.alike (va_Nc.of (flat_of_before _ hn _ (by decide +kernel)))
theorem fs_nc4 {X : fs_X} {U : State} (hG : fs_G X U) : va_Nc "java/lang/UnsupportedOperationException" "java/lang/IndexOutOfBoundsException" U := by
  obtain ⟨⟨⟨b, -, hn⟩, -⟩, hW, -⟩ := hG
  exact va_Nc.moved hW.alike (va_Nc.of (flat_of_before _ hn _ (by decide +kernel)))
theorem fs_nc5 {X : fs_X} {U : State} (hG : fs_G X U) : va_Nc "java/lang/UnsupportedOperationException" "java/lang/IllegalArgumentException" U := by
  obtain ⟨⟨⟨b, -, hn⟩, -⟩, hW, -⟩ := hG
  exact va_Nc.moved hW.alike (va_Nc.of (flat_of_before _ hn _ (by decide +kernel)))
end
section
/-! the claim, out of what the law gives as a program -/
def lw_P (b : Addr) (xs : List Int32) (args : Array Value) (s : State) : Prop := args = #[.ref b] ∧ s.IntsAt b xs ∧ xs.length ≤ 3584 ∧ (Jvm.Cond.and given_1 narrow_1).before args s = true
def lw_Q (_ : Array Value) (s : State) (o : Outcome) (t : State) : Prop := o = .returned (some (.int 1)) ∧ Framed s o t [] 601024 7293034
def fs_Pure (f : Nat → fs_T Int32) : Prop := ∀ (b z L : Nat) (xs g : Nat → Int32) (q : Nat → Option Nat) (k0 : fs_M) (cz : Nat → Nat), L ≤ 3584 → k0 b = some (.inl (0, L, .inl xs)) → k0 (cz 0) = some (.inl (0, 8, .inl g)) → g 0 = 1 ∧ g 1 = 1 ∧ g 2 = 1 ∧ g 3 = 3 ∧ g 4 = 2 ∧ g 5 = 2 ∧ g 6 = 2 ∧ g 7 = 1 →
  k0 (cz 1) = some (.inl (3, 0, .inr (.inr (.inr (.inr q))))) → (∀ a e, k0 a = some e → a < z) → ∃ σF, (f b).1 (fun _ => none, k0, cz, z, 0) = some (1, σF) ∧ fs_n σF ≤ z + 601024 ∧ fs_u σF ≤ 7293034
theorem fs_known {s : State} {args : Array Value} (hts : ∀ w ∈ fs_ws, w.before args s = true) : ∃ D : va_G, ∀ (c : Nat) (q : vw_C), fs_cl[c]? = some q → u_Kn s q.1 q.2.1 q.2.2 (D.1 c) (D.2 c) := by
  have h : ∀ c : Nat, ∃ (cC : ClassId) (iS : Nat → Nat), ∀ q : vw_C, fs_cl[c]? = some q → u_Kn s q.1 q.2.1 q.2.2 cC iS := fun c => match c with
    | 0 => by
      obtain ⟨cC, iS, h⟩ := u_known hts fs_in0 (hts _ tw_1_30)
      exact ⟨cC, iS, fun q hq => by cases hq; exact h⟩
    | 1 => by
      obtain ⟨cC, iS, h⟩ := u_known hts fs_in1 (hts _ tw_1_38)
      exact ⟨cC, iS, fun q hq => by cases hq; exact h⟩
    | 2 => by
      obtain ⟨cC, iS, h⟩ := u_known hts fs_in2 (hts _ tw_1_44)
      exact ⟨cC, iS, fun q hq => by cases hq; exact h⟩
    | 3 => by
      obtain ⟨cC, iS, h⟩ := u_known hts fs_in3 (hts _ tw_1_71)
      exact ⟨cC, iS, fun q hq => by cases hq; exact h⟩
    | 4 => by
      obtain ⟨cC, iS, h⟩ := u_known hts fs_in4 (hts _ tw_1_77)
      exact ⟨cC, iS, fun q hq => by cases hq; exact h⟩
    | 5 => by
      obtain ⟨cC, iS, h⟩ := u_known hts fs_in5 (hts _ tw_1_168)
      exact ⟨cC, iS, fun q hq => by cases hq; exact h⟩
    | 6 => by
      obtain ⟨cC, iS, h⟩ := u_known hts fs_in6 (hts _ tw_1_176)
      exact ⟨cC, iS, fun q hq => by cases hq; exact h⟩
    | 7 => by
      obtain ⟨cC, iS, h⟩ := u_known hts fs_in7 (hts _ tw_1_202)
      exact ⟨cC, iS, fun q hq => by cases hq; exact h⟩
    | 8 => by
      obtain ⟨cC, iS, h⟩ := u_known hts fs_in8 (hts _ tw_3_21)
      exact ⟨cC, iS, fun q hq => by cases hq; exact h⟩
    | 9 => by
      obtain ⟨cC, iS, h⟩ := u_known hts fs_in9 (hts _ tw_3_220)
      exact ⟨cC, iS, fun q hq => by cases hq; exact h⟩
    | 10 => by
      obtain ⟨cC, iS, h⟩ := u_known hts fs_in10 (hts _ tw_4_223)
      exact ⟨cC, iS, fun q hq => by cases hq; exact h⟩
    | 11 => by
      obtain ⟨cC, iS, h⟩ := u_known hts fs_in11 (hts _ tw_5_18)
      exact ⟨cC, iS, fun q hq => by cases hq; exact h⟩
    | 12 => by
      obtain ⟨cC, iS, h⟩ := u_known hts fs_in12 (hts _ tw_5_187)
      exact ⟨cC, iS, fun q hq => by cases hq; exact h⟩
    | n + 13 => ⟨0, fun _ => 0, fun q hq => by cases hq⟩
  exact ⟨(fun c => Classical.choose (h c), fun c => Classical.choose (Classical.choose_spec (h c))), fun c q hq => Classical.choose_spec (Classical.choose_spec (h c)) q hq⟩
theorem fs_arr {s : State} {args : Array Value} {ty : FieldType} (hty : ∀ C, ty ≠ .object C) (h : (Cond.arrayClass ty).before args s = true) : ∃ cA, ArrOfT s cA ty ∧ va_RA s cA ty := by
  obtain ⟨c, k, comp, h1, h2, h3⟩ := Cond.arrayClass_spec h
  refine ⟨c, fun N z => ⟨(fun k h => by cases h), k, h2, comp, h3⟩, ?_⟩
  cases ty with
  | object C => exact absurd rfl (hty C)
  | _ => exact h1
theorem fs_arq {s : State} {args : Array Value} {C : String} (h : (Cond.arrayOver (.object C)).before args s = true) : ∃ cA, ArrOfT s cA (.object C) ∧ va_RA s cA (.object C) := by
  obtain ⟨comp, c, k, h1, -, h3, h4, h5⟩ := Cond.arrayOver_spec h
  exact ⟨c, fun N z => ⟨(fun k h => by cases h), k, h3, comp, h4⟩, k, comp, h3, h4, h1, h5⟩
theorem fs_room {s : State} {pl : Platform} {R R2 : Room} (h : s.hasRoom pl R = true) (h1 : R2.frames ≤ R.frames) (h2 : R2.locals ≤ R.locals) (h3 : R2.cells ≤ R.cells) (h4 : R2.slots ≤ R.slots) : s.hasRoom pl R2 = true := by
  simp only [State.hasRoom, Bool.and_eq_true, decide_eq_true_eq] at h ⊢
  obtain ⟨⟨⟨⟨a1, a2, a3, a4, a5, a6⟩, a7⟩, a8⟩, a9⟩ := h
  exact ⟨⟨⟨⟨by omega, by omega, by omega, by omega, by omega, a6⟩, by omega⟩, by omega⟩, a9⟩
theorem fs_apart {s : State} {c : Cell} {C : String} (h1 : s.isArrayOf c .int) (h2 : s.isArrayOf c (.object C)) : False := by
  obtain ⟨-, k, hk, m, hm⟩ := h1
  obtain ⟨-, k2, hk2, m2, hm2⟩ := h2
  cases hk.symm.trans hk2
  cases hm.symm.trans hm2
theorem fs_size {s : State} {args : Array Value} {tm : Term} {N : Nat} (hN : N < 2 ^ 31) {a : Addr} {c : Cell} (ht : tm.eval args s none [] s = some (.ref a)) (hat : s.arrayAt? a = some c) (hv : (Term.length tm).eval args s none [] s = some (.int (Int32.ofNat N))) : c.slots.size = N := by
  have hlt : c.slots.size < 2147483648 := by
    simp only [Term.eval, ht, hat, Option.bind_eq_bind, Option.bind_some] at hv
    by_cases hlt : c.slots.size < 2147483648
    · exact hlt
    · simp [hlt] at hv
  obtain ⟨a2, c2, t2, at2, e2⟩ := Term.length_spec hv
  cases ht.symm.trans t2
  cases hat.symm.trans at2
  have e3 : Int32.ofNat N = Int32.ofNat c.slots.size := Value.int.inj e2
  have e4 := congrArg Int32.toNatClampNeg e3
  rw [Int32.toNatClampNeg_ofNat_of_lt hN, Int32.toNatClampNeg_ofNat_of_lt hlt] at e4
  exact e4.symm
theorem fs_const {s : State} {args : Array Value} (hn : (Jvm.Cond.and given_1 narrow_1).before args s = true) (hts : ∀ w ∈ lw_tbl, w.before args s = true) : ∃ (c0 c1 c2 : Nat) (g : Nat → Int32), (g 0 = 1 ∧ g 1 = 1 ∧ g 2 = 1 ∧ g 3 = 3 ∧ g 4 = 2 ∧ g 5 = 2 ∧ g 6 = 2 ∧ g 7 = 1) ∧ va_X c0 8 g s s.heap ∧ (∃ scr : Cell, s.heap[c1]? = some scr ∧ s.isArrayOf scr (.object "java/lang/Object") ∧ scr.slots.size = 0) ∧
    va_Z "FlowShelf" "LEAST_LENGTH" "[I" (.ref c0) (fun q => s.heap.size ≤ q) s s.heap ∧ va_Z "java/util/ArrayList" "DEFAULTCAPACITY_EMPTY_ELEMENTDATA" "[Ljava/lang/Object;" (.ref c1) (fun q => s.heap.size ≤ q) s s.heap ∧ va_Mi "[Ljava/lang/Object;" c2 s := by
  have hs := flat_of_before _ hn
  have hA : ∀ a : Nat, a < s.heap.size → ¬ s.heap.size ≤ a := fun a h => Nat.not_le.mpr h
  obtain ⟨c2, hc2⟩ := va_Mi.of (hs (Cond.isRef (.mirror "[Ljava/lang/Object;")) (by decide +kernel))
  have l0 : (Term.length (Term.static "FlowShelf" "LEAST_LENGTH" "[I")).eval args s none [] s = some (.int 8) := va_eqt (hs _ (by decide +kernel))
  have l1 : (Term.length (Term.static "java/util/ArrayList" "DEFAULTCAPACITY_EMPTY_ELEMENTDATA" "[Ljava/lang/Object;")).eval args s none [] s = some (.int 0) := va_eqt (hs _ (by decide +kernel))
  obtain ⟨c0, k0, t0, at0, v0⟩ := Term.length_spec l0
  obtain ⟨c1, k1, t1, at1, v1⟩ := Term.length_spec l1
  obtain ⟨cell0, kn0, -, -⟩ := State.arrayAt?_spec at0
  obtain ⟨cell1, kn1, -, -⟩ := State.arrayAt?_spec at1
  obtain ⟨of0, -⟩ := Cond.arrayOf_spec (hs (Cond.arrayOf (Term.static "FlowShelf" "LEAST_LENGTH" "[I") .int) (by decide +kernel)) t0 cell0
  obtain ⟨of1, -⟩ := Cond.arrayOf_spec (hs (Cond.arrayOf (Term.static "java/util/ArrayList" "DEFAULTCAPACITY_EMPTY_ELEMENTDATA" "[Ljava/lang/Object;") (.object "java/lang/Object")) (by decide +kernel)) t1 cell1
  have e0 : k0.slots[0]? = some (.int 1) := by
    obtain ⟨a, i, c2, h1, h2, h3, h4, h5⟩ := Term.elem_spec (va_eqt (z := 1) (hs (Cond.eq (.elem (Term.static "FlowShelf" "LEAST_LENGTH" "[I") (.int 0)) (.int 1)) (by decide +kernel)))
    cases t0.symm.trans h1
    cases at0.symm.trans h3
    have hz : (Term.int 0).eval args s none [] s = some (.int 0) := rfl
    cases h2.symm.trans hz
    exact h5
  have e1 : k0.slots[1]? = some (.int 1) := by
    obtain ⟨a, i, c2, h1, h2, h3, h4, h5⟩ := Term.elem_spec (va_eqt (z := 1) (hs (Cond.eq (.elem (Term.static "FlowShelf" "LEAST_LENGTH" "[I") (.int 1)) (.int 1)) (by decide +kernel)))
    cases t0.symm.trans h1
    cases at0.symm.trans h3
    have hz : (Term.int 1).eval args s none [] s = some (.int 1) := rfl
    cases h2.symm.trans hz
    exact h5
  have e2 : k0.slots[2]? = some (.int 1) := by
    obtain ⟨a, i, c2, h1, h2, h3, h4, h5⟩ := Term.elem_spec (va_eqt (z := 1) (hs (Cond.eq (.elem (Term.static "FlowShelf" "LEAST_LENGTH" "[I") (.int 2)) (.int 1)) (by decide +kernel)))
    cases t0.symm.trans h1
    cases at0.symm.trans h3
    have hz : (Term.int 2).eval args s none [] s = some (.int 2) := rfl
    cases h2.symm.trans hz
    exact h5
  have e3 : k0.slots[3]? = some (.int 3) := by
    obtain ⟨a, i, c2, h1, h2, h3, h4, h5⟩ := Term.elem_spec (va_eqt (z := 3) (hs (Cond.eq (.elem (Term.static "FlowShelf" "LEAST_LENGTH" "[I") (.int 3)) (.int 3)) (by decide +kernel)))
    cases t0.symm.trans h1
    cases at0.symm.trans h3
    have hz : (Term.int 3).eval args s none [] s = some (.int 3) := rfl
    cases h2.symm.trans hz
    exact h5
  have e4 : k0.slots[4]? = some (.int 2) := by
    obtain ⟨a, i, c2, h1, h2, h3, h4, h5⟩ := Term.elem_spec (va_eqt (z := 2) (hs (Cond.eq (.elem (Term.static "FlowShelf" "LEAST_LENGTH" "[I") (.int 4)) (.int 2)) (by decide +kernel)))
    cases t0.symm.trans h1
    cases at0.symm.trans h3
    have hz : (Term.int 4).eval args s none [] s = some (.int 4) := rfl
    cases h2.symm.trans hz
    exact h5
  have e5 : k0.slots[5]? = some (.int 2) := by
    obtain ⟨a, i, c2, h1, h2, h3, h4, h5⟩ := Term.elem_spec (va_eqt (z := 2) (hs (Cond.eq (.elem (Term.static "FlowShelf" "LEAST_LENGTH" "[I") (.int 5)) (.int 2)) (by decide +kernel)))
    cases t0.symm.trans h1
    cases at0.symm.trans h3
    have hz : (Term.int 5).eval args s none [] s = some (.int 5) := rfl
    cases h2.symm.trans hz
    exact h5
  have e6 : k0.slots[6]? = some (.int 2) := by
    obtain ⟨a, i, c2, h1, h2, h3, h4, h5⟩ := Term.elem_spec (va_eqt (z := 2) (hs (Cond.eq (.elem (Term.static "FlowShelf" "LEAST_LENGTH" "[I") (.int 6)) (.int 2)) (by decide +kernel)))
    cases t0.symm.trans h1
    cases at0.symm.trans h3
    have hz : (Term.int 6).eval args s none [] s = some (.int 6) := rfl
    cases h2.symm.trans hz
    exact h5
  have e7 : k0.slots[7]? = some (.int 1) := by
    obtain ⟨a, i, c2, h1, h2, h3, h4, h5⟩ := Term.elem_spec (va_eqt (z := 1) (hs (Cond.eq (.elem (Term.static "FlowShelf" "LEAST_LENGTH" "[I") (.int 7)) (.int 1)) (by decide +kernel)))
    cases t0.symm.trans h1
    cases at0.symm.trans h3
    have hz : (Term.int 7).eval args s none [] s = some (.int 7) := rfl
    cases h2.symm.trans hz
    exact h5
  have z0 : k0.slots.size = 8 := fs_size (N := 8) (by decide) t0 at0 l0
  have z1 : k1.slots.size = 0 := fs_size (N := 0) (by decide) t1 at1 l1
  refine ⟨c0, c1, c2, fun j => match j with
    | 3 => 3
    | 4 => 2
    | 5 => 2
    | 6 => 2
    | _ => 1, by decide, ⟨k0, cell0, of0, kn0, z0, fun j hj => ?_⟩, ⟨k1, cell1, of1, z1⟩, va_Zof (hts _ tb_3_147) (hts _ (List.mem_filter.mp tw_1_1).1) t0 hA, va_Zof (hts _ tb_1_56) (hts _ (List.mem_filter.mp tw_1_5).1) t1 hA, hc2⟩
  match j, hj with
  | 0, _ => exact e0
  | 1, _ => exact e1
  | 2, _ => exact e2
  | 3, _ => exact e3
  | 4, _ => exact e4
  | 5, _ => exact e5
  | 6, _ => exact e6
  | 7, _ => exact e7
  | n + 8, h => exact absurd h (by omega)
set_option maxHeartbeats 1000000 in
theorem fs_law {f : Nat → fs_T Int32} (hP : fs_Pure f) {fr lo : Nat} (hfr : fr ≤ 16) (hlo : lo ≤ 632) {l : Launch} (hM : ∀ (X : fs_X) (a : Nat) (r : Int32) (σ σF : fs_S), (f a).1 σ = some (r, σF) → fs_Met X l x (Cond.code x code 8 ret) fr lo [.ref a] σ (fs_eI r) σF) (b : Addr) (xs : List Int32) :
    MetFree l x (headSpec (Jvm.Cond.code x code maxLocals ret :: tables_1) room_1) (lw_P b xs) (fun _ _ _ _ _ => True) lw_Q := by
  intro p e ha hc hk s m args below hf happ hpre _
  obtain ⟨rfl, hx, hbd, hgv⟩ := hpre
  obtain ⟨scr, harrAt, hlist, hof, hsmall⟩ := hx
  obtain ⟨hcb, hkn, -, -⟩ := State.arrayAt?_spec harrAt
  have hsz : scr.slots.size = xs.length := by rw [← Array.length_toList, hlist, List.length_map]
  have hval : ∀ j : Nat, j < xs.length → scr.slots[j]? = some (.int (xs.getD j 0)) := fun j hj => by
    rw [← Array.getElem?_toList, hlist]
    simp [hj]
  have hX : va_X b xs.length (fun j => xs.getD j 0) s s.heap := ⟨scr, hcb, hof, hkn, hsz, hval⟩
  obtain ⟨hrun, hable, halone, hname, hhears, hinit, hroom, hw0⟩ := (Spec.appliesLoose_iff hf).mp happ
  have hts0 : ∀ c ∈ (Jvm.Cond.code x code maxLocals ret :: tables_1), c.before #[Value.ref b] s = true := atoms_spec (ws := Jvm.Cond.code x code maxLocals ret :: tables_1) hw0
  have hts : ∀ w ∈ lw_tbl, w.before #[Value.ref b] s = true := k2_hts_sels lw_privs (fun w hw => hts0 w (List.mem_cons_of_mem _ hw)) lw_privs_ok
  have htw : ∀ w ∈ fs_ws, w.before #[Value.ref b] s = true := fun w hw => hts w (List.mem_filter.mp hw).1
  obtain ⟨c0, c1, c2, g, hg, hX0, ⟨scr1, hc1, hof1, hsz1⟩, hZ0, hZ1, hMi⟩ := fs_const hgv hts
  obtain ⟨D, hD⟩ := fs_known htw
  obtain ⟨t0, a0⟩ := fs_arr (ty := .int) (fun C h => by cases h) (htw _ tw_1_97)
  obtain ⟨t1, a1⟩ := fs_arr (ty := .long) (fun C h => by cases h) (htw _ tw_5_40)
  obtain ⟨t2, a2⟩ := fs_arr (ty := .boolean) (fun C h => by cases h) (htw _ tw_1_229)
  obtain ⟨t3, a3⟩ := fs_arq (hts _ tb_3_13)
  obtain ⟨t4, a4⟩ := fs_arq (hts _ tb_1_70)
  let X : fs_X := (D, (fun t => match t with
    | 0 => t0
    | 1 => t1
    | 2 => t2
    | 3 => t3
    | _ => t4), (fun i => match i with
    | 0 => c0
    | 1 => c1
    | _ => c2), s)
  have hK : va_K (fs_D X) fs_cl (fs_tys X) s := ⟨hD, fun k q hk => by
    match k, hk with
    | 0, h => cases h; exact a0
    | 1, h => cases h; exact a1
    | 2, h => cases h; exact a2
    | 3, h => cases h; exact a3
    | 4, h => cases h; exact a4
    | n + 5, h => cases h⟩
  have hG : fs_G X s := ⟨⟨⟨b, hts, hgv⟩, hZ0, hZ1, hMi⟩, State.WarmedH.refl s, hK⟩
  have hbz : b < s.heap.size := (Array.getElem?_eq_some_iff.mp hcb).1
  have hz1 : c1 < s.heap.size := (Array.getElem?_eq_some_iff.mp hc1).1
  have hz0 : c0 < s.heap.size := by
    obtain ⟨w, hw, -⟩ := hX0
    exact (Array.getElem?_eq_some_iff.mp hw).1
  have n1 : c1 ≠ b := fun e => by
    subst e
    cases hcb.symm.trans hc1
    exact fs_apart hof hof1
  have n2 : c1 ≠ c0 := fun e => by
    subst e
    obtain ⟨w, hw, hof2, -⟩ := hX0
    cases hw.symm.trans hc1
    exact fs_apart hof2 hof1
  have key : ∃ (L : Nat) (ys g2 : Nat → Int32) (k0 : fs_M), L ≤ 3584 ∧ k0 b = some (.inl (0, L, .inl ys)) ∧ k0 c0 = some (.inl (0, 8, .inl g2)) ∧ (g2 0 = 1 ∧ g2 1 = 1 ∧ g2 2 = 1 ∧ g2 3 = 3 ∧ g2 4 = 2 ∧ g2 5 = 2 ∧ g2 6 = 2 ∧ g2 7 = 1) ∧ k0 c1 = some (.inl (3, 0, .inr (.inr (.inr (.inr fun _ => none))))) ∧ ∀ a e, k0 a = some e → a < s.heap.size ∧ fs_ac X a e := by
    by_cases hq : b = c0
    · refine ⟨8, g, g, fun a => if a = c1 then some (.inl (3, 0, .inr (.inr (.inr (.inr fun _ => none))))) else if a = c0 then some (.inl (0, 8, .inl g)) else none, by omega, ?_, ?_, hg, ?_, ?_⟩
      · dsimp only
        rw [if_neg (Ne.symm n1), if_pos hq]
      · dsimp only
        rw [if_neg (Ne.symm n2), if_pos rfl]
      · dsimp only
        rw [if_pos rfl]
      · intro a e h
        dsimp only at h
        by_cases h1 : a = c1
        · rw [if_pos h1] at h
          cases h
          subst h1
          exact ⟨hz1, rfl, rfl, scr1, hc1, hof1, hsz1⟩
        · rw [if_neg h1] at h
          by_cases h2 : a = c0
          · rw [if_pos h2] at h
            cases h
            subst h2
            exact ⟨hz0, rfl, hX0⟩
          · rw [if_neg h2] at h
            cases h
    · refine ⟨xs.length, fun j => xs.getD j 0, g, fun a => if a = c1 then some (.inl (3, 0, .inr (.inr (.inr (.inr fun _ => none))))) else if a = c0 then some (.inl (0, 8, .inl g)) else if a = b then some (.inl (0, xs.length, .inl fun j => xs.getD j 0)) else none, hbd, ?_, ?_, hg, ?_, ?_⟩
      · dsimp only
        rw [if_neg (Ne.symm n1), if_neg hq, if_pos rfl]
      · dsimp only
        rw [if_neg (Ne.symm n2), if_pos rfl]
      · dsimp only
        rw [if_pos rfl]
      · intro a e h
        dsimp only at h
        by_cases h1 : a = c1
        · rw [if_pos h1] at h
          cases h
          subst h1
          exact ⟨hz1, rfl, rfl, scr1, hc1, hof1, hsz1⟩
        · rw [if_neg h1] at h
          by_cases h2 : a = c0
          · rw [if_pos h2] at h
            cases h
            subst h2
            exact ⟨hz0, rfl, hX0⟩
          · rw [if_neg h2] at h
            by_cases h3 : a = b
            · rw [if_pos h3] at h
              cases h
              subst h3
              exact ⟨hbz, rfl, hX⟩
            · rw [if_neg h3] at h
              cases h
  obtain ⟨L, ys, g2, k0, q1, q2, q3, q4, q5, q6⟩ := key
  obtain ⟨σF, hF, hcells, hslots⟩ := hP b s.heap.size L ys g2 (fun _ => none) k0 (fs_cz X) q1 q2 q3 q4 q5 (fun a e h => (q6 a e h).1)
  have hw : fs_w X (fun _ => none, k0, fs_cz X, s.heap.size, 0) s.heap := ⟨rfl, Nat.le_refl _, rfl, (fun a e h => by cases h), q6, fun q _ => rfl⟩
  have happ2 : (headSpec (Cond.code x code 8 ret :: fs_ws) (fs_rm fr lo (fun _ => none, k0, fs_cz X, s.heap.size, 0) σF)).appliesLoose x e.platform s = true := by
    refine (Spec.appliesLoose_iff hf).mpr ⟨hrun, hable, halone, hname, hhears, hinit, fs_room hroom hfr hlo ?_ ?_, atoms_intro fun w hw => (List.mem_cons.mp hw).elim (fun e => by rw [e]; exact hts0 _ List.mem_cons_self) (fun h => htw w h)⟩
    · show fs_n σF - s.heap.size ≤ 601024
      omega
    · show fs_u σF - 0 ≤ 7293034
      omega
  obtain ⟨n, o, h1, h2, h3, h4, h5, h6, h7, L2, h8, h9⟩ := hM X b 1 _ σF hF p e ha hc hk s m #[Value.ref b] below hf happ2 ⟨rfl, hw, hG⟩ trivial
  refine ⟨n, o, h1, h2, h3, h4, ⟨_, h4⟩, h7, ?_⟩
  have e1 : fs_n σF - fs_n (fun _ => none, k0, fs_cz X, s.heap.size, 0) ≤ 601024 := by
    show fs_n σF - s.heap.size ≤ 601024
    omega
  have e2 : fs_u σF - fs_u (fun _ => none, k0, fs_cz X, s.heap.size, 0) ≤ 7293034 := by
    show fs_u σF - 0 ≤ 7293034
    omega
  exact State.sameButNew.drop_fresh (L := []) (J := L2) (h8.mono e1 e2) (fun y hy => h9 y hy)
end
