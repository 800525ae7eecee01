/-! contracts of methods, walked by program -/
theorem d_Collector_readNow_0 : decode prog_2_method_10_code 0 = .ok (.aload_n 0, 1) := by decide +kernel
theorem d_Collector_readNow_1 : decode prog_2_method_10_code 1 = .ok (.aload_n 1, 1) := by decide +kernel
theorem d_Collector_readNow_2 : decode prog_2_method_10_code 2 = .ok (.aload_n 2, 1) := by decide +kernel
theorem d_Collector_readNow_3 : decode prog_2_method_10_code 3 = .ok (.invokevirtual 96, 3) := by decide +kernel
theorem d_Collector_readNow_6 : decode prog_2_method_10_code 6 = .ok (.ifCond .ne 13, 3) := by decide +kernel
theorem d_Collector_readNow_9 : decode prog_2_method_10_code 9 = .ok (.new 123, 3) := by decide +kernel
theorem d_Collector_readNow_12 : decode prog_2_method_10_code 12 = .ok (.dup, 1) := by decide +kernel
theorem d_Collector_readNow_13 : decode prog_2_method_10_code 13 = .ok (.ldc 125, 2) := by decide +kernel
theorem d_Collector_readNow_15 : decode prog_2_method_10_code 15 = .ok (.invokespecial 127, 3) := by decide +kernel
theorem d_Collector_readNow_18 : decode prog_2_method_10_code 18 = .ok (.athrow, 1) := by decide +kernel
theorem d_Collector_readNow_19 : decode prog_2_method_10_code 19 = .ok (.aload_n 0, 1) := by decide +kernel
theorem d_Collector_readNow_20 : decode prog_2_method_10_code 20 = .ok (.aload_n 1, 1) := by decide +kernel
theorem d_Collector_readNow_21 : decode prog_2_method_10_code 21 = .ok (.invokevirtual 83, 3) := by decide +kernel
theorem d_Collector_readNow_24 : decode prog_2_method_10_code 24 = .ok (.invokevirtual 69, 3) := by decide +kernel
theorem d_Collector_readNow_27 : decode prog_2_method_10_code 27 = .ok (.aload_n 0, 1) := by decide +kernel
theorem d_Collector_readNow_28 : decode prog_2_method_10_code 28 = .ok (.aload_n 1, 1) := by decide +kernel
theorem d_Collector_readNow_29 : decode prog_2_method_10_code 29 = .ok (.aload_n 2, 1) := by decide +kernel
theorem d_Collector_readNow_30 : decode prog_2_method_10_code 30 = .ok (.invokevirtual 100, 3) := by decide +kernel
theorem d_Collector_readNow_33 : decode prog_2_method_10_code 33 = .ok (.return_, 1) := by decide +kernel
theorem q_Collector_readNow : (⟨"FlowShelf$Collector", "readNow", "(LFlowShelf$Report;LFlowShelf$Report;)V"⟩ : MethodName).cls ≠ "java/lang/invoke/MethodHandle" ∧ (⟨"FlowShelf$Collector", "readNow", "(LFlowShelf$Report;LFlowShelf$Report;)V"⟩ : MethodName).cls ≠ "java/lang/invoke/VarHandle" ∧ (parseMethodDescriptor (⟨"FlowShelf$Collector", "readNow", "(LFlowShelf$Report;LFlowShelf$Report;)V"⟩ : MethodName).desc).map (fun d => d.parameters.length) = some 2 := by decide +kernel
set_option maxHeartbeats 4000000 in
set_option maxRecDepth 100000 in
theorem m_Collector_readNow (X : fs_X) (l : Launch) (hl0 : l.stackTraces = false) (a0 : Nat) (a1 : Nat) (a2 : Nat) {r : (Unit ⊕ String)} {σ σF : fs_S} (h : (f_Collector_readNow a0 a1 a2).1 σ = some (r, σF)) : fs_Met X l ⟨"FlowShelf$Collector", "readNow", "(LFlowShelf$Report;LFlowShelf$Report;)V"⟩ (Cond.code ⟨"FlowShelf$Collector", "readNow", "(LFlowShelf$Report;LFlowShelf$Report;)V"⟩ prog_2_method_10_code 3 none) 9 238 [.ref a0, .ref a1, .ref a2] σ (fs_qV r) σF := by
  refine fs_ofW (by decide) ?_
  intro p e s m args below meth c s₁ B hml hT hv
  obtain ⟨rfl, hw0, hG⟩ := hv
  have hx := B.exec
  have hb := B.bytes
  have hr := B.returns
  have hk := B.notSynchronized
  have S : CallFix p m c prog_2_method_10_code 3 s _ fs_ws "FlowShelf$Collector" := ⟨B.exec, B.bytes, hml, findClass_of_methodNamed B.named, fun w hw => atoms_spec (ws := _ :: fs_ws) B.pre w (List.mem_cons_of_mem _ hw)⟩
  have hR := fs_hR (fr := 9) (lo := 238) ((f_Collector_readNow a0 a1 a2).2 _ _ _ h)
  have hl := lv_entry ([.ref a0, .ref a1, .ref a2]) (n := 3) (Nat.le_of_ble_eq_true rfl)
  rw [lg_entry_eq]
  generalize (lg_sl ([.ref a0, .ref a1, .ref a2]) ++ List.replicate (3 - (lg_sl ([.ref a0, .ref a1, .ref a2])).length) Slot.unset).toArray = ls at hl ⊢
  have hl : lv_has ls 3 [(0, .ref a0), (1, .ref a1), (2, .ref a2)] := hl
  refine (?_ : fs_J X p l e (fs_rm 9 238 σ σF) s m _ below meth c (fs_Q X below _ s (fs_qV r) σ σF) r σ σF (f_Collector_readNow a0 a1 a2) (F0 m 0 ls [])) σ s.heap [] 0 0 h hw0 va_S.rf rfl rfl
  clear h hw0
  unfold f_Collector_readNow
  refine fs_lift (fun _ _ _ _ => lv_aload_n hx hb d_Collector_readNow_0 rfl (lv_at hl 0 rfl)) ?_
  refine fs_lift (fun _ _ _ _ => lv_aload_n hx hb d_Collector_readNow_1 rfl (lv_at hl 1 rfl)) ?_
  refine fs_lift (fun _ _ _ _ => lv_aload_n hx hb d_Collector_readNow_2 rfl (lv_at hl 2 rfl)) ?_
  refine fs_JV S hG hR rfl [.ref a1, .ref a2] (enc := fun r => some (.int r)) (fun zr zs zt zh => m_Collector_canRead X l a0 a1 a2 zh) tw_4_218 tw_4_219 tw_4_220 tw_4_221 tw_1_8 q_Collector_canRead ⟨(Nat.le_of_ble_eq_true rfl), (Nat.le_of_ble_eq_true rfl)⟩ hl.1 rfl (Nat.le_of_ble_eq_true rfl) d_Collector_readNow_3 (fun v1 => ?_)
  refine fs_Jeq (g2 := F0 m 6 ls [.int v1]) rfl ?_
  refine fs_ifn (fun _ _ _ _ => lv_if_ne hx hb d_Collector_readNow_6 rfl) ?_ ?_
  · exact fs_Jthrow S hG hR hl0 (names := fs_nms) (len := 2) (.ldc 125) (Or.inl ⟨rfl, rfl⟩) (by decide) fs_fit fs_at5 tw_5_71 tw_1_15 tb_5_72 hl.1 hT hk (Nat.le_of_ble_eq_true rfl) (Nat.le_of_ble_eq_true rfl) d_Collector_readNow_9 d_Collector_readNow_12 d_Collector_readNow_13 d_Collector_readNow_15 d_Collector_readNow_18 rfl
  · refine fs_lift (fun _ _ _ _ => lv_aload_n hx hb d_Collector_readNow_19 rfl (lv_at hl 0 rfl)) ?_
    refine fs_lift (fun _ _ _ _ => lv_aload_n hx hb d_Collector_readNow_20 rfl (lv_at hl 1 rfl)) ?_
    refine fs_JV S hG hR rfl [] (enc := fun r => some (.int r)) (fun zr zs zt zh => m_Report_records X l a1 zh) tw_4_184 tw_4_136 tw_4_137 tw_4_138 tw_1_25 q_Report_records ⟨(Nat.le_of_ble_eq_true rfl), (Nat.le_of_ble_eq_true rfl)⟩ hl.1 rfl (Nat.le_of_ble_eq_true rfl) d_Collector_readNow_21 (fun v2 => ?_)
    refine fs_Jeq (g2 := F0 m 24 ls [.int v2, .ref a0]) rfl ?_
    refine fs_JVx S hG hR hT hk rfl [.int v2] (fun _ => none) (encx := fs_qV) (fun _ => rfl) (fun _ => rfl) (fun zr zs zt zh => m_Collector_requireRoomFor X l hl0 a0 v2 zh) tw_4_185 tw_4_186 tw_4_187 tw_4_188 tw_1_8 q_Collector_requireRoomFor ⟨(Nat.le_of_ble_eq_true rfl), (Nat.le_of_ble_eq_true rfl)⟩ hl.1 rfl (Nat.le_of_ble_eq_true rfl) d_Collector_readNow_24 (enc := fs_qV) (fun _ => rfl) (fun _ => ?_)
    refine fs_Jeq (g2 := F0 m 27 ls []) rfl ?_
    refine fs_lift (fun _ _ _ _ => lv_aload_n hx hb d_Collector_readNow_27 rfl (lv_at hl 0 rfl)) ?_
    refine fs_lift (fun _ _ _ _ => lv_aload_n hx hb d_Collector_readNow_28 rfl (lv_at hl 1 rfl)) ?_
    refine fs_lift (fun _ _ _ _ => lv_aload_n hx hb d_Collector_readNow_29 rfl (lv_at hl 2 rfl)) ?_
    refine fs_JV S hG hR rfl [.ref a1, .ref a2] (enc := fun _ => none) (fun zr zs zt zh => m_Collector_makeRows X l a0 a1 a2 zh) tw_5_13 tw_5_14 tw_5_15 tw_5_16 tw_1_8 q_Collector_makeRows ⟨(Nat.le_of_ble_eq_true rfl), (Nat.le_of_ble_eq_true rfl)⟩ hl.1 rfl (Nat.le_of_ble_eq_true rfl) d_Collector_readNow_30 (fun _ => ?_)
    refine fs_Jeq (g2 := F0 m 33 ls []) rfl ?_
    exact fs_Jvret S hr hk rfl d_Collector_readNow_33

theorem d_Ledger_markHeard_0 : decode prog_7_method_3_code 0 = .ok (.aload_n 1, 1) := by decide +kernel
theorem d_Ledger_markHeard_1 : decode prog_7_method_3_code 1 = .ok (.invokevirtual 15, 3) := by decide +kernel
theorem d_Ledger_markHeard_4 : decode prog_7_method_3_code 4 = .ok (.bipush 100, 2) := by decide +kernel
theorem d_Ledger_markHeard_6 : decode prog_7_method_3_code 6 = .ok (.imul, 1) := by decide +kernel
theorem d_Ledger_markHeard_7 : decode prog_7_method_3_code 7 = .ok (.aload_n 1, 1) := by decide +kernel
theorem d_Ledger_markHeard_8 : decode prog_7_method_3_code 8 = .ok (.invokevirtual 21, 3) := by decide +kernel
theorem d_Ledger_markHeard_11 : decode prog_7_method_3_code 11 = .ok (.iadd, 1) := by decide +kernel
theorem d_Ledger_markHeard_12 : decode prog_7_method_3_code 12 = .ok (.istore_n 2, 1) := by decide +kernel
theorem d_Ledger_markHeard_13 : decode prog_7_method_3_code 13 = .ok (.iconst 0, 1) := by decide +kernel
theorem d_Ledger_markHeard_14 : decode prog_7_method_3_code 14 = .ok (.istore_n 3, 1) := by decide +kernel
theorem d_Ledger_markHeard_15 : decode prog_7_method_3_code 15 = .ok (.iload_n 3, 1) := by decide +kernel
theorem d_Ledger_markHeard_16 : decode prog_7_method_3_code 16 = .ok (.aload_n 1, 1) := by decide +kernel
theorem d_Ledger_markHeard_17 : decode prog_7_method_3_code 17 = .ok (.invokevirtual 24, 3) := by decide +kernel
theorem d_Ledger_markHeard_20 : decode prog_7_method_3_code 20 = .ok (.if_icmp .ge 18, 3) := by decide +kernel
theorem d_Ledger_markHeard_23 : decode prog_7_method_3_code 23 = .ok (.aload_n 0, 1) := by decide +kernel
theorem d_Ledger_markHeard_24 : decode prog_7_method_3_code 24 = .ok (.getfield 9, 3) := by decide +kernel
theorem d_Ledger_markHeard_27 : decode prog_7_method_3_code 27 = .ok (.iload_n 2, 1) := by decide +kernel
theorem d_Ledger_markHeard_28 : decode prog_7_method_3_code 28 = .ok (.iload_n 3, 1) := by decide +kernel
theorem d_Ledger_markHeard_29 : decode prog_7_method_3_code 29 = .ok (.iadd, 1) := by decide +kernel
theorem d_Ledger_markHeard_30 : decode prog_7_method_3_code 30 = .ok (.iconst 1, 1) := by decide +kernel
theorem d_Ledger_markHeard_31 : decode prog_7_method_3_code 31 = .ok (.bastore, 1) := by decide +kernel
theorem d_Ledger_markHeard_32 : decode prog_7_method_3_code 32 = .ok (.iinc 3 1, 3) := by decide +kernel
theorem d_Ledger_markHeard_35 : decode prog_7_method_3_code 35 = .ok (.goto (-20), 3) := by decide +kernel
theorem d_Ledger_markHeard_38 : decode prog_7_method_3_code 38 = .ok (.return_, 1) := by decide +kernel
theorem q_Ledger_markHeard : (⟨"FlowShelf$Ledger", "markHeard", "(LFlowShelf$Report;)V"⟩ : MethodName).cls ≠ "java/lang/invoke/MethodHandle" ∧ (⟨"FlowShelf$Ledger", "markHeard", "(LFlowShelf$Report;)V"⟩ : MethodName).cls ≠ "java/lang/invoke/VarHandle" ∧ (parseMethodDescriptor (⟨"FlowShelf$Ledger", "markHeard", "(LFlowShelf$Report;)V"⟩ : MethodName).desc).map (fun d => d.parameters.length) = some 1 := by decide +kernel
set_option maxHeartbeats 4000000 in
set_option maxRecDepth 100000 in
theorem m_Ledger_markHeard (X : fs_X) (l : Launch) (a0 : Nat) (a1 : Nat) {r : Unit} {σ σF : fs_S} (h : (f_Ledger_markHeard a0 a1).1 σ = some (r, σF)) : fs_Met X l ⟨"FlowShelf$Ledger", "markHeard", "(LFlowShelf$Report;)V"⟩ (Cond.code ⟨"FlowShelf$Ledger", "markHeard", "(LFlowShelf$Report;)V"⟩ prog_7_method_3_code 4 none) 1 20 [.ref a0, .ref a1] σ (fs_eV r) σF := by
  refine fs_ofW (by decide) ?_
  intro p e s m args below meth c s₁ B hml hT hv
  obtain ⟨rfl, hw0, hG⟩ := hv
  have hx := B.exec
  have hb := B.bytes
  have hr := B.returns
  have hk := B.notSynchronized
  have S : CallFix p m c prog_7_method_3_code 4 s _ fs_ws "FlowShelf$Ledger" := ⟨B.exec, B.bytes, hml, findClass_of_methodNamed B.named, fun w hw => atoms_spec (ws := _ :: fs_ws) B.pre w (List.mem_cons_of_mem _ hw)⟩
  have hR := fs_hR (fr := 1) (lo := 20) ((f_Ledger_markHeard a0 a1).2 _ _ _ h)
  have hl := lv_entry ([.ref a0, .ref a1]) (n := 4) (Nat.le_of_ble_eq_true rfl)
  rw [lg_entry_eq]
  generalize (lg_sl ([.ref a0, .ref a1]) ++ List.replicate (4 - (lg_sl ([.ref a0, .ref a1])).length) Slot.unset).toArray = ls at hl ⊢
  have hl : lv_has ls 4 [(0, .ref a0), (1, .ref a1)] := hl
  refine (?_ : fs_J X p l e (fs_rm 1 20 σ σF) s m _ below meth c (fs_Q X below _ s (fs_eV r) σ σF) r σ σF (f_Ledger_markHeard a0 a1) (F0 m 0 ls [])) σ s.heap [] 0 0 h hw0 va_S.rf rfl rfl
  clear h hw0
  unfold f_Ledger_markHeard
  refine fs_lift (fun _ _ _ _ => lv_aload_n hx hb d_Ledger_markHeard_0 rfl (lv_at hl 1 rfl)) ?_
  refine fs_JV S hG hR rfl [] (enc := fun r => some (.int r)) (fun zr zs zt zh => m_Report_epoch X l a1 zh) tw_5_60 tw_4_104 tw_4_105 tw_4_106 tw_1_25 q_Report_epoch ⟨(Nat.le_of_ble_eq_true rfl), (Nat.le_of_ble_eq_true rfl)⟩ hl.1 rfl (Nat.le_of_ble_eq_true rfl) d_Ledger_markHeard_1 (fun v1 => ?_)
  refine fs_Jeq (g2 := F0 m 4 ls [.int v1]) rfl ?_
  refine fs_lift (fun _ _ _ _ => lv_bipush (v := 100) hx hb d_Ledger_markHeard_4 (by decide)) ?_
  refine fs_lift (fun _ _ _ _ => lv_imul hx hb d_Ledger_markHeard_6) ?_
  refine fs_lift (fun _ _ _ _ => lv_aload_n hx hb d_Ledger_markHeard_7 rfl (lv_at hl 1 rfl)) ?_
  refine fs_JV S hG hR rfl [] (enc := fun r => some (.int r)) (fun zr zs zt zh => m_Report_firstPlace X l a1 zh) tw_5_61 tw_4_140 tw_4_141 tw_4_142 tw_1_25 q_Report_firstPlace ⟨(Nat.le_of_ble_eq_true rfl), (Nat.le_of_ble_eq_true rfl)⟩ hl.1 rfl (Nat.le_of_ble_eq_true rfl) d_Ledger_markHeard_8 (fun v2 => ?_)
  refine fs_Jeq (g2 := F0 m 11 ls [.int v2, .int (v1 * 100)]) rfl ?_
  refine fs_lift (fun _ _ _ _ => lv_iadd hx hb d_Ledger_markHeard_11) ?_
  refine fs_Jni (fun v3 => ?_)
  refine fs_liftL (fun _ _ _ _ => lv_istore_n (lv' := [(2, .int v3), (0, .ref a0), (1, .ref a1)]) hx hb d_Ledger_markHeard_12 rfl hl (Nat.le_of_ble_eq_true rfl) rfl) (fun ls hl => ?_)
  refine fs_lift (fun _ _ _ _ => lv_iconst (v := 0) hx hb d_Ledger_markHeard_13 (by decide)) ?_
  refine fs_liftL (fun _ _ _ _ => lv_istore_n (lv' := [(3, .int 0), (2, .int v3), (0, .ref a0), (1, .ref a1)]) hx hb d_Ledger_markHeard_14 rfl hl (Nat.le_of_ble_eq_true rfl) rfl) (fun ls hl => ?_)
  refine fs_Jlp1 (nL := 4) (pc := 15) (rest := []) (I := fun (v4 : Int32) => [(0, .ref a0), (1, .ref a1), (2, .int v3), (3, .int v4)]) (fun k15 hk15 v4 ls hl => ?_) _ _ _ (lv_sub hl [2, 3, 1, 0] rfl)
  refine fs_lift (fun _ _ _ _ => lv_iload_n hx hb d_Ledger_markHeard_15 rfl (lv_at hl 3 rfl)) ?_
  refine fs_lift (fun _ _ _ _ => lv_aload_n hx hb d_Ledger_markHeard_16 rfl (lv_at hl 1 rfl)) ?_
  refine fs_JV S hG hR rfl [] (enc := fun r => some (.int r)) (fun zr zs zt zh => m_Report_records X l a1 zh) tw_5_62 tw_4_136 tw_4_137 tw_4_138 tw_1_25 q_Report_records ⟨(Nat.le_of_ble_eq_true rfl), (Nat.le_of_ble_eq_true rfl)⟩ hl.1 rfl (Nat.le_of_ble_eq_true rfl) d_Ledger_markHeard_17 (fun v5 => ?_)
  refine fs_Jeq (g2 := F0 m 20 ls [.int v5, .int v4]) rfl ?_
  refine fs_if (fun _ _ _ _ => lv_icmp_ge hx hb d_Ledger_markHeard_20 rfl) ?_ ?_
  · exact fs_Jvret S hr hk rfl d_Ledger_markHeard_38
  · refine fs_lift (fun _ _ _ _ => lv_aload_n hx hb d_Ledger_markHeard_23 rfl (lv_at hl 0 rfl)) ?_
    refine fs_Jgr S hG fs_in7 rfl 0 (Nat.le_of_ble_eq_true rfl) tw_1_207 (fun _ h9 => h9) d_Ledger_markHeard_24 (fun r6 => ?_)
    refine fs_lift (fun _ _ _ _ => lv_iload_n hx hb d_Ledger_markHeard_27 rfl (lv_at hl 2 rfl)) ?_
    refine fs_lift (fun _ _ _ _ => lv_iload_n hx hb d_Ledger_markHeard_28 rfl (lv_at hl 3 rfl)) ?_
    refine fs_lift (fun _ _ _ _ => lv_iadd hx hb d_Ledger_markHeard_29) ?_
    refine fs_lift (fun _ _ _ _ => lv_iconst (v := 1) hx hb d_Ledger_markHeard_30 (by decide)) ?_
    refine fs_Jsz S hG d_Ledger_markHeard_31 ?_
    refine fs_Jnm (fun v7 hv9 => ?_)
    refine fs_liftL (fun _ _ _ _ => lv_iinc (k := 3) (v := v7) (lv' := [(3, .int v7), (0, .ref a0), (1, .ref a1), (2, .int v3)]) hx hb d_Ledger_markHeard_32 hl rfl (by rw [hv9]; rfl) (Nat.le_of_ble_eq_true rfl) rfl) (fun ls hl => ?_)
    refine fs_lift (fun _ _ _ _ => lv_goto hx hb d_Ledger_markHeard_35 rfl) ?_
    exact hk15 v7 ls (lv_sub hl [1, 2, 3, 0] rfl)

theorem d_Collector_hearRecords_0 : decode prog_2_method_9_code 0 = .ok (.aload_n 0, 1) := by decide +kernel
theorem d_Collector_hearRecords_1 : decode prog_2_method_9_code 1 = .ok (.aload_n 1, 1) := by decide +kernel
theorem d_Collector_hearRecords_2 : decode prog_2_method_9_code 2 = .ok (.invokevirtual 48, 3) := by decide +kernel
theorem d_Collector_hearRecords_5 : decode prog_2_method_9_code 5 = .ok (.invokevirtual 103, 3) := by decide +kernel
theorem d_Collector_hearRecords_8 : decode prog_2_method_9_code 8 = .ok (.astore_n 2, 1) := by decide +kernel
theorem d_Collector_hearRecords_9 : decode prog_2_method_9_code 9 = .ok (.aload_n 2, 1) := by decide +kernel
theorem d_Collector_hearRecords_10 : decode prog_2_method_9_code 10 = .ok (.aload_n 1, 1) := by decide +kernel
theorem d_Collector_hearRecords_11 : decode prog_2_method_9_code 11 = .ok (.invokevirtual 111, 3) := by decide +kernel
theorem d_Collector_hearRecords_14 : decode prog_2_method_9_code 14 = .ok (.ifCond .eq 5, 3) := by decide +kernel
theorem d_Collector_hearRecords_17 : decode prog_2_method_9_code 17 = .ok (.iconst 0, 1) := by decide +kernel
theorem d_Collector_hearRecords_18 : decode prog_2_method_9_code 18 = .ok (.ireturn, 1) := by decide +kernel
theorem d_Collector_hearRecords_19 : decode prog_2_method_9_code 19 = .ok (.aload_n 0, 1) := by decide +kernel
theorem d_Collector_hearRecords_20 : decode prog_2_method_9_code 20 = .ok (.getfield 24, 3) := by decide +kernel
theorem d_Collector_hearRecords_23 : decode prog_2_method_9_code 23 = .ok (.getfield 86, 3) := by decide +kernel
theorem d_Collector_hearRecords_26 : decode prog_2_method_9_code 26 = .ok (.invokevirtual 38, 3) := by decide +kernel
theorem d_Collector_hearRecords_29 : decode prog_2_method_9_code 29 = .ok (.istore_n 3, 1) := by decide +kernel
theorem d_Collector_hearRecords_30 : decode prog_2_method_9_code 30 = .ok (.aload_n 0, 1) := by decide +kernel
theorem d_Collector_hearRecords_31 : decode prog_2_method_9_code 31 = .ok (.aload_n 1, 1) := by decide +kernel
theorem d_Collector_hearRecords_32 : decode prog_2_method_9_code 32 = .ok (.invokevirtual 55, 3) := by decide +kernel
theorem d_Collector_hearRecords_35 : decode prog_2_method_9_code 35 = .ok (.istore 4, 2) := by decide +kernel
theorem d_Collector_hearRecords_37 : decode prog_2_method_9_code 37 = .ok (.iload 4, 2) := by decide +kernel
theorem d_Collector_hearRecords_39 : decode prog_2_method_9_code 39 = .ok (.iconst (-1), 1) := by decide +kernel
theorem d_Collector_hearRecords_40 : decode prog_2_method_9_code 40 = .ok (.if_icmp .ne 11, 3) := by decide +kernel
theorem d_Collector_hearRecords_43 : decode prog_2_method_9_code 43 = .ok (.aload_n 0, 1) := by decide +kernel
theorem d_Collector_hearRecords_44 : decode prog_2_method_9_code 44 = .ok (.aload_n 1, 1) := by decide +kernel
theorem d_Collector_hearRecords_45 : decode prog_2_method_9_code 45 = .ok (.invokevirtual 114, 3) := by decide +kernel
theorem d_Collector_hearRecords_48 : decode prog_2_method_9_code 48 = .ok (.goto 20, 3) := by decide +kernel
theorem d_Collector_hearRecords_51 : decode prog_2_method_9_code 51 = .ok (.aload_n 0, 1) := by decide +kernel
theorem d_Collector_hearRecords_52 : decode prog_2_method_9_code 52 = .ok (.aload_n 1, 1) := by decide +kernel
theorem d_Collector_hearRecords_53 : decode prog_2_method_9_code 53 = .ok (.aload_n 0, 1) := by decide +kernel
theorem d_Collector_hearRecords_54 : decode prog_2_method_9_code 54 = .ok (.getfield 12, 3) := by decide +kernel
theorem d_Collector_hearRecords_57 : decode prog_2_method_9_code 57 = .ok (.iload 4, 2) := by decide +kernel
theorem d_Collector_hearRecords_59 : decode prog_2_method_9_code 59 = .ok (.invokevirtual 42, 3) := by decide +kernel
theorem d_Collector_hearRecords_62 : decode prog_2_method_9_code 62 = .ok (.checkcast 46, 3) := by decide +kernel
theorem d_Collector_hearRecords_65 : decode prog_2_method_9_code 65 = .ok (.invokevirtual 117, 3) := by decide +kernel
theorem d_Collector_hearRecords_68 : decode prog_2_method_9_code 68 = .ok (.aload_n 2, 1) := by decide +kernel
theorem d_Collector_hearRecords_69 : decode prog_2_method_9_code 69 = .ok (.aload_n 1, 1) := by decide +kernel
theorem d_Collector_hearRecords_70 : decode prog_2_method_9_code 70 = .ok (.invokevirtual 120, 3) := by decide +kernel
theorem d_Collector_hearRecords_73 : decode prog_2_method_9_code 73 = .ok (.aload_n 0, 1) := by decide +kernel
theorem d_Collector_hearRecords_74 : decode prog_2_method_9_code 74 = .ok (.getfield 24, 3) := by decide +kernel
theorem d_Collector_hearRecords_77 : decode prog_2_method_9_code 77 = .ok (.getfield 86, 3) := by decide +kernel
theorem d_Collector_hearRecords_80 : decode prog_2_method_9_code 80 = .ok (.invokevirtual 38, 3) := by decide +kernel
theorem d_Collector_hearRecords_83 : decode prog_2_method_9_code 83 = .ok (.iload_n 3, 1) := by decide +kernel
theorem d_Collector_hearRecords_84 : decode prog_2_method_9_code 84 = .ok (.isub, 1) := by decide +kernel
theorem d_Collector_hearRecords_85 : decode prog_2_method_9_code 85 = .ok (.ireturn, 1) := by decide +kernel
theorem q_Collector_hearRecords : (⟨"FlowShelf$Collector", "hearRecords", "(LFlowShelf$Report;)I"⟩ : MethodName).cls ≠ "java/lang/invoke/MethodHandle" ∧ (⟨"FlowShelf$Collector", "hearRecords", "(LFlowShelf$Report;)I"⟩ : MethodName).cls ≠ "java/lang/invoke/VarHandle" ∧ (parseMethodDescriptor (⟨"FlowShelf$Collector", "hearRecords", "(LFlowShelf$Report;)I"⟩ : MethodName).desc).map (fun d => d.parameters.length) = some 1 := by decide +kernel
set_option maxHeartbeats 4000000 in
set_option maxRecDepth 100000 in
theorem m_Collector_hearRecords (X : fs_X) (l : Launch) (hl0 : l.stackTraces = false) (a0 : Nat) (a1 : Nat) {r : (Int32 ⊕ String)} {σ σF : fs_S} (h : (f_Collector_hearRecords a0 a1).1 σ = some (r, σF)) : fs_Met X l ⟨"FlowShelf$Collector", "hearRecords", "(LFlowShelf$Report;)I"⟩ (Cond.code ⟨"FlowShelf$Collector", "hearRecords", "(LFlowShelf$Report;)I"⟩ prog_2_method_9_code 5 (some FieldType.int)) 10 260 [.ref a0, .ref a1] σ (fs_qI r) σF := by
  refine fs_ofW (by decide) ?_
  intro p e s m args below meth c s₁ B hml hT hv
  obtain ⟨rfl, hw0, hG⟩ := hv
  have hx := B.exec
  have hb := B.bytes
  have hr := B.returns
  have hk := B.notSynchronized
  have S : CallFix p m c prog_2_method_9_code 5 s _ fs_ws "FlowShelf$Collector" := ⟨B.exec, B.bytes, hml, findClass_of_methodNamed B.named, fun w hw => atoms_spec (ws := _ :: fs_ws) B.pre w (List.mem_cons_of_mem _ hw)⟩
  have hR := fs_hR (fr := 10) (lo := 260) ((f_Collector_hearRecords a0 a1).2 _ _ _ h)
  have hl := lv_entry ([.ref a0, .ref a1]) (n := 5) (Nat.le_of_ble_eq_true rfl)
  rw [lg_entry_eq]
  generalize (lg_sl ([.ref a0, .ref a1]) ++ List.replicate (5 - (lg_sl ([.ref a0, .ref a1])).length) Slot.unset).toArray = ls at hl ⊢
  have hl : lv_has ls 5 [(0, .ref a0), (1, .ref a1)] := hl
  refine (?_ : fs_J X p l e (fs_rm 10 260 σ σF) s m _ below meth c (fs_Q X below _ s (fs_qI r) σ σF) r σ σF (f_Collector_hearRecords a0 a1) (F0 m 0 ls [])) σ s.heap [] 0 0 h hw0 va_S.rf rfl rfl
  clear h hw0
  unfold f_Collector_hearRecords
  refine fs_lift (fun _ _ _ _ => lv_aload_n hx hb d_Collector_hearRecords_0 rfl (lv_at hl 0 rfl)) ?_
  refine fs_lift (fun _ _ _ _ => lv_aload_n hx hb d_Collector_hearRecords_1 rfl (lv_at hl 1 rfl)) ?_
  refine fs_JV S hG hR rfl [] (enc := fun r => some (.int r)) (fun zr zs zt zh => m_Report_exporter X l a1 zh) tw_5_19 tw_4_99 tw_4_100 tw_4_101 tw_1_25 q_Report_exporter ⟨(Nat.le_of_ble_eq_true rfl), (Nat.le_of_ble_eq_true rfl)⟩ hl.1 rfl (Nat.le_of_ble_eq_true rfl) d_Collector_hearRecords_2 (fun v1 => ?_)
  refine fs_Jeq (g2 := F0 m 5 ls [.int v1, .ref a0]) rfl ?_
  refine fs_JV S hG hR rfl [.int v1] (enc := fun r => some (.ref r)) (fun zr zs zt zh => m_Collector_ledgerOf X l a0 v1 zh) tw_5_48 tw_5_49 tw_5_50 tw_5_51 tw_1_8 q_Collector_ledgerOf ⟨(Nat.le_of_ble_eq_true rfl), (Nat.le_of_ble_eq_true rfl)⟩ hl.1 rfl (Nat.le_of_ble_eq_true rfl) d_Collector_hearRecords_5 (fun r2 => ?_)
  refine fs_Jeq (g2 := F0 m 8 ls [.ref r2]) rfl ?_
  refine fs_liftL (fun _ _ _ _ => lv_astore_n (lv' := [(2, .ref r2), (0, .ref a0), (1, .ref a1)]) hx hb d_Collector_hearRecords_8 rfl hl (Nat.le_of_ble_eq_true rfl) rfl) (fun ls hl => ?_)
  refine fs_lift (fun _ _ _ _ => lv_aload_n hx hb d_Collector_hearRecords_9 rfl (lv_at hl 0 rfl)) ?_
  refine fs_lift (fun _ _ _ _ => lv_aload_n hx hb d_Collector_hearRecords_10 rfl (lv_at hl 2 rfl)) ?_
  refine fs_JV S hG hR rfl [.ref a1] (enc := fun r => some (.int r)) (fun zr zs zt zh => m_Ledger_heardOneOf X l r2 a1 zh) tw_5_56 tw_5_57 tw_5_58 tw_5_59 tw_1_10 q_Ledger_heardOneOf ⟨(Nat.le_of_ble_eq_true rfl), (Nat.le_of_ble_eq_true rfl)⟩ hl.1 rfl (Nat.le_of_ble_eq_true rfl) d_Collector_hearRecords_11 (fun v3 => ?_)
  refine fs_Jeq (g2 := F0 m 14 ls [.int v3]) rfl ?_
  refine fs_if (fun _ _ _ _ => lv_if_eq hx hb d_Collector_hearRecords_14 rfl) ?_ ?_
  · refine fs_lift (fun _ _ _ _ => lv_aload_n hx hb d_Collector_hearRecords_19 rfl (lv_at hl 1 rfl)) ?_
    refine fs_Jgr S hG fs_in5 rfl 2 (Nat.le_of_ble_eq_true rfl) tw_1_232 (fun _ h9 => h9) d_Collector_hearRecords_20 (fun r4 => ?_)
    refine fs_Jgr S hG fs_in6 rfl 0 (Nat.le_of_ble_eq_true rfl) tw_1_184 (fun _ h9 => h9) d_Collector_hearRecords_23 (fun r5 => ?_)
    refine fs_JV S hG hR rfl [] (enc := fun r => some (.int r)) (fun zr zs zt zh => m_ArrayList_size X l r5 zh) tw_4_157 tw_2_29 tw_2_30 tw_2_31 tw_1_5 q_ArrayList_size ⟨(Nat.le_of_ble_eq_true rfl), (Nat.le_of_ble_eq_true rfl)⟩ hl.1 rfl (Nat.le_of_ble_eq_true rfl) d_Collector_hearRecords_26 (fun v6 => ?_)
    refine fs_Jeq (g2 := F0 m 29 ls [.int v6]) rfl ?_
    refine fs_liftL (fun _ _ _ _ => lv_istore_n (lv' := [(3, .int v6), (2, .ref r2), (0, .ref a0), (1, .ref a1)]) hx hb d_Collector_hearRecords_29 rfl hl (Nat.le_of_ble_eq_true rfl) rfl) (fun ls hl => ?_)
    refine fs_lift (fun _ _ _ _ => lv_aload_n hx hb d_Collector_hearRecords_30 rfl (lv_at hl 2 rfl)) ?_
    refine fs_lift (fun _ _ _ _ => lv_aload_n hx hb d_Collector_hearRecords_31 rfl (lv_at hl 3 rfl)) ?_
    refine fs_JV S hG hR rfl [.ref a1] (enc := fun r => some (.int r)) (fun zr zs zt zh => m_Collector_knownTemplate X l a0 a1 zh) tw_4_153 tw_4_154 tw_4_155 tw_4_156 tw_1_8 q_Collector_knownTemplate ⟨(Nat.le_of_ble_eq_true rfl), (Nat.le_of_ble_eq_true rfl)⟩ hl.1 rfl (Nat.le_of_ble_eq_true rfl) d_Collector_hearRecords_32 (fun v7 => ?_)
    refine fs_Jeq (g2 := F0 m 35 ls [.int v7]) rfl ?_
    refine fs_liftL (fun _ _ _ _ => lv_istore (lv' := [(4, .int v7), (3, .int v6), (2, .ref r2), (0, .ref a0), (1, .ref a1)]) hx hb d_Collector_hearRecords_35 hl (Nat.le_of_ble_eq_true rfl) rfl) (fun ls hl => ?_)
    refine fs_lift (fun _ _ _ _ => lv_iload hx hb d_Collector_hearRecords_37 (lv_at hl 0 rfl)) ?_
    refine fs_lift (fun _ _ _ _ => lv_iconst (v := (-1)) hx hb d_Collector_hearRecords_39 (by decide)) ?_
    refine fs_Jlet1 (nL := 5) (pj := 68) (I := fun (_ : Unit) => [(0, .ref a0), (1, .ref a1), (2, .ref r2), (3, .int v6)]) (st := fun (_ : Unit) => []) (fun _ ls hl => ?_) (fun j68 hj68 => ?_)
    · refine fs_lift (fun _ _ _ _ => lv_aload_n hx hb d_Collector_hearRecords_68 rfl (lv_at hl 2 rfl)) ?_
      refine fs_lift (fun _ _ _ _ => lv_aload_n hx hb d_Collector_hearRecords_69 rfl (lv_at hl 1 rfl)) ?_
      refine fs_JV S hG hR rfl [.ref a1] (enc := fun _ => none) (fun zr zs zt zh => m_Ledger_markHeard X l r2 a1 zh) tw_5_74 tw_5_75 tw_5_76 tw_5_77 tw_1_10 q_Ledger_markHeard ⟨(Nat.le_of_ble_eq_true rfl), (Nat.le_of_ble_eq_true rfl)⟩ hl.1 rfl (Nat.le_of_ble_eq_true rfl) d_Collector_hearRecords_70 (fun _ => ?_)
      refine fs_Jeq (g2 := F0 m 73 ls []) rfl ?_
      refine fs_lift (fun _ _ _ _ => lv_aload_n hx hb d_Collector_hearRecords_73 rfl (lv_at hl 0 rfl)) ?_
      refine fs_Jgr S hG fs_in5 rfl 2 (Nat.le_of_ble_eq_true rfl) tw_1_232 (fun _ h9 => h9) d_Collector_hearRecords_74 (fun r10 => ?_)
      refine fs_Jgr S hG fs_in6 rfl 0 (Nat.le_of_ble_eq_true rfl) tw_1_184 (fun _ h9 => h9) d_Collector_hearRecords_77 (fun r11 => ?_)
      refine fs_JV S hG hR rfl [] (enc := fun r => some (.int r)) (fun zr zs zt zh => m_ArrayList_size X l r11 zh) tw_4_157 tw_2_29 tw_2_30 tw_2_31 tw_1_5 q_ArrayList_size ⟨(Nat.le_of_ble_eq_true rfl), (Nat.le_of_ble_eq_true rfl)⟩ hl.1 rfl (Nat.le_of_ble_eq_true rfl) d_Collector_hearRecords_80 (fun v12 => ?_)
      refine fs_Jeq (g2 := F0 m 83 ls [.int v12]) rfl ?_
      refine fs_lift (fun _ _ _ _ => lv_iload_n hx hb d_Collector_hearRecords_83 rfl (lv_at hl 3 rfl)) ?_
      refine fs_lift (fun _ _ _ _ => lv_isub hx hb d_Collector_hearRecords_84) ?_
      exact fs_Jiret S hr hk rfl d_Collector_hearRecords_85
    · refine fs_ifn (fun _ _ _ _ => lv_icmp_ne hx hb d_Collector_hearRecords_40 rfl) ?_ ?_
      · refine fs_lift (fun _ _ _ _ => lv_aload_n hx hb d_Collector_hearRecords_43 rfl (lv_at hl 3 rfl)) ?_
        refine fs_lift (fun _ _ _ _ => lv_aload_n hx hb d_Collector_hearRecords_44 rfl (lv_at hl 4 rfl)) ?_
        refine fs_JV S hG hR rfl [.ref a1] (enc := fun _ => none) (fun zr zs zt zh => m_Collector_putOnShelf X l a0 a1 zh) tw_5_63 tw_5_64 tw_5_65 tw_5_66 tw_1_8 q_Collector_putOnShelf ⟨(Nat.le_of_ble_eq_true rfl), (Nat.le_of_ble_eq_true rfl)⟩ hl.1 rfl (Nat.le_of_ble_eq_true rfl) d_Collector_hearRecords_45 (fun _ => ?_)
        refine fs_Jeq (g2 := F0 m 48 ls []) rfl ?_
        refine fs_lift (fun _ _ _ _ => lv_goto hx hb d_Collector_hearRecords_48 rfl) ?_
        exact hj68 () ls (lv_sub hl [3, 4, 2, 1] rfl)
      · refine fs_lift (fun _ _ _ _ => lv_aload_n hx hb d_Collector_hearRecords_51 rfl (lv_at hl 3 rfl)) ?_
        refine fs_lift (fun _ _ _ _ => lv_aload_n hx hb d_Collector_hearRecords_52 rfl (lv_at hl 4 rfl)) ?_
        refine fs_lift (fun _ _ _ _ => lv_aload_n hx hb d_Collector_hearRecords_53 rfl (lv_at hl 3 rfl)) ?_
        refine fs_Jgr S hG fs_in5 rfl 0 (Nat.le_of_ble_eq_true rfl) tw_1_230 (fun _ h9 => h9) d_Collector_hearRecords_54 (fun r8 => ?_)
        refine fs_lift (fun _ _ _ _ => lv_iload hx hb d_Collector_hearRecords_57 (lv_at hl 0 rfl)) ?_
        refine fs_JV S hG hR rfl [.int v7] (enc := fun r => some (.ref r)) (fun zr zs zt zh => m_ArrayList_get X l r8 v7 zh) tw_4_158 tw_2_33 tw_2_34 tw_2_35 tw_1_5 q_ArrayList_get ⟨(Nat.le_of_ble_eq_true rfl), (Nat.le_of_ble_eq_true rfl)⟩ hl.1 rfl (Nat.le_of_ble_eq_true rfl) d_Collector_hearRecords_59 (fun r9 => ?_)
        refine fs_Jeq (g2 := F0 m 62 ls [.ref r9, .ref a1, .ref a0]) rfl ?_
        refine fs_Jck S hG rfl tw_4_159 tb_7_81 d_Collector_hearRecords_62 ?_
        refine fs_JVx S hG hR hT hk rfl [.ref a1, .ref r9] (fun _ => none) (encx := fs_qV) (fun _ => rfl) (fun _ => rfl) (fun zr zs zt zh => m_Collector_readNow X l hl0 a0 a1 r9 zh) tw_5_67 tw_5_68 tw_5_69 tw_5_70 tw_1_8 q_Collector_readNow ⟨(Nat.le_of_ble_eq_true rfl), (Nat.le_of_ble_eq_true rfl)⟩ hl.1 rfl (Nat.le_of_ble_eq_true rfl) d_Collector_hearRecords_65 (enc := fs_qI) (fun _ => rfl) (fun _ => ?_)
        refine fs_Jeq (g2 := F0 m 68 ls []) rfl ?_
        exact hj68 () ls (lv_sub hl [3, 4, 2, 1] rfl)
  · refine fs_lift (fun _ _ _ _ => lv_iconst (v := 0) hx hb d_Collector_hearRecords_17 (by decide)) ?_
    exact fs_Jiret S hr hk rfl d_Collector_hearRecords_18

theorem d_Report_samplersBefore_0 : decode prog_8_method_13_code 0 = .ok (.aload_n 0, 1) := by decide +kernel
theorem d_Report_samplersBefore_1 : decode prog_8_method_13_code 1 = .ok (.getfield 9, 3) := by decide +kernel
theorem d_Report_samplersBefore_4 : decode prog_8_method_13_code 4 = .ok (.iconst 3, 1) := by decide +kernel
theorem d_Report_samplersBefore_5 : decode prog_8_method_13_code 5 = .ok (.iaload, 1) := by decide +kernel
theorem d_Report_samplersBefore_6 : decode prog_8_method_13_code 6 = .ok (.ireturn, 1) := by decide +kernel
theorem q_Report_samplersBefore : (⟨"FlowShelf$Report", "samplersBefore", "()I"⟩ : MethodName).cls ≠ "java/lang/invoke/MethodHandle" ∧ (⟨"FlowShelf$Report", "samplersBefore", "()I"⟩ : MethodName).cls ≠ "java/lang/invoke/VarHandle" ∧ (parseMethodDescriptor (⟨"FlowShelf$Report", "samplersBefore", "()I"⟩ : MethodName).desc).map (fun d => d.parameters.length) = some 0 := by decide +kernel
set_option maxHeartbeats 4000000 in
set_option maxRecDepth 100000 in
theorem m_Report_samplersBefore (X : fs_X) (l : Launch) (a0 : Nat) {r : Int32} {σ σF : fs_S} (h : (f_Report_samplersBefore a0).1 σ = some (r, σF)) : fs_Met X l ⟨"FlowShelf$Report", "samplersBefore", "()I"⟩ (Cond.code ⟨"FlowShelf$Report", "samplersBefore", "()I"⟩ prog_8_method_13_code 1 (some FieldType.int)) 0 0 [.ref a0] σ (fs_eI r) σF := by
  refine fs_ofW (by decide) ?_
  intro p e s m args below meth c s₁ B hml hT hv
  obtain ⟨rfl, hw0, hG⟩ := hv
  have hx := B.exec
  have hb := B.bytes
  have hr := B.returns
  have hk := B.notSynchronized
  have S : CallFix p m c prog_8_method_13_code 1 s _ fs_ws "FlowShelf$Report" := ⟨B.exec, B.bytes, hml, findClass_of_methodNamed B.named, fun w hw => atoms_spec (ws := _ :: fs_ws) B.pre w (List.mem_cons_of_mem _ hw)⟩
  have hR := fs_hR (fr := 0) (lo := 0) ((f_Report_samplersBefore a0).2 _ _ _ h)
  have hl := lv_entry ([.ref a0]) (n := 1) (Nat.le_of_ble_eq_true rfl)
  rw [lg_entry_eq]
  generalize (lg_sl ([.ref a0]) ++ List.replicate (1 - (lg_sl ([.ref a0])).length) Slot.unset).toArray = ls at hl ⊢
  have hl : lv_has ls 1 [(0, .ref a0)] := hl
  refine (?_ : fs_J X p l e (fs_rm 0 0 σ σF) s m _ below meth c (fs_Q X below _ s (fs_eI r) σ σF) r σ σF (f_Report_samplersBefore a0) (F0 m 0 ls [])) σ s.heap [] 0 0 h hw0 va_S.rf rfl rfl
  clear h hw0
  unfold f_Report_samplersBefore
  refine fs_lift (fun _ _ _ _ => lv_aload_n hx hb d_Report_samplersBefore_0 rfl (lv_at hl 0 rfl)) ?_
  refine fs_Jgr S hG fs_in9 rfl 0 (Nat.le_of_ble_eq_true rfl) tw_3_225 (fun _ h9 => h9) d_Report_samplersBefore_1 (fun r1 => ?_)
  refine fs_lift (fun _ _ _ _ => lv_iconst (v := 3) hx hb d_Report_samplersBefore_4 (by decide)) ?_
  refine fs_Jai S hG d_Report_samplersBefore_5 (fun v2 => ?_)
  exact fs_Jiret S hr hk rfl d_Report_samplersBefore_6

theorem d_Ledger_noteSampler_0 : decode prog_7_method_6_code 0 = .ok (.aload_n 0, 1) := by decide +kernel
theorem d_Ledger_noteSampler_1 : decode prog_7_method_6_code 1 = .ok (.getfield 31, 3) := by decide +kernel
theorem d_Ledger_noteSampler_4 : decode prog_7_method_6_code 4 = .ok (.ifCond .ne 7, 3) := by decide +kernel
theorem d_Ledger_noteSampler_7 : decode prog_7_method_6_code 7 = .ok (.iconst 1, 1) := by decide +kernel
theorem d_Ledger_noteSampler_8 : decode prog_7_method_6_code 8 = .ok (.goto 4, 3) := by decide +kernel
theorem d_Ledger_noteSampler_11 : decode prog_7_method_6_code 11 = .ok (.iconst 0, 1) := by decide +kernel
theorem d_Ledger_noteSampler_12 : decode prog_7_method_6_code 12 = .ok (.istore_n 2, 1) := by decide +kernel
theorem d_Ledger_noteSampler_13 : decode prog_7_method_6_code 13 = .ok (.aload_n 1, 1) := by decide +kernel
theorem d_Ledger_noteSampler_14 : decode prog_7_method_6_code 14 = .ok (.invokevirtual 15, 3) := by decide +kernel
theorem d_Ledger_noteSampler_17 : decode prog_7_method_6_code 17 = .ok (.aload_n 0, 1) := by decide +kernel
theorem d_Ledger_noteSampler_18 : decode prog_7_method_6_code 18 = .ok (.getfield 35, 3) := by decide +kernel
theorem d_Ledger_noteSampler_21 : decode prog_7_method_6_code 21 = .ok (.if_icmp .gt 25, 3) := by decide +kernel
theorem d_Ledger_noteSampler_24 : decode prog_7_method_6_code 24 = .ok (.aload_n 1, 1) := by decide +kernel
theorem d_Ledger_noteSampler_25 : decode prog_7_method_6_code 25 = .ok (.invokevirtual 15, 3) := by decide +kernel
theorem d_Ledger_noteSampler_28 : decode prog_7_method_6_code 28 = .ok (.aload_n 0, 1) := by decide +kernel
theorem d_Ledger_noteSampler_29 : decode prog_7_method_6_code 29 = .ok (.getfield 35, 3) := by decide +kernel
theorem d_Ledger_noteSampler_32 : decode prog_7_method_6_code 32 = .ok (.if_icmp .ne 18, 3) := by decide +kernel
theorem d_Ledger_noteSampler_35 : decode prog_7_method_6_code 35 = .ok (.aload_n 1, 1) := by decide +kernel
theorem d_Ledger_noteSampler_36 : decode prog_7_method_6_code 36 = .ok (.invokevirtual 38, 3) := by decide +kernel
theorem d_Ledger_noteSampler_39 : decode prog_7_method_6_code 39 = .ok (.aload_n 0, 1) := by decide +kernel
theorem d_Ledger_noteSampler_40 : decode prog_7_method_6_code 40 = .ok (.getfield 41, 3) := by decide +kernel
theorem d_Ledger_noteSampler_43 : decode prog_7_method_6_code 43 = .ok (.if_icmp .le 7, 3) := by decide +kernel
theorem d_Ledger_noteSampler_46 : decode prog_7_method_6_code 46 = .ok (.iconst 1, 1) := by decide +kernel
theorem d_Ledger_noteSampler_47 : decode prog_7_method_6_code 47 = .ok (.goto 4, 3) := by decide +kernel
theorem d_Ledger_noteSampler_50 : decode prog_7_method_6_code 50 = .ok (.iconst 0, 1) := by decide +kernel
theorem d_Ledger_noteSampler_51 : decode prog_7_method_6_code 51 = .ok (.istore_n 3, 1) := by decide +kernel
theorem d_Ledger_noteSampler_52 : decode prog_7_method_6_code 52 = .ok (.iload_n 2, 1) := by decide +kernel
theorem d_Ledger_noteSampler_53 : decode prog_7_method_6_code 53 = .ok (.ifCond .ne 7, 3) := by decide +kernel
theorem d_Ledger_noteSampler_56 : decode prog_7_method_6_code 56 = .ok (.iload_n 3, 1) := by decide +kernel
theorem d_Ledger_noteSampler_57 : decode prog_7_method_6_code 57 = .ok (.ifCond .eq 27, 3) := by decide +kernel
theorem d_Ledger_noteSampler_60 : decode prog_7_method_6_code 60 = .ok (.aload_n 0, 1) := by decide +kernel
theorem d_Ledger_noteSampler_61 : decode prog_7_method_6_code 61 = .ok (.aload_n 1, 1) := by decide +kernel
theorem d_Ledger_noteSampler_62 : decode prog_7_method_6_code 62 = .ok (.invokevirtual 44, 3) := by decide +kernel
theorem d_Ledger_noteSampler_65 : decode prog_7_method_6_code 65 = .ok (.putfield 31, 3) := by decide +kernel
theorem d_Ledger_noteSampler_68 : decode prog_7_method_6_code 68 = .ok (.aload_n 0, 1) := by decide +kernel
theorem d_Ledger_noteSampler_69 : decode prog_7_method_6_code 69 = .ok (.aload_n 1, 1) := by decide +kernel
theorem d_Ledger_noteSampler_70 : decode prog_7_method_6_code 70 = .ok (.invokevirtual 15, 3) := by decide +kernel
theorem d_Ledger_noteSampler_73 : decode prog_7_method_6_code 73 = .ok (.putfield 35, 3) := by decide +kernel
theorem d_Ledger_noteSampler_76 : decode prog_7_method_6_code 76 = .ok (.aload_n 0, 1) := by decide +kernel
theorem d_Ledger_noteSampler_77 : decode prog_7_method_6_code 77 = .ok (.aload_n 1, 1) := by decide +kernel
theorem d_Ledger_noteSampler_78 : decode prog_7_method_6_code 78 = .ok (.invokevirtual 38, 3) := by decide +kernel
theorem d_Ledger_noteSampler_81 : decode prog_7_method_6_code 81 = .ok (.putfield 41, 3) := by decide +kernel
theorem d_Ledger_noteSampler_84 : decode prog_7_method_6_code 84 = .ok (.return_, 1) := by decide +kernel
theorem q_Ledger_noteSampler : (⟨"FlowShelf$Ledger", "noteSampler", "(LFlowShelf$Report;)V"⟩ : MethodName).cls ≠ "java/lang/invoke/MethodHandle" ∧ (⟨"FlowShelf$Ledger", "noteSampler", "(LFlowShelf$Report;)V"⟩ : MethodName).cls ≠ "java/lang/invoke/VarHandle" ∧ (parseMethodDescriptor (⟨"FlowShelf$Ledger", "noteSampler", "(LFlowShelf$Report;)V"⟩ : MethodName).desc).map (fun d => d.parameters.length) = some 1 := by decide +kernel
set_option maxHeartbeats 4000000 in
set_option maxRecDepth 100000 in
theorem m_Ledger_noteSampler (X : fs_X) (l : Launch) (a0 : Nat) (a1 : Nat) {r : Unit} {σ σF : fs_S} (h : (f_Ledger_noteSampler a0 a1).1 σ = some (r, σF)) : fs_Met X l ⟨"FlowShelf$Ledger", "noteSampler", "(LFlowShelf$Report;)V"⟩ (Cond.code ⟨"FlowShelf$Ledger", "noteSampler", "(LFlowShelf$Report;)V"⟩ prog_7_method_6_code 4 none) 1 20 [.ref a0, .ref a1] σ (fs_eV r) σF := by
  refine fs_ofW (by decide) ?_
  intro p e s m args below meth c s₁ B hml hT hv
  obtain ⟨rfl, hw0, hG⟩ := hv
  have hx := B.exec
  have hb := B.bytes
  have hr := B.returns
  have hk := B.notSynchronized
  have S : CallFix p m c prog_7_method_6_code 4 s _ fs_ws "FlowShelf$Ledger" := ⟨B.exec, B.bytes, hml, findClass_of_methodNamed B.named, fun w hw => atoms_spec (ws := _ :: fs_ws) B.pre w (List.mem_cons_of_mem _ hw)⟩
  have hR := fs_hR (fr := 1) (lo := 20) ((f_Ledger_noteSampler a0 a1).2 _ _ _ h)
  have hl := lv_entry ([.ref a0, .ref a1]) (n := 4) (Nat.le_of_ble_eq_true rfl)
  rw [lg_entry_eq]
  generalize (lg_sl ([.ref a0, .ref a1]) ++ List.replicate (4 - (lg_sl ([.ref a0, .ref a1])).length) Slot.unset).toArray = ls at hl ⊢
  have hl : lv_has ls 4 [(0, .ref a0), (1, .ref a1)] := hl
  refine (?_ : fs_J X p l e (fs_rm 1 20 σ σF) s m _ below meth c (fs_Q X below _ s (fs_eV r) σ σF) r σ σF (f_Ledger_noteSampler a0 a1) (F0 m 0 ls [])) σ s.heap [] 0 0 h hw0 va_S.rf rfl rfl
  clear h hw0
  unfold f_Ledger_noteSampler
  refine fs_lift (fun _ _ _ _ => lv_aload_n hx hb d_Ledger_noteSampler_0 rfl (lv_at hl 0 rfl)) ?_
  refine fs_Jgi S hG fs_in7 rfl 3 (Nat.le_of_ble_eq_true rfl) tw_1_212 (fun _ h9 => h9) d_Ledger_noteSampler_1 (fun v1 => ?_)
  refine fs_Jlet1 (nL := 4) (pj := 12) (I := fun (v2 : Int32) => [(0, .ref a0), (1, .ref a1)]) (st := fun (v2 : Int32) => [.int v2]) (fun v2 ls hl => ?_) (fun j12 hj12 => ?_)
  · refine fs_liftL (fun _ _ _ _ => lv_istore_n (lv' := [(2, .int v2), (0, .ref a0), (1, .ref a1)]) hx hb d_Ledger_noteSampler_12 rfl hl (Nat.le_of_ble_eq_true rfl) rfl) (fun ls hl => ?_)
    refine fs_lift (fun _ _ _ _ => lv_aload_n hx hb d_Ledger_noteSampler_13 rfl (lv_at hl 2 rfl)) ?_
    refine fs_JV S hG hR rfl [] (enc := fun r => some (.int r)) (fun zr zs zt zh => m_Report_epoch X l a1 zh) tw_5_60 tw_4_104 tw_4_105 tw_4_106 tw_1_25 q_Report_epoch ⟨(Nat.le_of_ble_eq_true rfl), (Nat.le_of_ble_eq_true rfl)⟩ hl.1 rfl (Nat.le_of_ble_eq_true rfl) d_Ledger_noteSampler_14 (fun v3 => ?_)
    refine fs_Jeq (g2 := F0 m 17 ls [.int v3]) rfl ?_
    refine fs_lift (fun _ _ _ _ => lv_aload_n hx hb d_Ledger_noteSampler_17 rfl (lv_at hl 1 rfl)) ?_
    refine fs_Jgi S hG fs_in7 rfl 4 (Nat.le_of_ble_eq_true rfl) tw_1_214 (fun _ h9 => h9) d_Ledger_noteSampler_18 (fun v4 => ?_)
    refine fs_Jlet1 (nL := 4) (pj := 51) (I := fun (v9 : Int32) => [(0, .ref a0), (1, .ref a1), (2, .int v2)]) (st := fun (v9 : Int32) => [.int v9]) (fun v9 ls hl => ?_) (fun j51 hj51 => ?_)
    · refine fs_liftL (fun _ _ _ _ => lv_istore_n (lv' := [(3, .int v9), (0, .ref a0), (1, .ref a1), (2, .int v2)]) hx hb d_Ledger_noteSampler_51 rfl hl (Nat.le_of_ble_eq_true rfl) rfl) (fun ls hl => ?_)
      refine fs_lift (fun _ _ _ _ => lv_iload_n hx hb d_Ledger_noteSampler_52 rfl (lv_at hl 3 rfl)) ?_
      refine fs_Jlet1 (nL := 4) (pj := 60) (I := fun (_ : Unit) => [(0, .ref a0), (1, .ref a1)]) (st := fun (_ : Unit) => []) (fun _ ls hl => ?_) (fun j60 hj60 => ?_)
      · refine fs_lift (fun _ _ _ _ => lv_aload_n hx hb d_Ledger_noteSampler_60 rfl (lv_at hl 0 rfl)) ?_
        refine fs_lift (fun _ _ _ _ => lv_aload_n hx hb d_Ledger_noteSampler_61 rfl (lv_at hl 1 rfl)) ?_
        refine fs_JV S hG hR rfl [] (enc := fun r => some (.int r)) (fun zr zs zt zh => m_Report_samplerN X l a1 zh) tw_5_88 tw_4_144 tw_4_145 tw_4_146 tw_1_25 q_Report_samplerN ⟨(Nat.le_of_ble_eq_true rfl), (Nat.le_of_ble_eq_true rfl)⟩ hl.1 rfl (Nat.le_of_ble_eq_true rfl) d_Ledger_noteSampler_62 (fun v10 => ?_)
        refine fs_Jeq (g2 := F0 m 65 ls [.int v10, .ref a0]) rfl ?_
        refine fs_Jput S hG fs_in7 rfl 3 (Nat.le_of_ble_eq_true rfl) tw_1_212 (fun _ h9 => h9) fs_Y7 fs_ty7 fs_nm7 (Or.inl rfl) rfl rfl d_Ledger_noteSampler_65 ?_
        refine fs_lift (fun _ _ _ _ => lv_aload_n hx hb d_Ledger_noteSampler_68 rfl (lv_at hl 0 rfl)) ?_
        refine fs_lift (fun _ _ _ _ => lv_aload_n hx hb d_Ledger_noteSampler_69 rfl (lv_at hl 1 rfl)) ?_
        refine fs_JV S hG hR rfl [] (enc := fun r => some (.int r)) (fun zr zs zt zh => m_Report_epoch X l a1 zh) tw_5_60 tw_4_104 tw_4_105 tw_4_106 tw_1_25 q_Report_epoch ⟨(Nat.le_of_ble_eq_true rfl), (Nat.le_of_ble_eq_true rfl)⟩ hl.1 rfl (Nat.le_of_ble_eq_true rfl) d_Ledger_noteSampler_70 (fun v11 => ?_)
        refine fs_Jeq (g2 := F0 m 73 ls [.int v11, .ref a0]) rfl ?_
        refine fs_Jput S hG fs_in7 rfl 4 (Nat.le_of_ble_eq_true rfl) tw_1_214 (fun _ h9 => h9) fs_Y7 fs_ty7 fs_nm7 (Or.inl rfl) rfl rfl d_Ledger_noteSampler_73 ?_
        refine fs_lift (fun _ _ _ _ => lv_aload_n hx hb d_Ledger_noteSampler_76 rfl (lv_at hl 0 rfl)) ?_
        refine fs_lift (fun _ _ _ _ => lv_aload_n hx hb d_Ledger_noteSampler_77 rfl (lv_at hl 1 rfl)) ?_
        refine fs_JV S hG hR rfl [] (enc := fun r => some (.int r)) (fun zr zs zt zh => m_Report_samplersBefore X l a1 zh) tw_5_84 tw_5_85 tw_5_86 tw_5_87 tw_1_25 q_Report_samplersBefore ⟨(Nat.le_of_ble_eq_true rfl), (Nat.le_of_ble_eq_true rfl)⟩ hl.1 rfl (Nat.le_of_ble_eq_true rfl) d_Ledger_noteSampler_78 (fun v12 => ?_)
        refine fs_Jeq (g2 := F0 m 81 ls [.int v12, .ref a0]) rfl ?_
        refine fs_Jput S hG fs_in7 rfl 5 (Nat.le_of_ble_eq_true rfl) tw_1_215 (fun _ h9 => h9) fs_Y7 fs_ty7 fs_nm7 (Or.inl rfl) rfl rfl d_Ledger_noteSampler_81 ?_
        exact fs_Jvret S hr hk rfl d_Ledger_noteSampler_84
      · refine fs_ifn (fun _ _ _ _ => lv_if_ne hx hb d_Ledger_noteSampler_53 rfl) ?_ ?_
        · refine fs_lift (fun _ _ _ _ => lv_iload_n hx hb d_Ledger_noteSampler_56 rfl (lv_at hl 0 rfl)) ?_
          refine fs_if (fun _ _ _ _ => lv_if_eq hx hb d_Ledger_noteSampler_57 rfl) ?_ ?_
          · exact fs_Jvret S hr hk rfl d_Ledger_noteSampler_84
          · exact hj60 () ls (lv_sub hl [1, 2] rfl)
        · exact hj60 () ls (lv_sub hl [1, 2] rfl)
    · refine fs_Jlet1 (nL := 4) (pj := 46) (I := fun (_ : Unit) => [(0, .ref a0), (1, .ref a1), (2, .int v2)]) (st := fun (_ : Unit) => []) (fun _ ls hl => ?_) (fun j46 hj46 => ?_)
      · refine fs_lift (fun _ _ _ _ => lv_iconst (v := 1) hx hb d_Ledger_noteSampler_46 (by decide)) ?_
        refine fs_lift (fun _ _ _ _ => lv_goto hx hb d_Ledger_noteSampler_47 rfl) ?_
        exact hj51 1 ls (lv_sub hl [0, 1, 2] rfl)
      · refine fs_if (fun _ _ _ _ => lv_icmp_gt hx hb d_Ledger_noteSampler_21 rfl) ?_ ?_
        · exact hj46 () ls (lv_sub hl [1, 2, 0] rfl)
        · refine fs_lift (fun _ _ _ _ => lv_aload_n hx hb d_Ledger_noteSampler_24 rfl (lv_at hl 2 rfl)) ?_
          refine fs_JV S hG hR rfl [] (enc := fun r => some (.int r)) (fun zr zs zt zh => m_Report_epoch X l a1 zh) tw_5_60 tw_4_104 tw_4_105 tw_4_106 tw_1_25 q_Report_epoch ⟨(Nat.le_of_ble_eq_true rfl), (Nat.le_of_ble_eq_true rfl)⟩ hl.1 rfl (Nat.le_of_ble_eq_true rfl) d_Ledger_noteSampler_25 (fun v5 => ?_)
          refine fs_Jeq (g2 := F0 m 28 ls [.int v5]) rfl ?_
          refine fs_lift (fun _ _ _ _ => lv_aload_n hx hb d_Ledger_noteSampler_28 rfl (lv_at hl 1 rfl)) ?_
          refine fs_Jgi S hG fs_in7 rfl 4 (Nat.le_of_ble_eq_true rfl) tw_1_214 (fun _ h9 => h9) d_Ledger_noteSampler_29 (fun v6 => ?_)
          refine fs_Jlet1 (nL := 4) (pj := 50) (I := fun (_ : Unit) => [(0, .ref a0), (1, .ref a1), (2, .int v2)]) (st := fun (_ : Unit) => []) (fun _ ls hl => ?_) (fun j50 hj50 => ?_)
          · refine fs_lift (fun _ _ _ _ => lv_iconst (v := 0) hx hb d_Ledger_noteSampler_50 (by decide)) ?_
            exact hj51 0 ls (lv_sub hl [0, 1, 2] rfl)
          · refine fs_ifn (fun _ _ _ _ => lv_icmp_ne hx hb d_Ledger_noteSampler_32 rfl) ?_ ?_
            · refine fs_lift (fun _ _ _ _ => lv_aload_n hx hb d_Ledger_noteSampler_35 rfl (lv_at hl 2 rfl)) ?_
              refine fs_JV S hG hR rfl [] (enc := fun r => some (.int r)) (fun zr zs zt zh => m_Report_samplersBefore X l a1 zh) tw_5_84 tw_5_85 tw_5_86 tw_5_87 tw_1_25 q_Report_samplersBefore ⟨(Nat.le_of_ble_eq_true rfl), (Nat.le_of_ble_eq_true rfl)⟩ hl.1 rfl (Nat.le_of_ble_eq_true rfl) d_Ledger_noteSampler_36 (fun v7 => ?_)
              refine fs_Jeq (g2 := F0 m 39 ls [.int v7]) rfl ?_
              refine fs_lift (fun _ _ _ _ => lv_aload_n hx hb d_Ledger_noteSampler_39 rfl (lv_at hl 1 rfl)) ?_
              refine fs_Jgi S hG fs_in7 rfl 5 (Nat.le_of_ble_eq_true rfl) tw_1_215 (fun _ h9 => h9) d_Ledger_noteSampler_40 (fun v8 => ?_)
              refine fs_if (fun _ _ _ _ => lv_icmp_le hx hb d_Ledger_noteSampler_43 rfl) ?_ ?_
              · exact hj50 () ls (lv_sub hl [1, 2, 0] rfl)
              · exact hj46 () ls (lv_sub hl [1, 2, 0] rfl)
            · exact hj50 () ls (lv_sub hl [1, 2, 0] rfl)
  · refine fs_ifn (fun _ _ _ _ => lv_if_ne hx hb d_Ledger_noteSampler_4 rfl) ?_ ?_
    · refine fs_lift (fun _ _ _ _ => lv_iconst (v := 1) hx hb d_Ledger_noteSampler_7 (by decide)) ?_
      refine fs_lift (fun _ _ _ _ => lv_goto hx hb d_Ledger_noteSampler_8 rfl) ?_
      exact hj12 1 ls (lv_sub hl [0, 1] rfl)
    · refine fs_lift (fun _ _ _ _ => lv_iconst (v := 0) hx hb d_Ledger_noteSampler_11 (by decide)) ?_
      exact hj12 0 ls (lv_sub hl [0, 1] rfl)

theorem d_Fs_hear_0 : decode prog_1_method_17_code 0 = .ok (.aload_n 0, 1) := by decide +kernel
theorem d_Fs_hear_1 : decode prog_1_method_17_code 1 = .ok (.iload_n 1, 1) := by decide +kernel
theorem d_Fs_hear_2 : decode prog_1_method_17_code 2 = .ok (.invokevirtual 216, 3) := by decide +kernel
theorem d_Fs_hear_5 : decode prog_1_method_17_code 5 = .ok (.astore_n 2, 1) := by decide +kernel
theorem d_Fs_hear_6 : decode prog_1_method_17_code 6 = .ok (.aload_n 2, 1) := by decide +kernel
theorem d_Fs_hear_7 : decode prog_1_method_17_code 7 = .ok (.invokevirtual 220, 3) := by decide +kernel
theorem d_Fs_hear_10 : decode prog_1_method_17_code 10 = .ok (.ifCond .eq 13, 3) := by decide +kernel
theorem d_Fs_hear_13 : decode prog_1_method_17_code 13 = .ok (.new 43, 3) := by decide +kernel
theorem d_Fs_hear_16 : decode prog_1_method_17_code 16 = .ok (.dup, 1) := by decide +kernel
theorem d_Fs_hear_17 : decode prog_1_method_17_code 17 = .ok (.ldc 223, 2) := by decide +kernel
theorem d_Fs_hear_19 : decode prog_1_method_17_code 19 = .ok (.invokespecial 47, 3) := by decide +kernel
theorem d_Fs_hear_22 : decode prog_1_method_17_code 22 = .ok (.athrow, 1) := by decide +kernel
theorem d_Fs_hear_23 : decode prog_1_method_17_code 23 = .ok (.aload_n 2, 1) := by decide +kernel
theorem d_Fs_hear_24 : decode prog_1_method_17_code 24 = .ok (.invokevirtual 225, 3) := by decide +kernel
theorem d_Fs_hear_27 : decode prog_1_method_17_code 27 = .ok (.lookupswitch 43 #[(0, 25), (1, 34)], 25) := by decide +kernel
theorem d_Fs_hear_52 : decode prog_1_method_17_code 52 = .ok (.aload_n 0, 1) := by decide +kernel
theorem d_Fs_hear_53 : decode prog_1_method_17_code 53 = .ok (.getfield 31, 3) := by decide +kernel
theorem d_Fs_hear_56 : decode prog_1_method_17_code 56 = .ok (.aload_n 2, 1) := by decide +kernel
theorem d_Fs_hear_57 : decode prog_1_method_17_code 57 = .ok (.invokevirtual 228, 3) := by decide +kernel
theorem d_Fs_hear_60 : decode prog_1_method_17_code 60 = .ok (.ireturn, 1) := by decide +kernel
theorem d_Fs_hear_61 : decode prog_1_method_17_code 61 = .ok (.aload_n 0, 1) := by decide +kernel
theorem d_Fs_hear_62 : decode prog_1_method_17_code 62 = .ok (.getfield 31, 3) := by decide +kernel
theorem d_Fs_hear_65 : decode prog_1_method_17_code 65 = .ok (.aload_n 2, 1) := by decide +kernel
theorem d_Fs_hear_66 : decode prog_1_method_17_code 66 = .ok (.invokevirtual 231, 3) := by decide +kernel
theorem d_Fs_hear_69 : decode prog_1_method_17_code 69 = .ok (.ireturn, 1) := by decide +kernel
theorem d_Fs_hear_70 : decode prog_1_method_17_code 70 = .ok (.aload_n 0, 1) := by decide +kernel
theorem d_Fs_hear_71 : decode prog_1_method_17_code 71 = .ok (.getfield 31, 3) := by decide +kernel
theorem d_Fs_hear_74 : decode prog_1_method_17_code 74 = .ok (.aload_n 2, 1) := by decide +kernel
theorem d_Fs_hear_75 : decode prog_1_method_17_code 75 = .ok (.invokevirtual 234, 3) := by decide +kernel
theorem d_Fs_hear_78 : decode prog_1_method_17_code 78 = .ok (.invokevirtual 237, 3) := by decide +kernel
theorem d_Fs_hear_81 : decode prog_1_method_17_code 81 = .ok (.aload_n 2, 1) := by decide +kernel
theorem d_Fs_hear_82 : decode prog_1_method_17_code 82 = .ok (.invokevirtual 241, 3) := by decide +kernel
theorem d_Fs_hear_85 : decode prog_1_method_17_code 85 = .ok (.iconst 0, 1) := by decide +kernel
theorem d_Fs_hear_86 : decode prog_1_method_17_code 86 = .ok (.ireturn, 1) := by decide +kernel
theorem q_Fs_hear : (⟨"FlowShelf", "hear", "(I)I"⟩ : MethodName).cls ≠ "java/lang/invoke/MethodHandle" ∧ (⟨"FlowShelf", "hear", "(I)I"⟩ : MethodName).cls ≠ "java/lang/invoke/VarHandle" ∧ (parseMethodDescriptor (⟨"FlowShelf", "hear", "(I)I"⟩ : MethodName).desc).map (fun d => d.parameters.length) = some 1 := by decide +kernel
set_option maxHeartbeats 4000000 in
set_option maxRecDepth 100000 in
theorem m_Fs_hear (X : fs_X) (l : Launch) (hl0 : l.stackTraces = false) (a0 : Nat) (x1 : Int32) {r : (Int32 ⊕ String)} {σ σF : fs_S} (h : (f_Fs_hear a0 x1).1 σ = some (r, σF)) : fs_Met X l ⟨"FlowShelf", "hear", "(I)I"⟩ (Cond.code ⟨"FlowShelf", "hear", "(I)I"⟩ prog_1_method_17_code 3 (some FieldType.int)) 12 306 [.ref a0, .int x1] σ (fs_qI r) σF := by
  refine fs_ofW (by decide) ?_
  intro p e s m args below meth c s₁ B hml hT hv
  obtain ⟨rfl, hw0, hG⟩ := hv
  have hx := B.exec
  have hb := B.bytes
  have hr := B.returns
  have hk := B.notSynchronized
  have S : CallFix p m c prog_1_method_17_code 3 s _ fs_ws "FlowShelf" := ⟨B.exec, B.bytes, hml, findClass_of_methodNamed B.named, fun w hw => atoms_spec (ws := _ :: fs_ws) B.pre w (List.mem_cons_of_mem _ hw)⟩
  have hR := fs_hR (fr := 12) (lo := 306) ((f_Fs_hear a0 x1).2 _ _ _ h)
  have hl := lv_entry ([.ref a0, .int x1]) (n := 3) (Nat.le_of_ble_eq_true rfl)
  rw [lg_entry_eq]
  generalize (lg_sl ([.ref a0, .int x1]) ++ List.replicate (3 - (lg_sl ([.ref a0, .int x1])).length) Slot.unset).toArray = ls at hl ⊢
  have hl : lv_has ls 3 [(0, .ref a0), (1, .int x1)] := hl
  refine (?_ : fs_J X p l e (fs_rm 12 306 σ σF) s m _ below meth c (fs_Q X below _ s (fs_qI r) σ σF) r σ σF (f_Fs_hear a0 x1) (F0 m 0 ls [])) σ s.heap [] 0 0 h hw0 va_S.rf rfl rfl
  clear h hw0
  unfold f_Fs_hear
  refine fs_lift (fun _ _ _ _ => lv_aload_n hx hb d_Fs_hear_0 rfl (lv_at hl 0 rfl)) ?_
  refine fs_lift (fun _ _ _ _ => lv_iload_n hx hb d_Fs_hear_1 rfl (lv_at hl 1 rfl)) ?_
  refine fs_JVx S hG hR hT hk rfl [.int x1] (fun r => some (.ref r)) (encx := fs_qR) (fun _ => rfl) (fun _ => rfl) (fun zr zs zt zh => m_Fs_reportOf X l hl0 a0 x1 zh) tw_4_72 tw_4_74 tp_1_11 tw_4_75 tw_1_1 q_Fs_reportOf ⟨(Nat.le_of_ble_eq_true rfl), (Nat.le_of_ble_eq_true rfl)⟩ hl.1 rfl (Nat.le_of_ble_eq_true rfl) d_Fs_hear_2 (enc := fs_qI) (fun _ => rfl) (fun r1 => ?_)
  refine fs_Jeq (g2 := F0 m 5 ls [.ref r1]) rfl ?_
  refine fs_liftL (fun _ _ _ _ => lv_astore_n (lv' := [(2, .ref r1), (0, .ref a0), (1, .int x1)]) hx hb d_Fs_hear_5 rfl hl (Nat.le_of_ble_eq_true rfl) rfl) (fun ls hl => ?_)
  refine fs_lift (fun _ _ _ _ => lv_aload_n hx hb d_Fs_hear_6 rfl (lv_at hl 0 rfl)) ?_
  refine fs_JV S hG hR rfl [] (enc := fun r => some (.int r)) (fun zr zs zt zh => m_Report_isBad X l r1 zh) tw_4_94 tw_4_95 tw_4_96 tw_4_97 tw_1_25 q_Report_isBad ⟨(Nat.le_of_ble_eq_true rfl), (Nat.le_of_ble_eq_true rfl)⟩ hl.1 rfl (Nat.le_of_ble_eq_true rfl) d_Fs_hear_7 (fun v2 => ?_)
  refine fs_Jeq (g2 := F0 m 10 ls [.int v2]) rfl ?_
  refine fs_if (fun _ _ _ _ => lv_if_eq hx hb d_Fs_hear_10 rfl) ?_ ?_
  · refine fs_lift (fun _ _ _ _ => lv_aload_n hx hb d_Fs_hear_23 rfl (lv_at hl 0 rfl)) ?_
    refine fs_JV S hG hR rfl [] (enc := fun r => some (.int r)) (fun zr zs zt zh => m_Report_kind X l r1 zh) tw_4_148 tw_4_108 tw_4_109 tw_4_110 tw_1_25 q_Report_kind ⟨(Nat.le_of_ble_eq_true rfl), (Nat.le_of_ble_eq_true rfl)⟩ hl.1 rfl (Nat.le_of_ble_eq_true rfl) d_Fs_hear_24 (fun v3 => ?_)
    refine fs_Jeq (g2 := F0 m 27 ls [.int v3]) rfl ?_
    refine fs_sw (fun q9 => ?_) (fun q100 => ?_)
    · refine fs_lift (fun _ _ _ _ => lv_lookup (off := 25) (tgt := 52) hx hb d_Fs_hear_27 (by decide) (by rw [q9]; rfl) rfl) ?_
      refine fs_lift (fun _ _ _ _ => lv_aload_n hx hb d_Fs_hear_52 rfl (lv_at hl 1 rfl)) ?_
      refine fs_Jgr S hG fs_in0 rfl 3 (Nat.le_of_ble_eq_true rfl) tw_2_10 (fun _ h9 => h9) d_Fs_hear_53 (fun r4 => ?_)
      refine fs_lift (fun _ _ _ _ => lv_aload_n hx hb d_Fs_hear_56 rfl (lv_at hl 0 rfl)) ?_
      refine fs_JVx S hG hR hT hk rfl [.ref r1] (fun r => some (.int r)) (encx := fs_qI) (fun _ => rfl) (fun _ => rfl) (fun zr zs zt zh => m_Collector_hearTemplate X l hl0 r4 r1 zh) tw_4_149 tw_4_150 tw_4_151 tw_4_152 tw_1_8 q_Collector_hearTemplate ⟨(Nat.le_of_ble_eq_true rfl), (Nat.le_of_ble_eq_true rfl)⟩ hl.1 rfl (Nat.le_of_ble_eq_true rfl) d_Fs_hear_57 (enc := fs_qI) (fun _ => rfl) (fun v5 => ?_)
      refine fs_Jeq (g2 := F0 m 60 ls [.int v5]) rfl ?_
      exact fs_Jiret S hr hk rfl d_Fs_hear_60
    refine fs_sw (fun q9 => ?_) (fun q101 => ?_)
    · refine fs_lift (fun _ _ _ _ => lv_lookup (off := 34) (tgt := 61) hx hb d_Fs_hear_27 (by decide) (by rw [q9]; rfl) rfl) ?_
      refine fs_lift (fun _ _ _ _ => lv_aload_n hx hb d_Fs_hear_61 rfl (lv_at hl 1 rfl)) ?_
      refine fs_Jgr S hG fs_in0 rfl 3 (Nat.le_of_ble_eq_true rfl) tw_2_10 (fun _ h9 => h9) d_Fs_hear_62 (fun r6 => ?_)
      refine fs_lift (fun _ _ _ _ => lv_aload_n hx hb d_Fs_hear_65 rfl (lv_at hl 0 rfl)) ?_
      refine fs_JVx S hG hR hT hk rfl [.ref r1] (fun r => some (.int r)) (encx := fs_qI) (fun _ => rfl) (fun _ => rfl) (fun zr zs zt zh => m_Collector_hearRecords X l hl0 r6 r1 zh) tw_5_52 tw_5_53 tw_5_54 tw_5_55 tw_1_8 q_Collector_hearRecords ⟨(Nat.le_of_ble_eq_true rfl), (Nat.le_of_ble_eq_true rfl)⟩ hl.1 rfl (Nat.le_of_ble_eq_true rfl) d_Fs_hear_66 (enc := fs_qI) (fun _ => rfl) (fun v7 => ?_)
      refine fs_Jeq (g2 := F0 m 69 ls [.int v7]) rfl ?_
      exact fs_Jiret S hr hk rfl d_Fs_hear_69
    refine fs_lift (fun _ _ _ _ => lv_lookup (off := 43) (tgt := 70) hx hb d_Fs_hear_27 (by decide) ((lv_osw q100 rfl).trans ((lv_osw q101 rfl).trans (rfl))) rfl) ?_
    refine fs_lift (fun _ _ _ _ => lv_aload_n hx hb d_Fs_hear_70 rfl (lv_at hl 1 rfl)) ?_
    refine fs_Jgr S hG fs_in0 rfl 3 (Nat.le_of_ble_eq_true rfl) tw_2_10 (fun _ h9 => h9) d_Fs_hear_71 (fun r8 => ?_)
    refine fs_lift (fun _ _ _ _ => lv_aload_n hx hb d_Fs_hear_74 rfl (lv_at hl 0 rfl)) ?_
    refine fs_JV S hG hR rfl [] (enc := fun r => some (.int r)) (fun zr zs zt zh => m_Report_exporter X l r1 zh) tw_5_78 tw_4_99 tw_4_100 tw_4_101 tw_1_25 q_Report_exporter ⟨(Nat.le_of_ble_eq_true rfl), (Nat.le_of_ble_eq_true rfl)⟩ hl.1 rfl (Nat.le_of_ble_eq_true rfl) d_Fs_hear_75 (fun v9 => ?_)
    refine fs_Jeq (g2 := F0 m 78 ls [.int v9, .ref r8]) rfl ?_
    refine fs_JV S hG hR rfl [.int v9] (enc := fun r => some (.ref r)) (fun zr zs zt zh => m_Collector_ledgerOf X l r8 v9 zh) tw_5_79 tw_5_49 tw_5_50 tw_5_51 tw_1_8 q_Collector_ledgerOf ⟨(Nat.le_of_ble_eq_true rfl), (Nat.le_of_ble_eq_true rfl)⟩ hl.1 rfl (Nat.le_of_ble_eq_true rfl) d_Fs_hear_78 (fun r10 => ?_)
    refine fs_Jeq (g2 := F0 m 81 ls [.ref r10]) rfl ?_
    refine fs_lift (fun _ _ _ _ => lv_aload_n hx hb d_Fs_hear_81 rfl (lv_at hl 0 rfl)) ?_
    refine fs_JV S hG hR rfl [.ref r1] (enc := fun _ => none) (fun zr zs zt zh => m_Ledger_noteSampler X l r10 r1 zh) tw_5_80 tw_5_81 tw_5_82 tw_5_83 tw_1_10 q_Ledger_noteSampler ⟨(Nat.le_of_ble_eq_true rfl), (Nat.le_of_ble_eq_true rfl)⟩ hl.1 rfl (Nat.le_of_ble_eq_true rfl) d_Fs_hear_82 (fun _ => ?_)
    refine fs_Jeq (g2 := F0 m 85 ls []) rfl ?_
    refine fs_lift (fun _ _ _ _ => lv_iconst (v := 0) hx hb d_Fs_hear_85 (by decide)) ?_
    exact fs_Jiret S hr hk rfl d_Fs_hear_86
  · exact fs_Jthrow S hG hR hl0 (names := fs_nms) (len := 2) (.ldc 223) (Or.inl ⟨rfl, rfl⟩) (by decide) fs_fit fs_at1 tw_2_67 tw_1_15 tb_4_147 hl.1 hT hk (Nat.le_of_ble_eq_true rfl) (Nat.le_of_ble_eq_true rfl) d_Fs_hear_13 d_Fs_hear_16 d_Fs_hear_17 d_Fs_hear_19 d_Fs_hear_22 rfl

theorem d_Fs_requireRow_0 : decode prog_1_method_26_code 0 = .ok (.iload_n 1, 1) := by decide +kernel
theorem d_Fs_requireRow_1 : decode prog_1_method_26_code 1 = .ok (.ifCond .lt 20, 3) := by decide +kernel
theorem d_Fs_requireRow_4 : decode prog_1_method_26_code 4 = .ok (.iload_n 1, 1) := by decide +kernel
theorem d_Fs_requireRow_5 : decode prog_1_method_26_code 5 = .ok (.aload_n 0, 1) := by decide +kernel
theorem d_Fs_requireRow_6 : decode prog_1_method_26_code 6 = .ok (.getfield 31, 3) := by decide +kernel
theorem d_Fs_requireRow_9 : decode prog_1_method_26_code 9 = .ok (.getfield 247, 3) := by decide +kernel
theorem d_Fs_requireRow_12 : decode prog_1_method_26_code 12 = .ok (.getfield 251, 3) := by decide +kernel
theorem d_Fs_requireRow_15 : decode prog_1_method_26_code 15 = .ok (.invokevirtual 88, 3) := by decide +kernel
theorem d_Fs_requireRow_18 : decode prog_1_method_26_code 18 = .ok (.if_icmp .lt 14, 3) := by decide +kernel
theorem d_Fs_requireRow_21 : decode prog_1_method_26_code 21 = .ok (.new 91, 3) := by decide +kernel
theorem d_Fs_requireRow_24 : decode prog_1_method_26_code 24 = .ok (.dup, 1) := by decide +kernel
theorem d_Fs_requireRow_25 : decode prog_1_method_26_code 25 = .ok (.ldc_w 306, 3) := by decide +kernel
theorem d_Fs_requireRow_28 : decode prog_1_method_26_code 28 = .ok (.invokespecial 95, 3) := by decide +kernel
theorem d_Fs_requireRow_31 : decode prog_1_method_26_code 31 = .ok (.athrow, 1) := by decide +kernel
theorem d_Fs_requireRow_32 : decode prog_1_method_26_code 32 = .ok (.return_, 1) := by decide +kernel
theorem q_Fs_requireRow : (⟨"FlowShelf", "requireRow", "(I)V"⟩ : MethodName).cls ≠ "java/lang/invoke/MethodHandle" ∧ (⟨"FlowShelf", "requireRow", "(I)V"⟩ : MethodName).cls ≠ "java/lang/invoke/VarHandle" ∧ (parseMethodDescriptor (⟨"FlowShelf", "requireRow", "(I)V"⟩ : MethodName).desc).map (fun d => d.parameters.length) = some 1 := by decide +kernel
set_option maxHeartbeats 4000000 in
set_option maxRecDepth 100000 in
theorem m_Fs_requireRow (X : fs_X) (l : Launch) (hl0 : l.stackTraces = false) (a0 : Nat) (x1 : Int32) {r : (Unit ⊕ String)} {σ σF : fs_S} (h : (f_Fs_requireRow a0 x1).1 σ = some (r, σF)) : fs_Met X l ⟨"FlowShelf", "requireRow", "(I)V"⟩ (Cond.code ⟨"FlowShelf", "requireRow", "(I)V"⟩ prog_1_method_26_code 2 none) 6 82 [.ref a0, .int x1] σ (fs_qV r) σF := by
  refine fs_ofW (by decide) ?_
  intro p e s m args below meth c s₁ B hml hT hv
  obtain ⟨rfl, hw0, hG⟩ := hv
  have hx := B.exec
  have hb := B.bytes
  have hr := B.returns
  have hk := B.notSynchronized
  have S : CallFix p m c prog_1_method_26_code 2 s _ fs_ws "FlowShelf" := ⟨B.exec, B.bytes, hml, findClass_of_methodNamed B.named, fun w hw => atoms_spec (ws := _ :: fs_ws) B.pre w (List.mem_cons_of_mem _ hw)⟩
  have hR := fs_hR (fr := 6) (lo := 82) ((f_Fs_requireRow a0 x1).2 _ _ _ h)
  have hl := lv_entry ([.ref a0, .int x1]) (n := 2) (Nat.le_of_ble_eq_true rfl)
  rw [lg_entry_eq]
  generalize (lg_sl ([.ref a0, .int x1]) ++ List.replicate (2 - (lg_sl ([.ref a0, .int x1])).length) Slot.unset).toArray = ls at hl ⊢
  have hl : lv_has ls 2 [(0, .ref a0), (1, .int x1)] := hl
  refine (?_ : fs_J X p l e (fs_rm 6 82 σ σF) s m _ below meth c (fs_Q X below _ s (fs_qV r) σ σF) r σ σF (f_Fs_requireRow a0 x1) (F0 m 0 ls [])) σ s.heap [] 0 0 h hw0 va_S.rf rfl rfl
  clear h hw0
  unfold f_Fs_requireRow
  refine fs_lift (fun _ _ _ _ => lv_iload_n hx hb d_Fs_requireRow_0 rfl (lv_at hl 1 rfl)) ?_
  refine fs_Jlet1 (nL := 2) (pj := 21) (I := fun (_ : Unit) => []) (st := fun (_ : Unit) => []) (fun _ ls hl => ?_) (fun j21 hj21 => ?_)
  · exact fs_Jthrow S hG hR hl0 (names := fs_nms) (len := 3) (.ldc_w 306) (Or.inr ⟨rfl, rfl⟩) (by decide) fs_fit fs_at3 tw_3_112 tw_1_24 tb_5_100 hl.1 hT hk (Nat.le_of_ble_eq_true rfl) (Nat.le_of_ble_eq_true rfl) d_Fs_requireRow_21 d_Fs_requireRow_24 d_Fs_requireRow_25 d_Fs_requireRow_28 d_Fs_requireRow_31 rfl
  · refine fs_if (fun _ _ _ _ => lv_if_lt hx hb d_Fs_requireRow_1 rfl) ?_ ?_
    · exact hj21 () ls (lv_sub hl [] rfl)
    · refine fs_lift (fun _ _ _ _ => lv_iload_n hx hb d_Fs_requireRow_4 rfl (lv_at hl 1 rfl)) ?_
      refine fs_lift (fun _ _ _ _ => lv_aload_n hx hb d_Fs_requireRow_5 rfl (lv_at hl 0 rfl)) ?_
      refine fs_Jgr S hG fs_in0 rfl 3 (Nat.le_of_ble_eq_true rfl) tw_2_10 (fun _ h9 => h9) d_Fs_requireRow_6 (fun r1 => ?_)
      refine fs_Jgr S hG fs_in5 rfl 2 (Nat.le_of_ble_eq_true rfl) tw_1_233 (fun _ h9 => h9) d_Fs_requireRow_9 (fun r2 => ?_)
      refine fs_Jgr S hG fs_in6 rfl 0 (Nat.le_of_ble_eq_true rfl) tw_1_185 (fun _ h9 => h9) d_Fs_requireRow_12 (fun r3 => ?_)
      refine fs_JV S hG hR rfl [] (enc := fun r => some (.int r)) (fun zr zs zt zh => m_ArrayList_size X l r3 zh) tw_2_28 tw_2_29 tw_2_30 tw_2_31 tw_1_5 q_ArrayList_size ⟨(Nat.le_of_ble_eq_true rfl), (Nat.le_of_ble_eq_true rfl)⟩ hl.1 rfl (Nat.le_of_ble_eq_true rfl) d_Fs_requireRow_15 (fun v4 => ?_)
      refine fs_Jeq (g2 := F0 m 18 ls [.int v4, .int x1]) rfl ?_
      refine fs_if (fun _ _ _ _ => lv_icmp_lt hx hb d_Fs_requireRow_18 rfl) ?_ ?_
      · exact fs_Jvret S hr hk rfl d_Fs_requireRow_32
      · exact hj21 () ls (lv_sub hl [] rfl)

theorem d_Fs_row_0 : decode prog_1_method_19_code 0 = .ok (.aload_n 0, 1) := by decide +kernel
theorem d_Fs_row_1 : decode prog_1_method_19_code 1 = .ok (.iload_n 1, 1) := by decide +kernel
theorem d_Fs_row_2 : decode prog_1_method_19_code 2 = .ok (.invokevirtual 256, 3) := by decide +kernel
theorem d_Fs_row_5 : decode prog_1_method_19_code 5 = .ok (.iload_n 2, 1) := by decide +kernel
theorem d_Fs_row_6 : decode prog_1_method_19_code 6 = .ok (.ifCond .lt 9, 3) := by decide +kernel
theorem d_Fs_row_9 : decode prog_1_method_19_code 9 = .ok (.iload_n 2, 1) := by decide +kernel
theorem d_Fs_row_10 : decode prog_1_method_19_code 10 = .ok (.bipush 8, 2) := by decide +kernel
theorem d_Fs_row_12 : decode prog_1_method_19_code 12 = .ok (.if_icmp .le 14, 3) := by decide +kernel
theorem d_Fs_row_15 : decode prog_1_method_19_code 15 = .ok (.new 43, 3) := by decide +kernel
theorem d_Fs_row_18 : decode prog_1_method_19_code 18 = .ok (.dup, 1) := by decide +kernel
theorem d_Fs_row_19 : decode prog_1_method_19_code 19 = .ok (.ldc_w 259, 3) := by decide +kernel
theorem d_Fs_row_22 : decode prog_1_method_19_code 22 = .ok (.invokespecial 47, 3) := by decide +kernel
theorem d_Fs_row_25 : decode prog_1_method_19_code 25 = .ok (.athrow, 1) := by decide +kernel
theorem d_Fs_row_26 : decode prog_1_method_19_code 26 = .ok (.aload_n 0, 1) := by decide +kernel
theorem d_Fs_row_27 : decode prog_1_method_19_code 27 = .ok (.getfield 31, 3) := by decide +kernel
theorem d_Fs_row_30 : decode prog_1_method_19_code 30 = .ok (.getfield 247, 3) := by decide +kernel
theorem d_Fs_row_33 : decode prog_1_method_19_code 33 = .ok (.getfield 251, 3) := by decide +kernel
theorem d_Fs_row_36 : decode prog_1_method_19_code 36 = .ok (.iload_n 1, 1) := by decide +kernel
theorem d_Fs_row_37 : decode prog_1_method_19_code 37 = .ok (.invokevirtual 96, 3) := by decide +kernel
theorem d_Fs_row_40 : decode prog_1_method_19_code 40 = .ok (.checkcast 261, 3) := by decide +kernel
theorem d_Fs_row_43 : decode prog_1_method_19_code 43 = .ok (.astore_n 3, 1) := by decide +kernel
theorem d_Fs_row_44 : decode prog_1_method_19_code 44 = .ok (.iload_n 2, 1) := by decide +kernel
theorem d_Fs_row_45 : decode prog_1_method_19_code 45 = .ok (.bipush 8, 2) := by decide +kernel
theorem d_Fs_row_47 : decode prog_1_method_19_code 47 = .ok (.if_icmp .ne 11, 3) := by decide +kernel
theorem d_Fs_row_50 : decode prog_1_method_19_code 50 = .ok (.aload_n 3, 1) := by decide +kernel
theorem d_Fs_row_51 : decode prog_1_method_19_code 51 = .ok (.getfield 263, 3) := by decide +kernel
theorem d_Fs_row_54 : decode prog_1_method_19_code 54 = .ok (.i2l, 1) := by decide +kernel
theorem d_Fs_row_55 : decode prog_1_method_19_code 55 = .ok (.goto 9, 3) := by decide +kernel
theorem d_Fs_row_58 : decode prog_1_method_19_code 58 = .ok (.aload_n 3, 1) := by decide +kernel
theorem d_Fs_row_59 : decode prog_1_method_19_code 59 = .ok (.getfield 265, 3) := by decide +kernel
theorem d_Fs_row_62 : decode prog_1_method_19_code 62 = .ok (.iload_n 2, 1) := by decide +kernel
theorem d_Fs_row_63 : decode prog_1_method_19_code 63 = .ok (.laload, 1) := by decide +kernel
theorem d_Fs_row_64 : decode prog_1_method_19_code 64 = .ok (.lreturn, 1) := by decide +kernel
theorem q_Fs_row : (⟨"FlowShelf", "row", "(II)J"⟩ : MethodName).cls ≠ "java/lang/invoke/MethodHandle" ∧ (⟨"FlowShelf", "row", "(II)J"⟩ : MethodName).cls ≠ "java/lang/invoke/VarHandle" ∧ (parseMethodDescriptor (⟨"FlowShelf", "row", "(II)J"⟩ : MethodName).desc).map (fun d => d.parameters.length) = some 2 := by decide +kernel
set_option maxHeartbeats 4000000 in
set_option maxRecDepth 100000 in
theorem m_Fs_row (X : fs_X) (l : Launch) (hl0 : l.stackTraces = false) (a0 : Nat) (x1 : Int32) (x2 : Int32) {r : (Int64 ⊕ String)} {σ σF : fs_S} (h : (f_Fs_row a0 x1 x2).1 σ = some (r, σF)) : fs_Met X l ⟨"FlowShelf", "row", "(II)J"⟩ (Cond.code ⟨"FlowShelf", "row", "(II)J"⟩ prog_1_method_19_code 4 (some FieldType.long)) 7 103 [.ref a0, .int x1, .int x2] σ (fs_qJ r) σF := by
  refine fs_ofW (by decide) ?_
  intro p e s m args below meth c s₁ B hml hT hv
  obtain ⟨rfl, hw0, hG⟩ := hv
  have hx := B.exec
  have hb := B.bytes
  have hr := B.returns
  have hk := B.notSynchronized
  have S : CallFix p m c prog_1_method_19_code 4 s _ fs_ws "FlowShelf" := ⟨B.exec, B.bytes, hml, findClass_of_methodNamed B.named, fun w hw => atoms_spec (ws := _ :: fs_ws) B.pre w (List.mem_cons_of_mem _ hw)⟩
  have hR := fs_hR (fr := 7) (lo := 103) ((f_Fs_row a0 x1 x2).2 _ _ _ h)
  have hl := lv_entry ([.ref a0, .int x1, .int x2]) (n := 4) (Nat.le_of_ble_eq_true rfl)
  rw [lg_entry_eq]
  generalize (lg_sl ([.ref a0, .int x1, .int x2]) ++ List.replicate (4 - (lg_sl ([.ref a0, .int x1, .int x2])).length) Slot.unset).toArray = ls at hl ⊢
  have hl : lv_has ls 4 [(0, .ref a0), (1, .int x1), (2, .int x2)] := hl
  refine (?_ : fs_J X p l e (fs_rm 7 103 σ σF) s m _ below meth c (fs_Q X below _ s (fs_qJ r) σ σF) r σ σF (f_Fs_row a0 x1 x2) (F0 m 0 ls [])) σ s.heap [] 0 0 h hw0 va_S.rf rfl rfl
  clear h hw0
  unfold f_Fs_row
  refine fs_lift (fun _ _ _ _ => lv_aload_n hx hb d_Fs_row_0 rfl (lv_at hl 0 rfl)) ?_
  refine fs_lift (fun _ _ _ _ => lv_iload_n hx hb d_Fs_row_1 rfl (lv_at hl 1 rfl)) ?_
  refine fs_JVx S hG hR hT hk rfl [.int x1] (fun _ => none) (encx := fs_qV) (fun _ => rfl) (fun _ => rfl) (fun zr zs zt zh => m_Fs_requireRow X l hl0 a0 x1 zh) tw_5_96 tw_5_98 tp_1_12 tw_5_99 tw_1_1 q_Fs_requireRow ⟨(Nat.le_of_ble_eq_true rfl), (Nat.le_of_ble_eq_true rfl)⟩ hl.1 rfl (Nat.le_of_ble_eq_true rfl) d_Fs_row_2 (enc := fs_qJ) (fun _ => rfl) (fun _ => ?_)
  refine fs_Jeq (g2 := F0 m 5 ls []) rfl ?_
  refine fs_lift (fun _ _ _ _ => lv_iload_n hx hb d_Fs_row_5 rfl (lv_at hl 2 rfl)) ?_
  refine fs_Jlet1 (nL := 4) (pj := 15) (I := fun (_ : Unit) => []) (st := fun (_ : Unit) => []) (fun _ ls hl => ?_) (fun j15 hj15 => ?_)
  · exact fs_Jthrow S hG hR hl0 (names := fs_nms) (len := 3) (.ldc_w 259) (Or.inr ⟨rfl, rfl⟩) (by decide) fs_fit fs_at1 tw_2_67 tw_1_15 tb_5_101 hl.1 hT hk (Nat.le_of_ble_eq_true rfl) (Nat.le_of_ble_eq_true rfl) d_Fs_row_15 d_Fs_row_18 d_Fs_row_19 d_Fs_row_22 d_Fs_row_25 rfl
  · refine fs_if (fun _ _ _ _ => lv_if_lt hx hb d_Fs_row_6 rfl) ?_ ?_
    · exact hj15 () ls (lv_sub hl [] rfl)
    · refine fs_lift (fun _ _ _ _ => lv_iload_n hx hb d_Fs_row_9 rfl (lv_at hl 2 rfl)) ?_
      refine fs_lift (fun _ _ _ _ => lv_bipush (v := 8) hx hb d_Fs_row_10 (by decide)) ?_
      refine fs_if (fun _ _ _ _ => lv_icmp_le hx hb d_Fs_row_12 rfl) ?_ ?_
      · refine fs_lift (fun _ _ _ _ => lv_aload_n hx hb d_Fs_row_26 rfl (lv_at hl 0 rfl)) ?_
        refine fs_Jgr S hG fs_in0 rfl 3 (Nat.le_of_ble_eq_true rfl) tw_2_10 (fun _ h9 => h9) d_Fs_row_27 (fun r1 => ?_)
        refine fs_Jgr S hG fs_in5 rfl 2 (Nat.le_of_ble_eq_true rfl) tw_1_233 (fun _ h9 => h9) d_Fs_row_30 (fun r2 => ?_)
        refine fs_Jgr S hG fs_in6 rfl 0 (Nat.le_of_ble_eq_true rfl) tw_1_185 (fun _ h9 => h9) d_Fs_row_33 (fun r3 => ?_)
        refine fs_lift (fun _ _ _ _ => lv_iload_n hx hb d_Fs_row_36 rfl (lv_at hl 1 rfl)) ?_
        refine fs_JV S hG hR rfl [.int x1] (enc := fun r => some (.ref r)) (fun zr zs zt zh => m_ArrayList_get X l r3 x1 zh) tw_2_32 tw_2_33 tw_2_34 tw_2_35 tw_1_5 q_ArrayList_get ⟨(Nat.le_of_ble_eq_true rfl), (Nat.le_of_ble_eq_true rfl)⟩ hl.1 rfl (Nat.le_of_ble_eq_true rfl) d_Fs_row_37 (fun r4 => ?_)
        refine fs_Jeq (g2 := F0 m 40 ls [.ref r4]) rfl ?_
        refine fs_Jck S hG rfl tw_5_102 tb_7_83 d_Fs_row_40 ?_
        refine fs_liftL (fun _ _ _ _ => lv_astore_n (lv' := [(3, .ref r4), (0, .ref a0), (1, .int x1), (2, .int x2)]) hx hb d_Fs_row_43 rfl hl (Nat.le_of_ble_eq_true rfl) rfl) (fun ls hl => ?_)
        refine fs_lift (fun _ _ _ _ => lv_iload_n hx hb d_Fs_row_44 rfl (lv_at hl 3 rfl)) ?_
        refine fs_lift (fun _ _ _ _ => lv_bipush (v := 8) hx hb d_Fs_row_45 (by decide)) ?_
        refine fs_ifn (fun _ _ _ _ => lv_icmp_ne hx hb d_Fs_row_47 rfl) ?_ ?_
        · refine fs_lift (fun _ _ _ _ => lv_aload_n hx hb d_Fs_row_50 rfl (lv_at hl 0 rfl)) ?_
          refine fs_Jgi S hG fs_in11 rfl 0 (Nat.le_of_ble_eq_true rfl) tw_5_30 (fun _ h9 => h9) d_Fs_row_51 (fun v7 => ?_)
          refine fs_lift (fun _ _ _ _ => lv_i2l hx hb d_Fs_row_54 rfl) ?_
          refine fs_lift (fun _ _ _ _ => lv_goto hx hb d_Fs_row_55 rfl) ?_
          exact fs_Jlret S hr hk rfl d_Fs_row_64
        · refine fs_lift (fun _ _ _ _ => lv_aload_n hx hb d_Fs_row_58 rfl (lv_at hl 0 rfl)) ?_
          refine fs_Jgr S hG fs_in11 rfl 1 (Nat.le_of_ble_eq_true rfl) tw_5_34 (fun _ h9 => h9) d_Fs_row_59 (fun r5 => ?_)
          refine fs_lift (fun _ _ _ _ => lv_iload_n hx hb d_Fs_row_62 rfl (lv_at hl 3 rfl)) ?_
          refine fs_Jaj S hG d_Fs_row_63 (fun v6 => ?_)
          exact fs_Jlret S hr hk rfl d_Fs_row_64
      · exact hj15 () ls (lv_sub hl [] rfl)

theorem d_Row_has_0 : decode prog_9_method_2_code 0 = .ok (.aload_n 0, 1) := by decide +kernel
theorem d_Row_has_1 : decode prog_9_method_2_code 1 = .ok (.getfield 9, 3) := by decide +kernel
theorem d_Row_has_4 : decode prog_9_method_2_code 4 = .ok (.iload_n 1, 1) := by decide +kernel
theorem d_Row_has_5 : decode prog_9_method_2_code 5 = .ok (.laload, 1) := by decide +kernel
theorem d_Row_has_6 : decode prog_9_method_2_code 6 = .ok (.ldc2_w 19, 3) := by decide +kernel
theorem d_Row_has_9 : decode prog_9_method_2_code 9 = .ok (.lcmp, 1) := by decide +kernel
theorem d_Row_has_10 : decode prog_9_method_2_code 10 = .ok (.ifCond .eq 7, 3) := by decide +kernel
theorem d_Row_has_13 : decode prog_9_method_2_code 13 = .ok (.iconst 1, 1) := by decide +kernel
theorem d_Row_has_14 : decode prog_9_method_2_code 14 = .ok (.goto 4, 3) := by decide +kernel
theorem d_Row_has_17 : decode prog_9_method_2_code 17 = .ok (.iconst 0, 1) := by decide +kernel
theorem d_Row_has_18 : decode prog_9_method_2_code 18 = .ok (.ireturn, 1) := by decide +kernel
theorem q_Row_has : (⟨"FlowShelf$Row", "has", "(I)Z"⟩ : MethodName).cls ≠ "java/lang/invoke/MethodHandle" ∧ (⟨"FlowShelf$Row", "has", "(I)Z"⟩ : MethodName).cls ≠ "java/lang/invoke/VarHandle" ∧ (parseMethodDescriptor (⟨"FlowShelf$Row", "has", "(I)Z"⟩ : MethodName).desc).map (fun d => d.parameters.length) = some 1 := by decide +kernel
set_option maxHeartbeats 4000000 in
set_option maxRecDepth 100000 in
theorem m_Row_has (X : fs_X) (l : Launch) (a0 : Nat) (x1 : Int32) {r : Int32} {σ σF : fs_S} (h : (f_Row_has a0 x1).1 σ = some (r, σF)) : fs_Met X l ⟨"FlowShelf$Row", "has", "(I)Z"⟩ (Cond.code ⟨"FlowShelf$Row", "has", "(I)Z"⟩ prog_9_method_2_code 2 (some FieldType.boolean)) 0 0 [.ref a0, .int x1] σ (fs_eI r) σF := by
  refine fs_ofW (by decide) ?_
  intro p e s m args below meth c s₁ B hml hT hv
  obtain ⟨rfl, hw0, hG⟩ := hv
  have hx := B.exec
  have hb := B.bytes
  have hr := B.returns
  have hk := B.notSynchronized
  have S : CallFix p m c prog_9_method_2_code 2 s _ fs_ws "FlowShelf$Row" := ⟨B.exec, B.bytes, hml, findClass_of_methodNamed B.named, fun w hw => atoms_spec (ws := _ :: fs_ws) B.pre w (List.mem_cons_of_mem _ hw)⟩
  have hR := fs_hR (fr := 0) (lo := 0) ((f_Row_has a0 x1).2 _ _ _ h)
  have hl := lv_entry ([.ref a0, .int x1]) (n := 2) (Nat.le_of_ble_eq_true rfl)
  rw [lg_entry_eq]
  generalize (lg_sl ([.ref a0, .int x1]) ++ List.replicate (2 - (lg_sl ([.ref a0, .int x1])).length) Slot.unset).toArray = ls at hl ⊢
  have hl : lv_has ls 2 [(0, .ref a0), (1, .int x1)] := hl
  refine (?_ : fs_J X p l e (fs_rm 0 0 σ σF) s m _ below meth c (fs_Q X below _ s (fs_eI r) σ σF) r σ σF (f_Row_has a0 x1) (F0 m 0 ls [])) σ s.heap [] 0 0 h hw0 va_S.rf rfl rfl
  clear h hw0
  unfold f_Row_has
  refine fs_lift (fun _ _ _ _ => lv_aload_n hx hb d_Row_has_0 rfl (lv_at hl 0 rfl)) ?_
  refine fs_Jgr S hG fs_in11 rfl 1 (Nat.le_of_ble_eq_true rfl) tw_5_31 (fun _ h9 => h9) d_Row_has_1 (fun r1 => ?_)
  refine fs_lift (fun _ _ _ _ => lv_iload_n hx hb d_Row_has_4 rfl (lv_at hl 1 rfl)) ?_
  refine fs_Jaj S hG d_Row_has_5 (fun v2 => ?_)
  refine fs_lift (fun _ _ _ _ => lv_ldc2 hx hb S.2.2.2.1 (S.2.2.2.2 _ tw_5_24) d_Row_has_6) ?_
  refine fs_lift (fun _ _ _ _ => W.lcmp hx hb d_Row_has_9) ?_
  refine fs_if (fun _ _ _ _ => lv_if_eq hx hb d_Row_has_10 rfl) ?_ ?_
  · refine fs_lift (fun _ _ _ _ => lv_iconst (v := 0) hx hb d_Row_has_17 (by decide)) ?_
    exact fs_Jzret S hr hk rfl d_Row_has_18
  · refine fs_lift (fun _ _ _ _ => lv_iconst (v := 1) hx hb d_Row_has_13 (by decide)) ?_
    refine fs_lift (fun _ _ _ _ => lv_goto hx hb d_Row_has_14 rfl) ?_
    exact fs_Jzret S hr hk rfl d_Row_has_18

theorem d_Table_sumOf_0 : decode prog_11_method_4_code 0 = .ok (.lconst 0, 1) := by decide +kernel
theorem d_Table_sumOf_1 : decode prog_11_method_4_code 1 = .ok (.lstore 6, 2) := by decide +kernel
theorem d_Table_sumOf_3 : decode prog_11_method_4_code 3 = .ok (.iconst 0, 1) := by decide +kernel
theorem d_Table_sumOf_4 : decode prog_11_method_4_code 4 = .ok (.istore 8, 2) := by decide +kernel
theorem d_Table_sumOf_6 : decode prog_11_method_4_code 6 = .ok (.iload 8, 2) := by decide +kernel
theorem d_Table_sumOf_8 : decode prog_11_method_4_code 8 = .ok (.aload_n 0, 1) := by decide +kernel
theorem d_Table_sumOf_9 : decode prog_11_method_4_code 9 = .ok (.getfield 12, 3) := by decide +kernel
theorem d_Table_sumOf_12 : decode prog_11_method_4_code 12 = .ok (.invokevirtual 25, 3) := by decide +kernel
theorem d_Table_sumOf_15 : decode prog_11_method_4_code 15 = .ok (.if_icmp .ge 76, 3) := by decide +kernel
theorem d_Table_sumOf_18 : decode prog_11_method_4_code 18 = .ok (.aload_n 0, 1) := by decide +kernel
theorem d_Table_sumOf_19 : decode prog_11_method_4_code 19 = .ok (.getfield 12, 3) := by decide +kernel
theorem d_Table_sumOf_22 : decode prog_11_method_4_code 22 = .ok (.iload 8, 2) := by decide +kernel
theorem d_Table_sumOf_24 : decode prog_11_method_4_code 24 = .ok (.invokevirtual 37, 3) := by decide +kernel
theorem d_Table_sumOf_27 : decode prog_11_method_4_code 27 = .ok (.checkcast 41, 3) := by decide +kernel
theorem d_Table_sumOf_30 : decode prog_11_method_4_code 30 = .ok (.astore 9, 2) := by decide +kernel
theorem d_Table_sumOf_32 : decode prog_11_method_4_code 32 = .ok (.aload 9, 2) := by decide +kernel
theorem d_Table_sumOf_34 : decode prog_11_method_4_code 34 = .ok (.getfield 43, 3) := by decide +kernel
theorem d_Table_sumOf_37 : decode prog_11_method_4_code 37 = .ok (.iload_n 1, 1) := by decide +kernel
theorem d_Table_sumOf_38 : decode prog_11_method_4_code 38 = .ok (.if_icmp .ne 47, 3) := by decide +kernel
theorem d_Table_sumOf_41 : decode prog_11_method_4_code 41 = .ok (.aload 9, 2) := by decide +kernel
theorem d_Table_sumOf_43 : decode prog_11_method_4_code 43 = .ok (.iload_n 2, 1) := by decide +kernel
theorem d_Table_sumOf_44 : decode prog_11_method_4_code 44 = .ok (.invokevirtual 47, 3) := by decide +kernel
theorem d_Table_sumOf_47 : decode prog_11_method_4_code 47 = .ok (.ifCond .eq 38, 3) := by decide +kernel
theorem d_Table_sumOf_50 : decode prog_11_method_4_code 50 = .ok (.aload 9, 2) := by decide +kernel
theorem d_Table_sumOf_52 : decode prog_11_method_4_code 52 = .ok (.getfield 50, 3) := by decide +kernel
theorem d_Table_sumOf_55 : decode prog_11_method_4_code 55 = .ok (.iload_n 2, 1) := by decide +kernel
theorem d_Table_sumOf_56 : decode prog_11_method_4_code 56 = .ok (.laload, 1) := by decide +kernel
theorem d_Table_sumOf_57 : decode prog_11_method_4_code 57 = .ok (.lload_n 3, 1) := by decide +kernel
theorem d_Table_sumOf_58 : decode prog_11_method_4_code 58 = .ok (.lcmp, 1) := by decide +kernel
theorem d_Table_sumOf_59 : decode prog_11_method_4_code 59 = .ok (.ifCond .ne 26, 3) := by decide +kernel
theorem d_Table_sumOf_62 : decode prog_11_method_4_code 62 = .ok (.aload 9, 2) := by decide +kernel
theorem d_Table_sumOf_64 : decode prog_11_method_4_code 64 = .ok (.iload 5, 2) := by decide +kernel
theorem d_Table_sumOf_66 : decode prog_11_method_4_code 66 = .ok (.invokevirtual 47, 3) := by decide +kernel
theorem d_Table_sumOf_69 : decode prog_11_method_4_code 69 = .ok (.ifCond .eq 16, 3) := by decide +kernel
theorem d_Table_sumOf_72 : decode prog_11_method_4_code 72 = .ok (.lload 6, 2) := by decide +kernel
theorem d_Table_sumOf_74 : decode prog_11_method_4_code 74 = .ok (.aload 9, 2) := by decide +kernel
theorem d_Table_sumOf_76 : decode prog_11_method_4_code 76 = .ok (.getfield 50, 3) := by decide +kernel
theorem d_Table_sumOf_79 : decode prog_11_method_4_code 79 = .ok (.iload 5, 2) := by decide +kernel
theorem d_Table_sumOf_81 : decode prog_11_method_4_code 81 = .ok (.laload, 1) := by decide +kernel
theorem d_Table_sumOf_82 : decode prog_11_method_4_code 82 = .ok (.ladd, 1) := by decide +kernel
theorem d_Table_sumOf_83 : decode prog_11_method_4_code 83 = .ok (.lstore 6, 2) := by decide +kernel
theorem d_Table_sumOf_85 : decode prog_11_method_4_code 85 = .ok (.iinc 8 1, 3) := by decide +kernel
theorem d_Table_sumOf_88 : decode prog_11_method_4_code 88 = .ok (.goto (-82), 3) := by decide +kernel
theorem d_Table_sumOf_91 : decode prog_11_method_4_code 91 = .ok (.lload 6, 2) := by decide +kernel
theorem d_Table_sumOf_93 : decode prog_11_method_4_code 93 = .ok (.lreturn, 1) := by decide +kernel
theorem q_Table_sumOf : (⟨"FlowShelf$Table", "sumOf", "(IIJI)J"⟩ : MethodName).cls ≠ "java/lang/invoke/MethodHandle" ∧ (⟨"FlowShelf$Table", "sumOf", "(IIJI)J"⟩ : MethodName).cls ≠ "java/lang/invoke/VarHandle" ∧ (parseMethodDescriptor (⟨"FlowShelf$Table", "sumOf", "(IIJI)J"⟩ : MethodName).desc).map (fun d => d.parameters.length) = some 4 := by decide +kernel
set_option maxHeartbeats 4000000 in
set_option maxRecDepth 100000 in
theorem m_Table_sumOf (X : fs_X) (l : Launch) (a0 : Nat) (x1 : Int32) (x2 : Int32) (x3 : Int64) (x4 : Int32) {r : Int64} {σ σF : fs_S} (h : (f_Table_sumOf a0 x1 x2 x3 x4).1 σ = some (r, σF)) : fs_Met X l ⟨"FlowShelf$Table", "sumOf", "(IIJI)J"⟩ (Cond.code ⟨"FlowShelf$Table", "sumOf", "(IIJI)J"⟩ prog_11_method_4_code 10 (some FieldType.long)) 3 64 [.ref a0, .int x1, .int x2, .long x3, .int x4] σ (fs_eJ r) σF := by
  refine fs_ofW (by decide) ?_
  intro p e s m args below meth c s₁ B hml hT hv
  obtain ⟨rfl, hw0, hG⟩ := hv
  have hx := B.exec
  have hb := B.bytes
  have hr := B.returns
  have hk := B.notSynchronized
  have S : CallFix p m c prog_11_method_4_code 10 s _ fs_ws "FlowShelf$Table" := ⟨B.exec, B.bytes, hml, findClass_of_methodNamed B.named, fun w hw => atoms_spec (ws := _ :: fs_ws) B.pre w (List.mem_cons_of_mem _ hw)⟩
  have hR := fs_hR (fr := 3) (lo := 64) ((f_Table_sumOf a0 x1 x2 x3 x4).2 _ _ _ h)
  have hl := lv_entry ([.ref a0, .int x1, .int x2, .long x3, .int x4]) (n := 10) (Nat.le_of_ble_eq_true rfl)
  rw [lg_entry_eq]
  generalize (lg_sl ([.ref a0, .int x1, .int x2, .long x3, .int x4]) ++ List.replicate (10 - (lg_sl ([.ref a0, .int x1, .int x2, .long x3, .int x4])).length) Slot.unset).toArray = ls at hl ⊢
  have hl : lv_has ls 10 [(0, .ref a0), (1, .int x1), (2, .int x2), (3, .long x3), (5, .int x4)] := hl
  refine (?_ : fs_J X p l e (fs_rm 3 64 σ σF) s m _ below meth c (fs_Q X below _ s (fs_eJ r) σ σF) r σ σF (f_Table_sumOf a0 x1 x2 x3 x4) (F0 m 0 ls [])) σ s.heap [] 0 0 h hw0 va_S.rf rfl rfl
  clear h hw0
  unfold f_Table_sumOf
  refine fs_lift (fun _ _ _ _ => lv_lconst (v := 0) hx hb d_Table_sumOf_0 (by decide)) ?_
  refine fs_liftL (fun _ _ _ _ => lv_lstore (lv' := [(6, .long 0), (0, .ref a0), (1, .int x1), (2, .int x2), (3, .long x3), (5, .int x4)]) hx hb d_Table_sumOf_1 hl (Nat.le_of_ble_eq_true rfl) rfl) (fun ls hl => ?_)
  refine fs_lift (fun _ _ _ _ => lv_iconst (v := 0) hx hb d_Table_sumOf_3 (by decide)) ?_
  refine fs_liftL (fun _ _ _ _ => lv_istore (lv' := [(8, .int 0), (6, .long 0), (0, .ref a0), (1, .int x1), (2, .int x2), (3, .long x3), (5, .int x4)]) hx hb d_Table_sumOf_4 hl (Nat.le_of_ble_eq_true rfl) rfl) (fun ls hl => ?_)
  refine fs_Jlp2 (nL := 10) (pc := 6) (rest := []) (I := fun (v1 : Int64) (v2 : Int32) => [(0, .ref a0), (1, .int x1), (2, .int x2), (3, .long x3), (5, .int x4), (6, .long v1), (8, .int v2)]) (fun k6 hk6 v1 v2 ls hl => ?_) _ _ _ _ (lv_sub hl [2, 3, 4, 5, 6, 1, 0] rfl)
  refine fs_lift (fun _ _ _ _ => lv_iload hx hb d_Table_sumOf_6 (lv_at hl 6 rfl)) ?_
  refine fs_lift (fun _ _ _ _ => lv_aload_n hx hb d_Table_sumOf_8 rfl (lv_at hl 0 rfl)) ?_
  refine fs_Jgr S hG fs_in6 rfl 0 (Nat.le_of_ble_eq_true rfl) tw_1_183 (fun _ h9 => h9) d_Table_sumOf_9 (fun r3 => ?_)
  refine fs_JV S hG hR rfl [] (enc := fun r => some (.int r)) (fun zr zs zt zh => m_ArrayList_size X l r3 zh) tw_4_193 tw_2_29 tw_2_30 tw_2_31 tw_1_5 q_ArrayList_size ⟨(Nat.le_of_ble_eq_true rfl), (Nat.le_of_ble_eq_true rfl)⟩ hl.1 rfl (Nat.le_of_ble_eq_true rfl) d_Table_sumOf_12 (fun v4 => ?_)
  refine fs_Jeq (g2 := F0 m 15 ls [.int v4, .int v2]) rfl ?_
  refine fs_if (fun _ _ _ _ => lv_icmp_ge hx hb d_Table_sumOf_15 rfl) ?_ ?_
  · refine fs_lift (fun _ _ _ _ => lv_lload hx hb d_Table_sumOf_91 (lv_at hl 5 rfl)) ?_
    exact fs_Jlret S hr hk rfl d_Table_sumOf_93
  · refine fs_lift (fun _ _ _ _ => lv_aload_n hx hb d_Table_sumOf_18 rfl (lv_at hl 0 rfl)) ?_
    refine fs_Jgr S hG fs_in6 rfl 0 (Nat.le_of_ble_eq_true rfl) tw_1_183 (fun _ h9 => h9) d_Table_sumOf_19 (fun r5 => ?_)
    refine fs_lift (fun _ _ _ _ => lv_iload hx hb d_Table_sumOf_22 (lv_at hl 6 rfl)) ?_
    refine fs_JV S hG hR rfl [.int v2] (enc := fun r => some (.ref r)) (fun zr zs zt zh => m_ArrayList_get X l r5 v2 zh) tw_5_114 tw_2_33 tw_2_34 tw_2_35 tw_1_5 q_ArrayList_get ⟨(Nat.le_of_ble_eq_true rfl), (Nat.le_of_ble_eq_true rfl)⟩ hl.1 rfl (Nat.le_of_ble_eq_true rfl) d_Table_sumOf_24 (fun r6 => ?_)
    refine fs_Jeq (g2 := F0 m 27 ls [.ref r6]) rfl ?_
    refine fs_Jck S hG rfl tw_5_115 tb_7_83 d_Table_sumOf_27 ?_
    refine fs_liftL (fun _ _ _ _ => lv_astore (lv' := [(9, .ref r6), (0, .ref a0), (1, .int x1), (2, .int x2), (3, .long x3), (5, .int x4), (6, .long v1), (8, .int v2)]) hx hb d_Table_sumOf_30 hl (Nat.le_of_ble_eq_true rfl) rfl) (fun ls hl => ?_)
    refine fs_lift (fun _ _ _ _ => lv_aload hx hb d_Table_sumOf_32 (lv_at hl 0 rfl)) ?_
    refine fs_Jgi S hG fs_in11 rfl 0 (Nat.le_of_ble_eq_true rfl) tw_5_29 (fun _ h9 => h9) d_Table_sumOf_34 (fun v7 => ?_)
    refine fs_lift (fun _ _ _ _ => lv_iload_n hx hb d_Table_sumOf_37 rfl (lv_at hl 2 rfl)) ?_
    refine fs_Jlet1 (nL := 10) (pj := 85) (I := fun (v15 : Int64) => [(0, .ref a0), (1, .int x1), (2, .int x2), (3, .long x3), (5, .int x4), (6, .long v15), (8, .int v2)]) (st := fun (v15 : Int64) => []) (fun v15 ls hl => ?_) (fun j85 hj85 => ?_)
    · refine fs_Jnm (fun v16 hv9 => ?_)
      refine fs_liftL (fun _ _ _ _ => lv_iinc (k := 6) (v := v16) (lv' := [(8, .int v16), (0, .ref a0), (1, .int x1), (2, .int x2), (3, .long x3), (5, .int x4), (6, .long v15)]) hx hb d_Table_sumOf_85 hl rfl (by rw [hv9]; rfl) (Nat.le_of_ble_eq_true rfl) rfl) (fun ls hl => ?_)
      refine fs_lift (fun _ _ _ _ => lv_goto hx hb d_Table_sumOf_88 rfl) ?_
      exact hk6 v15 v16 ls (lv_sub hl [1, 2, 3, 4, 5, 6, 0] rfl)
    · refine fs_ifn (fun _ _ _ _ => lv_icmp_ne hx hb d_Table_sumOf_38 rfl) ?_ ?_
      · refine fs_lift (fun _ _ _ _ => lv_aload hx hb d_Table_sumOf_41 (lv_at hl 0 rfl)) ?_
        refine fs_lift (fun _ _ _ _ => lv_iload_n hx hb d_Table_sumOf_43 rfl (lv_at hl 3 rfl)) ?_
        refine fs_JV S hG hR rfl [.int x2] (enc := fun r => some (.int r)) (fun zr zs zt zh => m_Row_has X l r6 x2 zh) tw_5_116 tw_5_117 tw_5_118 tw_5_119 tw_1_28 q_Row_has ⟨(Nat.le_of_ble_eq_true rfl), (Nat.le_of_ble_eq_true rfl)⟩ hl.1 rfl (Nat.le_of_ble_eq_true rfl) d_Table_sumOf_44 (fun v8 => ?_)
        refine fs_Jeq (g2 := F0 m 47 ls [.int v8]) rfl ?_
        refine fs_if (fun _ _ _ _ => lv_if_eq hx hb d_Table_sumOf_47 rfl) ?_ ?_
        · exact hj85 v1 ls (lv_sub hl [1, 2, 3, 4, 5, 6, 7] rfl)
        · refine fs_lift (fun _ _ _ _ => lv_aload hx hb d_Table_sumOf_50 (lv_at hl 0 rfl)) ?_
          refine fs_Jgr S hG fs_in11 rfl 1 (Nat.le_of_ble_eq_true rfl) tw_5_32 (fun _ h9 => h9) d_Table_sumOf_52 (fun r9 => ?_)
          refine fs_lift (fun _ _ _ _ => lv_iload_n hx hb d_Table_sumOf_55 rfl (lv_at hl 3 rfl)) ?_
          refine fs_Jaj S hG d_Table_sumOf_56 (fun v10 => ?_)
          refine fs_lift (fun _ _ _ _ => lv_lload_n hx hb d_Table_sumOf_57 rfl (lv_at hl 4 rfl)) ?_
          refine fs_lift (fun _ _ _ _ => W.lcmp hx hb d_Table_sumOf_58) ?_
          refine fs_ifn (fun _ _ _ _ => lv_if_ne hx hb d_Table_sumOf_59 rfl) ?_ ?_
          · refine fs_lift (fun _ _ _ _ => lv_aload hx hb d_Table_sumOf_62 (lv_at hl 0 rfl)) ?_
            refine fs_lift (fun _ _ _ _ => lv_iload hx hb d_Table_sumOf_64 (lv_at hl 5 rfl)) ?_
            refine fs_JV S hG hR rfl [.int x4] (enc := fun r => some (.int r)) (fun zr zs zt zh => m_Row_has X l r6 x4 zh) tw_5_116 tw_5_117 tw_5_118 tw_5_119 tw_1_28 q_Row_has ⟨(Nat.le_of_ble_eq_true rfl), (Nat.le_of_ble_eq_true rfl)⟩ hl.1 rfl (Nat.le_of_ble_eq_true rfl) d_Table_sumOf_66 (fun v11 => ?_)
            refine fs_Jeq (g2 := F0 m 69 ls [.int v11]) rfl ?_
            refine fs_if (fun _ _ _ _ => lv_if_eq hx hb d_Table_sumOf_69 rfl) ?_ ?_
            · exact hj85 v1 ls (lv_sub hl [1, 2, 3, 4, 5, 6, 7] rfl)
            · refine fs_lift (fun _ _ _ _ => lv_lload hx hb d_Table_sumOf_72 (lv_at hl 6 rfl)) ?_
              refine fs_lift (fun _ _ _ _ => lv_aload hx hb d_Table_sumOf_74 (lv_at hl 0 rfl)) ?_
              refine fs_Jgr S hG fs_in11 rfl 1 (Nat.le_of_ble_eq_true rfl) tw_5_32 (fun _ h9 => h9) d_Table_sumOf_76 (fun r12 => ?_)
              refine fs_lift (fun _ _ _ _ => lv_iload hx hb d_Table_sumOf_79 (lv_at hl 5 rfl)) ?_
              refine fs_Jaj S hG d_Table_sumOf_81 (fun v13 => ?_)
              refine fs_lift (fun _ _ _ _ => lv_ladd hx hb d_Table_sumOf_82) ?_
              refine fs_Jnj (fun v14 => ?_)
              refine fs_liftL (fun _ _ _ _ => lv_lstore (lv' := [(6, .long v14), (9, .ref r6), (0, .ref a0), (1, .int x1), (2, .int x2), (3, .long x3), (5, .int x4), (8, .int v2)]) hx hb d_Table_sumOf_83 hl (Nat.le_of_ble_eq_true rfl) rfl) (fun ls hl => ?_)
              exact hj85 v14 ls (lv_sub hl [2, 3, 4, 5, 6, 0, 7] rfl)
          · exact hj85 v1 ls (lv_sub hl [1, 2, 3, 4, 5, 6, 7] rfl)
      · exact hj85 v1 ls (lv_sub hl [1, 2, 3, 4, 5, 6, 7] rfl)

theorem d_Fs_total_0 : decode prog_1_method_20_code 0 = .ok (.iload_n 1, 1) := by decide +kernel
theorem d_Fs_total_1 : decode prog_1_method_20_code 1 = .ok (.invokestatic 269, 3) := by decide +kernel
theorem d_Fs_total_4 : decode prog_1_method_20_code 4 = .ok (.ifCond .ne 14, 3) := by decide +kernel
theorem d_Fs_total_7 : decode prog_1_method_20_code 7 = .ok (.new 43, 3) := by decide +kernel
theorem d_Fs_total_10 : decode prog_1_method_20_code 10 = .ok (.dup, 1) := by decide +kernel
theorem d_Fs_total_11 : decode prog_1_method_20_code 11 = .ok (.ldc_w 272, 3) := by decide +kernel
theorem d_Fs_total_14 : decode prog_1_method_20_code 14 = .ok (.invokespecial 47, 3) := by decide +kernel
theorem d_Fs_total_17 : decode prog_1_method_20_code 17 = .ok (.athrow, 1) := by decide +kernel
theorem d_Fs_total_18 : decode prog_1_method_20_code 18 = .ok (.iload_n 2, 1) := by decide +kernel
theorem d_Fs_total_19 : decode prog_1_method_20_code 19 = .ok (.invokestatic 82, 3) := by decide +kernel
theorem d_Fs_total_22 : decode prog_1_method_20_code 22 = .ok (.iload 5, 2) := by decide +kernel
theorem d_Fs_total_24 : decode prog_1_method_20_code 24 = .ok (.invokestatic 82, 3) := by decide +kernel
theorem d_Fs_total_27 : decode prog_1_method_20_code 27 = .ok (.aload_n 0, 1) := by decide +kernel
theorem d_Fs_total_28 : decode prog_1_method_20_code 28 = .ok (.getfield 31, 3) := by decide +kernel
theorem d_Fs_total_31 : decode prog_1_method_20_code 31 = .ok (.getfield 247, 3) := by decide +kernel
theorem d_Fs_total_34 : decode prog_1_method_20_code 34 = .ok (.iload_n 1, 1) := by decide +kernel
theorem d_Fs_total_35 : decode prog_1_method_20_code 35 = .ok (.iload_n 2, 1) := by decide +kernel
theorem d_Fs_total_36 : decode prog_1_method_20_code 36 = .ok (.lload_n 3, 1) := by decide +kernel
theorem d_Fs_total_37 : decode prog_1_method_20_code 37 = .ok (.iload 5, 2) := by decide +kernel
theorem d_Fs_total_39 : decode prog_1_method_20_code 39 = .ok (.invokevirtual 274, 3) := by decide +kernel
theorem d_Fs_total_42 : decode prog_1_method_20_code 42 = .ok (.lreturn, 1) := by decide +kernel
theorem q_Fs_total : (⟨"FlowShelf", "total", "(IIJI)J"⟩ : MethodName).cls ≠ "java/lang/invoke/MethodHandle" ∧ (⟨"FlowShelf", "total", "(IIJI)J"⟩ : MethodName).cls ≠ "java/lang/invoke/VarHandle" ∧ (parseMethodDescriptor (⟨"FlowShelf", "total", "(IIJI)J"⟩ : MethodName).desc).map (fun d => d.parameters.length) = some 4 := by decide +kernel
set_option maxHeartbeats 4000000 in
set_option maxRecDepth 100000 in
theorem m_Fs_total (X : fs_X) (l : Launch) (hl0 : l.stackTraces = false) (a0 : Nat) (x1 : Int32) (x2 : Int32) (x3 : Int64) (x4 : Int32) {r : (Int64 ⊕ String)} {σ σF : fs_S} (h : (f_Fs_total a0 x1 x2 x3 x4).1 σ = some (r, σF)) : fs_Met X l ⟨"FlowShelf", "total", "(IIJI)J"⟩ (Cond.code ⟨"FlowShelf", "total", "(IIJI)J"⟩ prog_1_method_20_code 6 (some FieldType.long)) 7 102 [.ref a0, .int x1, .int x2, .long x3, .int x4] σ (fs_qJ r) σF := by
  refine fs_ofW (by decide) ?_
  intro p e s m args below meth c s₁ B hml hT hv
  obtain ⟨rfl, hw0, hG⟩ := hv
  have hx := B.exec
  have hb := B.bytes
  have hr := B.returns
  have hk := B.notSynchronized
  have S : CallFix p m c prog_1_method_20_code 6 s _ fs_ws "FlowShelf" := ⟨B.exec, B.bytes, hml, findClass_of_methodNamed B.named, fun w hw => atoms_spec (ws := _ :: fs_ws) B.pre w (List.mem_cons_of_mem _ hw)⟩
  have hR := fs_hR (fr := 7) (lo := 102) ((f_Fs_total a0 x1 x2 x3 x4).2 _ _ _ h)
  have hl := lv_entry ([.ref a0, .int x1, .int x2, .long x3, .int x4]) (n := 6) (Nat.le_of_ble_eq_true rfl)
  rw [lg_entry_eq]
  generalize (lg_sl ([.ref a0, .int x1, .int x2, .long x3, .int x4]) ++ List.replicate (6 - (lg_sl ([.ref a0, .int x1, .int x2, .long x3, .int x4])).length) Slot.unset).toArray = ls at hl ⊢
  have hl : lv_has ls 6 [(0, .ref a0), (1, .int x1), (2, .int x2), (3, .long x3), (5, .int x4)] := hl
  refine (?_ : fs_J X p l e (fs_rm 7 102 σ σF) s m _ below meth c (fs_Q X below _ s (fs_qJ r) σ σF) r σ σF (f_Fs_total a0 x1 x2 x3 x4) (F0 m 0 ls [])) σ s.heap [] 0 0 h hw0 va_S.rf rfl rfl
  clear h hw0
  unfold f_Fs_total
  refine fs_lift (fun _ _ _ _ => lv_iload_n hx hb d_Fs_total_0 rfl (lv_at hl 1 rfl)) ?_
  refine fs_JS S hG hR [.int x1] (enc := fun r => some (.int r)) (fun zr zs zt zh => m_Fs_isExporter X l x1 zh) tw_2_64 tw_2_65 tw_2_66 tw_1_1 q_Fs_isExporter ⟨(Nat.le_of_ble_eq_true rfl), (Nat.le_of_ble_eq_true rfl)⟩ hl.1 rfl (Nat.le_of_ble_eq_true rfl) d_Fs_total_1 (fun v1 => ?_)
  refine fs_Jeq (g2 := F0 m 4 ls [.int v1]) rfl ?_
  refine fs_ifn (fun _ _ _ _ => lv_if_ne hx hb d_Fs_total_4 rfl) ?_ ?_
  · exact fs_Jthrow S hG hR hl0 (names := fs_nms) (len := 3) (.ldc_w 272) (Or.inr ⟨rfl, rfl⟩) (by decide) fs_fit fs_at1 tw_2_67 tw_1_15 tb_2_109 hl.1 hT hk (Nat.le_of_ble_eq_true rfl) (Nat.le_of_ble_eq_true rfl) d_Fs_total_7 d_Fs_total_10 d_Fs_total_11 d_Fs_total_14 d_Fs_total_17 rfl
  · refine fs_lift (fun _ _ _ _ => lv_iload_n hx hb d_Fs_total_18 rfl (lv_at hl 2 rfl)) ?_
    refine fs_JSx S hG hR hT hk [.int x2] (fun _ => none) (encx := fs_qV) (fun _ => rfl) (fun _ => rfl) (fun zr zs zt zh => m_Fs_requireField X l hl0 x2 zh) tw_3_108 tw_3_109 tw_3_110 tw_1_1 q_Fs_requireField ⟨(Nat.le_of_ble_eq_true rfl), (Nat.le_of_ble_eq_true rfl)⟩ hl.1 rfl (Nat.le_of_ble_eq_true rfl) d_Fs_total_19 (enc := fs_qJ) (fun _ => rfl) (fun _ => ?_)
    refine fs_Jeq (g2 := F0 m 22 ls []) rfl ?_
    refine fs_lift (fun _ _ _ _ => lv_iload hx hb d_Fs_total_22 (lv_at hl 4 rfl)) ?_
    refine fs_JSx S hG hR hT hk [.int x4] (fun _ => none) (encx := fs_qV) (fun _ => rfl) (fun _ => rfl) (fun zr zs zt zh => m_Fs_requireField X l hl0 x4 zh) tw_3_108 tw_3_109 tw_3_110 tw_1_1 q_Fs_requireField ⟨(Nat.le_of_ble_eq_true rfl), (Nat.le_of_ble_eq_true rfl)⟩ hl.1 rfl (Nat.le_of_ble_eq_true rfl) d_Fs_total_24 (enc := fs_qJ) (fun _ => rfl) (fun _ => ?_)
    refine fs_Jeq (g2 := F0 m 27 ls []) rfl ?_
    refine fs_lift (fun _ _ _ _ => lv_aload_n hx hb d_Fs_total_27 rfl (lv_at hl 0 rfl)) ?_
    refine fs_Jgr S hG fs_in0 rfl 3 (Nat.le_of_ble_eq_true rfl) tw_2_10 (fun _ h9 => h9) d_Fs_total_28 (fun r2 => ?_)
    refine fs_Jgr S hG fs_in5 rfl 2 (Nat.le_of_ble_eq_true rfl) tw_1_233 (fun _ h9 => h9) d_Fs_total_31 (fun r3 => ?_)
    refine fs_lift (fun _ _ _ _ => lv_iload_n hx hb d_Fs_total_34 rfl (lv_at hl 1 rfl)) ?_
    refine fs_lift (fun _ _ _ _ => lv_iload_n hx hb d_Fs_total_35 rfl (lv_at hl 2 rfl)) ?_
    refine fs_lift (fun _ _ _ _ => lv_lload_n hx hb d_Fs_total_36 rfl (lv_at hl 3 rfl)) ?_
    refine fs_lift (fun _ _ _ _ => lv_iload hx hb d_Fs_total_37 (lv_at hl 4 rfl)) ?_
    refine fs_JV S hG hR rfl [.int x1, .int x2, .long x3, .int x4] (enc := fun r => some (.long r)) (fun zr zs zt zh => m_Table_sumOf X l r3 x1 x2 x3 x4 zh) tw_5_110 tw_5_111 tw_5_112 tw_5_113 tw_1_9 q_Table_sumOf ⟨(Nat.le_of_ble_eq_true rfl), (Nat.le_of_ble_eq_true rfl)⟩ hl.1 rfl (Nat.le_of_ble_eq_true rfl) d_Fs_total_39 (fun v4 => ?_)
    refine fs_Jeq (g2 := F0 m 42 ls [.long v4]) rfl ?_
    exact fs_Jlret S hr hk rfl d_Fs_total_42

theorem d_Arrays_fill_1_0 : decode prog_30_method_103_code 0 = .ok (.iconst 0, 1) := by decide +kernel
theorem d_Arrays_fill_1_1 : decode prog_30_method_103_code 1 = .ok (.istore_n 2, 1) := by decide +kernel
theorem d_Arrays_fill_1_2 : decode prog_30_method_103_code 2 = .ok (.aload_n 0, 1) := by decide +kernel
theorem d_Arrays_fill_1_3 : decode prog_30_method_103_code 3 = .ok (.arraylength, 1) := by decide +kernel
theorem d_Arrays_fill_1_4 : decode prog_30_method_103_code 4 = .ok (.istore_n 3, 1) := by decide +kernel
theorem d_Arrays_fill_1_5 : decode prog_30_method_103_code 5 = .ok (.iload_n 2, 1) := by decide +kernel
theorem d_Arrays_fill_1_6 : decode prog_30_method_103_code 6 = .ok (.iload_n 3, 1) := by decide +kernel
theorem d_Arrays_fill_1_7 : decode prog_30_method_103_code 7 = .ok (.if_icmp .ge 13, 3) := by decide +kernel
theorem d_Arrays_fill_1_10 : decode prog_30_method_103_code 10 = .ok (.aload_n 0, 1) := by decide +kernel
theorem d_Arrays_fill_1_11 : decode prog_30_method_103_code 11 = .ok (.iload_n 2, 1) := by decide +kernel
theorem d_Arrays_fill_1_12 : decode prog_30_method_103_code 12 = .ok (.iload_n 1, 1) := by decide +kernel
theorem d_Arrays_fill_1_13 : decode prog_30_method_103_code 13 = .ok (.iastore, 1) := by decide +kernel
theorem d_Arrays_fill_1_14 : decode prog_30_method_103_code 14 = .ok (.iinc 2 1, 3) := by decide +kernel
theorem d_Arrays_fill_1_17 : decode prog_30_method_103_code 17 = .ok (.goto (-12), 3) := by decide +kernel
theorem d_Arrays_fill_1_20 : decode prog_30_method_103_code 20 = .ok (.return_, 1) := by decide +kernel
theorem q_Arrays_fill_1 : (⟨"java/util/Arrays", "fill", "([II)V"⟩ : MethodName).cls ≠ "java/lang/invoke/MethodHandle" ∧ (⟨"java/util/Arrays", "fill", "([II)V"⟩ : MethodName).cls ≠ "java/lang/invoke/VarHandle" ∧ (parseMethodDescriptor (⟨"java/util/Arrays", "fill", "([II)V"⟩ : MethodName).desc).map (fun d => d.parameters.length) = some 2 := by decide +kernel
set_option maxHeartbeats 4000000 in
set_option maxRecDepth 100000 in
theorem m_Arrays_fill_1 (X : fs_X) (l : Launch) (a0 : Nat) (x1 : Int32) {r : Unit} {σ σF : fs_S} (h : (f_Arrays_fill_1 a0 x1).1 σ = some (r, σF)) : fs_Met X l ⟨"java/util/Arrays", "fill", "([II)V"⟩ (Cond.code ⟨"java/util/Arrays", "fill", "([II)V"⟩ prog_30_method_103_code 4 none) 0 0 [.ref a0, .int x1] σ (fs_eV r) σF := by
  refine fs_ofW (by decide) ?_
  intro p e s m args below meth c s₁ B hml hT hv
  obtain ⟨rfl, hw0, hG⟩ := hv
  have hx := B.exec
  have hb := B.bytes
  have hr := B.returns
  have hk := B.notSynchronized
  have S : CallFix p m c prog_30_method_103_code 4 s _ fs_ws "java/util/Arrays" := ⟨B.exec, B.bytes, hml, findClass_of_methodNamed B.named, fun w hw => atoms_spec (ws := _ :: fs_ws) B.pre w (List.mem_cons_of_mem _ hw)⟩
  have hR := fs_hR (fr := 0) (lo := 0) ((f_Arrays_fill_1 a0 x1).2 _ _ _ h)
  have hl := lv_entry ([.ref a0, .int x1]) (n := 4) (Nat.le_of_ble_eq_true rfl)
  rw [lg_entry_eq]
  generalize (lg_sl ([.ref a0, .int x1]) ++ List.replicate (4 - (lg_sl ([.ref a0, .int x1])).length) Slot.unset).toArray = ls at hl ⊢
  have hl : lv_has ls 4 [(0, .ref a0), (1, .int x1)] := hl
  refine (?_ : fs_J X p l e (fs_rm 0 0 σ σF) s m _ below meth c (fs_Q X below _ s (fs_eV r) σ σF) r σ σF (f_Arrays_fill_1 a0 x1) (F0 m 0 ls [])) σ s.heap [] 0 0 h hw0 va_S.rf rfl rfl
  clear h hw0
  unfold f_Arrays_fill_1
  refine fs_lift (fun _ _ _ _ => lv_iconst (v := 0) hx hb d_Arrays_fill_1_0 (by decide)) ?_
  refine fs_liftL (fun _ _ _ _ => lv_istore_n (lv' := [(2, .int 0), (0, .ref a0), (1, .int x1)]) hx hb d_Arrays_fill_1_1 rfl hl (Nat.le_of_ble_eq_true rfl) rfl) (fun ls hl => ?_)
  refine fs_lift (fun _ _ _ _ => lv_aload_n hx hb d_Arrays_fill_1_2 rfl (lv_at hl 1 rfl)) ?_
  refine fs_Jal S hG d_Arrays_fill_1_3 (fun v1 => ?_)
  refine fs_liftL (fun _ _ _ _ => lv_istore_n (lv' := [(3, .int v1), (2, .int 0), (0, .ref a0), (1, .int x1)]) hx hb d_Arrays_fill_1_4 rfl hl (Nat.le_of_ble_eq_true rfl) rfl) (fun ls hl => ?_)
  refine fs_Jlp1 (nL := 4) (pc := 5) (rest := []) (I := fun (v2 : Int32) => [(0, .ref a0), (1, .int x1), (2, .int v2), (3, .int v1)]) (fun k5 hk5 v2 ls hl => ?_) _ _ _ (lv_sub hl [2, 3, 1, 0] rfl)
  refine fs_lift (fun _ _ _ _ => lv_iload_n hx hb d_Arrays_fill_1_5 rfl (lv_at hl 2 rfl)) ?_
  refine fs_lift (fun _ _ _ _ => lv_iload_n hx hb d_Arrays_fill_1_6 rfl (lv_at hl 3 rfl)) ?_
  refine fs_if (fun _ _ _ _ => lv_icmp_ge hx hb d_Arrays_fill_1_7 rfl) ?_ ?_
  · exact fs_Jvret S hr hk rfl d_Arrays_fill_1_20
  · refine fs_lift (fun _ _ _ _ => lv_aload_n hx hb d_Arrays_fill_1_10 rfl (lv_at hl 0 rfl)) ?_
    refine fs_lift (fun _ _ _ _ => lv_iload_n hx hb d_Arrays_fill_1_11 rfl (lv_at hl 2 rfl)) ?_
    refine fs_lift (fun _ _ _ _ => lv_iload_n hx hb d_Arrays_fill_1_12 rfl (lv_at hl 1 rfl)) ?_
    refine fs_Jsi S hG d_Arrays_fill_1_13 ?_
    refine fs_Jnm (fun v3 hv9 => ?_)
    refine fs_liftL (fun _ _ _ _ => lv_iinc (k := 2) (v := v3) (lv' := [(2, .int v3), (0, .ref a0), (1, .int x1), (3, .int v1)]) hx hb d_Arrays_fill_1_14 hl rfl (by rw [hv9]; rfl) (Nat.le_of_ble_eq_true rfl) rfl) (fun ls hl => ?_)
    refine fs_lift (fun _ _ _ _ => lv_goto hx hb d_Arrays_fill_1_17 rfl) ?_
    exact hk5 v3 ls (lv_sub hl [1, 2, 0, 3] rfl)

theorem d_Row_canBePaired_0 : decode prog_9_method_3_code 0 = .ok (.aload_n 0, 1) := by decide +kernel
theorem d_Row_canBePaired_1 : decode prog_9_method_3_code 1 = .ok (.iconst 0, 1) := by decide +kernel
theorem d_Row_canBePaired_2 : decode prog_9_method_3_code 2 = .ok (.invokevirtual 27, 3) := by decide +kernel
theorem d_Row_canBePaired_5 : decode prog_9_method_3_code 5 = .ok (.ifCond .eq 31, 3) := by decide +kernel
theorem d_Row_canBePaired_8 : decode prog_9_method_3_code 8 = .ok (.aload_n 0, 1) := by decide +kernel
theorem d_Row_canBePaired_9 : decode prog_9_method_3_code 9 = .ok (.iconst 1, 1) := by decide +kernel
theorem d_Row_canBePaired_10 : decode prog_9_method_3_code 10 = .ok (.invokevirtual 27, 3) := by decide +kernel
theorem d_Row_canBePaired_13 : decode prog_9_method_3_code 13 = .ok (.ifCond .eq 23, 3) := by decide +kernel
theorem d_Row_canBePaired_16 : decode prog_9_method_3_code 16 = .ok (.aload_n 0, 1) := by decide +kernel
theorem d_Row_canBePaired_17 : decode prog_9_method_3_code 17 = .ok (.iconst 2, 1) := by decide +kernel
theorem d_Row_canBePaired_18 : decode prog_9_method_3_code 18 = .ok (.invokevirtual 27, 3) := by decide +kernel
theorem d_Row_canBePaired_21 : decode prog_9_method_3_code 21 = .ok (.ifCond .eq 15, 3) := by decide +kernel
theorem d_Row_canBePaired_24 : decode prog_9_method_3_code 24 = .ok (.aload_n 0, 1) := by decide +kernel
theorem d_Row_canBePaired_25 : decode prog_9_method_3_code 25 = .ok (.iconst 5, 1) := by decide +kernel
theorem d_Row_canBePaired_26 : decode prog_9_method_3_code 26 = .ok (.invokevirtual 27, 3) := by decide +kernel
theorem d_Row_canBePaired_29 : decode prog_9_method_3_code 29 = .ok (.ifCond .eq 7, 3) := by decide +kernel
theorem d_Row_canBePaired_32 : decode prog_9_method_3_code 32 = .ok (.iconst 1, 1) := by decide +kernel
theorem d_Row_canBePaired_33 : decode prog_9_method_3_code 33 = .ok (.goto 4, 3) := by decide +kernel
theorem d_Row_canBePaired_36 : decode prog_9_method_3_code 36 = .ok (.iconst 0, 1) := by decide +kernel
theorem d_Row_canBePaired_37 : decode prog_9_method_3_code 37 = .ok (.ireturn, 1) := by decide +kernel
theorem q_Row_canBePaired : (⟨"FlowShelf$Row", "canBePaired", "()Z"⟩ : MethodName).cls ≠ "java/lang/invoke/MethodHandle" ∧ (⟨"FlowShelf$Row", "canBePaired", "()Z"⟩ : MethodName).cls ≠ "java/lang/invoke/VarHandle" ∧ (parseMethodDescriptor (⟨"FlowShelf$Row", "canBePaired", "()Z"⟩ : MethodName).desc).map (fun d => d.parameters.length) = some 0 := by decide +kernel
set_option maxHeartbeats 4000000 in
set_option maxRecDepth 100000 in
theorem m_Row_canBePaired (X : fs_X) (l : Launch) (a0 : Nat) {r : Int32} {σ σF : fs_S} (h : (f_Row_canBePaired a0).1 σ = some (r, σF)) : fs_Met X l ⟨"FlowShelf$Row", "canBePaired", "()Z"⟩ (Cond.code ⟨"FlowShelf$Row", "canBePaired", "()Z"⟩ prog_9_method_3_code 1 (some FieldType.boolean)) 1 21 [.ref a0] σ (fs_eI r) σF := by
  refine fs_ofW (by decide) ?_
  intro p e s m args below meth c s₁ B hml hT hv
  obtain ⟨rfl, hw0, hG⟩ := hv
  have hx := B.exec
  have hb := B.bytes
  have hr := B.returns
  have hk := B.notSynchronized
  have S : CallFix p m c prog_9_method_3_code 1 s _ fs_ws "FlowShelf$Row" := ⟨B.exec, B.bytes, hml, findClass_of_methodNamed B.named, fun w hw => atoms_spec (ws := _ :: fs_ws) B.pre w (List.mem_cons_of_mem _ hw)⟩
  have hR := fs_hR (fr := 1) (lo := 21) ((f_Row_canBePaired a0).2 _ _ _ h)
  have hl := lv_entry ([.ref a0]) (n := 1) (Nat.le_of_ble_eq_true rfl)
  rw [lg_entry_eq]
  generalize (lg_sl ([.ref a0]) ++ List.replicate (1 - (lg_sl ([.ref a0])).length) Slot.unset).toArray = ls at hl ⊢
  have hl : lv_has ls 1 [(0, .ref a0)] := hl
  refine (?_ : fs_J X p l e (fs_rm 1 21 σ σF) s m _ below meth c (fs_Q X below _ s (fs_eI r) σ σF) r σ σF (f_Row_canBePaired a0) (F0 m 0 ls [])) σ s.heap [] 0 0 h hw0 va_S.rf rfl rfl
  clear h hw0
  unfold f_Row_canBePaired
  refine fs_lift (fun _ _ _ _ => lv_aload_n hx hb d_Row_canBePaired_0 rfl (lv_at hl 0 rfl)) ?_
  refine fs_lift (fun _ _ _ _ => lv_iconst (v := 0) hx hb d_Row_canBePaired_1 (by decide)) ?_
  refine fs_JV S hG hR rfl [.int 0] (enc := fun r => some (.int r)) (fun zr zs zt zh => m_Row_has X l a0 0 zh) tw_5_146 tw_5_117 tw_5_118 tw_5_119 tw_1_28 q_Row_has ⟨(Nat.le_of_ble_eq_true rfl), (Nat.le_of_ble_eq_true rfl)⟩ hl.1 rfl (Nat.le_of_ble_eq_true rfl) d_Row_canBePaired_2 (fun v1 => ?_)
  refine fs_Jeq (g2 := F0 m 5 ls [.int v1]) rfl ?_
  refine fs_if (fun _ _ _ _ => lv_if_eq hx hb d_Row_canBePaired_5 rfl) ?_ ?_
  · refine fs_lift (fun _ _ _ _ => lv_iconst (v := 0) hx hb d_Row_canBePaired_36 (by decide)) ?_
    exact fs_Jzret S hr hk rfl d_Row_canBePaired_37
  · refine fs_lift (fun _ _ _ _ => lv_aload_n hx hb d_Row_canBePaired_8 rfl (lv_at hl 0 rfl)) ?_
    refine fs_lift (fun _ _ _ _ => lv_iconst (v := 1) hx hb d_Row_canBePaired_9 (by decide)) ?_
    refine fs_JV S hG hR rfl [.int 1] (enc := fun r => some (.int r)) (fun zr zs zt zh => m_Row_has X l a0 1 zh) tw_5_146 tw_5_117 tw_5_118 tw_5_119 tw_1_28 q_Row_has ⟨(Nat.le_of_ble_eq_true rfl), (Nat.le_of_ble_eq_true rfl)⟩ hl.1 rfl (Nat.le_of_ble_eq_true rfl) d_Row_canBePaired_10 (fun v2 => ?_)
    refine fs_Jeq (g2 := F0 m 13 ls [.int v2]) rfl ?_
    refine fs_if (fun _ _ _ _ => lv_if_eq hx hb d_Row_canBePaired_13 rfl) ?_ ?_
    · refine fs_lift (fun _ _ _ _ => lv_iconst (v := 0) hx hb d_Row_canBePaired_36 (by decide)) ?_
      exact fs_Jzret S hr hk rfl d_Row_canBePaired_37
    · refine fs_lift (fun _ _ _ _ => lv_aload_n hx hb d_Row_canBePaired_16 rfl (lv_at hl 0 rfl)) ?_
      refine fs_lift (fun _ _ _ _ => lv_iconst (v := 2) hx hb d_Row_canBePaired_17 (by decide)) ?_
      refine fs_JV S hG hR rfl [.int 2] (enc := fun r => some (.int r)) (fun zr zs zt zh => m_Row_has X l a0 2 zh) tw_5_146 tw_5_117 tw_5_118 tw_5_119 tw_1_28 q_Row_has ⟨(Nat.le_of_ble_eq_true rfl), (Nat.le_of_ble_eq_true rfl)⟩ hl.1 rfl (Nat.le_of_ble_eq_true rfl) d_Row_canBePaired_18 (fun v3 => ?_)
      refine fs_Jeq (g2 := F0 m 21 ls [.int v3]) rfl ?_
      refine fs_if (fun _ _ _ _ => lv_if_eq hx hb d_Row_canBePaired_21 rfl) ?_ ?_
      · refine fs_lift (fun _ _ _ _ => lv_iconst (v := 0) hx hb d_Row_canBePaired_36 (by decide)) ?_
        exact fs_Jzret S hr hk rfl d_Row_canBePaired_37
      · refine fs_lift (fun _ _ _ _ => lv_aload_n hx hb d_Row_canBePaired_24 rfl (lv_at hl 0 rfl)) ?_
        refine fs_lift (fun _ _ _ _ => lv_iconst (v := 5) hx hb d_Row_canBePaired_25 (by decide)) ?_
        refine fs_JV S hG hR rfl [.int 5] (enc := fun r => some (.int r)) (fun zr zs zt zh => m_Row_has X l a0 5 zh) tw_5_146 tw_5_117 tw_5_118 tw_5_119 tw_1_28 q_Row_has ⟨(Nat.le_of_ble_eq_true rfl), (Nat.le_of_ble_eq_true rfl)⟩ hl.1 rfl (Nat.le_of_ble_eq_true rfl) d_Row_canBePaired_26 (fun v4 => ?_)
        refine fs_Jeq (g2 := F0 m 29 ls [.int v4]) rfl ?_
        refine fs_if (fun _ _ _ _ => lv_if_eq hx hb d_Row_canBePaired_29 rfl) ?_ ?_
        · refine fs_lift (fun _ _ _ _ => lv_iconst (v := 0) hx hb d_Row_canBePaired_36 (by decide)) ?_
          exact fs_Jzret S hr hk rfl d_Row_canBePaired_37
        · refine fs_lift (fun _ _ _ _ => lv_iconst (v := 1) hx hb d_Row_canBePaired_32 (by decide)) ?_
          refine fs_lift (fun _ _ _ _ => lv_goto hx hb d_Row_canBePaired_33 rfl) ?_
          exact fs_Jzret S hr hk rfl d_Row_canBePaired_37

theorem d_Table_insertInOrder_0 : decode prog_11_method_8_code 0 = .ok (.aload_n 0, 1) := by decide +kernel
theorem d_Table_insertInOrder_1 : decode prog_11_method_8_code 1 = .ok (.getfield 69, 3) := by decide +kernel
theorem d_Table_insertInOrder_4 : decode prog_11_method_8_code 4 = .ok (.istore_n 2, 1) := by decide +kernel
theorem d_Table_insertInOrder_5 : decode prog_11_method_8_code 5 = .ok (.iload_n 2, 1) := by decide +kernel
theorem d_Table_insertInOrder_6 : decode prog_11_method_8_code 6 = .ok (.ifCond .le 66, 3) := by decide +kernel
theorem d_Table_insertInOrder_9 : decode prog_11_method_8_code 9 = .ok (.aload_n 0, 1) := by decide +kernel
theorem d_Table_insertInOrder_10 : decode prog_11_method_8_code 10 = .ok (.getfield 12, 3) := by decide +kernel
theorem d_Table_insertInOrder_13 : decode prog_11_method_8_code 13 = .ok (.aload_n 0, 1) := by decide +kernel
theorem d_Table_insertInOrder_14 : decode prog_11_method_8_code 14 = .ok (.getfield 22, 3) := by decide +kernel
theorem d_Table_insertInOrder_17 : decode prog_11_method_8_code 17 = .ok (.iload_n 2, 1) := by decide +kernel
theorem d_Table_insertInOrder_18 : decode prog_11_method_8_code 18 = .ok (.iconst 1, 1) := by decide +kernel
theorem d_Table_insertInOrder_19 : decode prog_11_method_8_code 19 = .ok (.isub, 1) := by decide +kernel
theorem d_Table_insertInOrder_20 : decode prog_11_method_8_code 20 = .ok (.iaload, 1) := by decide +kernel
theorem d_Table_insertInOrder_21 : decode prog_11_method_8_code 21 = .ok (.invokevirtual 37, 3) := by decide +kernel
theorem d_Table_insertInOrder_24 : decode prog_11_method_8_code 24 = .ok (.checkcast 41, 3) := by decide +kernel
theorem d_Table_insertInOrder_27 : decode prog_11_method_8_code 27 = .ok (.getfield 50, 3) := by decide +kernel
theorem d_Table_insertInOrder_30 : decode prog_11_method_8_code 30 = .ok (.iconst 5, 1) := by decide +kernel
theorem d_Table_insertInOrder_31 : decode prog_11_method_8_code 31 = .ok (.laload, 1) := by decide +kernel
theorem d_Table_insertInOrder_32 : decode prog_11_method_8_code 32 = .ok (.aload_n 0, 1) := by decide +kernel
theorem d_Table_insertInOrder_33 : decode prog_11_method_8_code 33 = .ok (.getfield 12, 3) := by decide +kernel
theorem d_Table_insertInOrder_36 : decode prog_11_method_8_code 36 = .ok (.iload_n 1, 1) := by decide +kernel
theorem d_Table_insertInOrder_37 : decode prog_11_method_8_code 37 = .ok (.invokevirtual 37, 3) := by decide +kernel
theorem d_Table_insertInOrder_40 : decode prog_11_method_8_code 40 = .ok (.checkcast 41, 3) := by decide +kernel
theorem d_Table_insertInOrder_43 : decode prog_11_method_8_code 43 = .ok (.getfield 50, 3) := by decide +kernel
theorem d_Table_insertInOrder_46 : decode prog_11_method_8_code 46 = .ok (.iconst 5, 1) := by decide +kernel
theorem d_Table_insertInOrder_47 : decode prog_11_method_8_code 47 = .ok (.laload, 1) := by decide +kernel
theorem d_Table_insertInOrder_48 : decode prog_11_method_8_code 48 = .ok (.lcmp, 1) := by decide +kernel
theorem d_Table_insertInOrder_49 : decode prog_11_method_8_code 49 = .ok (.ifCond .le 23, 3) := by decide +kernel
theorem d_Table_insertInOrder_52 : decode prog_11_method_8_code 52 = .ok (.aload_n 0, 1) := by decide +kernel
theorem d_Table_insertInOrder_53 : decode prog_11_method_8_code 53 = .ok (.getfield 22, 3) := by decide +kernel
theorem d_Table_insertInOrder_56 : decode prog_11_method_8_code 56 = .ok (.iload_n 2, 1) := by decide +kernel
theorem d_Table_insertInOrder_57 : decode prog_11_method_8_code 57 = .ok (.aload_n 0, 1) := by decide +kernel
theorem d_Table_insertInOrder_58 : decode prog_11_method_8_code 58 = .ok (.getfield 22, 3) := by decide +kernel
theorem d_Table_insertInOrder_61 : decode prog_11_method_8_code 61 = .ok (.iload_n 2, 1) := by decide +kernel
theorem d_Table_insertInOrder_62 : decode prog_11_method_8_code 62 = .ok (.iconst 1, 1) := by decide +kernel
theorem d_Table_insertInOrder_63 : decode prog_11_method_8_code 63 = .ok (.isub, 1) := by decide +kernel
theorem d_Table_insertInOrder_64 : decode prog_11_method_8_code 64 = .ok (.iaload, 1) := by decide +kernel
theorem d_Table_insertInOrder_65 : decode prog_11_method_8_code 65 = .ok (.iastore, 1) := by decide +kernel
theorem d_Table_insertInOrder_66 : decode prog_11_method_8_code 66 = .ok (.iinc 2 (-1), 3) := by decide +kernel
theorem d_Table_insertInOrder_69 : decode prog_11_method_8_code 69 = .ok (.goto (-64), 3) := by decide +kernel
theorem d_Table_insertInOrder_72 : decode prog_11_method_8_code 72 = .ok (.aload_n 0, 1) := by decide +kernel
theorem d_Table_insertInOrder_73 : decode prog_11_method_8_code 73 = .ok (.getfield 22, 3) := by decide +kernel
theorem d_Table_insertInOrder_76 : decode prog_11_method_8_code 76 = .ok (.iload_n 2, 1) := by decide +kernel
theorem d_Table_insertInOrder_77 : decode prog_11_method_8_code 77 = .ok (.iload_n 1, 1) := by decide +kernel
theorem d_Table_insertInOrder_78 : decode prog_11_method_8_code 78 = .ok (.iastore, 1) := by decide +kernel
theorem d_Table_insertInOrder_79 : decode prog_11_method_8_code 79 = .ok (.aload_n 0, 1) := by decide +kernel
theorem d_Table_insertInOrder_80 : decode prog_11_method_8_code 80 = .ok (.dup, 1) := by decide +kernel
theorem d_Table_insertInOrder_81 : decode prog_11_method_8_code 81 = .ok (.getfield 69, 3) := by decide +kernel
theorem d_Table_insertInOrder_84 : decode prog_11_method_8_code 84 = .ok (.iconst 1, 1) := by decide +kernel
theorem d_Table_insertInOrder_85 : decode prog_11_method_8_code 85 = .ok (.iadd, 1) := by decide +kernel
theorem d_Table_insertInOrder_86 : decode prog_11_method_8_code 86 = .ok (.putfield 69, 3) := by decide +kernel
theorem d_Table_insertInOrder_89 : decode prog_11_method_8_code 89 = .ok (.return_, 1) := by decide +kernel
theorem q_Table_insertInOrder : (⟨"FlowShelf$Table", "insertInOrder", "(I)V"⟩ : MethodName).cls ≠ "java/lang/invoke/MethodHandle" ∧ (⟨"FlowShelf$Table", "insertInOrder", "(I)V"⟩ : MethodName).cls ≠ "java/lang/invoke/VarHandle" ∧ (parseMethodDescriptor (⟨"FlowShelf$Table", "insertInOrder", "(I)V"⟩ : MethodName).desc).map (fun d => d.parameters.length) = some 1 := by decide +kernel
set_option maxHeartbeats 4000000 in
set_option maxRecDepth 100000 in
theorem m_Table_insertInOrder (X : fs_X) (l : Launch) (a0 : Nat) (x1 : Int32) {r : Unit} {σ σF : fs_S} (h : (f_Table_insertInOrder a0 x1).1 σ = some (r, σF)) : fs_Met X l ⟨"FlowShelf$Table", "insertInOrder", "(I)V"⟩ (Cond.code ⟨"FlowShelf$Table", "insertInOrder", "(I)V"⟩ prog_11_method_8_code 3 none) 3 64 [.ref a0, .int x1] σ (fs_eV r) σF := by
  refine fs_ofW (by decide) ?_
  intro p e s m args below meth c s₁ B hml hT hv
  obtain ⟨rfl, hw0, hG⟩ := hv
  have hx := B.exec
  have hb := B.bytes
  have hr := B.returns
  have hk := B.notSynchronized
  have S : CallFix p m c prog_11_method_8_code 3 s _ fs_ws "FlowShelf$Table" := ⟨B.exec, B.bytes, hml, findClass_of_methodNamed B.named, fun w hw => atoms_spec (ws := _ :: fs_ws) B.pre w (List.mem_cons_of_mem _ hw)⟩
  have hR := fs_hR (fr := 3) (lo := 64) ((f_Table_insertInOrder a0 x1).2 _ _ _ h)
  have hl := lv_entry ([.ref a0, .int x1]) (n := 3) (Nat.le_of_ble_eq_true rfl)
  rw [lg_entry_eq]
  generalize (lg_sl ([.ref a0, .int x1]) ++ List.replicate (3 - (lg_sl ([.ref a0, .int x1])).length) Slot.unset).toArray = ls at hl ⊢
  have hl : lv_has ls 3 [(0, .ref a0), (1, .int x1)] := hl
  refine (?_ : fs_J X p l e (fs_rm 3 64 σ σF) s m _ below meth c (fs_Q X below _ s (fs_eV r) σ σF) r σ σF (f_Table_insertInOrder a0 x1) (F0 m 0 ls [])) σ s.heap [] 0 0 h hw0 va_S.rf rfl rfl
  clear h hw0
  unfold f_Table_insertInOrder
  refine fs_lift (fun _ _ _ _ => lv_aload_n hx hb d_Table_insertInOrder_0 rfl (lv_at hl 0 rfl)) ?_
  refine fs_Jgi S hG fs_in6 rfl 3 (Nat.le_of_ble_eq_true rfl) tw_1_188 (fun _ h9 => h9) d_Table_insertInOrder_1 (fun v1 => ?_)
  refine fs_liftL (fun _ _ _ _ => lv_istore_n (lv' := [(2, .int v1), (0, .ref a0), (1, .int x1)]) hx hb d_Table_insertInOrder_4 rfl hl (Nat.le_of_ble_eq_true rfl) rfl) (fun ls hl => ?_)
  refine fs_Jlp1 (nL := 3) (pc := 5) (rest := []) (I := fun (v2 : Int32) => [(0, .ref a0), (1, .int x1), (2, .int v2)]) (fun k5 hk5 v2 ls hl => ?_) _ _ _ (lv_sub hl [1, 2, 0] rfl)
  refine fs_lift (fun _ _ _ _ => lv_iload_n hx hb d_Table_insertInOrder_5 rfl (lv_at hl 2 rfl)) ?_
  refine fs_Jlet1 (nL := 3) (pj := 72) (I := fun (_ : Unit) => [(0, .ref a0), (1, .int x1), (2, .int v2)]) (st := fun (_ : Unit) => []) (fun _ ls hl => ?_) (fun j72 hj72 => ?_)
  · refine fs_lift (fun _ _ _ _ => lv_aload_n hx hb d_Table_insertInOrder_72 rfl (lv_at hl 0 rfl)) ?_
    refine fs_Jgr S hG fs_in6 rfl 2 (Nat.le_of_ble_eq_true rfl) tw_1_187 (fun _ h9 => h9) d_Table_insertInOrder_73 (fun r17 => ?_)
    refine fs_lift (fun _ _ _ _ => lv_iload_n hx hb d_Table_insertInOrder_76 rfl (lv_at hl 2 rfl)) ?_
    refine fs_lift (fun _ _ _ _ => lv_iload_n hx hb d_Table_insertInOrder_77 rfl (lv_at hl 1 rfl)) ?_
    refine fs_Jsi S hG d_Table_insertInOrder_78 ?_
    refine fs_lift (fun _ _ _ _ => lv_aload_n hx hb d_Table_insertInOrder_79 rfl (lv_at hl 0 rfl)) ?_
    refine fs_lift (fun _ _ _ _ => lv_dup hx hb d_Table_insertInOrder_80 rfl) ?_
    refine fs_Jgi S hG fs_in6 rfl 3 (Nat.le_of_ble_eq_true rfl) tw_1_188 (fun _ h9 => h9) d_Table_insertInOrder_81 (fun v18 => ?_)
    refine fs_lift (fun _ _ _ _ => lv_iconst (v := 1) hx hb d_Table_insertInOrder_84 (by decide)) ?_
    refine fs_lift (fun _ _ _ _ => lv_iadd hx hb d_Table_insertInOrder_85) ?_
    refine fs_Jput S hG fs_in6 rfl 3 (Nat.le_of_ble_eq_true rfl) tw_1_188 (fun _ h9 => h9) fs_Y6 fs_ty6 fs_nm6 (Or.inl rfl) rfl rfl d_Table_insertInOrder_86 ?_
    exact fs_Jvret S hr hk rfl d_Table_insertInOrder_89
  · refine fs_if (fun _ _ _ _ => lv_if_le hx hb d_Table_insertInOrder_6 rfl) ?_ ?_
    · exact hj72 () ls (lv_sub hl [0, 1, 2] rfl)
    · refine fs_lift (fun _ _ _ _ => lv_aload_n hx hb d_Table_insertInOrder_9 rfl (lv_at hl 0 rfl)) ?_
      refine fs_Jgr S hG fs_in6 rfl 0 (Nat.le_of_ble_eq_true rfl) tw_1_183 (fun _ h9 => h9) d_Table_insertInOrder_10 (fun r3 => ?_)
      refine fs_lift (fun _ _ _ _ => lv_aload_n hx hb d_Table_insertInOrder_13 rfl (lv_at hl 0 rfl)) ?_
      refine fs_Jgr S hG fs_in6 rfl 2 (Nat.le_of_ble_eq_true rfl) tw_1_187 (fun _ h9 => h9) d_Table_insertInOrder_14 (fun r4 => ?_)
      refine fs_lift (fun _ _ _ _ => lv_iload_n hx hb d_Table_insertInOrder_17 rfl (lv_at hl 2 rfl)) ?_
      refine fs_lift (fun _ _ _ _ => lv_iconst (v := 1) hx hb d_Table_insertInOrder_18 (by decide)) ?_
      refine fs_lift (fun _ _ _ _ => lv_isub hx hb d_Table_insertInOrder_19) ?_
      refine fs_Jai S hG d_Table_insertInOrder_20 (fun v5 => ?_)
      refine fs_JV S hG hR rfl [.int v5] (enc := fun r => some (.ref r)) (fun zr zs zt zh => m_ArrayList_get X l r3 v5 zh) tw_5_114 tw_2_33 tw_2_34 tw_2_35 tw_1_5 q_ArrayList_get ⟨(Nat.le_of_ble_eq_true rfl), (Nat.le_of_ble_eq_true rfl)⟩ hl.1 rfl (Nat.le_of_ble_eq_true rfl) d_Table_insertInOrder_21 (fun r6 => ?_)
      refine fs_Jeq (g2 := F0 m 24 ls [.ref r6]) rfl ?_
      refine fs_Jck S hG rfl tw_5_115 tb_7_83 d_Table_insertInOrder_24 ?_
      refine fs_Jgr S hG fs_in11 rfl 1 (Nat.le_of_ble_eq_true rfl) tw_5_32 (fun _ h9 => h9) d_Table_insertInOrder_27 (fun r7 => ?_)
      refine fs_lift (fun _ _ _ _ => lv_iconst (v := 5) hx hb d_Table_insertInOrder_30 (by decide)) ?_
      refine fs_Jaj S hG d_Table_insertInOrder_31 (fun v8 => ?_)
      refine fs_lift (fun _ _ _ _ => lv_aload_n hx hb d_Table_insertInOrder_32 rfl (lv_at hl 0 rfl)) ?_
      refine fs_Jgr S hG fs_in6 rfl 0 (Nat.le_of_ble_eq_true rfl) tw_1_183 (fun _ h9 => h9) d_Table_insertInOrder_33 (fun r9 => ?_)
      refine fs_lift (fun _ _ _ _ => lv_iload_n hx hb d_Table_insertInOrder_36 rfl (lv_at hl 1 rfl)) ?_
      refine fs_JV S hG hR rfl [.int x1] (enc := fun r => some (.ref r)) (fun zr zs zt zh => m_ArrayList_get X l r9 x1 zh) tw_5_114 tw_2_33 tw_2_34 tw_2_35 tw_1_5 q_ArrayList_get ⟨(Nat.le_of_ble_eq_true rfl), (Nat.le_of_ble_eq_true rfl)⟩ hl.1 rfl (Nat.le_of_ble_eq_true rfl) d_Table_insertInOrder_37 (fun r10 => ?_)
      refine fs_Jeq (g2 := F0 m 40 ls [.ref r10, .long v8]) rfl ?_
      refine fs_Jck S hG rfl tw_5_115 tb_7_83 d_Table_insertInOrder_40 ?_
      refine fs_Jgr S hG fs_in11 rfl 1 (Nat.le_of_ble_eq_true rfl) tw_5_32 (fun _ h9 => h9) d_Table_insertInOrder_43 (fun r11 => ?_)
      refine fs_lift (fun _ _ _ _ => lv_iconst (v := 5) hx hb d_Table_insertInOrder_46 (by decide)) ?_
      refine fs_Jaj S hG d_Table_insertInOrder_47 (fun v12 => ?_)
      refine fs_lift (fun _ _ _ _ => W.lcmp hx hb d_Table_insertInOrder_48) ?_
      refine fs_if (fun _ _ _ _ => lv_if_le hx hb d_Table_insertInOrder_49 rfl) ?_ ?_
      · exact hj72 () ls (lv_sub hl [0, 1, 2] rfl)
      · refine fs_lift (fun _ _ _ _ => lv_aload_n hx hb d_Table_insertInOrder_52 rfl (lv_at hl 0 rfl)) ?_
        refine fs_Jgr S hG fs_in6 rfl 2 (Nat.le_of_ble_eq_true rfl) tw_1_187 (fun _ h9 => h9) d_Table_insertInOrder_53 (fun r13 => ?_)
        refine fs_lift (fun _ _ _ _ => lv_iload_n hx hb d_Table_insertInOrder_56 rfl (lv_at hl 2 rfl)) ?_
        refine fs_lift (fun _ _ _ _ => lv_aload_n hx hb d_Table_insertInOrder_57 rfl (lv_at hl 0 rfl)) ?_
        refine fs_Jgr S hG fs_in6 rfl 2 (Nat.le_of_ble_eq_true rfl) tw_1_187 (fun _ h9 => h9) d_Table_insertInOrder_58 (fun r14 => ?_)
        refine fs_lift (fun _ _ _ _ => lv_iload_n hx hb d_Table_insertInOrder_61 rfl (lv_at hl 2 rfl)) ?_
        refine fs_lift (fun _ _ _ _ => lv_iconst (v := 1) hx hb d_Table_insertInOrder_62 (by decide)) ?_
        refine fs_lift (fun _ _ _ _ => lv_isub hx hb d_Table_insertInOrder_63) ?_
        refine fs_Jai S hG d_Table_insertInOrder_64 (fun v15 => ?_)
        refine fs_Jsi S hG d_Table_insertInOrder_65 ?_
        refine fs_Jnm (fun v16 hv9 => ?_)
        refine fs_liftL (fun _ _ _ _ => lv_iinc (k := 2) (v := v16) (lv' := [(2, .int v16), (0, .ref a0), (1, .int x1)]) hx hb d_Table_insertInOrder_66 hl rfl (by rw [hv9]; rfl) (Nat.le_of_ble_eq_true rfl) rfl) (fun ls hl => ?_)
        refine fs_lift (fun _ _ _ _ => lv_goto hx hb d_Table_insertInOrder_69 rfl) ?_
        exact hk5 v16 ls (lv_sub hl [1, 2, 0] rfl)

theorem d_Table_putInOrder_0 : decode prog_11_method_7_code 0 = .ok (.aload_n 0, 1) := by decide +kernel
theorem d_Table_putInOrder_1 : decode prog_11_method_7_code 1 = .ok (.iconst 0, 1) := by decide +kernel
theorem d_Table_putInOrder_2 : decode prog_11_method_7_code 2 = .ok (.putfield 69, 3) := by decide +kernel
theorem d_Table_putInOrder_5 : decode prog_11_method_7_code 5 = .ok (.iconst 0, 1) := by decide +kernel
theorem d_Table_putInOrder_6 : decode prog_11_method_7_code 6 = .ok (.istore_n 1, 1) := by decide +kernel
theorem d_Table_putInOrder_7 : decode prog_11_method_7_code 7 = .ok (.iload_n 1, 1) := by decide +kernel
theorem d_Table_putInOrder_8 : decode prog_11_method_7_code 8 = .ok (.aload_n 0, 1) := by decide +kernel
theorem d_Table_putInOrder_9 : decode prog_11_method_7_code 9 = .ok (.getfield 12, 3) := by decide +kernel
theorem d_Table_putInOrder_12 : decode prog_11_method_7_code 12 = .ok (.invokevirtual 25, 3) := by decide +kernel
theorem d_Table_putInOrder_15 : decode prog_11_method_7_code 15 = .ok (.if_icmp .ge 31, 3) := by decide +kernel
theorem d_Table_putInOrder_18 : decode prog_11_method_7_code 18 = .ok (.aload_n 0, 1) := by decide +kernel
theorem d_Table_putInOrder_19 : decode prog_11_method_7_code 19 = .ok (.getfield 12, 3) := by decide +kernel
theorem d_Table_putInOrder_22 : decode prog_11_method_7_code 22 = .ok (.iload_n 1, 1) := by decide +kernel
theorem d_Table_putInOrder_23 : decode prog_11_method_7_code 23 = .ok (.invokevirtual 37, 3) := by decide +kernel
theorem d_Table_putInOrder_26 : decode prog_11_method_7_code 26 = .ok (.checkcast 41, 3) := by decide +kernel
theorem d_Table_putInOrder_29 : decode prog_11_method_7_code 29 = .ok (.invokevirtual 76, 3) := by decide +kernel
theorem d_Table_putInOrder_32 : decode prog_11_method_7_code 32 = .ok (.ifCond .eq 8, 3) := by decide +kernel
theorem d_Table_putInOrder_35 : decode prog_11_method_7_code 35 = .ok (.aload_n 0, 1) := by decide +kernel
theorem d_Table_putInOrder_36 : decode prog_11_method_7_code 36 = .ok (.iload_n 1, 1) := by decide +kernel
theorem d_Table_putInOrder_37 : decode prog_11_method_7_code 37 = .ok (.invokevirtual 80, 3) := by decide +kernel
theorem d_Table_putInOrder_40 : decode prog_11_method_7_code 40 = .ok (.iinc 1 1, 3) := by decide +kernel
theorem d_Table_putInOrder_43 : decode prog_11_method_7_code 43 = .ok (.goto (-36), 3) := by decide +kernel
theorem d_Table_putInOrder_46 : decode prog_11_method_7_code 46 = .ok (.return_, 1) := by decide +kernel
theorem q_Table_putInOrder : (⟨"FlowShelf$Table", "putInOrder", "()V"⟩ : MethodName).cls ≠ "java/lang/invoke/MethodHandle" ∧ (⟨"FlowShelf$Table", "putInOrder", "()V"⟩ : MethodName).cls ≠ "java/lang/invoke/VarHandle" ∧ (parseMethodDescriptor (⟨"FlowShelf$Table", "putInOrder", "()V"⟩ : MethodName).desc).map (fun d => d.parameters.length) = some 0 := by decide +kernel
set_option maxHeartbeats 4000000 in
set_option maxRecDepth 100000 in
theorem m_Table_putInOrder (X : fs_X) (l : Launch) (a0 : Nat) {r : Unit} {σ σF : fs_S} (h : (f_Table_putInOrder a0).1 σ = some (r, σF)) : fs_Met X l ⟨"FlowShelf$Table", "putInOrder", "()V"⟩ (Cond.code ⟨"FlowShelf$Table", "putInOrder", "()V"⟩ prog_11_method_7_code 2 none) 4 86 [.ref a0] σ (fs_eV r) σF := by
  refine fs_ofW (by decide) ?_
  intro p e s m args below meth c s₁ B hml hT hv
  obtain ⟨rfl, hw0, hG⟩ := hv
  have hx := B.exec
  have hb := B.bytes
  have hr := B.returns
  have hk := B.notSynchronized
  have S : CallFix p m c prog_11_method_7_code 2 s _ fs_ws "FlowShelf$Table" := ⟨B.exec, B.bytes, hml, findClass_of_methodNamed B.named, fun w hw => atoms_spec (ws := _ :: fs_ws) B.pre w (List.mem_cons_of_mem _ hw)⟩
  have hR := fs_hR (fr := 4) (lo := 86) ((f_Table_putInOrder a0).2 _ _ _ h)
  have hl := lv_entry ([.ref a0]) (n := 2) (Nat.le_of_ble_eq_true rfl)
  rw [lg_entry_eq]
  generalize (lg_sl ([.ref a0]) ++ List.replicate (2 - (lg_sl ([.ref a0])).length) Slot.unset).toArray = ls at hl ⊢
  have hl : lv_has ls 2 [(0, .ref a0)] := hl
  refine (?_ : fs_J X p l e (fs_rm 4 86 σ σF) s m _ below meth c (fs_Q X below _ s (fs_eV r) σ σF) r σ σF (f_Table_putInOrder a0) (F0 m 0 ls [])) σ s.heap [] 0 0 h hw0 va_S.rf rfl rfl
  clear h hw0
  unfold f_Table_putInOrder
  refine fs_lift (fun _ _ _ _ => lv_aload_n hx hb d_Table_putInOrder_0 rfl (lv_at hl 0 rfl)) ?_
  refine fs_lift (fun _ _ _ _ => lv_iconst (v := 0) hx hb d_Table_putInOrder_1 (by decide)) ?_
  refine fs_Jput S hG fs_in6 rfl 3 (Nat.le_of_ble_eq_true rfl) tw_1_188 (fun _ h9 => h9) fs_Y6 fs_ty6 fs_nm6 (Or.inl rfl) rfl rfl d_Table_putInOrder_2 ?_
  refine fs_lift (fun _ _ _ _ => lv_iconst (v := 0) hx hb d_Table_putInOrder_5 (by decide)) ?_
  refine fs_liftL (fun _ _ _ _ => lv_istore_n (lv' := [(1, .int 0), (0, .ref a0)]) hx hb d_Table_putInOrder_6 rfl hl (Nat.le_of_ble_eq_true rfl) rfl) (fun ls hl => ?_)
  refine fs_Jlp1 (nL := 2) (pc := 7) (rest := []) (I := fun (v1 : Int32) => [(0, .ref a0), (1, .int v1)]) (fun k7 hk7 v1 ls hl => ?_) _ _ _ (lv_sub hl [1, 0] rfl)
  refine fs_lift (fun _ _ _ _ => lv_iload_n hx hb d_Table_putInOrder_7 rfl (lv_at hl 1 rfl)) ?_
  refine fs_lift (fun _ _ _ _ => lv_aload_n hx hb d_Table_putInOrder_8 rfl (lv_at hl 0 rfl)) ?_
  refine fs_Jgr S hG fs_in6 rfl 0 (Nat.le_of_ble_eq_true rfl) tw_1_183 (fun _ h9 => h9) d_Table_putInOrder_9 (fun r2 => ?_)
  refine fs_JV S hG hR rfl [] (enc := fun r => some (.int r)) (fun zr zs zt zh => m_ArrayList_size X l r2 zh) tw_4_193 tw_2_29 tw_2_30 tw_2_31 tw_1_5 q_ArrayList_size ⟨(Nat.le_of_ble_eq_true rfl), (Nat.le_of_ble_eq_true rfl)⟩ hl.1 rfl (Nat.le_of_ble_eq_true rfl) d_Table_putInOrder_12 (fun v3 => ?_)
  refine fs_Jeq (g2 := F0 m 15 ls [.int v3, .int v1]) rfl ?_
  refine fs_if (fun _ _ _ _ => lv_icmp_ge hx hb d_Table_putInOrder_15 rfl) ?_ ?_
  · exact fs_Jvret S hr hk rfl d_Table_putInOrder_46
  · refine fs_lift (fun _ _ _ _ => lv_aload_n hx hb d_Table_putInOrder_18 rfl (lv_at hl 0 rfl)) ?_
    refine fs_Jgr S hG fs_in6 rfl 0 (Nat.le_of_ble_eq_true rfl) tw_1_183 (fun _ h9 => h9) d_Table_putInOrder_19 (fun r4 => ?_)
    refine fs_lift (fun _ _ _ _ => lv_iload_n hx hb d_Table_putInOrder_22 rfl (lv_at hl 1 rfl)) ?_
    refine fs_JV S hG hR rfl [.int v1] (enc := fun r => some (.ref r)) (fun zr zs zt zh => m_ArrayList_get X l r4 v1 zh) tw_5_114 tw_2_33 tw_2_34 tw_2_35 tw_1_5 q_ArrayList_get ⟨(Nat.le_of_ble_eq_true rfl), (Nat.le_of_ble_eq_true rfl)⟩ hl.1 rfl (Nat.le_of_ble_eq_true rfl) d_Table_putInOrder_23 (fun r5 => ?_)
    refine fs_Jeq (g2 := F0 m 26 ls [.ref r5]) rfl ?_
    refine fs_Jck S hG rfl tw_5_115 tb_7_83 d_Table_putInOrder_26 ?_
    refine fs_JV S hG hR rfl [] (enc := fun r => some (.int r)) (fun zr zs zt zh => m_Row_canBePaired X l r5 zh) tw_5_142 tw_5_143 tw_5_144 tw_5_145 tw_1_28 q_Row_canBePaired ⟨(Nat.le_of_ble_eq_true rfl), (Nat.le_of_ble_eq_true rfl)⟩ hl.1 rfl (Nat.le_of_ble_eq_true rfl) d_Table_putInOrder_29 (fun v6 => ?_)
    refine fs_Jeq (g2 := F0 m 32 ls [.int v6]) rfl ?_
    refine fs_Jlet1 (nL := 2) (pj := 40) (I := fun (_ : Unit) => [(0, .ref a0), (1, .int v1)]) (st := fun (_ : Unit) => []) (fun _ ls hl => ?_) (fun j40 hj40 => ?_)
    · refine fs_Jnm (fun v7 hv9 => ?_)
      refine fs_liftL (fun _ _ _ _ => lv_iinc (k := 1) (v := v7) (lv' := [(1, .int v7), (0, .ref a0)]) hx hb d_Table_putInOrder_40 hl rfl (by rw [hv9]; rfl) (Nat.le_of_ble_eq_true rfl) rfl) (fun ls hl => ?_)
      refine fs_lift (fun _ _ _ _ => lv_goto hx hb d_Table_putInOrder_43 rfl) ?_
      exact hk7 v7 ls (lv_sub hl [1, 0] rfl)
    · refine fs_if (fun _ _ _ _ => lv_if_eq hx hb d_Table_putInOrder_32 rfl) ?_ ?_
      · exact hj40 () ls (lv_sub hl [0, 1] rfl)
      · refine fs_lift (fun _ _ _ _ => lv_aload_n hx hb d_Table_putInOrder_35 rfl (lv_at hl 0 rfl)) ?_
        refine fs_lift (fun _ _ _ _ => lv_iload_n hx hb d_Table_putInOrder_36 rfl (lv_at hl 1 rfl)) ?_
        refine fs_JV S hG hR rfl [.int v1] (enc := fun _ => none) (fun zr zs zt zh => m_Table_insertInOrder X l a0 v1 zh) tw_5_147 tw_5_148 tw_5_149 tw_5_150 tw_1_9 q_Table_insertInOrder ⟨(Nat.le_of_ble_eq_true rfl), (Nat.le_of_ble_eq_true rfl)⟩ hl.1 rfl (Nat.le_of_ble_eq_true rfl) d_Table_putInOrder_37 (fun _ => ?_)
        refine fs_Jeq (g2 := F0 m 40 ls []) rfl ?_
        exact hj40 () ls (lv_sub hl [0, 1] rfl)

theorem d_Row_isReverseOf_0 : decode prog_9_method_4_code 0 = .ok (.aload_n 0, 1) := by decide +kernel
theorem d_Row_isReverseOf_1 : decode prog_9_method_4_code 1 = .ok (.getfield 15, 3) := by decide +kernel
theorem d_Row_isReverseOf_4 : decode prog_9_method_4_code 4 = .ok (.aload_n 1, 1) := by decide +kernel
theorem d_Row_isReverseOf_5 : decode prog_9_method_4_code 5 = .ok (.getfield 15, 3) := by decide +kernel
theorem d_Row_isReverseOf_8 : decode prog_9_method_4_code 8 = .ok (.if_icmp .ne 55, 3) := by decide +kernel
theorem d_Row_isReverseOf_11 : decode prog_9_method_4_code 11 = .ok (.aload_n 0, 1) := by decide +kernel
theorem d_Row_isReverseOf_12 : decode prog_9_method_4_code 12 = .ok (.getfield 9, 3) := by decide +kernel
theorem d_Row_isReverseOf_15 : decode prog_9_method_4_code 15 = .ok (.iconst 0, 1) := by decide +kernel
theorem d_Row_isReverseOf_16 : decode prog_9_method_4_code 16 = .ok (.laload, 1) := by decide +kernel
theorem d_Row_isReverseOf_17 : decode prog_9_method_4_code 17 = .ok (.aload_n 1, 1) := by decide +kernel
theorem d_Row_isReverseOf_18 : decode prog_9_method_4_code 18 = .ok (.getfield 9, 3) := by decide +kernel
theorem d_Row_isReverseOf_21 : decode prog_9_method_4_code 21 = .ok (.iconst 1, 1) := by decide +kernel
theorem d_Row_isReverseOf_22 : decode prog_9_method_4_code 22 = .ok (.laload, 1) := by decide +kernel
theorem d_Row_isReverseOf_23 : decode prog_9_method_4_code 23 = .ok (.lcmp, 1) := by decide +kernel
theorem d_Row_isReverseOf_24 : decode prog_9_method_4_code 24 = .ok (.ifCond .ne 39, 3) := by decide +kernel
theorem d_Row_isReverseOf_27 : decode prog_9_method_4_code 27 = .ok (.aload_n 0, 1) := by decide +kernel
theorem d_Row_isReverseOf_28 : decode prog_9_method_4_code 28 = .ok (.getfield 9, 3) := by decide +kernel
theorem d_Row_isReverseOf_31 : decode prog_9_method_4_code 31 = .ok (.iconst 1, 1) := by decide +kernel
theorem d_Row_isReverseOf_32 : decode prog_9_method_4_code 32 = .ok (.laload, 1) := by decide +kernel
theorem d_Row_isReverseOf_33 : decode prog_9_method_4_code 33 = .ok (.aload_n 1, 1) := by decide +kernel
theorem d_Row_isReverseOf_34 : decode prog_9_method_4_code 34 = .ok (.getfield 9, 3) := by decide +kernel
theorem d_Row_isReverseOf_37 : decode prog_9_method_4_code 37 = .ok (.iconst 0, 1) := by decide +kernel
theorem d_Row_isReverseOf_38 : decode prog_9_method_4_code 38 = .ok (.laload, 1) := by decide +kernel
theorem d_Row_isReverseOf_39 : decode prog_9_method_4_code 39 = .ok (.lcmp, 1) := by decide +kernel
theorem d_Row_isReverseOf_40 : decode prog_9_method_4_code 40 = .ok (.ifCond .ne 23, 3) := by decide +kernel
theorem d_Row_isReverseOf_43 : decode prog_9_method_4_code 43 = .ok (.aload_n 0, 1) := by decide +kernel
theorem d_Row_isReverseOf_44 : decode prog_9_method_4_code 44 = .ok (.getfield 9, 3) := by decide +kernel
theorem d_Row_isReverseOf_47 : decode prog_9_method_4_code 47 = .ok (.iconst 2, 1) := by decide +kernel
theorem d_Row_isReverseOf_48 : decode prog_9_method_4_code 48 = .ok (.laload, 1) := by decide +kernel
theorem d_Row_isReverseOf_49 : decode prog_9_method_4_code 49 = .ok (.aload_n 1, 1) := by decide +kernel
theorem d_Row_isReverseOf_50 : decode prog_9_method_4_code 50 = .ok (.getfield 9, 3) := by decide +kernel
theorem d_Row_isReverseOf_53 : decode prog_9_method_4_code 53 = .ok (.iconst 2, 1) := by decide +kernel
theorem d_Row_isReverseOf_54 : decode prog_9_method_4_code 54 = .ok (.laload, 1) := by decide +kernel
theorem d_Row_isReverseOf_55 : decode prog_9_method_4_code 55 = .ok (.lcmp, 1) := by decide +kernel
theorem d_Row_isReverseOf_56 : decode prog_9_method_4_code 56 = .ok (.ifCond .ne 7, 3) := by decide +kernel
theorem d_Row_isReverseOf_59 : decode prog_9_method_4_code 59 = .ok (.iconst 1, 1) := by decide +kernel
theorem d_Row_isReverseOf_60 : decode prog_9_method_4_code 60 = .ok (.goto 4, 3) := by decide +kernel
theorem d_Row_isReverseOf_63 : decode prog_9_method_4_code 63 = .ok (.iconst 0, 1) := by decide +kernel
theorem d_Row_isReverseOf_64 : decode prog_9_method_4_code 64 = .ok (.ireturn, 1) := by decide +kernel
theorem q_Row_isReverseOf : (⟨"FlowShelf$Row", "isReverseOf", "(LFlowShelf$Row;)Z"⟩ : MethodName).cls ≠ "java/lang/invoke/MethodHandle" ∧ (⟨"FlowShelf$Row", "isReverseOf", "(LFlowShelf$Row;)Z"⟩ : MethodName).cls ≠ "java/lang/invoke/VarHandle" ∧ (parseMethodDescriptor (⟨"FlowShelf$Row", "isReverseOf", "(LFlowShelf$Row;)Z"⟩ : MethodName).desc).map (fun d => d.parameters.length) = some 1 := by decide +kernel
set_option maxHeartbeats 4000000 in
set_option maxRecDepth 100000 in
theorem m_Row_isReverseOf (X : fs_X) (l : Launch) (a0 : Nat) (a1 : Nat) {r : Int32} {σ σF : fs_S} (h : (f_Row_isReverseOf a0 a1).1 σ = some (r, σF)) : fs_Met X l ⟨"FlowShelf$Row", "isReverseOf", "(LFlowShelf$Row;)Z"⟩ (Cond.code ⟨"FlowShelf$Row", "isReverseOf", "(LFlowShelf$Row;)Z"⟩ prog_9_method_4_code 2 (some FieldType.boolean)) 0 0 [.ref a0, .ref a1] σ (fs_eI r) σF := by
  refine fs_ofW (by decide) ?_
  intro p e s m args below meth c s₁ B hml hT hv
  obtain ⟨rfl, hw0, hG⟩ := hv
  have hx := B.exec
  have hb := B.bytes
  have hr := B.returns
  have hk := B.notSynchronized
  have S : CallFix p m c prog_9_method_4_code 2 s _ fs_ws "FlowShelf$Row" := ⟨B.exec, B.bytes, hml, findClass_of_methodNamed B.named, fun w hw => atoms_spec (ws := _ :: fs_ws) B.pre w (List.mem_cons_of_mem _ hw)⟩
  have hR := fs_hR (fr := 0) (lo := 0) ((f_Row_isReverseOf a0 a1).2 _ _ _ h)
  have hl := lv_entry ([.ref a0, .ref a1]) (n := 2) (Nat.le_of_ble_eq_true rfl)
  rw [lg_entry_eq]
  generalize (lg_sl ([.ref a0, .ref a1]) ++ List.replicate (2 - (lg_sl ([.ref a0, .ref a1])).length) Slot.unset).toArray = ls at hl ⊢
  have hl : lv_has ls 2 [(0, .ref a0), (1, .ref a1)] := hl
  refine (?_ : fs_J X p l e (fs_rm 0 0 σ σF) s m _ below meth c (fs_Q X below _ s (fs_eI r) σ σF) r σ σF (f_Row_isReverseOf a0 a1) (F0 m 0 ls [])) σ s.heap [] 0 0 h hw0 va_S.rf rfl rfl
  clear h hw0
  unfold f_Row_isReverseOf
  refine fs_lift (fun _ _ _ _ => lv_aload_n hx hb d_Row_isReverseOf_0 rfl (lv_at hl 0 rfl)) ?_
  refine fs_Jgi S hG fs_in11 rfl 0 (Nat.le_of_ble_eq_true rfl) tw_5_28 (fun _ h9 => h9) d_Row_isReverseOf_1 (fun v1 => ?_)
  refine fs_lift (fun _ _ _ _ => lv_aload_n hx hb d_Row_isReverseOf_4 rfl (lv_at hl 1 rfl)) ?_
  refine fs_Jgi S hG fs_in11 rfl 0 (Nat.le_of_ble_eq_true rfl) tw_5_28 (fun _ h9 => h9) d_Row_isReverseOf_5 (fun v2 => ?_)
  refine fs_ifn (fun _ _ _ _ => lv_icmp_ne hx hb d_Row_isReverseOf_8 rfl) ?_ ?_
  · refine fs_lift (fun _ _ _ _ => lv_aload_n hx hb d_Row_isReverseOf_11 rfl (lv_at hl 0 rfl)) ?_
    refine fs_Jgr S hG fs_in11 rfl 1 (Nat.le_of_ble_eq_true rfl) tw_5_31 (fun _ h9 => h9) d_Row_isReverseOf_12 (fun r3 => ?_)
    refine fs_lift (fun _ _ _ _ => lv_iconst (v := 0) hx hb d_Row_isReverseOf_15 (by decide)) ?_
    refine fs_Jaj S hG d_Row_isReverseOf_16 (fun v4 => ?_)
    refine fs_lift (fun _ _ _ _ => lv_aload_n hx hb d_Row_isReverseOf_17 rfl (lv_at hl 1 rfl)) ?_
    refine fs_Jgr S hG fs_in11 rfl 1 (Nat.le_of_ble_eq_true rfl) tw_5_31 (fun _ h9 => h9) d_Row_isReverseOf_18 (fun r5 => ?_)
    refine fs_lift (fun _ _ _ _ => lv_iconst (v := 1) hx hb d_Row_isReverseOf_21 (by decide)) ?_
    refine fs_Jaj S hG d_Row_isReverseOf_22 (fun v6 => ?_)
    refine fs_lift (fun _ _ _ _ => W.lcmp hx hb d_Row_isReverseOf_23) ?_
    refine fs_ifn (fun _ _ _ _ => lv_if_ne hx hb d_Row_isReverseOf_24 rfl) ?_ ?_
    · refine fs_lift (fun _ _ _ _ => lv_aload_n hx hb d_Row_isReverseOf_27 rfl (lv_at hl 0 rfl)) ?_
      refine fs_Jgr S hG fs_in11 rfl 1 (Nat.le_of_ble_eq_true rfl) tw_5_31 (fun _ h9 => h9) d_Row_isReverseOf_28 (fun r7 => ?_)
      refine fs_lift (fun _ _ _ _ => lv_iconst (v := 1) hx hb d_Row_isReverseOf_31 (by decide)) ?_
      refine fs_Jaj S hG d_Row_isReverseOf_32 (fun v8 => ?_)
      refine fs_lift (fun _ _ _ _ => lv_aload_n hx hb d_Row_isReverseOf_33 rfl (lv_at hl 1 rfl)) ?_
      refine fs_Jgr S hG fs_in11 rfl 1 (Nat.le_of_ble_eq_true rfl) tw_5_31 (fun _ h9 => h9) d_Row_isReverseOf_34 (fun r9 => ?_)
      refine fs_lift (fun _ _ _ _ => lv_iconst (v := 0) hx hb d_Row_isReverseOf_37 (by decide)) ?_
      refine fs_Jaj S hG d_Row_isReverseOf_38 (fun v10 => ?_)
      refine fs_lift (fun _ _ _ _ => W.lcmp hx hb d_Row_isReverseOf_39) ?_
      refine fs_ifn (fun _ _ _ _ => lv_if_ne hx hb d_Row_isReverseOf_40 rfl) ?_ ?_
      · refine fs_lift (fun _ _ _ _ => lv_aload_n hx hb d_Row_isReverseOf_43 rfl (lv_at hl 0 rfl)) ?_
        refine fs_Jgr S hG fs_in11 rfl 1 (Nat.le_of_ble_eq_true rfl) tw_5_31 (fun _ h9 => h9) d_Row_isReverseOf_44 (fun r11 => ?_)
        refine fs_lift (fun _ _ _ _ => lv_iconst (v := 2) hx hb d_Row_isReverseOf_47 (by decide)) ?_
        refine fs_Jaj S hG d_Row_isReverseOf_48 (fun v12 => ?_)
        refine fs_lift (fun _ _ _ _ => lv_aload_n hx hb d_Row_isReverseOf_49 rfl (lv_at hl 1 rfl)) ?_
        refine fs_Jgr S hG fs_in11 rfl 1 (Nat.le_of_ble_eq_true rfl) tw_5_31 (fun _ h9 => h9) d_Row_isReverseOf_50 (fun r13 => ?_)
        refine fs_lift (fun _ _ _ _ => lv_iconst (v := 2) hx hb d_Row_isReverseOf_53 (by decide)) ?_
        refine fs_Jaj S hG d_Row_isReverseOf_54 (fun v14 => ?_)
        refine fs_lift (fun _ _ _ _ => W.lcmp hx hb d_Row_isReverseOf_55) ?_
        refine fs_ifn (fun _ _ _ _ => lv_if_ne hx hb d_Row_isReverseOf_56 rfl) ?_ ?_
        · refine fs_lift (fun _ _ _ _ => lv_iconst (v := 1) hx hb d_Row_isReverseOf_59 (by decide)) ?_
          refine fs_lift (fun _ _ _ _ => lv_goto hx hb d_Row_isReverseOf_60 rfl) ?_
          exact fs_Jzret S hr hk rfl d_Row_isReverseOf_64
        · refine fs_lift (fun _ _ _ _ => lv_iconst (v := 0) hx hb d_Row_isReverseOf_63 (by decide)) ?_
          exact fs_Jzret S hr hk rfl d_Row_isReverseOf_64
      · refine fs_lift (fun _ _ _ _ => lv_iconst (v := 0) hx hb d_Row_isReverseOf_63 (by decide)) ?_
        exact fs_Jzret S hr hk rfl d_Row_isReverseOf_64
    · refine fs_lift (fun _ _ _ _ => lv_iconst (v := 0) hx hb d_Row_isReverseOf_63 (by decide)) ?_
      exact fs_Jzret S hr hk rfl d_Row_isReverseOf_64
  · refine fs_lift (fun _ _ _ _ => lv_iconst (v := 0) hx hb d_Row_isReverseOf_63 (by decide)) ?_
    exact fs_Jzret S hr hk rfl d_Row_isReverseOf_64

theorem d_Row_ticksBetween_0 : decode prog_9_method_5_code 0 = .ok (.aload_n 0, 1) := by decide +kernel
theorem d_Row_ticksBetween_1 : decode prog_9_method_5_code 1 = .ok (.getfield 9, 3) := by decide +kernel
theorem d_Row_ticksBetween_4 : decode prog_9_method_5_code 4 = .ok (.iconst 5, 1) := by decide +kernel
theorem d_Row_ticksBetween_5 : decode prog_9_method_5_code 5 = .ok (.laload, 1) := by decide +kernel
theorem d_Row_ticksBetween_6 : decode prog_9_method_5_code 6 = .ok (.aload_n 1, 1) := by decide +kernel
theorem d_Row_ticksBetween_7 : decode prog_9_method_5_code 7 = .ok (.getfield 9, 3) := by decide +kernel
theorem d_Row_ticksBetween_10 : decode prog_9_method_5_code 10 = .ok (.iconst 5, 1) := by decide +kernel
theorem d_Row_ticksBetween_11 : decode prog_9_method_5_code 11 = .ok (.laload, 1) := by decide +kernel
theorem d_Row_ticksBetween_12 : decode prog_9_method_5_code 12 = .ok (.lsub, 1) := by decide +kernel
theorem d_Row_ticksBetween_13 : decode prog_9_method_5_code 13 = .ok (.invokestatic 31, 3) := by decide +kernel
theorem d_Row_ticksBetween_16 : decode prog_9_method_5_code 16 = .ok (.lreturn, 1) := by decide +kernel
theorem q_Row_ticksBetween : (⟨"FlowShelf$Row", "ticksBetween", "(LFlowShelf$Row;)J"⟩ : MethodName).cls ≠ "java/lang/invoke/MethodHandle" ∧ (⟨"FlowShelf$Row", "ticksBetween", "(LFlowShelf$Row;)J"⟩ : MethodName).cls ≠ "java/lang/invoke/VarHandle" ∧ (parseMethodDescriptor (⟨"FlowShelf$Row", "ticksBetween", "(LFlowShelf$Row;)J"⟩ : MethodName).desc).map (fun d => d.parameters.length) = some 1 := by decide +kernel
set_option maxHeartbeats 4000000 in
set_option maxRecDepth 100000 in
theorem m_Row_ticksBetween (X : fs_X) (l : Launch) (a0 : Nat) (a1 : Nat) {r : Int64} {σ σF : fs_S} (h : (f_Row_ticksBetween a0 a1).1 σ = some (r, σF)) : fs_Met X l ⟨"FlowShelf$Row", "ticksBetween", "(LFlowShelf$Row;)J"⟩ (Cond.code ⟨"FlowShelf$Row", "ticksBetween", "(LFlowShelf$Row;)J"⟩ prog_9_method_5_code 2 (some FieldType.long)) 1 13 [.ref a0, .ref a1] σ (fs_eJ r) σF := by
  refine fs_ofW (by decide) ?_
  intro p e s m args below meth c s₁ B hml hT hv
  obtain ⟨rfl, hw0, hG⟩ := hv
  have hx := B.exec
  have hb := B.bytes
  have hr := B.returns
  have hk := B.notSynchronized
  have S : CallFix p m c prog_9_method_5_code 2 s _ fs_ws "FlowShelf$Row" := ⟨B.exec, B.bytes, hml, findClass_of_methodNamed B.named, fun w hw => atoms_spec (ws := _ :: fs_ws) B.pre w (List.mem_cons_of_mem _ hw)⟩
  have hR := fs_hR (fr := 1) (lo := 13) ((f_Row_ticksBetween a0 a1).2 _ _ _ h)
  have hl := lv_entry ([.ref a0, .ref a1]) (n := 2) (Nat.le_of_ble_eq_true rfl)
  rw [lg_entry_eq]
  generalize (lg_sl ([.ref a0, .ref a1]) ++ List.replicate (2 - (lg_sl ([.ref a0, .ref a1])).length) Slot.unset).toArray = ls at hl ⊢
  have hl : lv_has ls 2 [(0, .ref a0), (1, .ref a1)] := hl
  refine (?_ : fs_J X p l e (fs_rm 1 13 σ σF) s m _ below meth c (fs_Q X below _ s (fs_eJ r) σ σF) r σ σF (f_Row_ticksBetween a0 a1) (F0 m 0 ls [])) σ s.heap [] 0 0 h hw0 va_S.rf rfl rfl
  clear h hw0
  unfold f_Row_ticksBetween
  refine fs_lift (fun _ _ _ _ => lv_aload_n hx hb d_Row_ticksBetween_0 rfl (lv_at hl 0 rfl)) ?_
  refine fs_Jgr S hG fs_in11 rfl 1 (Nat.le_of_ble_eq_true rfl) tw_5_31 (fun _ h9 => h9) d_Row_ticksBetween_1 (fun r1 => ?_)
  refine fs_lift (fun _ _ _ _ => lv_iconst (v := 5) hx hb d_Row_ticksBetween_4 (by decide)) ?_
  refine fs_Jaj S hG d_Row_ticksBetween_5 (fun v2 => ?_)
  refine fs_lift (fun _ _ _ _ => lv_aload_n hx hb d_Row_ticksBetween_6 rfl (lv_at hl 1 rfl)) ?_
  refine fs_Jgr S hG fs_in11 rfl 1 (Nat.le_of_ble_eq_true rfl) tw_5_31 (fun _ h9 => h9) d_Row_ticksBetween_7 (fun r3 => ?_)
  refine fs_lift (fun _ _ _ _ => lv_iconst (v := 5) hx hb d_Row_ticksBetween_10 (by decide)) ?_
  refine fs_Jaj S hG d_Row_ticksBetween_11 (fun v4 => ?_)
  refine fs_lift (fun _ _ _ _ => lv_lsub hx hb d_Row_ticksBetween_12) ?_
  refine fs_Jabs S hR hl.1 tw_5_163 tw_5_164 tw_5_165 (Nat.le_of_ble_eq_true rfl) (Nat.le_of_ble_eq_true rfl) d_Row_ticksBetween_13 ?_
  refine fs_Jeq (g2 := F0 m 16 ls [.long (fs_abs (v2 - v4))]) rfl ?_
  exact fs_Jlret S hr hk rfl d_Row_ticksBetween_16

