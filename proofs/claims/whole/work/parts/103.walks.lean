/-! contracts of methods, walked by program -/
theorem d_Report_appendNumber_0 : decode prog_8_method_4_code 0 = .ok (.iload_n 2, 1) := by decide +kernel
theorem d_Report_appendNumber_1 : decode prog_8_method_4_code 1 = .ok (.iconst 1, 1) := by decide +kernel
theorem d_Report_appendNumber_2 : decode prog_8_method_4_code 2 = .ok (.isub, 1) := by decide +kernel
theorem d_Report_appendNumber_3 : decode prog_8_method_4_code 3 = .ok (.istore_n 3, 1) := by decide +kernel
theorem d_Report_appendNumber_4 : decode prog_8_method_4_code 4 = .ok (.iload_n 3, 1) := by decide +kernel
theorem d_Report_appendNumber_5 : decode prog_8_method_4_code 5 = .ok (.ifCond .lt 19, 3) := by decide +kernel
theorem d_Report_appendNumber_8 : decode prog_8_method_4_code 8 = .ok (.aload_n 0, 1) := by decide +kernel
theorem d_Report_appendNumber_9 : decode prog_8_method_4_code 9 = .ok (.iload_n 1, 1) := by decide +kernel
theorem d_Report_appendNumber_10 : decode prog_8_method_4_code 10 = .ok (.bipush 8, 2) := by decide +kernel
theorem d_Report_appendNumber_12 : decode prog_8_method_4_code 12 = .ok (.iload_n 3, 1) := by decide +kernel
theorem d_Report_appendNumber_13 : decode prog_8_method_4_code 13 = .ok (.imul, 1) := by decide +kernel
theorem d_Report_appendNumber_14 : decode prog_8_method_4_code 14 = .ok (.iushr, 1) := by decide +kernel
theorem d_Report_appendNumber_15 : decode prog_8_method_4_code 15 = .ok (.invokevirtual 25, 3) := by decide +kernel
theorem d_Report_appendNumber_18 : decode prog_8_method_4_code 18 = .ok (.iinc 3 (-1), 3) := by decide +kernel
theorem d_Report_appendNumber_21 : decode prog_8_method_4_code 21 = .ok (.goto (-17), 3) := by decide +kernel
theorem d_Report_appendNumber_24 : decode prog_8_method_4_code 24 = .ok (.return_, 1) := by decide +kernel
theorem q_Report_appendNumber : (⟨"FlowShelf$Report", "appendNumber", "(II)V"⟩ : MethodName).cls ≠ "java/lang/invoke/MethodHandle" ∧ (⟨"FlowShelf$Report", "appendNumber", "(II)V"⟩ : MethodName).cls ≠ "java/lang/invoke/VarHandle" ∧ (parseMethodDescriptor (⟨"FlowShelf$Report", "appendNumber", "(II)V"⟩ : MethodName).desc).map (fun d => d.parameters.length) = some 2 := by decide +kernel
set_option maxHeartbeats 4000000 in
set_option maxRecDepth 100000 in
theorem m_Report_appendNumber (X : fs_X) (l : Launch) (a0 : Nat) (x1 : Int32) (x2 : Int32) {r : Unit} {σ σF : fs_S} (h : (f_Report_appendNumber a0 x1 x2).1 σ = some (r, σF)) : fs_Met X l ⟨"FlowShelf$Report", "appendNumber", "(II)V"⟩ (Cond.code ⟨"FlowShelf$Report", "appendNumber", "(II)V"⟩ prog_8_method_4_code 4 none) 1 21 [.ref a0, .int x1, .int x2] σ (fs_eV r) σF := by
  refine fs_ofW (by decide) ?_
  intro p e s m args below meth c s₁ B hml hT hv
  obtain ⟨rfl, hw0, hG⟩ := hv
  have hx := B.exec
  have hb := B.bytes
  have hr := B.returns
  have hk := B.notSynchronized
  have S : CallFix p m c prog_8_method_4_code 4 s _ fs_ws "FlowShelf$Report" := ⟨B.exec, B.bytes, hml, findClass_of_methodNamed B.named, fun w hw => atoms_spec (ws := _ :: fs_ws) B.pre w (List.mem_cons_of_mem _ hw)⟩
  have hR := fs_hR (fr := 1) (lo := 21) ((f_Report_appendNumber a0 x1 x2).2 _ _ _ h)
  have hl := lv_entry ([.ref a0, .int x1, .int x2]) (n := 4) (Nat.le_of_ble_eq_true rfl)
  rw [lg_entry_eq]
  generalize (lg_sl ([.ref a0, .int x1, .int x2]) ++ List.replicate (4 - (lg_sl ([.ref a0, .int x1, .int x2])).length) Slot.unset).toArray = ls at hl ⊢
  have hl : lv_has ls 4 [(0, .ref a0), (1, .int x1), (2, .int x2)] := hl
  refine (?_ : fs_J X p l e (fs_rm 1 21 σ σF) s m _ below meth c (fs_Q X below _ s (fs_eV r) σ σF) r σ σF (f_Report_appendNumber a0 x1 x2) (F0 m 0 ls [])) σ s.heap [] 0 0 h hw0 va_S.rf rfl rfl
  clear h hw0
  unfold f_Report_appendNumber
  refine fs_lift (fun _ _ _ _ => lv_iload_n hx hb d_Report_appendNumber_0 rfl (lv_at hl 2 rfl)) ?_
  refine fs_lift (fun _ _ _ _ => lv_iconst (v := 1) hx hb d_Report_appendNumber_1 (by decide)) ?_
  refine fs_lift (fun _ _ _ _ => lv_isub hx hb d_Report_appendNumber_2) ?_
  refine fs_Jni (fun v1 => ?_)
  refine fs_liftL (fun _ _ _ _ => lv_istore_n (lv' := [(3, .int v1), (0, .ref a0), (1, .int x1), (2, .int x2)]) hx hb d_Report_appendNumber_3 rfl hl (Nat.le_of_ble_eq_true rfl) rfl) (fun ls hl => ?_)
  refine fs_Jlp1 (nL := 4) (pc := 4) (rest := []) (I := fun (v2 : Int32) => [(0, .ref a0), (1, .int x1), (3, .int v2)]) (fun k4 hk4 v2 ls hl => ?_) _ _ _ (lv_sub hl [1, 2, 0] rfl)
  refine fs_lift (fun _ _ _ _ => lv_iload_n hx hb d_Report_appendNumber_4 rfl (lv_at hl 2 rfl)) ?_
  refine fs_if (fun _ _ _ _ => lv_if_lt hx hb d_Report_appendNumber_5 rfl) ?_ ?_
  · exact fs_Jvret S hr hk rfl d_Report_appendNumber_24
  · refine fs_lift (fun _ _ _ _ => lv_aload_n hx hb d_Report_appendNumber_8 rfl (lv_at hl 0 rfl)) ?_
    refine fs_lift (fun _ _ _ _ => lv_iload_n hx hb d_Report_appendNumber_9 rfl (lv_at hl 1 rfl)) ?_
    refine fs_lift (fun _ _ _ _ => lv_bipush (v := 8) hx hb d_Report_appendNumber_10 (by decide)) ?_
    refine fs_lift (fun _ _ _ _ => lv_iload_n hx hb d_Report_appendNumber_12 rfl (lv_at hl 2 rfl)) ?_
    refine fs_lift (fun _ _ _ _ => lv_imul hx hb d_Report_appendNumber_13) ?_
    refine fs_lift (fun _ _ _ _ => lv_iushr (v := (fs_ushr x1 (8 * v2))) hx hb d_Report_appendNumber_14 rfl) ?_
    refine fs_JV S hG hR rfl [.int (fs_ushr x1 (8 * v2))] (enc := fun _ => none) (fun zr zs zt zh => m_Report_append X l a0 (fs_ushr x1 (8 * v2)) zh) tw_4_48 tw_3_237 tw_3_238 tw_3_239 tw_1_25 q_Report_append ⟨(Nat.le_of_ble_eq_true rfl), (Nat.le_of_ble_eq_true rfl)⟩ hl.1 rfl (Nat.le_of_ble_eq_true rfl) d_Report_appendNumber_15 (fun _ => ?_)
    refine fs_Jeq (g2 := F0 m 18 ls []) rfl ?_
    refine fs_Jnm (fun v3 hv9 => ?_)
    refine fs_liftL (fun _ _ _ _ => lv_iinc (k := 2) (v := v3) (lv' := [(3, .int v3), (0, .ref a0), (1, .int x1)]) hx hb d_Report_appendNumber_18 hl rfl (by rw [hv9]; rfl) (Nat.le_of_ble_eq_true rfl) rfl) (fun ls hl => ?_)
    refine fs_lift (fun _ _ _ _ => lv_goto hx hb d_Report_appendNumber_21 rfl) ?_
    exact hk4 v3 ls (lv_sub hl [1, 2, 0] rfl)

theorem d_Layout_write_0 : decode prog_6_method_5_code 0 = .ok (.iconst 0, 1) := by decide +kernel
theorem d_Layout_write_1 : decode prog_6_method_5_code 1 = .ok (.istore_n 3, 1) := by decide +kernel
theorem d_Layout_write_2 : decode prog_6_method_5_code 2 = .ok (.iload_n 3, 1) := by decide +kernel
theorem d_Layout_write_3 : decode prog_6_method_5_code 3 = .ok (.aload_n 0, 1) := by decide +kernel
theorem d_Layout_write_4 : decode prog_6_method_5_code 4 = .ok (.getfield 18, 3) := by decide +kernel
theorem d_Layout_write_7 : decode prog_6_method_5_code 7 = .ok (.if_icmp .ge 55, 3) := by decide +kernel
theorem d_Layout_write_10 : decode prog_6_method_5_code 10 = .ok (.aload_n 1, 1) := by decide +kernel
theorem d_Layout_write_11 : decode prog_6_method_5_code 11 = .ok (.aload_n 0, 1) := by decide +kernel
theorem d_Layout_write_12 : decode prog_6_method_5_code 12 = .ok (.getfield 9, 3) := by decide +kernel
theorem d_Layout_write_15 : decode prog_6_method_5_code 15 = .ok (.iload_n 3, 1) := by decide +kernel
theorem d_Layout_write_16 : decode prog_6_method_5_code 16 = .ok (.iaload, 1) := by decide +kernel
theorem d_Layout_write_17 : decode prog_6_method_5_code 17 = .ok (.invokevirtual 22, 3) := by decide +kernel
theorem d_Layout_write_20 : decode prog_6_method_5_code 20 = .ok (.istore 4, 2) := by decide +kernel
theorem d_Layout_write_22 : decode prog_6_method_5_code 22 = .ok (.aload_n 0, 1) := by decide +kernel
theorem d_Layout_write_23 : decode prog_6_method_5_code 23 = .ok (.getfield 15, 3) := by decide +kernel
theorem d_Layout_write_26 : decode prog_6_method_5_code 26 = .ok (.iload_n 3, 1) := by decide +kernel
theorem d_Layout_write_27 : decode prog_6_method_5_code 27 = .ok (.iaload, 1) := by decide +kernel
theorem d_Layout_write_28 : decode prog_6_method_5_code 28 = .ok (.istore 5, 2) := by decide +kernel
theorem d_Layout_write_30 : decode prog_6_method_5_code 30 = .ok (.iload 5, 2) := by decide +kernel
theorem d_Layout_write_32 : decode prog_6_method_5_code 32 = .ok (.ifCond .ne 16, 3) := by decide +kernel
theorem d_Layout_write_35 : decode prog_6_method_5_code 35 = .ok (.iload 4, 2) := by decide +kernel
theorem d_Layout_write_37 : decode prog_6_method_5_code 37 = .ok (.invokestatic 28, 3) := by decide +kernel
theorem d_Layout_write_40 : decode prog_6_method_5_code 40 = .ok (.istore 5, 2) := by decide +kernel
theorem d_Layout_write_42 : decode prog_6_method_5_code 42 = .ok (.aload_n 2, 1) := by decide +kernel
theorem d_Layout_write_43 : decode prog_6_method_5_code 43 = .ok (.iload 5, 2) := by decide +kernel
theorem d_Layout_write_45 : decode prog_6_method_5_code 45 = .ok (.invokevirtual 31, 3) := by decide +kernel
theorem d_Layout_write_48 : decode prog_6_method_5_code 48 = .ok (.aload_n 2, 1) := by decide +kernel
theorem d_Layout_write_49 : decode prog_6_method_5_code 49 = .ok (.iload 4, 2) := by decide +kernel
theorem d_Layout_write_51 : decode prog_6_method_5_code 51 = .ok (.iload 5, 2) := by decide +kernel
theorem d_Layout_write_53 : decode prog_6_method_5_code 53 = .ok (.invokevirtual 37, 3) := by decide +kernel
theorem d_Layout_write_56 : decode prog_6_method_5_code 56 = .ok (.iinc 3 1, 3) := by decide +kernel
theorem d_Layout_write_59 : decode prog_6_method_5_code 59 = .ok (.goto (-57), 3) := by decide +kernel
theorem d_Layout_write_62 : decode prog_6_method_5_code 62 = .ok (.return_, 1) := by decide +kernel
theorem q_Layout_write : (⟨"FlowShelf$Layout", "write", "(LFlowShelf$Flow;LFlowShelf$Report;)V"⟩ : MethodName).cls ≠ "java/lang/invoke/MethodHandle" ∧ (⟨"FlowShelf$Layout", "write", "(LFlowShelf$Flow;LFlowShelf$Report;)V"⟩ : MethodName).cls ≠ "java/lang/invoke/VarHandle" ∧ (parseMethodDescriptor (⟨"FlowShelf$Layout", "write", "(LFlowShelf$Flow;LFlowShelf$Report;)V"⟩ : MethodName).desc).map (fun d => d.parameters.length) = some 2 := by decide +kernel
set_option maxHeartbeats 4000000 in
set_option maxRecDepth 100000 in
theorem m_Layout_write (X : fs_X) (l : Launch) (a0 : Nat) (a1 : Nat) (a2 : Nat) {r : Unit} {σ σF : fs_S} (h : (f_Layout_write a0 a1 a2).1 σ = some (r, σF)) : fs_Met X l ⟨"FlowShelf$Layout", "write", "(LFlowShelf$Flow;LFlowShelf$Report;)V"⟩ (Cond.code ⟨"FlowShelf$Layout", "write", "(LFlowShelf$Flow;LFlowShelf$Report;)V"⟩ prog_6_method_5_code 6 none) 2 44 [.ref a0, .ref a1, .ref a2] σ (fs_eV r) σF := by
  refine fs_ofW (by decide) ?_
  intro p e s m args below meth c s₁ B hml hT hv
  obtain ⟨rfl, hw0, hG⟩ := hv
  have hx := B.exec
  have hb := B.bytes
  have hr := B.returns
  have hk := B.notSynchronized
  have S : CallFix p m c prog_6_method_5_code 6 s _ fs_ws "FlowShelf$Layout" := ⟨B.exec, B.bytes, hml, findClass_of_methodNamed B.named, fun w hw => atoms_spec (ws := _ :: fs_ws) B.pre w (List.mem_cons_of_mem _ hw)⟩
  have hR := fs_hR (fr := 2) (lo := 44) ((f_Layout_write a0 a1 a2).2 _ _ _ h)
  have hl := lv_entry ([.ref a0, .ref a1, .ref a2]) (n := 6) (Nat.le_of_ble_eq_true rfl)
  rw [lg_entry_eq]
  generalize (lg_sl ([.ref a0, .ref a1, .ref a2]) ++ List.replicate (6 - (lg_sl ([.ref a0, .ref a1, .ref a2])).length) Slot.unset).toArray = ls at hl ⊢
  have hl : lv_has ls 6 [(0, .ref a0), (1, .ref a1), (2, .ref a2)] := hl
  refine (?_ : fs_J X p l e (fs_rm 2 44 σ σF) s m _ below meth c (fs_Q X below _ s (fs_eV r) σ σF) r σ σF (f_Layout_write a0 a1 a2) (F0 m 0 ls [])) σ s.heap [] 0 0 h hw0 va_S.rf rfl rfl
  clear h hw0
  unfold f_Layout_write
  refine fs_lift (fun _ _ _ _ => lv_iconst (v := 0) hx hb d_Layout_write_0 (by decide)) ?_
  refine fs_liftL (fun _ _ _ _ => lv_istore_n (lv' := [(3, .int 0), (0, .ref a0), (1, .ref a1), (2, .ref a2)]) hx hb d_Layout_write_1 rfl hl (Nat.le_of_ble_eq_true rfl) rfl) (fun ls hl => ?_)
  refine fs_Jlp1 (nL := 6) (pc := 2) (rest := []) (I := fun (v1 : Int32) => [(0, .ref a0), (1, .ref a1), (2, .ref a2), (3, .int v1)]) (fun k2 hk2 v1 ls hl => ?_) _ _ _ (lv_sub hl [1, 2, 3, 0] rfl)
  refine fs_lift (fun _ _ _ _ => lv_iload_n hx hb d_Layout_write_2 rfl (lv_at hl 3 rfl)) ?_
  refine fs_lift (fun _ _ _ _ => lv_aload_n hx hb d_Layout_write_3 rfl (lv_at hl 0 rfl)) ?_
  refine fs_Jgi S hG fs_in4 rfl 2 (Nat.le_of_ble_eq_true rfl) tw_1_86 (fun _ h9 => h9) d_Layout_write_4 (fun v2 => ?_)
  refine fs_if (fun _ _ _ _ => lv_icmp_ge hx hb d_Layout_write_7 rfl) ?_ ?_
  · exact fs_Jvret S hr hk rfl d_Layout_write_62
  · refine fs_lift (fun _ _ _ _ => lv_aload_n hx hb d_Layout_write_10 rfl (lv_at hl 1 rfl)) ?_
    refine fs_lift (fun _ _ _ _ => lv_aload_n hx hb d_Layout_write_11 rfl (lv_at hl 0 rfl)) ?_
    refine fs_Jgr S hG fs_in4 rfl 0 (Nat.le_of_ble_eq_true rfl) tw_1_82 (fun _ h9 => h9) d_Layout_write_12 (fun r3 => ?_)
    refine fs_lift (fun _ _ _ _ => lv_iload_n hx hb d_Layout_write_15 rfl (lv_at hl 3 rfl)) ?_
    refine fs_Jai S hG d_Layout_write_16 (fun v4 => ?_)
    refine fs_JV S hG hR rfl [.int v4] (enc := fun r => some (.int r)) (fun zr zs zt zh => m_Flow_valueOf X l a1 v4 zh) tw_4_34 tw_3_130 tw_3_131 tw_3_132 tw_1_23 q_Flow_valueOf ⟨(Nat.le_of_ble_eq_true rfl), (Nat.le_of_ble_eq_true rfl)⟩ hl.1 rfl (Nat.le_of_ble_eq_true rfl) d_Layout_write_17 (fun v5 => ?_)
    refine fs_Jeq (g2 := F0 m 20 ls [.int v5]) rfl ?_
    refine fs_liftL (fun _ _ _ _ => lv_istore (lv' := [(4, .int v5), (0, .ref a0), (1, .ref a1), (2, .ref a2), (3, .int v1)]) hx hb d_Layout_write_20 hl (Nat.le_of_ble_eq_true rfl) rfl) (fun ls hl => ?_)
    refine fs_lift (fun _ _ _ _ => lv_aload_n hx hb d_Layout_write_22 rfl (lv_at hl 1 rfl)) ?_
    refine fs_Jgr S hG fs_in4 rfl 1 (Nat.le_of_ble_eq_true rfl) tw_1_84 (fun _ h9 => h9) d_Layout_write_23 (fun r6 => ?_)
    refine fs_lift (fun _ _ _ _ => lv_iload_n hx hb d_Layout_write_26 rfl (lv_at hl 4 rfl)) ?_
    refine fs_Jai S hG d_Layout_write_27 (fun v7 => ?_)
    refine fs_liftL (fun _ _ _ _ => lv_istore (lv' := [(5, .int v7), (4, .int v5), (0, .ref a0), (1, .ref a1), (2, .ref a2), (3, .int v1)]) hx hb d_Layout_write_28 hl (Nat.le_of_ble_eq_true rfl) rfl) (fun ls hl => ?_)
    refine fs_lift (fun _ _ _ _ => lv_iload hx hb d_Layout_write_30 (lv_at hl 0 rfl)) ?_
    refine fs_Jlet1 (nL := 6) (pj := 48) (I := fun (v9 : Int32) => [(0, .ref a0), (1, .ref a1), (2, .ref a2), (3, .int v1), (4, .int v5), (5, .int v9)]) (st := fun (v9 : Int32) => []) (fun v9 ls hl => ?_) (fun j48 hj48 => ?_)
    · refine fs_lift (fun _ _ _ _ => lv_aload_n hx hb d_Layout_write_48 rfl (lv_at hl 2 rfl)) ?_
      refine fs_lift (fun _ _ _ _ => lv_iload hx hb d_Layout_write_49 (lv_at hl 4 rfl)) ?_
      refine fs_lift (fun _ _ _ _ => lv_iload hx hb d_Layout_write_51 (lv_at hl 5 rfl)) ?_
      refine fs_JV S hG hR rfl [.int v5, .int v9] (enc := fun _ => none) (fun zr zs zt zh => m_Report_appendNumber X l a2 v5 v9 zh) tw_4_44 tw_4_45 tw_4_46 tw_4_47 tw_1_25 q_Report_appendNumber ⟨(Nat.le_of_ble_eq_true rfl), (Nat.le_of_ble_eq_true rfl)⟩ hl.1 rfl (Nat.le_of_ble_eq_true rfl) d_Layout_write_53 (fun _ => ?_)
      refine fs_Jeq (g2 := F0 m 56 ls []) rfl ?_
      refine fs_Jnm (fun v10 hv9 => ?_)
      refine fs_liftL (fun _ _ _ _ => lv_iinc (k := 3) (v := v10) (lv' := [(3, .int v10), (0, .ref a0), (1, .ref a1), (2, .ref a2), (4, .int v5), (5, .int v9)]) hx hb d_Layout_write_56 hl rfl (by rw [hv9]; rfl) (Nat.le_of_ble_eq_true rfl) rfl) (fun ls hl => ?_)
      refine fs_lift (fun _ _ _ _ => lv_goto hx hb d_Layout_write_59 rfl) ?_
      exact hk2 v10 ls (lv_sub hl [1, 2, 3, 0] rfl)
    · refine fs_ifn (fun _ _ _ _ => lv_if_ne hx hb d_Layout_write_32 rfl) ?_ ?_
      · refine fs_lift (fun _ _ _ _ => lv_iload hx hb d_Layout_write_35 (lv_at hl 1 rfl)) ?_
        refine fs_JS S hG hR [.int v5] (enc := fun r => some (.int r)) (fun zr zs zt zh => m_Layout_fewestBytes X l v5 zh) tw_4_35 tw_4_36 tw_4_37 tw_1_7 q_Layout_fewestBytes ⟨(Nat.le_of_ble_eq_true rfl), (Nat.le_of_ble_eq_true rfl)⟩ hl.1 rfl (Nat.le_of_ble_eq_true rfl) d_Layout_write_37 (fun v8 => ?_)
        refine fs_Jeq (g2 := F0 m 40 ls [.int v8]) rfl ?_
        refine fs_liftL (fun _ _ _ _ => lv_istore (lv' := [(5, .int v8), (4, .int v5), (0, .ref a0), (1, .ref a1), (2, .ref a2), (3, .int v1)]) hx hb d_Layout_write_40 hl (Nat.le_of_ble_eq_true rfl) rfl) (fun ls hl => ?_)
        refine fs_lift (fun _ _ _ _ => lv_aload_n hx hb d_Layout_write_42 rfl (lv_at hl 4 rfl)) ?_
        refine fs_lift (fun _ _ _ _ => lv_iload hx hb d_Layout_write_43 (lv_at hl 0 rfl)) ?_
        refine fs_JV S hG hR rfl [.int v8] (enc := fun _ => none) (fun zr zs zt zh => m_Report_append X l a2 v8 zh) tw_4_43 tw_3_237 tw_3_238 tw_3_239 tw_1_25 q_Report_append ⟨(Nat.le_of_ble_eq_true rfl), (Nat.le_of_ble_eq_true rfl)⟩ hl.1 rfl (Nat.le_of_ble_eq_true rfl) d_Layout_write_45 (fun _ => ?_)
        refine fs_Jeq (g2 := F0 m 48 ls []) rfl ?_
        exact hj48 v8 ls (lv_sub hl [2, 3, 4, 5, 1, 0] rfl)
      · exact hj48 v7 ls (lv_sub hl [2, 3, 4, 5, 1, 0] rfl)

theorem d_Exporter_writeRecords_0 : decode prog_4_method_15_code 0 = .ok (.aload_n 0, 1) := by decide +kernel
theorem d_Exporter_writeRecords_1 : decode prog_4_method_15_code 1 = .ok (.aload_n 1, 1) := by decide +kernel
theorem d_Exporter_writeRecords_2 : decode prog_4_method_15_code 2 = .ok (.getfield 134, 3) := by decide +kernel
theorem d_Exporter_writeRecords_5 : decode prog_4_method_15_code 5 = .ok (.invokevirtual 150, 3) := by decide +kernel
theorem d_Exporter_writeRecords_8 : decode prog_4_method_15_code 8 = .ok (.istore_n 2, 1) := by decide +kernel
theorem d_Exporter_writeRecords_9 : decode prog_4_method_15_code 9 = .ok (.new 122, 3) := by decide +kernel
theorem d_Exporter_writeRecords_12 : decode prog_4_method_15_code 12 = .ok (.dup, 1) := by decide +kernel
theorem d_Exporter_writeRecords_13 : decode prog_4_method_15_code 13 = .ok (.aload_n 0, 1) := by decide +kernel
theorem d_Exporter_writeRecords_14 : decode prog_4_method_15_code 14 = .ok (.getfield 31, 3) := by decide +kernel
theorem d_Exporter_writeRecords_17 : decode prog_4_method_15_code 17 = .ok (.aload_n 0, 1) := by decide +kernel
theorem d_Exporter_writeRecords_18 : decode prog_4_method_15_code 18 = .ok (.getfield 104, 3) := by decide +kernel
theorem d_Exporter_writeRecords_21 : decode prog_4_method_15_code 21 = .ok (.iconst 1, 1) := by decide +kernel
theorem d_Exporter_writeRecords_22 : decode prog_4_method_15_code 22 = .ok (.invokespecial 124, 3) := by decide +kernel
theorem d_Exporter_writeRecords_25 : decode prog_4_method_15_code 25 = .ok (.astore_n 3, 1) := by decide +kernel
theorem d_Exporter_writeRecords_26 : decode prog_4_method_15_code 26 = .ok (.aload_n 3, 1) := by decide +kernel
theorem d_Exporter_writeRecords_27 : decode prog_4_method_15_code 27 = .ok (.aload_n 1, 1) := by decide +kernel
theorem d_Exporter_writeRecords_28 : decode prog_4_method_15_code 28 = .ok (.getfield 127, 3) := by decide +kernel
theorem d_Exporter_writeRecords_31 : decode prog_4_method_15_code 31 = .ok (.invokevirtual 128, 3) := by decide +kernel
theorem d_Exporter_writeRecords_34 : decode prog_4_method_15_code 34 = .ok (.aload_n 3, 1) := by decide +kernel
theorem d_Exporter_writeRecords_35 : decode prog_4_method_15_code 35 = .ok (.aload_n 1, 1) := by decide +kernel
theorem d_Exporter_writeRecords_36 : decode prog_4_method_15_code 36 = .ok (.getfield 131, 3) := by decide +kernel
theorem d_Exporter_writeRecords_39 : decode prog_4_method_15_code 39 = .ok (.invokevirtual 128, 3) := by decide +kernel
theorem d_Exporter_writeRecords_42 : decode prog_4_method_15_code 42 = .ok (.aload_n 3, 1) := by decide +kernel
theorem d_Exporter_writeRecords_43 : decode prog_4_method_15_code 43 = .ok (.iload_n 2, 1) := by decide +kernel
theorem d_Exporter_writeRecords_44 : decode prog_4_method_15_code 44 = .ok (.invokevirtual 128, 3) := by decide +kernel
theorem d_Exporter_writeRecords_47 : decode prog_4_method_15_code 47 = .ok (.aload_n 3, 1) := by decide +kernel
theorem d_Exporter_writeRecords_48 : decode prog_4_method_15_code 48 = .ok (.aload_n 0, 1) := by decide +kernel
theorem d_Exporter_writeRecords_49 : decode prog_4_method_15_code 49 = .ok (.getfield 116, 3) := by decide +kernel
theorem d_Exporter_writeRecords_52 : decode prog_4_method_15_code 52 = .ok (.invokevirtual 128, 3) := by decide +kernel
theorem d_Exporter_writeRecords_55 : decode prog_4_method_15_code 55 = .ok (.iconst 0, 1) := by decide +kernel
theorem d_Exporter_writeRecords_56 : decode prog_4_method_15_code 56 = .ok (.istore 4, 2) := by decide +kernel
theorem d_Exporter_writeRecords_58 : decode prog_4_method_15_code 58 = .ok (.iload 4, 2) := by decide +kernel
theorem d_Exporter_writeRecords_60 : decode prog_4_method_15_code 60 = .ok (.iload_n 2, 1) := by decide +kernel
theorem d_Exporter_writeRecords_61 : decode prog_4_method_15_code 61 = .ok (.if_icmp .ge 38, 3) := by decide +kernel
theorem d_Exporter_writeRecords_64 : decode prog_4_method_15_code 64 = .ok (.aload_n 0, 1) := by decide +kernel
theorem d_Exporter_writeRecords_65 : decode prog_4_method_15_code 65 = .ok (.getfield 18, 3) := by decide +kernel
theorem d_Exporter_writeRecords_68 : decode prog_4_method_15_code 68 = .ok (.invokevirtual 154, 3) := by decide +kernel
theorem d_Exporter_writeRecords_71 : decode prog_4_method_15_code 71 = .ok (.ifCond .ne 28, 3) := by decide +kernel
theorem d_Exporter_writeRecords_74 : decode prog_4_method_15_code 74 = .ok (.aload_n 1, 1) := by decide +kernel
theorem d_Exporter_writeRecords_75 : decode prog_4_method_15_code 75 = .ok (.getfield 134, 3) := by decide +kernel
theorem d_Exporter_writeRecords_78 : decode prog_4_method_15_code 78 = .ok (.aload_n 0, 1) := by decide +kernel
theorem d_Exporter_writeRecords_79 : decode prog_4_method_15_code 79 = .ok (.getfield 18, 3) := by decide +kernel
theorem d_Exporter_writeRecords_82 : decode prog_4_method_15_code 82 = .ok (.iconst 0, 1) := by decide +kernel
theorem d_Exporter_writeRecords_83 : decode prog_4_method_15_code 83 = .ok (.invokevirtual 81, 3) := by decide +kernel
theorem d_Exporter_writeRecords_86 : decode prog_4_method_15_code 86 = .ok (.checkcast 55, 3) := by decide +kernel
theorem d_Exporter_writeRecords_89 : decode prog_4_method_15_code 89 = .ok (.aload_n 3, 1) := by decide +kernel
theorem d_Exporter_writeRecords_90 : decode prog_4_method_15_code 90 = .ok (.invokevirtual 158, 3) := by decide +kernel
theorem d_Exporter_writeRecords_93 : decode prog_4_method_15_code 93 = .ok (.iinc 4 1, 3) := by decide +kernel
theorem d_Exporter_writeRecords_96 : decode prog_4_method_15_code 96 = .ok (.goto (-38), 3) := by decide +kernel
theorem d_Exporter_writeRecords_99 : decode prog_4_method_15_code 99 = .ok (.aload_n 0, 1) := by decide +kernel
theorem d_Exporter_writeRecords_100 : decode prog_4_method_15_code 100 = .ok (.dup, 1) := by decide +kernel
theorem d_Exporter_writeRecords_101 : decode prog_4_method_15_code 101 = .ok (.getfield 116, 3) := by decide +kernel
theorem d_Exporter_writeRecords_104 : decode prog_4_method_15_code 104 = .ok (.iload_n 2, 1) := by decide +kernel
theorem d_Exporter_writeRecords_105 : decode prog_4_method_15_code 105 = .ok (.iadd, 1) := by decide +kernel
theorem d_Exporter_writeRecords_106 : decode prog_4_method_15_code 106 = .ok (.putfield 116, 3) := by decide +kernel
theorem d_Exporter_writeRecords_109 : decode prog_4_method_15_code 109 = .ok (.aload_n 3, 1) := by decide +kernel
theorem d_Exporter_writeRecords_110 : decode prog_4_method_15_code 110 = .ok (.areturn, 1) := by decide +kernel
theorem q_Exporter_writeRecords : (⟨"FlowShelf$Exporter", "writeRecords", "(LFlowShelf$Slot;)LFlowShelf$Report;"⟩ : MethodName).cls ≠ "java/lang/invoke/MethodHandle" ∧ (⟨"FlowShelf$Exporter", "writeRecords", "(LFlowShelf$Slot;)LFlowShelf$Report;"⟩ : MethodName).cls ≠ "java/lang/invoke/VarHandle" ∧ (parseMethodDescriptor (⟨"FlowShelf$Exporter", "writeRecords", "(LFlowShelf$Slot;)LFlowShelf$Report;"⟩ : MethodName).desc).map (fun d => d.parameters.length) = some 1 := by decide +kernel
set_option maxHeartbeats 4000000 in
set_option maxRecDepth 100000 in
theorem m_Exporter_writeRecords (X : fs_X) (l : Launch) (a0 : Nat) (a1 : Nat) {r : Nat} {σ σF : fs_S} (h : (f_Exporter_writeRecords a0 a1).1 σ = some (r, σF)) : fs_Met X l ⟨"FlowShelf$Exporter", "writeRecords", "(LFlowShelf$Slot;)LFlowShelf$Report;"⟩ (Cond.code ⟨"FlowShelf$Exporter", "writeRecords", "(LFlowShelf$Slot;)LFlowShelf$Report;"⟩ prog_4_method_15_code 5 (some (FieldType.object "FlowShelf$Report"))) 4 106 [.ref a0, .ref a1] σ (fs_eR r) σF := by
  refine fs_ofW (by decide) ?_
  intro p e s m args below meth c s₁ B hml hT hv
  obtain ⟨rfl, hw0, hG⟩ := hv
  have hx := B.exec
  have hb := B.bytes
  have hr := B.returns
  have hk := B.notSynchronized
  have S : CallFix p m c prog_4_method_15_code 5 s _ fs_ws "FlowShelf$Exporter" := ⟨B.exec, B.bytes, hml, findClass_of_methodNamed B.named, fun w hw => atoms_spec (ws := _ :: fs_ws) B.pre w (List.mem_cons_of_mem _ hw)⟩
  have hR := fs_hR (fr := 4) (lo := 106) ((f_Exporter_writeRecords a0 a1).2 _ _ _ h)
  have hl := lv_entry ([.ref a0, .ref a1]) (n := 5) (Nat.le_of_ble_eq_true rfl)
  rw [lg_entry_eq]
  generalize (lg_sl ([.ref a0, .ref a1]) ++ List.replicate (5 - (lg_sl ([.ref a0, .ref a1])).length) Slot.unset).toArray = ls at hl ⊢
  have hl : lv_has ls 5 [(0, .ref a0), (1, .ref a1)] := hl
  refine (?_ : fs_J X p l e (fs_rm 4 106 σ σF) s m _ below meth c (fs_Q X below _ s (fs_eR r) σ σF) r σ σF (f_Exporter_writeRecords a0 a1) (F0 m 0 ls [])) σ s.heap [] 0 0 h hw0 va_S.rf rfl rfl
  clear h hw0
  unfold f_Exporter_writeRecords
  refine fs_lift (fun _ _ _ _ => lv_aload_n hx hb d_Exporter_writeRecords_0 rfl (lv_at hl 0 rfl)) ?_
  refine fs_lift (fun _ _ _ _ => lv_aload_n hx hb d_Exporter_writeRecords_1 rfl (lv_at hl 1 rfl)) ?_
  refine fs_Jgr S hG fs_in3 rfl 2 (Nat.le_of_ble_eq_true rfl) tw_1_103 (fun _ h9 => h9) d_Exporter_writeRecords_2 (fun r1 => ?_)
  refine fs_JV S hG hR rfl [.ref r1] (enc := fun r => some (.int r)) (fun zr zs zt zh => m_Exporter_recordsThatFit X l a0 r1 zh) tw_4_25 tw_4_26 tw_4_27 tw_4_28 tw_1_2 q_Exporter_recordsThatFit ⟨(Nat.le_of_ble_eq_true rfl), (Nat.le_of_ble_eq_true rfl)⟩ hl.1 rfl (Nat.le_of_ble_eq_true rfl) d_Exporter_writeRecords_5 (fun v2 => ?_)
  refine fs_Jeq (g2 := F0 m 8 ls [.int v2]) rfl ?_
  refine fs_liftL (fun _ _ _ _ => lv_istore_n (lv' := [(2, .int v2), (0, .ref a0), (1, .ref a1)]) hx hb d_Exporter_writeRecords_8 rfl hl (Nat.le_of_ble_eq_true rfl) rfl) (fun ls hl => ?_)
  refine fs_Jnw S hG hR fs_in9 rfl fs_Y9 fs_ty9 fs_dv9 rfl tw_3_219 tw_3_220 tw_1_25 d_Exporter_writeRecords_9 (fun r3 => ?_)
  refine fs_lift (fun _ _ _ _ => lv_dup hx hb d_Exporter_writeRecords_12 rfl) ?_
  refine fs_lift (fun _ _ _ _ => lv_aload_n hx hb d_Exporter_writeRecords_13 rfl (lv_at hl 1 rfl)) ?_
  refine fs_Jgi S hG fs_in1 rfl 0 (Nat.le_of_ble_eq_true rfl) tw_1_125 (fun _ h9 => h9) d_Exporter_writeRecords_14 (fun v4 => ?_)
  refine fs_lift (fun _ _ _ _ => lv_aload_n hx hb d_Exporter_writeRecords_17 rfl (lv_at hl 1 rfl)) ?_
  refine fs_Jgi S hG fs_in1 rfl 5 (Nat.le_of_ble_eq_true rfl) tw_1_135 (fun _ h9 => h9) d_Exporter_writeRecords_18 (fun v5 => ?_)
  refine fs_lift (fun _ _ _ _ => lv_iconst (v := 1) hx hb d_Exporter_writeRecords_21 (by decide)) ?_
  refine fs_JI S hG hR [.int v4, .int v5, .int 1] (fun zr zs zt zh => m_Report_init_0 X l r3 v4 v5 1 zh) tw_3_221 tw_3_222 tw_3_223 tw_1_25 rfl q_Report_init_0 ⟨(Nat.le_of_ble_eq_true rfl), (Nat.le_of_ble_eq_true rfl)⟩ hl.1 rfl (Nat.le_of_ble_eq_true rfl) d_Exporter_writeRecords_22 ?_
  refine fs_Jeq (g2 := F0 m 25 ls [.ref r3]) rfl ?_
  refine fs_liftL (fun _ _ _ _ => lv_astore_n (lv' := [(3, .ref r3), (2, .int v2), (0, .ref a0), (1, .ref a1)]) hx hb d_Exporter_writeRecords_25 rfl hl (Nat.le_of_ble_eq_true rfl) rfl) (fun ls hl => ?_)
  refine fs_lift (fun _ _ _ _ => lv_aload_n hx hb d_Exporter_writeRecords_26 rfl (lv_at hl 0 rfl)) ?_
  refine fs_lift (fun _ _ _ _ => lv_aload_n hx hb d_Exporter_writeRecords_27 rfl (lv_at hl 3 rfl)) ?_
  refine fs_Jgi S hG fs_in3 rfl 0 (Nat.le_of_ble_eq_true rfl) tw_1_99 (fun _ h9 => h9) d_Exporter_writeRecords_28 (fun v6 => ?_)
  refine fs_JV S hG hR rfl [.int v6] (enc := fun _ => none) (fun zr zs zt zh => m_Report_append X l r3 v6 zh) tw_3_236 tw_3_237 tw_3_238 tw_3_239 tw_1_25 q_Report_append ⟨(Nat.le_of_ble_eq_true rfl), (Nat.le_of_ble_eq_true rfl)⟩ hl.1 rfl (Nat.le_of_ble_eq_true rfl) d_Exporter_writeRecords_31 (fun _ => ?_)
  refine fs_Jeq (g2 := F0 m 34 ls []) rfl ?_
  refine fs_lift (fun _ _ _ _ => lv_aload_n hx hb d_Exporter_writeRecords_34 rfl (lv_at hl 0 rfl)) ?_
  refine fs_lift (fun _ _ _ _ => lv_aload_n hx hb d_Exporter_writeRecords_35 rfl (lv_at hl 3 rfl)) ?_
  refine fs_Jgi S hG fs_in3 rfl 4 (Nat.le_of_ble_eq_true rfl) tw_1_109 (fun _ h9 => h9) d_Exporter_writeRecords_36 (fun v7 => ?_)
  refine fs_JV S hG hR rfl [.int v7] (enc := fun _ => none) (fun zr zs zt zh => m_Report_append X l r3 v7 zh) tw_3_236 tw_3_237 tw_3_238 tw_3_239 tw_1_25 q_Report_append ⟨(Nat.le_of_ble_eq_true rfl), (Nat.le_of_ble_eq_true rfl)⟩ hl.1 rfl (Nat.le_of_ble_eq_true rfl) d_Exporter_writeRecords_39 (fun _ => ?_)
  refine fs_Jeq (g2 := F0 m 42 ls []) rfl ?_
  refine fs_lift (fun _ _ _ _ => lv_aload_n hx hb d_Exporter_writeRecords_42 rfl (lv_at hl 0 rfl)) ?_
  refine fs_lift (fun _ _ _ _ => lv_iload_n hx hb d_Exporter_writeRecords_43 rfl (lv_at hl 1 rfl)) ?_
  refine fs_JV S hG hR rfl [.int v2] (enc := fun _ => none) (fun zr zs zt zh => m_Report_append X l r3 v2 zh) tw_3_236 tw_3_237 tw_3_238 tw_3_239 tw_1_25 q_Report_append ⟨(Nat.le_of_ble_eq_true rfl), (Nat.le_of_ble_eq_true rfl)⟩ hl.1 rfl (Nat.le_of_ble_eq_true rfl) d_Exporter_writeRecords_44 (fun _ => ?_)
  refine fs_Jeq (g2 := F0 m 47 ls []) rfl ?_
  refine fs_lift (fun _ _ _ _ => lv_aload_n hx hb d_Exporter_writeRecords_47 rfl (lv_at hl 0 rfl)) ?_
  refine fs_lift (fun _ _ _ _ => lv_aload_n hx hb d_Exporter_writeRecords_48 rfl (lv_at hl 2 rfl)) ?_
  refine fs_Jgi S hG fs_in1 rfl 9 (Nat.le_of_ble_eq_true rfl) tw_1_140 (fun _ h9 => h9) d_Exporter_writeRecords_49 (fun v8 => ?_)
  refine fs_JV S hG hR rfl [.int v8] (enc := fun _ => none) (fun zr zs zt zh => m_Report_append X l r3 v8 zh) tw_3_236 tw_3_237 tw_3_238 tw_3_239 tw_1_25 q_Report_append ⟨(Nat.le_of_ble_eq_true rfl), (Nat.le_of_ble_eq_true rfl)⟩ hl.1 rfl (Nat.le_of_ble_eq_true rfl) d_Exporter_writeRecords_52 (fun _ => ?_)
  refine fs_Jeq (g2 := F0 m 55 ls []) rfl ?_
  refine fs_lift (fun _ _ _ _ => lv_iconst (v := 0) hx hb d_Exporter_writeRecords_55 (by decide)) ?_
  refine fs_liftL (fun _ _ _ _ => lv_istore (lv' := [(4, .int 0), (3, .ref r3), (2, .int v2), (0, .ref a0), (1, .ref a1)]) hx hb d_Exporter_writeRecords_56 hl (Nat.le_of_ble_eq_true rfl) rfl) (fun ls hl => ?_)
  refine fs_Jlp1 (nL := 5) (pc := 58) (rest := []) (I := fun (v9 : Int32) => [(0, .ref a0), (1, .ref a1), (2, .int v2), (3, .ref r3), (4, .int v9)]) (fun k58 hk58 v9 ls hl => ?_) _ _ _ (lv_sub hl [3, 4, 2, 1, 0] rfl)
  refine fs_lift (fun _ _ _ _ => lv_iload hx hb d_Exporter_writeRecords_58 (lv_at hl 4 rfl)) ?_
  refine fs_lift (fun _ _ _ _ => lv_iload_n hx hb d_Exporter_writeRecords_60 rfl (lv_at hl 2 rfl)) ?_
  refine fs_Jlet1 (nL := 5) (pj := 99) (I := fun (_ : Unit) => [(0, .ref a0), (2, .int v2), (3, .ref r3)]) (st := fun (_ : Unit) => []) (fun _ ls hl => ?_) (fun j99 hj99 => ?_)
  · refine fs_lift (fun _ _ _ _ => lv_aload_n hx hb d_Exporter_writeRecords_99 rfl (lv_at hl 0 rfl)) ?_
    refine fs_lift (fun _ _ _ _ => lv_dup hx hb d_Exporter_writeRecords_100 rfl) ?_
    refine fs_Jgi S hG fs_in1 rfl 9 (Nat.le_of_ble_eq_true rfl) tw_1_140 (fun _ h9 => h9) d_Exporter_writeRecords_101 (fun v16 => ?_)
    refine fs_lift (fun _ _ _ _ => lv_iload_n hx hb d_Exporter_writeRecords_104 rfl (lv_at hl 1 rfl)) ?_
    refine fs_lift (fun _ _ _ _ => lv_iadd hx hb d_Exporter_writeRecords_105) ?_
    refine fs_Jput S hG fs_in1 rfl 9 (Nat.le_of_ble_eq_true rfl) tw_1_140 (fun _ h9 => h9) fs_Y1 fs_ty1 fs_nm1 (Or.inl rfl) rfl rfl d_Exporter_writeRecords_106 ?_
    refine fs_lift (fun _ _ _ _ => lv_aload_n hx hb d_Exporter_writeRecords_109 rfl (lv_at hl 2 rfl)) ?_
    exact fs_Jaret S hr (Or.inl ⟨_, rfl⟩) hk rfl d_Exporter_writeRecords_110
  · refine fs_if (fun _ _ _ _ => lv_icmp_ge hx hb d_Exporter_writeRecords_61 rfl) ?_ ?_
    · exact hj99 () ls (lv_sub hl [0, 2, 3] rfl)
    · refine fs_lift (fun _ _ _ _ => lv_aload_n hx hb d_Exporter_writeRecords_64 rfl (lv_at hl 0 rfl)) ?_
      refine fs_Jgr S hG fs_in1 rfl 2 (Nat.le_of_ble_eq_true rfl) tw_1_128 (fun _ h9 => h9) d_Exporter_writeRecords_65 (fun r10 => ?_)
      refine fs_JV S hG hR rfl [] (enc := fun r => some (.int r)) (fun zr zs zt zh => m_ArrayList_isEmpty X l r10 zh) tw_4_38 tw_4_17 tw_4_18 tw_4_19 tw_1_5 q_ArrayList_isEmpty ⟨(Nat.le_of_ble_eq_true rfl), (Nat.le_of_ble_eq_true rfl)⟩ hl.1 rfl (Nat.le_of_ble_eq_true rfl) d_Exporter_writeRecords_68 (fun v11 => ?_)
      refine fs_Jeq (g2 := F0 m 71 ls [.int v11]) rfl ?_
      refine fs_ifn (fun _ _ _ _ => lv_if_ne hx hb d_Exporter_writeRecords_71 rfl) ?_ ?_
      · refine fs_lift (fun _ _ _ _ => lv_aload_n hx hb d_Exporter_writeRecords_74 rfl (lv_at hl 1 rfl)) ?_
        refine fs_Jgr S hG fs_in3 rfl 2 (Nat.le_of_ble_eq_true rfl) tw_1_103 (fun _ h9 => h9) d_Exporter_writeRecords_75 (fun r12 => ?_)
        refine fs_lift (fun _ _ _ _ => lv_aload_n hx hb d_Exporter_writeRecords_78 rfl (lv_at hl 0 rfl)) ?_
        refine fs_Jgr S hG fs_in1 rfl 2 (Nat.le_of_ble_eq_true rfl) tw_1_128 (fun _ h9 => h9) d_Exporter_writeRecords_79 (fun r13 => ?_)
        refine fs_lift (fun _ _ _ _ => lv_iconst (v := 0) hx hb d_Exporter_writeRecords_82 (by decide)) ?_
        refine fs_JV S hG hR rfl [.int 0] (enc := fun r => some (.ref r)) (fun zr zs zt zh => m_ArrayList_remove X l r13 0 zh) tw_2_188 tw_2_189 tw_2_190 tw_2_191 tw_1_5 q_ArrayList_remove ⟨(Nat.le_of_ble_eq_true rfl), (Nat.le_of_ble_eq_true rfl)⟩ hl.1 rfl (Nat.le_of_ble_eq_true rfl) d_Exporter_writeRecords_83 (fun r14 => ?_)
        refine fs_Jeq (g2 := F0 m 86 ls [.ref r14, .ref r12]) rfl ?_
        refine fs_Jck S hG rfl tw_2_175 tb_7_82 d_Exporter_writeRecords_86 ?_
        refine fs_lift (fun _ _ _ _ => lv_aload_n hx hb d_Exporter_writeRecords_89 rfl (lv_at hl 3 rfl)) ?_
        refine fs_JV S hG hR rfl [.ref r14, .ref r3] (enc := fun _ => none) (fun zr zs zt zh => m_Layout_write X l r12 r14 r3 zh) tw_4_39 tw_4_40 tw_4_41 tw_4_42 tw_1_7 q_Layout_write ⟨(Nat.le_of_ble_eq_true rfl), (Nat.le_of_ble_eq_true rfl)⟩ hl.1 rfl (Nat.le_of_ble_eq_true rfl) d_Exporter_writeRecords_90 (fun _ => ?_)
        refine fs_Jeq (g2 := F0 m 93 ls []) rfl ?_
        refine fs_Jnm (fun v15 hv9 => ?_)
        refine fs_liftL (fun _ _ _ _ => lv_iinc (k := 4) (v := v15) (lv' := [(4, .int v15), (0, .ref a0), (1, .ref a1), (2, .int v2), (3, .ref r3)]) hx hb d_Exporter_writeRecords_93 hl rfl (by rw [hv9]; rfl) (Nat.le_of_ble_eq_true rfl) rfl) (fun ls hl => ?_)
        refine fs_lift (fun _ _ _ _ => lv_goto hx hb d_Exporter_writeRecords_96 rfl) ?_
        exact hk58 v15 ls (lv_sub hl [1, 2, 3, 4, 0] rfl)
      · exact hj99 () ls (lv_sub hl [0, 2, 3] rfl)

theorem d_Fs_report_0 : decode prog_1_method_12_code 0 = .ok (.aload_n 0, 1) := by decide +kernel
theorem d_Fs_report_1 : decode prog_1_method_12_code 1 = .ok (.iload_n 1, 1) := by decide +kernel
theorem d_Fs_report_2 : decode prog_1_method_12_code 2 = .ok (.invokevirtual 35, 3) := by decide +kernel
theorem d_Fs_report_5 : decode prog_1_method_12_code 5 = .ok (.astore_n 2, 1) := by decide +kernel
theorem d_Fs_report_6 : decode prog_1_method_12_code 6 = .ok (.aload_n 2, 1) := by decide +kernel
theorem d_Fs_report_7 : decode prog_1_method_12_code 7 = .ok (.invokevirtual 177, 3) := by decide +kernel
theorem d_Fs_report_10 : decode prog_1_method_12_code 10 = .ok (.istore_n 3, 1) := by decide +kernel
theorem d_Fs_report_11 : decode prog_1_method_12_code 11 = .ok (.iload_n 3, 1) := by decide +kernel
theorem d_Fs_report_12 : decode prog_1_method_12_code 12 = .ok (.iconst (-1), 1) := by decide +kernel
theorem d_Fs_report_13 : decode prog_1_method_12_code 13 = .ok (.if_icmp .eq 10, 3) := by decide +kernel
theorem d_Fs_report_16 : decode prog_1_method_12_code 16 = .ok (.aload_n 0, 1) := by decide +kernel
theorem d_Fs_report_17 : decode prog_1_method_12_code 17 = .ok (.invokevirtual 164, 3) := by decide +kernel
theorem d_Fs_report_20 : decode prog_1_method_12_code 20 = .ok (.ifCond .eq 13, 3) := by decide +kernel
theorem d_Fs_report_23 : decode prog_1_method_12_code 23 = .ok (.new 56, 3) := by decide +kernel
theorem d_Fs_report_26 : decode prog_1_method_12_code 26 = .ok (.dup, 1) := by decide +kernel
theorem d_Fs_report_27 : decode prog_1_method_12_code 27 = .ok (.ldc 167, 2) := by decide +kernel
theorem d_Fs_report_29 : decode prog_1_method_12_code 29 = .ok (.invokespecial 60, 3) := by decide +kernel
theorem d_Fs_report_32 : decode prog_1_method_12_code 32 = .ok (.athrow, 1) := by decide +kernel
theorem d_Fs_report_33 : decode prog_1_method_12_code 33 = .ok (.aload_n 2, 1) := by decide +kernel
theorem d_Fs_report_34 : decode prog_1_method_12_code 34 = .ok (.getfield 85, 3) := by decide +kernel
theorem d_Fs_report_37 : decode prog_1_method_12_code 37 = .ok (.invokevirtual 180, 3) := by decide +kernel
theorem d_Fs_report_40 : decode prog_1_method_12_code 40 = .ok (.ifCond .ne 12, 3) := by decide +kernel
theorem d_Fs_report_43 : decode prog_1_method_12_code 43 = .ok (.aload_n 2, 1) := by decide +kernel
theorem d_Fs_report_44 : decode prog_1_method_12_code 44 = .ok (.getfield 183, 3) := by decide +kernel
theorem d_Fs_report_47 : decode prog_1_method_12_code 47 = .ok (.bipush 100, 2) := by decide +kernel
theorem d_Fs_report_49 : decode prog_1_method_12_code 49 = .ok (.if_icmp .lt 13, 3) := by decide +kernel
theorem d_Fs_report_52 : decode prog_1_method_12_code 52 = .ok (.new 56, 3) := by decide +kernel
theorem d_Fs_report_55 : decode prog_1_method_12_code 55 = .ok (.dup, 1) := by decide +kernel
theorem d_Fs_report_56 : decode prog_1_method_12_code 56 = .ok (.ldc 186, 2) := by decide +kernel
theorem d_Fs_report_58 : decode prog_1_method_12_code 58 = .ok (.invokespecial 60, 3) := by decide +kernel
theorem d_Fs_report_61 : decode prog_1_method_12_code 61 = .ok (.athrow, 1) := by decide +kernel
theorem d_Fs_report_62 : decode prog_1_method_12_code 62 = .ok (.aload_n 0, 1) := by decide +kernel
theorem d_Fs_report_63 : decode prog_1_method_12_code 63 = .ok (.aload_n 2, 1) := by decide +kernel
theorem d_Fs_report_64 : decode prog_1_method_12_code 64 = .ok (.aload_n 2, 1) := by decide +kernel
theorem d_Fs_report_65 : decode prog_1_method_12_code 65 = .ok (.getfield 188, 3) := by decide +kernel
theorem d_Fs_report_68 : decode prog_1_method_12_code 68 = .ok (.iload_n 3, 1) := by decide +kernel
theorem d_Fs_report_69 : decode prog_1_method_12_code 69 = .ok (.aaload, 1) := by decide +kernel
theorem d_Fs_report_70 : decode prog_1_method_12_code 70 = .ok (.invokevirtual 192, 3) := by decide +kernel
theorem d_Fs_report_73 : decode prog_1_method_12_code 73 = .ok (.invokevirtual 173, 3) := by decide +kernel
theorem d_Fs_report_76 : decode prog_1_method_12_code 76 = .ok (.ireturn, 1) := by decide +kernel
theorem q_Fs_report : (⟨"FlowShelf", "report", "(I)I"⟩ : MethodName).cls ≠ "java/lang/invoke/MethodHandle" ∧ (⟨"FlowShelf", "report", "(I)I"⟩ : MethodName).cls ≠ "java/lang/invoke/VarHandle" ∧ (parseMethodDescriptor (⟨"FlowShelf", "report", "(I)I"⟩ : MethodName).desc).map (fun d => d.parameters.length) = some 1 := by decide +kernel
set_option maxHeartbeats 4000000 in
set_option maxRecDepth 100000 in
theorem m_Fs_report (X : fs_X) (l : Launch) (hl0 : l.stackTraces = false) (a0 : Nat) (x1 : Int32) {r : (Int32 ⊕ String)} {σ σF : fs_S} (h : (f_Fs_report a0 x1).1 σ = some (r, σF)) : fs_Met X l ⟨"FlowShelf", "report", "(I)I"⟩ (Cond.code ⟨"FlowShelf", "report", "(I)I"⟩ prog_1_method_12_code 4 (some FieldType.int)) 8 212 [.ref a0, .int x1] σ (fs_qI r) σF := by
  refine fs_ofW (by decide) ?_
  intro p e s m args below meth c s₁ B hml hT hv
  obtain ⟨rfl, hw0, hG⟩ := hv
  have hx := B.exec
  have hb := B.bytes
  have hr := B.returns
  have hk := B.notSynchronized
  have S : CallFix p m c prog_1_method_12_code 4 s _ fs_ws "FlowShelf" := ⟨B.exec, B.bytes, hml, findClass_of_methodNamed B.named, fun w hw => atoms_spec (ws := _ :: fs_ws) B.pre w (List.mem_cons_of_mem _ hw)⟩
  have hR := fs_hR (fr := 8) (lo := 212) ((f_Fs_report a0 x1).2 _ _ _ h)
  have hl := lv_entry ([.ref a0, .int x1]) (n := 4) (Nat.le_of_ble_eq_true rfl)
  rw [lg_entry_eq]
  generalize (lg_sl ([.ref a0, .int x1]) ++ List.replicate (4 - (lg_sl ([.ref a0, .int x1])).length) Slot.unset).toArray = ls at hl ⊢
  have hl : lv_has ls 4 [(0, .ref a0), (1, .int x1)] := hl
  refine (?_ : fs_J X p l e (fs_rm 8 212 σ σF) s m _ below meth c (fs_Q X below _ s (fs_qI r) σ σF) r σ σF (f_Fs_report a0 x1) (F0 m 0 ls [])) σ s.heap [] 0 0 h hw0 va_S.rf rfl rfl
  clear h hw0
  unfold f_Fs_report
  refine fs_lift (fun _ _ _ _ => lv_aload_n hx hb d_Fs_report_0 rfl (lv_at hl 0 rfl)) ?_
  refine fs_lift (fun _ _ _ _ => lv_iload_n hx hb d_Fs_report_1 rfl (lv_at hl 1 rfl)) ?_
  refine fs_JVx S hG hR hT hk rfl [.int x1] (fun r => some (.ref r)) (encx := fs_qR) (fun _ => rfl) (fun _ => rfl) (fun zr zs zt zh => m_Fs_exporterOf X l hl0 a0 x1 zh) tw_2_60 tw_2_62 tp_1_1 tw_2_63 tw_1_1 q_Fs_exporterOf ⟨(Nat.le_of_ble_eq_true rfl), (Nat.le_of_ble_eq_true rfl)⟩ hl.1 rfl (Nat.le_of_ble_eq_true rfl) d_Fs_report_2 (enc := fs_qI) (fun _ => rfl) (fun r1 => ?_)
  refine fs_Jeq (g2 := F0 m 5 ls [.ref r1]) rfl ?_
  refine fs_liftL (fun _ _ _ _ => lv_astore_n (lv' := [(2, .ref r1), (0, .ref a0), (1, .int x1)]) hx hb d_Fs_report_5 rfl hl (Nat.le_of_ble_eq_true rfl) rfl) (fun ls hl => ?_)
  refine fs_lift (fun _ _ _ _ => lv_aload_n hx hb d_Fs_report_6 rfl (lv_at hl 0 rfl)) ?_
  refine fs_JV S hG hR rfl [] (enc := fun r => some (.int r)) (fun zr zs zt zh => m_Exporter_numberSealedLast X l r1 zh) tw_4_12 tw_4_13 tw_4_14 tw_4_15 tw_1_2 q_Exporter_numberSealedLast ⟨(Nat.le_of_ble_eq_true rfl), (Nat.le_of_ble_eq_true rfl)⟩ hl.1 rfl (Nat.le_of_ble_eq_true rfl) d_Fs_report_7 (fun v2 => ?_)
  refine fs_Jeq (g2 := F0 m 10 ls [.int v2]) rfl ?_
  refine fs_liftL (fun _ _ _ _ => lv_istore_n (lv' := [(3, .int v2), (2, .ref r1), (0, .ref a0), (1, .int x1)]) hx hb d_Fs_report_10 rfl hl (Nat.le_of_ble_eq_true rfl) rfl) (fun ls hl => ?_)
  refine fs_lift (fun _ _ _ _ => lv_iload_n hx hb d_Fs_report_11 rfl (lv_at hl 0 rfl)) ?_
  refine fs_lift (fun _ _ _ _ => lv_iconst (v := (-1)) hx hb d_Fs_report_12 (by decide)) ?_
  refine fs_Jlet1 (nL := 4) (pj := 23) (I := fun (_ : Unit) => []) (st := fun (_ : Unit) => []) (fun _ ls hl => ?_) (fun j23 hj23 => ?_)
  · exact fs_Jthrow S hG hR hl0 (names := fs_nms) (len := 2) (.ldc 167) (Or.inl ⟨rfl, rfl⟩) (by decide) fs_fit fs_at2 tw_2_146 tw_1_16 tb_3_214 hl.1 hT hk (Nat.le_of_ble_eq_true rfl) (Nat.le_of_ble_eq_true rfl) d_Fs_report_23 d_Fs_report_26 d_Fs_report_27 d_Fs_report_29 d_Fs_report_32 rfl
  · refine fs_if (fun _ _ _ _ => lv_icmp_eq hx hb d_Fs_report_13 rfl) ?_ ?_
    · exact hj23 () ls (lv_sub hl [] rfl)
    · refine fs_lift (fun _ _ _ _ => lv_aload_n hx hb d_Fs_report_16 rfl (lv_at hl 2 rfl)) ?_
      refine fs_JV S hG hR rfl [] (enc := fun r => some (.int r)) (fun zr zs zt zh => m_Fs_hasNoRoomForReport X l a0 zh) tw_3_210 tw_3_212 tp_1_8 tw_3_213 tw_1_1 q_Fs_hasNoRoomForReport ⟨(Nat.le_of_ble_eq_true rfl), (Nat.le_of_ble_eq_true rfl)⟩ hl.1 rfl (Nat.le_of_ble_eq_true rfl) d_Fs_report_17 (fun v3 => ?_)
      refine fs_Jeq (g2 := F0 m 20 ls [.int v3]) rfl ?_
      refine fs_if (fun _ _ _ _ => lv_if_eq hx hb d_Fs_report_20 rfl) ?_ ?_
      · refine fs_lift (fun _ _ _ _ => lv_aload_n hx hb d_Fs_report_33 rfl (lv_at hl 1 rfl)) ?_
        refine fs_Jgr S hG fs_in1 rfl 2 (Nat.le_of_ble_eq_true rfl) tw_1_129 (fun _ h9 => h9) d_Fs_report_34 (fun r4 => ?_)
        refine fs_JV S hG hR rfl [] (enc := fun r => some (.int r)) (fun zr zs zt zh => m_ArrayList_isEmpty X l r4 zh) tw_4_16 tw_4_17 tw_4_18 tw_4_19 tw_1_5 q_ArrayList_isEmpty ⟨(Nat.le_of_ble_eq_true rfl), (Nat.le_of_ble_eq_true rfl)⟩ hl.1 rfl (Nat.le_of_ble_eq_true rfl) d_Fs_report_37 (fun v5 => ?_)
        refine fs_Jeq (g2 := F0 m 40 ls [.int v5]) rfl ?_
        refine fs_Jlet1 (nL := 4) (pj := 52) (I := fun (_ : Unit) => []) (st := fun (_ : Unit) => []) (fun _ ls hl => ?_) (fun j52 hj52 => ?_)
        · exact fs_Jthrow S hG hR hl0 (names := fs_nms) (len := 2) (.ldc 186) (Or.inl ⟨rfl, rfl⟩) (by decide) fs_fit fs_at2 tw_2_146 tw_1_16 tb_4_20 hl.1 hT hk (Nat.le_of_ble_eq_true rfl) (Nat.le_of_ble_eq_true rfl) d_Fs_report_52 d_Fs_report_55 d_Fs_report_56 d_Fs_report_58 d_Fs_report_61 rfl
        · refine fs_ifn (fun _ _ _ _ => lv_if_ne hx hb d_Fs_report_40 rfl) ?_ ?_
          · refine fs_lift (fun _ _ _ _ => lv_aload_n hx hb d_Fs_report_43 rfl (lv_at hl 1 rfl)) ?_
            refine fs_Jgi S hG fs_in1 rfl 9 (Nat.le_of_ble_eq_true rfl) tw_1_139 (fun _ h9 => h9) d_Fs_report_44 (fun v6 => ?_)
            refine fs_lift (fun _ _ _ _ => lv_bipush (v := 100) hx hb d_Fs_report_47 (by decide)) ?_
            refine fs_if (fun _ _ _ _ => lv_icmp_lt hx hb d_Fs_report_49 rfl) ?_ ?_
            · refine fs_lift (fun _ _ _ _ => lv_aload_n hx hb d_Fs_report_62 rfl (lv_at hl 2 rfl)) ?_
              refine fs_lift (fun _ _ _ _ => lv_aload_n hx hb d_Fs_report_63 rfl (lv_at hl 1 rfl)) ?_
              refine fs_lift (fun _ _ _ _ => lv_aload_n hx hb d_Fs_report_64 rfl (lv_at hl 1 rfl)) ?_
              refine fs_Jgr S hG fs_in1 rfl 3 (Nat.le_of_ble_eq_true rfl) tw_1_131 (fun _ h9 => h9) d_Fs_report_65 (fun r7 => ?_)
              refine fs_lift (fun _ _ _ _ => lv_iload_n hx hb d_Fs_report_68 rfl (lv_at hl 0 rfl)) ?_
              refine fs_Jar S hG d_Fs_report_69 (fun r8 => ?_)
              refine fs_JV S hG hR rfl [.ref r8] (enc := fun r => some (.ref r)) (fun zr zs zt zh => m_Exporter_writeRecords X l r1 r8 zh) tw_4_21 tw_4_22 tw_4_23 tw_4_24 tw_1_2 q_Exporter_writeRecords ⟨(Nat.le_of_ble_eq_true rfl), (Nat.le_of_ble_eq_true rfl)⟩ hl.1 rfl (Nat.le_of_ble_eq_true rfl) d_Fs_report_70 (fun r9 => ?_)
              refine fs_Jeq (g2 := F0 m 73 ls [.ref r9, .ref a0]) rfl ?_
              refine fs_JV S hG hR rfl [.ref r9] (enc := fun r => some (.int r)) (fun zr zs zt zh => m_Fs_keep X l a0 r9 zh) tw_4_0 tw_4_2 tp_1_9 tw_4_3 tw_1_1 q_Fs_keep ⟨(Nat.le_of_ble_eq_true rfl), (Nat.le_of_ble_eq_true rfl)⟩ hl.1 rfl (Nat.le_of_ble_eq_true rfl) d_Fs_report_73 (fun v10 => ?_)
              refine fs_Jeq (g2 := F0 m 76 ls [.int v10]) rfl ?_
              exact fs_Jiret S hr hk rfl d_Fs_report_76
            · exact hj52 () ls (lv_sub hl [] rfl)
          · exact hj52 () ls (lv_sub hl [] rfl)
      · exact hj23 () ls (lv_sub hl [] rfl)

theorem d_Exporter_writeSampler_0 : decode prog_4_method_17_code 0 = .ok (.new 122, 3) := by decide +kernel
theorem d_Exporter_writeSampler_3 : decode prog_4_method_17_code 3 = .ok (.dup, 1) := by decide +kernel
theorem d_Exporter_writeSampler_4 : decode prog_4_method_17_code 4 = .ok (.aload_n 0, 1) := by decide +kernel
theorem d_Exporter_writeSampler_5 : decode prog_4_method_17_code 5 = .ok (.getfield 31, 3) := by decide +kernel
theorem d_Exporter_writeSampler_8 : decode prog_4_method_17_code 8 = .ok (.aload_n 0, 1) := by decide +kernel
theorem d_Exporter_writeSampler_9 : decode prog_4_method_17_code 9 = .ok (.getfield 104, 3) := by decide +kernel
theorem d_Exporter_writeSampler_12 : decode prog_4_method_17_code 12 = .ok (.iconst 2, 1) := by decide +kernel
theorem d_Exporter_writeSampler_13 : decode prog_4_method_17_code 13 = .ok (.invokespecial 124, 3) := by decide +kernel
theorem d_Exporter_writeSampler_16 : decode prog_4_method_17_code 16 = .ok (.astore_n 1, 1) := by decide +kernel
theorem d_Exporter_writeSampler_17 : decode prog_4_method_17_code 17 = .ok (.aload_n 1, 1) := by decide +kernel
theorem d_Exporter_writeSampler_18 : decode prog_4_method_17_code 18 = .ok (.aload_n 0, 1) := by decide +kernel
theorem d_Exporter_writeSampler_19 : decode prog_4_method_17_code 19 = .ok (.getfield 119, 3) := by decide +kernel
theorem d_Exporter_writeSampler_22 : decode prog_4_method_17_code 22 = .ok (.invokevirtual 128, 3) := by decide +kernel
theorem d_Exporter_writeSampler_25 : decode prog_4_method_17_code 25 = .ok (.aload_n 1, 1) := by decide +kernel
theorem d_Exporter_writeSampler_26 : decode prog_4_method_17_code 26 = .ok (.aload_n 0, 1) := by decide +kernel
theorem d_Exporter_writeSampler_27 : decode prog_4_method_17_code 27 = .ok (.getfield 27, 3) := by decide +kernel
theorem d_Exporter_writeSampler_30 : decode prog_4_method_17_code 30 = .ok (.invokevirtual 128, 3) := by decide +kernel
theorem d_Exporter_writeSampler_33 : decode prog_4_method_17_code 33 = .ok (.aload_n 0, 1) := by decide +kernel
theorem d_Exporter_writeSampler_34 : decode prog_4_method_17_code 34 = .ok (.dup, 1) := by decide +kernel
theorem d_Exporter_writeSampler_35 : decode prog_4_method_17_code 35 = .ok (.getfield 119, 3) := by decide +kernel
theorem d_Exporter_writeSampler_38 : decode prog_4_method_17_code 38 = .ok (.iconst 1, 1) := by decide +kernel
theorem d_Exporter_writeSampler_39 : decode prog_4_method_17_code 39 = .ok (.iadd, 1) := by decide +kernel
theorem d_Exporter_writeSampler_40 : decode prog_4_method_17_code 40 = .ok (.putfield 119, 3) := by decide +kernel
theorem d_Exporter_writeSampler_43 : decode prog_4_method_17_code 43 = .ok (.aload_n 1, 1) := by decide +kernel
theorem d_Exporter_writeSampler_44 : decode prog_4_method_17_code 44 = .ok (.areturn, 1) := by decide +kernel
theorem q_Exporter_writeSampler : (⟨"FlowShelf$Exporter", "writeSampler", "()LFlowShelf$Report;"⟩ : MethodName).cls ≠ "java/lang/invoke/MethodHandle" ∧ (⟨"FlowShelf$Exporter", "writeSampler", "()LFlowShelf$Report;"⟩ : MethodName).cls ≠ "java/lang/invoke/VarHandle" ∧ (parseMethodDescriptor (⟨"FlowShelf$Exporter", "writeSampler", "()LFlowShelf$Report;"⟩ : MethodName).desc).map (fun d => d.parameters.length) = some 0 := by decide +kernel
set_option maxHeartbeats 4000000 in
set_option maxRecDepth 100000 in
theorem m_Exporter_writeSampler (X : fs_X) (l : Launch) (a0 : Nat) {r : Nat} {σ σF : fs_S} (h : (f_Exporter_writeSampler a0).1 σ = some (r, σF)) : fs_Met X l ⟨"FlowShelf$Exporter", "writeSampler", "()LFlowShelf$Report;"⟩ (Cond.code ⟨"FlowShelf$Exporter", "writeSampler", "()LFlowShelf$Report;"⟩ prog_4_method_17_code 2 (some (FieldType.object "FlowShelf$Report"))) 2 35 [.ref a0] σ (fs_eR r) σF := by
  refine fs_ofW (by decide) ?_
  intro p e s m args below meth c s₁ B hml hT hv
  obtain ⟨rfl, hw0, hG⟩ := hv
  have hx := B.exec
  have hb := B.bytes
  have hr := B.returns
  have hk := B.notSynchronized
  have S : CallFix p m c prog_4_method_17_code 2 s _ fs_ws "FlowShelf$Exporter" := ⟨B.exec, B.bytes, hml, findClass_of_methodNamed B.named, fun w hw => atoms_spec (ws := _ :: fs_ws) B.pre w (List.mem_cons_of_mem _ hw)⟩
  have hR := fs_hR (fr := 2) (lo := 35) ((f_Exporter_writeSampler a0).2 _ _ _ h)
  have hl := lv_entry ([.ref a0]) (n := 2) (Nat.le_of_ble_eq_true rfl)
  rw [lg_entry_eq]
  generalize (lg_sl ([.ref a0]) ++ List.replicate (2 - (lg_sl ([.ref a0])).length) Slot.unset).toArray = ls at hl ⊢
  have hl : lv_has ls 2 [(0, .ref a0)] := hl
  refine (?_ : fs_J X p l e (fs_rm 2 35 σ σF) s m _ below meth c (fs_Q X below _ s (fs_eR r) σ σF) r σ σF (f_Exporter_writeSampler a0) (F0 m 0 ls [])) σ s.heap [] 0 0 h hw0 va_S.rf rfl rfl
  clear h hw0
  unfold f_Exporter_writeSampler
  refine fs_Jnw S hG hR fs_in9 rfl fs_Y9 fs_ty9 fs_dv9 rfl tw_3_219 tw_3_220 tw_1_25 d_Exporter_writeSampler_0 (fun r1 => ?_)
  refine fs_lift (fun _ _ _ _ => lv_dup hx hb d_Exporter_writeSampler_3 rfl) ?_
  refine fs_lift (fun _ _ _ _ => lv_aload_n hx hb d_Exporter_writeSampler_4 rfl (lv_at hl 0 rfl)) ?_
  refine fs_Jgi S hG fs_in1 rfl 0 (Nat.le_of_ble_eq_true rfl) tw_1_125 (fun _ h9 => h9) d_Exporter_writeSampler_5 (fun v2 => ?_)
  refine fs_lift (fun _ _ _ _ => lv_aload_n hx hb d_Exporter_writeSampler_8 rfl (lv_at hl 0 rfl)) ?_
  refine fs_Jgi S hG fs_in1 rfl 5 (Nat.le_of_ble_eq_true rfl) tw_1_135 (fun _ h9 => h9) d_Exporter_writeSampler_9 (fun v3 => ?_)
  refine fs_lift (fun _ _ _ _ => lv_iconst (v := 2) hx hb d_Exporter_writeSampler_12 (by decide)) ?_
  refine fs_JI S hG hR [.int v2, .int v3, .int 2] (fun zr zs zt zh => m_Report_init_0 X l r1 v2 v3 2 zh) tw_3_221 tw_3_222 tw_3_223 tw_1_25 rfl q_Report_init_0 ⟨(Nat.le_of_ble_eq_true rfl), (Nat.le_of_ble_eq_true rfl)⟩ hl.1 rfl (Nat.le_of_ble_eq_true rfl) d_Exporter_writeSampler_13 ?_
  refine fs_Jeq (g2 := F0 m 16 ls [.ref r1]) rfl ?_
  refine fs_liftL (fun _ _ _ _ => lv_astore_n (lv' := [(1, .ref r1), (0, .ref a0)]) hx hb d_Exporter_writeSampler_16 rfl hl (Nat.le_of_ble_eq_true rfl) rfl) (fun ls hl => ?_)
  refine fs_lift (fun _ _ _ _ => lv_aload_n hx hb d_Exporter_writeSampler_17 rfl (lv_at hl 0 rfl)) ?_
  refine fs_lift (fun _ _ _ _ => lv_aload_n hx hb d_Exporter_writeSampler_18 rfl (lv_at hl 1 rfl)) ?_
  refine fs_Jgi S hG fs_in1 rfl 10 (Nat.le_of_ble_eq_true rfl) tw_1_141 (fun _ h9 => h9) d_Exporter_writeSampler_19 (fun v4 => ?_)
  refine fs_JV S hG hR rfl [.int v4] (enc := fun _ => none) (fun zr zs zt zh => m_Report_append X l r1 v4 zh) tw_3_236 tw_3_237 tw_3_238 tw_3_239 tw_1_25 q_Report_append ⟨(Nat.le_of_ble_eq_true rfl), (Nat.le_of_ble_eq_true rfl)⟩ hl.1 rfl (Nat.le_of_ble_eq_true rfl) d_Exporter_writeSampler_22 (fun _ => ?_)
  refine fs_Jeq (g2 := F0 m 25 ls []) rfl ?_
  refine fs_lift (fun _ _ _ _ => lv_aload_n hx hb d_Exporter_writeSampler_25 rfl (lv_at hl 0 rfl)) ?_
  refine fs_lift (fun _ _ _ _ => lv_aload_n hx hb d_Exporter_writeSampler_26 rfl (lv_at hl 1 rfl)) ?_
  refine fs_Jgi S hG fs_in1 rfl 6 (Nat.le_of_ble_eq_true rfl) tw_1_136 (fun _ h9 => h9) d_Exporter_writeSampler_27 (fun v5 => ?_)
  refine fs_JV S hG hR rfl [.int v5] (enc := fun _ => none) (fun zr zs zt zh => m_Report_append X l r1 v5 zh) tw_3_236 tw_3_237 tw_3_238 tw_3_239 tw_1_25 q_Report_append ⟨(Nat.le_of_ble_eq_true rfl), (Nat.le_of_ble_eq_true rfl)⟩ hl.1 rfl (Nat.le_of_ble_eq_true rfl) d_Exporter_writeSampler_30 (fun _ => ?_)
  refine fs_Jeq (g2 := F0 m 33 ls []) rfl ?_
  refine fs_lift (fun _ _ _ _ => lv_aload_n hx hb d_Exporter_writeSampler_33 rfl (lv_at hl 1 rfl)) ?_
  refine fs_lift (fun _ _ _ _ => lv_dup hx hb d_Exporter_writeSampler_34 rfl) ?_
  refine fs_Jgi S hG fs_in1 rfl 10 (Nat.le_of_ble_eq_true rfl) tw_1_141 (fun _ h9 => h9) d_Exporter_writeSampler_35 (fun v6 => ?_)
  refine fs_lift (fun _ _ _ _ => lv_iconst (v := 1) hx hb d_Exporter_writeSampler_38 (by decide)) ?_
  refine fs_lift (fun _ _ _ _ => lv_iadd hx hb d_Exporter_writeSampler_39) ?_
  refine fs_Jput S hG fs_in1 rfl 10 (Nat.le_of_ble_eq_true rfl) tw_1_141 (fun _ h9 => h9) fs_Y1 fs_ty1 fs_nm1 (Or.inl rfl) rfl rfl d_Exporter_writeSampler_40 ?_
  refine fs_lift (fun _ _ _ _ => lv_aload_n hx hb d_Exporter_writeSampler_43 rfl (lv_at hl 0 rfl)) ?_
  exact fs_Jaret S hr (Or.inl ⟨_, rfl⟩) hk rfl d_Exporter_writeSampler_44

theorem d_Fs_tell_0 : decode prog_1_method_13_code 0 = .ok (.aload_n 0, 1) := by decide +kernel
theorem d_Fs_tell_1 : decode prog_1_method_13_code 1 = .ok (.iload_n 1, 1) := by decide +kernel
theorem d_Fs_tell_2 : decode prog_1_method_13_code 2 = .ok (.invokevirtual 35, 3) := by decide +kernel
theorem d_Fs_tell_5 : decode prog_1_method_13_code 5 = .ok (.astore_n 2, 1) := by decide +kernel
theorem d_Fs_tell_6 : decode prog_1_method_13_code 6 = .ok (.aload_n 0, 1) := by decide +kernel
theorem d_Fs_tell_7 : decode prog_1_method_13_code 7 = .ok (.invokevirtual 164, 3) := by decide +kernel
theorem d_Fs_tell_10 : decode prog_1_method_13_code 10 = .ok (.ifCond .eq 13, 3) := by decide +kernel
theorem d_Fs_tell_13 : decode prog_1_method_13_code 13 = .ok (.new 56, 3) := by decide +kernel
theorem d_Fs_tell_16 : decode prog_1_method_13_code 16 = .ok (.dup, 1) := by decide +kernel
theorem d_Fs_tell_17 : decode prog_1_method_13_code 17 = .ok (.ldc 195, 2) := by decide +kernel
theorem d_Fs_tell_19 : decode prog_1_method_13_code 19 = .ok (.invokespecial 60, 3) := by decide +kernel
theorem d_Fs_tell_22 : decode prog_1_method_13_code 22 = .ok (.athrow, 1) := by decide +kernel
theorem d_Fs_tell_23 : decode prog_1_method_13_code 23 = .ok (.aload_n 0, 1) := by decide +kernel
theorem d_Fs_tell_24 : decode prog_1_method_13_code 24 = .ok (.aload_n 2, 1) := by decide +kernel
theorem d_Fs_tell_25 : decode prog_1_method_13_code 25 = .ok (.invokevirtual 197, 3) := by decide +kernel
theorem d_Fs_tell_28 : decode prog_1_method_13_code 28 = .ok (.invokevirtual 173, 3) := by decide +kernel
theorem d_Fs_tell_31 : decode prog_1_method_13_code 31 = .ok (.ireturn, 1) := by decide +kernel
theorem q_Fs_tell : (⟨"FlowShelf", "tell", "(I)I"⟩ : MethodName).cls ≠ "java/lang/invoke/MethodHandle" ∧ (⟨"FlowShelf", "tell", "(I)I"⟩ : MethodName).cls ≠ "java/lang/invoke/VarHandle" ∧ (parseMethodDescriptor (⟨"FlowShelf", "tell", "(I)I"⟩ : MethodName).desc).map (fun d => d.parameters.length) = some 1 := by decide +kernel
set_option maxHeartbeats 4000000 in
set_option maxRecDepth 100000 in
theorem m_Fs_tell (X : fs_X) (l : Launch) (hl0 : l.stackTraces = false) (a0 : Nat) (x1 : Int32) {r : (Int32 ⊕ String)} {σ σF : fs_S} (h : (f_Fs_tell a0 x1).1 σ = some (r, σF)) : fs_Met X l ⟨"FlowShelf", "tell", "(I)I"⟩ (Cond.code ⟨"FlowShelf", "tell", "(I)I"⟩ prog_1_method_13_code 3 (some FieldType.int)) 8 212 [.ref a0, .int x1] σ (fs_qI r) σF := by
  refine fs_ofW (by decide) ?_
  intro p e s m args below meth c s₁ B hml hT hv
  obtain ⟨rfl, hw0, hG⟩ := hv
  have hx := B.exec
  have hb := B.bytes
  have hr := B.returns
  have hk := B.notSynchronized
  have S : CallFix p m c prog_1_method_13_code 3 s _ fs_ws "FlowShelf" := ⟨B.exec, B.bytes, hml, findClass_of_methodNamed B.named, fun w hw => atoms_spec (ws := _ :: fs_ws) B.pre w (List.mem_cons_of_mem _ hw)⟩
  have hR := fs_hR (fr := 8) (lo := 212) ((f_Fs_tell a0 x1).2 _ _ _ h)
  have hl := lv_entry ([.ref a0, .int x1]) (n := 3) (Nat.le_of_ble_eq_true rfl)
  rw [lg_entry_eq]
  generalize (lg_sl ([.ref a0, .int x1]) ++ List.replicate (3 - (lg_sl ([.ref a0, .int x1])).length) Slot.unset).toArray = ls at hl ⊢
  have hl : lv_has ls 3 [(0, .ref a0), (1, .int x1)] := hl
  refine (?_ : fs_J X p l e (fs_rm 8 212 σ σF) s m _ below meth c (fs_Q X below _ s (fs_qI r) σ σF) r σ σF (f_Fs_tell a0 x1) (F0 m 0 ls [])) σ s.heap [] 0 0 h hw0 va_S.rf rfl rfl
  clear h hw0
  unfold f_Fs_tell
  refine fs_lift (fun _ _ _ _ => lv_aload_n hx hb d_Fs_tell_0 rfl (lv_at hl 0 rfl)) ?_
  refine fs_lift (fun _ _ _ _ => lv_iload_n hx hb d_Fs_tell_1 rfl (lv_at hl 1 rfl)) ?_
  refine fs_JVx S hG hR hT hk rfl [.int x1] (fun r => some (.ref r)) (encx := fs_qR) (fun _ => rfl) (fun _ => rfl) (fun zr zs zt zh => m_Fs_exporterOf X l hl0 a0 x1 zh) tw_2_60 tw_2_62 tp_1_1 tw_2_63 tw_1_1 q_Fs_exporterOf ⟨(Nat.le_of_ble_eq_true rfl), (Nat.le_of_ble_eq_true rfl)⟩ hl.1 rfl (Nat.le_of_ble_eq_true rfl) d_Fs_tell_2 (enc := fs_qI) (fun _ => rfl) (fun r1 => ?_)
  refine fs_Jeq (g2 := F0 m 5 ls [.ref r1]) rfl ?_
  refine fs_liftL (fun _ _ _ _ => lv_astore_n (lv' := [(2, .ref r1), (0, .ref a0), (1, .int x1)]) hx hb d_Fs_tell_5 rfl hl (Nat.le_of_ble_eq_true rfl) rfl) (fun ls hl => ?_)
  refine fs_lift (fun _ _ _ _ => lv_aload_n hx hb d_Fs_tell_6 rfl (lv_at hl 1 rfl)) ?_
  refine fs_JV S hG hR rfl [] (enc := fun r => some (.int r)) (fun zr zs zt zh => m_Fs_hasNoRoomForReport X l a0 zh) tw_3_210 tw_3_212 tp_1_8 tw_3_213 tw_1_1 q_Fs_hasNoRoomForReport ⟨(Nat.le_of_ble_eq_true rfl), (Nat.le_of_ble_eq_true rfl)⟩ hl.1 rfl (Nat.le_of_ble_eq_true rfl) d_Fs_tell_7 (fun v2 => ?_)
  refine fs_Jeq (g2 := F0 m 10 ls [.int v2]) rfl ?_
  refine fs_if (fun _ _ _ _ => lv_if_eq hx hb d_Fs_tell_10 rfl) ?_ ?_
  · refine fs_lift (fun _ _ _ _ => lv_aload_n hx hb d_Fs_tell_23 rfl (lv_at hl 1 rfl)) ?_
    refine fs_lift (fun _ _ _ _ => lv_aload_n hx hb d_Fs_tell_24 rfl (lv_at hl 0 rfl)) ?_
    refine fs_JV S hG hR rfl [] (enc := fun r => some (.ref r)) (fun zr zs zt zh => m_Exporter_writeSampler X l r1 zh) tw_4_57 tw_4_58 tw_4_59 tw_4_60 tw_1_2 q_Exporter_writeSampler ⟨(Nat.le_of_ble_eq_true rfl), (Nat.le_of_ble_eq_true rfl)⟩ hl.1 rfl (Nat.le_of_ble_eq_true rfl) d_Fs_tell_25 (fun r3 => ?_)
    refine fs_Jeq (g2 := F0 m 28 ls [.ref r3, .ref a0]) rfl ?_
    refine fs_JV S hG hR rfl [.ref r3] (enc := fun r => some (.int r)) (fun zr zs zt zh => m_Fs_keep X l a0 r3 zh) tw_4_0 tw_4_2 tp_1_9 tw_4_3 tw_1_1 q_Fs_keep ⟨(Nat.le_of_ble_eq_true rfl), (Nat.le_of_ble_eq_true rfl)⟩ hl.1 rfl (Nat.le_of_ble_eq_true rfl) d_Fs_tell_28 (fun v4 => ?_)
    refine fs_Jeq (g2 := F0 m 31 ls [.int v4]) rfl ?_
    exact fs_Jiret S hr hk rfl d_Fs_tell_31
  · exact fs_Jthrow S hG hR hl0 (names := fs_nms) (len := 2) (.ldc 195) (Or.inl ⟨rfl, rfl⟩) (by decide) fs_fit fs_at2 tw_2_146 tw_1_16 tb_4_56 hl.1 hT hk (Nat.le_of_ble_eq_true rfl) (Nat.le_of_ble_eq_true rfl) d_Fs_tell_13 d_Fs_tell_16 d_Fs_tell_17 d_Fs_tell_19 d_Fs_tell_22 rfl

theorem d_Fs_reportOf_0 : decode prog_1_method_30_code 0 = .ok (.aload_n 0, 1) := by decide +kernel
theorem d_Fs_reportOf_1 : decode prog_1_method_30_code 1 = .ok (.iload_n 1, 1) := by decide +kernel
theorem d_Fs_reportOf_2 : decode prog_1_method_30_code 2 = .ok (.invokevirtual 201, 3) := by decide +kernel
theorem d_Fs_reportOf_5 : decode prog_1_method_30_code 5 = .ok (.ifCond .ne 14, 3) := by decide +kernel
theorem d_Fs_reportOf_8 : decode prog_1_method_30_code 8 = .ok (.new 91, 3) := by decide +kernel
theorem d_Fs_reportOf_11 : decode prog_1_method_30_code 11 = .ok (.dup, 1) := by decide +kernel
theorem d_Fs_reportOf_12 : decode prog_1_method_30_code 12 = .ok (.ldc_w 310, 3) := by decide +kernel
theorem d_Fs_reportOf_15 : decode prog_1_method_30_code 15 = .ok (.invokespecial 95, 3) := by decide +kernel
theorem d_Fs_reportOf_18 : decode prog_1_method_30_code 18 = .ok (.athrow, 1) := by decide +kernel
theorem d_Fs_reportOf_19 : decode prog_1_method_30_code 19 = .ok (.aload_n 0, 1) := by decide +kernel
theorem d_Fs_reportOf_20 : decode prog_1_method_30_code 20 = .ok (.getfield 24, 3) := by decide +kernel
theorem d_Fs_reportOf_23 : decode prog_1_method_30_code 23 = .ok (.iload_n 1, 1) := by decide +kernel
theorem d_Fs_reportOf_24 : decode prog_1_method_30_code 24 = .ok (.invokevirtual 96, 3) := by decide +kernel
theorem d_Fs_reportOf_27 : decode prog_1_method_30_code 27 = .ok (.checkcast 204, 3) := by decide +kernel
theorem d_Fs_reportOf_30 : decode prog_1_method_30_code 30 = .ok (.areturn, 1) := by decide +kernel
theorem q_Fs_reportOf : (⟨"FlowShelf", "reportOf", "(I)LFlowShelf$Report;"⟩ : MethodName).cls ≠ "java/lang/invoke/MethodHandle" ∧ (⟨"FlowShelf", "reportOf", "(I)LFlowShelf$Report;"⟩ : MethodName).cls ≠ "java/lang/invoke/VarHandle" ∧ (parseMethodDescriptor (⟨"FlowShelf", "reportOf", "(I)LFlowShelf$Report;"⟩ : MethodName).desc).map (fun d => d.parameters.length) = some 1 := by decide +kernel
set_option maxHeartbeats 4000000 in
set_option maxRecDepth 100000 in
theorem m_Fs_reportOf (X : fs_X) (l : Launch) (hl0 : l.stackTraces = false) (a0 : Nat) (x1 : Int32) {r : (Nat ⊕ String)} {σ σF : fs_S} (h : (f_Fs_reportOf a0 x1).1 σ = some (r, σF)) : fs_Met X l ⟨"FlowShelf", "reportOf", "(I)LFlowShelf$Report;"⟩ (Cond.code ⟨"FlowShelf", "reportOf", "(I)LFlowShelf$Report;"⟩ prog_1_method_30_code 2 (some (FieldType.object "FlowShelf$Report"))) 6 82 [.ref a0, .int x1] σ (fs_qR r) σF := by
  refine fs_ofW (by decide) ?_
  intro p e s m args below meth c s₁ B hml hT hv
  obtain ⟨rfl, hw0, hG⟩ := hv
  have hx := B.exec
  have hb := B.bytes
  have hr := B.returns
  have hk := B.notSynchronized
  have S : CallFix p m c prog_1_method_30_code 2 s _ fs_ws "FlowShelf" := ⟨B.exec, B.bytes, hml, findClass_of_methodNamed B.named, fun w hw => atoms_spec (ws := _ :: fs_ws) B.pre w (List.mem_cons_of_mem _ hw)⟩
  have hR := fs_hR (fr := 6) (lo := 82) ((f_Fs_reportOf a0 x1).2 _ _ _ h)
  have hl := lv_entry ([.ref a0, .int x1]) (n := 2) (Nat.le_of_ble_eq_true rfl)
  rw [lg_entry_eq]
  generalize (lg_sl ([.ref a0, .int x1]) ++ List.replicate (2 - (lg_sl ([.ref a0, .int x1])).length) Slot.unset).toArray = ls at hl ⊢
  have hl : lv_has ls 2 [(0, .ref a0), (1, .int x1)] := hl
  refine (?_ : fs_J X p l e (fs_rm 6 82 σ σF) s m _ below meth c (fs_Q X below _ s (fs_qR r) σ σF) r σ σF (f_Fs_reportOf a0 x1) (F0 m 0 ls [])) σ s.heap [] 0 0 h hw0 va_S.rf rfl rfl
  clear h hw0
  unfold f_Fs_reportOf
  refine fs_lift (fun _ _ _ _ => lv_aload_n hx hb d_Fs_reportOf_0 rfl (lv_at hl 0 rfl)) ?_
  refine fs_lift (fun _ _ _ _ => lv_iload_n hx hb d_Fs_reportOf_1 rfl (lv_at hl 1 rfl)) ?_
  refine fs_JV S hG hR rfl [.int x1] (enc := fun r => some (.int r)) (fun zr zs zt zh => m_Fs_isReport X l a0 x1 zh) tw_2_24 tw_2_26 tp_1_0 tw_2_27 tw_1_1 q_Fs_isReport ⟨(Nat.le_of_ble_eq_true rfl), (Nat.le_of_ble_eq_true rfl)⟩ hl.1 rfl (Nat.le_of_ble_eq_true rfl) d_Fs_reportOf_2 (fun v1 => ?_)
  refine fs_Jeq (g2 := F0 m 5 ls [.int v1]) rfl ?_
  refine fs_ifn (fun _ _ _ _ => lv_if_ne hx hb d_Fs_reportOf_5 rfl) ?_ ?_
  · exact fs_Jthrow S hG hR hl0 (names := fs_nms) (len := 3) (.ldc_w 310) (Or.inr ⟨rfl, rfl⟩) (by decide) fs_fit fs_at3 tw_3_112 tw_1_24 tb_4_76 hl.1 hT hk (Nat.le_of_ble_eq_true rfl) (Nat.le_of_ble_eq_true rfl) d_Fs_reportOf_8 d_Fs_reportOf_11 d_Fs_reportOf_12 d_Fs_reportOf_15 d_Fs_reportOf_18 rfl
  · refine fs_lift (fun _ _ _ _ => lv_aload_n hx hb d_Fs_reportOf_19 rfl (lv_at hl 0 rfl)) ?_
    refine fs_Jgr S hG fs_in0 rfl 2 (Nat.le_of_ble_eq_true rfl) tw_2_9 (fun _ h9 => h9) d_Fs_reportOf_20 (fun r2 => ?_)
    refine fs_lift (fun _ _ _ _ => lv_iload_n hx hb d_Fs_reportOf_23 rfl (lv_at hl 1 rfl)) ?_
    refine fs_JV S hG hR rfl [.int x1] (enc := fun r => some (.ref r)) (fun zr zs zt zh => m_ArrayList_get X l r2 x1 zh) tw_2_32 tw_2_33 tw_2_34 tw_2_35 tw_1_5 q_ArrayList_get ⟨(Nat.le_of_ble_eq_true rfl), (Nat.le_of_ble_eq_true rfl)⟩ hl.1 rfl (Nat.le_of_ble_eq_true rfl) d_Fs_reportOf_24 (fun r3 => ?_)
    refine fs_Jeq (g2 := F0 m 27 ls [.ref r3]) rfl ?_
    refine fs_Jck S hG rfl tw_2_46 tb_7_81 d_Fs_reportOf_27 ?_
    exact fs_Jaret S hr (Or.inl ⟨_, rfl⟩) hk rfl d_Fs_reportOf_30

theorem d_Fs_reportWithByte_0 : decode prog_1_method_31_code 0 = .ok (.aload_n 0, 1) := by decide +kernel
theorem d_Fs_reportWithByte_1 : decode prog_1_method_31_code 1 = .ok (.iload_n 1, 1) := by decide +kernel
theorem d_Fs_reportWithByte_2 : decode prog_1_method_31_code 2 = .ok (.invokevirtual 216, 3) := by decide +kernel
theorem d_Fs_reportWithByte_5 : decode prog_1_method_31_code 5 = .ok (.astore_n 3, 1) := by decide +kernel
theorem d_Fs_reportWithByte_6 : decode prog_1_method_31_code 6 = .ok (.iload_n 2, 1) := by decide +kernel
theorem d_Fs_reportWithByte_7 : decode prog_1_method_31_code 7 = .ok (.ifCond .lt 11, 3) := by decide +kernel
theorem d_Fs_reportWithByte_10 : decode prog_1_method_31_code 10 = .ok (.iload_n 2, 1) := by decide +kernel
theorem d_Fs_reportWithByte_11 : decode prog_1_method_31_code 11 = .ok (.aload_n 3, 1) := by decide +kernel
theorem d_Fs_reportWithByte_12 : decode prog_1_method_31_code 12 = .ok (.getfield 206, 3) := by decide +kernel
theorem d_Fs_reportWithByte_15 : decode prog_1_method_31_code 15 = .ok (.if_icmp .lt 14, 3) := by decide +kernel
theorem d_Fs_reportWithByte_18 : decode prog_1_method_31_code 18 = .ok (.new 91, 3) := by decide +kernel
theorem d_Fs_reportWithByte_21 : decode prog_1_method_31_code 21 = .ok (.dup, 1) := by decide +kernel
theorem d_Fs_reportWithByte_22 : decode prog_1_method_31_code 22 = .ok (.ldc_w 312, 3) := by decide +kernel
theorem d_Fs_reportWithByte_25 : decode prog_1_method_31_code 25 = .ok (.invokespecial 95, 3) := by decide +kernel
theorem d_Fs_reportWithByte_28 : decode prog_1_method_31_code 28 = .ok (.athrow, 1) := by decide +kernel
theorem d_Fs_reportWithByte_29 : decode prog_1_method_31_code 29 = .ok (.aload_n 3, 1) := by decide +kernel
theorem d_Fs_reportWithByte_30 : decode prog_1_method_31_code 30 = .ok (.areturn, 1) := by decide +kernel
theorem q_Fs_reportWithByte : (⟨"FlowShelf", "reportWithByte", "(II)LFlowShelf$Report;"⟩ : MethodName).cls ≠ "java/lang/invoke/MethodHandle" ∧ (⟨"FlowShelf", "reportWithByte", "(II)LFlowShelf$Report;"⟩ : MethodName).cls ≠ "java/lang/invoke/VarHandle" ∧ (parseMethodDescriptor (⟨"FlowShelf", "reportWithByte", "(II)LFlowShelf$Report;"⟩ : MethodName).desc).map (fun d => d.parameters.length) = some 2 := by decide +kernel
set_option maxHeartbeats 4000000 in
set_option maxRecDepth 100000 in
theorem m_Fs_reportWithByte (X : fs_X) (l : Launch) (hl0 : l.stackTraces = false) (a0 : Nat) (x1 : Int32) (x2 : Int32) {r : (Nat ⊕ String)} {σ σF : fs_S} (h : (f_Fs_reportWithByte a0 x1 x2).1 σ = some (r, σF)) : fs_Met X l ⟨"FlowShelf", "reportWithByte", "(II)LFlowShelf$Report;"⟩ (Cond.code ⟨"FlowShelf", "reportWithByte", "(II)LFlowShelf$Report;"⟩ prog_1_method_31_code 4 (some (FieldType.object "FlowShelf$Report"))) 7 103 [.ref a0, .int x1, .int x2] σ (fs_qR r) σF := by
  refine fs_ofW (by decide) ?_
  intro p e s m args below meth c s₁ B hml hT hv
  obtain ⟨rfl, hw0, hG⟩ := hv
  have hx := B.exec
  have hb := B.bytes
  have hr := B.returns
  have hk := B.notSynchronized
  have S : CallFix p m c prog_1_method_31_code 4 s _ fs_ws "FlowShelf" := ⟨B.exec, B.bytes, hml, findClass_of_methodNamed B.named, fun w hw => atoms_spec (ws := _ :: fs_ws) B.pre w (List.mem_cons_of_mem _ hw)⟩
  have hR := fs_hR (fr := 7) (lo := 103) ((f_Fs_reportWithByte a0 x1 x2).2 _ _ _ h)
  have hl := lv_entry ([.ref a0, .int x1, .int x2]) (n := 4) (Nat.le_of_ble_eq_true rfl)
  rw [lg_entry_eq]
  generalize (lg_sl ([.ref a0, .int x1, .int x2]) ++ List.replicate (4 - (lg_sl ([.ref a0, .int x1, .int x2])).length) Slot.unset).toArray = ls at hl ⊢
  have hl : lv_has ls 4 [(0, .ref a0), (1, .int x1), (2, .int x2)] := hl
  refine (?_ : fs_J X p l e (fs_rm 7 103 σ σF) s m _ below meth c (fs_Q X below _ s (fs_qR r) σ σF) r σ σF (f_Fs_reportWithByte a0 x1 x2) (F0 m 0 ls [])) σ s.heap [] 0 0 h hw0 va_S.rf rfl rfl
  clear h hw0
  unfold f_Fs_reportWithByte
  refine fs_lift (fun _ _ _ _ => lv_aload_n hx hb d_Fs_reportWithByte_0 rfl (lv_at hl 0 rfl)) ?_
  refine fs_lift (fun _ _ _ _ => lv_iload_n hx hb d_Fs_reportWithByte_1 rfl (lv_at hl 1 rfl)) ?_
  refine fs_JVx S hG hR hT hk rfl [.int x1] (fun r => some (.ref r)) (encx := fs_qR) (fun _ => rfl) (fun _ => rfl) (fun zr zs zt zh => m_Fs_reportOf X l hl0 a0 x1 zh) tw_4_72 tw_4_74 tp_1_11 tw_4_75 tw_1_1 q_Fs_reportOf ⟨(Nat.le_of_ble_eq_true rfl), (Nat.le_of_ble_eq_true rfl)⟩ hl.1 rfl (Nat.le_of_ble_eq_true rfl) d_Fs_reportWithByte_2 (enc := fs_qR) (fun _ => rfl) (fun r1 => ?_)
  refine fs_Jeq (g2 := F0 m 5 ls [.ref r1]) rfl ?_
  refine fs_liftL (fun _ _ _ _ => lv_astore_n (lv' := [(3, .ref r1), (0, .ref a0), (1, .int x1), (2, .int x2)]) hx hb d_Fs_reportWithByte_5 rfl hl (Nat.le_of_ble_eq_true rfl) rfl) (fun ls hl => ?_)
  refine fs_lift (fun _ _ _ _ => lv_iload_n hx hb d_Fs_reportWithByte_6 rfl (lv_at hl 3 rfl)) ?_
  refine fs_Jlet1 (nL := 4) (pj := 18) (I := fun (_ : Unit) => []) (st := fun (_ : Unit) => []) (fun _ ls hl => ?_) (fun j18 hj18 => ?_)
  · exact fs_Jthrow S hG hR hl0 (names := fs_nms) (len := 3) (.ldc_w 312) (Or.inr ⟨rfl, rfl⟩) (by decide) fs_fit fs_at3 tw_3_112 tw_1_24 tb_4_77 hl.1 hT hk (Nat.le_of_ble_eq_true rfl) (Nat.le_of_ble_eq_true rfl) d_Fs_reportWithByte_18 d_Fs_reportWithByte_21 d_Fs_reportWithByte_22 d_Fs_reportWithByte_25 d_Fs_reportWithByte_28 rfl
  · refine fs_if (fun _ _ _ _ => lv_if_lt hx hb d_Fs_reportWithByte_7 rfl) ?_ ?_
    · exact hj18 () ls (lv_sub hl [] rfl)
    · refine fs_lift (fun _ _ _ _ => lv_iload_n hx hb d_Fs_reportWithByte_10 rfl (lv_at hl 3 rfl)) ?_
      refine fs_lift (fun _ _ _ _ => lv_aload_n hx hb d_Fs_reportWithByte_11 rfl (lv_at hl 0 rfl)) ?_
      refine fs_Jgi S hG fs_in9 rfl 1 (Nat.le_of_ble_eq_true rfl) tw_3_230 (fun _ h9 => h9) d_Fs_reportWithByte_12 (fun v2 => ?_)
      refine fs_if (fun _ _ _ _ => lv_icmp_lt hx hb d_Fs_reportWithByte_15 rfl) ?_ ?_
      · refine fs_lift (fun _ _ _ _ => lv_aload_n hx hb d_Fs_reportWithByte_29 rfl (lv_at hl 0 rfl)) ?_
        exact fs_Jaret S hr (Or.inl ⟨_, rfl⟩) hk rfl d_Fs_reportWithByte_30
      · exact hj18 () ls (lv_sub hl [] rfl)

theorem d_Fs_byteOf_0 : decode prog_1_method_15_code 0 = .ok (.aload_n 0, 1) := by decide +kernel
theorem d_Fs_byteOf_1 : decode prog_1_method_15_code 1 = .ok (.iload_n 1, 1) := by decide +kernel
theorem d_Fs_byteOf_2 : decode prog_1_method_15_code 2 = .ok (.iload_n 2, 1) := by decide +kernel
theorem d_Fs_byteOf_3 : decode prog_1_method_15_code 3 = .ok (.invokevirtual 207, 3) := by decide +kernel
theorem d_Fs_byteOf_6 : decode prog_1_method_15_code 6 = .ok (.getfield 211, 3) := by decide +kernel
theorem d_Fs_byteOf_9 : decode prog_1_method_15_code 9 = .ok (.iload_n 2, 1) := by decide +kernel
theorem d_Fs_byteOf_10 : decode prog_1_method_15_code 10 = .ok (.iaload, 1) := by decide +kernel
theorem d_Fs_byteOf_11 : decode prog_1_method_15_code 11 = .ok (.ireturn, 1) := by decide +kernel
theorem q_Fs_byteOf : (⟨"FlowShelf", "byteOf", "(II)I"⟩ : MethodName).cls ≠ "java/lang/invoke/MethodHandle" ∧ (⟨"FlowShelf", "byteOf", "(II)I"⟩ : MethodName).cls ≠ "java/lang/invoke/VarHandle" ∧ (parseMethodDescriptor (⟨"FlowShelf", "byteOf", "(II)I"⟩ : MethodName).desc).map (fun d => d.parameters.length) = some 2 := by decide +kernel
set_option maxHeartbeats 4000000 in
set_option maxRecDepth 100000 in
theorem m_Fs_byteOf (X : fs_X) (l : Launch) (hl0 : l.stackTraces = false) (a0 : Nat) (x1 : Int32) (x2 : Int32) {r : (Int32 ⊕ String)} {σ σF : fs_S} (h : (f_Fs_byteOf a0 x1 x2).1 σ = some (r, σF)) : fs_Met X l ⟨"FlowShelf", "byteOf", "(II)I"⟩ (Cond.code ⟨"FlowShelf", "byteOf", "(II)I"⟩ prog_1_method_15_code 3 (some FieldType.int)) 8 126 [.ref a0, .int x1, .int x2] σ (fs_qI r) σF := by
  refine fs_ofW (by decide) ?_
  intro p e s m args below meth c s₁ B hml hT hv
  obtain ⟨rfl, hw0, hG⟩ := hv
  have hx := B.exec
  have hb := B.bytes
  have hr := B.returns
  have hk := B.notSynchronized
  have S : CallFix p m c prog_1_method_15_code 3 s _ fs_ws "FlowShelf" := ⟨B.exec, B.bytes, hml, findClass_of_methodNamed B.named, fun w hw => atoms_spec (ws := _ :: fs_ws) B.pre w (List.mem_cons_of_mem _ hw)⟩
  have hR := fs_hR (fr := 8) (lo := 126) ((f_Fs_byteOf a0 x1 x2).2 _ _ _ h)
  have hl := lv_entry ([.ref a0, .int x1, .int x2]) (n := 3) (Nat.le_of_ble_eq_true rfl)
  rw [lg_entry_eq]
  generalize (lg_sl ([.ref a0, .int x1, .int x2]) ++ List.replicate (3 - (lg_sl ([.ref a0, .int x1, .int x2])).length) Slot.unset).toArray = ls at hl ⊢
  have hl : lv_has ls 3 [(0, .ref a0), (1, .int x1), (2, .int x2)] := hl
  refine (?_ : fs_J X p l e (fs_rm 8 126 σ σF) s m _ below meth c (fs_Q X below _ s (fs_qI r) σ σF) r σ σF (f_Fs_byteOf a0 x1 x2) (F0 m 0 ls [])) σ s.heap [] 0 0 h hw0 va_S.rf rfl rfl
  clear h hw0
  unfold f_Fs_byteOf
  refine fs_lift (fun _ _ _ _ => lv_aload_n hx hb d_Fs_byteOf_0 rfl (lv_at hl 0 rfl)) ?_
  refine fs_lift (fun _ _ _ _ => lv_iload_n hx hb d_Fs_byteOf_1 rfl (lv_at hl 1 rfl)) ?_
  refine fs_lift (fun _ _ _ _ => lv_iload_n hx hb d_Fs_byteOf_2 rfl (lv_at hl 2 rfl)) ?_
  refine fs_JVx S hG hR hT hk rfl [.int x1, .int x2] (fun r => some (.ref r)) (encx := fs_qR) (fun _ => rfl) (fun _ => rfl) (fun zr zs zt zh => m_Fs_reportWithByte X l hl0 a0 x1 x2 zh) tw_4_68 tw_4_70 tp_1_10 tw_4_71 tw_1_1 q_Fs_reportWithByte ⟨(Nat.le_of_ble_eq_true rfl), (Nat.le_of_ble_eq_true rfl)⟩ hl.1 rfl (Nat.le_of_ble_eq_true rfl) d_Fs_byteOf_3 (enc := fs_qI) (fun _ => rfl) (fun r1 => ?_)
  refine fs_Jeq (g2 := F0 m 6 ls [.ref r1]) rfl ?_
  refine fs_Jgr S hG fs_in9 rfl 0 (Nat.le_of_ble_eq_true rfl) tw_3_227 (fun _ h9 => h9) d_Fs_byteOf_6 (fun r2 => ?_)
  refine fs_lift (fun _ _ _ _ => lv_iload_n hx hb d_Fs_byteOf_9 rfl (lv_at hl 2 rfl)) ?_
  refine fs_Jai S hG d_Fs_byteOf_10 (fun v3 => ?_)
  exact fs_Jiret S hr hk rfl d_Fs_byteOf_11

theorem d_Fs_poke_0 : decode prog_1_method_16_code 0 = .ok (.aload_n 0, 1) := by decide +kernel
theorem d_Fs_poke_1 : decode prog_1_method_16_code 1 = .ok (.iload_n 1, 1) := by decide +kernel
theorem d_Fs_poke_2 : decode prog_1_method_16_code 2 = .ok (.iload_n 2, 1) := by decide +kernel
theorem d_Fs_poke_3 : decode prog_1_method_16_code 3 = .ok (.invokevirtual 207, 3) := by decide +kernel
theorem d_Fs_poke_6 : decode prog_1_method_16_code 6 = .ok (.astore 4, 2) := by decide +kernel
theorem d_Fs_poke_8 : decode prog_1_method_16_code 8 = .ok (.iload_n 3, 1) := by decide +kernel
theorem d_Fs_poke_9 : decode prog_1_method_16_code 9 = .ok (.invokestatic 39, 3) := by decide +kernel
theorem d_Fs_poke_12 : decode prog_1_method_16_code 12 = .ok (.ifCond .ne 13, 3) := by decide +kernel
theorem d_Fs_poke_15 : decode prog_1_method_16_code 15 = .ok (.new 43, 3) := by decide +kernel
theorem d_Fs_poke_18 : decode prog_1_method_16_code 18 = .ok (.dup, 1) := by decide +kernel
theorem d_Fs_poke_19 : decode prog_1_method_16_code 19 = .ok (.ldc 214, 2) := by decide +kernel
theorem d_Fs_poke_21 : decode prog_1_method_16_code 21 = .ok (.invokespecial 47, 3) := by decide +kernel
theorem d_Fs_poke_24 : decode prog_1_method_16_code 24 = .ok (.athrow, 1) := by decide +kernel
theorem d_Fs_poke_25 : decode prog_1_method_16_code 25 = .ok (.aload 4, 2) := by decide +kernel
theorem d_Fs_poke_27 : decode prog_1_method_16_code 27 = .ok (.getfield 211, 3) := by decide +kernel
theorem d_Fs_poke_30 : decode prog_1_method_16_code 30 = .ok (.iload_n 2, 1) := by decide +kernel
theorem d_Fs_poke_31 : decode prog_1_method_16_code 31 = .ok (.iload_n 3, 1) := by decide +kernel
theorem d_Fs_poke_32 : decode prog_1_method_16_code 32 = .ok (.iastore, 1) := by decide +kernel
theorem d_Fs_poke_33 : decode prog_1_method_16_code 33 = .ok (.return_, 1) := by decide +kernel
theorem q_Fs_poke : (⟨"FlowShelf", "poke", "(III)V"⟩ : MethodName).cls ≠ "java/lang/invoke/MethodHandle" ∧ (⟨"FlowShelf", "poke", "(III)V"⟩ : MethodName).cls ≠ "java/lang/invoke/VarHandle" ∧ (parseMethodDescriptor (⟨"FlowShelf", "poke", "(III)V"⟩ : MethodName).desc).map (fun d => d.parameters.length) = some 3 := by decide +kernel
set_option maxHeartbeats 4000000 in
set_option maxRecDepth 100000 in
theorem m_Fs_poke (X : fs_X) (l : Launch) (hl0 : l.stackTraces = false) (a0 : Nat) (x1 : Int32) (x2 : Int32) (x3 : Int32) {r : (Unit ⊕ String)} {σ σF : fs_S} (h : (f_Fs_poke a0 x1 x2 x3).1 σ = some (r, σF)) : fs_Met X l ⟨"FlowShelf", "poke", "(III)V"⟩ (Cond.code ⟨"FlowShelf", "poke", "(III)V"⟩ prog_1_method_16_code 5 none) 8 126 [.ref a0, .int x1, .int x2, .int x3] σ (fs_qV r) σF := by
  refine fs_ofW (by decide) ?_
  intro p e s m args below meth c s₁ B hml hT hv
  obtain ⟨rfl, hw0, hG⟩ := hv
  have hx := B.exec
  have hb := B.bytes
  have hr := B.returns
  have hk := B.notSynchronized
  have S : CallFix p m c prog_1_method_16_code 5 s _ fs_ws "FlowShelf" := ⟨B.exec, B.bytes, hml, findClass_of_methodNamed B.named, fun w hw => atoms_spec (ws := _ :: fs_ws) B.pre w (List.mem_cons_of_mem _ hw)⟩
  have hR := fs_hR (fr := 8) (lo := 126) ((f_Fs_poke a0 x1 x2 x3).2 _ _ _ h)
  have hl := lv_entry ([.ref a0, .int x1, .int x2, .int x3]) (n := 5) (Nat.le_of_ble_eq_true rfl)
  rw [lg_entry_eq]
  generalize (lg_sl ([.ref a0, .int x1, .int x2, .int x3]) ++ List.replicate (5 - (lg_sl ([.ref a0, .int x1, .int x2, .int x3])).length) Slot.unset).toArray = ls at hl ⊢
  have hl : lv_has ls 5 [(0, .ref a0), (1, .int x1), (2, .int x2), (3, .int x3)] := hl
  refine (?_ : fs_J X p l e (fs_rm 8 126 σ σF) s m _ below meth c (fs_Q X below _ s (fs_qV r) σ σF) r σ σF (f_Fs_poke a0 x1 x2 x3) (F0 m 0 ls [])) σ s.heap [] 0 0 h hw0 va_S.rf rfl rfl
  clear h hw0
  unfold f_Fs_poke
  refine fs_lift (fun _ _ _ _ => lv_aload_n hx hb d_Fs_poke_0 rfl (lv_at hl 0 rfl)) ?_
  refine fs_lift (fun _ _ _ _ => lv_iload_n hx hb d_Fs_poke_1 rfl (lv_at hl 1 rfl)) ?_
  refine fs_lift (fun _ _ _ _ => lv_iload_n hx hb d_Fs_poke_2 rfl (lv_at hl 2 rfl)) ?_
  refine fs_JVx S hG hR hT hk rfl [.int x1, .int x2] (fun r => some (.ref r)) (encx := fs_qR) (fun _ => rfl) (fun _ => rfl) (fun zr zs zt zh => m_Fs_reportWithByte X l hl0 a0 x1 x2 zh) tw_4_68 tw_4_70 tp_1_10 tw_4_71 tw_1_1 q_Fs_reportWithByte ⟨(Nat.le_of_ble_eq_true rfl), (Nat.le_of_ble_eq_true rfl)⟩ hl.1 rfl (Nat.le_of_ble_eq_true rfl) d_Fs_poke_3 (enc := fs_qV) (fun _ => rfl) (fun r1 => ?_)
  refine fs_Jeq (g2 := F0 m 6 ls [.ref r1]) rfl ?_
  refine fs_liftL (fun _ _ _ _ => lv_astore (lv' := [(4, .ref r1), (0, .ref a0), (1, .int x1), (2, .int x2), (3, .int x3)]) hx hb d_Fs_poke_6 hl (Nat.le_of_ble_eq_true rfl) rfl) (fun ls hl => ?_)
  refine fs_lift (fun _ _ _ _ => lv_iload_n hx hb d_Fs_poke_8 rfl (lv_at hl 4 rfl)) ?_
  refine fs_JS S hG hR [.int x3] (enc := fun r => some (.int r)) (fun zr zs zt zh => m_Fs_isByte X l x3 zh) tw_2_136 tw_2_137 tw_2_138 tw_1_1 q_Fs_isByte ⟨(Nat.le_of_ble_eq_true rfl), (Nat.le_of_ble_eq_true rfl)⟩ hl.1 rfl (Nat.le_of_ble_eq_true rfl) d_Fs_poke_9 (fun v2 => ?_)
  refine fs_Jeq (g2 := F0 m 12 ls [.int v2]) rfl ?_
  refine fs_ifn (fun _ _ _ _ => lv_if_ne hx hb d_Fs_poke_12 rfl) ?_ ?_
  · exact fs_Jthrow S hG hR hl0 (names := fs_nms) (len := 2) (.ldc 214) (Or.inl ⟨rfl, rfl⟩) (by decide) fs_fit fs_at1 tw_2_67 tw_1_15 tb_4_85 hl.1 hT hk (Nat.le_of_ble_eq_true rfl) (Nat.le_of_ble_eq_true rfl) d_Fs_poke_15 d_Fs_poke_18 d_Fs_poke_19 d_Fs_poke_21 d_Fs_poke_24 rfl
  · refine fs_lift (fun _ _ _ _ => lv_aload hx hb d_Fs_poke_25 (lv_at hl 0 rfl)) ?_
    refine fs_Jgr S hG fs_in9 rfl 0 (Nat.le_of_ble_eq_true rfl) tw_3_227 (fun _ h9 => h9) d_Fs_poke_27 (fun r3 => ?_)
    refine fs_lift (fun _ _ _ _ => lv_iload_n hx hb d_Fs_poke_30 rfl (lv_at hl 3 rfl)) ?_
    refine fs_lift (fun _ _ _ _ => lv_iload_n hx hb d_Fs_poke_31 rfl (lv_at hl 4 rfl)) ?_
    refine fs_Jsi S hG d_Fs_poke_32 ?_
    exact fs_Jvret S hr hk rfl d_Fs_poke_33

theorem d_Report_exporter_0 : decode prog_8_method_5_code 0 = .ok (.aload_n 0, 1) := by decide +kernel
theorem d_Report_exporter_1 : decode prog_8_method_5_code 1 = .ok (.getfield 9, 3) := by decide +kernel
theorem d_Report_exporter_4 : decode prog_8_method_5_code 4 = .ok (.iconst 0, 1) := by decide +kernel
theorem d_Report_exporter_5 : decode prog_8_method_5_code 5 = .ok (.iaload, 1) := by decide +kernel
theorem d_Report_exporter_6 : decode prog_8_method_5_code 6 = .ok (.ireturn, 1) := by decide +kernel
theorem q_Report_exporter : (⟨"FlowShelf$Report", "exporter", "()I"⟩ : MethodName).cls ≠ "java/lang/invoke/MethodHandle" ∧ (⟨"FlowShelf$Report", "exporter", "()I"⟩ : MethodName).cls ≠ "java/lang/invoke/VarHandle" ∧ (parseMethodDescriptor (⟨"FlowShelf$Report", "exporter", "()I"⟩ : MethodName).desc).map (fun d => d.parameters.length) = some 0 := by decide +kernel
set_option maxHeartbeats 4000000 in
set_option maxRecDepth 100000 in
theorem m_Report_exporter (X : fs_X) (l : Launch) (a0 : Nat) {r : Int32} {σ σF : fs_S} (h : (f_Report_exporter a0).1 σ = some (r, σF)) : fs_Met X l ⟨"FlowShelf$Report", "exporter", "()I"⟩ (Cond.code ⟨"FlowShelf$Report", "exporter", "()I"⟩ prog_8_method_5_code 1 (some FieldType.int)) 0 0 [.ref a0] σ (fs_eI r) σF := by
  refine fs_ofW (by decide) ?_
  intro p e s m args below meth c s₁ B hml hT hv
  obtain ⟨rfl, hw0, hG⟩ := hv
  have hx := B.exec
  have hb := B.bytes
  have hr := B.returns
  have hk := B.notSynchronized
  have S : CallFix p m c prog_8_method_5_code 1 s _ fs_ws "FlowShelf$Report" := ⟨B.exec, B.bytes, hml, findClass_of_methodNamed B.named, fun w hw => atoms_spec (ws := _ :: fs_ws) B.pre w (List.mem_cons_of_mem _ hw)⟩
  have hR := fs_hR (fr := 0) (lo := 0) ((f_Report_exporter a0).2 _ _ _ h)
  have hl := lv_entry ([.ref a0]) (n := 1) (Nat.le_of_ble_eq_true rfl)
  rw [lg_entry_eq]
  generalize (lg_sl ([.ref a0]) ++ List.replicate (1 - (lg_sl ([.ref a0])).length) Slot.unset).toArray = ls at hl ⊢
  have hl : lv_has ls 1 [(0, .ref a0)] := hl
  refine (?_ : fs_J X p l e (fs_rm 0 0 σ σF) s m _ below meth c (fs_Q X below _ s (fs_eI r) σ σF) r σ σF (f_Report_exporter a0) (F0 m 0 ls [])) σ s.heap [] 0 0 h hw0 va_S.rf rfl rfl
  clear h hw0
  unfold f_Report_exporter
  refine fs_lift (fun _ _ _ _ => lv_aload_n hx hb d_Report_exporter_0 rfl (lv_at hl 0 rfl)) ?_
  refine fs_Jgr S hG fs_in9 rfl 0 (Nat.le_of_ble_eq_true rfl) tw_3_225 (fun _ h9 => h9) d_Report_exporter_1 (fun r1 => ?_)
  refine fs_lift (fun _ _ _ _ => lv_iconst (v := 0) hx hb d_Report_exporter_4 (by decide)) ?_
  refine fs_Jai S hG d_Report_exporter_5 (fun v2 => ?_)
  exact fs_Jiret S hr hk rfl d_Report_exporter_6

theorem d_Report_epoch_0 : decode prog_8_method_6_code 0 = .ok (.aload_n 0, 1) := by decide +kernel
theorem d_Report_epoch_1 : decode prog_8_method_6_code 1 = .ok (.getfield 9, 3) := by decide +kernel
theorem d_Report_epoch_4 : decode prog_8_method_6_code 4 = .ok (.iconst 1, 1) := by decide +kernel
theorem d_Report_epoch_5 : decode prog_8_method_6_code 5 = .ok (.iaload, 1) := by decide +kernel
theorem d_Report_epoch_6 : decode prog_8_method_6_code 6 = .ok (.ireturn, 1) := by decide +kernel
theorem q_Report_epoch : (⟨"FlowShelf$Report", "epoch", "()I"⟩ : MethodName).cls ≠ "java/lang/invoke/MethodHandle" ∧ (⟨"FlowShelf$Report", "epoch", "()I"⟩ : MethodName).cls ≠ "java/lang/invoke/VarHandle" ∧ (parseMethodDescriptor (⟨"FlowShelf$Report", "epoch", "()I"⟩ : MethodName).desc).map (fun d => d.parameters.length) = some 0 := by decide +kernel
set_option maxHeartbeats 4000000 in
set_option maxRecDepth 100000 in
theorem m_Report_epoch (X : fs_X) (l : Launch) (a0 : Nat) {r : Int32} {σ σF : fs_S} (h : (f_Report_epoch a0).1 σ = some (r, σF)) : fs_Met X l ⟨"FlowShelf$Report", "epoch", "()I"⟩ (Cond.code ⟨"FlowShelf$Report", "epoch", "()I"⟩ prog_8_method_6_code 1 (some FieldType.int)) 0 0 [.ref a0] σ (fs_eI r) σF := by
  refine fs_ofW (by decide) ?_
  intro p e s m args below meth c s₁ B hml hT hv
  obtain ⟨rfl, hw0, hG⟩ := hv
  have hx := B.exec
  have hb := B.bytes
  have hr := B.returns
  have hk := B.notSynchronized
  have S : CallFix p m c prog_8_method_6_code 1 s _ fs_ws "FlowShelf$Report" := ⟨B.exec, B.bytes, hml, findClass_of_methodNamed B.named, fun w hw => atoms_spec (ws := _ :: fs_ws) B.pre w (List.mem_cons_of_mem _ hw)⟩
  have hR := fs_hR (fr := 0) (lo := 0) ((f_Report_epoch a0).2 _ _ _ h)
  have hl := lv_entry ([.ref a0]) (n := 1) (Nat.le_of_ble_eq_true rfl)
  rw [lg_entry_eq]
  generalize (lg_sl ([.ref a0]) ++ List.replicate (1 - (lg_sl ([.ref a0])).length) Slot.unset).toArray = ls at hl ⊢
  have hl : lv_has ls 1 [(0, .ref a0)] := hl
  refine (?_ : fs_J X p l e (fs_rm 0 0 σ σF) s m _ below meth c (fs_Q X below _ s (fs_eI r) σ σF) r σ σF (f_Report_epoch a0) (F0 m 0 ls [])) σ s.heap [] 0 0 h hw0 va_S.rf rfl rfl
  clear h hw0
  unfold f_Report_epoch
  refine fs_lift (fun _ _ _ _ => lv_aload_n hx hb d_Report_epoch_0 rfl (lv_at hl 0 rfl)) ?_
  refine fs_Jgr S hG fs_in9 rfl 0 (Nat.le_of_ble_eq_true rfl) tw_3_225 (fun _ h9 => h9) d_Report_epoch_1 (fun r1 => ?_)
  refine fs_lift (fun _ _ _ _ => lv_iconst (v := 1) hx hb d_Report_epoch_4 (by decide)) ?_
  refine fs_Jai S hG d_Report_epoch_5 (fun v2 => ?_)
  exact fs_Jiret S hr hk rfl d_Report_epoch_6

theorem d_Report_kind_0 : decode prog_8_method_7_code 0 = .ok (.aload_n 0, 1) := by decide +kernel
theorem d_Report_kind_1 : decode prog_8_method_7_code 1 = .ok (.getfield 9, 3) := by decide +kernel
theorem d_Report_kind_4 : decode prog_8_method_7_code 4 = .ok (.iconst 2, 1) := by decide +kernel
theorem d_Report_kind_5 : decode prog_8_method_7_code 5 = .ok (.iaload, 1) := by decide +kernel
theorem d_Report_kind_6 : decode prog_8_method_7_code 6 = .ok (.ireturn, 1) := by decide +kernel
theorem q_Report_kind : (⟨"FlowShelf$Report", "kind", "()I"⟩ : MethodName).cls ≠ "java/lang/invoke/MethodHandle" ∧ (⟨"FlowShelf$Report", "kind", "()I"⟩ : MethodName).cls ≠ "java/lang/invoke/VarHandle" ∧ (parseMethodDescriptor (⟨"FlowShelf$Report", "kind", "()I"⟩ : MethodName).desc).map (fun d => d.parameters.length) = some 0 := by decide +kernel
set_option maxHeartbeats 4000000 in
set_option maxRecDepth 100000 in
theorem m_Report_kind (X : fs_X) (l : Launch) (a0 : Nat) {r : Int32} {σ σF : fs_S} (h : (f_Report_kind a0).1 σ = some (r, σF)) : fs_Met X l ⟨"FlowShelf$Report", "kind", "()I"⟩ (Cond.code ⟨"FlowShelf$Report", "kind", "()I"⟩ prog_8_method_7_code 1 (some FieldType.int)) 0 0 [.ref a0] σ (fs_eI r) σF := by
  refine fs_ofW (by decide) ?_
  intro p e s m args below meth c s₁ B hml hT hv
  obtain ⟨rfl, hw0, hG⟩ := hv
  have hx := B.exec
  have hb := B.bytes
  have hr := B.returns
  have hk := B.notSynchronized
  have S : CallFix p m c prog_8_method_7_code 1 s _ fs_ws "FlowShelf$Report" := ⟨B.exec, B.bytes, hml, findClass_of_methodNamed B.named, fun w hw => atoms_spec (ws := _ :: fs_ws) B.pre w (List.mem_cons_of_mem _ hw)⟩
  have hR := fs_hR (fr := 0) (lo := 0) ((f_Report_kind a0).2 _ _ _ h)
  have hl := lv_entry ([.ref a0]) (n := 1) (Nat.le_of_ble_eq_true rfl)
  rw [lg_entry_eq]
  generalize (lg_sl ([.ref a0]) ++ List.replicate (1 - (lg_sl ([.ref a0])).length) Slot.unset).toArray = ls at hl ⊢
  have hl : lv_has ls 1 [(0, .ref a0)] := hl
  refine (?_ : fs_J X p l e (fs_rm 0 0 σ σF) s m _ below meth c (fs_Q X below _ s (fs_eI r) σ σF) r σ σF (f_Report_kind a0) (F0 m 0 ls [])) σ s.heap [] 0 0 h hw0 va_S.rf rfl rfl
  clear h hw0
  unfold f_Report_kind
  refine fs_lift (fun _ _ _ _ => lv_aload_n hx hb d_Report_kind_0 rfl (lv_at hl 0 rfl)) ?_
  refine fs_Jgr S hG fs_in9 rfl 0 (Nat.le_of_ble_eq_true rfl) tw_3_225 (fun _ h9 => h9) d_Report_kind_1 (fun r1 => ?_)
  refine fs_lift (fun _ _ _ _ => lv_iconst (v := 2) hx hb d_Report_kind_4 (by decide)) ?_
  refine fs_Jai S hG d_Report_kind_5 (fun v2 => ?_)
  exact fs_Jiret S hr hk rfl d_Report_kind_6

theorem d_Report_namesNoTemplate_0 : decode prog_8_method_17_code 0 = .ok (.aload_n 0, 1) := by decide +kernel
theorem d_Report_namesNoTemplate_1 : decode prog_8_method_17_code 1 = .ok (.getfield 9, 3) := by decide +kernel
theorem d_Report_namesNoTemplate_4 : decode prog_8_method_17_code 4 = .ok (.iconst 3, 1) := by decide +kernel
theorem d_Report_namesNoTemplate_5 : decode prog_8_method_17_code 5 = .ok (.iaload, 1) := by decide +kernel
theorem d_Report_namesNoTemplate_6 : decode prog_8_method_17_code 6 = .ok (.iconst 3, 1) := by decide +kernel
theorem d_Report_namesNoTemplate_7 : decode prog_8_method_17_code 7 = .ok (.if_icmp .ge 12, 3) := by decide +kernel
theorem d_Report_namesNoTemplate_10 : decode prog_8_method_17_code 10 = .ok (.aload_n 0, 1) := by decide +kernel
theorem d_Report_namesNoTemplate_11 : decode prog_8_method_17_code 11 = .ok (.getfield 9, 3) := by decide +kernel
theorem d_Report_namesNoTemplate_14 : decode prog_8_method_17_code 14 = .ok (.iconst 4, 1) := by decide +kernel
theorem d_Report_namesNoTemplate_15 : decode prog_8_method_17_code 15 = .ok (.iaload, 1) := by decide +kernel
theorem d_Report_namesNoTemplate_16 : decode prog_8_method_17_code 16 = .ok (.ifCond .ne 7, 3) := by decide +kernel
theorem d_Report_namesNoTemplate_19 : decode prog_8_method_17_code 19 = .ok (.iconst 1, 1) := by decide +kernel
theorem d_Report_namesNoTemplate_20 : decode prog_8_method_17_code 20 = .ok (.goto 4, 3) := by decide +kernel
theorem d_Report_namesNoTemplate_23 : decode prog_8_method_17_code 23 = .ok (.iconst 0, 1) := by decide +kernel
theorem d_Report_namesNoTemplate_24 : decode prog_8_method_17_code 24 = .ok (.ireturn, 1) := by decide +kernel
theorem q_Report_namesNoTemplate : (⟨"FlowShelf$Report", "namesNoTemplate", "()Z"⟩ : MethodName).cls ≠ "java/lang/invoke/MethodHandle" ∧ (⟨"FlowShelf$Report", "namesNoTemplate", "()Z"⟩ : MethodName).cls ≠ "java/lang/invoke/VarHandle" ∧ (parseMethodDescriptor (⟨"FlowShelf$Report", "namesNoTemplate", "()Z"⟩ : MethodName).desc).map (fun d => d.parameters.length) = some 0 := by decide +kernel
set_option maxHeartbeats 4000000 in
set_option maxRecDepth 100000 in
theorem m_Report_namesNoTemplate (X : fs_X) (l : Launch) (a0 : Nat) {r : Int32} {σ σF : fs_S} (h : (f_Report_namesNoTemplate a0).1 σ = some (r, σF)) : fs_Met X l ⟨"FlowShelf$Report", "namesNoTemplate", "()Z"⟩ (Cond.code ⟨"FlowShelf$Report", "namesNoTemplate", "()Z"⟩ prog_8_method_17_code 1 (some FieldType.boolean)) 0 0 [.ref a0] σ (fs_eI r) σF := by
  refine fs_ofW (by decide) ?_
  intro p e s m args below meth c s₁ B hml hT hv
  obtain ⟨rfl, hw0, hG⟩ := hv
  have hx := B.exec
  have hb := B.bytes
  have hr := B.returns
  have hk := B.notSynchronized
  have S : CallFix p m c prog_8_method_17_code 1 s _ fs_ws "FlowShelf$Report" := ⟨B.exec, B.bytes, hml, findClass_of_methodNamed B.named, fun w hw => atoms_spec (ws := _ :: fs_ws) B.pre w (List.mem_cons_of_mem _ hw)⟩
  have hR := fs_hR (fr := 0) (lo := 0) ((f_Report_namesNoTemplate a0).2 _ _ _ h)
  have hl := lv_entry ([.ref a0]) (n := 1) (Nat.le_of_ble_eq_true rfl)
  rw [lg_entry_eq]
  generalize (lg_sl ([.ref a0]) ++ List.replicate (1 - (lg_sl ([.ref a0])).length) Slot.unset).toArray = ls at hl ⊢
  have hl : lv_has ls 1 [(0, .ref a0)] := hl
  refine (?_ : fs_J X p l e (fs_rm 0 0 σ σF) s m _ below meth c (fs_Q X below _ s (fs_eI r) σ σF) r σ σF (f_Report_namesNoTemplate a0) (F0 m 0 ls [])) σ s.heap [] 0 0 h hw0 va_S.rf rfl rfl
  clear h hw0
  unfold f_Report_namesNoTemplate
  refine fs_lift (fun _ _ _ _ => lv_aload_n hx hb d_Report_namesNoTemplate_0 rfl (lv_at hl 0 rfl)) ?_
  refine fs_Jgr S hG fs_in9 rfl 0 (Nat.le_of_ble_eq_true rfl) tw_3_225 (fun _ h9 => h9) d_Report_namesNoTemplate_1 (fun r1 => ?_)
  refine fs_lift (fun _ _ _ _ => lv_iconst (v := 3) hx hb d_Report_namesNoTemplate_4 (by decide)) ?_
  refine fs_Jai S hG d_Report_namesNoTemplate_5 (fun v2 => ?_)
  refine fs_lift (fun _ _ _ _ => lv_iconst (v := 3) hx hb d_Report_namesNoTemplate_6 (by decide)) ?_
  refine fs_if (fun _ _ _ _ => lv_icmp_ge hx hb d_Report_namesNoTemplate_7 rfl) ?_ ?_
  · refine fs_lift (fun _ _ _ _ => lv_iconst (v := 1) hx hb d_Report_namesNoTemplate_19 (by decide)) ?_
    refine fs_lift (fun _ _ _ _ => lv_goto hx hb d_Report_namesNoTemplate_20 rfl) ?_
    exact fs_Jzret S hr hk rfl d_Report_namesNoTemplate_24
  · refine fs_lift (fun _ _ _ _ => lv_aload_n hx hb d_Report_namesNoTemplate_10 rfl (lv_at hl 0 rfl)) ?_
    refine fs_Jgr S hG fs_in9 rfl 0 (Nat.le_of_ble_eq_true rfl) tw_3_225 (fun _ h9 => h9) d_Report_namesNoTemplate_11 (fun r3 => ?_)
    refine fs_lift (fun _ _ _ _ => lv_iconst (v := 4) hx hb d_Report_namesNoTemplate_14 (by decide)) ?_
    refine fs_Jai S hG d_Report_namesNoTemplate_15 (fun v4 => ?_)
    refine fs_ifn (fun _ _ _ _ => lv_if_ne hx hb d_Report_namesNoTemplate_16 rfl) ?_ ?_
    · refine fs_lift (fun _ _ _ _ => lv_iconst (v := 1) hx hb d_Report_namesNoTemplate_19 (by decide)) ?_
      refine fs_lift (fun _ _ _ _ => lv_goto hx hb d_Report_namesNoTemplate_20 rfl) ?_
      exact fs_Jzret S hr hk rfl d_Report_namesNoTemplate_24
    · refine fs_lift (fun _ _ _ _ => lv_iconst (v := 0) hx hb d_Report_namesNoTemplate_23 (by decide)) ?_
      exact fs_Jzret S hr hk rfl d_Report_namesNoTemplate_24

theorem d_Report_templateFields_0 : decode prog_8_method_8_code 0 = .ok (.aload_n 0, 1) := by decide +kernel
theorem d_Report_templateFields_1 : decode prog_8_method_8_code 1 = .ok (.getfield 9, 3) := by decide +kernel
theorem d_Report_templateFields_4 : decode prog_8_method_8_code 4 = .ok (.iconst 5, 1) := by decide +kernel
theorem d_Report_templateFields_5 : decode prog_8_method_8_code 5 = .ok (.iaload, 1) := by decide +kernel
theorem d_Report_templateFields_6 : decode prog_8_method_8_code 6 = .ok (.ireturn, 1) := by decide +kernel
theorem q_Report_templateFields : (⟨"FlowShelf$Report", "templateFields", "()I"⟩ : MethodName).cls ≠ "java/lang/invoke/MethodHandle" ∧ (⟨"FlowShelf$Report", "templateFields", "()I"⟩ : MethodName).cls ≠ "java/lang/invoke/VarHandle" ∧ (parseMethodDescriptor (⟨"FlowShelf$Report", "templateFields", "()I"⟩ : MethodName).desc).map (fun d => d.parameters.length) = some 0 := by decide +kernel
set_option maxHeartbeats 4000000 in
set_option maxRecDepth 100000 in
theorem m_Report_templateFields (X : fs_X) (l : Launch) (a0 : Nat) {r : Int32} {σ σF : fs_S} (h : (f_Report_templateFields a0).1 σ = some (r, σF)) : fs_Met X l ⟨"FlowShelf$Report", "templateFields", "()I"⟩ (Cond.code ⟨"FlowShelf$Report", "templateFields", "()I"⟩ prog_8_method_8_code 1 (some FieldType.int)) 0 0 [.ref a0] σ (fs_eI r) σF := by
  refine fs_ofW (by decide) ?_
  intro p e s m args below meth c s₁ B hml hT hv
  obtain ⟨rfl, hw0, hG⟩ := hv
  have hx := B.exec
  have hb := B.bytes
  have hr := B.returns
  have hk := B.notSynchronized
  have S : CallFix p m c prog_8_method_8_code 1 s _ fs_ws "FlowShelf$Report" := ⟨B.exec, B.bytes, hml, findClass_of_methodNamed B.named, fun w hw => atoms_spec (ws := _ :: fs_ws) B.pre w (List.mem_cons_of_mem _ hw)⟩
  have hR := fs_hR (fr := 0) (lo := 0) ((f_Report_templateFields a0).2 _ _ _ h)
  have hl := lv_entry ([.ref a0]) (n := 1) (Nat.le_of_ble_eq_true rfl)
  rw [lg_entry_eq]
  generalize (lg_sl ([.ref a0]) ++ List.replicate (1 - (lg_sl ([.ref a0])).length) Slot.unset).toArray = ls at hl ⊢
  have hl : lv_has ls 1 [(0, .ref a0)] := hl
  refine (?_ : fs_J X p l e (fs_rm 0 0 σ σF) s m _ below meth c (fs_Q X below _ s (fs_eI r) σ σF) r σ σF (f_Report_templateFields a0) (F0 m 0 ls [])) σ s.heap [] 0 0 h hw0 va_S.rf rfl rfl
  clear h hw0
  unfold f_Report_templateFields
  refine fs_lift (fun _ _ _ _ => lv_aload_n hx hb d_Report_templateFields_0 rfl (lv_at hl 0 rfl)) ?_
  refine fs_Jgr S hG fs_in9 rfl 0 (Nat.le_of_ble_eq_true rfl) tw_3_225 (fun _ h9 => h9) d_Report_templateFields_1 (fun r1 => ?_)
  refine fs_lift (fun _ _ _ _ => lv_iconst (v := 5) hx hb d_Report_templateFields_4 (by decide)) ?_
  refine fs_Jai S hG d_Report_templateFields_5 (fun v2 => ?_)
  exact fs_Jiret S hr hk rfl d_Report_templateFields_6

theorem d_Report_templateField_0 : decode prog_8_method_9_code 0 = .ok (.aload_n 0, 1) := by decide +kernel
theorem d_Report_templateField_1 : decode prog_8_method_9_code 1 = .ok (.getfield 9, 3) := by decide +kernel
theorem d_Report_templateField_4 : decode prog_8_method_9_code 4 = .ok (.bipush 6, 2) := by decide +kernel
theorem d_Report_templateField_6 : decode prog_8_method_9_code 6 = .ok (.iconst 2, 1) := by decide +kernel
theorem d_Report_templateField_7 : decode prog_8_method_9_code 7 = .ok (.iload_n 1, 1) := by decide +kernel
theorem d_Report_templateField_8 : decode prog_8_method_9_code 8 = .ok (.imul, 1) := by decide +kernel
theorem d_Report_templateField_9 : decode prog_8_method_9_code 9 = .ok (.iadd, 1) := by decide +kernel
theorem d_Report_templateField_10 : decode prog_8_method_9_code 10 = .ok (.iaload, 1) := by decide +kernel
theorem d_Report_templateField_11 : decode prog_8_method_9_code 11 = .ok (.ireturn, 1) := by decide +kernel
theorem q_Report_templateField : (⟨"FlowShelf$Report", "templateField", "(I)I"⟩ : MethodName).cls ≠ "java/lang/invoke/MethodHandle" ∧ (⟨"FlowShelf$Report", "templateField", "(I)I"⟩ : MethodName).cls ≠ "java/lang/invoke/VarHandle" ∧ (parseMethodDescriptor (⟨"FlowShelf$Report", "templateField", "(I)I"⟩ : MethodName).desc).map (fun d => d.parameters.length) = some 1 := by decide +kernel
set_option maxHeartbeats 4000000 in
set_option maxRecDepth 100000 in
theorem m_Report_templateField (X : fs_X) (l : Launch) (a0 : Nat) (x1 : Int32) {r : Int32} {σ σF : fs_S} (h : (f_Report_templateField a0 x1).1 σ = some (r, σF)) : fs_Met X l ⟨"FlowShelf$Report", "templateField", "(I)I"⟩ (Cond.code ⟨"FlowShelf$Report", "templateField", "(I)I"⟩ prog_8_method_9_code 2 (some FieldType.int)) 0 0 [.ref a0, .int x1] σ (fs_eI r) σF := by
  refine fs_ofW (by decide) ?_
  intro p e s m args below meth c s₁ B hml hT hv
  obtain ⟨rfl, hw0, hG⟩ := hv
  have hx := B.exec
  have hb := B.bytes
  have hr := B.returns
  have hk := B.notSynchronized
  have S : CallFix p m c prog_8_method_9_code 2 s _ fs_ws "FlowShelf$Report" := ⟨B.exec, B.bytes, hml, findClass_of_methodNamed B.named, fun w hw => atoms_spec (ws := _ :: fs_ws) B.pre w (List.mem_cons_of_mem _ hw)⟩
  have hR := fs_hR (fr := 0) (lo := 0) ((f_Report_templateField a0 x1).2 _ _ _ h)
  have hl := lv_entry ([.ref a0, .int x1]) (n := 2) (Nat.le_of_ble_eq_true rfl)
  rw [lg_entry_eq]
  generalize (lg_sl ([.ref a0, .int x1]) ++ List.replicate (2 - (lg_sl ([.ref a0, .int x1])).length) Slot.unset).toArray = ls at hl ⊢
  have hl : lv_has ls 2 [(0, .ref a0), (1, .int x1)] := hl
  refine (?_ : fs_J X p l e (fs_rm 0 0 σ σF) s m _ below meth c (fs_Q X below _ s (fs_eI r) σ σF) r σ σF (f_Report_templateField a0 x1) (F0 m 0 ls [])) σ s.heap [] 0 0 h hw0 va_S.rf rfl rfl
  clear h hw0
  unfold f_Report_templateField
  refine fs_lift (fun _ _ _ _ => lv_aload_n hx hb d_Report_templateField_0 rfl (lv_at hl 0 rfl)) ?_
  refine fs_Jgr S hG fs_in9 rfl 0 (Nat.le_of_ble_eq_true rfl) tw_3_225 (fun _ h9 => h9) d_Report_templateField_1 (fun r1 => ?_)
  refine fs_lift (fun _ _ _ _ => lv_bipush (v := 6) hx hb d_Report_templateField_4 (by decide)) ?_
  refine fs_lift (fun _ _ _ _ => lv_iconst (v := 2) hx hb d_Report_templateField_6 (by decide)) ?_
  refine fs_lift (fun _ _ _ _ => lv_iload_n hx hb d_Report_templateField_7 rfl (lv_at hl 1 rfl)) ?_
  refine fs_lift (fun _ _ _ _ => lv_imul hx hb d_Report_templateField_8) ?_
  refine fs_lift (fun _ _ _ _ => lv_iadd hx hb d_Report_templateField_9) ?_
  refine fs_Jai S hG d_Report_templateField_10 (fun v2 => ?_)
  exact fs_Jiret S hr hk rfl d_Report_templateField_11

theorem d_Report_templateLength_0 : decode prog_8_method_10_code 0 = .ok (.aload_n 0, 1) := by decide +kernel
theorem d_Report_templateLength_1 : decode prog_8_method_10_code 1 = .ok (.getfield 9, 3) := by decide +kernel
theorem d_Report_templateLength_4 : decode prog_8_method_10_code 4 = .ok (.bipush 6, 2) := by decide +kernel
theorem d_Report_templateLength_6 : decode prog_8_method_10_code 6 = .ok (.iconst 2, 1) := by decide +kernel
theorem d_Report_templateLength_7 : decode prog_8_method_10_code 7 = .ok (.iload_n 1, 1) := by decide +kernel
theorem d_Report_templateLength_8 : decode prog_8_method_10_code 8 = .ok (.imul, 1) := by decide +kernel
theorem d_Report_templateLength_9 : decode prog_8_method_10_code 9 = .ok (.iadd, 1) := by decide +kernel
theorem d_Report_templateLength_10 : decode prog_8_method_10_code 10 = .ok (.iconst 1, 1) := by decide +kernel
theorem d_Report_templateLength_11 : decode prog_8_method_10_code 11 = .ok (.iadd, 1) := by decide +kernel
theorem d_Report_templateLength_12 : decode prog_8_method_10_code 12 = .ok (.iaload, 1) := by decide +kernel
theorem d_Report_templateLength_13 : decode prog_8_method_10_code 13 = .ok (.ireturn, 1) := by decide +kernel
theorem q_Report_templateLength : (⟨"FlowShelf$Report", "templateLength", "(I)I"⟩ : MethodName).cls ≠ "java/lang/invoke/MethodHandle" ∧ (⟨"FlowShelf$Report", "templateLength", "(I)I"⟩ : MethodName).cls ≠ "java/lang/invoke/VarHandle" ∧ (parseMethodDescriptor (⟨"FlowShelf$Report", "templateLength", "(I)I"⟩ : MethodName).desc).map (fun d => d.parameters.length) = some 1 := by decide +kernel
set_option maxHeartbeats 4000000 in
set_option maxRecDepth 100000 in
theorem m_Report_templateLength (X : fs_X) (l : Launch) (a0 : Nat) (x1 : Int32) {r : Int32} {σ σF : fs_S} (h : (f_Report_templateLength a0 x1).1 σ = some (r, σF)) : fs_Met X l ⟨"FlowShelf$Report", "templateLength", "(I)I"⟩ (Cond.code ⟨"FlowShelf$Report", "templateLength", "(I)I"⟩ prog_8_method_10_code 2 (some FieldType.int)) 0 0 [.ref a0, .int x1] σ (fs_eI r) σF := by
  refine fs_ofW (by decide) ?_
  intro p e s m args below meth c s₁ B hml hT hv
  obtain ⟨rfl, hw0, hG⟩ := hv
  have hx := B.exec
  have hb := B.bytes
  have hr := B.returns
  have hk := B.notSynchronized
  have S : CallFix p m c prog_8_method_10_code 2 s _ fs_ws "FlowShelf$Report" := ⟨B.exec, B.bytes, hml, findClass_of_methodNamed B.named, fun w hw => atoms_spec (ws := _ :: fs_ws) B.pre w (List.mem_cons_of_mem _ hw)⟩
  have hR := fs_hR (fr := 0) (lo := 0) ((f_Report_templateLength a0 x1).2 _ _ _ h)
  have hl := lv_entry ([.ref a0, .int x1]) (n := 2) (Nat.le_of_ble_eq_true rfl)
  rw [lg_entry_eq]
  generalize (lg_sl ([.ref a0, .int x1]) ++ List.replicate (2 - (lg_sl ([.ref a0, .int x1])).length) Slot.unset).toArray = ls at hl ⊢
  have hl : lv_has ls 2 [(0, .ref a0), (1, .int x1)] := hl
  refine (?_ : fs_J X p l e (fs_rm 0 0 σ σF) s m _ below meth c (fs_Q X below _ s (fs_eI r) σ σF) r σ σF (f_Report_templateLength a0 x1) (F0 m 0 ls [])) σ s.heap [] 0 0 h hw0 va_S.rf rfl rfl
  clear h hw0
  unfold f_Report_templateLength
  refine fs_lift (fun _ _ _ _ => lv_aload_n hx hb d_Report_templateLength_0 rfl (lv_at hl 0 rfl)) ?_
  refine fs_Jgr S hG fs_in9 rfl 0 (Nat.le_of_ble_eq_true rfl) tw_3_225 (fun _ h9 => h9) d_Report_templateLength_1 (fun r1 => ?_)
  refine fs_lift (fun _ _ _ _ => lv_bipush (v := 6) hx hb d_Report_templateLength_4 (by decide)) ?_
  refine fs_lift (fun _ _ _ _ => lv_iconst (v := 2) hx hb d_Report_templateLength_6 (by decide)) ?_
  refine fs_lift (fun _ _ _ _ => lv_iload_n hx hb d_Report_templateLength_7 rfl (lv_at hl 1 rfl)) ?_
  refine fs_lift (fun _ _ _ _ => lv_imul hx hb d_Report_templateLength_8) ?_
  refine fs_lift (fun _ _ _ _ => lv_iadd hx hb d_Report_templateLength_9) ?_
  refine fs_lift (fun _ _ _ _ => lv_iconst (v := 1) hx hb d_Report_templateLength_10 (by decide)) ?_
  refine fs_lift (fun _ _ _ _ => lv_iadd hx hb d_Report_templateLength_11) ?_
  refine fs_Jai S hG d_Report_templateLength_12 (fun v2 => ?_)
  exact fs_Jiret S hr hk rfl d_Report_templateLength_13

theorem d_Report_isBadTemplate_0 : decode prog_8_method_18_code 0 = .ok (.aload_n 0, 1) := by decide +kernel
theorem d_Report_isBadTemplate_1 : decode prog_8_method_18_code 1 = .ok (.invokevirtual 56, 3) := by decide +kernel
theorem d_Report_isBadTemplate_4 : decode prog_8_method_18_code 4 = .ok (.istore_n 1, 1) := by decide +kernel
theorem d_Report_isBadTemplate_5 : decode prog_8_method_18_code 5 = .ok (.iload_n 1, 1) := by decide +kernel
theorem d_Report_isBadTemplate_6 : decode prog_8_method_18_code 6 = .ok (.iconst 1, 1) := by decide +kernel
theorem d_Report_isBadTemplate_7 : decode prog_8_method_18_code 7 = .ok (.if_icmp .lt 22, 3) := by decide +kernel
theorem d_Report_isBadTemplate_10 : decode prog_8_method_18_code 10 = .ok (.iload_n 1, 1) := by decide +kernel
theorem d_Report_isBadTemplate_11 : decode prog_8_method_18_code 11 = .ok (.bipush 8, 2) := by decide +kernel
theorem d_Report_isBadTemplate_13 : decode prog_8_method_18_code 13 = .ok (.if_icmp .gt 16, 3) := by decide +kernel
theorem d_Report_isBadTemplate_16 : decode prog_8_method_18_code 16 = .ok (.aload_n 0, 1) := by decide +kernel
theorem d_Report_isBadTemplate_17 : decode prog_8_method_18_code 17 = .ok (.getfield 15, 3) := by decide +kernel
theorem d_Report_isBadTemplate_20 : decode prog_8_method_18_code 20 = .ok (.bipush 6, 2) := by decide +kernel
theorem d_Report_isBadTemplate_22 : decode prog_8_method_18_code 22 = .ok (.iconst 2, 1) := by decide +kernel
theorem d_Report_isBadTemplate_23 : decode prog_8_method_18_code 23 = .ok (.iload_n 1, 1) := by decide +kernel
theorem d_Report_isBadTemplate_24 : decode prog_8_method_18_code 24 = .ok (.imul, 1) := by decide +kernel
theorem d_Report_isBadTemplate_25 : decode prog_8_method_18_code 25 = .ok (.iadd, 1) := by decide +kernel
theorem d_Report_isBadTemplate_26 : decode prog_8_method_18_code 26 = .ok (.if_icmp .eq 5, 3) := by decide +kernel
theorem d_Report_isBadTemplate_29 : decode prog_8_method_18_code 29 = .ok (.iconst 1, 1) := by decide +kernel
theorem d_Report_isBadTemplate_30 : decode prog_8_method_18_code 30 = .ok (.ireturn, 1) := by decide +kernel
theorem d_Report_isBadTemplate_31 : decode prog_8_method_18_code 31 = .ok (.iconst 0, 1) := by decide +kernel
theorem d_Report_isBadTemplate_32 : decode prog_8_method_18_code 32 = .ok (.istore_n 2, 1) := by decide +kernel
theorem d_Report_isBadTemplate_33 : decode prog_8_method_18_code 33 = .ok (.iconst 0, 1) := by decide +kernel
theorem d_Report_isBadTemplate_34 : decode prog_8_method_18_code 34 = .ok (.istore_n 3, 1) := by decide +kernel
theorem d_Report_isBadTemplate_35 : decode prog_8_method_18_code 35 = .ok (.iload_n 3, 1) := by decide +kernel
theorem d_Report_isBadTemplate_36 : decode prog_8_method_18_code 36 = .ok (.iload_n 1, 1) := by decide +kernel
theorem d_Report_isBadTemplate_37 : decode prog_8_method_18_code 37 = .ok (.if_icmp .ge 50, 3) := by decide +kernel
theorem d_Report_isBadTemplate_40 : decode prog_8_method_18_code 40 = .ok (.aload_n 0, 1) := by decide +kernel
theorem d_Report_isBadTemplate_41 : decode prog_8_method_18_code 41 = .ok (.iload_n 3, 1) := by decide +kernel
theorem d_Report_isBadTemplate_42 : decode prog_8_method_18_code 42 = .ok (.invokevirtual 59, 3) := by decide +kernel
theorem d_Report_isBadTemplate_45 : decode prog_8_method_18_code 45 = .ok (.istore 4, 2) := by decide +kernel
theorem d_Report_isBadTemplate_47 : decode prog_8_method_18_code 47 = .ok (.iload 4, 2) := by decide +kernel
theorem d_Report_isBadTemplate_49 : decode prog_8_method_18_code 49 = .ok (.bipush 8, 2) := by decide +kernel
theorem d_Report_isBadTemplate_51 : decode prog_8_method_18_code 51 = .ok (.if_icmp .ge 21, 3) := by decide +kernel
theorem d_Report_isBadTemplate_54 : decode prog_8_method_18_code 54 = .ok (.iload_n 2, 1) := by decide +kernel
theorem d_Report_isBadTemplate_55 : decode prog_8_method_18_code 55 = .ok (.iconst 1, 1) := by decide +kernel
theorem d_Report_isBadTemplate_56 : decode prog_8_method_18_code 56 = .ok (.iload 4, 2) := by decide +kernel
theorem d_Report_isBadTemplate_58 : decode prog_8_method_18_code 58 = .ok (.ishl, 1) := by decide +kernel
theorem d_Report_isBadTemplate_59 : decode prog_8_method_18_code 59 = .ok (.iand, 1) := by decide +kernel
theorem d_Report_isBadTemplate_60 : decode prog_8_method_18_code 60 = .ok (.ifCond .ne 12, 3) := by decide +kernel
theorem d_Report_isBadTemplate_63 : decode prog_8_method_18_code 63 = .ok (.aload_n 0, 1) := by decide +kernel
theorem d_Report_isBadTemplate_64 : decode prog_8_method_18_code 64 = .ok (.iload_n 3, 1) := by decide +kernel
theorem d_Report_isBadTemplate_65 : decode prog_8_method_18_code 65 = .ok (.invokevirtual 63, 3) := by decide +kernel
theorem d_Report_isBadTemplate_68 : decode prog_8_method_18_code 68 = .ok (.iconst 4, 1) := by decide +kernel
theorem d_Report_isBadTemplate_69 : decode prog_8_method_18_code 69 = .ok (.if_icmp .le 5, 3) := by decide +kernel
theorem d_Report_isBadTemplate_72 : decode prog_8_method_18_code 72 = .ok (.iconst 1, 1) := by decide +kernel
theorem d_Report_isBadTemplate_73 : decode prog_8_method_18_code 73 = .ok (.ireturn, 1) := by decide +kernel
theorem d_Report_isBadTemplate_74 : decode prog_8_method_18_code 74 = .ok (.iload_n 2, 1) := by decide +kernel
theorem d_Report_isBadTemplate_75 : decode prog_8_method_18_code 75 = .ok (.iconst 1, 1) := by decide +kernel
theorem d_Report_isBadTemplate_76 : decode prog_8_method_18_code 76 = .ok (.iload 4, 2) := by decide +kernel
theorem d_Report_isBadTemplate_78 : decode prog_8_method_18_code 78 = .ok (.ishl, 1) := by decide +kernel
theorem d_Report_isBadTemplate_79 : decode prog_8_method_18_code 79 = .ok (.ior, 1) := by decide +kernel
theorem d_Report_isBadTemplate_80 : decode prog_8_method_18_code 80 = .ok (.istore_n 2, 1) := by decide +kernel
theorem d_Report_isBadTemplate_81 : decode prog_8_method_18_code 81 = .ok (.iinc 3 1, 3) := by decide +kernel
theorem d_Report_isBadTemplate_84 : decode prog_8_method_18_code 84 = .ok (.goto (-49), 3) := by decide +kernel
theorem d_Report_isBadTemplate_87 : decode prog_8_method_18_code 87 = .ok (.iconst 0, 1) := by decide +kernel
theorem d_Report_isBadTemplate_88 : decode prog_8_method_18_code 88 = .ok (.ireturn, 1) := by decide +kernel
theorem q_Report_isBadTemplate : (⟨"FlowShelf$Report", "isBadTemplate", "()Z"⟩ : MethodName).cls ≠ "java/lang/invoke/MethodHandle" ∧ (⟨"FlowShelf$Report", "isBadTemplate", "()Z"⟩ : MethodName).cls ≠ "java/lang/invoke/VarHandle" ∧ (parseMethodDescriptor (⟨"FlowShelf$Report", "isBadTemplate", "()Z"⟩ : MethodName).desc).map (fun d => d.parameters.length) = some 0 := by decide +kernel
set_option maxHeartbeats 4000000 in
set_option maxRecDepth 100000 in
theorem m_Report_isBadTemplate (X : fs_X) (l : Launch) (a0 : Nat) {r : Int32} {σ σF : fs_S} (h : (f_Report_isBadTemplate a0).1 σ = some (r, σF)) : fs_Met X l ⟨"FlowShelf$Report", "isBadTemplate", "()Z"⟩ (Cond.code ⟨"FlowShelf$Report", "isBadTemplate", "()Z"⟩ prog_8_method_18_code 5 (some FieldType.boolean)) 1 21 [.ref a0] σ (fs_eI r) σF := by
  refine fs_ofW (by decide) ?_
  intro p e s m args below meth c s₁ B hml hT hv
  obtain ⟨rfl, hw0, hG⟩ := hv
  have hx := B.exec
  have hb := B.bytes
  have hr := B.returns
  have hk := B.notSynchronized
  have S : CallFix p m c prog_8_method_18_code 5 s _ fs_ws "FlowShelf$Report" := ⟨B.exec, B.bytes, hml, findClass_of_methodNamed B.named, fun w hw => atoms_spec (ws := _ :: fs_ws) B.pre w (List.mem_cons_of_mem _ hw)⟩
  have hR := fs_hR (fr := 1) (lo := 21) ((f_Report_isBadTemplate a0).2 _ _ _ h)
  have hl := lv_entry ([.ref a0]) (n := 5) (Nat.le_of_ble_eq_true rfl)
  rw [lg_entry_eq]
  generalize (lg_sl ([.ref a0]) ++ List.replicate (5 - (lg_sl ([.ref a0])).length) Slot.unset).toArray = ls at hl ⊢
  have hl : lv_has ls 5 [(0, .ref a0)] := hl
  refine (?_ : fs_J X p l e (fs_rm 1 21 σ σF) s m _ below meth c (fs_Q X below _ s (fs_eI r) σ σF) r σ σF (f_Report_isBadTemplate a0) (F0 m 0 ls [])) σ s.heap [] 0 0 h hw0 va_S.rf rfl rfl
  clear h hw0
  unfold f_Report_isBadTemplate
  refine fs_lift (fun _ _ _ _ => lv_aload_n hx hb d_Report_isBadTemplate_0 rfl (lv_at hl 0 rfl)) ?_
  refine fs_JV S hG hR rfl [] (enc := fun r => some (.int r)) (fun zr zs zt zh => m_Report_templateFields X l a0 zh) tw_4_119 tw_4_120 tw_4_121 tw_4_122 tw_1_25 q_Report_templateFields ⟨(Nat.le_of_ble_eq_true rfl), (Nat.le_of_ble_eq_true rfl)⟩ hl.1 rfl (Nat.le_of_ble_eq_true rfl) d_Report_isBadTemplate_1 (fun v1 => ?_)
  refine fs_Jeq (g2 := F0 m 4 ls [.int v1]) rfl ?_
  refine fs_liftL (fun _ _ _ _ => lv_istore_n (lv' := [(1, .int v1), (0, .ref a0)]) hx hb d_Report_isBadTemplate_4 rfl hl (Nat.le_of_ble_eq_true rfl) rfl) (fun ls hl => ?_)
  refine fs_lift (fun _ _ _ _ => lv_iload_n hx hb d_Report_isBadTemplate_5 rfl (lv_at hl 0 rfl)) ?_
  refine fs_lift (fun _ _ _ _ => lv_iconst (v := 1) hx hb d_Report_isBadTemplate_6 (by decide)) ?_
  refine fs_if (fun _ _ _ _ => lv_icmp_lt hx hb d_Report_isBadTemplate_7 rfl) ?_ ?_
  · refine fs_lift (fun _ _ _ _ => lv_iconst (v := 1) hx hb d_Report_isBadTemplate_29 (by decide)) ?_
    exact fs_Jzret S hr hk rfl d_Report_isBadTemplate_30
  · refine fs_lift (fun _ _ _ _ => lv_iload_n hx hb d_Report_isBadTemplate_10 rfl (lv_at hl 0 rfl)) ?_
    refine fs_lift (fun _ _ _ _ => lv_bipush (v := 8) hx hb d_Report_isBadTemplate_11 (by decide)) ?_
    refine fs_if (fun _ _ _ _ => lv_icmp_gt hx hb d_Report_isBadTemplate_13 rfl) ?_ ?_
    · refine fs_lift (fun _ _ _ _ => lv_iconst (v := 1) hx hb d_Report_isBadTemplate_29 (by decide)) ?_
      exact fs_Jzret S hr hk rfl d_Report_isBadTemplate_30
    · refine fs_lift (fun _ _ _ _ => lv_aload_n hx hb d_Report_isBadTemplate_16 rfl (lv_at hl 1 rfl)) ?_
      refine fs_Jgi S hG fs_in9 rfl 1 (Nat.le_of_ble_eq_true rfl) tw_3_228 (fun _ h9 => h9) d_Report_isBadTemplate_17 (fun v2 => ?_)
      refine fs_lift (fun _ _ _ _ => lv_bipush (v := 6) hx hb d_Report_isBadTemplate_20 (by decide)) ?_
      refine fs_lift (fun _ _ _ _ => lv_iconst (v := 2) hx hb d_Report_isBadTemplate_22 (by decide)) ?_
      refine fs_lift (fun _ _ _ _ => lv_iload_n hx hb d_Report_isBadTemplate_23 rfl (lv_at hl 0 rfl)) ?_
      refine fs_lift (fun _ _ _ _ => lv_imul hx hb d_Report_isBadTemplate_24) ?_
      refine fs_lift (fun _ _ _ _ => lv_iadd hx hb d_Report_isBadTemplate_25) ?_
      refine fs_if (fun _ _ _ _ => lv_icmp_eq hx hb d_Report_isBadTemplate_26 rfl) ?_ ?_
      · refine fs_lift (fun _ _ _ _ => lv_iconst (v := 0) hx hb d_Report_isBadTemplate_31 (by decide)) ?_
        refine fs_liftL (fun _ _ _ _ => lv_istore_n (lv' := [(2, .int 0), (1, .int v1), (0, .ref a0)]) hx hb d_Report_isBadTemplate_32 rfl hl (Nat.le_of_ble_eq_true rfl) rfl) (fun ls hl => ?_)
        refine fs_lift (fun _ _ _ _ => lv_iconst (v := 0) hx hb d_Report_isBadTemplate_33 (by decide)) ?_
        refine fs_liftL (fun _ _ _ _ => lv_istore_n (lv' := [(3, .int 0), (2, .int 0), (1, .int v1), (0, .ref a0)]) hx hb d_Report_isBadTemplate_34 rfl hl (Nat.le_of_ble_eq_true rfl) rfl) (fun ls hl => ?_)
        refine fs_Jlp2 (nL := 5) (pc := 35) (rest := []) (I := fun (v3 : Int32) (v4 : Int32) => [(0, .ref a0), (1, .int v1), (2, .int v3), (3, .int v4)]) (fun k35 hk35 v3 v4 ls hl => ?_) _ _ _ _ (lv_sub hl [3, 2, 1, 0] rfl)
        refine fs_lift (fun _ _ _ _ => lv_iload_n hx hb d_Report_isBadTemplate_35 rfl (lv_at hl 3 rfl)) ?_
        refine fs_lift (fun _ _ _ _ => lv_iload_n hx hb d_Report_isBadTemplate_36 rfl (lv_at hl 1 rfl)) ?_
        refine fs_if (fun _ _ _ _ => lv_icmp_ge hx hb d_Report_isBadTemplate_37 rfl) ?_ ?_
        · refine fs_lift (fun _ _ _ _ => lv_iconst (v := 0) hx hb d_Report_isBadTemplate_87 (by decide)) ?_
          exact fs_Jzret S hr hk rfl d_Report_isBadTemplate_88
        · refine fs_lift (fun _ _ _ _ => lv_aload_n hx hb d_Report_isBadTemplate_40 rfl (lv_at hl 0 rfl)) ?_
          refine fs_lift (fun _ _ _ _ => lv_iload_n hx hb d_Report_isBadTemplate_41 rfl (lv_at hl 3 rfl)) ?_
          refine fs_JV S hG hR rfl [.int v4] (enc := fun r => some (.int r)) (fun zr zs zt zh => m_Report_templateField X l a0 v4 zh) tw_4_123 tw_4_124 tw_4_125 tw_4_126 tw_1_25 q_Report_templateField ⟨(Nat.le_of_ble_eq_true rfl), (Nat.le_of_ble_eq_true rfl)⟩ hl.1 rfl (Nat.le_of_ble_eq_true rfl) d_Report_isBadTemplate_42 (fun v5 => ?_)
          refine fs_Jeq (g2 := F0 m 45 ls [.int v5]) rfl ?_
          refine fs_liftL (fun _ _ _ _ => lv_istore (lv' := [(4, .int v5), (0, .ref a0), (1, .int v1), (2, .int v3), (3, .int v4)]) hx hb d_Report_isBadTemplate_45 hl (Nat.le_of_ble_eq_true rfl) rfl) (fun ls hl => ?_)
          refine fs_lift (fun _ _ _ _ => lv_iload hx hb d_Report_isBadTemplate_47 (lv_at hl 0 rfl)) ?_
          refine fs_lift (fun _ _ _ _ => lv_bipush (v := 8) hx hb d_Report_isBadTemplate_49 (by decide)) ?_
          refine fs_if (fun _ _ _ _ => lv_icmp_ge hx hb d_Report_isBadTemplate_51 rfl) ?_ ?_
          · refine fs_lift (fun _ _ _ _ => lv_iconst (v := 1) hx hb d_Report_isBadTemplate_72 (by decide)) ?_
            exact fs_Jzret S hr hk rfl d_Report_isBadTemplate_73
          · refine fs_lift (fun _ _ _ _ => lv_iload_n hx hb d_Report_isBadTemplate_54 rfl (lv_at hl 3 rfl)) ?_
            refine fs_lift (fun _ _ _ _ => lv_iconst (v := 1) hx hb d_Report_isBadTemplate_55 (by decide)) ?_
            refine fs_lift (fun _ _ _ _ => lv_iload hx hb d_Report_isBadTemplate_56 (lv_at hl 0 rfl)) ?_
            refine fs_lift (fun _ _ _ _ => lv_ishl hx hb d_Report_isBadTemplate_58) ?_
            refine fs_lift (fun _ _ _ _ => lv_iand hx hb d_Report_isBadTemplate_59) ?_
            refine fs_ifn (fun _ _ _ _ => lv_if_ne hx hb d_Report_isBadTemplate_60 rfl) ?_ ?_
            · refine fs_lift (fun _ _ _ _ => lv_aload_n hx hb d_Report_isBadTemplate_63 rfl (lv_at hl 1 rfl)) ?_
              refine fs_lift (fun _ _ _ _ => lv_iload_n hx hb d_Report_isBadTemplate_64 rfl (lv_at hl 4 rfl)) ?_
              refine fs_JV S hG hR rfl [.int v4] (enc := fun r => some (.int r)) (fun zr zs zt zh => m_Report_templateLength X l a0 v4 zh) tw_4_127 tw_4_128 tw_4_129 tw_4_130 tw_1_25 q_Report_templateLength ⟨(Nat.le_of_ble_eq_true rfl), (Nat.le_of_ble_eq_true rfl)⟩ hl.1 rfl (Nat.le_of_ble_eq_true rfl) d_Report_isBadTemplate_65 (fun v6 => ?_)
              refine fs_Jeq (g2 := F0 m 68 ls [.int v6]) rfl ?_
              refine fs_lift (fun _ _ _ _ => lv_iconst (v := 4) hx hb d_Report_isBadTemplate_68 (by decide)) ?_
              refine fs_if (fun _ _ _ _ => lv_icmp_le hx hb d_Report_isBadTemplate_69 rfl) ?_ ?_
              · refine fs_lift (fun _ _ _ _ => lv_iload_n hx hb d_Report_isBadTemplate_74 rfl (lv_at hl 3 rfl)) ?_
                refine fs_lift (fun _ _ _ _ => lv_iconst (v := 1) hx hb d_Report_isBadTemplate_75 (by decide)) ?_
                refine fs_lift (fun _ _ _ _ => lv_iload hx hb d_Report_isBadTemplate_76 (lv_at hl 0 rfl)) ?_
                refine fs_lift (fun _ _ _ _ => lv_ishl hx hb d_Report_isBadTemplate_78) ?_
                refine fs_lift (fun _ _ _ _ => lv_ior hx hb d_Report_isBadTemplate_79) ?_
                refine fs_Jni (fun v7 => ?_)
                refine fs_liftL (fun _ _ _ _ => lv_istore_n (lv' := [(2, .int v7), (4, .int v5), (0, .ref a0), (1, .int v1), (3, .int v4)]) hx hb d_Report_isBadTemplate_80 rfl hl (Nat.le_of_ble_eq_true rfl) rfl) (fun ls hl => ?_)
                refine fs_Jnm (fun v8 hv9 => ?_)
                refine fs_liftL (fun _ _ _ _ => lv_iinc (k := 4) (v := v8) (lv' := [(3, .int v8), (2, .int v7), (4, .int v5), (0, .ref a0), (1, .int v1)]) hx hb d_Report_isBadTemplate_81 hl rfl (by rw [hv9]; rfl) (Nat.le_of_ble_eq_true rfl) rfl) (fun ls hl => ?_)
                refine fs_lift (fun _ _ _ _ => lv_goto hx hb d_Report_isBadTemplate_84 rfl) ?_
                exact hk35 v7 v8 ls (lv_sub hl [3, 4, 1, 0] rfl)
              · refine fs_lift (fun _ _ _ _ => lv_iconst (v := 1) hx hb d_Report_isBadTemplate_72 (by decide)) ?_
                exact fs_Jzret S hr hk rfl d_Report_isBadTemplate_73
            · refine fs_lift (fun _ _ _ _ => lv_iconst (v := 1) hx hb d_Report_isBadTemplate_72 (by decide)) ?_
              exact fs_Jzret S hr hk rfl d_Report_isBadTemplate_73
      · refine fs_lift (fun _ _ _ _ => lv_iconst (v := 1) hx hb d_Report_isBadTemplate_29 (by decide)) ?_
        exact fs_Jzret S hr hk rfl d_Report_isBadTemplate_30

theorem d_Report_records_0 : decode prog_8_method_11_code 0 = .ok (.aload_n 0, 1) := by decide +kernel
theorem d_Report_records_1 : decode prog_8_method_11_code 1 = .ok (.getfield 9, 3) := by decide +kernel
theorem d_Report_records_4 : decode prog_8_method_11_code 4 = .ok (.iconst 5, 1) := by decide +kernel
theorem d_Report_records_5 : decode prog_8_method_11_code 5 = .ok (.iaload, 1) := by decide +kernel
theorem d_Report_records_6 : decode prog_8_method_11_code 6 = .ok (.ireturn, 1) := by decide +kernel
theorem q_Report_records : (⟨"FlowShelf$Report", "records", "()I"⟩ : MethodName).cls ≠ "java/lang/invoke/MethodHandle" ∧ (⟨"FlowShelf$Report", "records", "()I"⟩ : MethodName).cls ≠ "java/lang/invoke/VarHandle" ∧ (parseMethodDescriptor (⟨"FlowShelf$Report", "records", "()I"⟩ : MethodName).desc).map (fun d => d.parameters.length) = some 0 := by decide +kernel
set_option maxHeartbeats 4000000 in
set_option maxRecDepth 100000 in
theorem m_Report_records (X : fs_X) (l : Launch) (a0 : Nat) {r : Int32} {σ σF : fs_S} (h : (f_Report_records a0).1 σ = some (r, σF)) : fs_Met X l ⟨"FlowShelf$Report", "records", "()I"⟩ (Cond.code ⟨"FlowShelf$Report", "records", "()I"⟩ prog_8_method_11_code 1 (some FieldType.int)) 0 0 [.ref a0] σ (fs_eI r) σF := by
  refine fs_ofW (by decide) ?_
  intro p e s m args below meth c s₁ B hml hT hv
  obtain ⟨rfl, hw0, hG⟩ := hv
  have hx := B.exec
  have hb := B.bytes
  have hr := B.returns
  have hk := B.notSynchronized
  have S : CallFix p m c prog_8_method_11_code 1 s _ fs_ws "FlowShelf$Report" := ⟨B.exec, B.bytes, hml, findClass_of_methodNamed B.named, fun w hw => atoms_spec (ws := _ :: fs_ws) B.pre w (List.mem_cons_of_mem _ hw)⟩
  have hR := fs_hR (fr := 0) (lo := 0) ((f_Report_records a0).2 _ _ _ h)
  have hl := lv_entry ([.ref a0]) (n := 1) (Nat.le_of_ble_eq_true rfl)
  rw [lg_entry_eq]
  generalize (lg_sl ([.ref a0]) ++ List.replicate (1 - (lg_sl ([.ref a0])).length) Slot.unset).toArray = ls at hl ⊢
  have hl : lv_has ls 1 [(0, .ref a0)] := hl
  refine (?_ : fs_J X p l e (fs_rm 0 0 σ σF) s m _ below meth c (fs_Q X below _ s (fs_eI r) σ σF) r σ σF (f_Report_records a0) (F0 m 0 ls [])) σ s.heap [] 0 0 h hw0 va_S.rf rfl rfl
  clear h hw0
  unfold f_Report_records
  refine fs_lift (fun _ _ _ _ => lv_aload_n hx hb d_Report_records_0 rfl (lv_at hl 0 rfl)) ?_
  refine fs_Jgr S hG fs_in9 rfl 0 (Nat.le_of_ble_eq_true rfl) tw_3_225 (fun _ h9 => h9) d_Report_records_1 (fun r1 => ?_)
  refine fs_lift (fun _ _ _ _ => lv_iconst (v := 5) hx hb d_Report_records_4 (by decide)) ?_
  refine fs_Jai S hG d_Report_records_5 (fun v2 => ?_)
  exact fs_Jiret S hr hk rfl d_Report_records_6

theorem d_Report_firstPlace_0 : decode prog_8_method_12_code 0 = .ok (.aload_n 0, 1) := by decide +kernel
theorem d_Report_firstPlace_1 : decode prog_8_method_12_code 1 = .ok (.getfield 9, 3) := by decide +kernel
theorem d_Report_firstPlace_4 : decode prog_8_method_12_code 4 = .ok (.bipush 6, 2) := by decide +kernel
theorem d_Report_firstPlace_6 : decode prog_8_method_12_code 6 = .ok (.iaload, 1) := by decide +kernel
theorem d_Report_firstPlace_7 : decode prog_8_method_12_code 7 = .ok (.ireturn, 1) := by decide +kernel
theorem q_Report_firstPlace : (⟨"FlowShelf$Report", "firstPlace", "()I"⟩ : MethodName).cls ≠ "java/lang/invoke/MethodHandle" ∧ (⟨"FlowShelf$Report", "firstPlace", "()I"⟩ : MethodName).cls ≠ "java/lang/invoke/VarHandle" ∧ (parseMethodDescriptor (⟨"FlowShelf$Report", "firstPlace", "()I"⟩ : MethodName).desc).map (fun d => d.parameters.length) = some 0 := by decide +kernel
set_option maxHeartbeats 4000000 in
set_option maxRecDepth 100000 in
theorem m_Report_firstPlace (X : fs_X) (l : Launch) (a0 : Nat) {r : Int32} {σ σF : fs_S} (h : (f_Report_firstPlace a0).1 σ = some (r, σF)) : fs_Met X l ⟨"FlowShelf$Report", "firstPlace", "()I"⟩ (Cond.code ⟨"FlowShelf$Report", "firstPlace", "()I"⟩ prog_8_method_12_code 1 (some FieldType.int)) 0 0 [.ref a0] σ (fs_eI r) σF := by
  refine fs_ofW (by decide) ?_
  intro p e s m args below meth c s₁ B hml hT hv
  obtain ⟨rfl, hw0, hG⟩ := hv
  have hx := B.exec
  have hb := B.bytes
  have hr := B.returns
  have hk := B.notSynchronized
  have S : CallFix p m c prog_8_method_12_code 1 s _ fs_ws "FlowShelf$Report" := ⟨B.exec, B.bytes, hml, findClass_of_methodNamed B.named, fun w hw => atoms_spec (ws := _ :: fs_ws) B.pre w (List.mem_cons_of_mem _ hw)⟩
  have hR := fs_hR (fr := 0) (lo := 0) ((f_Report_firstPlace a0).2 _ _ _ h)
  have hl := lv_entry ([.ref a0]) (n := 1) (Nat.le_of_ble_eq_true rfl)
  rw [lg_entry_eq]
  generalize (lg_sl ([.ref a0]) ++ List.replicate (1 - (lg_sl ([.ref a0])).length) Slot.unset).toArray = ls at hl ⊢
  have hl : lv_has ls 1 [(0, .ref a0)] := hl
  refine (?_ : fs_J X p l e (fs_rm 0 0 σ σF) s m _ below meth c (fs_Q X below _ s (fs_eI r) σ σF) r σ σF (f_Report_firstPlace a0) (F0 m 0 ls [])) σ s.heap [] 0 0 h hw0 va_S.rf rfl rfl
  clear h hw0
  unfold f_Report_firstPlace
  refine fs_lift (fun _ _ _ _ => lv_aload_n hx hb d_Report_firstPlace_0 rfl (lv_at hl 0 rfl)) ?_
  refine fs_Jgr S hG fs_in9 rfl 0 (Nat.le_of_ble_eq_true rfl) tw_3_225 (fun _ h9 => h9) d_Report_firstPlace_1 (fun r1 => ?_)
  refine fs_lift (fun _ _ _ _ => lv_bipush (v := 6) hx hb d_Report_firstPlace_4 (by decide)) ?_
  refine fs_Jai S hG d_Report_firstPlace_6 (fun v2 => ?_)
  exact fs_Jiret S hr hk rfl d_Report_firstPlace_7

theorem d_Report_isBadRecords_0 : decode prog_8_method_19_code 0 = .ok (.aload_n 0, 1) := by decide +kernel
theorem d_Report_isBadRecords_1 : decode prog_8_method_19_code 1 = .ok (.getfield 15, 3) := by decide +kernel
theorem d_Report_isBadRecords_4 : decode prog_8_method_19_code 4 = .ok (.bipush 7, 2) := by decide +kernel
theorem d_Report_isBadRecords_6 : decode prog_8_method_19_code 6 = .ok (.if_icmp .lt 24, 3) := by decide +kernel
theorem d_Report_isBadRecords_9 : decode prog_8_method_19_code 9 = .ok (.aload_n 0, 1) := by decide +kernel
theorem d_Report_isBadRecords_10 : decode prog_8_method_19_code 10 = .ok (.invokevirtual 66, 3) := by decide +kernel
theorem d_Report_isBadRecords_13 : decode prog_8_method_19_code 13 = .ok (.ifCond .eq 17, 3) := by decide +kernel
theorem d_Report_isBadRecords_16 : decode prog_8_method_19_code 16 = .ok (.aload_n 0, 1) := by decide +kernel
theorem d_Report_isBadRecords_17 : decode prog_8_method_19_code 17 = .ok (.invokevirtual 69, 3) := by decide +kernel
theorem d_Report_isBadRecords_20 : decode prog_8_method_19_code 20 = .ok (.aload_n 0, 1) := by decide +kernel
theorem d_Report_isBadRecords_21 : decode prog_8_method_19_code 21 = .ok (.invokevirtual 66, 3) := by decide +kernel
theorem d_Report_isBadRecords_24 : decode prog_8_method_19_code 24 = .ok (.iadd, 1) := by decide +kernel
theorem d_Report_isBadRecords_25 : decode prog_8_method_19_code 25 = .ok (.bipush 100, 2) := by decide +kernel
theorem d_Report_isBadRecords_27 : decode prog_8_method_19_code 27 = .ok (.if_icmp .le 7, 3) := by decide +kernel
theorem d_Report_isBadRecords_30 : decode prog_8_method_19_code 30 = .ok (.iconst 1, 1) := by decide +kernel
theorem d_Report_isBadRecords_31 : decode prog_8_method_19_code 31 = .ok (.goto 4, 3) := by decide +kernel
theorem d_Report_isBadRecords_34 : decode prog_8_method_19_code 34 = .ok (.iconst 0, 1) := by decide +kernel
theorem d_Report_isBadRecords_35 : decode prog_8_method_19_code 35 = .ok (.ireturn, 1) := by decide +kernel
theorem q_Report_isBadRecords : (⟨"FlowShelf$Report", "isBadRecords", "()Z"⟩ : MethodName).cls ≠ "java/lang/invoke/MethodHandle" ∧ (⟨"FlowShelf$Report", "isBadRecords", "()Z"⟩ : MethodName).cls ≠ "java/lang/invoke/VarHandle" ∧ (parseMethodDescriptor (⟨"FlowShelf$Report", "isBadRecords", "()Z"⟩ : MethodName).desc).map (fun d => d.parameters.length) = some 0 := by decide +kernel
set_option maxHeartbeats 4000000 in
set_option maxRecDepth 100000 in
theorem m_Report_isBadRecords (X : fs_X) (l : Launch) (a0 : Nat) {r : Int32} {σ σF : fs_S} (h : (f_Report_isBadRecords a0).1 σ = some (r, σF)) : fs_Met X l ⟨"FlowShelf$Report", "isBadRecords", "()Z"⟩ (Cond.code ⟨"FlowShelf$Report", "isBadRecords", "()Z"⟩ prog_8_method_19_code 1 (some FieldType.boolean)) 1 20 [.ref a0] σ (fs_eI r) σF := by
  refine fs_ofW (by decide) ?_
  intro p e s m args below meth c s₁ B hml hT hv
  obtain ⟨rfl, hw0, hG⟩ := hv
  have hx := B.exec
  have hb := B.bytes
  have hr := B.returns
  have hk := B.notSynchronized
  have S : CallFix p m c prog_8_method_19_code 1 s _ fs_ws "FlowShelf$Report" := ⟨B.exec, B.bytes, hml, findClass_of_methodNamed B.named, fun w hw => atoms_spec (ws := _ :: fs_ws) B.pre w (List.mem_cons_of_mem _ hw)⟩
  have hR := fs_hR (fr := 1) (lo := 20) ((f_Report_isBadRecords a0).2 _ _ _ h)
  have hl := lv_entry ([.ref a0]) (n := 1) (Nat.le_of_ble_eq_true rfl)
  rw [lg_entry_eq]
  generalize (lg_sl ([.ref a0]) ++ List.replicate (1 - (lg_sl ([.ref a0])).length) Slot.unset).toArray = ls at hl ⊢
  have hl : lv_has ls 1 [(0, .ref a0)] := hl
  refine (?_ : fs_J X p l e (fs_rm 1 20 σ σF) s m _ below meth c (fs_Q X below _ s (fs_eI r) σ σF) r σ σF (f_Report_isBadRecords a0) (F0 m 0 ls [])) σ s.heap [] 0 0 h hw0 va_S.rf rfl rfl
  clear h hw0
  unfold f_Report_isBadRecords
  refine fs_lift (fun _ _ _ _ => lv_aload_n hx hb d_Report_isBadRecords_0 rfl (lv_at hl 0 rfl)) ?_
  refine fs_Jgi S hG fs_in9 rfl 1 (Nat.le_of_ble_eq_true rfl) tw_3_228 (fun _ h9 => h9) d_Report_isBadRecords_1 (fun v1 => ?_)
  refine fs_lift (fun _ _ _ _ => lv_bipush (v := 7) hx hb d_Report_isBadRecords_4 (by decide)) ?_
  refine fs_if (fun _ _ _ _ => lv_icmp_lt hx hb d_Report_isBadRecords_6 rfl) ?_ ?_
  · refine fs_lift (fun _ _ _ _ => lv_iconst (v := 1) hx hb d_Report_isBadRecords_30 (by decide)) ?_
    refine fs_lift (fun _ _ _ _ => lv_goto hx hb d_Report_isBadRecords_31 rfl) ?_
    exact fs_Jzret S hr hk rfl d_Report_isBadRecords_35
  · refine fs_lift (fun _ _ _ _ => lv_aload_n hx hb d_Report_isBadRecords_9 rfl (lv_at hl 0 rfl)) ?_
    refine fs_JV S hG hR rfl [] (enc := fun r => some (.int r)) (fun zr zs zt zh => m_Report_records X l a0 zh) tw_4_135 tw_4_136 tw_4_137 tw_4_138 tw_1_25 q_Report_records ⟨(Nat.le_of_ble_eq_true rfl), (Nat.le_of_ble_eq_true rfl)⟩ hl.1 rfl (Nat.le_of_ble_eq_true rfl) d_Report_isBadRecords_10 (fun v2 => ?_)
    refine fs_Jeq (g2 := F0 m 13 ls [.int v2]) rfl ?_
    refine fs_if (fun _ _ _ _ => lv_if_eq hx hb d_Report_isBadRecords_13 rfl) ?_ ?_
    · refine fs_lift (fun _ _ _ _ => lv_iconst (v := 1) hx hb d_Report_isBadRecords_30 (by decide)) ?_
      refine fs_lift (fun _ _ _ _ => lv_goto hx hb d_Report_isBadRecords_31 rfl) ?_
      exact fs_Jzret S hr hk rfl d_Report_isBadRecords_35
    · refine fs_lift (fun _ _ _ _ => lv_aload_n hx hb d_Report_isBadRecords_16 rfl (lv_at hl 0 rfl)) ?_
      refine fs_JV S hG hR rfl [] (enc := fun r => some (.int r)) (fun zr zs zt zh => m_Report_firstPlace X l a0 zh) tw_4_139 tw_4_140 tw_4_141 tw_4_142 tw_1_25 q_Report_firstPlace ⟨(Nat.le_of_ble_eq_true rfl), (Nat.le_of_ble_eq_true rfl)⟩ hl.1 rfl (Nat.le_of_ble_eq_true rfl) d_Report_isBadRecords_17 (fun v3 => ?_)
      refine fs_Jeq (g2 := F0 m 20 ls [.int v3]) rfl ?_
      refine fs_lift (fun _ _ _ _ => lv_aload_n hx hb d_Report_isBadRecords_20 rfl (lv_at hl 0 rfl)) ?_
      refine fs_JV S hG hR rfl [] (enc := fun r => some (.int r)) (fun zr zs zt zh => m_Report_records X l a0 zh) tw_4_135 tw_4_136 tw_4_137 tw_4_138 tw_1_25 q_Report_records ⟨(Nat.le_of_ble_eq_true rfl), (Nat.le_of_ble_eq_true rfl)⟩ hl.1 rfl (Nat.le_of_ble_eq_true rfl) d_Report_isBadRecords_21 (fun v4 => ?_)
      refine fs_Jeq (g2 := F0 m 24 ls [.int v4, .int v3]) rfl ?_
      refine fs_lift (fun _ _ _ _ => lv_iadd hx hb d_Report_isBadRecords_24) ?_
      refine fs_lift (fun _ _ _ _ => lv_bipush (v := 100) hx hb d_Report_isBadRecords_25 (by decide)) ?_
      refine fs_if (fun _ _ _ _ => lv_icmp_le hx hb d_Report_isBadRecords_27 rfl) ?_ ?_
      · refine fs_lift (fun _ _ _ _ => lv_iconst (v := 0) hx hb d_Report_isBadRecords_34 (by decide)) ?_
        exact fs_Jzret S hr hk rfl d_Report_isBadRecords_35
      · refine fs_lift (fun _ _ _ _ => lv_iconst (v := 1) hx hb d_Report_isBadRecords_30 (by decide)) ?_
        refine fs_lift (fun _ _ _ _ => lv_goto hx hb d_Report_isBadRecords_31 rfl) ?_
        exact fs_Jzret S hr hk rfl d_Report_isBadRecords_35

theorem d_Report_samplerN_0 : decode prog_8_method_14_code 0 = .ok (.aload_n 0, 1) := by decide +kernel
theorem d_Report_samplerN_1 : decode prog_8_method_14_code 1 = .ok (.getfield 9, 3) := by decide +kernel
theorem d_Report_samplerN_4 : decode prog_8_method_14_code 4 = .ok (.iconst 4, 1) := by decide +kernel
theorem d_Report_samplerN_5 : decode prog_8_method_14_code 5 = .ok (.iaload, 1) := by decide +kernel
theorem d_Report_samplerN_6 : decode prog_8_method_14_code 6 = .ok (.ireturn, 1) := by decide +kernel
theorem q_Report_samplerN : (⟨"FlowShelf$Report", "samplerN", "()I"⟩ : MethodName).cls ≠ "java/lang/invoke/MethodHandle" ∧ (⟨"FlowShelf$Report", "samplerN", "()I"⟩ : MethodName).cls ≠ "java/lang/invoke/VarHandle" ∧ (parseMethodDescriptor (⟨"FlowShelf$Report", "samplerN", "()I"⟩ : MethodName).desc).map (fun d => d.parameters.length) = some 0 := by decide +kernel
set_option maxHeartbeats 4000000 in
set_option maxRecDepth 100000 in
theorem m_Report_samplerN (X : fs_X) (l : Launch) (a0 : Nat) {r : Int32} {σ σF : fs_S} (h : (f_Report_samplerN a0).1 σ = some (r, σF)) : fs_Met X l ⟨"FlowShelf$Report", "samplerN", "()I"⟩ (Cond.code ⟨"FlowShelf$Report", "samplerN", "()I"⟩ prog_8_method_14_code 1 (some FieldType.int)) 0 0 [.ref a0] σ (fs_eI r) σF := by
  refine fs_ofW (by decide) ?_
  intro p e s m args below meth c s₁ B hml hT hv
  obtain ⟨rfl, hw0, hG⟩ := hv
  have hx := B.exec
  have hb := B.bytes
  have hr := B.returns
  have hk := B.notSynchronized
  have S : CallFix p m c prog_8_method_14_code 1 s _ fs_ws "FlowShelf$Report" := ⟨B.exec, B.bytes, hml, findClass_of_methodNamed B.named, fun w hw => atoms_spec (ws := _ :: fs_ws) B.pre w (List.mem_cons_of_mem _ hw)⟩
  have hR := fs_hR (fr := 0) (lo := 0) ((f_Report_samplerN a0).2 _ _ _ h)
  have hl := lv_entry ([.ref a0]) (n := 1) (Nat.le_of_ble_eq_true rfl)
  rw [lg_entry_eq]
  generalize (lg_sl ([.ref a0]) ++ List.replicate (1 - (lg_sl ([.ref a0])).length) Slot.unset).toArray = ls at hl ⊢
  have hl : lv_has ls 1 [(0, .ref a0)] := hl
  refine (?_ : fs_J X p l e (fs_rm 0 0 σ σF) s m _ below meth c (fs_Q X below _ s (fs_eI r) σ σF) r σ σF (f_Report_samplerN a0) (F0 m 0 ls [])) σ s.heap [] 0 0 h hw0 va_S.rf rfl rfl
  clear h hw0
  unfold f_Report_samplerN
  refine fs_lift (fun _ _ _ _ => lv_aload_n hx hb d_Report_samplerN_0 rfl (lv_at hl 0 rfl)) ?_
  refine fs_Jgr S hG fs_in9 rfl 0 (Nat.le_of_ble_eq_true rfl) tw_3_225 (fun _ h9 => h9) d_Report_samplerN_1 (fun r1 => ?_)
  refine fs_lift (fun _ _ _ _ => lv_iconst (v := 4) hx hb d_Report_samplerN_4 (by decide)) ?_
  refine fs_Jai S hG d_Report_samplerN_5 (fun v2 => ?_)
  exact fs_Jiret S hr hk rfl d_Report_samplerN_6

theorem d_Report_isBad_0 : decode prog_8_method_16_code 0 = .ok (.aload_n 0, 1) := by decide +kernel
theorem d_Report_isBad_1 : decode prog_8_method_16_code 1 = .ok (.invokevirtual 29, 3) := by decide +kernel
theorem d_Report_isBad_4 : decode prog_8_method_16_code 4 = .ok (.invokestatic 33, 3) := by decide +kernel
theorem d_Report_isBad_7 : decode prog_8_method_16_code 7 = .ok (.ifCond .eq 11, 3) := by decide +kernel
theorem d_Report_isBad_10 : decode prog_8_method_16_code 10 = .ok (.aload_n 0, 1) := by decide +kernel
theorem d_Report_isBad_11 : decode prog_8_method_16_code 11 = .ok (.invokevirtual 37, 3) := by decide +kernel
theorem d_Report_isBad_14 : decode prog_8_method_16_code 14 = .ok (.iconst 5, 1) := by decide +kernel
theorem d_Report_isBad_15 : decode prog_8_method_16_code 15 = .ok (.if_icmp .le 5, 3) := by decide +kernel
theorem d_Report_isBad_18 : decode prog_8_method_16_code 18 = .ok (.iconst 1, 1) := by decide +kernel
theorem d_Report_isBad_19 : decode prog_8_method_16_code 19 = .ok (.ireturn, 1) := by decide +kernel
theorem d_Report_isBad_20 : decode prog_8_method_16_code 20 = .ok (.aload_n 0, 1) := by decide +kernel
theorem d_Report_isBad_21 : decode prog_8_method_16_code 21 = .ok (.invokevirtual 40, 3) := by decide +kernel
theorem d_Report_isBad_24 : decode prog_8_method_16_code 24 = .ok (.tableswitch 99 0 2 #[28, 48, 68], 28) := by decide +kernel
theorem d_Report_isBad_52 : decode prog_8_method_16_code 52 = .ok (.aload_n 0, 1) := by decide +kernel
theorem d_Report_isBad_53 : decode prog_8_method_16_code 53 = .ok (.invokevirtual 43, 3) := by decide +kernel
theorem d_Report_isBad_56 : decode prog_8_method_16_code 56 = .ok (.ifCond .ne 10, 3) := by decide +kernel
theorem d_Report_isBad_59 : decode prog_8_method_16_code 59 = .ok (.aload_n 0, 1) := by decide +kernel
theorem d_Report_isBad_60 : decode prog_8_method_16_code 60 = .ok (.invokevirtual 47, 3) := by decide +kernel
theorem d_Report_isBad_63 : decode prog_8_method_16_code 63 = .ok (.ifCond .eq 7, 3) := by decide +kernel
theorem d_Report_isBad_66 : decode prog_8_method_16_code 66 = .ok (.iconst 1, 1) := by decide +kernel
theorem d_Report_isBad_67 : decode prog_8_method_16_code 67 = .ok (.goto 4, 3) := by decide +kernel
theorem d_Report_isBad_70 : decode prog_8_method_16_code 70 = .ok (.iconst 0, 1) := by decide +kernel
theorem d_Report_isBad_71 : decode prog_8_method_16_code 71 = .ok (.ireturn, 1) := by decide +kernel
theorem d_Report_isBad_72 : decode prog_8_method_16_code 72 = .ok (.aload_n 0, 1) := by decide +kernel
theorem d_Report_isBad_73 : decode prog_8_method_16_code 73 = .ok (.invokevirtual 43, 3) := by decide +kernel
theorem d_Report_isBad_76 : decode prog_8_method_16_code 76 = .ok (.ifCond .ne 10, 3) := by decide +kernel
theorem d_Report_isBad_79 : decode prog_8_method_16_code 79 = .ok (.aload_n 0, 1) := by decide +kernel
theorem d_Report_isBad_80 : decode prog_8_method_16_code 80 = .ok (.invokevirtual 50, 3) := by decide +kernel
theorem d_Report_isBad_83 : decode prog_8_method_16_code 83 = .ok (.ifCond .eq 7, 3) := by decide +kernel
theorem d_Report_isBad_86 : decode prog_8_method_16_code 86 = .ok (.iconst 1, 1) := by decide +kernel
theorem d_Report_isBad_87 : decode prog_8_method_16_code 87 = .ok (.goto 4, 3) := by decide +kernel
theorem d_Report_isBad_90 : decode prog_8_method_16_code 90 = .ok (.iconst 0, 1) := by decide +kernel
theorem d_Report_isBad_91 : decode prog_8_method_16_code 91 = .ok (.ireturn, 1) := by decide +kernel
theorem d_Report_isBad_92 : decode prog_8_method_16_code 92 = .ok (.aload_n 0, 1) := by decide +kernel
theorem d_Report_isBad_93 : decode prog_8_method_16_code 93 = .ok (.getfield 15, 3) := by decide +kernel
theorem d_Report_isBad_96 : decode prog_8_method_16_code 96 = .ok (.iconst 5, 1) := by decide +kernel
theorem d_Report_isBad_97 : decode prog_8_method_16_code 97 = .ok (.if_icmp .ne 20, 3) := by decide +kernel
theorem d_Report_isBad_100 : decode prog_8_method_16_code 100 = .ok (.aload_n 0, 1) := by decide +kernel
theorem d_Report_isBad_101 : decode prog_8_method_16_code 101 = .ok (.invokevirtual 53, 3) := by decide +kernel
theorem d_Report_isBad_104 : decode prog_8_method_16_code 104 = .ok (.iconst 1, 1) := by decide +kernel
theorem d_Report_isBad_105 : decode prog_8_method_16_code 105 = .ok (.if_icmp .lt 12, 3) := by decide +kernel
theorem d_Report_isBad_108 : decode prog_8_method_16_code 108 = .ok (.aload_n 0, 1) := by decide +kernel
theorem d_Report_isBad_109 : decode prog_8_method_16_code 109 = .ok (.invokevirtual 53, 3) := by decide +kernel
theorem d_Report_isBad_112 : decode prog_8_method_16_code 112 = .ok (.bipush 9, 2) := by decide +kernel
theorem d_Report_isBad_114 : decode prog_8_method_16_code 114 = .ok (.if_icmp .le 7, 3) := by decide +kernel
theorem d_Report_isBad_117 : decode prog_8_method_16_code 117 = .ok (.iconst 1, 1) := by decide +kernel
theorem d_Report_isBad_118 : decode prog_8_method_16_code 118 = .ok (.goto 4, 3) := by decide +kernel
theorem d_Report_isBad_121 : decode prog_8_method_16_code 121 = .ok (.iconst 0, 1) := by decide +kernel
theorem d_Report_isBad_122 : decode prog_8_method_16_code 122 = .ok (.ireturn, 1) := by decide +kernel
theorem d_Report_isBad_123 : decode prog_8_method_16_code 123 = .ok (.iconst 1, 1) := by decide +kernel
theorem d_Report_isBad_124 : decode prog_8_method_16_code 124 = .ok (.ireturn, 1) := by decide +kernel
theorem q_Report_isBad : (⟨"FlowShelf$Report", "isBad", "()Z"⟩ : MethodName).cls ≠ "java/lang/invoke/MethodHandle" ∧ (⟨"FlowShelf$Report", "isBad", "()Z"⟩ : MethodName).cls ≠ "java/lang/invoke/VarHandle" ∧ (parseMethodDescriptor (⟨"FlowShelf$Report", "isBad", "()Z"⟩ : MethodName).desc).map (fun d => d.parameters.length) = some 0 := by decide +kernel
set_option maxHeartbeats 4000000 in
set_option maxRecDepth 100000 in
theorem m_Report_isBad (X : fs_X) (l : Launch) (a0 : Nat) {r : Int32} {σ σF : fs_S} (h : (f_Report_isBad a0).1 σ = some (r, σF)) : fs_Met X l ⟨"FlowShelf$Report", "isBad", "()Z"⟩ (Cond.code ⟨"FlowShelf$Report", "isBad", "()Z"⟩ prog_8_method_16_code 1 (some FieldType.boolean)) 2 45 [.ref a0] σ (fs_eI r) σF := by
  refine fs_ofW (by decide) ?_
  intro p e s m args below meth c s₁ B hml hT hv
  obtain ⟨rfl, hw0, hG⟩ := hv
  have hx := B.exec
  have hb := B.bytes
  have hr := B.returns
  have hk := B.notSynchronized
  have S : CallFix p m c prog_8_method_16_code 1 s _ fs_ws "FlowShelf$Report" := ⟨B.exec, B.bytes, hml, findClass_of_methodNamed B.named, fun w hw => atoms_spec (ws := _ :: fs_ws) B.pre w (List.mem_cons_of_mem _ hw)⟩
  have hR := fs_hR (fr := 2) (lo := 45) ((f_Report_isBad a0).2 _ _ _ h)
  have hl := lv_entry ([.ref a0]) (n := 1) (Nat.le_of_ble_eq_true rfl)
  rw [lg_entry_eq]
  generalize (lg_sl ([.ref a0]) ++ List.replicate (1 - (lg_sl ([.ref a0])).length) Slot.unset).toArray = ls at hl ⊢
  have hl : lv_has ls 1 [(0, .ref a0)] := hl
  refine (?_ : fs_J X p l e (fs_rm 2 45 σ σF) s m _ below meth c (fs_Q X below _ s (fs_eI r) σ σF) r σ σF (f_Report_isBad a0) (F0 m 0 ls [])) σ s.heap [] 0 0 h hw0 va_S.rf rfl rfl
  clear h hw0
  unfold f_Report_isBad
  refine fs_lift (fun _ _ _ _ => lv_aload_n hx hb d_Report_isBad_0 rfl (lv_at hl 0 rfl)) ?_
  refine fs_JV S hG hR rfl [] (enc := fun r => some (.int r)) (fun zr zs zt zh => m_Report_exporter X l a0 zh) tw_4_98 tw_4_99 tw_4_100 tw_4_101 tw_1_25 q_Report_exporter ⟨(Nat.le_of_ble_eq_true rfl), (Nat.le_of_ble_eq_true rfl)⟩ hl.1 rfl (Nat.le_of_ble_eq_true rfl) d_Report_isBad_1 (fun v1 => ?_)
  refine fs_Jeq (g2 := F0 m 4 ls [.int v1]) rfl ?_
  refine fs_JSN S hG hR [.int v1] (enc := fun r => some (.int r)) (fun zr zs zt zh => m_Fs_isExporter X l v1 zh) tb_4_102 tw_2_65 tw_2_66 tw_1_1 q_Fs_isExporter ⟨(Nat.le_of_ble_eq_true rfl), (Nat.le_of_ble_eq_true rfl)⟩ hl.1 rfl (Nat.le_of_ble_eq_true rfl) d_Report_isBad_4 (fun v2 => ?_)
  refine fs_Jeq (g2 := F0 m 7 ls [.int v2]) rfl ?_
  refine fs_if (fun _ _ _ _ => lv_if_eq hx hb d_Report_isBad_7 rfl) ?_ ?_
  · refine fs_lift (fun _ _ _ _ => lv_iconst (v := 1) hx hb d_Report_isBad_18 (by decide)) ?_
    exact fs_Jzret S hr hk rfl d_Report_isBad_19
  · refine fs_lift (fun _ _ _ _ => lv_aload_n hx hb d_Report_isBad_10 rfl (lv_at hl 0 rfl)) ?_
    refine fs_JV S hG hR rfl [] (enc := fun r => some (.int r)) (fun zr zs zt zh => m_Report_epoch X l a0 zh) tw_4_103 tw_4_104 tw_4_105 tw_4_106 tw_1_25 q_Report_epoch ⟨(Nat.le_of_ble_eq_true rfl), (Nat.le_of_ble_eq_true rfl)⟩ hl.1 rfl (Nat.le_of_ble_eq_true rfl) d_Report_isBad_11 (fun v3 => ?_)
    refine fs_Jeq (g2 := F0 m 14 ls [.int v3]) rfl ?_
    refine fs_lift (fun _ _ _ _ => lv_iconst (v := 5) hx hb d_Report_isBad_14 (by decide)) ?_
    refine fs_if (fun _ _ _ _ => lv_icmp_le hx hb d_Report_isBad_15 rfl) ?_ ?_
    · refine fs_lift (fun _ _ _ _ => lv_aload_n hx hb d_Report_isBad_20 rfl (lv_at hl 0 rfl)) ?_
      refine fs_JV S hG hR rfl [] (enc := fun r => some (.int r)) (fun zr zs zt zh => m_Report_kind X l a0 zh) tw_4_107 tw_4_108 tw_4_109 tw_4_110 tw_1_25 q_Report_kind ⟨(Nat.le_of_ble_eq_true rfl), (Nat.le_of_ble_eq_true rfl)⟩ hl.1 rfl (Nat.le_of_ble_eq_true rfl) d_Report_isBad_21 (fun v4 => ?_)
      refine fs_Jeq (g2 := F0 m 24 ls [.int v4]) rfl ?_
      refine fs_sw (fun q9 => ?_) (fun q100 => ?_)
      · refine fs_lift (fun _ _ _ _ => lv_tableIn (off := 28) (tgt := 52) hx hb d_Report_isBad_24 (by rw [q9]; decide) (by rw [q9]; decide) (by rw [q9]; rfl) rfl) ?_
        refine fs_lift (fun _ _ _ _ => lv_aload_n hx hb d_Report_isBad_52 rfl (lv_at hl 0 rfl)) ?_
        refine fs_JV S hG hR rfl [] (enc := fun r => some (.int r)) (fun zr zs zt zh => m_Report_namesNoTemplate X l a0 zh) tw_4_111 tw_4_112 tw_4_113 tw_4_114 tw_1_25 q_Report_namesNoTemplate ⟨(Nat.le_of_ble_eq_true rfl), (Nat.le_of_ble_eq_true rfl)⟩ hl.1 rfl (Nat.le_of_ble_eq_true rfl) d_Report_isBad_53 (fun v5 => ?_)
        refine fs_Jeq (g2 := F0 m 56 ls [.int v5]) rfl ?_
        refine fs_ifn (fun _ _ _ _ => lv_if_ne hx hb d_Report_isBad_56 rfl) ?_ ?_
        · refine fs_lift (fun _ _ _ _ => lv_aload_n hx hb d_Report_isBad_59 rfl (lv_at hl 0 rfl)) ?_
          refine fs_JV S hG hR rfl [] (enc := fun r => some (.int r)) (fun zr zs zt zh => m_Report_isBadTemplate X l a0 zh) tw_4_115 tw_4_116 tw_4_117 tw_4_118 tw_1_25 q_Report_isBadTemplate ⟨(Nat.le_of_ble_eq_true rfl), (Nat.le_of_ble_eq_true rfl)⟩ hl.1 rfl (Nat.le_of_ble_eq_true rfl) d_Report_isBad_60 (fun v6 => ?_)
          refine fs_Jeq (g2 := F0 m 63 ls [.int v6]) rfl ?_
          refine fs_if (fun _ _ _ _ => lv_if_eq hx hb d_Report_isBad_63 rfl) ?_ ?_
          · refine fs_lift (fun _ _ _ _ => lv_iconst (v := 0) hx hb d_Report_isBad_70 (by decide)) ?_
            exact fs_Jzret S hr hk rfl d_Report_isBad_71
          · refine fs_lift (fun _ _ _ _ => lv_iconst (v := 1) hx hb d_Report_isBad_66 (by decide)) ?_
            refine fs_lift (fun _ _ _ _ => lv_goto hx hb d_Report_isBad_67 rfl) ?_
            exact fs_Jzret S hr hk rfl d_Report_isBad_71
        · refine fs_lift (fun _ _ _ _ => lv_iconst (v := 1) hx hb d_Report_isBad_66 (by decide)) ?_
          refine fs_lift (fun _ _ _ _ => lv_goto hx hb d_Report_isBad_67 rfl) ?_
          exact fs_Jzret S hr hk rfl d_Report_isBad_71
      refine fs_sw (fun q9 => ?_) (fun q101 => ?_)
      · refine fs_lift (fun _ _ _ _ => lv_tableIn (off := 48) (tgt := 72) hx hb d_Report_isBad_24 (by rw [q9]; decide) (by rw [q9]; decide) (by rw [q9]; rfl) rfl) ?_
        refine fs_lift (fun _ _ _ _ => lv_aload_n hx hb d_Report_isBad_72 rfl (lv_at hl 0 rfl)) ?_
        refine fs_JV S hG hR rfl [] (enc := fun r => some (.int r)) (fun zr zs zt zh => m_Report_namesNoTemplate X l a0 zh) tw_4_111 tw_4_112 tw_4_113 tw_4_114 tw_1_25 q_Report_namesNoTemplate ⟨(Nat.le_of_ble_eq_true rfl), (Nat.le_of_ble_eq_true rfl)⟩ hl.1 rfl (Nat.le_of_ble_eq_true rfl) d_Report_isBad_73 (fun v7 => ?_)
        refine fs_Jeq (g2 := F0 m 76 ls [.int v7]) rfl ?_
        refine fs_ifn (fun _ _ _ _ => lv_if_ne hx hb d_Report_isBad_76 rfl) ?_ ?_
        · refine fs_lift (fun _ _ _ _ => lv_aload_n hx hb d_Report_isBad_79 rfl (lv_at hl 0 rfl)) ?_
          refine fs_JV S hG hR rfl [] (enc := fun r => some (.int r)) (fun zr zs zt zh => m_Report_isBadRecords X l a0 zh) tw_4_131 tw_4_132 tw_4_133 tw_4_134 tw_1_25 q_Report_isBadRecords ⟨(Nat.le_of_ble_eq_true rfl), (Nat.le_of_ble_eq_true rfl)⟩ hl.1 rfl (Nat.le_of_ble_eq_true rfl) d_Report_isBad_80 (fun v8 => ?_)
          refine fs_Jeq (g2 := F0 m 83 ls [.int v8]) rfl ?_
          refine fs_if (fun _ _ _ _ => lv_if_eq hx hb d_Report_isBad_83 rfl) ?_ ?_
          · refine fs_lift (fun _ _ _ _ => lv_iconst (v := 0) hx hb d_Report_isBad_90 (by decide)) ?_
            exact fs_Jzret S hr hk rfl d_Report_isBad_91
          · refine fs_lift (fun _ _ _ _ => lv_iconst (v := 1) hx hb d_Report_isBad_86 (by decide)) ?_
            refine fs_lift (fun _ _ _ _ => lv_goto hx hb d_Report_isBad_87 rfl) ?_
            exact fs_Jzret S hr hk rfl d_Report_isBad_91
        · refine fs_lift (fun _ _ _ _ => lv_iconst (v := 1) hx hb d_Report_isBad_86 (by decide)) ?_
          refine fs_lift (fun _ _ _ _ => lv_goto hx hb d_Report_isBad_87 rfl) ?_
          exact fs_Jzret S hr hk rfl d_Report_isBad_91
      refine fs_sw (fun q9 => ?_) (fun q102 => ?_)
      · refine fs_lift (fun _ _ _ _ => lv_tableIn (off := 68) (tgt := 92) hx hb d_Report_isBad_24 (by rw [q9]; decide) (by rw [q9]; decide) (by rw [q9]; rfl) rfl) ?_
        refine fs_lift (fun _ _ _ _ => lv_aload_n hx hb d_Report_isBad_92 rfl (lv_at hl 0 rfl)) ?_
        refine fs_Jgi S hG fs_in9 rfl 1 (Nat.le_of_ble_eq_true rfl) tw_3_228 (fun _ h9 => h9) d_Report_isBad_93 (fun v9 => ?_)
        refine fs_lift (fun _ _ _ _ => lv_iconst (v := 5) hx hb d_Report_isBad_96 (by decide)) ?_
        refine fs_ifn (fun _ _ _ _ => lv_icmp_ne hx hb d_Report_isBad_97 rfl) ?_ ?_
        · refine fs_lift (fun _ _ _ _ => lv_aload_n hx hb d_Report_isBad_100 rfl (lv_at hl 0 rfl)) ?_
          refine fs_JV S hG hR rfl [] (enc := fun r => some (.int r)) (fun zr zs zt zh => m_Report_samplerN X l a0 zh) tw_4_143 tw_4_144 tw_4_145 tw_4_146 tw_1_25 q_Report_samplerN ⟨(Nat.le_of_ble_eq_true rfl), (Nat.le_of_ble_eq_true rfl)⟩ hl.1 rfl (Nat.le_of_ble_eq_true rfl) d_Report_isBad_101 (fun v10 => ?_)
          refine fs_Jeq (g2 := F0 m 104 ls [.int v10]) rfl ?_
          refine fs_lift (fun _ _ _ _ => lv_iconst (v := 1) hx hb d_Report_isBad_104 (by decide)) ?_
          refine fs_if (fun _ _ _ _ => lv_icmp_lt hx hb d_Report_isBad_105 rfl) ?_ ?_
          · refine fs_lift (fun _ _ _ _ => lv_iconst (v := 1) hx hb d_Report_isBad_117 (by decide)) ?_
            refine fs_lift (fun _ _ _ _ => lv_goto hx hb d_Report_isBad_118 rfl) ?_
            exact fs_Jzret S hr hk rfl d_Report_isBad_122
          · refine fs_lift (fun _ _ _ _ => lv_aload_n hx hb d_Report_isBad_108 rfl (lv_at hl 0 rfl)) ?_
            refine fs_JV S hG hR rfl [] (enc := fun r => some (.int r)) (fun zr zs zt zh => m_Report_samplerN X l a0 zh) tw_4_143 tw_4_144 tw_4_145 tw_4_146 tw_1_25 q_Report_samplerN ⟨(Nat.le_of_ble_eq_true rfl), (Nat.le_of_ble_eq_true rfl)⟩ hl.1 rfl (Nat.le_of_ble_eq_true rfl) d_Report_isBad_109 (fun v11 => ?_)
            refine fs_Jeq (g2 := F0 m 112 ls [.int v11]) rfl ?_
            refine fs_lift (fun _ _ _ _ => lv_bipush (v := 9) hx hb d_Report_isBad_112 (by decide)) ?_
            refine fs_if (fun _ _ _ _ => lv_icmp_le hx hb d_Report_isBad_114 rfl) ?_ ?_
            · refine fs_lift (fun _ _ _ _ => lv_iconst (v := 0) hx hb d_Report_isBad_121 (by decide)) ?_
              exact fs_Jzret S hr hk rfl d_Report_isBad_122
            · refine fs_lift (fun _ _ _ _ => lv_iconst (v := 1) hx hb d_Report_isBad_117 (by decide)) ?_
              refine fs_lift (fun _ _ _ _ => lv_goto hx hb d_Report_isBad_118 rfl) ?_
              exact fs_Jzret S hr hk rfl d_Report_isBad_122
        · refine fs_lift (fun _ _ _ _ => lv_iconst (v := 1) hx hb d_Report_isBad_117 (by decide)) ?_
          refine fs_lift (fun _ _ _ _ => lv_goto hx hb d_Report_isBad_118 rfl) ?_
          exact fs_Jzret S hr hk rfl d_Report_isBad_122
      refine fs_lift (fun _ _ _ _ => lv_tableOut (tgt := 123) hx hb d_Report_isBad_24 (fs_tout 2 (fun k hk => match k, hk with | 0, _ => q100 | 1, _ => q101 | 2, _ => q102 | n + 3, h => absurd h (by omega)) (by decide)) rfl) ?_
      refine fs_lift (fun _ _ _ _ => lv_iconst (v := 1) hx hb d_Report_isBad_123 (by decide)) ?_
      exact fs_Jzret S hr hk rfl d_Report_isBad_124
    · refine fs_lift (fun _ _ _ _ => lv_iconst (v := 1) hx hb d_Report_isBad_18 (by decide)) ?_
      exact fs_Jzret S hr hk rfl d_Report_isBad_19

theorem d_Report_namesSameTemplate_0 : decode prog_8_method_15_code 0 = .ok (.aload_n 0, 1) := by decide +kernel
theorem d_Report_namesSameTemplate_1 : decode prog_8_method_15_code 1 = .ok (.getfield 9, 3) := by decide +kernel
theorem d_Report_namesSameTemplate_4 : decode prog_8_method_15_code 4 = .ok (.iconst 0, 1) := by decide +kernel
theorem d_Report_namesSameTemplate_5 : decode prog_8_method_15_code 5 = .ok (.iaload, 1) := by decide +kernel
theorem d_Report_namesSameTemplate_6 : decode prog_8_method_15_code 6 = .ok (.aload_n 1, 1) := by decide +kernel
theorem d_Report_namesSameTemplate_7 : decode prog_8_method_15_code 7 = .ok (.getfield 9, 3) := by decide +kernel
theorem d_Report_namesSameTemplate_10 : decode prog_8_method_15_code 10 = .ok (.iconst 0, 1) := by decide +kernel
theorem d_Report_namesSameTemplate_11 : decode prog_8_method_15_code 11 = .ok (.iaload, 1) := by decide +kernel
theorem d_Report_namesSameTemplate_12 : decode prog_8_method_15_code 12 = .ok (.if_icmp .ne 52, 3) := by decide +kernel
theorem d_Report_namesSameTemplate_15 : decode prog_8_method_15_code 15 = .ok (.aload_n 0, 1) := by decide +kernel
theorem d_Report_namesSameTemplate_16 : decode prog_8_method_15_code 16 = .ok (.getfield 9, 3) := by decide +kernel
theorem d_Report_namesSameTemplate_19 : decode prog_8_method_15_code 19 = .ok (.iconst 1, 1) := by decide +kernel
theorem d_Report_namesSameTemplate_20 : decode prog_8_method_15_code 20 = .ok (.iaload, 1) := by decide +kernel
theorem d_Report_namesSameTemplate_21 : decode prog_8_method_15_code 21 = .ok (.aload_n 1, 1) := by decide +kernel
theorem d_Report_namesSameTemplate_22 : decode prog_8_method_15_code 22 = .ok (.getfield 9, 3) := by decide +kernel
theorem d_Report_namesSameTemplate_25 : decode prog_8_method_15_code 25 = .ok (.iconst 1, 1) := by decide +kernel
theorem d_Report_namesSameTemplate_26 : decode prog_8_method_15_code 26 = .ok (.iaload, 1) := by decide +kernel
theorem d_Report_namesSameTemplate_27 : decode prog_8_method_15_code 27 = .ok (.if_icmp .ne 37, 3) := by decide +kernel
theorem d_Report_namesSameTemplate_30 : decode prog_8_method_15_code 30 = .ok (.aload_n 0, 1) := by decide +kernel
theorem d_Report_namesSameTemplate_31 : decode prog_8_method_15_code 31 = .ok (.getfield 9, 3) := by decide +kernel
theorem d_Report_namesSameTemplate_34 : decode prog_8_method_15_code 34 = .ok (.iconst 3, 1) := by decide +kernel
theorem d_Report_namesSameTemplate_35 : decode prog_8_method_15_code 35 = .ok (.iaload, 1) := by decide +kernel
theorem d_Report_namesSameTemplate_36 : decode prog_8_method_15_code 36 = .ok (.aload_n 1, 1) := by decide +kernel
theorem d_Report_namesSameTemplate_37 : decode prog_8_method_15_code 37 = .ok (.getfield 9, 3) := by decide +kernel
theorem d_Report_namesSameTemplate_40 : decode prog_8_method_15_code 40 = .ok (.iconst 3, 1) := by decide +kernel
theorem d_Report_namesSameTemplate_41 : decode prog_8_method_15_code 41 = .ok (.iaload, 1) := by decide +kernel
theorem d_Report_namesSameTemplate_42 : decode prog_8_method_15_code 42 = .ok (.if_icmp .ne 22, 3) := by decide +kernel
theorem d_Report_namesSameTemplate_45 : decode prog_8_method_15_code 45 = .ok (.aload_n 0, 1) := by decide +kernel
theorem d_Report_namesSameTemplate_46 : decode prog_8_method_15_code 46 = .ok (.getfield 9, 3) := by decide +kernel
theorem d_Report_namesSameTemplate_49 : decode prog_8_method_15_code 49 = .ok (.iconst 4, 1) := by decide +kernel
theorem d_Report_namesSameTemplate_50 : decode prog_8_method_15_code 50 = .ok (.iaload, 1) := by decide +kernel
theorem d_Report_namesSameTemplate_51 : decode prog_8_method_15_code 51 = .ok (.aload_n 1, 1) := by decide +kernel
theorem d_Report_namesSameTemplate_52 : decode prog_8_method_15_code 52 = .ok (.getfield 9, 3) := by decide +kernel
theorem d_Report_namesSameTemplate_55 : decode prog_8_method_15_code 55 = .ok (.iconst 4, 1) := by decide +kernel
theorem d_Report_namesSameTemplate_56 : decode prog_8_method_15_code 56 = .ok (.iaload, 1) := by decide +kernel
theorem d_Report_namesSameTemplate_57 : decode prog_8_method_15_code 57 = .ok (.if_icmp .ne 7, 3) := by decide +kernel
theorem d_Report_namesSameTemplate_60 : decode prog_8_method_15_code 60 = .ok (.iconst 1, 1) := by decide +kernel
theorem d_Report_namesSameTemplate_61 : decode prog_8_method_15_code 61 = .ok (.goto 4, 3) := by decide +kernel
theorem d_Report_namesSameTemplate_64 : decode prog_8_method_15_code 64 = .ok (.iconst 0, 1) := by decide +kernel
theorem d_Report_namesSameTemplate_65 : decode prog_8_method_15_code 65 = .ok (.ireturn, 1) := by decide +kernel
theorem q_Report_namesSameTemplate : (⟨"FlowShelf$Report", "namesSameTemplate", "(LFlowShelf$Report;)Z"⟩ : MethodName).cls ≠ "java/lang/invoke/MethodHandle" ∧ (⟨"FlowShelf$Report", "namesSameTemplate", "(LFlowShelf$Report;)Z"⟩ : MethodName).cls ≠ "java/lang/invoke/VarHandle" ∧ (parseMethodDescriptor (⟨"FlowShelf$Report", "namesSameTemplate", "(LFlowShelf$Report;)Z"⟩ : MethodName).desc).map (fun d => d.parameters.length) = some 1 := by decide +kernel
set_option maxHeartbeats 4000000 in
set_option maxRecDepth 100000 in
theorem m_Report_namesSameTemplate (X : fs_X) (l : Launch) (a0 : Nat) (a1 : Nat) {r : Int32} {σ σF : fs_S} (h : (f_Report_namesSameTemplate a0 a1).1 σ = some (r, σF)) : fs_Met X l ⟨"FlowShelf$Report", "namesSameTemplate", "(LFlowShelf$Report;)Z"⟩ (Cond.code ⟨"FlowShelf$Report", "namesSameTemplate", "(LFlowShelf$Report;)Z"⟩ prog_8_method_15_code 2 (some FieldType.boolean)) 0 0 [.ref a0, .ref a1] σ (fs_eI r) σF := by
  refine fs_ofW (by decide) ?_
  intro p e s m args below meth c s₁ B hml hT hv
  obtain ⟨rfl, hw0, hG⟩ := hv
  have hx := B.exec
  have hb := B.bytes
  have hr := B.returns
  have hk := B.notSynchronized
  have S : CallFix p m c prog_8_method_15_code 2 s _ fs_ws "FlowShelf$Report" := ⟨B.exec, B.bytes, hml, findClass_of_methodNamed B.named, fun w hw => atoms_spec (ws := _ :: fs_ws) B.pre w (List.mem_cons_of_mem _ hw)⟩
  have hR := fs_hR (fr := 0) (lo := 0) ((f_Report_namesSameTemplate a0 a1).2 _ _ _ h)
  have hl := lv_entry ([.ref a0, .ref a1]) (n := 2) (Nat.le_of_ble_eq_true rfl)
  rw [lg_entry_eq]
  generalize (lg_sl ([.ref a0, .ref a1]) ++ List.replicate (2 - (lg_sl ([.ref a0, .ref a1])).length) Slot.unset).toArray = ls at hl ⊢
  have hl : lv_has ls 2 [(0, .ref a0), (1, .ref a1)] := hl
  refine (?_ : fs_J X p l e (fs_rm 0 0 σ σF) s m _ below meth c (fs_Q X below _ s (fs_eI r) σ σF) r σ σF (f_Report_namesSameTemplate a0 a1) (F0 m 0 ls [])) σ s.heap [] 0 0 h hw0 va_S.rf rfl rfl
  clear h hw0
  unfold f_Report_namesSameTemplate
  refine fs_lift (fun _ _ _ _ => lv_aload_n hx hb d_Report_namesSameTemplate_0 rfl (lv_at hl 0 rfl)) ?_
  refine fs_Jgr S hG fs_in9 rfl 0 (Nat.le_of_ble_eq_true rfl) tw_3_225 (fun _ h9 => h9) d_Report_namesSameTemplate_1 (fun r1 => ?_)
  refine fs_lift (fun _ _ _ _ => lv_iconst (v := 0) hx hb d_Report_namesSameTemplate_4 (by decide)) ?_
  refine fs_Jai S hG d_Report_namesSameTemplate_5 (fun v2 => ?_)
  refine fs_lift (fun _ _ _ _ => lv_aload_n hx hb d_Report_namesSameTemplate_6 rfl (lv_at hl 1 rfl)) ?_
  refine fs_Jgr S hG fs_in9 rfl 0 (Nat.le_of_ble_eq_true rfl) tw_3_225 (fun _ h9 => h9) d_Report_namesSameTemplate_7 (fun r3 => ?_)
  refine fs_lift (fun _ _ _ _ => lv_iconst (v := 0) hx hb d_Report_namesSameTemplate_10 (by decide)) ?_
  refine fs_Jai S hG d_Report_namesSameTemplate_11 (fun v4 => ?_)
  refine fs_ifn (fun _ _ _ _ => lv_icmp_ne hx hb d_Report_namesSameTemplate_12 rfl) ?_ ?_
  · refine fs_lift (fun _ _ _ _ => lv_aload_n hx hb d_Report_namesSameTemplate_15 rfl (lv_at hl 0 rfl)) ?_
    refine fs_Jgr S hG fs_in9 rfl 0 (Nat.le_of_ble_eq_true rfl) tw_3_225 (fun _ h9 => h9) d_Report_namesSameTemplate_16 (fun r5 => ?_)
    refine fs_lift (fun _ _ _ _ => lv_iconst (v := 1) hx hb d_Report_namesSameTemplate_19 (by decide)) ?_
    refine fs_Jai S hG d_Report_namesSameTemplate_20 (fun v6 => ?_)
    refine fs_lift (fun _ _ _ _ => lv_aload_n hx hb d_Report_namesSameTemplate_21 rfl (lv_at hl 1 rfl)) ?_
    refine fs_Jgr S hG fs_in9 rfl 0 (Nat.le_of_ble_eq_true rfl) tw_3_225 (fun _ h9 => h9) d_Report_namesSameTemplate_22 (fun r7 => ?_)
    refine fs_lift (fun _ _ _ _ => lv_iconst (v := 1) hx hb d_Report_namesSameTemplate_25 (by decide)) ?_
    refine fs_Jai S hG d_Report_namesSameTemplate_26 (fun v8 => ?_)
    refine fs_ifn (fun _ _ _ _ => lv_icmp_ne hx hb d_Report_namesSameTemplate_27 rfl) ?_ ?_
    · refine fs_lift (fun _ _ _ _ => lv_aload_n hx hb d_Report_namesSameTemplate_30 rfl (lv_at hl 0 rfl)) ?_
      refine fs_Jgr S hG fs_in9 rfl 0 (Nat.le_of_ble_eq_true rfl) tw_3_225 (fun _ h9 => h9) d_Report_namesSameTemplate_31 (fun r9 => ?_)
      refine fs_lift (fun _ _ _ _ => lv_iconst (v := 3) hx hb d_Report_namesSameTemplate_34 (by decide)) ?_
      refine fs_Jai S hG d_Report_namesSameTemplate_35 (fun v10 => ?_)
      refine fs_lift (fun _ _ _ _ => lv_aload_n hx hb d_Report_namesSameTemplate_36 rfl (lv_at hl 1 rfl)) ?_
      refine fs_Jgr S hG fs_in9 rfl 0 (Nat.le_of_ble_eq_true rfl) tw_3_225 (fun _ h9 => h9) d_Report_namesSameTemplate_37 (fun r11 => ?_)
      refine fs_lift (fun _ _ _ _ => lv_iconst (v := 3) hx hb d_Report_namesSameTemplate_40 (by decide)) ?_
      refine fs_Jai S hG d_Report_namesSameTemplate_41 (fun v12 => ?_)
      refine fs_ifn (fun _ _ _ _ => lv_icmp_ne hx hb d_Report_namesSameTemplate_42 rfl) ?_ ?_
      · refine fs_lift (fun _ _ _ _ => lv_aload_n hx hb d_Report_namesSameTemplate_45 rfl (lv_at hl 0 rfl)) ?_
        refine fs_Jgr S hG fs_in9 rfl 0 (Nat.le_of_ble_eq_true rfl) tw_3_225 (fun _ h9 => h9) d_Report_namesSameTemplate_46 (fun r13 => ?_)
        refine fs_lift (fun _ _ _ _ => lv_iconst (v := 4) hx hb d_Report_namesSameTemplate_49 (by decide)) ?_
        refine fs_Jai S hG d_Report_namesSameTemplate_50 (fun v14 => ?_)
        refine fs_lift (fun _ _ _ _ => lv_aload_n hx hb d_Report_namesSameTemplate_51 rfl (lv_at hl 1 rfl)) ?_
        refine fs_Jgr S hG fs_in9 rfl 0 (Nat.le_of_ble_eq_true rfl) tw_3_225 (fun _ h9 => h9) d_Report_namesSameTemplate_52 (fun r15 => ?_)
        refine fs_lift (fun _ _ _ _ => lv_iconst (v := 4) hx hb d_Report_namesSameTemplate_55 (by decide)) ?_
        refine fs_Jai S hG d_Report_namesSameTemplate_56 (fun v16 => ?_)
        refine fs_ifn (fun _ _ _ _ => lv_icmp_ne hx hb d_Report_namesSameTemplate_57 rfl) ?_ ?_
        · refine fs_lift (fun _ _ _ _ => lv_iconst (v := 1) hx hb d_Report_namesSameTemplate_60 (by decide)) ?_
          refine fs_lift (fun _ _ _ _ => lv_goto hx hb d_Report_namesSameTemplate_61 rfl) ?_
          exact fs_Jzret S hr hk rfl d_Report_namesSameTemplate_65
        · refine fs_lift (fun _ _ _ _ => lv_iconst (v := 0) hx hb d_Report_namesSameTemplate_64 (by decide)) ?_
          exact fs_Jzret S hr hk rfl d_Report_namesSameTemplate_65
      · refine fs_lift (fun _ _ _ _ => lv_iconst (v := 0) hx hb d_Report_namesSameTemplate_64 (by decide)) ?_
        exact fs_Jzret S hr hk rfl d_Report_namesSameTemplate_65
    · refine fs_lift (fun _ _ _ _ => lv_iconst (v := 0) hx hb d_Report_namesSameTemplate_64 (by decide)) ?_
      exact fs_Jzret S hr hk rfl d_Report_namesSameTemplate_65
  · refine fs_lift (fun _ _ _ _ => lv_iconst (v := 0) hx hb d_Report_namesSameTemplate_64 (by decide)) ?_
    exact fs_Jzret S hr hk rfl d_Report_namesSameTemplate_65

