/-! contracts of methods, walked by program -/
theorem d_Ledger_heardOneOf_0 : decode prog_7_method_2_code 0 = .ok (.aload_n 1, 1) := by decide +kernel
theorem d_Ledger_heardOneOf_1 : decode prog_7_method_2_code 1 = .ok (.invokevirtual 15, 3) := by decide +kernel
theorem d_Ledger_heardOneOf_4 : decode prog_7_method_2_code 4 = .ok (.bipush 100, 2) := by decide +kernel
theorem d_Ledger_heardOneOf_6 : decode prog_7_method_2_code 6 = .ok (.imul, 1) := by decide +kernel
theorem d_Ledger_heardOneOf_7 : decode prog_7_method_2_code 7 = .ok (.aload_n 1, 1) := by decide +kernel
theorem d_Ledger_heardOneOf_8 : decode prog_7_method_2_code 8 = .ok (.invokevirtual 21, 3) := by decide +kernel
theorem d_Ledger_heardOneOf_11 : decode prog_7_method_2_code 11 = .ok (.iadd, 1) := by decide +kernel
theorem d_Ledger_heardOneOf_12 : decode prog_7_method_2_code 12 = .ok (.istore_n 2, 1) := by decide +kernel
theorem d_Ledger_heardOneOf_13 : decode prog_7_method_2_code 13 = .ok (.iconst 0, 1) := by decide +kernel
theorem d_Ledger_heardOneOf_14 : decode prog_7_method_2_code 14 = .ok (.istore_n 3, 1) := by decide +kernel
theorem d_Ledger_heardOneOf_15 : decode prog_7_method_2_code 15 = .ok (.iload_n 3, 1) := by decide +kernel
theorem d_Ledger_heardOneOf_16 : decode prog_7_method_2_code 16 = .ok (.aload_n 1, 1) := by decide +kernel
theorem d_Ledger_heardOneOf_17 : decode prog_7_method_2_code 17 = .ok (.invokevirtual 24, 3) := by decide +kernel
theorem d_Ledger_heardOneOf_20 : decode prog_7_method_2_code 20 = .ok (.if_icmp .ge 22, 3) := by decide +kernel
theorem d_Ledger_heardOneOf_23 : decode prog_7_method_2_code 23 = .ok (.aload_n 0, 1) := by decide +kernel
theorem d_Ledger_heardOneOf_24 : decode prog_7_method_2_code 24 = .ok (.getfield 9, 3) := by decide +kernel
theorem d_Ledger_heardOneOf_27 : decode prog_7_method_2_code 27 = .ok (.iload_n 2, 1) := by decide +kernel
theorem d_Ledger_heardOneOf_28 : decode prog_7_method_2_code 28 = .ok (.iload_n 3, 1) := by decide +kernel
theorem d_Ledger_heardOneOf_29 : decode prog_7_method_2_code 29 = .ok (.iadd, 1) := by decide +kernel
theorem d_Ledger_heardOneOf_30 : decode prog_7_method_2_code 30 = .ok (.baload, 1) := by decide +kernel
theorem d_Ledger_heardOneOf_31 : decode prog_7_method_2_code 31 = .ok (.ifCond .eq 5, 3) := by decide +kernel
theorem d_Ledger_heardOneOf_34 : decode prog_7_method_2_code 34 = .ok (.iconst 1, 1) := by decide +kernel
theorem d_Ledger_heardOneOf_35 : decode prog_7_method_2_code 35 = .ok (.ireturn, 1) := by decide +kernel
theorem d_Ledger_heardOneOf_36 : decode prog_7_method_2_code 36 = .ok (.iinc 3 1, 3) := by decide +kernel
theorem d_Ledger_heardOneOf_39 : decode prog_7_method_2_code 39 = .ok (.goto (-24), 3) := by decide +kernel
theorem d_Ledger_heardOneOf_42 : decode prog_7_method_2_code 42 = .ok (.iconst 0, 1) := by decide +kernel
theorem d_Ledger_heardOneOf_43 : decode prog_7_method_2_code 43 = .ok (.ireturn, 1) := by decide +kernel
theorem q_Ledger_heardOneOf : (⟨"FlowShelf$Ledger", "heardOneOf", "(LFlowShelf$Report;)Z"⟩ : MethodName).cls ≠ "java/lang/invoke/MethodHandle" ∧ (⟨"FlowShelf$Ledger", "heardOneOf", "(LFlowShelf$Report;)Z"⟩ : MethodName).cls ≠ "java/lang/invoke/VarHandle" ∧ (parseMethodDescriptor (⟨"FlowShelf$Ledger", "heardOneOf", "(LFlowShelf$Report;)Z"⟩ : MethodName).desc).map (fun d => d.parameters.length) = some 1 := by decide +kernel
set_option maxHeartbeats 4000000 in
set_option maxRecDepth 100000 in
theorem m_Ledger_heardOneOf (X : fs_X) (l : Launch) (a0 : Nat) (a1 : Nat) {r : Int32} {σ σF : fs_S} (h : (f_Ledger_heardOneOf a0 a1).1 σ = some (r, σF)) : fs_Met X l ⟨"FlowShelf$Ledger", "heardOneOf", "(LFlowShelf$Report;)Z"⟩ (Cond.code ⟨"FlowShelf$Ledger", "heardOneOf", "(LFlowShelf$Report;)Z"⟩ prog_7_method_2_code 4 (some FieldType.boolean)) 1 20 [.ref a0, .ref a1] σ (fs_eI r) σF := by
  refine fs_ofW (by decide) ?_
  intro p e s m args below meth c s₁ B hml hT hv
  obtain ⟨rfl, hw0, hG⟩ := hv
  have hx := B.exec
  have hb := B.bytes
  have hr := B.returns
  have hk := B.notSynchronized
  have S : CallFix p m c prog_7_method_2_code 4 s _ fs_ws "FlowShelf$Ledger" := ⟨B.exec, B.bytes, hml, findClass_of_methodNamed B.named, fun w hw => atoms_spec (ws := _ :: fs_ws) B.pre w (List.mem_cons_of_mem _ hw)⟩
  have hR := fs_hR (fr := 1) (lo := 20) ((f_Ledger_heardOneOf a0 a1).2 _ _ _ h)
  have hl := lv_entry ([.ref a0, .ref a1]) (n := 4) (Nat.le_of_ble_eq_true rfl)
  rw [lg_entry_eq]
  generalize (lg_sl ([.ref a0, .ref a1]) ++ List.replicate (4 - (lg_sl ([.ref a0, .ref a1])).length) Slot.unset).toArray = ls at hl ⊢
  have hl : lv_has ls 4 [(0, .ref a0), (1, .ref a1)] := hl
  refine (?_ : fs_J X p l e (fs_rm 1 20 σ σF) s m _ below meth c (fs_Q X below _ s (fs_eI r) σ σF) r σ σF (f_Ledger_heardOneOf a0 a1) (F0 m 0 ls [])) σ s.heap [] 0 0 h hw0 va_S.rf rfl rfl
  clear h hw0
  unfold f_Ledger_heardOneOf
  refine fs_lift (fun _ _ _ _ => lv_aload_n hx hb d_Ledger_heardOneOf_0 rfl (lv_at hl 1 rfl)) ?_
  refine fs_JV S hG hR rfl [] (enc := fun r => some (.int r)) (fun zr zs zt zh => m_Report_epoch X l a1 zh) tw_5_60 tw_4_104 tw_4_105 tw_4_106 tw_1_25 q_Report_epoch ⟨(Nat.le_of_ble_eq_true rfl), (Nat.le_of_ble_eq_true rfl)⟩ hl.1 rfl (Nat.le_of_ble_eq_true rfl) d_Ledger_heardOneOf_1 (fun v1 => ?_)
  refine fs_Jeq (g2 := F0 m 4 ls [.int v1]) rfl ?_
  refine fs_lift (fun _ _ _ _ => lv_bipush (v := 100) hx hb d_Ledger_heardOneOf_4 (by decide)) ?_
  refine fs_lift (fun _ _ _ _ => lv_imul hx hb d_Ledger_heardOneOf_6) ?_
  refine fs_lift (fun _ _ _ _ => lv_aload_n hx hb d_Ledger_heardOneOf_7 rfl (lv_at hl 1 rfl)) ?_
  refine fs_JV S hG hR rfl [] (enc := fun r => some (.int r)) (fun zr zs zt zh => m_Report_firstPlace X l a1 zh) tw_5_61 tw_4_140 tw_4_141 tw_4_142 tw_1_25 q_Report_firstPlace ⟨(Nat.le_of_ble_eq_true rfl), (Nat.le_of_ble_eq_true rfl)⟩ hl.1 rfl (Nat.le_of_ble_eq_true rfl) d_Ledger_heardOneOf_8 (fun v2 => ?_)
  refine fs_Jeq (g2 := F0 m 11 ls [.int v2, .int (v1 * 100)]) rfl ?_
  refine fs_lift (fun _ _ _ _ => lv_iadd hx hb d_Ledger_heardOneOf_11) ?_
  refine fs_Jni (fun v3 => ?_)
  refine fs_liftL (fun _ _ _ _ => lv_istore_n (lv' := [(2, .int v3), (0, .ref a0), (1, .ref a1)]) hx hb d_Ledger_heardOneOf_12 rfl hl (Nat.le_of_ble_eq_true rfl) rfl) (fun ls hl => ?_)
  refine fs_lift (fun _ _ _ _ => lv_iconst (v := 0) hx hb d_Ledger_heardOneOf_13 (by decide)) ?_
  refine fs_liftL (fun _ _ _ _ => lv_istore_n (lv' := [(3, .int 0), (2, .int v3), (0, .ref a0), (1, .ref a1)]) hx hb d_Ledger_heardOneOf_14 rfl hl (Nat.le_of_ble_eq_true rfl) rfl) (fun ls hl => ?_)
  refine fs_Jlp1 (nL := 4) (pc := 15) (rest := []) (I := fun (v4 : Int32) => [(0, .ref a0), (1, .ref a1), (2, .int v3), (3, .int v4)]) (fun k15 hk15 v4 ls hl => ?_) _ _ _ (lv_sub hl [2, 3, 1, 0] rfl)
  refine fs_lift (fun _ _ _ _ => lv_iload_n hx hb d_Ledger_heardOneOf_15 rfl (lv_at hl 3 rfl)) ?_
  refine fs_lift (fun _ _ _ _ => lv_aload_n hx hb d_Ledger_heardOneOf_16 rfl (lv_at hl 1 rfl)) ?_
  refine fs_JV S hG hR rfl [] (enc := fun r => some (.int r)) (fun zr zs zt zh => m_Report_records X l a1 zh) tw_5_62 tw_4_136 tw_4_137 tw_4_138 tw_1_25 q_Report_records ⟨(Nat.le_of_ble_eq_true rfl), (Nat.le_of_ble_eq_true rfl)⟩ hl.1 rfl (Nat.le_of_ble_eq_true rfl) d_Ledger_heardOneOf_17 (fun v5 => ?_)
  refine fs_Jeq (g2 := F0 m 20 ls [.int v5, .int v4]) rfl ?_
  refine fs_if (fun _ _ _ _ => lv_icmp_ge hx hb d_Ledger_heardOneOf_20 rfl) ?_ ?_
  · refine fs_lift (fun _ _ _ _ => lv_iconst (v := 0) hx hb d_Ledger_heardOneOf_42 (by decide)) ?_
    exact fs_Jzret S hr hk rfl d_Ledger_heardOneOf_43
  · refine fs_lift (fun _ _ _ _ => lv_aload_n hx hb d_Ledger_heardOneOf_23 rfl (lv_at hl 0 rfl)) ?_
    refine fs_Jgr S hG fs_in7 rfl 0 (Nat.le_of_ble_eq_true rfl) tw_1_207 (fun _ h9 => h9) d_Ledger_heardOneOf_24 (fun r6 => ?_)
    refine fs_lift (fun _ _ _ _ => lv_iload_n hx hb d_Ledger_heardOneOf_27 rfl (lv_at hl 2 rfl)) ?_
    refine fs_lift (fun _ _ _ _ => lv_iload_n hx hb d_Ledger_heardOneOf_28 rfl (lv_at hl 3 rfl)) ?_
    refine fs_lift (fun _ _ _ _ => lv_iadd hx hb d_Ledger_heardOneOf_29) ?_
    refine fs_Jaz S hG d_Ledger_heardOneOf_30 (fun v7 => ?_)
    refine fs_if (fun _ _ _ _ => lv_if_eq hx hb d_Ledger_heardOneOf_31 rfl) ?_ ?_
    · refine fs_Jnm (fun v8 hv9 => ?_)
      refine fs_liftL (fun _ _ _ _ => lv_iinc (k := 3) (v := v8) (lv' := [(3, .int v8), (0, .ref a0), (1, .ref a1), (2, .int v3)]) hx hb d_Ledger_heardOneOf_36 hl rfl (by rw [hv9]; rfl) (Nat.le_of_ble_eq_true rfl) rfl) (fun ls hl => ?_)
      refine fs_lift (fun _ _ _ _ => lv_goto hx hb d_Ledger_heardOneOf_39 rfl) ?_
      exact hk15 v8 ls (lv_sub hl [1, 2, 3, 0] rfl)
    · refine fs_lift (fun _ _ _ _ => lv_iconst (v := 1) hx hb d_Ledger_heardOneOf_34 (by decide)) ?_
      exact fs_Jzret S hr hk rfl d_Ledger_heardOneOf_35

theorem d_Collector_putOnShelf_0 : decode prog_2_method_11_code 0 = .ok (.aload_n 0, 1) := by decide +kernel
theorem d_Collector_putOnShelf_1 : decode prog_2_method_11_code 1 = .ok (.getfield 18, 3) := by decide +kernel
theorem d_Collector_putOnShelf_4 : decode prog_2_method_11_code 4 = .ok (.invokevirtual 38, 3) := by decide +kernel
theorem d_Collector_putOnShelf_7 : decode prog_2_method_11_code 7 = .ok (.iconst 5, 1) := by decide +kernel
theorem d_Collector_putOnShelf_8 : decode prog_2_method_11_code 8 = .ok (.if_icmp .lt 30, 3) := by decide +kernel
theorem d_Collector_putOnShelf_11 : decode prog_2_method_11_code 11 = .ok (.aload_n 0, 1) := by decide +kernel
theorem d_Collector_putOnShelf_12 : decode prog_2_method_11_code 12 = .ok (.aload_n 0, 1) := by decide +kernel
theorem d_Collector_putOnShelf_13 : decode prog_2_method_11_code 13 = .ok (.getfield 18, 3) := by decide +kernel
theorem d_Collector_putOnShelf_16 : decode prog_2_method_11_code 16 = .ok (.iconst 0, 1) := by decide +kernel
theorem d_Collector_putOnShelf_17 : decode prog_2_method_11_code 17 = .ok (.invokevirtual 89, 3) := by decide +kernel
theorem d_Collector_putOnShelf_20 : decode prog_2_method_11_code 20 = .ok (.checkcast 46, 3) := by decide +kernel
theorem d_Collector_putOnShelf_23 : decode prog_2_method_11_code 23 = .ok (.invokevirtual 48, 3) := by decide +kernel
theorem d_Collector_putOnShelf_26 : decode prog_2_method_11_code 26 = .ok (.invokevirtual 103, 3) := by decide +kernel
theorem d_Collector_putOnShelf_29 : decode prog_2_method_11_code 29 = .ok (.dup, 1) := by decide +kernel
theorem d_Collector_putOnShelf_30 : decode prog_2_method_11_code 30 = .ok (.getfield 128, 3) := by decide +kernel
theorem d_Collector_putOnShelf_33 : decode prog_2_method_11_code 33 = .ok (.iconst 1, 1) := by decide +kernel
theorem d_Collector_putOnShelf_34 : decode prog_2_method_11_code 34 = .ok (.iadd, 1) := by decide +kernel
theorem d_Collector_putOnShelf_35 : decode prog_2_method_11_code 35 = .ok (.putfield 128, 3) := by decide +kernel
theorem d_Collector_putOnShelf_38 : decode prog_2_method_11_code 38 = .ok (.aload_n 0, 1) := by decide +kernel
theorem d_Collector_putOnShelf_39 : decode prog_2_method_11_code 39 = .ok (.getfield 18, 3) := by decide +kernel
theorem d_Collector_putOnShelf_42 : decode prog_2_method_11_code 42 = .ok (.new 46, 3) := by decide +kernel
theorem d_Collector_putOnShelf_45 : decode prog_2_method_11_code 45 = .ok (.dup, 1) := by decide +kernel
theorem d_Collector_putOnShelf_46 : decode prog_2_method_11_code 46 = .ok (.aload_n 1, 1) := by decide +kernel
theorem d_Collector_putOnShelf_47 : decode prog_2_method_11_code 47 = .ok (.invokespecial 73, 3) := by decide +kernel
theorem d_Collector_putOnShelf_50 : decode prog_2_method_11_code 50 = .ok (.invokevirtual 76, 3) := by decide +kernel
theorem d_Collector_putOnShelf_53 : decode prog_2_method_11_code 53 = .ok (.pop, 1) := by decide +kernel
theorem d_Collector_putOnShelf_54 : decode prog_2_method_11_code 54 = .ok (.return_, 1) := by decide +kernel
theorem q_Collector_putOnShelf : (⟨"FlowShelf$Collector", "putOnShelf", "(LFlowShelf$Report;)V"⟩ : MethodName).cls ≠ "java/lang/invoke/MethodHandle" ∧ (⟨"FlowShelf$Collector", "putOnShelf", "(LFlowShelf$Report;)V"⟩ : MethodName).cls ≠ "java/lang/invoke/VarHandle" ∧ (parseMethodDescriptor (⟨"FlowShelf$Collector", "putOnShelf", "(LFlowShelf$Report;)V"⟩ : MethodName).desc).map (fun d => d.parameters.length) = some 1 := by decide +kernel
set_option maxHeartbeats 4000000 in
set_option maxRecDepth 100000 in
theorem m_Collector_putOnShelf (X : fs_X) (l : Launch) (a0 : Nat) (a1 : Nat) {r : Unit} {σ σF : fs_S} (h : (f_Collector_putOnShelf a0 a1).1 σ = some (r, σF)) : fs_Met X l ⟨"FlowShelf$Collector", "putOnShelf", "(LFlowShelf$Report;)V"⟩ (Cond.code ⟨"FlowShelf$Collector", "putOnShelf", "(LFlowShelf$Report;)V"⟩ prog_2_method_11_code 2 none) 7 191 [.ref a0, .ref a1] σ (fs_eV r) σF := by
  refine fs_ofW (by decide) ?_
  intro p e s m args below meth c s₁ B hml hT hv
  obtain ⟨rfl, hw0, hG⟩ := hv
  have hx := B.exec
  have hb := B.bytes
  have hr := B.returns
  have hk := B.notSynchronized
  have S : CallFix p m c prog_2_method_11_code 2 s _ fs_ws "FlowShelf$Collector" := ⟨B.exec, B.bytes, hml, findClass_of_methodNamed B.named, fun w hw => atoms_spec (ws := _ :: fs_ws) B.pre w (List.mem_cons_of_mem _ hw)⟩
  have hR := fs_hR (fr := 7) (lo := 191) ((f_Collector_putOnShelf a0 a1).2 _ _ _ h)
  have hl := lv_entry ([.ref a0, .ref a1]) (n := 2) (Nat.le_of_ble_eq_true rfl)
  rw [lg_entry_eq]
  generalize (lg_sl ([.ref a0, .ref a1]) ++ List.replicate (2 - (lg_sl ([.ref a0, .ref a1])).length) Slot.unset).toArray = ls at hl ⊢
  have hl : lv_has ls 2 [(0, .ref a0), (1, .ref a1)] := hl
  refine (?_ : fs_J X p l e (fs_rm 7 191 σ σF) s m _ below meth c (fs_Q X below _ s (fs_eV r) σ σF) r σ σF (f_Collector_putOnShelf a0 a1) (F0 m 0 ls [])) σ s.heap [] 0 0 h hw0 va_S.rf rfl rfl
  clear h hw0
  unfold f_Collector_putOnShelf
  refine fs_lift (fun _ _ _ _ => lv_aload_n hx hb d_Collector_putOnShelf_0 rfl (lv_at hl 0 rfl)) ?_
  refine fs_Jgr S hG fs_in5 rfl 1 (Nat.le_of_ble_eq_true rfl) tw_1_231 (fun _ h9 => h9) d_Collector_putOnShelf_1 (fun r1 => ?_)
  refine fs_JV S hG hR rfl [] (enc := fun r => some (.int r)) (fun zr zs zt zh => m_ArrayList_size X l r1 zh) tw_4_157 tw_2_29 tw_2_30 tw_2_31 tw_1_5 q_ArrayList_size ⟨(Nat.le_of_ble_eq_true rfl), (Nat.le_of_ble_eq_true rfl)⟩ hl.1 rfl (Nat.le_of_ble_eq_true rfl) d_Collector_putOnShelf_4 (fun v2 => ?_)
  refine fs_Jeq (g2 := F0 m 7 ls [.int v2]) rfl ?_
  refine fs_lift (fun _ _ _ _ => lv_iconst (v := 5) hx hb d_Collector_putOnShelf_7 (by decide)) ?_
  refine fs_Jlet1 (nL := 2) (pj := 38) (I := fun (_ : Unit) => [(0, .ref a0), (1, .ref a1)]) (st := fun (_ : Unit) => []) (fun _ ls hl => ?_) (fun j38 hj38 => ?_)
  · refine fs_lift (fun _ _ _ _ => lv_aload_n hx hb d_Collector_putOnShelf_38 rfl (lv_at hl 0 rfl)) ?_
    refine fs_Jgr S hG fs_in5 rfl 1 (Nat.le_of_ble_eq_true rfl) tw_1_231 (fun _ h9 => h9) d_Collector_putOnShelf_39 (fun r8 => ?_)
    refine fs_Jnw S hG hR fs_in9 rfl fs_Y9 fs_ty9 fs_dv9 rfl tw_4_159 tw_3_220 tw_1_25 d_Collector_putOnShelf_42 (fun r9 => ?_)
    refine fs_lift (fun _ _ _ _ => lv_dup hx hb d_Collector_putOnShelf_45 rfl) ?_
    refine fs_lift (fun _ _ _ _ => lv_aload_n hx hb d_Collector_putOnShelf_46 rfl (lv_at hl 1 rfl)) ?_
    refine fs_JI S hG hR [.ref a1] (fun zr zs zt zh => m_Report_init_1 X l r9 a1 zh) tw_4_195 tw_4_196 tw_4_197 tw_1_25 rfl q_Report_init_1 ⟨(Nat.le_of_ble_eq_true rfl), (Nat.le_of_ble_eq_true rfl)⟩ hl.1 rfl (Nat.le_of_ble_eq_true rfl) d_Collector_putOnShelf_47 ?_
    refine fs_Jeq (g2 := F0 m 50 ls [.ref r9, .ref r8]) rfl ?_
    refine fs_JV S hG hR rfl [.ref r9] (enc := fun r => some (.int r)) (fun zr zs zt zh => m_ArrayList_add_0 X l r8 r9 zh) tw_4_208 tw_2_200 tw_2_201 tw_2_202 tw_1_5 q_ArrayList_add_0 ⟨(Nat.le_of_ble_eq_true rfl), (Nat.le_of_ble_eq_true rfl)⟩ hl.1 rfl (Nat.le_of_ble_eq_true rfl) d_Collector_putOnShelf_50 (fun v10 => ?_)
    refine fs_Jeq (g2 := F0 m 53 ls [.int v10]) rfl ?_
    refine fs_lift (fun _ _ _ _ => lv_pop hx hb d_Collector_putOnShelf_53 rfl) ?_
    exact fs_Jvret S hr hk rfl d_Collector_putOnShelf_54
  · refine fs_if (fun _ _ _ _ => lv_icmp_lt hx hb d_Collector_putOnShelf_8 rfl) ?_ ?_
    · exact hj38 () ls (lv_sub hl [0, 1] rfl)
    · refine fs_lift (fun _ _ _ _ => lv_aload_n hx hb d_Collector_putOnShelf_11 rfl (lv_at hl 0 rfl)) ?_
      refine fs_lift (fun _ _ _ _ => lv_aload_n hx hb d_Collector_putOnShelf_12 rfl (lv_at hl 0 rfl)) ?_
      refine fs_Jgr S hG fs_in5 rfl 1 (Nat.le_of_ble_eq_true rfl) tw_1_231 (fun _ h9 => h9) d_Collector_putOnShelf_13 (fun r3 => ?_)
      refine fs_lift (fun _ _ _ _ => lv_iconst (v := 0) hx hb d_Collector_putOnShelf_16 (by decide)) ?_
      refine fs_JV S hG hR rfl [.int 0] (enc := fun r => some (.ref r)) (fun zr zs zt zh => m_ArrayList_remove X l r3 0 zh) tw_4_213 tw_2_189 tw_2_190 tw_2_191 tw_1_5 q_ArrayList_remove ⟨(Nat.le_of_ble_eq_true rfl), (Nat.le_of_ble_eq_true rfl)⟩ hl.1 rfl (Nat.le_of_ble_eq_true rfl) d_Collector_putOnShelf_17 (fun r4 => ?_)
      refine fs_Jeq (g2 := F0 m 20 ls [.ref r4, .ref a0]) rfl ?_
      refine fs_Jck S hG rfl tw_4_159 tb_7_81 d_Collector_putOnShelf_20 ?_
      refine fs_JV S hG hR rfl [] (enc := fun r => some (.int r)) (fun zr zs zt zh => m_Report_exporter X l r4 zh) tw_5_19 tw_4_99 tw_4_100 tw_4_101 tw_1_25 q_Report_exporter ⟨(Nat.le_of_ble_eq_true rfl), (Nat.le_of_ble_eq_true rfl)⟩ hl.1 rfl (Nat.le_of_ble_eq_true rfl) d_Collector_putOnShelf_23 (fun v5 => ?_)
      refine fs_Jeq (g2 := F0 m 26 ls [.int v5, .ref a0]) rfl ?_
      refine fs_JV S hG hR rfl [.int v5] (enc := fun r => some (.ref r)) (fun zr zs zt zh => m_Collector_ledgerOf X l a0 v5 zh) tw_5_48 tw_5_49 tw_5_50 tw_5_51 tw_1_8 q_Collector_ledgerOf ⟨(Nat.le_of_ble_eq_true rfl), (Nat.le_of_ble_eq_true rfl)⟩ hl.1 rfl (Nat.le_of_ble_eq_true rfl) d_Collector_putOnShelf_26 (fun r6 => ?_)
      refine fs_Jeq (g2 := F0 m 29 ls [.ref r6]) rfl ?_
      refine fs_lift (fun _ _ _ _ => lv_dup hx hb d_Collector_putOnShelf_29 rfl) ?_
      refine fs_Jgi S hG fs_in7 rfl 1 (Nat.le_of_ble_eq_true rfl) tw_1_208 (fun _ h9 => h9) d_Collector_putOnShelf_30 (fun v7 => ?_)
      refine fs_lift (fun _ _ _ _ => lv_iconst (v := 1) hx hb d_Collector_putOnShelf_33 (by decide)) ?_
      refine fs_lift (fun _ _ _ _ => lv_iadd hx hb d_Collector_putOnShelf_34) ?_
      refine fs_Jput S hG fs_in7 rfl 1 (Nat.le_of_ble_eq_true rfl) tw_1_208 (fun _ h9 => h9) fs_Y7 fs_ty7 fs_nm7 (Or.inl rfl) rfl rfl d_Collector_putOnShelf_35 ?_
      exact hj38 () ls (lv_sub hl [0, 1] rfl)

theorem d_Ledger_markHeard_0 : decode prog_7_method_3_code 0 = .ok (.aload_n 1, 1) := by decide +kernel
theorem d_Ledger_markHeard_1 : decode prog_7_method_3_code 1 = .ok (.invokevirtual 15, 3) := by decide +kernel
theorem d_Ledger_markHeard_4 : decode prog_7_method_3_code 4 = .ok (.bipush 100, 2) := by decide +kernel
theorem d_Ledger_markHeard_6 : decode prog_7_method_3_code 6 = .ok (.imul, 1) := by decide +kernel
theorem d_Ledger_markHeard_7 : decode prog_7_method_3_code 7 = .ok (.aload_n 1, 1) := by decide +kernel
theorem d_Ledger_markHeard_8 : decode prog_7_method_3_code 8 = .ok (.invokevirtual 21, 3) := by decide +kernel
theorem d_Ledger_markHeard_11 : decode prog_7_method_3_code 11 = .ok (.iadd, 1) := by decide +kernel
theorem d_Ledger_markHeard_12 : decode prog_7_method_3_code 12 = .ok (.istore_n 2, 1) := by decide +kernel
theorem d_Ledger_markHeard_13 : decode prog_7_method_3_code 13 = .ok (.iconst 0, 1) := by decide +kernel
theorem d_Ledger_markHeard_14 : decode prog_7_method_3_code 14 = .ok (.istore_n 3, 1) := by decide +kernel
theorem d_Ledger_markHeard_15 : decode prog_7_method_3_code 15 = .ok (.iload_n 3, 1) := by decide +kernel
theorem d_Ledger_markHeard_16 : decode prog_7_method_3_code 16 = .ok (.aload_n 1, 1) := by decide +kernel
theorem d_Ledger_markHeard_17 : decode prog_7_method_3_code 17 = .ok (.invokevirtual 24, 3) := by decide +kernel
theorem d_Ledger_markHeard_20 : decode prog_7_method_3_code 20 = .ok (.if_icmp .ge 18, 3) := by decide +kernel
theorem d_Ledger_markHeard_23 : decode prog_7_method_3_code 23 = .ok (.aload_n 0, 1) := by decide +kernel
theorem d_Ledger_markHeard_24 : decode prog_7_method_3_code 24 = .ok (.getfield 9, 3) := by decide +kernel
theorem d_Ledger_markHeard_27 : decode prog_7_method_3_code 27 = .ok (.iload_n 2, 1) := by decide +kernel
theorem d_Ledger_markHeard_28 : decode prog_7_method_3_code 28 = .ok (.iload_n 3, 1) := by decide +kernel
theorem d_Ledger_markHeard_29 : decode prog_7_method_3_code 29 = .ok (.iadd, 1) := by decide +kernel
theorem d_Ledger_markHeard_30 : decode prog_7_method_3_code 30 = .ok (.iconst 1, 1) := by decide +kernel
theorem d_Ledger_markHeard_31 : decode prog_7_method_3_code 31 = .ok (.bastore, 1) := by decide +kernel
theorem d_Ledger_markHeard_32 : decode prog_7_method_3_code 32 = .ok (.iinc 3 1, 3) := by decide +kernel
theorem d_Ledger_markHeard_35 : decode prog_7_method_3_code 35 = .ok (.goto (-20), 3) := by decide +kernel
theorem d_Ledger_markHeard_38 : decode prog_7_method_3_code 38 = .ok (.return_, 1) := by decide +kernel
theorem q_Ledger_markHeard : (⟨"FlowShelf$Ledger", "markHeard", "(LFlowShelf$Report;)V"⟩ : MethodName).cls ≠ "java/lang/invoke/MethodHandle" ∧ (⟨"FlowShelf$Ledger", "markHeard", "(LFlowShelf$Report;)V"⟩ : MethodName).cls ≠ "java/lang/invoke/VarHandle" ∧ (parseMethodDescriptor (⟨"FlowShelf$Ledger", "markHeard", "(LFlowShelf$Report;)V"⟩ : MethodName).desc).map (fun d => d.parameters.length) = some 1 := by decide +kernel
set_option maxHeartbeats 4000000 in
set_option maxRecDepth 100000 in
theorem m_Ledger_markHeard (X : fs_X) (l : Launch) (a0 : Nat) (a1 : Nat) {r : Unit} {σ σF : fs_S} (h : (f_Ledger_markHeard a0 a1).1 σ = some (r, σF)) : fs_Met X l ⟨"FlowShelf$Ledger", "markHeard", "(LFlowShelf$Report;)V"⟩ (Cond.code ⟨"FlowShelf$Ledger", "markHeard", "(LFlowShelf$Report;)V"⟩ prog_7_method_3_code 4 none) 1 20 [.ref a0, .ref a1] σ (fs_eV r) σF := by
  refine fs_ofW (by decide) ?_
  intro p e s m args below meth c s₁ B hml hT hv
  obtain ⟨rfl, hw0, hG⟩ := hv
  have hx := B.exec
  have hb := B.bytes
  have hr := B.returns
  have hk := B.notSynchronized
  have S : CallFix p m c prog_7_method_3_code 4 s _ fs_ws "FlowShelf$Ledger" := ⟨B.exec, B.bytes, hml, findClass_of_methodNamed B.named, fun w hw => atoms_spec (ws := _ :: fs_ws) B.pre w (List.mem_cons_of_mem _ hw)⟩
  have hR := fs_hR (fr := 1) (lo := 20) ((f_Ledger_markHeard a0 a1).2 _ _ _ h)
  have hl := lv_entry ([.ref a0, .ref a1]) (n := 4) (Nat.le_of_ble_eq_true rfl)
  rw [lg_entry_eq]
  generalize (lg_sl ([.ref a0, .ref a1]) ++ List.replicate (4 - (lg_sl ([.ref a0, .ref a1])).length) Slot.unset).toArray = ls at hl ⊢
  have hl : lv_has ls 4 [(0, .ref a0), (1, .ref a1)] := hl
  refine (?_ : fs_J X p l e (fs_rm 1 20 σ σF) s m _ below meth c (fs_Q X below _ s (fs_eV r) σ σF) r σ σF (f_Ledger_markHeard a0 a1) (F0 m 0 ls [])) σ s.heap [] 0 0 h hw0 va_S.rf rfl rfl
  clear h hw0
  unfold f_Ledger_markHeard
  refine fs_lift (fun _ _ _ _ => lv_aload_n hx hb d_Ledger_markHeard_0 rfl (lv_at hl 1 rfl)) ?_
  refine fs_JV S hG hR rfl [] (enc := fun r => some (.int r)) (fun zr zs zt zh => m_Report_epoch X l a1 zh) tw_5_60 tw_4_104 tw_4_105 tw_4_106 tw_1_25 q_Report_epoch ⟨(Nat.le_of_ble_eq_true rfl), (Nat.le_of_ble_eq_true rfl)⟩ hl.1 rfl (Nat.le_of_ble_eq_true rfl) d_Ledger_markHeard_1 (fun v1 => ?_)
  refine fs_Jeq (g2 := F0 m 4 ls [.int v1]) rfl ?_
  refine fs_lift (fun _ _ _ _ => lv_bipush (v := 100) hx hb d_Ledger_markHeard_4 (by decide)) ?_
  refine fs_lift (fun _ _ _ _ => lv_imul hx hb d_Ledger_markHeard_6) ?_
  refine fs_lift (fun _ _ _ _ => lv_aload_n hx hb d_Ledger_markHeard_7 rfl (lv_at hl 1 rfl)) ?_
  refine fs_JV S hG hR rfl [] (enc := fun r => some (.int r)) (fun zr zs zt zh => m_Report_firstPlace X l a1 zh) tw_5_61 tw_4_140 tw_4_141 tw_4_142 tw_1_25 q_Report_firstPlace ⟨(Nat.le_of_ble_eq_true rfl), (Nat.le_of_ble_eq_true rfl)⟩ hl.1 rfl (Nat.le_of_ble_eq_true rfl) d_Ledger_markHeard_8 (fun v2 => ?_)
  refine fs_Jeq (g2 := F0 m 11 ls [.int v2, .int (v1 * 100)]) rfl ?_
  refine fs_lift (fun _ _ _ _ => lv_iadd hx hb d_Ledger_markHeard_11) ?_
  refine fs_Jni (fun v3 => ?_)
  refine fs_liftL (fun _ _ _ _ => lv_istore_n (lv' := [(2, .int v3), (0, .ref a0), (1, .ref a1)]) hx hb d_Ledger_markHeard_12 rfl hl (Nat.le_of_ble_eq_true rfl) rfl) (fun ls hl => ?_)
  refine fs_lift (fun _ _ _ _ => lv_iconst (v := 0) hx hb d_Ledger_markHeard_13 (by decide)) ?_
  refine fs_liftL (fun _ _ _ _ => lv_istore_n (lv' := [(3, .int 0), (2, .int v3), (0, .ref a0), (1, .ref a1)]) hx hb d_Ledger_markHeard_14 rfl hl (Nat.le_of_ble_eq_true rfl) rfl) (fun ls hl => ?_)
  refine fs_Jlp1 (nL := 4) (pc := 15) (rest := []) (I := fun (v4 : Int32) => [(0, .ref a0), (1, .ref a1), (2, .int v3), (3, .int v4)]) (fun k15 hk15 v4 ls hl => ?_) _ _ _ (lv_sub hl [2, 3, 1, 0] rfl)
  refine fs_lift (fun _ _ _ _ => lv_iload_n hx hb d_Ledger_markHeard_15 rfl (lv_at hl 3 rfl)) ?_
  refine fs_lift (fun _ _ _ _ => lv_aload_n hx hb d_Ledger_markHeard_16 rfl (lv_at hl 1 rfl)) ?_
  refine fs_JV S hG hR rfl [] (enc := fun r => some (.int r)) (fun zr zs zt zh => m_Report_records X l a1 zh) tw_5_62 tw_4_136 tw_4_137 tw_4_138 tw_1_25 q_Report_records ⟨(Nat.le_of_ble_eq_true rfl), (Nat.le_of_ble_eq_true rfl)⟩ hl.1 rfl (Nat.le_of_ble_eq_true rfl) d_Ledger_markHeard_17 (fun v5 => ?_)
  refine fs_Jeq (g2 := F0 m 20 ls [.int v5, .int v4]) rfl ?_
  refine fs_if (fun _ _ _ _ => lv_icmp_ge hx hb d_Ledger_markHeard_20 rfl) ?_ ?_
  · exact fs_Jvret S hr hk rfl d_Ledger_markHeard_38
  · refine fs_lift (fun _ _ _ _ => lv_aload_n hx hb d_Ledger_markHeard_23 rfl (lv_at hl 0 rfl)) ?_
    refine fs_Jgr S hG fs_in7 rfl 0 (Nat.le_of_ble_eq_true rfl) tw_1_207 (fun _ h9 => h9) d_Ledger_markHeard_24 (fun r6 => ?_)
    refine fs_lift (fun _ _ _ _ => lv_iload_n hx hb d_Ledger_markHeard_27 rfl (lv_at hl 2 rfl)) ?_
    refine fs_lift (fun _ _ _ _ => lv_iload_n hx hb d_Ledger_markHeard_28 rfl (lv_at hl 3 rfl)) ?_
    refine fs_lift (fun _ _ _ _ => lv_iadd hx hb d_Ledger_markHeard_29) ?_
    refine fs_lift (fun _ _ _ _ => lv_iconst (v := 1) hx hb d_Ledger_markHeard_30 (by decide)) ?_
    refine fs_Jsz S hG d_Ledger_markHeard_31 ?_
    refine fs_Jnm (fun v7 hv9 => ?_)
    refine fs_liftL (fun _ _ _ _ => lv_iinc (k := 3) (v := v7) (lv' := [(3, .int v7), (0, .ref a0), (1, .ref a1), (2, .int v3)]) hx hb d_Ledger_markHeard_32 hl rfl (by rw [hv9]; rfl) (Nat.le_of_ble_eq_true rfl) rfl) (fun ls hl => ?_)
    refine fs_lift (fun _ _ _ _ => lv_goto hx hb d_Ledger_markHeard_35 rfl) ?_
    exact hk15 v7 ls (lv_sub hl [1, 2, 3, 0] rfl)

theorem d_Report_samplersBefore_0 : decode prog_8_method_13_code 0 = .ok (.aload_n 0, 1) := by decide +kernel
theorem d_Report_samplersBefore_1 : decode prog_8_method_13_code 1 = .ok (.getfield 9, 3) := by decide +kernel
theorem d_Report_samplersBefore_4 : decode prog_8_method_13_code 4 = .ok (.iconst 3, 1) := by decide +kernel
theorem d_Report_samplersBefore_5 : decode prog_8_method_13_code 5 = .ok (.iaload, 1) := by decide +kernel
theorem d_Report_samplersBefore_6 : decode prog_8_method_13_code 6 = .ok (.ireturn, 1) := by decide +kernel
theorem q_Report_samplersBefore : (⟨"FlowShelf$Report", "samplersBefore", "()I"⟩ : MethodName).cls ≠ "java/lang/invoke/MethodHandle" ∧ (⟨"FlowShelf$Report", "samplersBefore", "()I"⟩ : MethodName).cls ≠ "java/lang/invoke/VarHandle" ∧ (parseMethodDescriptor (⟨"FlowShelf$Report", "samplersBefore", "()I"⟩ : MethodName).desc).map (fun d => d.parameters.length) = some 0 := by decide +kernel
set_option maxHeartbeats 4000000 in
set_option maxRecDepth 100000 in
theorem m_Report_samplersBefore (X : fs_X) (l : Launch) (a0 : Nat) {r : Int32} {σ σF : fs_S} (h : (f_Report_samplersBefore a0).1 σ = some (r, σF)) : fs_Met X l ⟨"FlowShelf$Report", "samplersBefore", "()I"⟩ (Cond.code ⟨"FlowShelf$Report", "samplersBefore", "()I"⟩ prog_8_method_13_code 1 (some FieldType.int)) 0 0 [.ref a0] σ (fs_eI r) σF := by
  refine fs_ofW (by decide) ?_
  intro p e s m args below meth c s₁ B hml hT hv
  obtain ⟨rfl, hw0, hG⟩ := hv
  have hx := B.exec
  have hb := B.bytes
  have hr := B.returns
  have hk := B.notSynchronized
  have S : CallFix p m c prog_8_method_13_code 1 s _ fs_ws "FlowShelf$Report" := ⟨B.exec, B.bytes, hml, findClass_of_methodNamed B.named, fun w hw => atoms_spec (ws := _ :: fs_ws) B.pre w (List.mem_cons_of_mem _ hw)⟩
  have hR := fs_hR (fr := 0) (lo := 0) ((f_Report_samplersBefore a0).2 _ _ _ h)
  have hl := lv_entry ([.ref a0]) (n := 1) (Nat.le_of_ble_eq_true rfl)
  rw [lg_entry_eq]
  generalize (lg_sl ([.ref a0]) ++ List.replicate (1 - (lg_sl ([.ref a0])).length) Slot.unset).toArray = ls at hl ⊢
  have hl : lv_has ls 1 [(0, .ref a0)] := hl
  refine (?_ : fs_J X p l e (fs_rm 0 0 σ σF) s m _ below meth c (fs_Q X below _ s (fs_eI r) σ σF) r σ σF (f_Report_samplersBefore a0) (F0 m 0 ls [])) σ s.heap [] 0 0 h hw0 va_S.rf rfl rfl
  clear h hw0
  unfold f_Report_samplersBefore
  refine fs_lift (fun _ _ _ _ => lv_aload_n hx hb d_Report_samplersBefore_0 rfl (lv_at hl 0 rfl)) ?_
  refine fs_Jgr S hG fs_in9 rfl 0 (Nat.le_of_ble_eq_true rfl) tw_3_225 (fun _ h9 => h9) d_Report_samplersBefore_1 (fun r1 => ?_)
  refine fs_lift (fun _ _ _ _ => lv_iconst (v := 3) hx hb d_Report_samplersBefore_4 (by decide)) ?_
  refine fs_Jai S hG d_Report_samplersBefore_5 (fun v2 => ?_)
  exact fs_Jiret S hr hk rfl d_Report_samplersBefore_6

theorem d_Ledger_noteSampler_0 : decode prog_7_method_6_code 0 = .ok (.aload_n 0, 1) := by decide +kernel
theorem d_Ledger_noteSampler_1 : decode prog_7_method_6_code 1 = .ok (.getfield 31, 3) := by decide +kernel
theorem d_Ledger_noteSampler_4 : decode prog_7_method_6_code 4 = .ok (.ifCond .ne 7, 3) := by decide +kernel
theorem d_Ledger_noteSampler_7 : decode prog_7_method_6_code 7 = .ok (.iconst 1, 1) := by decide +kernel
theorem d_Ledger_noteSampler_8 : decode prog_7_method_6_code 8 = .ok (.goto 4, 3) := by decide +kernel
theorem d_Ledger_noteSampler_11 : decode prog_7_method_6_code 11 = .ok (.iconst 0, 1) := by decide +kernel
theorem d_Ledger_noteSampler_12 : decode prog_7_method_6_code 12 = .ok (.istore_n 2, 1) := by decide +kernel
theorem d_Ledger_noteSampler_13 : decode prog_7_method_6_code 13 = .ok (.aload_n 1, 1) := by decide +kernel
theorem d_Ledger_noteSampler_14 : decode prog_7_method_6_code 14 = .ok (.invokevirtual 15, 3) := by decide +kernel
theorem d_Ledger_noteSampler_17 : decode prog_7_method_6_code 17 = .ok (.aload_n 0, 1) := by decide +kernel
theorem d_Ledger_noteSampler_18 : decode prog_7_method_6_code 18 = .ok (.getfield 35, 3) := by decide +kernel
theorem d_Ledger_noteSampler_21 : decode prog_7_method_6_code 21 = .ok (.if_icmp .gt 25, 3) := by decide +kernel
theorem d_Ledger_noteSampler_24 : decode prog_7_method_6_code 24 = .ok (.aload_n 1, 1) := by decide +kernel
theorem d_Ledger_noteSampler_25 : decode prog_7_method_6_code 25 = .ok (.invokevirtual 15, 3) := by decide +kernel
theorem d_Ledger_noteSampler_28 : decode prog_7_method_6_code 28 = .ok (.aload_n 0, 1) := by decide +kernel
theorem d_Ledger_noteSampler_29 : decode prog_7_method_6_code 29 = .ok (.getfield 35, 3) := by decide +kernel
theorem d_Ledger_noteSampler_32 : decode prog_7_method_6_code 32 = .ok (.if_icmp .ne 18, 3) := by decide +kernel
theorem d_Ledger_noteSampler_35 : decode prog_7_method_6_code 35 = .ok (.aload_n 1, 1) := by decide +kernel
theorem d_Ledger_noteSampler_36 : decode prog_7_method_6_code 36 = .ok (.invokevirtual 38, 3) := by decide +kernel
theorem d_Ledger_noteSampler_39 : decode prog_7_method_6_code 39 = .ok (.aload_n 0, 1) := by decide +kernel
theorem d_Ledger_noteSampler_40 : decode prog_7_method_6_code 40 = .ok (.getfield 41, 3) := by decide +kernel
theorem d_Ledger_noteSampler_43 : decode prog_7_method_6_code 43 = .ok (.if_icmp .le 7, 3) := by decide +kernel
theorem d_Ledger_noteSampler_46 : decode prog_7_method_6_code 46 = .ok (.iconst 1, 1) := by decide +kernel
theorem d_Ledger_noteSampler_47 : decode prog_7_method_6_code 47 = .ok (.goto 4, 3) := by decide +kernel
theorem d_Ledger_noteSampler_50 : decode prog_7_method_6_code 50 = .ok (.iconst 0, 1) := by decide +kernel
theorem d_Ledger_noteSampler_51 : decode prog_7_method_6_code 51 = .ok (.istore_n 3, 1) := by decide +kernel
theorem d_Ledger_noteSampler_52 : decode prog_7_method_6_code 52 = .ok (.iload_n 2, 1) := by decide +kernel
theorem d_Ledger_noteSampler_53 : decode prog_7_method_6_code 53 = .ok (.ifCond .ne 7, 3) := by decide +kernel
theorem d_Ledger_noteSampler_56 : decode prog_7_method_6_code 56 = .ok (.iload_n 3, 1) := by decide +kernel
theorem d_Ledger_noteSampler_57 : decode prog_7_method_6_code 57 = .ok (.ifCond .eq 27, 3) := by decide +kernel
theorem d_Ledger_noteSampler_60 : decode prog_7_method_6_code 60 = .ok (.aload_n 0, 1) := by decide +kernel
theorem d_Ledger_noteSampler_61 : decode prog_7_method_6_code 61 = .ok (.aload_n 1, 1) := by decide +kernel
theorem d_Ledger_noteSampler_62 : decode prog_7_method_6_code 62 = .ok (.invokevirtual 44, 3) := by decide +kernel
theorem d_Ledger_noteSampler_65 : decode prog_7_method_6_code 65 = .ok (.putfield 31, 3) := by decide +kernel
theorem d_Ledger_noteSampler_68 : decode prog_7_method_6_code 68 = .ok (.aload_n 0, 1) := by decide +kernel
theorem d_Ledger_noteSampler_69 : decode prog_7_method_6_code 69 = .ok (.aload_n 1, 1) := by decide +kernel
theorem d_Ledger_noteSampler_70 : decode prog_7_method_6_code 70 = .ok (.invokevirtual 15, 3) := by decide +kernel
theorem d_Ledger_noteSampler_73 : decode prog_7_method_6_code 73 = .ok (.putfield 35, 3) := by decide +kernel
theorem d_Ledger_noteSampler_76 : decode prog_7_method_6_code 76 = .ok (.aload_n 0, 1) := by decide +kernel
theorem d_Ledger_noteSampler_77 : decode prog_7_method_6_code 77 = .ok (.aload_n 1, 1) := by decide +kernel
theorem d_Ledger_noteSampler_78 : decode prog_7_method_6_code 78 = .ok (.invokevirtual 38, 3) := by decide +kernel
theorem d_Ledger_noteSampler_81 : decode prog_7_method_6_code 81 = .ok (.putfield 41, 3) := by decide +kernel
theorem d_Ledger_noteSampler_84 : decode prog_7_method_6_code 84 = .ok (.return_, 1) := by decide +kernel
theorem q_Ledger_noteSampler : (⟨"FlowShelf$Ledger", "noteSampler", "(LFlowShelf$Report;)V"⟩ : MethodName).cls ≠ "java/lang/invoke/MethodHandle" ∧ (⟨"FlowShelf$Ledger", "noteSampler", "(LFlowShelf$Report;)V"⟩ : MethodName).cls ≠ "java/lang/invoke/VarHandle" ∧ (parseMethodDescriptor (⟨"FlowShelf$Ledger", "noteSampler", "(LFlowShelf$Report;)V"⟩ : MethodName).desc).map (fun d => d.parameters.length) = some 1 := by decide +kernel
set_option maxHeartbeats 4000000 in
set_option maxRecDepth 100000 in
theorem m_Ledger_noteSampler (X : fs_X) (l : Launch) (a0 : Nat) (a1 : Nat) {r : Unit} {σ σF : fs_S} (h : (f_Ledger_noteSampler a0 a1).1 σ = some (r, σF)) : fs_Met X l ⟨"FlowShelf$Ledger", "noteSampler", "(LFlowShelf$Report;)V"⟩ (Cond.code ⟨"FlowShelf$Ledger", "noteSampler", "(LFlowShelf$Report;)V"⟩ prog_7_method_6_code 4 none) 1 20 [.ref a0, .ref a1] σ (fs_eV r) σF := by
  refine fs_ofW (by decide) ?_
  intro p e s m args below meth c s₁ B hml hT hv
  obtain ⟨rfl, hw0, hG⟩ := hv
  have hx := B.exec
  have hb := B.bytes
  have hr := B.returns
  have hk := B.notSynchronized
  have S : CallFix p m c prog_7_method_6_code 4 s _ fs_ws "FlowShelf$Ledger" := ⟨B.exec, B.bytes, hml, findClass_of_methodNamed B.named, fun w hw => atoms_spec (ws := _ :: fs_ws) B.pre w (List.mem_cons_of_mem _ hw)⟩
  have hR := fs_hR (fr := 1) (lo := 20) ((f_Ledger_noteSampler a0 a1).2 _ _ _ h)
  have hl := lv_entry ([.ref a0, .ref a1]) (n := 4) (Nat.le_of_ble_eq_true rfl)
  rw [lg_entry_eq]
  generalize (lg_sl ([.ref a0, .ref a1]) ++ List.replicate (4 - (lg_sl ([.ref a0, .ref a1])).length) Slot.unset).toArray = ls at hl ⊢
  have hl : lv_has ls 4 [(0, .ref a0), (1, .ref a1)] := hl
  refine (?_ : fs_J X p l e (fs_rm 1 20 σ σF) s m _ below meth c (fs_Q X below _ s (fs_eV r) σ σF) r σ σF (f_Ledger_noteSampler a0 a1) (F0 m 0 ls [])) σ s.heap [] 0 0 h hw0 va_S.rf rfl rfl
  clear h hw0
  unfold f_Ledger_noteSampler
  refine fs_lift (fun _ _ _ _ => lv_aload_n hx hb d_Ledger_noteSampler_0 rfl (lv_at hl 0 rfl)) ?_
  refine fs_Jgi S hG fs_in7 rfl 3 (Nat.le_of_ble_eq_true rfl) tw_1_212 (fun _ h9 => h9) d_Ledger_noteSampler_1 (fun v1 => ?_)
  refine fs_Jlet1 (nL := 4) (pj := 12) (I := fun (v2 : Int32) => [(0, .ref a0), (1, .ref a1)]) (st := fun (v2 : Int32) => [.int v2]) (fun v2 ls hl => ?_) (fun j12 hj12 => ?_)
  · refine fs_liftL (fun _ _ _ _ => lv_istore_n (lv' := [(2, .int v2), (0, .ref a0), (1, .ref a1)]) hx hb d_Ledger_noteSampler_12 rfl hl (Nat.le_of_ble_eq_true rfl) rfl) (fun ls hl => ?_)
    refine fs_lift (fun _ _ _ _ => lv_aload_n hx hb d_Ledger_noteSampler_13 rfl (lv_at hl 2 rfl)) ?_
    refine fs_JV S hG hR rfl [] (enc := fun r => some (.int r)) (fun zr zs zt zh => m_Report_epoch X l a1 zh) tw_5_60 tw_4_104 tw_4_105 tw_4_106 tw_1_25 q_Report_epoch ⟨(Nat.le_of_ble_eq_true rfl), (Nat.le_of_ble_eq_true rfl)⟩ hl.1 rfl (Nat.le_of_ble_eq_true rfl) d_Ledger_noteSampler_14 (fun v3 => ?_)
    refine fs_Jeq (g2 := F0 m 17 ls [.int v3]) rfl ?_
    refine fs_lift (fun _ _ _ _ => lv_aload_n hx hb d_Ledger_noteSampler_17 rfl (lv_at hl 1 rfl)) ?_
    refine fs_Jgi S hG fs_in7 rfl 4 (Nat.le_of_ble_eq_true rfl) tw_1_214 (fun _ h9 => h9) d_Ledger_noteSampler_18 (fun v4 => ?_)
    refine fs_Jlet1 (nL := 4) (pj := 51) (I := fun (v9 : Int32) => [(0, .ref a0), (1, .ref a1), (2, .int v2)]) (st := fun (v9 : Int32) => [.int v9]) (fun v9 ls hl => ?_) (fun j51 hj51 => ?_)
    · refine fs_liftL (fun _ _ _ _ => lv_istore_n (lv' := [(3, .int v9), (0, .ref a0), (1, .ref a1), (2, .int v2)]) hx hb d_Ledger_noteSampler_51 rfl hl (Nat.le_of_ble_eq_true rfl) rfl) (fun ls hl => ?_)
      refine fs_lift (fun _ _ _ _ => lv_iload_n hx hb d_Ledger_noteSampler_52 rfl (lv_at hl 3 rfl)) ?_
      refine fs_Jlet1 (nL := 4) (pj := 60) (I := fun (_ : Unit) => [(0, .ref a0), (1, .ref a1)]) (st := fun (_ : Unit) => []) (fun _ ls hl => ?_) (fun j60 hj60 => ?_)
      · refine fs_lift (fun _ _ _ _ => lv_aload_n hx hb d_Ledger_noteSampler_60 rfl (lv_at hl 0 rfl)) ?_
        refine fs_lift (fun _ _ _ _ => lv_aload_n hx hb d_Ledger_noteSampler_61 rfl (lv_at hl 1 rfl)) ?_
        refine fs_JV S hG hR rfl [] (enc := fun r => some (.int r)) (fun zr zs zt zh => m_Report_samplerN X l a1 zh) tw_5_88 tw_4_144 tw_4_145 tw_4_146 tw_1_25 q_Report_samplerN ⟨(Nat.le_of_ble_eq_true rfl), (Nat.le_of_ble_eq_true rfl)⟩ hl.1 rfl (Nat.le_of_ble_eq_true rfl) d_Ledger_noteSampler_62 (fun v10 => ?_)
        refine fs_Jeq (g2 := F0 m 65 ls [.int v10, .ref a0]) rfl ?_
        refine fs_Jput S hG fs_in7 rfl 3 (Nat.le_of_ble_eq_true rfl) tw_1_212 (fun _ h9 => h9) fs_Y7 fs_ty7 fs_nm7 (Or.inl rfl) rfl rfl d_Ledger_noteSampler_65 ?_
        refine fs_lift (fun _ _ _ _ => lv_aload_n hx hb d_Ledger_noteSampler_68 rfl (lv_at hl 0 rfl)) ?_
        refine fs_lift (fun _ _ _ _ => lv_aload_n hx hb d_Ledger_noteSampler_69 rfl (lv_at hl 1 rfl)) ?_
        refine fs_JV S hG hR rfl [] (enc := fun r => some (.int r)) (fun zr zs zt zh => m_Report_epoch X l a1 zh) tw_5_60 tw_4_104 tw_4_105 tw_4_106 tw_1_25 q_Report_epoch ⟨(Nat.le_of_ble_eq_true rfl), (Nat.le_of_ble_eq_true rfl)⟩ hl.1 rfl (Nat.le_of_ble_eq_true rfl) d_Ledger_noteSampler_70 (fun v11 => ?_)
        refine fs_Jeq (g2 := F0 m 73 ls [.int v11, .ref a0]) rfl ?_
        refine fs_Jput S hG fs_in7 rfl 4 (Nat.le_of_ble_eq_true rfl) tw_1_214 (fun _ h9 => h9) fs_Y7 fs_ty7 fs_nm7 (Or.inl rfl) rfl rfl d_Ledger_noteSampler_73 ?_
        refine fs_lift (fun _ _ _ _ => lv_aload_n hx hb d_Ledger_noteSampler_76 rfl (lv_at hl 0 rfl)) ?_
        refine fs_lift (fun _ _ _ _ => lv_aload_n hx hb d_Ledger_noteSampler_77 rfl (lv_at hl 1 rfl)) ?_
        refine fs_JV S hG hR rfl [] (enc := fun r => some (.int r)) (fun zr zs zt zh => m_Report_samplersBefore X l a1 zh) tw_5_84 tw_5_85 tw_5_86 tw_5_87 tw_1_25 q_Report_samplersBefore ⟨(Nat.le_of_ble_eq_true rfl), (Nat.le_of_ble_eq_true rfl)⟩ hl.1 rfl (Nat.le_of_ble_eq_true rfl) d_Ledger_noteSampler_78 (fun v12 => ?_)
        refine fs_Jeq (g2 := F0 m 81 ls [.int v12, .ref a0]) rfl ?_
        refine fs_Jput S hG fs_in7 rfl 5 (Nat.le_of_ble_eq_true rfl) tw_1_215 (fun _ h9 => h9) fs_Y7 fs_ty7 fs_nm7 (Or.inl rfl) rfl rfl d_Ledger_noteSampler_81 ?_
        exact fs_Jvret S hr hk rfl d_Ledger_noteSampler_84
      · refine fs_ifn (fun _ _ _ _ => lv_if_ne hx hb d_Ledger_noteSampler_53 rfl) ?_ ?_
        · refine fs_lift (fun _ _ _ _ => lv_iload_n hx hb d_Ledger_noteSampler_56 rfl (lv_at hl 0 rfl)) ?_
          refine fs_if (fun _ _ _ _ => lv_if_eq hx hb d_Ledger_noteSampler_57 rfl) ?_ ?_
          · exact fs_Jvret S hr hk rfl d_Ledger_noteSampler_84
          · exact hj60 () ls (lv_sub hl [1, 2] rfl)
        · exact hj60 () ls (lv_sub hl [1, 2] rfl)
    · refine fs_Jlet1 (nL := 4) (pj := 46) (I := fun (_ : Unit) => [(0, .ref a0), (1, .ref a1), (2, .int v2)]) (st := fun (_ : Unit) => []) (fun _ ls hl => ?_) (fun j46 hj46 => ?_)
      · refine fs_lift (fun _ _ _ _ => lv_iconst (v := 1) hx hb d_Ledger_noteSampler_46 (by decide)) ?_
        refine fs_lift (fun _ _ _ _ => lv_goto hx hb d_Ledger_noteSampler_47 rfl) ?_
        exact hj51 1 ls (lv_sub hl [0, 1, 2] rfl)
      · refine fs_if (fun _ _ _ _ => lv_icmp_gt hx hb d_Ledger_noteSampler_21 rfl) ?_ ?_
        · exact hj46 () ls (lv_sub hl [1, 2, 0] rfl)
        · refine fs_lift (fun _ _ _ _ => lv_aload_n hx hb d_Ledger_noteSampler_24 rfl (lv_at hl 2 rfl)) ?_
          refine fs_JV S hG hR rfl [] (enc := fun r => some (.int r)) (fun zr zs zt zh => m_Report_epoch X l a1 zh) tw_5_60 tw_4_104 tw_4_105 tw_4_106 tw_1_25 q_Report_epoch ⟨(Nat.le_of_ble_eq_true rfl), (Nat.le_of_ble_eq_true rfl)⟩ hl.1 rfl (Nat.le_of_ble_eq_true rfl) d_Ledger_noteSampler_25 (fun v5 => ?_)
          refine fs_Jeq (g2 := F0 m 28 ls [.int v5]) rfl ?_
          refine fs_lift (fun _ _ _ _ => lv_aload_n hx hb d_Ledger_noteSampler_28 rfl (lv_at hl 1 rfl)) ?_
          refine fs_Jgi S hG fs_in7 rfl 4 (Nat.le_of_ble_eq_true rfl) tw_1_214 (fun _ h9 => h9) d_Ledger_noteSampler_29 (fun v6 => ?_)
          refine fs_Jlet1 (nL := 4) (pj := 50) (I := fun (_ : Unit) => [(0, .ref a0), (1, .ref a1), (2, .int v2)]) (st := fun (_ : Unit) => []) (fun _ ls hl => ?_) (fun j50 hj50 => ?_)
          · refine fs_lift (fun _ _ _ _ => lv_iconst (v := 0) hx hb d_Ledger_noteSampler_50 (by decide)) ?_
            exact hj51 0 ls (lv_sub hl [0, 1, 2] rfl)
          · refine fs_ifn (fun _ _ _ _ => lv_icmp_ne hx hb d_Ledger_noteSampler_32 rfl) ?_ ?_
            · refine fs_lift (fun _ _ _ _ => lv_aload_n hx hb d_Ledger_noteSampler_35 rfl (lv_at hl 2 rfl)) ?_
              refine fs_JV S hG hR rfl [] (enc := fun r => some (.int r)) (fun zr zs zt zh => m_Report_samplersBefore X l a1 zh) tw_5_84 tw_5_85 tw_5_86 tw_5_87 tw_1_25 q_Report_samplersBefore ⟨(Nat.le_of_ble_eq_true rfl), (Nat.le_of_ble_eq_true rfl)⟩ hl.1 rfl (Nat.le_of_ble_eq_true rfl) d_Ledger_noteSampler_36 (fun v7 => ?_)
              refine fs_Jeq (g2 := F0 m 39 ls [.int v7]) rfl ?_
              refine fs_lift (fun _ _ _ _ => lv_aload_n hx hb d_Ledger_noteSampler_39 rfl (lv_at hl 1 rfl)) ?_
              refine fs_Jgi S hG fs_in7 rfl 5 (Nat.le_of_ble_eq_true rfl) tw_1_215 (fun _ h9 => h9) d_Ledger_noteSampler_40 (fun v8 => ?_)
              refine fs_if (fun _ _ _ _ => lv_icmp_le hx hb d_Ledger_noteSampler_43 rfl) ?_ ?_
              · exact hj50 () ls (lv_sub hl [1, 2, 0] rfl)
              · exact hj46 () ls (lv_sub hl [1, 2, 0] rfl)
            · exact hj50 () ls (lv_sub hl [1, 2, 0] rfl)
  · refine fs_ifn (fun _ _ _ _ => lv_if_ne hx hb d_Ledger_noteSampler_4 rfl) ?_ ?_
    · refine fs_lift (fun _ _ _ _ => lv_iconst (v := 1) hx hb d_Ledger_noteSampler_7 (by decide)) ?_
      refine fs_lift (fun _ _ _ _ => lv_goto hx hb d_Ledger_noteSampler_8 rfl) ?_
      exact hj12 1 ls (lv_sub hl [0, 1] rfl)
    · refine fs_lift (fun _ _ _ _ => lv_iconst (v := 0) hx hb d_Ledger_noteSampler_11 (by decide)) ?_
      exact hj12 0 ls (lv_sub hl [0, 1] rfl)

theorem d_Row_has_0 : decode prog_9_method_2_code 0 = .ok (.aload_n 0, 1) := by decide +kernel
theorem d_Row_has_1 : decode prog_9_method_2_code 1 = .ok (.getfield 9, 3) := by decide +kernel
theorem d_Row_has_4 : decode prog_9_method_2_code 4 = .ok (.iload_n 1, 1) := by decide +kernel
theorem d_Row_has_5 : decode prog_9_method_2_code 5 = .ok (.laload, 1) := by decide +kernel
theorem d_Row_has_6 : decode prog_9_method_2_code 6 = .ok (.ldc2_w 19, 3) := by decide +kernel
theorem d_Row_has_9 : decode prog_9_method_2_code 9 = .ok (.lcmp, 1) := by decide +kernel
theorem d_Row_has_10 : decode prog_9_method_2_code 10 = .ok (.ifCond .eq 7, 3) := by decide +kernel
theorem d_Row_has_13 : decode prog_9_method_2_code 13 = .ok (.iconst 1, 1) := by decide +kernel
theorem d_Row_has_14 : decode prog_9_method_2_code 14 = .ok (.goto 4, 3) := by decide +kernel
theorem d_Row_has_17 : decode prog_9_method_2_code 17 = .ok (.iconst 0, 1) := by decide +kernel
theorem d_Row_has_18 : decode prog_9_method_2_code 18 = .ok (.ireturn, 1) := by decide +kernel
theorem q_Row_has : (⟨"FlowShelf$Row", "has", "(I)Z"⟩ : MethodName).cls ≠ "java/lang/invoke/MethodHandle" ∧ (⟨"FlowShelf$Row", "has", "(I)Z"⟩ : MethodName).cls ≠ "java/lang/invoke/VarHandle" ∧ (parseMethodDescriptor (⟨"FlowShelf$Row", "has", "(I)Z"⟩ : MethodName).desc).map (fun d => d.parameters.length) = some 1 := by decide +kernel
set_option maxHeartbeats 4000000 in
set_option maxRecDepth 100000 in
theorem m_Row_has (X : fs_X) (l : Launch) (a0 : Nat) (x1 : Int32) {r : Int32} {σ σF : fs_S} (h : (f_Row_has a0 x1).1 σ = some (r, σF)) : fs_Met X l ⟨"FlowShelf$Row", "has", "(I)Z"⟩ (Cond.code ⟨"FlowShelf$Row", "has", "(I)Z"⟩ prog_9_method_2_code 2 (some FieldType.boolean)) 0 0 [.ref a0, .int x1] σ (fs_eI r) σF := by
  refine fs_ofW (by decide) ?_
  intro p e s m args below meth c s₁ B hml hT hv
  obtain ⟨rfl, hw0, hG⟩ := hv
  have hx := B.exec
  have hb := B.bytes
  have hr := B.returns
  have hk := B.notSynchronized
  have S : CallFix p m c prog_9_method_2_code 2 s _ fs_ws "FlowShelf$Row" := ⟨B.exec, B.bytes, hml, findClass_of_methodNamed B.named, fun w hw => atoms_spec (ws := _ :: fs_ws) B.pre w (List.mem_cons_of_mem _ hw)⟩
  have hR := fs_hR (fr := 0) (lo := 0) ((f_Row_has a0 x1).2 _ _ _ h)
  have hl := lv_entry ([.ref a0, .int x1]) (n := 2) (Nat.le_of_ble_eq_true rfl)
  rw [lg_entry_eq]
  generalize (lg_sl ([.ref a0, .int x1]) ++ List.replicate (2 - (lg_sl ([.ref a0, .int x1])).length) Slot.unset).toArray = ls at hl ⊢
  have hl : lv_has ls 2 [(0, .ref a0), (1, .int x1)] := hl
  refine (?_ : fs_J X p l e (fs_rm 0 0 σ σF) s m _ below meth c (fs_Q X below _ s (fs_eI r) σ σF) r σ σF (f_Row_has a0 x1) (F0 m 0 ls [])) σ s.heap [] 0 0 h hw0 va_S.rf rfl rfl
  clear h hw0
  unfold f_Row_has
  refine fs_lift (fun _ _ _ _ => lv_aload_n hx hb d_Row_has_0 rfl (lv_at hl 0 rfl)) ?_
  refine fs_Jgr S hG fs_in11 rfl 1 (Nat.le_of_ble_eq_true rfl) tw_5_31 (fun _ h9 => h9) d_Row_has_1 (fun r1 => ?_)
  refine fs_lift (fun _ _ _ _ => lv_iload_n hx hb d_Row_has_4 rfl (lv_at hl 1 rfl)) ?_
  refine fs_Jaj S hG d_Row_has_5 (fun v2 => ?_)
  refine fs_lift (fun _ _ _ _ => lv_ldc2 hx hb S.2.2.2.1 (S.2.2.2.2 _ tw_5_24) d_Row_has_6) ?_
  refine fs_lift (fun _ _ _ _ => W.lcmp hx hb d_Row_has_9) ?_
  refine fs_if (fun _ _ _ _ => lv_if_eq hx hb d_Row_has_10 rfl) ?_ ?_
  · refine fs_lift (fun _ _ _ _ => lv_iconst (v := 0) hx hb d_Row_has_17 (by decide)) ?_
    exact fs_Jzret S hr hk rfl d_Row_has_18
  · refine fs_lift (fun _ _ _ _ => lv_iconst (v := 1) hx hb d_Row_has_13 (by decide)) ?_
    refine fs_lift (fun _ _ _ _ => lv_goto hx hb d_Row_has_14 rfl) ?_
    exact fs_Jzret S hr hk rfl d_Row_has_18

theorem d_Table_sumOf_0 : decode prog_11_method_4_code 0 = .ok (.lconst 0, 1) := by decide +kernel
theorem d_Table_sumOf_1 : decode prog_11_method_4_code 1 = .ok (.lstore 6, 2) := by decide +kernel
theorem d_Table_sumOf_3 : decode prog_11_method_4_code 3 = .ok (.iconst 0, 1) := by decide +kernel
theorem d_Table_sumOf_4 : decode prog_11_method_4_code 4 = .ok (.istore 8, 2) := by decide +kernel
theorem d_Table_sumOf_6 : decode prog_11_method_4_code 6 = .ok (.iload 8, 2) := by decide +kernel
theorem d_Table_sumOf_8 : decode prog_11_method_4_code 8 = .ok (.aload_n 0, 1) := by decide +kernel
theorem d_Table_sumOf_9 : decode prog_11_method_4_code 9 = .ok (.getfield 12, 3) := by decide +kernel
theorem d_Table_sumOf_12 : decode prog_11_method_4_code 12 = .ok (.invokevirtual 25, 3) := by decide +kernel
theorem d_Table_sumOf_15 : decode prog_11_method_4_code 15 = .ok (.if_icmp .ge 76, 3) := by decide +kernel
theorem d_Table_sumOf_18 : decode prog_11_method_4_code 18 = .ok (.aload_n 0, 1) := by decide +kernel
theorem d_Table_sumOf_19 : decode prog_11_method_4_code 19 = .ok (.getfield 12, 3) := by decide +kernel
theorem d_Table_sumOf_22 : decode prog_11_method_4_code 22 = .ok (.iload 8, 2) := by decide +kernel
theorem d_Table_sumOf_24 : decode prog_11_method_4_code 24 = .ok (.invokevirtual 37, 3) := by decide +kernel
theorem d_Table_sumOf_27 : decode prog_11_method_4_code 27 = .ok (.checkcast 41, 3) := by decide +kernel
theorem d_Table_sumOf_30 : decode prog_11_method_4_code 30 = .ok (.astore 9, 2) := by decide +kernel
theorem d_Table_sumOf_32 : decode prog_11_method_4_code 32 = .ok (.aload 9, 2) := by decide +kernel
theorem d_Table_sumOf_34 : decode prog_11_method_4_code 34 = .ok (.getfield 43, 3) := by decide +kernel
theorem d_Table_sumOf_37 : decode prog_11_method_4_code 37 = .ok (.iload_n 1, 1) := by decide +kernel
theorem d_Table_sumOf_38 : decode prog_11_method_4_code 38 = .ok (.if_icmp .ne 47, 3) := by decide +kernel
theorem d_Table_sumOf_41 : decode prog_11_method_4_code 41 = .ok (.aload 9, 2) := by decide +kernel
theorem d_Table_sumOf_43 : decode prog_11_method_4_code 43 = .ok (.iload_n 2, 1) := by decide +kernel
theorem d_Table_sumOf_44 : decode prog_11_method_4_code 44 = .ok (.invokevirtual 47, 3) := by decide +kernel
theorem d_Table_sumOf_47 : decode prog_11_method_4_code 47 = .ok (.ifCond .eq 38, 3) := by decide +kernel
theorem d_Table_sumOf_50 : decode prog_11_method_4_code 50 = .ok (.aload 9, 2) := by decide +kernel
theorem d_Table_sumOf_52 : decode prog_11_method_4_code 52 = .ok (.getfield 50, 3) := by decide +kernel
theorem d_Table_sumOf_55 : decode prog_11_method_4_code 55 = .ok (.iload_n 2, 1) := by decide +kernel
theorem d_Table_sumOf_56 : decode prog_11_method_4_code 56 = .ok (.laload, 1) := by decide +kernel
theorem d_Table_sumOf_57 : decode prog_11_method_4_code 57 = .ok (.lload_n 3, 1) := by decide +kernel
theorem d_Table_sumOf_58 : decode prog_11_method_4_code 58 = .ok (.lcmp, 1) := by decide +kernel
theorem d_Table_sumOf_59 : decode prog_11_method_4_code 59 = .ok (.ifCond .ne 26, 3) := by decide +kernel
theorem d_Table_sumOf_62 : decode prog_11_method_4_code 62 = .ok (.aload 9, 2) := by decide +kernel
theorem d_Table_sumOf_64 : decode prog_11_method_4_code 64 = .ok (.iload 5, 2) := by decide +kernel
theorem d_Table_sumOf_66 : decode prog_11_method_4_code 66 = .ok (.invokevirtual 47, 3) := by decide +kernel
theorem d_Table_sumOf_69 : decode prog_11_method_4_code 69 = .ok (.ifCond .eq 16, 3) := by decide +kernel
theorem d_Table_sumOf_72 : decode prog_11_method_4_code 72 = .ok (.lload 6, 2) := by decide +kernel
theorem d_Table_sumOf_74 : decode prog_11_method_4_code 74 = .ok (.aload 9, 2) := by decide +kernel
theorem d_Table_sumOf_76 : decode prog_11_method_4_code 76 = .ok (.getfield 50, 3) := by decide +kernel
theorem d_Table_sumOf_79 : decode prog_11_method_4_code 79 = .ok (.iload 5, 2) := by decide +kernel
theorem d_Table_sumOf_81 : decode prog_11_method_4_code 81 = .ok (.laload, 1) := by decide +kernel
theorem d_Table_sumOf_82 : decode prog_11_method_4_code 82 = .ok (.ladd, 1) := by decide +kernel
theorem d_Table_sumOf_83 : decode prog_11_method_4_code 83 = .ok (.lstore 6, 2) := by decide +kernel
theorem d_Table_sumOf_85 : decode prog_11_method_4_code 85 = .ok (.iinc 8 1, 3) := by decide +kernel
theorem d_Table_sumOf_88 : decode prog_11_method_4_code 88 = .ok (.goto (-82), 3) := by decide +kernel
theorem d_Table_sumOf_91 : decode prog_11_method_4_code 91 = .ok (.lload 6, 2) := by decide +kernel
theorem d_Table_sumOf_93 : decode prog_11_method_4_code 93 = .ok (.lreturn, 1) := by decide +kernel
theorem q_Table_sumOf : (⟨"FlowShelf$Table", "sumOf", "(IIJI)J"⟩ : MethodName).cls ≠ "java/lang/invoke/MethodHandle" ∧ (⟨"FlowShelf$Table", "sumOf", "(IIJI)J"⟩ : MethodName).cls ≠ "java/lang/invoke/VarHandle" ∧ (parseMethodDescriptor (⟨"FlowShelf$Table", "sumOf", "(IIJI)J"⟩ : MethodName).desc).map (fun d => d.parameters.length) = some 4 := by decide +kernel
set_option maxHeartbeats 4000000 in
set_option maxRecDepth 100000 in
theorem m_Table_sumOf (X : fs_X) (l : Launch) (a0 : Nat) (x1 : Int32) (x2 : Int32) (x3 : Int64) (x4 : Int32) {r : Int64} {σ σF : fs_S} (h : (f_Table_sumOf a0 x1 x2 x3 x4).1 σ = some (r, σF)) : fs_Met X l ⟨"FlowShelf$Table", "sumOf", "(IIJI)J"⟩ (Cond.code ⟨"FlowShelf$Table", "sumOf", "(IIJI)J"⟩ prog_11_method_4_code 10 (some FieldType.long)) 3 64 [.ref a0, .int x1, .int x2, .long x3, .int x4] σ (fs_eJ r) σF := by
  refine fs_ofW (by decide) ?_
  intro p e s m args below meth c s₁ B hml hT hv
  obtain ⟨rfl, hw0, hG⟩ := hv
  have hx := B.exec
  have hb := B.bytes
  have hr := B.returns
  have hk := B.notSynchronized
  have S : CallFix p m c prog_11_method_4_code 10 s _ fs_ws "FlowShelf$Table" := ⟨B.exec, B.bytes, hml, findClass_of_methodNamed B.named, fun w hw => atoms_spec (ws := _ :: fs_ws) B.pre w (List.mem_cons_of_mem _ hw)⟩
  have hR := fs_hR (fr := 3) (lo := 64) ((f_Table_sumOf a0 x1 x2 x3 x4).2 _ _ _ h)
  have hl := lv_entry ([.ref a0, .int x1, .int x2, .long x3, .int x4]) (n := 10) (Nat.le_of_ble_eq_true rfl)
  rw [lg_entry_eq]
  generalize (lg_sl ([.ref a0, .int x1, .int x2, .long x3, .int x4]) ++ List.replicate (10 - (lg_sl ([.ref a0, .int x1, .int x2, .long x3, .int x4])).length) Slot.unset).toArray = ls at hl ⊢
  have hl : lv_has ls 10 [(0, .ref a0), (1, .int x1), (2, .int x2), (3, .long x3), (5, .int x4)] := hl
  refine (?_ : fs_J X p l e (fs_rm 3 64 σ σF) s m _ below meth c (fs_Q X below _ s (fs_eJ r) σ σF) r σ σF (f_Table_sumOf a0 x1 x2 x3 x4) (F0 m 0 ls [])) σ s.heap [] 0 0 h hw0 va_S.rf rfl rfl
  clear h hw0
  unfold f_Table_sumOf
  refine fs_lift (fun _ _ _ _ => lv_lconst (v := 0) hx hb d_Table_sumOf_0 (by decide)) ?_
  refine fs_liftL (fun _ _ _ _ => lv_lstore (lv' := [(6, .long 0), (0, .ref a0), (1, .int x1), (2, .int x2), (3, .long x3), (5, .int x4)]) hx hb d_Table_sumOf_1 hl (Nat.le_of_ble_eq_true rfl) rfl) (fun ls hl => ?_)
  refine fs_lift (fun _ _ _ _ => lv_iconst (v := 0) hx hb d_Table_sumOf_3 (by decide)) ?_
  refine fs_liftL (fun _ _ _ _ => lv_istore (lv' := [(8, .int 0), (6, .long 0), (0, .ref a0), (1, .int x1), (2, .int x2), (3, .long x3), (5, .int x4)]) hx hb d_Table_sumOf_4 hl (Nat.le_of_ble_eq_true rfl) rfl) (fun ls hl => ?_)
  refine fs_Jlp2 (nL := 10) (pc := 6) (rest := []) (I := fun (v1 : Int64) (v2 : Int32) => [(0, .ref a0), (1, .int x1), (2, .int x2), (3, .long x3), (5, .int x4), (6, .long v1), (8, .int v2)]) (fun k6 hk6 v1 v2 ls hl => ?_) _ _ _ _ (lv_sub hl [2, 3, 4, 5, 6, 1, 0] rfl)
  refine fs_lift (fun _ _ _ _ => lv_iload hx hb d_Table_sumOf_6 (lv_at hl 6 rfl)) ?_
  refine fs_lift (fun _ _ _ _ => lv_aload_n hx hb d_Table_sumOf_8 rfl (lv_at hl 0 rfl)) ?_
  refine fs_Jgr S hG fs_in6 rfl 0 (Nat.le_of_ble_eq_true rfl) tw_1_183 (fun _ h9 => h9) d_Table_sumOf_9 (fun r3 => ?_)
  refine fs_JV S hG hR rfl [] (enc := fun r => some (.int r)) (fun zr zs zt zh => m_ArrayList_size X l r3 zh) tw_4_193 tw_2_29 tw_2_30 tw_2_31 tw_1_5 q_ArrayList_size ⟨(Nat.le_of_ble_eq_true rfl), (Nat.le_of_ble_eq_true rfl)⟩ hl.1 rfl (Nat.le_of_ble_eq_true rfl) d_Table_sumOf_12 (fun v4 => ?_)
  refine fs_Jeq (g2 := F0 m 15 ls [.int v4, .int v2]) rfl ?_
  refine fs_if (fun _ _ _ _ => lv_icmp_ge hx hb d_Table_sumOf_15 rfl) ?_ ?_
  · refine fs_lift (fun _ _ _ _ => lv_lload hx hb d_Table_sumOf_91 (lv_at hl 5 rfl)) ?_
    exact fs_Jlret S hr hk rfl d_Table_sumOf_93
  · refine fs_lift (fun _ _ _ _ => lv_aload_n hx hb d_Table_sumOf_18 rfl (lv_at hl 0 rfl)) ?_
    refine fs_Jgr S hG fs_in6 rfl 0 (Nat.le_of_ble_eq_true rfl) tw_1_183 (fun _ h9 => h9) d_Table_sumOf_19 (fun r5 => ?_)
    refine fs_lift (fun _ _ _ _ => lv_iload hx hb d_Table_sumOf_22 (lv_at hl 6 rfl)) ?_
    refine fs_JV S hG hR rfl [.int v2] (enc := fun r => some (.ref r)) (fun zr zs zt zh => m_ArrayList_get X l r5 v2 zh) tw_5_114 tw_2_33 tw_2_34 tw_2_35 tw_1_5 q_ArrayList_get ⟨(Nat.le_of_ble_eq_true rfl), (Nat.le_of_ble_eq_true rfl)⟩ hl.1 rfl (Nat.le_of_ble_eq_true rfl) d_Table_sumOf_24 (fun r6 => ?_)
    refine fs_Jeq (g2 := F0 m 27 ls [.ref r6]) rfl ?_
    refine fs_Jck S hG rfl tw_5_115 tb_7_83 d_Table_sumOf_27 ?_
    refine fs_liftL (fun _ _ _ _ => lv_astore (lv' := [(9, .ref r6), (0, .ref a0), (1, .int x1), (2, .int x2), (3, .long x3), (5, .int x4), (6, .long v1), (8, .int v2)]) hx hb d_Table_sumOf_30 hl (Nat.le_of_ble_eq_true rfl) rfl) (fun ls hl => ?_)
    refine fs_lift (fun _ _ _ _ => lv_aload hx hb d_Table_sumOf_32 (lv_at hl 0 rfl)) ?_
    refine fs_Jgi S hG fs_in11 rfl 0 (Nat.le_of_ble_eq_true rfl) tw_5_29 (fun _ h9 => h9) d_Table_sumOf_34 (fun v7 => ?_)
    refine fs_lift (fun _ _ _ _ => lv_iload_n hx hb d_Table_sumOf_37 rfl (lv_at hl 2 rfl)) ?_
    refine fs_Jlet1 (nL := 10) (pj := 85) (I := fun (v15 : Int64) => [(0, .ref a0), (1, .int x1), (2, .int x2), (3, .long x3), (5, .int x4), (6, .long v15), (8, .int v2)]) (st := fun (v15 : Int64) => []) (fun v15 ls hl => ?_) (fun j85 hj85 => ?_)
    · refine fs_Jnm (fun v16 hv9 => ?_)
      refine fs_liftL (fun _ _ _ _ => lv_iinc (k := 6) (v := v16) (lv' := [(8, .int v16), (0, .ref a0), (1, .int x1), (2, .int x2), (3, .long x3), (5, .int x4), (6, .long v15)]) hx hb d_Table_sumOf_85 hl rfl (by rw [hv9]; rfl) (Nat.le_of_ble_eq_true rfl) rfl) (fun ls hl => ?_)
      refine fs_lift (fun _ _ _ _ => lv_goto hx hb d_Table_sumOf_88 rfl) ?_
      exact hk6 v15 v16 ls (lv_sub hl [1, 2, 3, 4, 5, 6, 0] rfl)
    · refine fs_ifn (fun _ _ _ _ => lv_icmp_ne hx hb d_Table_sumOf_38 rfl) ?_ ?_
      · refine fs_lift (fun _ _ _ _ => lv_aload hx hb d_Table_sumOf_41 (lv_at hl 0 rfl)) ?_
        refine fs_lift (fun _ _ _ _ => lv_iload_n hx hb d_Table_sumOf_43 rfl (lv_at hl 3 rfl)) ?_
        refine fs_JV S hG hR rfl [.int x2] (enc := fun r => some (.int r)) (fun zr zs zt zh => m_Row_has X l r6 x2 zh) tw_5_116 tw_5_117 tw_5_118 tw_5_119 tw_1_28 q_Row_has ⟨(Nat.le_of_ble_eq_true rfl), (Nat.le_of_ble_eq_true rfl)⟩ hl.1 rfl (Nat.le_of_ble_eq_true rfl) d_Table_sumOf_44 (fun v8 => ?_)
        refine fs_Jeq (g2 := F0 m 47 ls [.int v8]) rfl ?_
        refine fs_if (fun _ _ _ _ => lv_if_eq hx hb d_Table_sumOf_47 rfl) ?_ ?_
        · exact hj85 v1 ls (lv_sub hl [1, 2, 3, 4, 5, 6, 7] rfl)
        · refine fs_lift (fun _ _ _ _ => lv_aload hx hb d_Table_sumOf_50 (lv_at hl 0 rfl)) ?_
          refine fs_Jgr S hG fs_in11 rfl 1 (Nat.le_of_ble_eq_true rfl) tw_5_32 (fun _ h9 => h9) d_Table_sumOf_52 (fun r9 => ?_)
          refine fs_lift (fun _ _ _ _ => lv_iload_n hx hb d_Table_sumOf_55 rfl (lv_at hl 3 rfl)) ?_
          refine fs_Jaj S hG d_Table_sumOf_56 (fun v10 => ?_)
          refine fs_lift (fun _ _ _ _ => lv_lload_n hx hb d_Table_sumOf_57 rfl (lv_at hl 4 rfl)) ?_
          refine fs_lift (fun _ _ _ _ => W.lcmp hx hb d_Table_sumOf_58) ?_
          refine fs_ifn (fun _ _ _ _ => lv_if_ne hx hb d_Table_sumOf_59 rfl) ?_ ?_
          · refine fs_lift (fun _ _ _ _ => lv_aload hx hb d_Table_sumOf_62 (lv_at hl 0 rfl)) ?_
            refine fs_lift (fun _ _ _ _ => lv_iload hx hb d_Table_sumOf_64 (lv_at hl 5 rfl)) ?_
            refine fs_JV S hG hR rfl [.int x4] (enc := fun r => some (.int r)) (fun zr zs zt zh => m_Row_has X l r6 x4 zh) tw_5_116 tw_5_117 tw_5_118 tw_5_119 tw_1_28 q_Row_has ⟨(Nat.le_of_ble_eq_true rfl), (Nat.le_of_ble_eq_true rfl)⟩ hl.1 rfl (Nat.le_of_ble_eq_true rfl) d_Table_sumOf_66 (fun v11 => ?_)
            refine fs_Jeq (g2 := F0 m 69 ls [.int v11]) rfl ?_
            refine fs_if (fun _ _ _ _ => lv_if_eq hx hb d_Table_sumOf_69 rfl) ?_ ?_
            · exact hj85 v1 ls (lv_sub hl [1, 2, 3, 4, 5, 6, 7] rfl)
            · refine fs_lift (fun _ _ _ _ => lv_lload hx hb d_Table_sumOf_72 (lv_at hl 6 rfl)) ?_
              refine fs_lift (fun _ _ _ _ => lv_aload hx hb d_Table_sumOf_74 (lv_at hl 0 rfl)) ?_
              refine fs_Jgr S hG fs_in11 rfl 1 (Nat.le_of_ble_eq_true rfl) tw_5_32 (fun _ h9 => h9) d_Table_sumOf_76 (fun r12 => ?_)
              refine fs_lift (fun _ _ _ _ => lv_iload hx hb d_Table_sumOf_79 (lv_at hl 5 rfl)) ?_
              refine fs_Jaj S hG d_Table_sumOf_81 (fun v13 => ?_)
              refine fs_lift (fun _ _ _ _ => lv_ladd hx hb d_Table_sumOf_82) ?_
              refine fs_Jnj (fun v14 => ?_)
              refine fs_liftL (fun _ _ _ _ => lv_lstore (lv' := [(6, .long v14), (9, .ref r6), (0, .ref a0), (1, .int x1), (2, .int x2), (3, .long x3), (5, .int x4), (8, .int v2)]) hx hb d_Table_sumOf_83 hl (Nat.le_of_ble_eq_true rfl) rfl) (fun ls hl => ?_)
              exact hj85 v14 ls (lv_sub hl [2, 3, 4, 5, 6, 0, 7] rfl)
          · exact hj85 v1 ls (lv_sub hl [1, 2, 3, 4, 5, 6, 7] rfl)
      · exact hj85 v1 ls (lv_sub hl [1, 2, 3, 4, 5, 6, 7] rfl)

theorem d_Arrays_fill_1_0 : decode prog_30_method_103_code 0 = .ok (.iconst 0, 1) := by decide +kernel
theorem d_Arrays_fill_1_1 : decode prog_30_method_103_code 1 = .ok (.istore_n 2, 1) := by decide +kernel
theorem d_Arrays_fill_1_2 : decode prog_30_method_103_code 2 = .ok (.aload_n 0, 1) := by decide +kernel
theorem d_Arrays_fill_1_3 : decode prog_30_method_103_code 3 = .ok (.arraylength, 1) := by decide +kernel
theorem d_Arrays_fill_1_4 : decode prog_30_method_103_code 4 = .ok (.istore_n 3, 1) := by decide +kernel
theorem d_Arrays_fill_1_5 : decode prog_30_method_103_code 5 = .ok (.iload_n 2, 1) := by decide +kernel
theorem d_Arrays_fill_1_6 : decode prog_30_method_103_code 6 = .ok (.iload_n 3, 1) := by decide +kernel
theorem d_Arrays_fill_1_7 : decode prog_30_method_103_code 7 = .ok (.if_icmp .ge 13, 3) := by decide +kernel
theorem d_Arrays_fill_1_10 : decode prog_30_method_103_code 10 = .ok (.aload_n 0, 1) := by decide +kernel
theorem d_Arrays_fill_1_11 : decode prog_30_method_103_code 11 = .ok (.iload_n 2, 1) := by decide +kernel
theorem d_Arrays_fill_1_12 : decode prog_30_method_103_code 12 = .ok (.iload_n 1, 1) := by decide +kernel
theorem d_Arrays_fill_1_13 : decode prog_30_method_103_code 13 = .ok (.iastore, 1) := by decide +kernel
theorem d_Arrays_fill_1_14 : decode prog_30_method_103_code 14 = .ok (.iinc 2 1, 3) := by decide +kernel
theorem d_Arrays_fill_1_17 : decode prog_30_method_103_code 17 = .ok (.goto (-12), 3) := by decide +kernel
theorem d_Arrays_fill_1_20 : decode prog_30_method_103_code 20 = .ok (.return_, 1) := by decide +kernel
theorem q_Arrays_fill_1 : (⟨"java/util/Arrays", "fill", "([II)V"⟩ : MethodName).cls ≠ "java/lang/invoke/MethodHandle" ∧ (⟨"java/util/Arrays", "fill", "([II)V"⟩ : MethodName).cls ≠ "java/lang/invoke/VarHandle" ∧ (parseMethodDescriptor (⟨"java/util/Arrays", "fill", "([II)V"⟩ : MethodName).desc).map (fun d => d.parameters.length) = some 2 := by decide +kernel
set_option maxHeartbeats 4000000 in
set_option maxRecDepth 100000 in
theorem m_Arrays_fill_1 (X : fs_X) (l : Launch) (a0 : Nat) (x1 : Int32) {r : Unit} {σ σF : fs_S} (h : (f_Arrays_fill_1 a0 x1).1 σ = some (r, σF)) : fs_Met X l ⟨"java/util/Arrays", "fill", "([II)V"⟩ (Cond.code ⟨"java/util/Arrays", "fill", "([II)V"⟩ prog_30_method_103_code 4 none) 0 0 [.ref a0, .int x1] σ (fs_eV r) σF := by
  refine fs_ofW (by decide) ?_
  intro p e s m args below meth c s₁ B hml hT hv
  obtain ⟨rfl, hw0, hG⟩ := hv
  have hx := B.exec
  have hb := B.bytes
  have hr := B.returns
  have hk := B.notSynchronized
  have S : CallFix p m c prog_30_method_103_code 4 s _ fs_ws "java/util/Arrays" := ⟨B.exec, B.bytes, hml, findClass_of_methodNamed B.named, fun w hw => atoms_spec (ws := _ :: fs_ws) B.pre w (List.mem_cons_of_mem _ hw)⟩
  have hR := fs_hR (fr := 0) (lo := 0) ((f_Arrays_fill_1 a0 x1).2 _ _ _ h)
  have hl := lv_entry ([.ref a0, .int x1]) (n := 4) (Nat.le_of_ble_eq_true rfl)
  rw [lg_entry_eq]
  generalize (lg_sl ([.ref a0, .int x1]) ++ List.replicate (4 - (lg_sl ([.ref a0, .int x1])).length) Slot.unset).toArray = ls at hl ⊢
  have hl : lv_has ls 4 [(0, .ref a0), (1, .int x1)] := hl
  refine (?_ : fs_J X p l e (fs_rm 0 0 σ σF) s m _ below meth c (fs_Q X below _ s (fs_eV r) σ σF) r σ σF (f_Arrays_fill_1 a0 x1) (F0 m 0 ls [])) σ s.heap [] 0 0 h hw0 va_S.rf rfl rfl
  clear h hw0
  unfold f_Arrays_fill_1
  refine fs_lift (fun _ _ _ _ => lv_iconst (v := 0) hx hb d_Arrays_fill_1_0 (by decide)) ?_
  refine fs_liftL (fun _ _ _ _ => lv_istore_n (lv' := [(2, .int 0), (0, .ref a0), (1, .int x1)]) hx hb d_Arrays_fill_1_1 rfl hl (Nat.le_of_ble_eq_true rfl) rfl) (fun ls hl => ?_)
  refine fs_lift (fun _ _ _ _ => lv_aload_n hx hb d_Arrays_fill_1_2 rfl (lv_at hl 1 rfl)) ?_
  refine fs_Jal S hG d_Arrays_fill_1_3 (fun v1 => ?_)
  refine fs_liftL (fun _ _ _ _ => lv_istore_n (lv' := [(3, .int v1), (2, .int 0), (0, .ref a0), (1, .int x1)]) hx hb d_Arrays_fill_1_4 rfl hl (Nat.le_of_ble_eq_true rfl) rfl) (fun ls hl => ?_)
  refine fs_Jlp1 (nL := 4) (pc := 5) (rest := []) (I := fun (v2 : Int32) => [(0, .ref a0), (1, .int x1), (2, .int v2), (3, .int v1)]) (fun k5 hk5 v2 ls hl => ?_) _ _ _ (lv_sub hl [2, 3, 1, 0] rfl)
  refine fs_lift (fun _ _ _ _ => lv_iload_n hx hb d_Arrays_fill_1_5 rfl (lv_at hl 2 rfl)) ?_
  refine fs_lift (fun _ _ _ _ => lv_iload_n hx hb d_Arrays_fill_1_6 rfl (lv_at hl 3 rfl)) ?_
  refine fs_if (fun _ _ _ _ => lv_icmp_ge hx hb d_Arrays_fill_1_7 rfl) ?_ ?_
  · exact fs_Jvret S hr hk rfl d_Arrays_fill_1_20
  · refine fs_lift (fun _ _ _ _ => lv_aload_n hx hb d_Arrays_fill_1_10 rfl (lv_at hl 0 rfl)) ?_
    refine fs_lift (fun _ _ _ _ => lv_iload_n hx hb d_Arrays_fill_1_11 rfl (lv_at hl 2 rfl)) ?_
    refine fs_lift (fun _ _ _ _ => lv_iload_n hx hb d_Arrays_fill_1_12 rfl (lv_at hl 1 rfl)) ?_
    refine fs_Jsi S hG d_Arrays_fill_1_13 ?_
    refine fs_Jnm (fun v3 hv9 => ?_)
    refine fs_liftL (fun _ _ _ _ => lv_iinc (k := 2) (v := v3) (lv' := [(2, .int v3), (0, .ref a0), (1, .int x1), (3, .int v1)]) hx hb d_Arrays_fill_1_14 hl rfl (by rw [hv9]; rfl) (Nat.le_of_ble_eq_true rfl) rfl) (fun ls hl => ?_)
    refine fs_lift (fun _ _ _ _ => lv_goto hx hb d_Arrays_fill_1_17 rfl) ?_
    exact hk5 v3 ls (lv_sub hl [1, 2, 0, 3] rfl)

theorem d_Row_canBePaired_0 : decode prog_9_method_3_code 0 = .ok (.aload_n 0, 1) := by decide +kernel
theorem d_Row_canBePaired_1 : decode prog_9_method_3_code 1 = .ok (.iconst 0, 1) := by decide +kernel
theorem d_Row_canBePaired_2 : decode prog_9_method_3_code 2 = .ok (.invokevirtual 27, 3) := by decide +kernel
theorem d_Row_canBePaired_5 : decode prog_9_method_3_code 5 = .ok (.ifCond .eq 31, 3) := by decide +kernel
theorem d_Row_canBePaired_8 : decode prog_9_method_3_code 8 = .ok (.aload_n 0, 1) := by decide +kernel
theorem d_Row_canBePaired_9 : decode prog_9_method_3_code 9 = .ok (.iconst 1, 1) := by decide +kernel
theorem d_Row_canBePaired_10 : decode prog_9_method_3_code 10 = .ok (.invokevirtual 27, 3) := by decide +kernel
theorem d_Row_canBePaired_13 : decode prog_9_method_3_code 13 = .ok (.ifCond .eq 23, 3) := by decide +kernel
theorem d_Row_canBePaired_16 : decode prog_9_method_3_code 16 = .ok (.aload_n 0, 1) := by decide +kernel
theorem d_Row_canBePaired_17 : decode prog_9_method_3_code 17 = .ok (.iconst 2, 1) := by decide +kernel
theorem d_Row_canBePaired_18 : decode prog_9_method_3_code 18 = .ok (.invokevirtual 27, 3) := by decide +kernel
theorem d_Row_canBePaired_21 : decode prog_9_method_3_code 21 = .ok (.ifCond .eq 15, 3) := by decide +kernel
theorem d_Row_canBePaired_24 : decode prog_9_method_3_code 24 = .ok (.aload_n 0, 1) := by decide +kernel
theorem d_Row_canBePaired_25 : decode prog_9_method_3_code 25 = .ok (.iconst 5, 1) := by decide +kernel
theorem d_Row_canBePaired_26 : decode prog_9_method_3_code 26 = .ok (.invokevirtual 27, 3) := by decide +kernel
theorem d_Row_canBePaired_29 : decode prog_9_method_3_code 29 = .ok (.ifCond .eq 7, 3) := by decide +kernel
theorem d_Row_canBePaired_32 : decode prog_9_method_3_code 32 = .ok (.iconst 1, 1) := by decide +kernel
theorem d_Row_canBePaired_33 : decode prog_9_method_3_code 33 = .ok (.goto 4, 3) := by decide +kernel
theorem d_Row_canBePaired_36 : decode prog_9_method_3_code 36 = .ok (.iconst 0, 1) := by decide +kernel
theorem d_Row_canBePaired_37 : decode prog_9_method_3_code 37 = .ok (.ireturn, 1) := by decide +kernel
theorem q_Row_canBePaired : (⟨"FlowShelf$Row", "canBePaired", "()Z"⟩ : MethodName).cls ≠ "java/lang/invoke/MethodHandle" ∧ (⟨"FlowShelf$Row", "canBePaired", "()Z"⟩ : MethodName).cls ≠ "java/lang/invoke/VarHandle" ∧ (parseMethodDescriptor (⟨"FlowShelf$Row", "canBePaired", "()Z"⟩ : MethodName).desc).map (fun d => d.parameters.length) = some 0 := by decide +kernel
set_option maxHeartbeats 4000000 in
set_option maxRecDepth 100000 in
theorem m_Row_canBePaired (X : fs_X) (l : Launch) (a0 : Nat) {r : Int32} {σ σF : fs_S} (h : (f_Row_canBePaired a0).1 σ = some (r, σF)) : fs_Met X l ⟨"FlowShelf$Row", "canBePaired", "()Z"⟩ (Cond.code ⟨"FlowShelf$Row", "canBePaired", "()Z"⟩ prog_9_method_3_code 1 (some FieldType.boolean)) 1 21 [.ref a0] σ (fs_eI r) σF := by
  refine fs_ofW (by decide) ?_
  intro p e s m args below meth c s₁ B hml hT hv
  obtain ⟨rfl, hw0, hG⟩ := hv
  have hx := B.exec
  have hb := B.bytes
  have hr := B.returns
  have hk := B.notSynchronized
  have S : CallFix p m c prog_9_method_3_code 1 s _ fs_ws "FlowShelf$Row" := ⟨B.exec, B.bytes, hml, findClass_of_methodNamed B.named, fun w hw => atoms_spec (ws := _ :: fs_ws) B.pre w (List.mem_cons_of_mem _ hw)⟩
  have hR := fs_hR (fr := 1) (lo := 21) ((f_Row_canBePaired a0).2 _ _ _ h)
  have hl := lv_entry ([.ref a0]) (n := 1) (Nat.le_of_ble_eq_true rfl)
  rw [lg_entry_eq]
  generalize (lg_sl ([.ref a0]) ++ List.replicate (1 - (lg_sl ([.ref a0])).length) Slot.unset).toArray = ls at hl ⊢
  have hl : lv_has ls 1 [(0, .ref a0)] := hl
  refine (?_ : fs_J X p l e (fs_rm 1 21 σ σF) s m _ below meth c (fs_Q X below _ s (fs_eI r) σ σF) r σ σF (f_Row_canBePaired a0) (F0 m 0 ls [])) σ s.heap [] 0 0 h hw0 va_S.rf rfl rfl
  clear h hw0
  unfold f_Row_canBePaired
  refine fs_lift (fun _ _ _ _ => lv_aload_n hx hb d_Row_canBePaired_0 rfl (lv_at hl 0 rfl)) ?_
  refine fs_lift (fun _ _ _ _ => lv_iconst (v := 0) hx hb d_Row_canBePaired_1 (by decide)) ?_
  refine fs_JV S hG hR rfl [.int 0] (enc := fun r => some (.int r)) (fun zr zs zt zh => m_Row_has X l a0 0 zh) tw_5_146 tw_5_117 tw_5_118 tw_5_119 tw_1_28 q_Row_has ⟨(Nat.le_of_ble_eq_true rfl), (Nat.le_of_ble_eq_true rfl)⟩ hl.1 rfl (Nat.le_of_ble_eq_true rfl) d_Row_canBePaired_2 (fun v1 => ?_)
  refine fs_Jeq (g2 := F0 m 5 ls [.int v1]) rfl ?_
  refine fs_if (fun _ _ _ _ => lv_if_eq hx hb d_Row_canBePaired_5 rfl) ?_ ?_
  · refine fs_lift (fun _ _ _ _ => lv_iconst (v := 0) hx hb d_Row_canBePaired_36 (by decide)) ?_
    exact fs_Jzret S hr hk rfl d_Row_canBePaired_37
  · refine fs_lift (fun _ _ _ _ => lv_aload_n hx hb d_Row_canBePaired_8 rfl (lv_at hl 0 rfl)) ?_
    refine fs_lift (fun _ _ _ _ => lv_iconst (v := 1) hx hb d_Row_canBePaired_9 (by decide)) ?_
    refine fs_JV S hG hR rfl [.int 1] (enc := fun r => some (.int r)) (fun zr zs zt zh => m_Row_has X l a0 1 zh) tw_5_146 tw_5_117 tw_5_118 tw_5_119 tw_1_28 q_Row_has ⟨(Nat.le_of_ble_eq_true rfl), (Nat.le_of_ble_eq_true rfl)⟩ hl.1 rfl (Nat.le_of_ble_eq_true rfl) d_Row_canBePaired_10 (fun v2 => ?_)
    refine fs_Jeq (g2 := F0 m 13 ls [.int v2]) rfl ?_
    refine fs_if (fun _ _ _ _ => lv_if_eq hx hb d_Row_canBePaired_13 rfl) ?_ ?_
    · refine fs_lift (fun _ _ _ _ => lv_iconst (v := 0) hx hb d_Row_canBePaired_36 (by decide)) ?_
      exact fs_Jzret S hr hk rfl d_Row_canBePaired_37
    · refine fs_lift (fun _ _ _ _ => lv_aload_n hx hb d_Row_canBePaired_16 rfl (lv_at hl 0 rfl)) ?_
      refine fs_lift (fun _ _ _ _ => lv_iconst (v := 2) hx hb d_Row_canBePaired_17 (by decide)) ?_
      refine fs_JV S hG hR rfl [.int 2] (enc := fun r => some (.int r)) (fun zr zs zt zh => m_Row_has X l a0 2 zh) tw_5_146 tw_5_117 tw_5_118 tw_5_119 tw_1_28 q_Row_has ⟨(Nat.le_of_ble_eq_true rfl), (Nat.le_of_ble_eq_true rfl)⟩ hl.1 rfl (Nat.le_of_ble_eq_true rfl) d_Row_canBePaired_18 (fun v3 => ?_)
      refine fs_Jeq (g2 := F0 m 21 ls [.int v3]) rfl ?_
      refine fs_if (fun _ _ _ _ => lv_if_eq hx hb d_Row_canBePaired_21 rfl) ?_ ?_
      · refine fs_lift (fun _ _ _ _ => lv_iconst (v := 0) hx hb d_Row_canBePaired_36 (by decide)) ?_
        exact fs_Jzret S hr hk rfl d_Row_canBePaired_37
      · refine fs_lift (fun _ _ _ _ => lv_aload_n hx hb d_Row_canBePaired_24 rfl (lv_at hl 0 rfl)) ?_
        refine fs_lift (fun _ _ _ _ => lv_iconst (v := 5) hx hb d_Row_canBePaired_25 (by decide)) ?_
        refine fs_JV S hG hR rfl [.int 5] (enc := fun r => some (.int r)) (fun zr zs zt zh => m_Row_has X l a0 5 zh) tw_5_146 tw_5_117 tw_5_118 tw_5_119 tw_1_28 q_Row_has ⟨(Nat.le_of_ble_eq_true rfl), (Nat.le_of_ble_eq_true rfl)⟩ hl.1 rfl (Nat.le_of_ble_eq_true rfl) d_Row_canBePaired_26 (fun v4 => ?_)
        refine fs_Jeq (g2 := F0 m 29 ls [.int v4]) rfl ?_
        refine fs_if (fun _ _ _ _ => lv_if_eq hx hb d_Row_canBePaired_29 rfl) ?_ ?_
        · refine fs_lift (fun _ _ _ _ => lv_iconst (v := 0) hx hb d_Row_canBePaired_36 (by decide)) ?_
          exact fs_Jzret S hr hk rfl d_Row_canBePaired_37
        · refine fs_lift (fun _ _ _ _ => lv_iconst (v := 1) hx hb d_Row_canBePaired_32 (by decide)) ?_
          refine fs_lift (fun _ _ _ _ => lv_goto hx hb d_Row_canBePaired_33 rfl) ?_
          exact fs_Jzret S hr hk rfl d_Row_canBePaired_37

theorem d_Table_insertInOrder_0 : decode prog_11_method_8_code 0 = .ok (.aload_n 0, 1) := by decide +kernel
theorem d_Table_insertInOrder_1 : decode prog_11_method_8_code 1 = .ok (.getfield 69, 3) := by decide +kernel
theorem d_Table_insertInOrder_4 : decode prog_11_method_8_code 4 = .ok (.istore_n 2, 1) := by decide +kernel
theorem d_Table_insertInOrder_5 : decode prog_11_method_8_code 5 = .ok (.iload_n 2, 1) := by decide +kernel
theorem d_Table_insertInOrder_6 : decode prog_11_method_8_code 6 = .ok (.ifCond .le 66, 3) := by decide +kernel
theorem d_Table_insertInOrder_9 : decode prog_11_method_8_code 9 = .ok (.aload_n 0, 1) := by decide +kernel
theorem d_Table_insertInOrder_10 : decode prog_11_method_8_code 10 = .ok (.getfield 12, 3) := by decide +kernel
theorem d_Table_insertInOrder_13 : decode prog_11_method_8_code 13 = .ok (.aload_n 0, 1) := by decide +kernel
theorem d_Table_insertInOrder_14 : decode prog_11_method_8_code 14 = .ok (.getfield 22, 3) := by decide +kernel
theorem d_Table_insertInOrder_17 : decode prog_11_method_8_code 17 = .ok (.iload_n 2, 1) := by decide +kernel
theorem d_Table_insertInOrder_18 : decode prog_11_method_8_code 18 = .ok (.iconst 1, 1) := by decide +kernel
theorem d_Table_insertInOrder_19 : decode prog_11_method_8_code 19 = .ok (.isub, 1) := by decide +kernel
theorem d_Table_insertInOrder_20 : decode prog_11_method_8_code 20 = .ok (.iaload, 1) := by decide +kernel
theorem d_Table_insertInOrder_21 : decode prog_11_method_8_code 21 = .ok (.invokevirtual 37, 3) := by decide +kernel
theorem d_Table_insertInOrder_24 : decode prog_11_method_8_code 24 = .ok (.checkcast 41, 3) := by decide +kernel
theorem d_Table_insertInOrder_27 : decode prog_11_method_8_code 27 = .ok (.getfield 50, 3) := by decide +kernel
theorem d_Table_insertInOrder_30 : decode prog_11_method_8_code 30 = .ok (.iconst 5, 1) := by decide +kernel
theorem d_Table_insertInOrder_31 : decode prog_11_method_8_code 31 = .ok (.laload, 1) := by decide +kernel
theorem d_Table_insertInOrder_32 : decode prog_11_method_8_code 32 = .ok (.aload_n 0, 1) := by decide +kernel
theorem d_Table_insertInOrder_33 : decode prog_11_method_8_code 33 = .ok (.getfield 12, 3) := by decide +kernel
theorem d_Table_insertInOrder_36 : decode prog_11_method_8_code 36 = .ok (.iload_n 1, 1) := by decide +kernel
theorem d_Table_insertInOrder_37 : decode prog_11_method_8_code 37 = .ok (.invokevirtual 37, 3) := by decide +kernel
theorem d_Table_insertInOrder_40 : decode prog_11_method_8_code 40 = .ok (.checkcast 41, 3) := by decide +kernel
theorem d_Table_insertInOrder_43 : decode prog_11_method_8_code 43 = .ok (.getfield 50, 3) := by decide +kernel
theorem d_Table_insertInOrder_46 : decode prog_11_method_8_code 46 = .ok (.iconst 5, 1) := by decide +kernel
theorem d_Table_insertInOrder_47 : decode prog_11_method_8_code 47 = .ok (.laload, 1) := by decide +kernel
theorem d_Table_insertInOrder_48 : decode prog_11_method_8_code 48 = .ok (.lcmp, 1) := by decide +kernel
theorem d_Table_insertInOrder_49 : decode prog_11_method_8_code 49 = .ok (.ifCond .le 23, 3) := by decide +kernel
theorem d_Table_insertInOrder_52 : decode prog_11_method_8_code 52 = .ok (.aload_n 0, 1) := by decide +kernel
theorem d_Table_insertInOrder_53 : decode prog_11_method_8_code 53 = .ok (.getfield 22, 3) := by decide +kernel
theorem d_Table_insertInOrder_56 : decode prog_11_method_8_code 56 = .ok (.iload_n 2, 1) := by decide +kernel
theorem d_Table_insertInOrder_57 : decode prog_11_method_8_code 57 = .ok (.aload_n 0, 1) := by decide +kernel
theorem d_Table_insertInOrder_58 : decode prog_11_method_8_code 58 = .ok (.getfield 22, 3) := by decide +kernel
theorem d_Table_insertInOrder_61 : decode prog_11_method_8_code 61 = .ok (.iload_n 2, 1) := by decide +kernel
theorem d_Table_insertInOrder_62 : decode prog_11_method_8_code 62 = .ok (.iconst 1, 1) := by decide +kernel
theorem d_Table_insertInOrder_63 : decode prog_11_method_8_code 63 = .ok (.isub, 1) := by decide +kernel
theorem d_Table_insertInOrder_64 : decode prog_11_method_8_code 64 = .ok (.iaload, 1) := by decide +kernel
theorem d_Table_insertInOrder_65 : decode prog_11_method_8_code 65 = .ok (.iastore, 1) := by decide +kernel
theorem d_Table_insertInOrder_66 : decode prog_11_method_8_code 66 = .ok (.iinc 2 (-1), 3) := by decide +kernel
theorem d_Table_insertInOrder_69 : decode prog_11_method_8_code 69 = .ok (.goto (-64), 3) := by decide +kernel
theorem d_Table_insertInOrder_72 : decode prog_11_method_8_code 72 = .ok (.aload_n 0, 1) := by decide +kernel
theorem d_Table_insertInOrder_73 : decode prog_11_method_8_code 73 = .ok (.getfield 22, 3) := by decide +kernel
theorem d_Table_insertInOrder_76 : decode prog_11_method_8_code 76 = .ok (.iload_n 2, 1) := by decide +kernel
theorem d_Table_insertInOrder_77 : decode prog_11_method_8_code 77 = .ok (.iload_n 1, 1) := by decide +kernel
theorem d_Table_insertInOrder_78 : decode prog_11_method_8_code 78 = .ok (.iastore, 1) := by decide +kernel
theorem d_Table_insertInOrder_79 : decode prog_11_method_8_code 79 = .ok (.aload_n 0, 1) := by decide +kernel
theorem d_Table_insertInOrder_80 : decode prog_11_method_8_code 80 = .ok (.dup, 1) := by decide +kernel
theorem d_Table_insertInOrder_81 : decode prog_11_method_8_code 81 = .ok (.getfield 69, 3) := by decide +kernel
theorem d_Table_insertInOrder_84 : decode prog_11_method_8_code 84 = .ok (.iconst 1, 1) := by decide +kernel
theorem d_Table_insertInOrder_85 : decode prog_11_method_8_code 85 = .ok (.iadd, 1) := by decide +kernel
theorem d_Table_insertInOrder_86 : decode prog_11_method_8_code 86 = .ok (.putfield 69, 3) := by decide +kernel
theorem d_Table_insertInOrder_89 : decode prog_11_method_8_code 89 = .ok (.return_, 1) := by decide +kernel
theorem q_Table_insertInOrder : (⟨"FlowShelf$Table", "insertInOrder", "(I)V"⟩ : MethodName).cls ≠ "java/lang/invoke/MethodHandle" ∧ (⟨"FlowShelf$Table", "insertInOrder", "(I)V"⟩ : MethodName).cls ≠ "java/lang/invoke/VarHandle" ∧ (parseMethodDescriptor (⟨"FlowShelf$Table", "insertInOrder", "(I)V"⟩ : MethodName).desc).map (fun d => d.parameters.length) = some 1 := by decide +kernel
set_option maxHeartbeats 4000000 in
set_option maxRecDepth 100000 in
theorem m_Table_insertInOrder (X : fs_X) (l : Launch) (a0 : Nat) (x1 : Int32) {r : Unit} {σ σF : fs_S} (h : (f_Table_insertInOrder a0 x1).1 σ = some (r, σF)) : fs_Met X l ⟨"FlowShelf$Table", "insertInOrder", "(I)V"⟩ (Cond.code ⟨"FlowShelf$Table", "insertInOrder", "(I)V"⟩ prog_11_method_8_code 3 none) 3 64 [.ref a0, .int x1] σ (fs_eV r) σF := by
  refine fs_ofW (by decide) ?_
  intro p e s m args below meth c s₁ B hml hT hv
  obtain ⟨rfl, hw0, hG⟩ := hv
  have hx := B.exec
  have hb := B.bytes
  have hr := B.returns
  have hk := B.notSynchronized
  have S : CallFix p m c prog_11_method_8_code 3 s _ fs_ws "FlowShelf$Table" := ⟨B.exec, B.bytes, hml, findClass_of_methodNamed B.named, fun w hw => atoms_spec (ws := _ :: fs_ws) B.pre w (List.mem_cons_of_mem _ hw)⟩
  have hR := fs_hR (fr := 3) (lo := 64) ((f_Table_insertInOrder a0 x1).2 _ _ _ h)
  have hl := lv_entry ([.ref a0, .int x1]) (n := 3) (Nat.le_of_ble_eq_true rfl)
  rw [lg_entry_eq]
  generalize (lg_sl ([.ref a0, .int x1]) ++ List.replicate (3 - (lg_sl ([.ref a0, .int x1])).length) Slot.unset).toArray = ls at hl ⊢
  have hl : lv_has ls 3 [(0, .ref a0), (1, .int x1)] := hl
  refine (?_ : fs_J X p l e (fs_rm 3 64 σ σF) s m _ below meth c (fs_Q X below _ s (fs_eV r) σ σF) r σ σF (f_Table_insertInOrder a0 x1) (F0 m 0 ls [])) σ s.heap [] 0 0 h hw0 va_S.rf rfl rfl
  clear h hw0
  unfold f_Table_insertInOrder
  refine fs_lift (fun _ _ _ _ => lv_aload_n hx hb d_Table_insertInOrder_0 rfl (lv_at hl 0 rfl)) ?_
  refine fs_Jgi S hG fs_in6 rfl 3 (Nat.le_of_ble_eq_true rfl) tw_1_188 (fun _ h9 => h9) d_Table_insertInOrder_1 (fun v1 => ?_)
  refine fs_liftL (fun _ _ _ _ => lv_istore_n (lv' := [(2, .int v1), (0, .ref a0), (1, .int x1)]) hx hb d_Table_insertInOrder_4 rfl hl (Nat.le_of_ble_eq_true rfl) rfl) (fun ls hl => ?_)
  refine fs_Jlp1 (nL := 3) (pc := 5) (rest := []) (I := fun (v2 : Int32) => [(0, .ref a0), (1, .int x1), (2, .int v2)]) (fun k5 hk5 v2 ls hl => ?_) _ _ _ (lv_sub hl [1, 2, 0] rfl)
  refine fs_lift (fun _ _ _ _ => lv_iload_n hx hb d_Table_insertInOrder_5 rfl (lv_at hl 2 rfl)) ?_
  refine fs_Jlet1 (nL := 3) (pj := 72) (I := fun (_ : Unit) => [(0, .ref a0), (1, .int x1), (2, .int v2)]) (st := fun (_ : Unit) => []) (fun _ ls hl => ?_) (fun j72 hj72 => ?_)
  · refine fs_lift (fun _ _ _ _ => lv_aload_n hx hb d_Table_insertInOrder_72 rfl (lv_at hl 0 rfl)) ?_
    refine fs_Jgr S hG fs_in6 rfl 2 (Nat.le_of_ble_eq_true rfl) tw_1_187 (fun _ h9 => h9) d_Table_insertInOrder_73 (fun r17 => ?_)
    refine fs_lift (fun _ _ _ _ => lv_iload_n hx hb d_Table_insertInOrder_76 rfl (lv_at hl 2 rfl)) ?_
    refine fs_lift (fun _ _ _ _ => lv_iload_n hx hb d_Table_insertInOrder_77 rfl (lv_at hl 1 rfl)) ?_
    refine fs_Jsi S hG d_Table_insertInOrder_78 ?_
    refine fs_lift (fun _ _ _ _ => lv_aload_n hx hb d_Table_insertInOrder_79 rfl (lv_at hl 0 rfl)) ?_
    refine fs_lift (fun _ _ _ _ => lv_dup hx hb d_Table_insertInOrder_80 rfl) ?_
    refine fs_Jgi S hG fs_in6 rfl 3 (Nat.le_of_ble_eq_true rfl) tw_1_188 (fun _ h9 => h9) d_Table_insertInOrder_81 (fun v18 => ?_)
    refine fs_lift (fun _ _ _ _ => lv_iconst (v := 1) hx hb d_Table_insertInOrder_84 (by decide)) ?_
    refine fs_lift (fun _ _ _ _ => lv_iadd hx hb d_Table_insertInOrder_85) ?_
    refine fs_Jput S hG fs_in6 rfl 3 (Nat.le_of_ble_eq_true rfl) tw_1_188 (fun _ h9 => h9) fs_Y6 fs_ty6 fs_nm6 (Or.inl rfl) rfl rfl d_Table_insertInOrder_86 ?_
    exact fs_Jvret S hr hk rfl d_Table_insertInOrder_89
  · refine fs_if (fun _ _ _ _ => lv_if_le hx hb d_Table_insertInOrder_6 rfl) ?_ ?_
    · exact hj72 () ls (lv_sub hl [0, 1, 2] rfl)
    · refine fs_lift (fun _ _ _ _ => lv_aload_n hx hb d_Table_insertInOrder_9 rfl (lv_at hl 0 rfl)) ?_
      refine fs_Jgr S hG fs_in6 rfl 0 (Nat.le_of_ble_eq_true rfl) tw_1_183 (fun _ h9 => h9) d_Table_insertInOrder_10 (fun r3 => ?_)
      refine fs_lift (fun _ _ _ _ => lv_aload_n hx hb d_Table_insertInOrder_13 rfl (lv_at hl 0 rfl)) ?_
      refine fs_Jgr S hG fs_in6 rfl 2 (Nat.le_of_ble_eq_true rfl) tw_1_187 (fun _ h9 => h9) d_Table_insertInOrder_14 (fun r4 => ?_)
      refine fs_lift (fun _ _ _ _ => lv_iload_n hx hb d_Table_insertInOrder_17 rfl (lv_at hl 2 rfl)) ?_
      refine fs_lift (fun _ _ _ _ => lv_iconst (v := 1) hx hb d_Table_insertInOrder_18 (by decide)) ?_
      refine fs_lift (fun _ _ _ _ => lv_isub hx hb d_Table_insertInOrder_19) ?_
      refine fs_Jai S hG d_Table_insertInOrder_20 (fun v5 => ?_)
      refine fs_JV S hG hR rfl [.int v5] (enc := fun r => some (.ref r)) (fun zr zs zt zh => m_ArrayList_get X l r3 v5 zh) tw_5_114 tw_2_33 tw_2_34 tw_2_35 tw_1_5 q_ArrayList_get ⟨(Nat.le_of_ble_eq_true rfl), (Nat.le_of_ble_eq_true rfl)⟩ hl.1 rfl (Nat.le_of_ble_eq_true rfl) d_Table_insertInOrder_21 (fun r6 => ?_)
      refine fs_Jeq (g2 := F0 m 24 ls [.ref r6]) rfl ?_
      refine fs_Jck S hG rfl tw_5_115 tb_7_83 d_Table_insertInOrder_24 ?_
      refine fs_Jgr S hG fs_in11 rfl 1 (Nat.le_of_ble_eq_true rfl) tw_5_32 (fun _ h9 => h9) d_Table_insertInOrder_27 (fun r7 => ?_)
      refine fs_lift (fun _ _ _ _ => lv_iconst (v := 5) hx hb d_Table_insertInOrder_30 (by decide)) ?_
      refine fs_Jaj S hG d_Table_insertInOrder_31 (fun v8 => ?_)
      refine fs_lift (fun _ _ _ _ => lv_aload_n hx hb d_Table_insertInOrder_32 rfl (lv_at hl 0 rfl)) ?_
      refine fs_Jgr S hG fs_in6 rfl 0 (Nat.le_of_ble_eq_true rfl) tw_1_183 (fun _ h9 => h9) d_Table_insertInOrder_33 (fun r9 => ?_)
      refine fs_lift (fun _ _ _ _ => lv_iload_n hx hb d_Table_insertInOrder_36 rfl (lv_at hl 1 rfl)) ?_
      refine fs_JV S hG hR rfl [.int x1] (enc := fun r => some (.ref r)) (fun zr zs zt zh => m_ArrayList_get X l r9 x1 zh) tw_5_114 tw_2_33 tw_2_34 tw_2_35 tw_1_5 q_ArrayList_get ⟨(Nat.le_of_ble_eq_true rfl), (Nat.le_of_ble_eq_true rfl)⟩ hl.1 rfl (Nat.le_of_ble_eq_true rfl) d_Table_insertInOrder_37 (fun r10 => ?_)
      refine fs_Jeq (g2 := F0 m 40 ls [.ref r10, .long v8]) rfl ?_
      refine fs_Jck S hG rfl tw_5_115 tb_7_83 d_Table_insertInOrder_40 ?_
      refine fs_Jgr S hG fs_in11 rfl 1 (Nat.le_of_ble_eq_true rfl) tw_5_32 (fun _ h9 => h9) d_Table_insertInOrder_43 (fun r11 => ?_)
      refine fs_lift (fun _ _ _ _ => lv_iconst (v := 5) hx hb d_Table_insertInOrder_46 (by decide)) ?_
      refine fs_Jaj S hG d_Table_insertInOrder_47 (fun v12 => ?_)
      refine fs_lift (fun _ _ _ _ => W.lcmp hx hb d_Table_insertInOrder_48) ?_
      refine fs_if (fun _ _ _ _ => lv_if_le hx hb d_Table_insertInOrder_49 rfl) ?_ ?_
      · exact hj72 () ls (lv_sub hl [0, 1, 2] rfl)
      · refine fs_lift (fun _ _ _ _ => lv_aload_n hx hb d_Table_insertInOrder_52 rfl (lv_at hl 0 rfl)) ?_
        refine fs_Jgr S hG fs_in6 rfl 2 (Nat.le_of_ble_eq_true rfl) tw_1_187 (fun _ h9 => h9) d_Table_insertInOrder_53 (fun r13 => ?_)
        refine fs_lift (fun _ _ _ _ => lv_iload_n hx hb d_Table_insertInOrder_56 rfl (lv_at hl 2 rfl)) ?_
        refine fs_lift (fun _ _ _ _ => lv_aload_n hx hb d_Table_insertInOrder_57 rfl (lv_at hl 0 rfl)) ?_
        refine fs_Jgr S hG fs_in6 rfl 2 (Nat.le_of_ble_eq_true rfl) tw_1_187 (fun _ h9 => h9) d_Table_insertInOrder_58 (fun r14 => ?_)
        refine fs_lift (fun _ _ _ _ => lv_iload_n hx hb d_Table_insertInOrder_61 rfl (lv_at hl 2 rfl)) ?_
        refine fs_lift (fun _ _ _ _ => lv_iconst (v := 1) hx hb d_Table_insertInOrder_62 (by decide)) ?_
        refine fs_lift (fun _ _ _ _ => lv_isub hx hb d_Table_insertInOrder_63) ?_
        refine fs_Jai S hG d_Table_insertInOrder_64 (fun v15 => ?_)
        refine fs_Jsi S hG d_Table_insertInOrder_65 ?_
        refine fs_Jnm (fun v16 hv9 => ?_)
        refine fs_liftL (fun _ _ _ _ => lv_iinc (k := 2) (v := v16) (lv' := [(2, .int v16), (0, .ref a0), (1, .int x1)]) hx hb d_Table_insertInOrder_66 hl rfl (by rw [hv9]; rfl) (Nat.le_of_ble_eq_true rfl) rfl) (fun ls hl => ?_)
        refine fs_lift (fun _ _ _ _ => lv_goto hx hb d_Table_insertInOrder_69 rfl) ?_
        exact hk5 v16 ls (lv_sub hl [1, 2, 0] rfl)

theorem d_Table_putInOrder_0 : decode prog_11_method_7_code 0 = .ok (.aload_n 0, 1) := by decide +kernel
theorem d_Table_putInOrder_1 : decode prog_11_method_7_code 1 = .ok (.iconst 0, 1) := by decide +kernel
theorem d_Table_putInOrder_2 : decode prog_11_method_7_code 2 = .ok (.putfield 69, 3) := by decide +kernel
theorem d_Table_putInOrder_5 : decode prog_11_method_7_code 5 = .ok (.iconst 0, 1) := by decide +kernel
theorem d_Table_putInOrder_6 : decode prog_11_method_7_code 6 = .ok (.istore_n 1, 1) := by decide +kernel
theorem d_Table_putInOrder_7 : decode prog_11_method_7_code 7 = .ok (.iload_n 1, 1) := by decide +kernel
theorem d_Table_putInOrder_8 : decode prog_11_method_7_code 8 = .ok (.aload_n 0, 1) := by decide +kernel
theorem d_Table_putInOrder_9 : decode prog_11_method_7_code 9 = .ok (.getfield 12, 3) := by decide +kernel
theorem d_Table_putInOrder_12 : decode prog_11_method_7_code 12 = .ok (.invokevirtual 25, 3) := by decide +kernel
theorem d_Table_putInOrder_15 : decode prog_11_method_7_code 15 = .ok (.if_icmp .ge 31, 3) := by decide +kernel
theorem d_Table_putInOrder_18 : decode prog_11_method_7_code 18 = .ok (.aload_n 0, 1) := by decide +kernel
theorem d_Table_putInOrder_19 : decode prog_11_method_7_code 19 = .ok (.getfield 12, 3) := by decide +kernel
theorem d_Table_putInOrder_22 : decode prog_11_method_7_code 22 = .ok (.iload_n 1, 1) := by decide +kernel
theorem d_Table_putInOrder_23 : decode prog_11_method_7_code 23 = .ok (.invokevirtual 37, 3) := by decide +kernel
theorem d_Table_putInOrder_26 : decode prog_11_method_7_code 26 = .ok (.checkcast 41, 3) := by decide +kernel
theorem d_Table_putInOrder_29 : decode prog_11_method_7_code 29 = .ok (.invokevirtual 76, 3) := by decide +kernel
theorem d_Table_putInOrder_32 : decode prog_11_method_7_code 32 = .ok (.ifCond .eq 8, 3) := by decide +kernel
theorem d_Table_putInOrder_35 : decode prog_11_method_7_code 35 = .ok (.aload_n 0, 1) := by decide +kernel
theorem d_Table_putInOrder_36 : decode prog_11_method_7_code 36 = .ok (.iload_n 1, 1) := by decide +kernel
theorem d_Table_putInOrder_37 : decode prog_11_method_7_code 37 = .ok (.invokevirtual 80, 3) := by decide +kernel
theorem d_Table_putInOrder_40 : decode prog_11_method_7_code 40 = .ok (.iinc 1 1, 3) := by decide +kernel
theorem d_Table_putInOrder_43 : decode prog_11_method_7_code 43 = .ok (.goto (-36), 3) := by decide +kernel
theorem d_Table_putInOrder_46 : decode prog_11_method_7_code 46 = .ok (.return_, 1) := by decide +kernel
theorem q_Table_putInOrder : (⟨"FlowShelf$Table", "putInOrder", "()V"⟩ : MethodName).cls ≠ "java/lang/invoke/MethodHandle" ∧ (⟨"FlowShelf$Table", "putInOrder", "()V"⟩ : MethodName).cls ≠ "java/lang/invoke/VarHandle" ∧ (parseMethodDescriptor (⟨"FlowShelf$Table", "putInOrder", "()V"⟩ : MethodName).desc).map (fun d => d.parameters.length) = some 0 := by decide +kernel
set_option maxHeartbeats 4000000 in
set_option maxRecDepth 100000 in
theorem m_Table_putInOrder (X : fs_X) (l : Launch) (a0 : Nat) {r : Unit} {σ σF : fs_S} (h : (f_Table_putInOrder a0).1 σ = some (r, σF)) : fs_Met X l ⟨"FlowShelf$Table", "putInOrder", "()V"⟩ (Cond.code ⟨"FlowShelf$Table", "putInOrder", "()V"⟩ prog_11_method_7_code 2 none) 4 86 [.ref a0] σ (fs_eV r) σF := by
  refine fs_ofW (by decide) ?_
  intro p e s m args below meth c s₁ B hml hT hv
  obtain ⟨rfl, hw0, hG⟩ := hv
  have hx := B.exec
  have hb := B.bytes
  have hr := B.returns
  have hk := B.notSynchronized
  have S : CallFix p m c prog_11_method_7_code 2 s _ fs_ws "FlowShelf$Table" := ⟨B.exec, B.bytes, hml, findClass_of_methodNamed B.named, fun w hw => atoms_spec (ws := _ :: fs_ws) B.pre w (List.mem_cons_of_mem _ hw)⟩
  have hR := fs_hR (fr := 4) (lo := 86) ((f_Table_putInOrder a0).2 _ _ _ h)
  have hl := lv_entry ([.ref a0]) (n := 2) (Nat.le_of_ble_eq_true rfl)
  rw [lg_entry_eq]
  generalize (lg_sl ([.ref a0]) ++ List.replicate (2 - (lg_sl ([.ref a0])).length) Slot.unset).toArray = ls at hl ⊢
  have hl : lv_has ls 2 [(0, .ref a0)] := hl
  refine (?_ : fs_J X p l e (fs_rm 4 86 σ σF) s m _ below meth c (fs_Q X below _ s (fs_eV r) σ σF) r σ σF (f_Table_putInOrder a0) (F0 m 0 ls [])) σ s.heap [] 0 0 h hw0 va_S.rf rfl rfl
  clear h hw0
  unfold f_Table_putInOrder
  refine fs_lift (fun _ _ _ _ => lv_aload_n hx hb d_Table_putInOrder_0 rfl (lv_at hl 0 rfl)) ?_
  refine fs_lift (fun _ _ _ _ => lv_iconst (v := 0) hx hb d_Table_putInOrder_1 (by decide)) ?_
  refine fs_Jput S hG fs_in6 rfl 3 (Nat.le_of_ble_eq_true rfl) tw_1_188 (fun _ h9 => h9) fs_Y6 fs_ty6 fs_nm6 (Or.inl rfl) rfl rfl d_Table_putInOrder_2 ?_
  refine fs_lift (fun _ _ _ _ => lv_iconst (v := 0) hx hb d_Table_putInOrder_5 (by decide)) ?_
  refine fs_liftL (fun _ _ _ _ => lv_istore_n (lv' := [(1, .int 0), (0, .ref a0)]) hx hb d_Table_putInOrder_6 rfl hl (Nat.le_of_ble_eq_true rfl) rfl) (fun ls hl => ?_)
  refine fs_Jlp1 (nL := 2) (pc := 7) (rest := []) (I := fun (v1 : Int32) => [(0, .ref a0), (1, .int v1)]) (fun k7 hk7 v1 ls hl => ?_) _ _ _ (lv_sub hl [1, 0] rfl)
  refine fs_lift (fun _ _ _ _ => lv_iload_n hx hb d_Table_putInOrder_7 rfl (lv_at hl 1 rfl)) ?_
  refine fs_lift (fun _ _ _ _ => lv_aload_n hx hb d_Table_putInOrder_8 rfl (lv_at hl 0 rfl)) ?_
  refine fs_Jgr S hG fs_in6 rfl 0 (Nat.le_of_ble_eq_true rfl) tw_1_183 (fun _ h9 => h9) d_Table_putInOrder_9 (fun r2 => ?_)
  refine fs_JV S hG hR rfl [] (enc := fun r => some (.int r)) (fun zr zs zt zh => m_ArrayList_size X l r2 zh) tw_4_193 tw_2_29 tw_2_30 tw_2_31 tw_1_5 q_ArrayList_size ⟨(Nat.le_of_ble_eq_true rfl), (Nat.le_of_ble_eq_true rfl)⟩ hl.1 rfl (Nat.le_of_ble_eq_true rfl) d_Table_putInOrder_12 (fun v3 => ?_)
  refine fs_Jeq (g2 := F0 m 15 ls [.int v3, .int v1]) rfl ?_
  refine fs_if (fun _ _ _ _ => lv_icmp_ge hx hb d_Table_putInOrder_15 rfl) ?_ ?_
  · exact fs_Jvret S hr hk rfl d_Table_putInOrder_46
  · refine fs_lift (fun _ _ _ _ => lv_aload_n hx hb d_Table_putInOrder_18 rfl (lv_at hl 0 rfl)) ?_
    refine fs_Jgr S hG fs_in6 rfl 0 (Nat.le_of_ble_eq_true rfl) tw_1_183 (fun _ h9 => h9) d_Table_putInOrder_19 (fun r4 => ?_)
    refine fs_lift (fun _ _ _ _ => lv_iload_n hx hb d_Table_putInOrder_22 rfl (lv_at hl 1 rfl)) ?_
    refine fs_JV S hG hR rfl [.int v1] (enc := fun r => some (.ref r)) (fun zr zs zt zh => m_ArrayList_get X l r4 v1 zh) tw_5_114 tw_2_33 tw_2_34 tw_2_35 tw_1_5 q_ArrayList_get ⟨(Nat.le_of_ble_eq_true rfl), (Nat.le_of_ble_eq_true rfl)⟩ hl.1 rfl (Nat.le_of_ble_eq_true rfl) d_Table_putInOrder_23 (fun r5 => ?_)
    refine fs_Jeq (g2 := F0 m 26 ls [.ref r5]) rfl ?_
    refine fs_Jck S hG rfl tw_5_115 tb_7_83 d_Table_putInOrder_26 ?_
    refine fs_JV S hG hR rfl [] (enc := fun r => some (.int r)) (fun zr zs zt zh => m_Row_canBePaired X l r5 zh) tw_5_142 tw_5_143 tw_5_144 tw_5_145 tw_1_28 q_Row_canBePaired ⟨(Nat.le_of_ble_eq_true rfl), (Nat.le_of_ble_eq_true rfl)⟩ hl.1 rfl (Nat.le_of_ble_eq_true rfl) d_Table_putInOrder_29 (fun v6 => ?_)
    refine fs_Jeq (g2 := F0 m 32 ls [.int v6]) rfl ?_
    refine fs_Jlet1 (nL := 2) (pj := 40) (I := fun (_ : Unit) => [(0, .ref a0), (1, .int v1)]) (st := fun (_ : Unit) => []) (fun _ ls hl => ?_) (fun j40 hj40 => ?_)
    · refine fs_Jnm (fun v7 hv9 => ?_)
      refine fs_liftL (fun _ _ _ _ => lv_iinc (k := 1) (v := v7) (lv' := [(1, .int v7), (0, .ref a0)]) hx hb d_Table_putInOrder_40 hl rfl (by rw [hv9]; rfl) (Nat.le_of_ble_eq_true rfl) rfl) (fun ls hl => ?_)
      refine fs_lift (fun _ _ _ _ => lv_goto hx hb d_Table_putInOrder_43 rfl) ?_
      exact hk7 v7 ls (lv_sub hl [1, 0] rfl)
    · refine fs_if (fun _ _ _ _ => lv_if_eq hx hb d_Table_putInOrder_32 rfl) ?_ ?_
      · exact hj40 () ls (lv_sub hl [0, 1] rfl)
      · refine fs_lift (fun _ _ _ _ => lv_aload_n hx hb d_Table_putInOrder_35 rfl (lv_at hl 0 rfl)) ?_
        refine fs_lift (fun _ _ _ _ => lv_iload_n hx hb d_Table_putInOrder_36 rfl (lv_at hl 1 rfl)) ?_
        refine fs_JV S hG hR rfl [.int v1] (enc := fun _ => none) (fun zr zs zt zh => m_Table_insertInOrder X l a0 v1 zh) tw_5_147 tw_5_148 tw_5_149 tw_5_150 tw_1_9 q_Table_insertInOrder ⟨(Nat.le_of_ble_eq_true rfl), (Nat.le_of_ble_eq_true rfl)⟩ hl.1 rfl (Nat.le_of_ble_eq_true rfl) d_Table_putInOrder_37 (fun _ => ?_)
        refine fs_Jeq (g2 := F0 m 40 ls []) rfl ?_
        exact hj40 () ls (lv_sub hl [0, 1] rfl)

theorem d_Row_isReverseOf_0 : decode prog_9_method_4_code 0 = .ok (.aload_n 0, 1) := by decide +kernel
theorem d_Row_isReverseOf_1 : decode prog_9_method_4_code 1 = .ok (.getfield 15, 3) := by decide +kernel
theorem d_Row_isReverseOf_4 : decode prog_9_method_4_code 4 = .ok (.aload_n 1, 1) := by decide +kernel
theorem d_Row_isReverseOf_5 : decode prog_9_method_4_code 5 = .ok (.getfield 15, 3) := by decide +kernel
theorem d_Row_isReverseOf_8 : decode prog_9_method_4_code 8 = .ok (.if_icmp .ne 55, 3) := by decide +kernel
theorem d_Row_isReverseOf_11 : decode prog_9_method_4_code 11 = .ok (.aload_n 0, 1) := by decide +kernel
theorem d_Row_isReverseOf_12 : decode prog_9_method_4_code 12 = .ok (.getfield 9, 3) := by decide +kernel
theorem d_Row_isReverseOf_15 : decode prog_9_method_4_code 15 = .ok (.iconst 0, 1) := by decide +kernel
theorem d_Row_isReverseOf_16 : decode prog_9_method_4_code 16 = .ok (.laload, 1) := by decide +kernel
theorem d_Row_isReverseOf_17 : decode prog_9_method_4_code 17 = .ok (.aload_n 1, 1) := by decide +kernel
theorem d_Row_isReverseOf_18 : decode prog_9_method_4_code 18 = .ok (.getfield 9, 3) := by decide +kernel
theorem d_Row_isReverseOf_21 : decode prog_9_method_4_code 21 = .ok (.iconst 1, 1) := by decide +kernel
theorem d_Row_isReverseOf_22 : decode prog_9_method_4_code 22 = .ok (.laload, 1) := by decide +kernel
theorem d_Row_isReverseOf_23 : decode prog_9_method_4_code 23 = .ok (.lcmp, 1) := by decide +kernel
theorem d_Row_isReverseOf_24 : decode prog_9_method_4_code 24 = .ok (.ifCond .ne 39, 3) := by decide +kernel
theorem d_Row_isReverseOf_27 : decode prog_9_method_4_code 27 = .ok (.aload_n 0, 1) := by decide +kernel
theorem d_Row_isReverseOf_28 : decode prog_9_method_4_code 28 = .ok (.getfield 9, 3) := by decide +kernel
theorem d_Row_isReverseOf_31 : decode prog_9_method_4_code 31 = .ok (.iconst 1, 1) := by decide +kernel
theorem d_Row_isReverseOf_32 : decode prog_9_method_4_code 32 = .ok (.laload, 1) := by decide +kernel
theorem d_Row_isReverseOf_33 : decode prog_9_method_4_code 33 = .ok (.aload_n 1, 1) := by decide +kernel
theorem d_Row_isReverseOf_34 : decode prog_9_method_4_code 34 = .ok (.getfield 9, 3) := by decide +kernel
theorem d_Row_isReverseOf_37 : decode prog_9_method_4_code 37 = .ok (.iconst 0, 1) := by decide +kernel
theorem d_Row_isReverseOf_38 : decode prog_9_method_4_code 38 = .ok (.laload, 1) := by decide +kernel
theorem d_Row_isReverseOf_39 : decode prog_9_method_4_code 39 = .ok (.lcmp, 1) := by decide +kernel
theorem d_Row_isReverseOf_40 : decode prog_9_method_4_code 40 = .ok (.ifCond .ne 23, 3) := by decide +kernel
theorem d_Row_isReverseOf_43 : decode prog_9_method_4_code 43 = .ok (.aload_n 0, 1) := by decide +kernel
theorem d_Row_isReverseOf_44 : decode prog_9_method_4_code 44 = .ok (.getfield 9, 3) := by decide +kernel
theorem d_Row_isReverseOf_47 : decode prog_9_method_4_code 47 = .ok (.iconst 2, 1) := by decide +kernel
theorem d_Row_isReverseOf_48 : decode prog_9_method_4_code 48 = .ok (.laload, 1) := by decide +kernel
theorem d_Row_isReverseOf_49 : decode prog_9_method_4_code 49 = .ok (.aload_n 1, 1) := by decide +kernel
theorem d_Row_isReverseOf_50 : decode prog_9_method_4_code 50 = .ok (.getfield 9, 3) := by decide +kernel
theorem d_Row_isReverseOf_53 : decode prog_9_method_4_code 53 = .ok (.iconst 2, 1) := by decide +kernel
theorem d_Row_isReverseOf_54 : decode prog_9_method_4_code 54 = .ok (.laload, 1) := by decide +kernel
theorem d_Row_isReverseOf_55 : decode prog_9_method_4_code 55 = .ok (.lcmp, 1) := by decide +kernel
theorem d_Row_isReverseOf_56 : decode prog_9_method_4_code 56 = .ok (.ifCond .ne 7, 3) := by decide +kernel
theorem d_Row_isReverseOf_59 : decode prog_9_method_4_code 59 = .ok (.iconst 1, 1) := by decide +kernel
theorem d_Row_isReverseOf_60 : decode prog_9_method_4_code 60 = .ok (.goto 4, 3) := by decide +kernel
theorem d_Row_isReverseOf_63 : decode prog_9_method_4_code 63 = .ok (.iconst 0, 1) := by decide +kernel
theorem d_Row_isReverseOf_64 : decode prog_9_method_4_code 64 = .ok (.ireturn, 1) := by decide +kernel
theorem q_Row_isReverseOf : (⟨"FlowShelf$Row", "isReverseOf", "(LFlowShelf$Row;)Z"⟩ : MethodName).cls ≠ "java/lang/invoke/MethodHandle" ∧ (⟨"FlowShelf$Row", "isReverseOf", "(LFlowShelf$Row;)Z"⟩ : MethodName).cls ≠ "java/lang/invoke/VarHandle" ∧ (parseMethodDescriptor (⟨"FlowShelf$Row", "isReverseOf", "(LFlowShelf$Row;)Z"⟩ : MethodName).desc).map (fun d => d.parameters.length) = some 1 := by decide +kernel
set_option maxHeartbeats 4000000 in
set_option maxRecDepth 100000 in
theorem m_Row_isReverseOf (X : fs_X) (l : Launch) (a0 : Nat) (a1 : Nat) {r : Int32} {σ σF : fs_S} (h : (f_Row_isReverseOf a0 a1).1 σ = some (r, σF)) : fs_Met X l ⟨"FlowShelf$Row", "isReverseOf", "(LFlowShelf$Row;)Z"⟩ (Cond.code ⟨"FlowShelf$Row", "isReverseOf", "(LFlowShelf$Row;)Z"⟩ prog_9_method_4_code 2 (some FieldType.boolean)) 0 0 [.ref a0, .ref a1] σ (fs_eI r) σF := by
  refine fs_ofW (by decide) ?_
  intro p e s m args below meth c s₁ B hml hT hv
  obtain ⟨rfl, hw0, hG⟩ := hv
  have hx := B.exec
  have hb := B.bytes
  have hr := B.returns
  have hk := B.notSynchronized
  have S : CallFix p m c prog_9_method_4_code 2 s _ fs_ws "FlowShelf$Row" := ⟨B.exec, B.bytes, hml, findClass_of_methodNamed B.named, fun w hw => atoms_spec (ws := _ :: fs_ws) B.pre w (List.mem_cons_of_mem _ hw)⟩
  have hR := fs_hR (fr := 0) (lo := 0) ((f_Row_isReverseOf a0 a1).2 _ _ _ h)
  have hl := lv_entry ([.ref a0, .ref a1]) (n := 2) (Nat.le_of_ble_eq_true rfl)
  rw [lg_entry_eq]
  generalize (lg_sl ([.ref a0, .ref a1]) ++ List.replicate (2 - (lg_sl ([.ref a0, .ref a1])).length) Slot.unset).toArray = ls at hl ⊢
  have hl : lv_has ls 2 [(0, .ref a0), (1, .ref a1)] := hl
  refine (?_ : fs_J X p l e (fs_rm 0 0 σ σF) s m _ below meth c (fs_Q X below _ s (fs_eI r) σ σF) r σ σF (f_Row_isReverseOf a0 a1) (F0 m 0 ls [])) σ s.heap [] 0 0 h hw0 va_S.rf rfl rfl
  clear h hw0
  unfold f_Row_isReverseOf
  refine fs_lift (fun _ _ _ _ => lv_aload_n hx hb d_Row_isReverseOf_0 rfl (lv_at hl 0 rfl)) ?_
  refine fs_Jgi S hG fs_in11 rfl 0 (Nat.le_of_ble_eq_true rfl) tw_5_28 (fun _ h9 => h9) d_Row_isReverseOf_1 (fun v1 => ?_)
  refine fs_lift (fun _ _ _ _ => lv_aload_n hx hb d_Row_isReverseOf_4 rfl (lv_at hl 1 rfl)) ?_
  refine fs_Jgi S hG fs_in11 rfl 0 (Nat.le_of_ble_eq_true rfl) tw_5_28 (fun _ h9 => h9) d_Row_isReverseOf_5 (fun v2 => ?_)
  refine fs_ifn (fun _ _ _ _ => lv_icmp_ne hx hb d_Row_isReverseOf_8 rfl) ?_ ?_
  · refine fs_lift (fun _ _ _ _ => lv_aload_n hx hb d_Row_isReverseOf_11 rfl (lv_at hl 0 rfl)) ?_
    refine fs_Jgr S hG fs_in11 rfl 1 (Nat.le_of_ble_eq_true rfl) tw_5_31 (fun _ h9 => h9) d_Row_isReverseOf_12 (fun r3 => ?_)
    refine fs_lift (fun _ _ _ _ => lv_iconst (v := 0) hx hb d_Row_isReverseOf_15 (by decide)) ?_
    refine fs_Jaj S hG d_Row_isReverseOf_16 (fun v4 => ?_)
    refine fs_lift (fun _ _ _ _ => lv_aload_n hx hb d_Row_isReverseOf_17 rfl (lv_at hl 1 rfl)) ?_
    refine fs_Jgr S hG fs_in11 rfl 1 (Nat.le_of_ble_eq_true rfl) tw_5_31 (fun _ h9 => h9) d_Row_isReverseOf_18 (fun r5 => ?_)
    refine fs_lift (fun _ _ _ _ => lv_iconst (v := 1) hx hb d_Row_isReverseOf_21 (by decide)) ?_
    refine fs_Jaj S hG d_Row_isReverseOf_22 (fun v6 => ?_)
    refine fs_lift (fun _ _ _ _ => W.lcmp hx hb d_Row_isReverseOf_23) ?_
    refine fs_ifn (fun _ _ _ _ => lv_if_ne hx hb d_Row_isReverseOf_24 rfl) ?_ ?_
    · refine fs_lift (fun _ _ _ _ => lv_aload_n hx hb d_Row_isReverseOf_27 rfl (lv_at hl 0 rfl)) ?_
      refine fs_Jgr S hG fs_in11 rfl 1 (Nat.le_of_ble_eq_true rfl) tw_5_31 (fun _ h9 => h9) d_Row_isReverseOf_28 (fun r7 => ?_)
      refine fs_lift (fun _ _ _ _ => lv_iconst (v := 1) hx hb d_Row_isReverseOf_31 (by decide)) ?_
      refine fs_Jaj S hG d_Row_isReverseOf_32 (fun v8 => ?_)
      refine fs_lift (fun _ _ _ _ => lv_aload_n hx hb d_Row_isReverseOf_33 rfl (lv_at hl 1 rfl)) ?_
      refine fs_Jgr S hG fs_in11 rfl 1 (Nat.le_of_ble_eq_true rfl) tw_5_31 (fun _ h9 => h9) d_Row_isReverseOf_34 (fun r9 => ?_)
      refine fs_lift (fun _ _ _ _ => lv_iconst (v := 0) hx hb d_Row_isReverseOf_37 (by decide)) ?_
      refine fs_Jaj S hG d_Row_isReverseOf_38 (fun v10 => ?_)
      refine fs_lift (fun _ _ _ _ => W.lcmp hx hb d_Row_isReverseOf_39) ?_
      refine fs_ifn (fun _ _ _ _ => lv_if_ne hx hb d_Row_isReverseOf_40 rfl) ?_ ?_
      · refine fs_lift (fun _ _ _ _ => lv_aload_n hx hb d_Row_isReverseOf_43 rfl (lv_at hl 0 rfl)) ?_
        refine fs_Jgr S hG fs_in11 rfl 1 (Nat.le_of_ble_eq_true rfl) tw_5_31 (fun _ h9 => h9) d_Row_isReverseOf_44 (fun r11 => ?_)
        refine fs_lift (fun _ _ _ _ => lv_iconst (v := 2) hx hb d_Row_isReverseOf_47 (by decide)) ?_
        refine fs_Jaj S hG d_Row_isReverseOf_48 (fun v12 => ?_)
        refine fs_lift (fun _ _ _ _ => lv_aload_n hx hb d_Row_isReverseOf_49 rfl (lv_at hl 1 rfl)) ?_
        refine fs_Jgr S hG fs_in11 rfl 1 (Nat.le_of_ble_eq_true rfl) tw_5_31 (fun _ h9 => h9) d_Row_isReverseOf_50 (fun r13 => ?_)
        refine fs_lift (fun _ _ _ _ => lv_iconst (v := 2) hx hb d_Row_isReverseOf_53 (by decide)) ?_
        refine fs_Jaj S hG d_Row_isReverseOf_54 (fun v14 => ?_)
        refine fs_lift (fun _ _ _ _ => W.lcmp hx hb d_Row_isReverseOf_55) ?_
        refine fs_ifn (fun _ _ _ _ => lv_if_ne hx hb d_Row_isReverseOf_56 rfl) ?_ ?_
        · refine fs_lift (fun _ _ _ _ => lv_iconst (v := 1) hx hb d_Row_isReverseOf_59 (by decide)) ?_
          refine fs_lift (fun _ _ _ _ => lv_goto hx hb d_Row_isReverseOf_60 rfl) ?_
          exact fs_Jzret S hr hk rfl d_Row_isReverseOf_64
        · refine fs_lift (fun _ _ _ _ => lv_iconst (v := 0) hx hb d_Row_isReverseOf_63 (by decide)) ?_
          exact fs_Jzret S hr hk rfl d_Row_isReverseOf_64
      · refine fs_lift (fun _ _ _ _ => lv_iconst (v := 0) hx hb d_Row_isReverseOf_63 (by decide)) ?_
        exact fs_Jzret S hr hk rfl d_Row_isReverseOf_64
    · refine fs_lift (fun _ _ _ _ => lv_iconst (v := 0) hx hb d_Row_isReverseOf_63 (by decide)) ?_
      exact fs_Jzret S hr hk rfl d_Row_isReverseOf_64
  · refine fs_lift (fun _ _ _ _ => lv_iconst (v := 0) hx hb d_Row_isReverseOf_63 (by decide)) ?_
    exact fs_Jzret S hr hk rfl d_Row_isReverseOf_64

theorem d_Row_ticksBetween_0 : decode prog_9_method_5_code 0 = .ok (.aload_n 0, 1) := by decide +kernel
theorem d_Row_ticksBetween_1 : decode prog_9_method_5_code 1 = .ok (.getfield 9, 3) := by decide +kernel
theorem d_Row_ticksBetween_4 : decode prog_9_method_5_code 4 = .ok (.iconst 5, 1) := by decide +kernel
theorem d_Row_ticksBetween_5 : decode prog_9_method_5_code 5 = .ok (.laload, 1) := by decide +kernel
theorem d_Row_ticksBetween_6 : decode prog_9_method_5_code 6 = .ok (.aload_n 1, 1) := by decide +kernel
theorem d_Row_ticksBetween_7 : decode prog_9_method_5_code 7 = .ok (.getfield 9, 3) := by decide +kernel
theorem d_Row_ticksBetween_10 : decode prog_9_method_5_code 10 = .ok (.iconst 5, 1) := by decide +kernel
theorem d_Row_ticksBetween_11 : decode prog_9_method_5_code 11 = .ok (.laload, 1) := by decide +kernel
theorem d_Row_ticksBetween_12 : decode prog_9_method_5_code 12 = .ok (.lsub, 1) := by decide +kernel
theorem d_Row_ticksBetween_13 : decode prog_9_method_5_code 13 = .ok (.invokestatic 31, 3) := by decide +kernel
theorem d_Row_ticksBetween_16 : decode prog_9_method_5_code 16 = .ok (.lreturn, 1) := by decide +kernel
theorem q_Row_ticksBetween : (⟨"FlowShelf$Row", "ticksBetween", "(LFlowShelf$Row;)J"⟩ : MethodName).cls ≠ "java/lang/invoke/MethodHandle" ∧ (⟨"FlowShelf$Row", "ticksBetween", "(LFlowShelf$Row;)J"⟩ : MethodName).cls ≠ "java/lang/invoke/VarHandle" ∧ (parseMethodDescriptor (⟨"FlowShelf$Row", "ticksBetween", "(LFlowShelf$Row;)J"⟩ : MethodName).desc).map (fun d => d.parameters.length) = some 1 := by decide +kernel
set_option maxHeartbeats 4000000 in
set_option maxRecDepth 100000 in
theorem m_Row_ticksBetween (X : fs_X) (l : Launch) (a0 : Nat) (a1 : Nat) {r : Int64} {σ σF : fs_S} (h : (f_Row_ticksBetween a0 a1).1 σ = some (r, σF)) : fs_Met X l ⟨"FlowShelf$Row", "ticksBetween", "(LFlowShelf$Row;)J"⟩ (Cond.code ⟨"FlowShelf$Row", "ticksBetween", "(LFlowShelf$Row;)J"⟩ prog_9_method_5_code 2 (some FieldType.long)) 1 13 [.ref a0, .ref a1] σ (fs_eJ r) σF := by
  refine fs_ofW (by decide) ?_
  intro p e s m args below meth c s₁ B hml hT hv
  obtain ⟨rfl, hw0, hG⟩ := hv
  have hx := B.exec
  have hb := B.bytes
  have hr := B.returns
  have hk := B.notSynchronized
  have S : CallFix p m c prog_9_method_5_code 2 s _ fs_ws "FlowShelf$Row" := ⟨B.exec, B.bytes, hml, findClass_of_methodNamed B.named, fun w hw => atoms_spec (ws := _ :: fs_ws) B.pre w (List.mem_cons_of_mem _ hw)⟩
  have hR := fs_hR (fr := 1) (lo := 13) ((f_Row_ticksBetween a0 a1).2 _ _ _ h)
  have hl := lv_entry ([.ref a0, .ref a1]) (n := 2) (Nat.le_of_ble_eq_true rfl)
  rw [lg_entry_eq]
  generalize (lg_sl ([.ref a0, .ref a1]) ++ List.replicate (2 - (lg_sl ([.ref a0, .ref a1])).length) Slot.unset).toArray = ls at hl ⊢
  have hl : lv_has ls 2 [(0, .ref a0), (1, .ref a1)] := hl
  refine (?_ : fs_J X p l e (fs_rm 1 13 σ σF) s m _ below meth c (fs_Q X below _ s (fs_eJ r) σ σF) r σ σF (f_Row_ticksBetween a0 a1) (F0 m 0 ls [])) σ s.heap [] 0 0 h hw0 va_S.rf rfl rfl
  clear h hw0
  unfold f_Row_ticksBetween
  refine fs_lift (fun _ _ _ _ => lv_aload_n hx hb d_Row_ticksBetween_0 rfl (lv_at hl 0 rfl)) ?_
  refine fs_Jgr S hG fs_in11 rfl 1 (Nat.le_of_ble_eq_true rfl) tw_5_31 (fun _ h9 => h9) d_Row_ticksBetween_1 (fun r1 => ?_)
  refine fs_lift (fun _ _ _ _ => lv_iconst (v := 5) hx hb d_Row_ticksBetween_4 (by decide)) ?_
  refine fs_Jaj S hG d_Row_ticksBetween_5 (fun v2 => ?_)
  refine fs_lift (fun _ _ _ _ => lv_aload_n hx hb d_Row_ticksBetween_6 rfl (lv_at hl 1 rfl)) ?_
  refine fs_Jgr S hG fs_in11 rfl 1 (Nat.le_of_ble_eq_true rfl) tw_5_31 (fun _ h9 => h9) d_Row_ticksBetween_7 (fun r3 => ?_)
  refine fs_lift (fun _ _ _ _ => lv_iconst (v := 5) hx hb d_Row_ticksBetween_10 (by decide)) ?_
  refine fs_Jaj S hG d_Row_ticksBetween_11 (fun v4 => ?_)
  refine fs_lift (fun _ _ _ _ => lv_lsub hx hb d_Row_ticksBetween_12) ?_
  refine fs_Jabs S hR hl.1 tw_5_163 tw_5_164 tw_5_165 (Nat.le_of_ble_eq_true rfl) (Nat.le_of_ble_eq_true rfl) d_Row_ticksBetween_13 ?_
  refine fs_Jeq (g2 := F0 m 16 ls [.long (fs_abs (v2 - v4))]) rfl ?_
  exact fs_Jlret S hr hk rfl d_Row_ticksBetween_16

theorem d_Table_nearestReverse_0 : decode prog_11_method_9_code 0 = .ok (.aload_n 0, 1) := by decide +kernel
theorem d_Table_nearestReverse_1 : decode prog_11_method_9_code 1 = .ok (.getfield 12, 3) := by decide +kernel
theorem d_Table_nearestReverse_4 : decode prog_11_method_9_code 4 = .ok (.iload_n 1, 1) := by decide +kernel
theorem d_Table_nearestReverse_5 : decode prog_11_method_9_code 5 = .ok (.invokevirtual 37, 3) := by decide +kernel
theorem d_Table_nearestReverse_8 : decode prog_11_method_9_code 8 = .ok (.checkcast 41, 3) := by decide +kernel
theorem d_Table_nearestReverse_11 : decode prog_11_method_9_code 11 = .ok (.astore_n 2, 1) := by decide +kernel
theorem d_Table_nearestReverse_12 : decode prog_11_method_9_code 12 = .ok (.iconst (-1), 1) := by decide +kernel
theorem d_Table_nearestReverse_13 : decode prog_11_method_9_code 13 = .ok (.istore_n 3, 1) := by decide +kernel
theorem d_Table_nearestReverse_14 : decode prog_11_method_9_code 14 = .ok (.iconst 0, 1) := by decide +kernel
theorem d_Table_nearestReverse_15 : decode prog_11_method_9_code 15 = .ok (.istore 4, 2) := by decide +kernel
theorem d_Table_nearestReverse_17 : decode prog_11_method_9_code 17 = .ok (.iload 4, 2) := by decide +kernel
theorem d_Table_nearestReverse_19 : decode prog_11_method_9_code 19 = .ok (.aload_n 0, 1) := by decide +kernel
theorem d_Table_nearestReverse_20 : decode prog_11_method_9_code 20 = .ok (.getfield 12, 3) := by decide +kernel
theorem d_Table_nearestReverse_23 : decode prog_11_method_9_code 23 = .ok (.invokevirtual 25, 3) := by decide +kernel
theorem d_Table_nearestReverse_26 : decode prog_11_method_9_code 26 = .ok (.if_icmp .ge 93, 3) := by decide +kernel
theorem d_Table_nearestReverse_29 : decode prog_11_method_9_code 29 = .ok (.aload_n 0, 1) := by decide +kernel
theorem d_Table_nearestReverse_30 : decode prog_11_method_9_code 30 = .ok (.getfield 12, 3) := by decide +kernel
theorem d_Table_nearestReverse_33 : decode prog_11_method_9_code 33 = .ok (.iload 4, 2) := by decide +kernel
theorem d_Table_nearestReverse_35 : decode prog_11_method_9_code 35 = .ok (.invokevirtual 37, 3) := by decide +kernel
theorem d_Table_nearestReverse_38 : decode prog_11_method_9_code 38 = .ok (.checkcast 41, 3) := by decide +kernel
theorem d_Table_nearestReverse_41 : decode prog_11_method_9_code 41 = .ok (.astore 5, 2) := by decide +kernel
theorem d_Table_nearestReverse_43 : decode prog_11_method_9_code 43 = .ok (.iload 4, 2) := by decide +kernel
theorem d_Table_nearestReverse_45 : decode prog_11_method_9_code 45 = .ok (.iload_n 1, 1) := by decide +kernel
theorem d_Table_nearestReverse_46 : decode prog_11_method_9_code 46 = .ok (.if_icmp .eq 67, 3) := by decide +kernel
theorem d_Table_nearestReverse_49 : decode prog_11_method_9_code 49 = .ok (.aload_n 0, 1) := by decide +kernel
theorem d_Table_nearestReverse_50 : decode prog_11_method_9_code 50 = .ok (.getfield 18, 3) := by decide +kernel
theorem d_Table_nearestReverse_53 : decode prog_11_method_9_code 53 = .ok (.iload 4, 2) := by decide +kernel
theorem d_Table_nearestReverse_55 : decode prog_11_method_9_code 55 = .ok (.iaload, 1) := by decide +kernel
theorem d_Table_nearestReverse_56 : decode prog_11_method_9_code 56 = .ok (.iconst (-1), 1) := by decide +kernel
theorem d_Table_nearestReverse_57 : decode prog_11_method_9_code 57 = .ok (.if_icmp .ne 56, 3) := by decide +kernel
theorem d_Table_nearestReverse_60 : decode prog_11_method_9_code 60 = .ok (.aload 5, 2) := by decide +kernel
theorem d_Table_nearestReverse_62 : decode prog_11_method_9_code 62 = .ok (.invokevirtual 76, 3) := by decide +kernel
theorem d_Table_nearestReverse_65 : decode prog_11_method_9_code 65 = .ok (.ifCond .eq 48, 3) := by decide +kernel
theorem d_Table_nearestReverse_68 : decode prog_11_method_9_code 68 = .ok (.aload 5, 2) := by decide +kernel
theorem d_Table_nearestReverse_70 : decode prog_11_method_9_code 70 = .ok (.aload_n 2, 1) := by decide +kernel
theorem d_Table_nearestReverse_71 : decode prog_11_method_9_code 71 = .ok (.invokevirtual 84, 3) := by decide +kernel
theorem d_Table_nearestReverse_74 : decode prog_11_method_9_code 74 = .ok (.ifCond .ne 6, 3) := by decide +kernel
theorem d_Table_nearestReverse_77 : decode prog_11_method_9_code 77 = .ok (.goto 36, 3) := by decide +kernel
theorem d_Table_nearestReverse_80 : decode prog_11_method_9_code 80 = .ok (.iload_n 3, 1) := by decide +kernel
theorem d_Table_nearestReverse_81 : decode prog_11_method_9_code 81 = .ok (.iconst (-1), 1) := by decide +kernel
theorem d_Table_nearestReverse_82 : decode prog_11_method_9_code 82 = .ok (.if_icmp .eq 28, 3) := by decide +kernel
theorem d_Table_nearestReverse_85 : decode prog_11_method_9_code 85 = .ok (.aload 5, 2) := by decide +kernel
theorem d_Table_nearestReverse_87 : decode prog_11_method_9_code 87 = .ok (.aload_n 2, 1) := by decide +kernel
theorem d_Table_nearestReverse_88 : decode prog_11_method_9_code 88 = .ok (.invokevirtual 88, 3) := by decide +kernel
theorem d_Table_nearestReverse_91 : decode prog_11_method_9_code 91 = .ok (.aload_n 0, 1) := by decide +kernel
theorem d_Table_nearestReverse_92 : decode prog_11_method_9_code 92 = .ok (.getfield 12, 3) := by decide +kernel
theorem d_Table_nearestReverse_95 : decode prog_11_method_9_code 95 = .ok (.iload_n 3, 1) := by decide +kernel
theorem d_Table_nearestReverse_96 : decode prog_11_method_9_code 96 = .ok (.invokevirtual 37, 3) := by decide +kernel
theorem d_Table_nearestReverse_99 : decode prog_11_method_9_code 99 = .ok (.checkcast 41, 3) := by decide +kernel
theorem d_Table_nearestReverse_102 : decode prog_11_method_9_code 102 = .ok (.aload_n 2, 1) := by decide +kernel
theorem d_Table_nearestReverse_103 : decode prog_11_method_9_code 103 = .ok (.invokevirtual 88, 3) := by decide +kernel
theorem d_Table_nearestReverse_106 : decode prog_11_method_9_code 106 = .ok (.lcmp, 1) := by decide +kernel
theorem d_Table_nearestReverse_107 : decode prog_11_method_9_code 107 = .ok (.ifCond .ge 6, 3) := by decide +kernel
theorem d_Table_nearestReverse_110 : decode prog_11_method_9_code 110 = .ok (.iload 4, 2) := by decide +kernel
theorem d_Table_nearestReverse_112 : decode prog_11_method_9_code 112 = .ok (.istore_n 3, 1) := by decide +kernel
theorem d_Table_nearestReverse_113 : decode prog_11_method_9_code 113 = .ok (.iinc 4 1, 3) := by decide +kernel
theorem d_Table_nearestReverse_116 : decode prog_11_method_9_code 116 = .ok (.goto (-99), 3) := by decide +kernel
theorem d_Table_nearestReverse_119 : decode prog_11_method_9_code 119 = .ok (.iload_n 3, 1) := by decide +kernel
theorem d_Table_nearestReverse_120 : decode prog_11_method_9_code 120 = .ok (.ireturn, 1) := by decide +kernel
theorem q_Table_nearestReverse : (⟨"FlowShelf$Table", "nearestReverse", "(I)I"⟩ : MethodName).cls ≠ "java/lang/invoke/MethodHandle" ∧ (⟨"FlowShelf$Table", "nearestReverse", "(I)I"⟩ : MethodName).cls ≠ "java/lang/invoke/VarHandle" ∧ (parseMethodDescriptor (⟨"FlowShelf$Table", "nearestReverse", "(I)I"⟩ : MethodName).desc).map (fun d => d.parameters.length) = some 1 := by decide +kernel
set_option maxHeartbeats 4000000 in
set_option maxRecDepth 100000 in
theorem m_Table_nearestReverse (X : fs_X) (l : Launch) (a0 : Nat) (x1 : Int32) {r : Int32} {σ σF : fs_S} (h : (f_Table_nearestReverse a0 x1).1 σ = some (r, σF)) : fs_Met X l ⟨"FlowShelf$Table", "nearestReverse", "(I)I"⟩ (Cond.code ⟨"FlowShelf$Table", "nearestReverse", "(I)I"⟩ prog_11_method_9_code 6 (some FieldType.int)) 3 64 [.ref a0, .int x1] σ (fs_eI r) σF := by
  refine fs_ofW (by decide) ?_
  intro p e s m args below meth c s₁ B hml hT hv
  obtain ⟨rfl, hw0, hG⟩ := hv
  have hx := B.exec
  have hb := B.bytes
  have hr := B.returns
  have hk := B.notSynchronized
  have S : CallFix p m c prog_11_method_9_code 6 s _ fs_ws "FlowShelf$Table" := ⟨B.exec, B.bytes, hml, findClass_of_methodNamed B.named, fun w hw => atoms_spec (ws := _ :: fs_ws) B.pre w (List.mem_cons_of_mem _ hw)⟩
  have hR := fs_hR (fr := 3) (lo := 64) ((f_Table_nearestReverse a0 x1).2 _ _ _ h)
  have hl := lv_entry ([.ref a0, .int x1]) (n := 6) (Nat.le_of_ble_eq_true rfl)
  rw [lg_entry_eq]
  generalize (lg_sl ([.ref a0, .int x1]) ++ List.replicate (6 - (lg_sl ([.ref a0, .int x1])).length) Slot.unset).toArray = ls at hl ⊢
  have hl : lv_has ls 6 [(0, .ref a0), (1, .int x1)] := hl
  refine (?_ : fs_J X p l e (fs_rm 3 64 σ σF) s m _ below meth c (fs_Q X below _ s (fs_eI r) σ σF) r σ σF (f_Table_nearestReverse a0 x1) (F0 m 0 ls [])) σ s.heap [] 0 0 h hw0 va_S.rf rfl rfl
  clear h hw0
  unfold f_Table_nearestReverse
  refine fs_lift (fun _ _ _ _ => lv_aload_n hx hb d_Table_nearestReverse_0 rfl (lv_at hl 0 rfl)) ?_
  refine fs_Jgr S hG fs_in6 rfl 0 (Nat.le_of_ble_eq_true rfl) tw_1_183 (fun _ h9 => h9) d_Table_nearestReverse_1 (fun r1 => ?_)
  refine fs_lift (fun _ _ _ _ => lv_iload_n hx hb d_Table_nearestReverse_4 rfl (lv_at hl 1 rfl)) ?_
  refine fs_JV S hG hR rfl [.int x1] (enc := fun r => some (.ref r)) (fun zr zs zt zh => m_ArrayList_get X l r1 x1 zh) tw_5_114 tw_2_33 tw_2_34 tw_2_35 tw_1_5 q_ArrayList_get ⟨(Nat.le_of_ble_eq_true rfl), (Nat.le_of_ble_eq_true rfl)⟩ hl.1 rfl (Nat.le_of_ble_eq_true rfl) d_Table_nearestReverse_5 (fun r2 => ?_)
  refine fs_Jeq (g2 := F0 m 8 ls [.ref r2]) rfl ?_
  refine fs_Jck S hG rfl tw_5_115 tb_7_83 d_Table_nearestReverse_8 ?_
  refine fs_liftL (fun _ _ _ _ => lv_astore_n (lv' := [(2, .ref r2), (0, .ref a0), (1, .int x1)]) hx hb d_Table_nearestReverse_11 rfl hl (Nat.le_of_ble_eq_true rfl) rfl) (fun ls hl => ?_)
  refine fs_lift (fun _ _ _ _ => lv_iconst (v := (-1)) hx hb d_Table_nearestReverse_12 (by decide)) ?_
  refine fs_liftL (fun _ _ _ _ => lv_istore_n (lv' := [(3, .int (-1)), (2, .ref r2), (0, .ref a0), (1, .int x1)]) hx hb d_Table_nearestReverse_13 rfl hl (Nat.le_of_ble_eq_true rfl) rfl) (fun ls hl => ?_)
  refine fs_lift (fun _ _ _ _ => lv_iconst (v := 0) hx hb d_Table_nearestReverse_14 (by decide)) ?_
  refine fs_liftL (fun _ _ _ _ => lv_istore (lv' := [(4, .int 0), (3, .int (-1)), (2, .ref r2), (0, .ref a0), (1, .int x1)]) hx hb d_Table_nearestReverse_15 hl (Nat.le_of_ble_eq_true rfl) rfl) (fun ls hl => ?_)
  refine fs_Jlp2 (nL := 6) (pc := 17) (rest := []) (I := fun (v3 : Int32) (v4 : Int32) => [(0, .ref a0), (1, .int x1), (2, .ref r2), (3, .int v3), (4, .int v4)]) (fun k17 hk17 v3 v4 ls hl => ?_) _ _ _ _ (lv_sub hl [3, 4, 2, 1, 0] rfl)
  refine fs_lift (fun _ _ _ _ => lv_iload hx hb d_Table_nearestReverse_17 (lv_at hl 4 rfl)) ?_
  refine fs_lift (fun _ _ _ _ => lv_aload_n hx hb d_Table_nearestReverse_19 rfl (lv_at hl 0 rfl)) ?_
  refine fs_Jgr S hG fs_in6 rfl 0 (Nat.le_of_ble_eq_true rfl) tw_1_183 (fun _ h9 => h9) d_Table_nearestReverse_20 (fun r5 => ?_)
  refine fs_JV S hG hR rfl [] (enc := fun r => some (.int r)) (fun zr zs zt zh => m_ArrayList_size X l r5 zh) tw_4_193 tw_2_29 tw_2_30 tw_2_31 tw_1_5 q_ArrayList_size ⟨(Nat.le_of_ble_eq_true rfl), (Nat.le_of_ble_eq_true rfl)⟩ hl.1 rfl (Nat.le_of_ble_eq_true rfl) d_Table_nearestReverse_23 (fun v6 => ?_)
  refine fs_Jeq (g2 := F0 m 26 ls [.int v6, .int v4]) rfl ?_
  refine fs_if (fun _ _ _ _ => lv_icmp_ge hx hb d_Table_nearestReverse_26 rfl) ?_ ?_
  · refine fs_lift (fun _ _ _ _ => lv_iload_n hx hb d_Table_nearestReverse_119 rfl (lv_at hl 3 rfl)) ?_
    exact fs_Jiret S hr hk rfl d_Table_nearestReverse_120
  · refine fs_lift (fun _ _ _ _ => lv_aload_n hx hb d_Table_nearestReverse_29 rfl (lv_at hl 0 rfl)) ?_
    refine fs_Jgr S hG fs_in6 rfl 0 (Nat.le_of_ble_eq_true rfl) tw_1_183 (fun _ h9 => h9) d_Table_nearestReverse_30 (fun r7 => ?_)
    refine fs_lift (fun _ _ _ _ => lv_iload hx hb d_Table_nearestReverse_33 (lv_at hl 4 rfl)) ?_
    refine fs_JV S hG hR rfl [.int v4] (enc := fun r => some (.ref r)) (fun zr zs zt zh => m_ArrayList_get X l r7 v4 zh) tw_5_114 tw_2_33 tw_2_34 tw_2_35 tw_1_5 q_ArrayList_get ⟨(Nat.le_of_ble_eq_true rfl), (Nat.le_of_ble_eq_true rfl)⟩ hl.1 rfl (Nat.le_of_ble_eq_true rfl) d_Table_nearestReverse_35 (fun r8 => ?_)
    refine fs_Jeq (g2 := F0 m 38 ls [.ref r8]) rfl ?_
    refine fs_Jck S hG rfl tw_5_115 tb_7_83 d_Table_nearestReverse_38 ?_
    refine fs_liftL (fun _ _ _ _ => lv_astore (lv' := [(5, .ref r8), (0, .ref a0), (1, .int x1), (2, .ref r2), (3, .int v3), (4, .int v4)]) hx hb d_Table_nearestReverse_41 hl (Nat.le_of_ble_eq_true rfl) rfl) (fun ls hl => ?_)
    refine fs_lift (fun _ _ _ _ => lv_iload hx hb d_Table_nearestReverse_43 (lv_at hl 5 rfl)) ?_
    refine fs_lift (fun _ _ _ _ => lv_iload_n hx hb d_Table_nearestReverse_45 rfl (lv_at hl 2 rfl)) ?_
    refine fs_Jlet1 (nL := 6) (pj := 113) (I := fun (v17 : Int32) => [(0, .ref a0), (1, .int x1), (2, .ref r2), (3, .int v17), (4, .int v4)]) (st := fun (v17 : Int32) => []) (fun v17 ls hl => ?_) (fun j113 hj113 => ?_)
    · refine fs_Jnm (fun v18 hv9 => ?_)
      refine fs_liftL (fun _ _ _ _ => lv_iinc (k := 4) (v := v18) (lv' := [(4, .int v18), (0, .ref a0), (1, .int x1), (2, .ref r2), (3, .int v17)]) hx hb d_Table_nearestReverse_113 hl rfl (by rw [hv9]; rfl) (Nat.le_of_ble_eq_true rfl) rfl) (fun ls hl => ?_)
      refine fs_lift (fun _ _ _ _ => lv_goto hx hb d_Table_nearestReverse_116 rfl) ?_
      exact hk17 v17 v18 ls (lv_sub hl [1, 2, 3, 4, 0] rfl)
    · refine fs_if (fun _ _ _ _ => lv_icmp_eq hx hb d_Table_nearestReverse_46 rfl) ?_ ?_
      · exact hj113 v3 ls (lv_sub hl [1, 2, 3, 4, 5] rfl)
      · refine fs_lift (fun _ _ _ _ => lv_aload_n hx hb d_Table_nearestReverse_49 rfl (lv_at hl 1 rfl)) ?_
        refine fs_Jgr S hG fs_in6 rfl 1 (Nat.le_of_ble_eq_true rfl) tw_1_186 (fun _ h9 => h9) d_Table_nearestReverse_50 (fun r9 => ?_)
        refine fs_lift (fun _ _ _ _ => lv_iload hx hb d_Table_nearestReverse_53 (lv_at hl 5 rfl)) ?_
        refine fs_Jai S hG d_Table_nearestReverse_55 (fun v10 => ?_)
        refine fs_lift (fun _ _ _ _ => lv_iconst (v := (-1)) hx hb d_Table_nearestReverse_56 (by decide)) ?_
        refine fs_ifn (fun _ _ _ _ => lv_icmp_ne hx hb d_Table_nearestReverse_57 rfl) ?_ ?_
        · refine fs_lift (fun _ _ _ _ => lv_aload hx hb d_Table_nearestReverse_60 (lv_at hl 0 rfl)) ?_
          refine fs_JV S hG hR rfl [] (enc := fun r => some (.int r)) (fun zr zs zt zh => m_Row_canBePaired X l r8 zh) tw_5_142 tw_5_143 tw_5_144 tw_5_145 tw_1_28 q_Row_canBePaired ⟨(Nat.le_of_ble_eq_true rfl), (Nat.le_of_ble_eq_true rfl)⟩ hl.1 rfl (Nat.le_of_ble_eq_true rfl) d_Table_nearestReverse_62 (fun v11 => ?_)
          refine fs_Jeq (g2 := F0 m 65 ls [.int v11]) rfl ?_
          refine fs_if (fun _ _ _ _ => lv_if_eq hx hb d_Table_nearestReverse_65 rfl) ?_ ?_
          · exact hj113 v3 ls (lv_sub hl [1, 2, 3, 4, 5] rfl)
          · refine fs_lift (fun _ _ _ _ => lv_aload hx hb d_Table_nearestReverse_68 (lv_at hl 0 rfl)) ?_
            refine fs_lift (fun _ _ _ _ => lv_aload_n hx hb d_Table_nearestReverse_70 rfl (lv_at hl 3 rfl)) ?_
            refine fs_JV S hG hR rfl [.ref r2] (enc := fun r => some (.int r)) (fun zr zs zt zh => m_Row_isReverseOf X l r8 r2 zh) tw_5_155 tw_5_156 tw_5_157 tw_5_158 tw_1_28 q_Row_isReverseOf ⟨(Nat.le_of_ble_eq_true rfl), (Nat.le_of_ble_eq_true rfl)⟩ hl.1 rfl (Nat.le_of_ble_eq_true rfl) d_Table_nearestReverse_71 (fun v12 => ?_)
            refine fs_Jeq (g2 := F0 m 74 ls [.int v12]) rfl ?_
            refine fs_ifn (fun _ _ _ _ => lv_if_ne hx hb d_Table_nearestReverse_74 rfl) ?_ ?_
            · refine fs_lift (fun _ _ _ _ => lv_goto hx hb d_Table_nearestReverse_77 rfl) ?_
              exact hj113 v3 ls (lv_sub hl [1, 2, 3, 4, 5] rfl)
            · refine fs_lift (fun _ _ _ _ => lv_iload_n hx hb d_Table_nearestReverse_80 rfl (lv_at hl 4 rfl)) ?_
              refine fs_lift (fun _ _ _ _ => lv_iconst (v := (-1)) hx hb d_Table_nearestReverse_81 (by decide)) ?_
              refine fs_Jlet1 (nL := 6) (pj := 110) (I := fun (_ : Unit) => [(0, .ref a0), (1, .int x1), (2, .ref r2), (4, .int v4)]) (st := fun (_ : Unit) => []) (fun _ ls hl => ?_) (fun j110 hj110 => ?_)
              · refine fs_lift (fun _ _ _ _ => lv_iload hx hb d_Table_nearestReverse_110 (lv_at hl 3 rfl)) ?_
                refine fs_liftL (fun _ _ _ _ => lv_istore_n (lv' := [(3, .int v4), (0, .ref a0), (1, .int x1), (2, .ref r2), (4, .int v4)]) hx hb d_Table_nearestReverse_112 rfl hl (Nat.le_of_ble_eq_true rfl) rfl) (fun ls hl => ?_)
                exact hj113 v4 ls (lv_sub hl [1, 2, 3, 0, 4] rfl)
              · refine fs_if (fun _ _ _ _ => lv_icmp_eq hx hb d_Table_nearestReverse_82 rfl) ?_ ?_
                · exact hj110 () ls (lv_sub hl [1, 2, 3, 5] rfl)
                · refine fs_lift (fun _ _ _ _ => lv_aload hx hb d_Table_nearestReverse_85 (lv_at hl 0 rfl)) ?_
                  refine fs_lift (fun _ _ _ _ => lv_aload_n hx hb d_Table_nearestReverse_87 rfl (lv_at hl 3 rfl)) ?_
                  refine fs_JV S hG hR rfl [.ref r2] (enc := fun r => some (.long r)) (fun zr zs zt zh => m_Row_ticksBetween X l r8 r2 zh) tw_5_159 tw_5_160 tw_5_161 tw_5_162 tw_1_28 q_Row_ticksBetween ⟨(Nat.le_of_ble_eq_true rfl), (Nat.le_of_ble_eq_true rfl)⟩ hl.1 rfl (Nat.le_of_ble_eq_true rfl) d_Table_nearestReverse_88 (fun v13 => ?_)
                  refine fs_Jeq (g2 := F0 m 91 ls [.long v13]) rfl ?_
                  refine fs_lift (fun _ _ _ _ => lv_aload_n hx hb d_Table_nearestReverse_91 rfl (lv_at hl 1 rfl)) ?_
                  refine fs_Jgr S hG fs_in6 rfl 0 (Nat.le_of_ble_eq_true rfl) tw_1_183 (fun _ h9 => h9) d_Table_nearestReverse_92 (fun r14 => ?_)
                  refine fs_lift (fun _ _ _ _ => lv_iload_n hx hb d_Table_nearestReverse_95 rfl (lv_at hl 4 rfl)) ?_
                  refine fs_JV S hG hR rfl [.int v3] (enc := fun r => some (.ref r)) (fun zr zs zt zh => m_ArrayList_get X l r14 v3 zh) tw_5_114 tw_2_33 tw_2_34 tw_2_35 tw_1_5 q_ArrayList_get ⟨(Nat.le_of_ble_eq_true rfl), (Nat.le_of_ble_eq_true rfl)⟩ hl.1 rfl (Nat.le_of_ble_eq_true rfl) d_Table_nearestReverse_96 (fun r15 => ?_)
                  refine fs_Jeq (g2 := F0 m 99 ls [.ref r15, .long v13]) rfl ?_
                  refine fs_Jck S hG rfl tw_5_115 tb_7_83 d_Table_nearestReverse_99 ?_
                  refine fs_lift (fun _ _ _ _ => lv_aload_n hx hb d_Table_nearestReverse_102 rfl (lv_at hl 3 rfl)) ?_
                  refine fs_JV S hG hR rfl [.ref r2] (enc := fun r => some (.long r)) (fun zr zs zt zh => m_Row_ticksBetween X l r15 r2 zh) tw_5_159 tw_5_160 tw_5_161 tw_5_162 tw_1_28 q_Row_ticksBetween ⟨(Nat.le_of_ble_eq_true rfl), (Nat.le_of_ble_eq_true rfl)⟩ hl.1 rfl (Nat.le_of_ble_eq_true rfl) d_Table_nearestReverse_103 (fun v16 => ?_)
                  refine fs_Jeq (g2 := F0 m 106 ls [.long v16, .long v13]) rfl ?_
                  refine fs_lift (fun _ _ _ _ => W.lcmp hx hb d_Table_nearestReverse_106) ?_
                  refine fs_if (fun _ _ _ _ => lv_if_ge hx hb d_Table_nearestReverse_107 rfl) ?_ ?_
                  · exact hj113 v3 ls (lv_sub hl [1, 2, 3, 4, 5] rfl)
                  · exact hj110 () ls (lv_sub hl [1, 2, 3, 5] rfl)
        · exact hj113 v3 ls (lv_sub hl [1, 2, 3, 4, 5] rfl)

theorem d_Table_pairAll_0 : decode prog_11_method_6_code 0 = .ok (.aload_n 0, 1) := by decide +kernel
theorem d_Table_pairAll_1 : decode prog_11_method_6_code 1 = .ok (.getfield 18, 3) := by decide +kernel
theorem d_Table_pairAll_4 : decode prog_11_method_6_code 4 = .ok (.iconst (-1), 1) := by decide +kernel
theorem d_Table_pairAll_5 : decode prog_11_method_6_code 5 = .ok (.invokestatic 60, 3) := by decide +kernel
theorem d_Table_pairAll_8 : decode prog_11_method_6_code 8 = .ok (.aload_n 0, 1) := by decide +kernel
theorem d_Table_pairAll_9 : decode prog_11_method_6_code 9 = .ok (.invokevirtual 66, 3) := by decide +kernel
theorem d_Table_pairAll_12 : decode prog_11_method_6_code 12 = .ok (.iconst 0, 1) := by decide +kernel
theorem d_Table_pairAll_13 : decode prog_11_method_6_code 13 = .ok (.istore_n 1, 1) := by decide +kernel
theorem d_Table_pairAll_14 : decode prog_11_method_6_code 14 = .ok (.iload_n 1, 1) := by decide +kernel
theorem d_Table_pairAll_15 : decode prog_11_method_6_code 15 = .ok (.aload_n 0, 1) := by decide +kernel
theorem d_Table_pairAll_16 : decode prog_11_method_6_code 16 = .ok (.getfield 69, 3) := by decide +kernel
theorem d_Table_pairAll_19 : decode prog_11_method_6_code 19 = .ok (.if_icmp .ge 51, 3) := by decide +kernel
theorem d_Table_pairAll_22 : decode prog_11_method_6_code 22 = .ok (.aload_n 0, 1) := by decide +kernel
theorem d_Table_pairAll_23 : decode prog_11_method_6_code 23 = .ok (.getfield 22, 3) := by decide +kernel
theorem d_Table_pairAll_26 : decode prog_11_method_6_code 26 = .ok (.iload_n 1, 1) := by decide +kernel
theorem d_Table_pairAll_27 : decode prog_11_method_6_code 27 = .ok (.iaload, 1) := by decide +kernel
theorem d_Table_pairAll_28 : decode prog_11_method_6_code 28 = .ok (.istore_n 2, 1) := by decide +kernel
theorem d_Table_pairAll_29 : decode prog_11_method_6_code 29 = .ok (.aload_n 0, 1) := by decide +kernel
theorem d_Table_pairAll_30 : decode prog_11_method_6_code 30 = .ok (.getfield 18, 3) := by decide +kernel
theorem d_Table_pairAll_33 : decode prog_11_method_6_code 33 = .ok (.iload_n 2, 1) := by decide +kernel
theorem d_Table_pairAll_34 : decode prog_11_method_6_code 34 = .ok (.iaload, 1) := by decide +kernel
theorem d_Table_pairAll_35 : decode prog_11_method_6_code 35 = .ok (.iconst (-1), 1) := by decide +kernel
theorem d_Table_pairAll_36 : decode prog_11_method_6_code 36 = .ok (.if_icmp .ne 28, 3) := by decide +kernel
theorem d_Table_pairAll_39 : decode prog_11_method_6_code 39 = .ok (.aload_n 0, 1) := by decide +kernel
theorem d_Table_pairAll_40 : decode prog_11_method_6_code 40 = .ok (.iload_n 2, 1) := by decide +kernel
theorem d_Table_pairAll_41 : decode prog_11_method_6_code 41 = .ok (.invokevirtual 72, 3) := by decide +kernel
theorem d_Table_pairAll_44 : decode prog_11_method_6_code 44 = .ok (.istore_n 3, 1) := by decide +kernel
theorem d_Table_pairAll_45 : decode prog_11_method_6_code 45 = .ok (.iload_n 3, 1) := by decide +kernel
theorem d_Table_pairAll_46 : decode prog_11_method_6_code 46 = .ok (.iconst (-1), 1) := by decide +kernel
theorem d_Table_pairAll_47 : decode prog_11_method_6_code 47 = .ok (.if_icmp .eq 17, 3) := by decide +kernel
theorem d_Table_pairAll_50 : decode prog_11_method_6_code 50 = .ok (.aload_n 0, 1) := by decide +kernel
theorem d_Table_pairAll_51 : decode prog_11_method_6_code 51 = .ok (.getfield 18, 3) := by decide +kernel
theorem d_Table_pairAll_54 : decode prog_11_method_6_code 54 = .ok (.iload_n 2, 1) := by decide +kernel
theorem d_Table_pairAll_55 : decode prog_11_method_6_code 55 = .ok (.iload_n 3, 1) := by decide +kernel
theorem d_Table_pairAll_56 : decode prog_11_method_6_code 56 = .ok (.iastore, 1) := by decide +kernel
theorem d_Table_pairAll_57 : decode prog_11_method_6_code 57 = .ok (.aload_n 0, 1) := by decide +kernel
theorem d_Table_pairAll_58 : decode prog_11_method_6_code 58 = .ok (.getfield 18, 3) := by decide +kernel
theorem d_Table_pairAll_61 : decode prog_11_method_6_code 61 = .ok (.iload_n 3, 1) := by decide +kernel
theorem d_Table_pairAll_62 : decode prog_11_method_6_code 62 = .ok (.iload_n 2, 1) := by decide +kernel
theorem d_Table_pairAll_63 : decode prog_11_method_6_code 63 = .ok (.iastore, 1) := by decide +kernel
theorem d_Table_pairAll_64 : decode prog_11_method_6_code 64 = .ok (.iinc 1 1, 3) := by decide +kernel
theorem d_Table_pairAll_67 : decode prog_11_method_6_code 67 = .ok (.goto (-53), 3) := by decide +kernel
theorem d_Table_pairAll_70 : decode prog_11_method_6_code 70 = .ok (.aload_n 0, 1) := by decide +kernel
theorem d_Table_pairAll_71 : decode prog_11_method_6_code 71 = .ok (.aload_n 0, 1) := by decide +kernel
theorem d_Table_pairAll_72 : decode prog_11_method_6_code 72 = .ok (.getfield 12, 3) := by decide +kernel
theorem d_Table_pairAll_75 : decode prog_11_method_6_code 75 = .ok (.invokevirtual 25, 3) := by decide +kernel
theorem d_Table_pairAll_78 : decode prog_11_method_6_code 78 = .ok (.putfield 54, 3) := by decide +kernel
theorem d_Table_pairAll_81 : decode prog_11_method_6_code 81 = .ok (.return_, 1) := by decide +kernel
theorem q_Table_pairAll : (⟨"FlowShelf$Table", "pairAll", "()V"⟩ : MethodName).cls ≠ "java/lang/invoke/MethodHandle" ∧ (⟨"FlowShelf$Table", "pairAll", "()V"⟩ : MethodName).cls ≠ "java/lang/invoke/VarHandle" ∧ (parseMethodDescriptor (⟨"FlowShelf$Table", "pairAll", "()V"⟩ : MethodName).desc).map (fun d => d.parameters.length) = some 0 := by decide +kernel
set_option maxHeartbeats 4000000 in
set_option maxRecDepth 100000 in
theorem m_Table_pairAll (X : fs_X) (l : Launch) (a0 : Nat) {r : Unit} {σ σF : fs_S} (h : (f_Table_pairAll a0).1 σ = some (r, σF)) : fs_Met X l ⟨"FlowShelf$Table", "pairAll", "()V"⟩ (Cond.code ⟨"FlowShelf$Table", "pairAll", "()V"⟩ prog_11_method_6_code 4 none) 5 107 [.ref a0] σ (fs_eV r) σF := by
  refine fs_ofW (by decide) ?_
  intro p e s m args below meth c s₁ B hml hT hv
  obtain ⟨rfl, hw0, hG⟩ := hv
  have hx := B.exec
  have hb := B.bytes
  have hr := B.returns
  have hk := B.notSynchronized
  have S : CallFix p m c prog_11_method_6_code 4 s _ fs_ws "FlowShelf$Table" := ⟨B.exec, B.bytes, hml, findClass_of_methodNamed B.named, fun w hw => atoms_spec (ws := _ :: fs_ws) B.pre w (List.mem_cons_of_mem _ hw)⟩
  have hR := fs_hR (fr := 5) (lo := 107) ((f_Table_pairAll a0).2 _ _ _ h)
  have hl := lv_entry ([.ref a0]) (n := 4) (Nat.le_of_ble_eq_true rfl)
  rw [lg_entry_eq]
  generalize (lg_sl ([.ref a0]) ++ List.replicate (4 - (lg_sl ([.ref a0])).length) Slot.unset).toArray = ls at hl ⊢
  have hl : lv_has ls 4 [(0, .ref a0)] := hl
  refine (?_ : fs_J X p l e (fs_rm 5 107 σ σF) s m _ below meth c (fs_Q X below _ s (fs_eV r) σ σF) r σ σF (f_Table_pairAll a0) (F0 m 0 ls [])) σ s.heap [] 0 0 h hw0 va_S.rf rfl rfl
  clear h hw0
  unfold f_Table_pairAll
  refine fs_lift (fun _ _ _ _ => lv_aload_n hx hb d_Table_pairAll_0 rfl (lv_at hl 0 rfl)) ?_
  refine fs_Jgr S hG fs_in6 rfl 1 (Nat.le_of_ble_eq_true rfl) tw_1_186 (fun _ h9 => h9) d_Table_pairAll_1 (fun r1 => ?_)
  refine fs_lift (fun _ _ _ _ => lv_iconst (v := (-1)) hx hb d_Table_pairAll_4 (by decide)) ?_
  refine fs_JS S hG hR [.ref r1, .int (-1)] (enc := fun _ => none) (fun zr zs zt zh => m_Arrays_fill_1 X l r1 (-1) zh) tw_5_135 tw_5_136 tw_5_137 tw_1_22 q_Arrays_fill_1 ⟨(Nat.le_of_ble_eq_true rfl), (Nat.le_of_ble_eq_true rfl)⟩ hl.1 rfl (Nat.le_of_ble_eq_true rfl) d_Table_pairAll_5 (fun _ => ?_)
  refine fs_Jeq (g2 := F0 m 8 ls []) rfl ?_
  refine fs_lift (fun _ _ _ _ => lv_aload_n hx hb d_Table_pairAll_8 rfl (lv_at hl 0 rfl)) ?_
  refine fs_JV S hG hR rfl [] (enc := fun _ => none) (fun zr zs zt zh => m_Table_putInOrder X l a0 zh) tw_5_138 tw_5_139 tw_5_140 tw_5_141 tw_1_9 q_Table_putInOrder ⟨(Nat.le_of_ble_eq_true rfl), (Nat.le_of_ble_eq_true rfl)⟩ hl.1 rfl (Nat.le_of_ble_eq_true rfl) d_Table_pairAll_9 (fun _ => ?_)
  refine fs_Jeq (g2 := F0 m 12 ls []) rfl ?_
  refine fs_lift (fun _ _ _ _ => lv_iconst (v := 0) hx hb d_Table_pairAll_12 (by decide)) ?_
  refine fs_liftL (fun _ _ _ _ => lv_istore_n (lv' := [(1, .int 0), (0, .ref a0)]) hx hb d_Table_pairAll_13 rfl hl (Nat.le_of_ble_eq_true rfl) rfl) (fun ls hl => ?_)
  refine fs_Jlp1 (nL := 4) (pc := 14) (rest := []) (I := fun (v2 : Int32) => [(0, .ref a0), (1, .int v2)]) (fun k14 hk14 v2 ls hl => ?_) _ _ _ (lv_sub hl [1, 0] rfl)
  refine fs_lift (fun _ _ _ _ => lv_iload_n hx hb d_Table_pairAll_14 rfl (lv_at hl 1 rfl)) ?_
  refine fs_lift (fun _ _ _ _ => lv_aload_n hx hb d_Table_pairAll_15 rfl (lv_at hl 0 rfl)) ?_
  refine fs_Jgi S hG fs_in6 rfl 3 (Nat.le_of_ble_eq_true rfl) tw_1_188 (fun _ h9 => h9) d_Table_pairAll_16 (fun v3 => ?_)
  refine fs_if (fun _ _ _ _ => lv_icmp_ge hx hb d_Table_pairAll_19 rfl) ?_ ?_
  · refine fs_lift (fun _ _ _ _ => lv_aload_n hx hb d_Table_pairAll_70 rfl (lv_at hl 0 rfl)) ?_
    refine fs_lift (fun _ _ _ _ => lv_aload_n hx hb d_Table_pairAll_71 rfl (lv_at hl 0 rfl)) ?_
    refine fs_Jgr S hG fs_in6 rfl 0 (Nat.le_of_ble_eq_true rfl) tw_1_183 (fun _ h9 => h9) d_Table_pairAll_72 (fun r4 => ?_)
    refine fs_JV S hG hR rfl [] (enc := fun r => some (.int r)) (fun zr zs zt zh => m_ArrayList_size X l r4 zh) tw_4_193 tw_2_29 tw_2_30 tw_2_31 tw_1_5 q_ArrayList_size ⟨(Nat.le_of_ble_eq_true rfl), (Nat.le_of_ble_eq_true rfl)⟩ hl.1 rfl (Nat.le_of_ble_eq_true rfl) d_Table_pairAll_75 (fun v5 => ?_)
    refine fs_Jeq (g2 := F0 m 78 ls [.int v5, .ref a0]) rfl ?_
    refine fs_Jput S hG fs_in6 rfl 4 (Nat.le_of_ble_eq_true rfl) tw_1_189 (fun _ h9 => h9) fs_Y6 fs_ty6 fs_nm6 (Or.inl rfl) rfl rfl d_Table_pairAll_78 ?_
    exact fs_Jvret S hr hk rfl d_Table_pairAll_81
  · refine fs_lift (fun _ _ _ _ => lv_aload_n hx hb d_Table_pairAll_22 rfl (lv_at hl 0 rfl)) ?_
    refine fs_Jgr S hG fs_in6 rfl 2 (Nat.le_of_ble_eq_true rfl) tw_1_187 (fun _ h9 => h9) d_Table_pairAll_23 (fun r6 => ?_)
    refine fs_lift (fun _ _ _ _ => lv_iload_n hx hb d_Table_pairAll_26 rfl (lv_at hl 1 rfl)) ?_
    refine fs_Jai S hG d_Table_pairAll_27 (fun v7 => ?_)
    refine fs_liftL (fun _ _ _ _ => lv_istore_n (lv' := [(2, .int v7), (0, .ref a0), (1, .int v2)]) hx hb d_Table_pairAll_28 rfl hl (Nat.le_of_ble_eq_true rfl) rfl) (fun ls hl => ?_)
    refine fs_lift (fun _ _ _ _ => lv_aload_n hx hb d_Table_pairAll_29 rfl (lv_at hl 1 rfl)) ?_
    refine fs_Jgr S hG fs_in6 rfl 1 (Nat.le_of_ble_eq_true rfl) tw_1_186 (fun _ h9 => h9) d_Table_pairAll_30 (fun r8 => ?_)
    refine fs_lift (fun _ _ _ _ => lv_iload_n hx hb d_Table_pairAll_33 rfl (lv_at hl 0 rfl)) ?_
    refine fs_Jai S hG d_Table_pairAll_34 (fun v9 => ?_)
    refine fs_lift (fun _ _ _ _ => lv_iconst (v := (-1)) hx hb d_Table_pairAll_35 (by decide)) ?_
    refine fs_Jlet1 (nL := 4) (pj := 64) (I := fun (_ : Unit) => [(0, .ref a0), (1, .int v2)]) (st := fun (_ : Unit) => []) (fun _ ls hl => ?_) (fun j64 hj64 => ?_)
    · refine fs_Jnm (fun v13 hv9 => ?_)
      refine fs_liftL (fun _ _ _ _ => lv_iinc (k := 1) (v := v13) (lv' := [(1, .int v13), (0, .ref a0)]) hx hb d_Table_pairAll_64 hl rfl (by rw [hv9]; rfl) (Nat.le_of_ble_eq_true rfl) rfl) (fun ls hl => ?_)
      refine fs_lift (fun _ _ _ _ => lv_goto hx hb d_Table_pairAll_67 rfl) ?_
      exact hk14 v13 ls (lv_sub hl [1, 0] rfl)
    · refine fs_ifn (fun _ _ _ _ => lv_icmp_ne hx hb d_Table_pairAll_36 rfl) ?_ ?_
      · refine fs_lift (fun _ _ _ _ => lv_aload_n hx hb d_Table_pairAll_39 rfl (lv_at hl 1 rfl)) ?_
        refine fs_lift (fun _ _ _ _ => lv_iload_n hx hb d_Table_pairAll_40 rfl (lv_at hl 0 rfl)) ?_
        refine fs_JV S hG hR rfl [.int v7] (enc := fun r => some (.int r)) (fun zr zs zt zh => m_Table_nearestReverse X l a0 v7 zh) tw_5_151 tw_5_152 tw_5_153 tw_5_154 tw_1_9 q_Table_nearestReverse ⟨(Nat.le_of_ble_eq_true rfl), (Nat.le_of_ble_eq_true rfl)⟩ hl.1 rfl (Nat.le_of_ble_eq_true rfl) d_Table_pairAll_41 (fun v10 => ?_)
        refine fs_Jeq (g2 := F0 m 44 ls [.int v10]) rfl ?_
        refine fs_liftL (fun _ _ _ _ => lv_istore_n (lv' := [(3, .int v10), (2, .int v7), (0, .ref a0), (1, .int v2)]) hx hb d_Table_pairAll_44 rfl hl (Nat.le_of_ble_eq_true rfl) rfl) (fun ls hl => ?_)
        refine fs_lift (fun _ _ _ _ => lv_iload_n hx hb d_Table_pairAll_45 rfl (lv_at hl 0 rfl)) ?_
        refine fs_lift (fun _ _ _ _ => lv_iconst (v := (-1)) hx hb d_Table_pairAll_46 (by decide)) ?_
        refine fs_if (fun _ _ _ _ => lv_icmp_eq hx hb d_Table_pairAll_47 rfl) ?_ ?_
        · exact hj64 () ls (lv_sub hl [2, 3] rfl)
        · refine fs_lift (fun _ _ _ _ => lv_aload_n hx hb d_Table_pairAll_50 rfl (lv_at hl 2 rfl)) ?_
          refine fs_Jgr S hG fs_in6 rfl 1 (Nat.le_of_ble_eq_true rfl) tw_1_186 (fun _ h9 => h9) d_Table_pairAll_51 (fun r11 => ?_)
          refine fs_lift (fun _ _ _ _ => lv_iload_n hx hb d_Table_pairAll_54 rfl (lv_at hl 1 rfl)) ?_
          refine fs_lift (fun _ _ _ _ => lv_iload_n hx hb d_Table_pairAll_55 rfl (lv_at hl 0 rfl)) ?_
          refine fs_Jsi S hG d_Table_pairAll_56 ?_
          refine fs_lift (fun _ _ _ _ => lv_aload_n hx hb d_Table_pairAll_57 rfl (lv_at hl 2 rfl)) ?_
          refine fs_Jgr S hG fs_in6 rfl 1 (Nat.le_of_ble_eq_true rfl) tw_1_186 (fun _ h9 => h9) d_Table_pairAll_58 (fun r12 => ?_)
          refine fs_lift (fun _ _ _ _ => lv_iload_n hx hb d_Table_pairAll_61 rfl (lv_at hl 0 rfl)) ?_
          refine fs_lift (fun _ _ _ _ => lv_iload_n hx hb d_Table_pairAll_62 rfl (lv_at hl 1 rfl)) ?_
          refine fs_Jsi S hG d_Table_pairAll_63 ?_
          exact hj64 () ls (lv_sub hl [2, 3] rfl)
      · exact hj64 () ls (lv_sub hl [1, 2] rfl)

theorem d_Table_partnerOf_0 : decode prog_11_method_5_code 0 = .ok (.aload_n 0, 1) := by decide +kernel
theorem d_Table_partnerOf_1 : decode prog_11_method_5_code 1 = .ok (.getfield 54, 3) := by decide +kernel
theorem d_Table_partnerOf_4 : decode prog_11_method_5_code 4 = .ok (.aload_n 0, 1) := by decide +kernel
theorem d_Table_partnerOf_5 : decode prog_11_method_5_code 5 = .ok (.getfield 12, 3) := by decide +kernel
theorem d_Table_partnerOf_8 : decode prog_11_method_5_code 8 = .ok (.invokevirtual 25, 3) := by decide +kernel
theorem d_Table_partnerOf_11 : decode prog_11_method_5_code 11 = .ok (.if_icmp .eq 7, 3) := by decide +kernel
theorem d_Table_partnerOf_14 : decode prog_11_method_5_code 14 = .ok (.aload_n 0, 1) := by decide +kernel
theorem d_Table_partnerOf_15 : decode prog_11_method_5_code 15 = .ok (.invokevirtual 57, 3) := by decide +kernel
theorem d_Table_partnerOf_18 : decode prog_11_method_5_code 18 = .ok (.aload_n 0, 1) := by decide +kernel
theorem d_Table_partnerOf_19 : decode prog_11_method_5_code 19 = .ok (.getfield 18, 3) := by decide +kernel
theorem d_Table_partnerOf_22 : decode prog_11_method_5_code 22 = .ok (.iload_n 1, 1) := by decide +kernel
theorem d_Table_partnerOf_23 : decode prog_11_method_5_code 23 = .ok (.iaload, 1) := by decide +kernel
theorem d_Table_partnerOf_24 : decode prog_11_method_5_code 24 = .ok (.ireturn, 1) := by decide +kernel
theorem q_Table_partnerOf : (⟨"FlowShelf$Table", "partnerOf", "(I)I"⟩ : MethodName).cls ≠ "java/lang/invoke/MethodHandle" ∧ (⟨"FlowShelf$Table", "partnerOf", "(I)I"⟩ : MethodName).cls ≠ "java/lang/invoke/VarHandle" ∧ (parseMethodDescriptor (⟨"FlowShelf$Table", "partnerOf", "(I)I"⟩ : MethodName).desc).map (fun d => d.parameters.length) = some 1 := by decide +kernel
set_option maxHeartbeats 4000000 in
set_option maxRecDepth 100000 in
theorem m_Table_partnerOf (X : fs_X) (l : Launch) (a0 : Nat) (x1 : Int32) {r : Int32} {σ σF : fs_S} (h : (f_Table_partnerOf a0 x1).1 σ = some (r, σF)) : fs_Met X l ⟨"FlowShelf$Table", "partnerOf", "(I)I"⟩ (Cond.code ⟨"FlowShelf$Table", "partnerOf", "(I)I"⟩ prog_11_method_5_code 2 (some FieldType.int)) 6 130 [.ref a0, .int x1] σ (fs_eI r) σF := by
  refine fs_ofW (by decide) ?_
  intro p e s m args below meth c s₁ B hml hT hv
  obtain ⟨rfl, hw0, hG⟩ := hv
  have hx := B.exec
  have hb := B.bytes
  have hr := B.returns
  have hk := B.notSynchronized
  have S : CallFix p m c prog_11_method_5_code 2 s _ fs_ws "FlowShelf$Table" := ⟨B.exec, B.bytes, hml, findClass_of_methodNamed B.named, fun w hw => atoms_spec (ws := _ :: fs_ws) B.pre w (List.mem_cons_of_mem _ hw)⟩
  have hR := fs_hR (fr := 6) (lo := 130) ((f_Table_partnerOf a0 x1).2 _ _ _ h)
  have hl := lv_entry ([.ref a0, .int x1]) (n := 2) (Nat.le_of_ble_eq_true rfl)
  rw [lg_entry_eq]
  generalize (lg_sl ([.ref a0, .int x1]) ++ List.replicate (2 - (lg_sl ([.ref a0, .int x1])).length) Slot.unset).toArray = ls at hl ⊢
  have hl : lv_has ls 2 [(0, .ref a0), (1, .int x1)] := hl
  refine (?_ : fs_J X p l e (fs_rm 6 130 σ σF) s m _ below meth c (fs_Q X below _ s (fs_eI r) σ σF) r σ σF (f_Table_partnerOf a0 x1) (F0 m 0 ls [])) σ s.heap [] 0 0 h hw0 va_S.rf rfl rfl
  clear h hw0
  unfold f_Table_partnerOf
  refine fs_lift (fun _ _ _ _ => lv_aload_n hx hb d_Table_partnerOf_0 rfl (lv_at hl 0 rfl)) ?_
  refine fs_Jgi S hG fs_in6 rfl 4 (Nat.le_of_ble_eq_true rfl) tw_1_189 (fun _ h9 => h9) d_Table_partnerOf_1 (fun v1 => ?_)
  refine fs_lift (fun _ _ _ _ => lv_aload_n hx hb d_Table_partnerOf_4 rfl (lv_at hl 0 rfl)) ?_
  refine fs_Jgr S hG fs_in6 rfl 0 (Nat.le_of_ble_eq_true rfl) tw_1_183 (fun _ h9 => h9) d_Table_partnerOf_5 (fun r2 => ?_)
  refine fs_JV S hG hR rfl [] (enc := fun r => some (.int r)) (fun zr zs zt zh => m_ArrayList_size X l r2 zh) tw_4_193 tw_2_29 tw_2_30 tw_2_31 tw_1_5 q_ArrayList_size ⟨(Nat.le_of_ble_eq_true rfl), (Nat.le_of_ble_eq_true rfl)⟩ hl.1 rfl (Nat.le_of_ble_eq_true rfl) d_Table_partnerOf_8 (fun v3 => ?_)
  refine fs_Jeq (g2 := F0 m 11 ls [.int v3, .int v1]) rfl ?_
  refine fs_Jlet1 (nL := 2) (pj := 18) (I := fun (_ : Unit) => [(0, .ref a0), (1, .int x1)]) (st := fun (_ : Unit) => []) (fun _ ls hl => ?_) (fun j18 hj18 => ?_)
  · refine fs_lift (fun _ _ _ _ => lv_aload_n hx hb d_Table_partnerOf_18 rfl (lv_at hl 0 rfl)) ?_
    refine fs_Jgr S hG fs_in6 rfl 1 (Nat.le_of_ble_eq_true rfl) tw_1_186 (fun _ h9 => h9) d_Table_partnerOf_19 (fun r4 => ?_)
    refine fs_lift (fun _ _ _ _ => lv_iload_n hx hb d_Table_partnerOf_22 rfl (lv_at hl 1 rfl)) ?_
    refine fs_Jai S hG d_Table_partnerOf_23 (fun v5 => ?_)
    exact fs_Jiret S hr hk rfl d_Table_partnerOf_24
  · refine fs_if (fun _ _ _ _ => lv_icmp_eq hx hb d_Table_partnerOf_11 rfl) ?_ ?_
    · exact hj18 () ls (lv_sub hl [0, 1] rfl)
    · refine fs_lift (fun _ _ _ _ => lv_aload_n hx hb d_Table_partnerOf_14 rfl (lv_at hl 0 rfl)) ?_
      refine fs_JV S hG hR rfl [] (enc := fun _ => none) (fun zr zs zt zh => m_Table_pairAll X l a0 zh) tw_5_131 tw_5_132 tw_5_133 tw_5_134 tw_1_9 q_Table_pairAll ⟨(Nat.le_of_ble_eq_true rfl), (Nat.le_of_ble_eq_true rfl)⟩ hl.1 rfl (Nat.le_of_ble_eq_true rfl) d_Table_partnerOf_15 (fun _ => ?_)
      refine fs_Jeq (g2 := F0 m 18 ls []) rfl ?_
      exact hj18 () ls (lv_sub hl [0, 1] rfl)

