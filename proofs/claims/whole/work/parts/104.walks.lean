/-! contracts of methods, walked by program -/
theorem d_Collector_knownTemplate_0 : decode prog_2_method_4_code 0 = .ok (.iconst 0, 1) := by decide +kernel
theorem d_Collector_knownTemplate_1 : decode prog_2_method_4_code 1 = .ok (.istore_n 2, 1) := by decide +kernel
theorem d_Collector_knownTemplate_2 : decode prog_2_method_4_code 2 = .ok (.iload_n 2, 1) := by decide +kernel
theorem d_Collector_knownTemplate_3 : decode prog_2_method_4_code 3 = .ok (.aload_n 0, 1) := by decide +kernel
theorem d_Collector_knownTemplate_4 : decode prog_2_method_4_code 4 = .ok (.getfield 12, 3) := by decide +kernel
theorem d_Collector_knownTemplate_7 : decode prog_2_method_4_code 7 = .ok (.invokevirtual 38, 3) := by decide +kernel
theorem d_Collector_knownTemplate_10 : decode prog_2_method_4_code 10 = .ok (.if_icmp .ge 29, 3) := by decide +kernel
theorem d_Collector_knownTemplate_13 : decode prog_2_method_4_code 13 = .ok (.aload_n 0, 1) := by decide +kernel
theorem d_Collector_knownTemplate_14 : decode prog_2_method_4_code 14 = .ok (.getfield 12, 3) := by decide +kernel
theorem d_Collector_knownTemplate_17 : decode prog_2_method_4_code 17 = .ok (.iload_n 2, 1) := by decide +kernel
theorem d_Collector_knownTemplate_18 : decode prog_2_method_4_code 18 = .ok (.invokevirtual 42, 3) := by decide +kernel
theorem d_Collector_knownTemplate_21 : decode prog_2_method_4_code 21 = .ok (.checkcast 46, 3) := by decide +kernel
theorem d_Collector_knownTemplate_24 : decode prog_2_method_4_code 24 = .ok (.aload_n 1, 1) := by decide +kernel
theorem d_Collector_knownTemplate_25 : decode prog_2_method_4_code 25 = .ok (.invokevirtual 51, 3) := by decide +kernel
theorem d_Collector_knownTemplate_28 : decode prog_2_method_4_code 28 = .ok (.ifCond .eq 5, 3) := by decide +kernel
theorem d_Collector_knownTemplate_31 : decode prog_2_method_4_code 31 = .ok (.iload_n 2, 1) := by decide +kernel
theorem d_Collector_knownTemplate_32 : decode prog_2_method_4_code 32 = .ok (.ireturn, 1) := by decide +kernel
theorem d_Collector_knownTemplate_33 : decode prog_2_method_4_code 33 = .ok (.iinc 2 1, 3) := by decide +kernel
theorem d_Collector_knownTemplate_36 : decode prog_2_method_4_code 36 = .ok (.goto (-34), 3) := by decide +kernel
theorem d_Collector_knownTemplate_39 : decode prog_2_method_4_code 39 = .ok (.iconst (-1), 1) := by decide +kernel
theorem d_Collector_knownTemplate_40 : decode prog_2_method_4_code 40 = .ok (.ireturn, 1) := by decide +kernel
theorem q_Collector_knownTemplate : (⟨"FlowShelf$Collector", "knownTemplate", "(LFlowShelf$Report;)I"⟩ : MethodName).cls ≠ "java/lang/invoke/MethodHandle" ∧ (⟨"FlowShelf$Collector", "knownTemplate", "(LFlowShelf$Report;)I"⟩ : MethodName).cls ≠ "java/lang/invoke/VarHandle" ∧ (parseMethodDescriptor (⟨"FlowShelf$Collector", "knownTemplate", "(LFlowShelf$Report;)I"⟩ : MethodName).desc).map (fun d => d.parameters.length) = some 1 := by decide +kernel
set_option maxHeartbeats 4000000 in
set_option maxRecDepth 100000 in
theorem m_Collector_knownTemplate (X : fs_X) (l : Launch) (a0 : Nat) (a1 : Nat) {r : Int32} {σ σF : fs_S} (h : (f_Collector_knownTemplate a0 a1).1 σ = some (r, σF)) : fs_Met X l ⟨"FlowShelf$Collector", "knownTemplate", "(LFlowShelf$Report;)I"⟩ (Cond.code ⟨"FlowShelf$Collector", "knownTemplate", "(LFlowShelf$Report;)I"⟩ prog_2_method_4_code 3 (some FieldType.int)) 3 64 [.ref a0, .ref a1] σ (fs_eI r) σF := by
  refine fs_ofW (by decide) ?_
  intro p e s m args below meth c s₁ B hml hT hv
  obtain ⟨rfl, hw0, hG⟩ := hv
  have hx := B.exec
  have hb := B.bytes
  have hr := B.returns
  have hk := B.notSynchronized
  have S : CallFix p m c prog_2_method_4_code 3 s _ fs_ws "FlowShelf$Collector" := ⟨B.exec, B.bytes, hml, findClass_of_methodNamed B.named, fun w hw => atoms_spec (ws := _ :: fs_ws) B.pre w (List.mem_cons_of_mem _ hw)⟩
  have hR := fs_hR (fr := 3) (lo := 64) ((f_Collector_knownTemplate a0 a1).2 _ _ _ h)
  have hl := lv_entry ([.ref a0, .ref a1]) (n := 3) (Nat.le_of_ble_eq_true rfl)
  rw [lg_entry_eq]
  generalize (lg_sl ([.ref a0, .ref a1]) ++ List.replicate (3 - (lg_sl ([.ref a0, .ref a1])).length) Slot.unset).toArray = ls at hl ⊢
  have hl : lv_has ls 3 [(0, .ref a0), (1, .ref a1)] := hl
  refine (?_ : fs_J X p l e (fs_rm 3 64 σ σF) s m _ below meth c (fs_Q X below _ s (fs_eI r) σ σF) r σ σF (f_Collector_knownTemplate a0 a1) (F0 m 0 ls [])) σ s.heap [] 0 0 h hw0 va_S.rf rfl rfl
  clear h hw0
  unfold f_Collector_knownTemplate
  refine fs_lift (fun _ _ _ _ => lv_iconst (v := 0) hx hb d_Collector_knownTemplate_0 (by decide)) ?_
  refine fs_liftL (fun _ _ _ _ => lv_istore_n (lv' := [(2, .int 0), (0, .ref a0), (1, .ref a1)]) hx hb d_Collector_knownTemplate_1 rfl hl (Nat.le_of_ble_eq_true rfl) rfl) (fun ls hl => ?_)
  refine fs_Jlp1 (nL := 3) (pc := 2) (rest := []) (I := fun (v1 : Int32) => [(0, .ref a0), (1, .ref a1), (2, .int v1)]) (fun k2 hk2 v1 ls hl => ?_) _ _ _ (lv_sub hl [1, 2, 0] rfl)
  refine fs_lift (fun _ _ _ _ => lv_iload_n hx hb d_Collector_knownTemplate_2 rfl (lv_at hl 2 rfl)) ?_
  refine fs_lift (fun _ _ _ _ => lv_aload_n hx hb d_Collector_knownTemplate_3 rfl (lv_at hl 0 rfl)) ?_
  refine fs_Jgr S hG fs_in5 rfl 0 (Nat.le_of_ble_eq_true rfl) tw_1_230 (fun _ h9 => h9) d_Collector_knownTemplate_4 (fun r2 => ?_)
  refine fs_JV S hG hR rfl [] (enc := fun r => some (.int r)) (fun zr zs zt zh => m_ArrayList_size X l r2 zh) tw_4_157 tw_2_29 tw_2_30 tw_2_31 tw_1_5 q_ArrayList_size ⟨(Nat.le_of_ble_eq_true rfl), (Nat.le_of_ble_eq_true rfl)⟩ hl.1 rfl (Nat.le_of_ble_eq_true rfl) d_Collector_knownTemplate_7 (fun v3 => ?_)
  refine fs_Jeq (g2 := F0 m 10 ls [.int v3, .int v1]) rfl ?_
  refine fs_if (fun _ _ _ _ => lv_icmp_ge hx hb d_Collector_knownTemplate_10 rfl) ?_ ?_
  · refine fs_lift (fun _ _ _ _ => lv_iconst (v := (-1)) hx hb d_Collector_knownTemplate_39 (by decide)) ?_
    exact fs_Jiret S hr hk rfl d_Collector_knownTemplate_40
  · refine fs_lift (fun _ _ _ _ => lv_aload_n hx hb d_Collector_knownTemplate_13 rfl (lv_at hl 0 rfl)) ?_
    refine fs_Jgr S hG fs_in5 rfl 0 (Nat.le_of_ble_eq_true rfl) tw_1_230 (fun _ h9 => h9) d_Collector_knownTemplate_14 (fun r4 => ?_)
    refine fs_lift (fun _ _ _ _ => lv_iload_n hx hb d_Collector_knownTemplate_17 rfl (lv_at hl 2 rfl)) ?_
    refine fs_JV S hG hR rfl [.int v1] (enc := fun r => some (.ref r)) (fun zr zs zt zh => m_ArrayList_get X l r4 v1 zh) tw_4_158 tw_2_33 tw_2_34 tw_2_35 tw_1_5 q_ArrayList_get ⟨(Nat.le_of_ble_eq_true rfl), (Nat.le_of_ble_eq_true rfl)⟩ hl.1 rfl (Nat.le_of_ble_eq_true rfl) d_Collector_knownTemplate_18 (fun r5 => ?_)
    refine fs_Jeq (g2 := F0 m 21 ls [.ref r5]) rfl ?_
    refine fs_Jck S hG rfl tw_4_159 tb_7_81 d_Collector_knownTemplate_21 ?_
    refine fs_lift (fun _ _ _ _ => lv_aload_n hx hb d_Collector_knownTemplate_24 rfl (lv_at hl 1 rfl)) ?_
    refine fs_JV S hG hR rfl [.ref a1] (enc := fun r => some (.int r)) (fun zr zs zt zh => m_Report_namesSameTemplate X l r5 a1 zh) tw_4_160 tw_4_161 tw_4_162 tw_4_163 tw_1_25 q_Report_namesSameTemplate ⟨(Nat.le_of_ble_eq_true rfl), (Nat.le_of_ble_eq_true rfl)⟩ hl.1 rfl (Nat.le_of_ble_eq_true rfl) d_Collector_knownTemplate_25 (fun v6 => ?_)
    refine fs_Jeq (g2 := F0 m 28 ls [.int v6]) rfl ?_
    refine fs_if (fun _ _ _ _ => lv_if_eq hx hb d_Collector_knownTemplate_28 rfl) ?_ ?_
    · refine fs_Jnm (fun v7 hv9 => ?_)
      refine fs_liftL (fun _ _ _ _ => lv_iinc (k := 2) (v := v7) (lv' := [(2, .int v7), (0, .ref a0), (1, .ref a1)]) hx hb d_Collector_knownTemplate_33 hl rfl (by rw [hv9]; rfl) (Nat.le_of_ble_eq_true rfl) rfl) (fun ls hl => ?_)
      refine fs_lift (fun _ _ _ _ => lv_goto hx hb d_Collector_knownTemplate_36 rfl) ?_
      exact hk2 v7 ls (lv_sub hl [1, 2, 0] rfl)
    · refine fs_lift (fun _ _ _ _ => lv_iload_n hx hb d_Collector_knownTemplate_31 rfl (lv_at hl 2 rfl)) ?_
      exact fs_Jiret S hr hk rfl d_Collector_knownTemplate_32

theorem d_Collector_recordsWaitingFor_0 : decode prog_2_method_6_code 0 = .ok (.iconst 0, 1) := by decide +kernel
theorem d_Collector_recordsWaitingFor_1 : decode prog_2_method_6_code 1 = .ok (.istore_n 2, 1) := by decide +kernel
theorem d_Collector_recordsWaitingFor_2 : decode prog_2_method_6_code 2 = .ok (.iconst 0, 1) := by decide +kernel
theorem d_Collector_recordsWaitingFor_3 : decode prog_2_method_6_code 3 = .ok (.istore_n 3, 1) := by decide +kernel
theorem d_Collector_recordsWaitingFor_4 : decode prog_2_method_6_code 4 = .ok (.iload_n 3, 1) := by decide +kernel
theorem d_Collector_recordsWaitingFor_5 : decode prog_2_method_6_code 5 = .ok (.aload_n 0, 1) := by decide +kernel
theorem d_Collector_recordsWaitingFor_6 : decode prog_2_method_6_code 6 = .ok (.getfield 18, 3) := by decide +kernel
theorem d_Collector_recordsWaitingFor_9 : decode prog_2_method_6_code 9 = .ok (.invokevirtual 38, 3) := by decide +kernel
theorem d_Collector_recordsWaitingFor_12 : decode prog_2_method_6_code 12 = .ok (.if_icmp .ge 44, 3) := by decide +kernel
theorem d_Collector_recordsWaitingFor_15 : decode prog_2_method_6_code 15 = .ok (.aload_n 0, 1) := by decide +kernel
theorem d_Collector_recordsWaitingFor_16 : decode prog_2_method_6_code 16 = .ok (.getfield 18, 3) := by decide +kernel
theorem d_Collector_recordsWaitingFor_19 : decode prog_2_method_6_code 19 = .ok (.iload_n 3, 1) := by decide +kernel
theorem d_Collector_recordsWaitingFor_20 : decode prog_2_method_6_code 20 = .ok (.invokevirtual 42, 3) := by decide +kernel
theorem d_Collector_recordsWaitingFor_23 : decode prog_2_method_6_code 23 = .ok (.checkcast 46, 3) := by decide +kernel
theorem d_Collector_recordsWaitingFor_26 : decode prog_2_method_6_code 26 = .ok (.aload_n 1, 1) := by decide +kernel
theorem d_Collector_recordsWaitingFor_27 : decode prog_2_method_6_code 27 = .ok (.invokevirtual 51, 3) := by decide +kernel
theorem d_Collector_recordsWaitingFor_30 : decode prog_2_method_6_code 30 = .ok (.ifCond .eq 20, 3) := by decide +kernel
theorem d_Collector_recordsWaitingFor_33 : decode prog_2_method_6_code 33 = .ok (.iload_n 2, 1) := by decide +kernel
theorem d_Collector_recordsWaitingFor_34 : decode prog_2_method_6_code 34 = .ok (.aload_n 0, 1) := by decide +kernel
theorem d_Collector_recordsWaitingFor_35 : decode prog_2_method_6_code 35 = .ok (.getfield 18, 3) := by decide +kernel
theorem d_Collector_recordsWaitingFor_38 : decode prog_2_method_6_code 38 = .ok (.iload_n 3, 1) := by decide +kernel
theorem d_Collector_recordsWaitingFor_39 : decode prog_2_method_6_code 39 = .ok (.invokevirtual 42, 3) := by decide +kernel
theorem d_Collector_recordsWaitingFor_42 : decode prog_2_method_6_code 42 = .ok (.checkcast 46, 3) := by decide +kernel
theorem d_Collector_recordsWaitingFor_45 : decode prog_2_method_6_code 45 = .ok (.invokevirtual 83, 3) := by decide +kernel
theorem d_Collector_recordsWaitingFor_48 : decode prog_2_method_6_code 48 = .ok (.iadd, 1) := by decide +kernel
theorem d_Collector_recordsWaitingFor_49 : decode prog_2_method_6_code 49 = .ok (.istore_n 2, 1) := by decide +kernel
theorem d_Collector_recordsWaitingFor_50 : decode prog_2_method_6_code 50 = .ok (.iinc 3 1, 3) := by decide +kernel
theorem d_Collector_recordsWaitingFor_53 : decode prog_2_method_6_code 53 = .ok (.goto (-49), 3) := by decide +kernel
theorem d_Collector_recordsWaitingFor_56 : decode prog_2_method_6_code 56 = .ok (.iload_n 2, 1) := by decide +kernel
theorem d_Collector_recordsWaitingFor_57 : decode prog_2_method_6_code 57 = .ok (.ireturn, 1) := by decide +kernel
theorem q_Collector_recordsWaitingFor : (⟨"FlowShelf$Collector", "recordsWaitingFor", "(LFlowShelf$Report;)I"⟩ : MethodName).cls ≠ "java/lang/invoke/MethodHandle" ∧ (⟨"FlowShelf$Collector", "recordsWaitingFor", "(LFlowShelf$Report;)I"⟩ : MethodName).cls ≠ "java/lang/invoke/VarHandle" ∧ (parseMethodDescriptor (⟨"FlowShelf$Collector", "recordsWaitingFor", "(LFlowShelf$Report;)I"⟩ : MethodName).desc).map (fun d => d.parameters.length) = some 1 := by decide +kernel
set_option maxHeartbeats 4000000 in
set_option maxRecDepth 100000 in
theorem m_Collector_recordsWaitingFor (X : fs_X) (l : Launch) (a0 : Nat) (a1 : Nat) {r : Int32} {σ σF : fs_S} (h : (f_Collector_recordsWaitingFor a0 a1).1 σ = some (r, σF)) : fs_Met X l ⟨"FlowShelf$Collector", "recordsWaitingFor", "(LFlowShelf$Report;)I"⟩ (Cond.code ⟨"FlowShelf$Collector", "recordsWaitingFor", "(LFlowShelf$Report;)I"⟩ prog_2_method_6_code 4 (some FieldType.int)) 3 64 [.ref a0, .ref a1] σ (fs_eI r) σF := by
  refine fs_ofW (by decide) ?_
  intro p e s m args below meth c s₁ B hml hT hv
  obtain ⟨rfl, hw0, hG⟩ := hv
  have hx := B.exec
  have hb := B.bytes
  have hr := B.returns
  have hk := B.notSynchronized
  have S : CallFix p m c prog_2_method_6_code 4 s _ fs_ws "FlowShelf$Collector" := ⟨B.exec, B.bytes, hml, findClass_of_methodNamed B.named, fun w hw => atoms_spec (ws := _ :: fs_ws) B.pre w (List.mem_cons_of_mem _ hw)⟩
  have hR := fs_hR (fr := 3) (lo := 64) ((f_Collector_recordsWaitingFor a0 a1).2 _ _ _ h)
  have hl := lv_entry ([.ref a0, .ref a1]) (n := 4) (Nat.le_of_ble_eq_true rfl)
  rw [lg_entry_eq]
  generalize (lg_sl ([.ref a0, .ref a1]) ++ List.replicate (4 - (lg_sl ([.ref a0, .ref a1])).length) Slot.unset).toArray = ls at hl ⊢
  have hl : lv_has ls 4 [(0, .ref a0), (1, .ref a1)] := hl
  refine (?_ : fs_J X p l e (fs_rm 3 64 σ σF) s m _ below meth c (fs_Q X below _ s (fs_eI r) σ σF) r σ σF (f_Collector_recordsWaitingFor a0 a1) (F0 m 0 ls [])) σ s.heap [] 0 0 h hw0 va_S.rf rfl rfl
  clear h hw0
  unfold f_Collector_recordsWaitingFor
  refine fs_lift (fun _ _ _ _ => lv_iconst (v := 0) hx hb d_Collector_recordsWaitingFor_0 (by decide)) ?_
  refine fs_liftL (fun _ _ _ _ => lv_istore_n (lv' := [(2, .int 0), (0, .ref a0), (1, .ref a1)]) hx hb d_Collector_recordsWaitingFor_1 rfl hl (Nat.le_of_ble_eq_true rfl) rfl) (fun ls hl => ?_)
  refine fs_lift (fun _ _ _ _ => lv_iconst (v := 0) hx hb d_Collector_recordsWaitingFor_2 (by decide)) ?_
  refine fs_liftL (fun _ _ _ _ => lv_istore_n (lv' := [(3, .int 0), (2, .int 0), (0, .ref a0), (1, .ref a1)]) hx hb d_Collector_recordsWaitingFor_3 rfl hl (Nat.le_of_ble_eq_true rfl) rfl) (fun ls hl => ?_)
  refine fs_Jlp2 (nL := 4) (pc := 4) (rest := []) (I := fun (v1 : Int32) (v2 : Int32) => [(0, .ref a0), (1, .ref a1), (2, .int v1), (3, .int v2)]) (fun k4 hk4 v1 v2 ls hl => ?_) _ _ _ _ (lv_sub hl [2, 3, 1, 0] rfl)
  refine fs_lift (fun _ _ _ _ => lv_iload_n hx hb d_Collector_recordsWaitingFor_4 rfl (lv_at hl 3 rfl)) ?_
  refine fs_lift (fun _ _ _ _ => lv_aload_n hx hb d_Collector_recordsWaitingFor_5 rfl (lv_at hl 0 rfl)) ?_
  refine fs_Jgr S hG fs_in5 rfl 1 (Nat.le_of_ble_eq_true rfl) tw_1_231 (fun _ h9 => h9) d_Collector_recordsWaitingFor_6 (fun r3 => ?_)
  refine fs_JV S hG hR rfl [] (enc := fun r => some (.int r)) (fun zr zs zt zh => m_ArrayList_size X l r3 zh) tw_4_157 tw_2_29 tw_2_30 tw_2_31 tw_1_5 q_ArrayList_size ⟨(Nat.le_of_ble_eq_true rfl), (Nat.le_of_ble_eq_true rfl)⟩ hl.1 rfl (Nat.le_of_ble_eq_true rfl) d_Collector_recordsWaitingFor_9 (fun v4 => ?_)
  refine fs_Jeq (g2 := F0 m 12 ls [.int v4, .int v2]) rfl ?_
  refine fs_if (fun _ _ _ _ => lv_icmp_ge hx hb d_Collector_recordsWaitingFor_12 rfl) ?_ ?_
  · refine fs_lift (fun _ _ _ _ => lv_iload_n hx hb d_Collector_recordsWaitingFor_56 rfl (lv_at hl 2 rfl)) ?_
    exact fs_Jiret S hr hk rfl d_Collector_recordsWaitingFor_57
  · refine fs_lift (fun _ _ _ _ => lv_aload_n hx hb d_Collector_recordsWaitingFor_15 rfl (lv_at hl 0 rfl)) ?_
    refine fs_Jgr S hG fs_in5 rfl 1 (Nat.le_of_ble_eq_true rfl) tw_1_231 (fun _ h9 => h9) d_Collector_recordsWaitingFor_16 (fun r5 => ?_)
    refine fs_lift (fun _ _ _ _ => lv_iload_n hx hb d_Collector_recordsWaitingFor_19 rfl (lv_at hl 3 rfl)) ?_
    refine fs_JV S hG hR rfl [.int v2] (enc := fun r => some (.ref r)) (fun zr zs zt zh => m_ArrayList_get X l r5 v2 zh) tw_4_158 tw_2_33 tw_2_34 tw_2_35 tw_1_5 q_ArrayList_get ⟨(Nat.le_of_ble_eq_true rfl), (Nat.le_of_ble_eq_true rfl)⟩ hl.1 rfl (Nat.le_of_ble_eq_true rfl) d_Collector_recordsWaitingFor_20 (fun r6 => ?_)
    refine fs_Jeq (g2 := F0 m 23 ls [.ref r6]) rfl ?_
    refine fs_Jck S hG rfl tw_4_159 tb_7_81 d_Collector_recordsWaitingFor_23 ?_
    refine fs_lift (fun _ _ _ _ => lv_aload_n hx hb d_Collector_recordsWaitingFor_26 rfl (lv_at hl 1 rfl)) ?_
    refine fs_JV S hG hR rfl [.ref a1] (enc := fun r => some (.int r)) (fun zr zs zt zh => m_Report_namesSameTemplate X l r6 a1 zh) tw_4_160 tw_4_161 tw_4_162 tw_4_163 tw_1_25 q_Report_namesSameTemplate ⟨(Nat.le_of_ble_eq_true rfl), (Nat.le_of_ble_eq_true rfl)⟩ hl.1 rfl (Nat.le_of_ble_eq_true rfl) d_Collector_recordsWaitingFor_27 (fun v7 => ?_)
    refine fs_Jeq (g2 := F0 m 30 ls [.int v7]) rfl ?_
    refine fs_Jlet1 (nL := 4) (pj := 50) (I := fun (v12 : Int32) => [(0, .ref a0), (1, .ref a1), (2, .int v12), (3, .int v2)]) (st := fun (v12 : Int32) => []) (fun v12 ls hl => ?_) (fun j50 hj50 => ?_)
    · refine fs_Jnm (fun v13 hv9 => ?_)
      refine fs_liftL (fun _ _ _ _ => lv_iinc (k := 3) (v := v13) (lv' := [(3, .int v13), (0, .ref a0), (1, .ref a1), (2, .int v12)]) hx hb d_Collector_recordsWaitingFor_50 hl rfl (by rw [hv9]; rfl) (Nat.le_of_ble_eq_true rfl) rfl) (fun ls hl => ?_)
      refine fs_lift (fun _ _ _ _ => lv_goto hx hb d_Collector_recordsWaitingFor_53 rfl) ?_
      exact hk4 v12 v13 ls (lv_sub hl [1, 2, 3, 0] rfl)
    · refine fs_if (fun _ _ _ _ => lv_if_eq hx hb d_Collector_recordsWaitingFor_30 rfl) ?_ ?_
      · exact hj50 v1 ls (lv_sub hl [0, 1, 2, 3] rfl)
      · refine fs_lift (fun _ _ _ _ => lv_iload_n hx hb d_Collector_recordsWaitingFor_33 rfl (lv_at hl 2 rfl)) ?_
        refine fs_lift (fun _ _ _ _ => lv_aload_n hx hb d_Collector_recordsWaitingFor_34 rfl (lv_at hl 0 rfl)) ?_
        refine fs_Jgr S hG fs_in5 rfl 1 (Nat.le_of_ble_eq_true rfl) tw_1_231 (fun _ h9 => h9) d_Collector_recordsWaitingFor_35 (fun r8 => ?_)
        refine fs_lift (fun _ _ _ _ => lv_iload_n hx hb d_Collector_recordsWaitingFor_38 rfl (lv_at hl 3 rfl)) ?_
        refine fs_JV S hG hR rfl [.int v2] (enc := fun r => some (.ref r)) (fun zr zs zt zh => m_ArrayList_get X l r8 v2 zh) tw_4_158 tw_2_33 tw_2_34 tw_2_35 tw_1_5 q_ArrayList_get ⟨(Nat.le_of_ble_eq_true rfl), (Nat.le_of_ble_eq_true rfl)⟩ hl.1 rfl (Nat.le_of_ble_eq_true rfl) d_Collector_recordsWaitingFor_39 (fun r9 => ?_)
        refine fs_Jeq (g2 := F0 m 42 ls [.ref r9, .int v1]) rfl ?_
        refine fs_Jck S hG rfl tw_4_159 tb_7_81 d_Collector_recordsWaitingFor_42 ?_
        refine fs_JV S hG hR rfl [] (enc := fun r => some (.int r)) (fun zr zs zt zh => m_Report_records X l r9 zh) tw_4_184 tw_4_136 tw_4_137 tw_4_138 tw_1_25 q_Report_records ⟨(Nat.le_of_ble_eq_true rfl), (Nat.le_of_ble_eq_true rfl)⟩ hl.1 rfl (Nat.le_of_ble_eq_true rfl) d_Collector_recordsWaitingFor_45 (fun v10 => ?_)
        refine fs_Jeq (g2 := F0 m 48 ls [.int v10, .int v1]) rfl ?_
        refine fs_lift (fun _ _ _ _ => lv_iadd hx hb d_Collector_recordsWaitingFor_48) ?_
        refine fs_Jni (fun v11 => ?_)
        refine fs_liftL (fun _ _ _ _ => lv_istore_n (lv' := [(2, .int v11), (0, .ref a0), (1, .ref a1), (3, .int v2)]) hx hb d_Collector_recordsWaitingFor_49 rfl hl (Nat.le_of_ble_eq_true rfl) rfl) (fun ls hl => ?_)
        exact hj50 v11 ls (lv_sub hl [1, 2, 0, 3] rfl)

theorem d_Table_hasRoomFor_0 : decode prog_11_method_2_code 0 = .ok (.aload_n 0, 1) := by decide +kernel
theorem d_Table_hasRoomFor_1 : decode prog_11_method_2_code 1 = .ok (.getfield 12, 3) := by decide +kernel
theorem d_Table_hasRoomFor_4 : decode prog_11_method_2_code 4 = .ok (.invokevirtual 25, 3) := by decide +kernel
theorem d_Table_hasRoomFor_7 : decode prog_11_method_2_code 7 = .ok (.iload_n 1, 1) := by decide +kernel
theorem d_Table_hasRoomFor_8 : decode prog_11_method_2_code 8 = .ok (.iadd, 1) := by decide +kernel
theorem d_Table_hasRoomFor_9 : decode prog_11_method_2_code 9 = .ok (.bipush 80, 2) := by decide +kernel
theorem d_Table_hasRoomFor_11 : decode prog_11_method_2_code 11 = .ok (.if_icmp .gt 7, 3) := by decide +kernel
theorem d_Table_hasRoomFor_14 : decode prog_11_method_2_code 14 = .ok (.iconst 1, 1) := by decide +kernel
theorem d_Table_hasRoomFor_15 : decode prog_11_method_2_code 15 = .ok (.goto 4, 3) := by decide +kernel
theorem d_Table_hasRoomFor_18 : decode prog_11_method_2_code 18 = .ok (.iconst 0, 1) := by decide +kernel
theorem d_Table_hasRoomFor_19 : decode prog_11_method_2_code 19 = .ok (.ireturn, 1) := by decide +kernel
theorem q_Table_hasRoomFor : (⟨"FlowShelf$Table", "hasRoomFor", "(I)Z"⟩ : MethodName).cls ≠ "java/lang/invoke/MethodHandle" ∧ (⟨"FlowShelf$Table", "hasRoomFor", "(I)Z"⟩ : MethodName).cls ≠ "java/lang/invoke/VarHandle" ∧ (parseMethodDescriptor (⟨"FlowShelf$Table", "hasRoomFor", "(I)Z"⟩ : MethodName).desc).map (fun d => d.parameters.length) = some 1 := by decide +kernel
set_option maxHeartbeats 4000000 in
set_option maxRecDepth 100000 in
theorem m_Table_hasRoomFor (X : fs_X) (l : Launch) (a0 : Nat) (x1 : Int32) {r : Int32} {σ σF : fs_S} (h : (f_Table_hasRoomFor a0 x1).1 σ = some (r, σF)) : fs_Met X l ⟨"FlowShelf$Table", "hasRoomFor", "(I)Z"⟩ (Cond.code ⟨"FlowShelf$Table", "hasRoomFor", "(I)Z"⟩ prog_11_method_2_code 2 (some FieldType.boolean)) 1 20 [.ref a0, .int x1] σ (fs_eI r) σF := by
  refine fs_ofW (by decide) ?_
  intro p e s m args below meth c s₁ B hml hT hv
  obtain ⟨rfl, hw0, hG⟩ := hv
  have hx := B.exec
  have hb := B.bytes
  have hr := B.returns
  have hk := B.notSynchronized
  have S : CallFix p m c prog_11_method_2_code 2 s _ fs_ws "FlowShelf$Table" := ⟨B.exec, B.bytes, hml, findClass_of_methodNamed B.named, fun w hw => atoms_spec (ws := _ :: fs_ws) B.pre w (List.mem_cons_of_mem _ hw)⟩
  have hR := fs_hR (fr := 1) (lo := 20) ((f_Table_hasRoomFor a0 x1).2 _ _ _ h)
  have hl := lv_entry ([.ref a0, .int x1]) (n := 2) (Nat.le_of_ble_eq_true rfl)
  rw [lg_entry_eq]
  generalize (lg_sl ([.ref a0, .int x1]) ++ List.replicate (2 - (lg_sl ([.ref a0, .int x1])).length) Slot.unset).toArray = ls at hl ⊢
  have hl : lv_has ls 2 [(0, .ref a0), (1, .int x1)] := hl
  refine (?_ : fs_J X p l e (fs_rm 1 20 σ σF) s m _ below meth c (fs_Q X below _ s (fs_eI r) σ σF) r σ σF (f_Table_hasRoomFor a0 x1) (F0 m 0 ls [])) σ s.heap [] 0 0 h hw0 va_S.rf rfl rfl
  clear h hw0
  unfold f_Table_hasRoomFor
  refine fs_lift (fun _ _ _ _ => lv_aload_n hx hb d_Table_hasRoomFor_0 rfl (lv_at hl 0 rfl)) ?_
  refine fs_Jgr S hG fs_in6 rfl 0 (Nat.le_of_ble_eq_true rfl) tw_1_183 (fun _ h9 => h9) d_Table_hasRoomFor_1 (fun r1 => ?_)
  refine fs_JV S hG hR rfl [] (enc := fun r => some (.int r)) (fun zr zs zt zh => m_ArrayList_size X l r1 zh) tw_4_193 tw_2_29 tw_2_30 tw_2_31 tw_1_5 q_ArrayList_size ⟨(Nat.le_of_ble_eq_true rfl), (Nat.le_of_ble_eq_true rfl)⟩ hl.1 rfl (Nat.le_of_ble_eq_true rfl) d_Table_hasRoomFor_4 (fun v2 => ?_)
  refine fs_Jeq (g2 := F0 m 7 ls [.int v2]) rfl ?_
  refine fs_lift (fun _ _ _ _ => lv_iload_n hx hb d_Table_hasRoomFor_7 rfl (lv_at hl 1 rfl)) ?_
  refine fs_lift (fun _ _ _ _ => lv_iadd hx hb d_Table_hasRoomFor_8) ?_
  refine fs_lift (fun _ _ _ _ => lv_bipush (v := 80) hx hb d_Table_hasRoomFor_9 (by decide)) ?_
  refine fs_if (fun _ _ _ _ => lv_icmp_gt hx hb d_Table_hasRoomFor_11 rfl) ?_ ?_
  · refine fs_lift (fun _ _ _ _ => lv_iconst (v := 0) hx hb d_Table_hasRoomFor_18 (by decide)) ?_
    exact fs_Jzret S hr hk rfl d_Table_hasRoomFor_19
  · refine fs_lift (fun _ _ _ _ => lv_iconst (v := 1) hx hb d_Table_hasRoomFor_14 (by decide)) ?_
    refine fs_lift (fun _ _ _ _ => lv_goto hx hb d_Table_hasRoomFor_15 rfl) ?_
    exact fs_Jzret S hr hk rfl d_Table_hasRoomFor_19

theorem d_Collector_requireRoomFor_0 : decode prog_2_method_12_code 0 = .ok (.aload_n 0, 1) := by decide +kernel
theorem d_Collector_requireRoomFor_1 : decode prog_2_method_12_code 1 = .ok (.getfield 24, 3) := by decide +kernel
theorem d_Collector_requireRoomFor_4 : decode prog_2_method_12_code 4 = .ok (.iload_n 1, 1) := by decide +kernel
theorem d_Collector_requireRoomFor_5 : decode prog_2_method_12_code 5 = .ok (.invokevirtual 131, 3) := by decide +kernel
theorem d_Collector_requireRoomFor_8 : decode prog_2_method_12_code 8 = .ok (.ifCond .ne 13, 3) := by decide +kernel
theorem d_Collector_requireRoomFor_11 : decode prog_2_method_12_code 11 = .ok (.new 59, 3) := by decide +kernel
theorem d_Collector_requireRoomFor_14 : decode prog_2_method_12_code 14 = .ok (.dup, 1) := by decide +kernel
theorem d_Collector_requireRoomFor_15 : decode prog_2_method_12_code 15 = .ok (.ldc 135, 2) := by decide +kernel
theorem d_Collector_requireRoomFor_17 : decode prog_2_method_12_code 17 = .ok (.invokespecial 63, 3) := by decide +kernel
theorem d_Collector_requireRoomFor_20 : decode prog_2_method_12_code 20 = .ok (.athrow, 1) := by decide +kernel
theorem d_Collector_requireRoomFor_21 : decode prog_2_method_12_code 21 = .ok (.return_, 1) := by decide +kernel
theorem q_Collector_requireRoomFor : (⟨"FlowShelf$Collector", "requireRoomFor", "(I)V"⟩ : MethodName).cls ≠ "java/lang/invoke/MethodHandle" ∧ (⟨"FlowShelf$Collector", "requireRoomFor", "(I)V"⟩ : MethodName).cls ≠ "java/lang/invoke/VarHandle" ∧ (parseMethodDescriptor (⟨"FlowShelf$Collector", "requireRoomFor", "(I)V"⟩ : MethodName).desc).map (fun d => d.parameters.length) = some 1 := by decide +kernel
set_option maxHeartbeats 4000000 in
set_option maxRecDepth 100000 in
theorem m_Collector_requireRoomFor (X : fs_X) (l : Launch) (hl0 : l.stackTraces = false) (a0 : Nat) (x1 : Int32) {r : (Unit ⊕ String)} {σ σF : fs_S} (h : (f_Collector_requireRoomFor a0 x1).1 σ = some (r, σF)) : fs_Met X l ⟨"FlowShelf$Collector", "requireRoomFor", "(I)V"⟩ (Cond.code ⟨"FlowShelf$Collector", "requireRoomFor", "(I)V"⟩ prog_2_method_12_code 2 none) 6 82 [.ref a0, .int x1] σ (fs_qV r) σF := by
  refine fs_ofW (by decide) ?_
  intro p e s m args below meth c s₁ B hml hT hv
  obtain ⟨rfl, hw0, hG⟩ := hv
  have hx := B.exec
  have hb := B.bytes
  have hr := B.returns
  have hk := B.notSynchronized
  have S : CallFix p m c prog_2_method_12_code 2 s _ fs_ws "FlowShelf$Collector" := ⟨B.exec, B.bytes, hml, findClass_of_methodNamed B.named, fun w hw => atoms_spec (ws := _ :: fs_ws) B.pre w (List.mem_cons_of_mem _ hw)⟩
  have hR := fs_hR (fr := 6) (lo := 82) ((f_Collector_requireRoomFor a0 x1).2 _ _ _ h)
  have hl := lv_entry ([.ref a0, .int x1]) (n := 2) (Nat.le_of_ble_eq_true rfl)
  rw [lg_entry_eq]
  generalize (lg_sl ([.ref a0, .int x1]) ++ List.replicate (2 - (lg_sl ([.ref a0, .int x1])).length) Slot.unset).toArray = ls at hl ⊢
  have hl : lv_has ls 2 [(0, .ref a0), (1, .int x1)] := hl
  refine (?_ : fs_J X p l e (fs_rm 6 82 σ σF) s m _ below meth c (fs_Q X below _ s (fs_qV r) σ σF) r σ σF (f_Collector_requireRoomFor a0 x1) (F0 m 0 ls [])) σ s.heap [] 0 0 h hw0 va_S.rf rfl rfl
  clear h hw0
  unfold f_Collector_requireRoomFor
  refine fs_lift (fun _ _ _ _ => lv_aload_n hx hb d_Collector_requireRoomFor_0 rfl (lv_at hl 0 rfl)) ?_
  refine fs_Jgr S hG fs_in5 rfl 2 (Nat.le_of_ble_eq_true rfl) tw_1_232 (fun _ h9 => h9) d_Collector_requireRoomFor_1 (fun r1 => ?_)
  refine fs_lift (fun _ _ _ _ => lv_iload_n hx hb d_Collector_requireRoomFor_4 rfl (lv_at hl 1 rfl)) ?_
  refine fs_JV S hG hR rfl [.int x1] (enc := fun r => some (.int r)) (fun zr zs zt zh => m_Table_hasRoomFor X l r1 x1 zh) tw_4_189 tw_4_190 tw_4_191 tw_4_192 tw_1_9 q_Table_hasRoomFor ⟨(Nat.le_of_ble_eq_true rfl), (Nat.le_of_ble_eq_true rfl)⟩ hl.1 rfl (Nat.le_of_ble_eq_true rfl) d_Collector_requireRoomFor_5 (fun v2 => ?_)
  refine fs_Jeq (g2 := F0 m 8 ls [.int v2]) rfl ?_
  refine fs_ifn (fun _ _ _ _ => lv_if_ne hx hb d_Collector_requireRoomFor_8 rfl) ?_ ?_
  · exact fs_Jthrow S hG hR hl0 (names := fs_nms) (len := 2) (.ldc 135) (Or.inl ⟨rfl, rfl⟩) (by decide) fs_fit fs_at4 tw_4_164 tw_1_26 tb_4_194 hl.1 hT hk (Nat.le_of_ble_eq_true rfl) (Nat.le_of_ble_eq_true rfl) d_Collector_requireRoomFor_11 d_Collector_requireRoomFor_14 d_Collector_requireRoomFor_15 d_Collector_requireRoomFor_17 d_Collector_requireRoomFor_20 rfl
  · exact fs_Jvret S hr hk rfl d_Collector_requireRoomFor_21

theorem d_Arrays_copyOf_2_0 : decode prog_30_method_123_code 0 = .ok (.iload_n 1, 1) := by decide +kernel
theorem d_Arrays_copyOf_2_1 : decode prog_30_method_123_code 1 = .ok (.aload_n 0, 1) := by decide +kernel
theorem d_Arrays_copyOf_2_2 : decode prog_30_method_123_code 2 = .ok (.arraylength, 1) := by decide +kernel
theorem d_Arrays_copyOf_2_3 : decode prog_30_method_123_code 3 = .ok (.if_icmp .ne 11, 3) := by decide +kernel
theorem d_Arrays_copyOf_2_6 : decode prog_30_method_123_code 6 = .ok (.aload_n 0, 1) := by decide +kernel
theorem d_Arrays_copyOf_2_7 : decode prog_30_method_123_code 7 = .ok (.invokevirtual 316, 3) := by decide +kernel
theorem d_Arrays_copyOf_2_10 : decode prog_30_method_123_code 10 = .ok (.checkcast 317, 3) := by decide +kernel
theorem d_Arrays_copyOf_2_13 : decode prog_30_method_123_code 13 = .ok (.areturn, 1) := by decide +kernel
theorem q_Arrays_copyOf_2 : (⟨"java/util/Arrays", "copyOf", "([II)[I"⟩ : MethodName).cls ≠ "java/lang/invoke/MethodHandle" ∧ (⟨"java/util/Arrays", "copyOf", "([II)[I"⟩ : MethodName).cls ≠ "java/lang/invoke/VarHandle" ∧ (parseMethodDescriptor (⟨"java/util/Arrays", "copyOf", "([II)[I"⟩ : MethodName).desc).map (fun d => d.parameters.length) = some 2 := by decide +kernel
set_option maxHeartbeats 4000000 in
set_option maxRecDepth 100000 in
theorem m_Arrays_copyOf_2 (X : fs_X) (l : Launch) (a0 : Nat) (x1 : Int32) {r : Nat} {σ σF : fs_S} (h : (f_Arrays_copyOf_2 a0 x1).1 σ = some (r, σF)) : fs_Met X l ⟨"java/util/Arrays", "copyOf", "([II)[I"⟩ (Cond.code ⟨"java/util/Arrays", "copyOf", "([II)[I"⟩ prog_30_method_123_code 3 (some (FieldType.array FieldType.int))) 1 40 [.ref a0, .int x1] σ (fs_eR r) σF := by
  refine fs_ofW (by decide) ?_
  intro p e s m args below meth c s₁ B hml hT hv
  obtain ⟨rfl, hw0, hG⟩ := hv
  have hx := B.exec
  have hb := B.bytes
  have hr := B.returns
  have hk := B.notSynchronized
  have S : CallFix p m c prog_30_method_123_code 3 s _ fs_ws "java/util/Arrays" := ⟨B.exec, B.bytes, hml, findClass_of_methodNamed B.named, fun w hw => atoms_spec (ws := _ :: fs_ws) B.pre w (List.mem_cons_of_mem _ hw)⟩
  have hR := fs_hR (fr := 1) (lo := 40) ((f_Arrays_copyOf_2 a0 x1).2 _ _ _ h)
  have hl := lv_entry ([.ref a0, .int x1]) (n := 3) (Nat.le_of_ble_eq_true rfl)
  rw [lg_entry_eq]
  generalize (lg_sl ([.ref a0, .int x1]) ++ List.replicate (3 - (lg_sl ([.ref a0, .int x1])).length) Slot.unset).toArray = ls at hl ⊢
  have hl : lv_has ls 3 [(0, .ref a0), (1, .int x1)] := hl
  refine (?_ : fs_J X p l e (fs_rm 1 40 σ σF) s m _ below meth c (fs_Q X below _ s (fs_eR r) σ σF) r σ σF (f_Arrays_copyOf_2 a0 x1) (F0 m 0 ls [])) σ s.heap [] 0 0 h hw0 va_S.rf rfl rfl
  clear h hw0
  unfold f_Arrays_copyOf_2
  refine fs_lift (fun _ _ _ _ => lv_iload_n hx hb d_Arrays_copyOf_2_0 rfl (lv_at hl 1 rfl)) ?_
  refine fs_lift (fun _ _ _ _ => lv_aload_n hx hb d_Arrays_copyOf_2_1 rfl (lv_at hl 0 rfl)) ?_
  refine fs_Jal S hG d_Arrays_copyOf_2_2 (fun v1 => ?_)
  refine fs_ifn (fun _ _ _ _ => lv_icmp_ne hx hb d_Arrays_copyOf_2_3 rfl) ?_ ?_
  · refine fs_lift (fun _ _ _ _ => lv_aload_n hx hb d_Arrays_copyOf_2_6 rfl (lv_at hl 0 rfl)) ?_
    refine fs_Jcln S hG hR tw_4_201 hl.1 (Nat.le_of_ble_eq_true rfl) (Nat.le_of_ble_eq_true rfl) d_Arrays_copyOf_2_7 (fun r4 => ?_)
    refine fs_Jeq (g2 := F0 m 10 ls [.ref r4]) rfl ?_
    refine fs_Jci S hG tw_4_207 d_Arrays_copyOf_2_10 ?_
    exact fs_Jaret S hr (Or.inr ⟨_, rfl⟩) hk rfl d_Arrays_copyOf_2_13
  · exact fs_Jfail

theorem d_Report_init_1_0 : decode prog_8_method_2_code 0 = .ok (.aload_n 0, 1) := by decide +kernel
theorem d_Report_init_1_1 : decode prog_8_method_2_code 1 = .ok (.invokespecial 3, 3) := by decide +kernel
theorem d_Report_init_1_4 : decode prog_8_method_2_code 4 = .ok (.aload_n 0, 1) := by decide +kernel
theorem d_Report_init_1_5 : decode prog_8_method_2_code 5 = .ok (.aload_n 1, 1) := by decide +kernel
theorem d_Report_init_1_6 : decode prog_8_method_2_code 6 = .ok (.getfield 9, 3) := by decide +kernel
theorem d_Report_init_1_9 : decode prog_8_method_2_code 9 = .ok (.aload_n 1, 1) := by decide +kernel
theorem d_Report_init_1_10 : decode prog_8_method_2_code 10 = .ok (.getfield 9, 3) := by decide +kernel
theorem d_Report_init_1_13 : decode prog_8_method_2_code 13 = .ok (.arraylength, 1) := by decide +kernel
theorem d_Report_init_1_14 : decode prog_8_method_2_code 14 = .ok (.invokestatic 19, 3) := by decide +kernel
theorem d_Report_init_1_17 : decode prog_8_method_2_code 17 = .ok (.putfield 9, 3) := by decide +kernel
theorem d_Report_init_1_20 : decode prog_8_method_2_code 20 = .ok (.aload_n 0, 1) := by decide +kernel
theorem d_Report_init_1_21 : decode prog_8_method_2_code 21 = .ok (.aload_n 1, 1) := by decide +kernel
theorem d_Report_init_1_22 : decode prog_8_method_2_code 22 = .ok (.getfield 15, 3) := by decide +kernel
theorem d_Report_init_1_25 : decode prog_8_method_2_code 25 = .ok (.putfield 15, 3) := by decide +kernel
theorem d_Report_init_1_28 : decode prog_8_method_2_code 28 = .ok (.return_, 1) := by decide +kernel
theorem q_Report_init_1 : (⟨"FlowShelf$Report", "<init>", "(LFlowShelf$Report;)V"⟩ : MethodName).cls ≠ "java/lang/invoke/MethodHandle" ∧ (⟨"FlowShelf$Report", "<init>", "(LFlowShelf$Report;)V"⟩ : MethodName).cls ≠ "java/lang/invoke/VarHandle" ∧ (parseMethodDescriptor (⟨"FlowShelf$Report", "<init>", "(LFlowShelf$Report;)V"⟩ : MethodName).desc).map (fun d => d.parameters.length) = some 1 := by decide +kernel
set_option maxHeartbeats 4000000 in
set_option maxRecDepth 100000 in
theorem m_Report_init_1 (X : fs_X) (l : Launch) (a0 : Nat) (a1 : Nat) {r : Unit} {σ σF : fs_S} (h : (f_Report_init_1 a0 a1).1 σ = some (r, σF)) : fs_Met X l ⟨"FlowShelf$Report", "<init>", "(LFlowShelf$Report;)V"⟩ (Cond.code ⟨"FlowShelf$Report", "<init>", "(LFlowShelf$Report;)V"⟩ prog_8_method_2_code 2 none) 2 62 [.ref a0, .ref a1] σ (fs_eV r) σF := by
  refine fs_ofW (by decide) ?_
  intro p e s m args below meth c s₁ B hml hT hv
  obtain ⟨rfl, hw0, hG⟩ := hv
  have hx := B.exec
  have hb := B.bytes
  have hr := B.returns
  have hk := B.notSynchronized
  have hin : meth.name = "<init>" := (name_of_methodNamed B.named B.method).1
  have S : CallFix p m c prog_8_method_2_code 2 s _ fs_ws "FlowShelf$Report" := ⟨B.exec, B.bytes, hml, findClass_of_methodNamed B.named, fun w hw => atoms_spec (ws := _ :: fs_ws) B.pre w (List.mem_cons_of_mem _ hw)⟩
  have hR := fs_hR (fr := 2) (lo := 62) ((f_Report_init_1 a0 a1).2 _ _ _ h)
  have hl := lv_entry ([.ref a0, .ref a1]) (n := 2) (Nat.le_of_ble_eq_true rfl)
  rw [lg_entry_eq]
  generalize (lg_sl ([.ref a0, .ref a1]) ++ List.replicate (2 - (lg_sl ([.ref a0, .ref a1])).length) Slot.unset).toArray = ls at hl ⊢
  have hl : lv_has ls 2 [(0, .ref a0), (1, .ref a1)] := hl
  refine (?_ : fs_J X p l e (fs_rm 2 62 σ σF) s m _ below meth c (fs_Q X below _ s (fs_eV r) σ σF) r σ σF (f_Report_init_1 a0 a1) (F0 m 0 ls [])) σ s.heap [] 0 0 h hw0 va_S.rf rfl rfl
  clear h hw0
  unfold f_Report_init_1
  refine fs_lift (fun _ _ _ _ => lv_aload_n hx hb d_Report_init_1_0 rfl (lv_at hl 0 rfl)) ?_
  refine fs_JO S tw_3_224 tw_1_35 tw_1_36 hl.1 (Nat.le_of_ble_eq_true rfl) (Nat.le_of_ble_eq_true rfl) d_Report_init_1_1 ?_
  refine fs_Jeq (g2 := F0 m 4 ls []) rfl ?_
  refine fs_lift (fun _ _ _ _ => lv_aload_n hx hb d_Report_init_1_4 rfl (lv_at hl 0 rfl)) ?_
  refine fs_lift (fun _ _ _ _ => lv_aload_n hx hb d_Report_init_1_5 rfl (lv_at hl 1 rfl)) ?_
  refine fs_Jgr S hG fs_in9 rfl 0 (Nat.le_of_ble_eq_true rfl) tw_3_225 (fun _ h9 => h9) d_Report_init_1_6 (fun r1 => ?_)
  refine fs_lift (fun _ _ _ _ => lv_aload_n hx hb d_Report_init_1_9 rfl (lv_at hl 1 rfl)) ?_
  refine fs_Jgr S hG fs_in9 rfl 0 (Nat.le_of_ble_eq_true rfl) tw_3_225 (fun _ h9 => h9) d_Report_init_1_10 (fun r2 => ?_)
  refine fs_Jal S hG d_Report_init_1_13 (fun v3 => ?_)
  refine fs_JS S hG hR [.ref r1, .int v3] (enc := fun r => some (.ref r)) (fun zr zs zt zh => m_Arrays_copyOf_2 X l r1 v3 zh) tw_4_198 tw_4_199 tw_4_200 tw_1_22 q_Arrays_copyOf_2 ⟨(Nat.le_of_ble_eq_true rfl), (Nat.le_of_ble_eq_true rfl)⟩ hl.1 rfl (Nat.le_of_ble_eq_true rfl) d_Report_init_1_14 (fun r4 => ?_)
  refine fs_Jeq (g2 := F0 m 17 ls [.ref r4, .ref a0]) rfl ?_
  refine fs_Jput S hG fs_in9 rfl 0 (Nat.le_of_ble_eq_true rfl) tw_3_225 (fun _ h9 => h9) fs_Y9 fs_ty9 fs_nm9 (Or.inr ⟨rfl, hin, rfl⟩) rfl rfl d_Report_init_1_17 ?_
  refine fs_lift (fun _ _ _ _ => lv_aload_n hx hb d_Report_init_1_20 rfl (lv_at hl 0 rfl)) ?_
  refine fs_lift (fun _ _ _ _ => lv_aload_n hx hb d_Report_init_1_21 rfl (lv_at hl 1 rfl)) ?_
  refine fs_Jgi S hG fs_in9 rfl 1 (Nat.le_of_ble_eq_true rfl) tw_3_228 (fun _ h9 => h9) d_Report_init_1_22 (fun v5 => ?_)
  refine fs_Jput S hG fs_in9 rfl 1 (Nat.le_of_ble_eq_true rfl) tw_3_228 (fun _ h9 => h9) fs_Y9 fs_ty9 fs_nm9 (Or.inl rfl) rfl rfl d_Report_init_1_25 ?_
  exact fs_Jvret S hr hk rfl d_Report_init_1_28

theorem d_Cursor_init_0 : decode prog_3_method_1_code 0 = .ok (.aload_n 0, 1) := by decide +kernel
theorem d_Cursor_init_1 : decode prog_3_method_1_code 1 = .ok (.invokespecial 3, 3) := by decide +kernel
theorem d_Cursor_init_4 : decode prog_3_method_1_code 4 = .ok (.aload_n 0, 1) := by decide +kernel
theorem d_Cursor_init_5 : decode prog_3_method_1_code 5 = .ok (.bipush 7, 2) := by decide +kernel
theorem d_Cursor_init_7 : decode prog_3_method_1_code 7 = .ok (.putfield 9, 3) := by decide +kernel
theorem d_Cursor_init_10 : decode prog_3_method_1_code 10 = .ok (.aload_n 0, 1) := by decide +kernel
theorem d_Cursor_init_11 : decode prog_3_method_1_code 11 = .ok (.aload_n 1, 1) := by decide +kernel
theorem d_Cursor_init_12 : decode prog_3_method_1_code 12 = .ok (.putfield 15, 3) := by decide +kernel
theorem d_Cursor_init_15 : decode prog_3_method_1_code 15 = .ok (.return_, 1) := by decide +kernel
theorem q_Cursor_init : (⟨"FlowShelf$Cursor", "<init>", "(LFlowShelf$Report;)V"⟩ : MethodName).cls ≠ "java/lang/invoke/MethodHandle" ∧ (⟨"FlowShelf$Cursor", "<init>", "(LFlowShelf$Report;)V"⟩ : MethodName).cls ≠ "java/lang/invoke/VarHandle" ∧ (parseMethodDescriptor (⟨"FlowShelf$Cursor", "<init>", "(LFlowShelf$Report;)V"⟩ : MethodName).desc).map (fun d => d.parameters.length) = some 1 := by decide +kernel
set_option maxHeartbeats 4000000 in
set_option maxRecDepth 100000 in
theorem m_Cursor_init (X : fs_X) (l : Launch) (a0 : Nat) (a1 : Nat) {r : Unit} {σ σF : fs_S} (h : (f_Cursor_init a0 a1).1 σ = some (r, σF)) : fs_Met X l ⟨"FlowShelf$Cursor", "<init>", "(LFlowShelf$Report;)V"⟩ (Cond.code ⟨"FlowShelf$Cursor", "<init>", "(LFlowShelf$Report;)V"⟩ prog_3_method_1_code 2 none) 1 12 [.ref a0, .ref a1] σ (fs_eV r) σF := by
  refine fs_ofW (by decide) ?_
  intro p e s m args below meth c s₁ B hml hT hv
  obtain ⟨rfl, hw0, hG⟩ := hv
  have hx := B.exec
  have hb := B.bytes
  have hr := B.returns
  have hk := B.notSynchronized
  have hin : meth.name = "<init>" := (name_of_methodNamed B.named B.method).1
  have S : CallFix p m c prog_3_method_1_code 2 s _ fs_ws "FlowShelf$Cursor" := ⟨B.exec, B.bytes, hml, findClass_of_methodNamed B.named, fun w hw => atoms_spec (ws := _ :: fs_ws) B.pre w (List.mem_cons_of_mem _ hw)⟩
  have hR := fs_hR (fr := 1) (lo := 12) ((f_Cursor_init a0 a1).2 _ _ _ h)
  have hl := lv_entry ([.ref a0, .ref a1]) (n := 2) (Nat.le_of_ble_eq_true rfl)
  rw [lg_entry_eq]
  generalize (lg_sl ([.ref a0, .ref a1]) ++ List.replicate (2 - (lg_sl ([.ref a0, .ref a1])).length) Slot.unset).toArray = ls at hl ⊢
  have hl : lv_has ls 2 [(0, .ref a0), (1, .ref a1)] := hl
  refine (?_ : fs_J X p l e (fs_rm 1 12 σ σF) s m _ below meth c (fs_Q X below _ s (fs_eV r) σ σF) r σ σF (f_Cursor_init a0 a1) (F0 m 0 ls [])) σ s.heap [] 0 0 h hw0 va_S.rf rfl rfl
  clear h hw0
  unfold f_Cursor_init
  refine fs_lift (fun _ _ _ _ => lv_aload_n hx hb d_Cursor_init_0 rfl (lv_at hl 0 rfl)) ?_
  refine fs_JO S tw_4_227 tw_1_35 tw_1_36 hl.1 (Nat.le_of_ble_eq_true rfl) (Nat.le_of_ble_eq_true rfl) d_Cursor_init_1 ?_
  refine fs_Jeq (g2 := F0 m 4 ls []) rfl ?_
  refine fs_lift (fun _ _ _ _ => lv_aload_n hx hb d_Cursor_init_4 rfl (lv_at hl 0 rfl)) ?_
  refine fs_lift (fun _ _ _ _ => lv_bipush (v := 7) hx hb d_Cursor_init_5 (by decide)) ?_
  refine fs_Jput S hG fs_in10 rfl 1 (Nat.le_of_ble_eq_true rfl) tw_4_229 (fun _ h9 => h9) fs_Y10 fs_ty10 fs_nm10 (Or.inl rfl) rfl rfl d_Cursor_init_7 ?_
  refine fs_lift (fun _ _ _ _ => lv_aload_n hx hb d_Cursor_init_10 rfl (lv_at hl 0 rfl)) ?_
  refine fs_lift (fun _ _ _ _ => lv_aload_n hx hb d_Cursor_init_11 rfl (lv_at hl 1 rfl)) ?_
  refine fs_Jput S hG fs_in10 rfl 0 (Nat.le_of_ble_eq_true rfl) tw_4_228 (fun _ h9 => h9) fs_Y10 fs_ty10 fs_nm10 (Or.inr ⟨rfl, hin, rfl⟩) rfl rfl d_Cursor_init_12 ?_
  exact fs_Jvret S hr hk rfl d_Cursor_init_15

theorem d_Cursor_takeByte_0 : decode prog_3_method_4_code 0 = .ok (.aload_n 0, 1) := by decide +kernel
theorem d_Cursor_takeByte_1 : decode prog_3_method_4_code 1 = .ok (.getfield 9, 3) := by decide +kernel
theorem d_Cursor_takeByte_4 : decode prog_3_method_4_code 4 = .ok (.aload_n 0, 1) := by decide +kernel
theorem d_Cursor_takeByte_5 : decode prog_3_method_4_code 5 = .ok (.getfield 15, 3) := by decide +kernel
theorem d_Cursor_takeByte_8 : decode prog_3_method_4_code 8 = .ok (.getfield 19, 3) := by decide +kernel
theorem d_Cursor_takeByte_11 : decode prog_3_method_4_code 11 = .ok (.if_icmp .lt 10, 3) := by decide +kernel
theorem d_Cursor_takeByte_14 : decode prog_3_method_4_code 14 = .ok (.aload_n 0, 1) := by decide +kernel
theorem d_Cursor_takeByte_15 : decode prog_3_method_4_code 15 = .ok (.iconst 1, 1) := by decide +kernel
theorem d_Cursor_takeByte_16 : decode prog_3_method_4_code 16 = .ok (.putfield 28, 3) := by decide +kernel
theorem d_Cursor_takeByte_19 : decode prog_3_method_4_code 19 = .ok (.iconst 0, 1) := by decide +kernel
theorem d_Cursor_takeByte_20 : decode prog_3_method_4_code 20 = .ok (.ireturn, 1) := by decide +kernel
theorem d_Cursor_takeByte_21 : decode prog_3_method_4_code 21 = .ok (.aload_n 0, 1) := by decide +kernel
theorem d_Cursor_takeByte_22 : decode prog_3_method_4_code 22 = .ok (.getfield 15, 3) := by decide +kernel
theorem d_Cursor_takeByte_25 : decode prog_3_method_4_code 25 = .ok (.getfield 32, 3) := by decide +kernel
theorem d_Cursor_takeByte_28 : decode prog_3_method_4_code 28 = .ok (.aload_n 0, 1) := by decide +kernel
theorem d_Cursor_takeByte_29 : decode prog_3_method_4_code 29 = .ok (.getfield 9, 3) := by decide +kernel
theorem d_Cursor_takeByte_32 : decode prog_3_method_4_code 32 = .ok (.iaload, 1) := by decide +kernel
theorem d_Cursor_takeByte_33 : decode prog_3_method_4_code 33 = .ok (.istore_n 1, 1) := by decide +kernel
theorem d_Cursor_takeByte_34 : decode prog_3_method_4_code 34 = .ok (.aload_n 0, 1) := by decide +kernel
theorem d_Cursor_takeByte_35 : decode prog_3_method_4_code 35 = .ok (.dup, 1) := by decide +kernel
theorem d_Cursor_takeByte_36 : decode prog_3_method_4_code 36 = .ok (.getfield 9, 3) := by decide +kernel
theorem d_Cursor_takeByte_39 : decode prog_3_method_4_code 39 = .ok (.iconst 1, 1) := by decide +kernel
theorem d_Cursor_takeByte_40 : decode prog_3_method_4_code 40 = .ok (.iadd, 1) := by decide +kernel
theorem d_Cursor_takeByte_41 : decode prog_3_method_4_code 41 = .ok (.putfield 9, 3) := by decide +kernel
theorem d_Cursor_takeByte_44 : decode prog_3_method_4_code 44 = .ok (.iload_n 1, 1) := by decide +kernel
theorem d_Cursor_takeByte_45 : decode prog_3_method_4_code 45 = .ok (.ireturn, 1) := by decide +kernel
theorem q_Cursor_takeByte : (⟨"FlowShelf$Cursor", "takeByte", "()I"⟩ : MethodName).cls ≠ "java/lang/invoke/MethodHandle" ∧ (⟨"FlowShelf$Cursor", "takeByte", "()I"⟩ : MethodName).cls ≠ "java/lang/invoke/VarHandle" ∧ (parseMethodDescriptor (⟨"FlowShelf$Cursor", "takeByte", "()I"⟩ : MethodName).desc).map (fun d => d.parameters.length) = some 0 := by decide +kernel
set_option maxHeartbeats 4000000 in
set_option maxRecDepth 100000 in
theorem m_Cursor_takeByte (X : fs_X) (l : Launch) (a0 : Nat) {r : Int32} {σ σF : fs_S} (h : (f_Cursor_takeByte a0).1 σ = some (r, σF)) : fs_Met X l ⟨"FlowShelf$Cursor", "takeByte", "()I"⟩ (Cond.code ⟨"FlowShelf$Cursor", "takeByte", "()I"⟩ prog_3_method_4_code 2 (some FieldType.int)) 0 0 [.ref a0] σ (fs_eI r) σF := by
  refine fs_ofW (by decide) ?_
  intro p e s m args below meth c s₁ B hml hT hv
  obtain ⟨rfl, hw0, hG⟩ := hv
  have hx := B.exec
  have hb := B.bytes
  have hr := B.returns
  have hk := B.notSynchronized
  have S : CallFix p m c prog_3_method_4_code 2 s _ fs_ws "FlowShelf$Cursor" := ⟨B.exec, B.bytes, hml, findClass_of_methodNamed B.named, fun w hw => atoms_spec (ws := _ :: fs_ws) B.pre w (List.mem_cons_of_mem _ hw)⟩
  have hR := fs_hR (fr := 0) (lo := 0) ((f_Cursor_takeByte a0).2 _ _ _ h)
  have hl := lv_entry ([.ref a0]) (n := 2) (Nat.le_of_ble_eq_true rfl)
  rw [lg_entry_eq]
  generalize (lg_sl ([.ref a0]) ++ List.replicate (2 - (lg_sl ([.ref a0])).length) Slot.unset).toArray = ls at hl ⊢
  have hl : lv_has ls 2 [(0, .ref a0)] := hl
  refine (?_ : fs_J X p l e (fs_rm 0 0 σ σF) s m _ below meth c (fs_Q X below _ s (fs_eI r) σ σF) r σ σF (f_Cursor_takeByte a0) (F0 m 0 ls [])) σ s.heap [] 0 0 h hw0 va_S.rf rfl rfl
  clear h hw0
  unfold f_Cursor_takeByte
  refine fs_lift (fun _ _ _ _ => lv_aload_n hx hb d_Cursor_takeByte_0 rfl (lv_at hl 0 rfl)) ?_
  refine fs_Jgi S hG fs_in10 rfl 1 (Nat.le_of_ble_eq_true rfl) tw_4_229 (fun _ h9 => h9) d_Cursor_takeByte_1 (fun v1 => ?_)
  refine fs_lift (fun _ _ _ _ => lv_aload_n hx hb d_Cursor_takeByte_4 rfl (lv_at hl 0 rfl)) ?_
  refine fs_Jgr S hG fs_in10 rfl 0 (Nat.le_of_ble_eq_true rfl) tw_4_228 (fun _ h9 => h9) d_Cursor_takeByte_5 (fun r2 => ?_)
  refine fs_Jgi S hG fs_in9 rfl 1 (Nat.le_of_ble_eq_true rfl) tw_3_229 (fun _ h9 => h9) d_Cursor_takeByte_8 (fun v3 => ?_)
  refine fs_if (fun _ _ _ _ => lv_icmp_lt hx hb d_Cursor_takeByte_11 rfl) ?_ ?_
  · refine fs_lift (fun _ _ _ _ => lv_aload_n hx hb d_Cursor_takeByte_21 rfl (lv_at hl 0 rfl)) ?_
    refine fs_Jgr S hG fs_in10 rfl 0 (Nat.le_of_ble_eq_true rfl) tw_4_228 (fun _ h9 => h9) d_Cursor_takeByte_22 (fun r4 => ?_)
    refine fs_Jgr S hG fs_in9 rfl 0 (Nat.le_of_ble_eq_true rfl) tw_3_226 (fun _ h9 => h9) d_Cursor_takeByte_25 (fun r5 => ?_)
    refine fs_lift (fun _ _ _ _ => lv_aload_n hx hb d_Cursor_takeByte_28 rfl (lv_at hl 0 rfl)) ?_
    refine fs_Jgi S hG fs_in10 rfl 1 (Nat.le_of_ble_eq_true rfl) tw_4_229 (fun _ h9 => h9) d_Cursor_takeByte_29 (fun v6 => ?_)
    refine fs_Jai S hG d_Cursor_takeByte_32 (fun v7 => ?_)
    refine fs_liftL (fun _ _ _ _ => lv_istore_n (lv' := [(1, .int v7), (0, .ref a0)]) hx hb d_Cursor_takeByte_33 rfl hl (Nat.le_of_ble_eq_true rfl) rfl) (fun ls hl => ?_)
    refine fs_lift (fun _ _ _ _ => lv_aload_n hx hb d_Cursor_takeByte_34 rfl (lv_at hl 1 rfl)) ?_
    refine fs_lift (fun _ _ _ _ => lv_dup hx hb d_Cursor_takeByte_35 rfl) ?_
    refine fs_Jgi S hG fs_in10 rfl 1 (Nat.le_of_ble_eq_true rfl) tw_4_229 (fun _ h9 => h9) d_Cursor_takeByte_36 (fun v8 => ?_)
    refine fs_lift (fun _ _ _ _ => lv_iconst (v := 1) hx hb d_Cursor_takeByte_39 (by decide)) ?_
    refine fs_lift (fun _ _ _ _ => lv_iadd hx hb d_Cursor_takeByte_40) ?_
    refine fs_Jput S hG fs_in10 rfl 1 (Nat.le_of_ble_eq_true rfl) tw_4_229 (fun _ h9 => h9) fs_Y10 fs_ty10 fs_nm10 (Or.inl rfl) rfl rfl d_Cursor_takeByte_41 ?_
    refine fs_lift (fun _ _ _ _ => lv_iload_n hx hb d_Cursor_takeByte_44 rfl (lv_at hl 0 rfl)) ?_
    exact fs_Jiret S hr hk rfl d_Cursor_takeByte_45
  · refine fs_lift (fun _ _ _ _ => lv_aload_n hx hb d_Cursor_takeByte_14 rfl (lv_at hl 0 rfl)) ?_
    refine fs_lift (fun _ _ _ _ => lv_iconst (v := 1) hx hb d_Cursor_takeByte_15 (by decide)) ?_
    refine fs_Jpz (fun hz9 => ?_)
    refine fs_Jput S hG fs_in10 rfl 2 (Nat.le_of_ble_eq_true rfl) tw_4_230 (fun _ h9 => h9) fs_Y10 fs_ty10 fs_nm10 (Or.inl rfl) (fs_nar hz9) rfl d_Cursor_takeByte_16 ?_
    refine fs_lift (fun _ _ _ _ => lv_iconst (v := 0) hx hb d_Cursor_takeByte_19 (by decide)) ?_
    exact fs_Jiret S hr hk rfl d_Cursor_takeByte_20

theorem d_Cursor_takeField_0 : decode prog_3_method_3_code 0 = .ok (.iload_n 1, 1) := by decide +kernel
theorem d_Cursor_takeField_1 : decode prog_3_method_3_code 1 = .ok (.istore_n 2, 1) := by decide +kernel
theorem d_Cursor_takeField_2 : decode prog_3_method_3_code 2 = .ok (.iload_n 1, 1) := by decide +kernel
theorem d_Cursor_takeField_3 : decode prog_3_method_3_code 3 = .ok (.ifCond .ne 25, 3) := by decide +kernel
theorem d_Cursor_takeField_6 : decode prog_3_method_3_code 6 = .ok (.aload_n 0, 1) := by decide +kernel
theorem d_Cursor_takeField_7 : decode prog_3_method_3_code 7 = .ok (.invokevirtual 24, 3) := by decide +kernel
theorem d_Cursor_takeField_10 : decode prog_3_method_3_code 10 = .ok (.istore_n 2, 1) := by decide +kernel
theorem d_Cursor_takeField_11 : decode prog_3_method_3_code 11 = .ok (.iload_n 2, 1) := by decide +kernel
theorem d_Cursor_takeField_12 : decode prog_3_method_3_code 12 = .ok (.iconst 1, 1) := by decide +kernel
theorem d_Cursor_takeField_13 : decode prog_3_method_3_code 13 = .ok (.if_icmp .lt 8, 3) := by decide +kernel
theorem d_Cursor_takeField_16 : decode prog_3_method_3_code 16 = .ok (.iload_n 2, 1) := by decide +kernel
theorem d_Cursor_takeField_17 : decode prog_3_method_3_code 17 = .ok (.iconst 4, 1) := by decide +kernel
theorem d_Cursor_takeField_18 : decode prog_3_method_3_code 18 = .ok (.if_icmp .le 10, 3) := by decide +kernel
theorem d_Cursor_takeField_21 : decode prog_3_method_3_code 21 = .ok (.aload_n 0, 1) := by decide +kernel
theorem d_Cursor_takeField_22 : decode prog_3_method_3_code 22 = .ok (.iconst 1, 1) := by decide +kernel
theorem d_Cursor_takeField_23 : decode prog_3_method_3_code 23 = .ok (.putfield 28, 3) := by decide +kernel
theorem d_Cursor_takeField_26 : decode prog_3_method_3_code 26 = .ok (.lconst 0, 1) := by decide +kernel
theorem d_Cursor_takeField_27 : decode prog_3_method_3_code 27 = .ok (.lreturn, 1) := by decide +kernel
theorem d_Cursor_takeField_28 : decode prog_3_method_3_code 28 = .ok (.lconst 0, 1) := by decide +kernel
theorem d_Cursor_takeField_29 : decode prog_3_method_3_code 29 = .ok (.lstore_n 3, 1) := by decide +kernel
theorem d_Cursor_takeField_30 : decode prog_3_method_3_code 30 = .ok (.iconst 0, 1) := by decide +kernel
theorem d_Cursor_takeField_31 : decode prog_3_method_3_code 31 = .ok (.istore 5, 2) := by decide +kernel
theorem d_Cursor_takeField_33 : decode prog_3_method_3_code 33 = .ok (.iload 5, 2) := by decide +kernel
theorem d_Cursor_takeField_35 : decode prog_3_method_3_code 35 = .ok (.iload_n 2, 1) := by decide +kernel
theorem d_Cursor_takeField_36 : decode prog_3_method_3_code 36 = .ok (.if_icmp .ge 20, 3) := by decide +kernel
theorem d_Cursor_takeField_39 : decode prog_3_method_3_code 39 = .ok (.lload_n 3, 1) := by decide +kernel
theorem d_Cursor_takeField_40 : decode prog_3_method_3_code 40 = .ok (.bipush 8, 2) := by decide +kernel
theorem d_Cursor_takeField_42 : decode prog_3_method_3_code 42 = .ok (.lshl, 1) := by decide +kernel
theorem d_Cursor_takeField_43 : decode prog_3_method_3_code 43 = .ok (.aload_n 0, 1) := by decide +kernel
theorem d_Cursor_takeField_44 : decode prog_3_method_3_code 44 = .ok (.invokevirtual 24, 3) := by decide +kernel
theorem d_Cursor_takeField_47 : decode prog_3_method_3_code 47 = .ok (.i2l, 1) := by decide +kernel
theorem d_Cursor_takeField_48 : decode prog_3_method_3_code 48 = .ok (.lor, 1) := by decide +kernel
theorem d_Cursor_takeField_49 : decode prog_3_method_3_code 49 = .ok (.lstore_n 3, 1) := by decide +kernel
theorem d_Cursor_takeField_50 : decode prog_3_method_3_code 50 = .ok (.iinc 5 1, 3) := by decide +kernel
theorem d_Cursor_takeField_53 : decode prog_3_method_3_code 53 = .ok (.goto (-20), 3) := by decide +kernel
theorem d_Cursor_takeField_56 : decode prog_3_method_3_code 56 = .ok (.lload_n 3, 1) := by decide +kernel
theorem d_Cursor_takeField_57 : decode prog_3_method_3_code 57 = .ok (.lreturn, 1) := by decide +kernel
theorem q_Cursor_takeField : (⟨"FlowShelf$Cursor", "takeField", "(I)J"⟩ : MethodName).cls ≠ "java/lang/invoke/MethodHandle" ∧ (⟨"FlowShelf$Cursor", "takeField", "(I)J"⟩ : MethodName).cls ≠ "java/lang/invoke/VarHandle" ∧ (parseMethodDescriptor (⟨"FlowShelf$Cursor", "takeField", "(I)J"⟩ : MethodName).desc).map (fun d => d.parameters.length) = some 1 := by decide +kernel
set_option maxHeartbeats 4000000 in
set_option maxRecDepth 100000 in
theorem m_Cursor_takeField (X : fs_X) (l : Launch) (a0 : Nat) (x1 : Int32) {r : Int64} {σ σF : fs_S} (h : (f_Cursor_takeField a0 x1).1 σ = some (r, σF)) : fs_Met X l ⟨"FlowShelf$Cursor", "takeField", "(I)J"⟩ (Cond.code ⟨"FlowShelf$Cursor", "takeField", "(I)J"⟩ prog_3_method_3_code 6 (some FieldType.long)) 1 21 [.ref a0, .int x1] σ (fs_eJ r) σF := by
  refine fs_ofW (by decide) ?_
  intro p e s m args below meth c s₁ B hml hT hv
  obtain ⟨rfl, hw0, hG⟩ := hv
  have hx := B.exec
  have hb := B.bytes
  have hr := B.returns
  have hk := B.notSynchronized
  have S : CallFix p m c prog_3_method_3_code 6 s _ fs_ws "FlowShelf$Cursor" := ⟨B.exec, B.bytes, hml, findClass_of_methodNamed B.named, fun w hw => atoms_spec (ws := _ :: fs_ws) B.pre w (List.mem_cons_of_mem _ hw)⟩
  have hR := fs_hR (fr := 1) (lo := 21) ((f_Cursor_takeField a0 x1).2 _ _ _ h)
  have hl := lv_entry ([.ref a0, .int x1]) (n := 6) (Nat.le_of_ble_eq_true rfl)
  rw [lg_entry_eq]
  generalize (lg_sl ([.ref a0, .int x1]) ++ List.replicate (6 - (lg_sl ([.ref a0, .int x1])).length) Slot.unset).toArray = ls at hl ⊢
  have hl : lv_has ls 6 [(0, .ref a0), (1, .int x1)] := hl
  refine (?_ : fs_J X p l e (fs_rm 1 21 σ σF) s m _ below meth c (fs_Q X below _ s (fs_eJ r) σ σF) r σ σF (f_Cursor_takeField a0 x1) (F0 m 0 ls [])) σ s.heap [] 0 0 h hw0 va_S.rf rfl rfl
  clear h hw0
  unfold f_Cursor_takeField
  refine fs_lift (fun _ _ _ _ => lv_iload_n hx hb d_Cursor_takeField_0 rfl (lv_at hl 1 rfl)) ?_
  refine fs_liftL (fun _ _ _ _ => lv_istore_n (lv' := [(2, .int x1), (0, .ref a0), (1, .int x1)]) hx hb d_Cursor_takeField_1 rfl hl (Nat.le_of_ble_eq_true rfl) rfl) (fun ls hl => ?_)
  refine fs_lift (fun _ _ _ _ => lv_iload_n hx hb d_Cursor_takeField_2 rfl (lv_at hl 2 rfl)) ?_
  refine fs_Jlet1 (nL := 6) (pj := 28) (I := fun (v2 : Int32) => [(0, .ref a0), (2, .int v2)]) (st := fun (v2 : Int32) => []) (fun v2 ls hl => ?_) (fun j28 hj28 => ?_)
  · refine fs_lift (fun _ _ _ _ => lv_lconst (v := 0) hx hb d_Cursor_takeField_28 (by decide)) ?_
    refine fs_liftL (fun _ _ _ _ => lv_lstore_n (lv' := [(3, .long 0), (0, .ref a0), (2, .int v2)]) hx hb d_Cursor_takeField_29 rfl hl (Nat.le_of_ble_eq_true rfl) rfl) (fun ls hl => ?_)
    refine fs_lift (fun _ _ _ _ => lv_iconst (v := 0) hx hb d_Cursor_takeField_30 (by decide)) ?_
    refine fs_liftL (fun _ _ _ _ => lv_istore (lv' := [(5, .int 0), (3, .long 0), (0, .ref a0), (2, .int v2)]) hx hb d_Cursor_takeField_31 hl (Nat.le_of_ble_eq_true rfl) rfl) (fun ls hl => ?_)
    refine fs_Jlp2 (nL := 6) (pc := 33) (rest := []) (I := fun (v3 : Int64) (v4 : Int32) => [(0, .ref a0), (2, .int v2), (3, .long v3), (5, .int v4)]) (fun k33 hk33 v3 v4 ls hl => ?_) _ _ _ _ (lv_sub hl [2, 3, 1, 0] rfl)
    refine fs_lift (fun _ _ _ _ => lv_iload hx hb d_Cursor_takeField_33 (lv_at hl 3 rfl)) ?_
    refine fs_lift (fun _ _ _ _ => lv_iload_n hx hb d_Cursor_takeField_35 rfl (lv_at hl 1 rfl)) ?_
    refine fs_if (fun _ _ _ _ => lv_icmp_ge hx hb d_Cursor_takeField_36 rfl) ?_ ?_
    · refine fs_lift (fun _ _ _ _ => lv_lload_n hx hb d_Cursor_takeField_56 rfl (lv_at hl 2 rfl)) ?_
      exact fs_Jlret S hr hk rfl d_Cursor_takeField_57
    · refine fs_lift (fun _ _ _ _ => lv_lload_n hx hb d_Cursor_takeField_39 rfl (lv_at hl 2 rfl)) ?_
      refine fs_lift (fun _ _ _ _ => lv_bipush (v := 8) hx hb d_Cursor_takeField_40 (by decide)) ?_
      refine fs_lift (fun _ _ _ _ => lv_lshl (v := (fs_lshl v3 8)) hx hb d_Cursor_takeField_42 rfl) ?_
      refine fs_lift (fun _ _ _ _ => lv_aload_n hx hb d_Cursor_takeField_43 rfl (lv_at hl 0 rfl)) ?_
      refine fs_JV S hG hR rfl [] (enc := fun r => some (.int r)) (fun zr zs zt zh => m_Cursor_takeByte X l a0 zh) tw_5_5 tw_5_6 tw_5_7 tw_5_8 tw_1_27 q_Cursor_takeByte ⟨(Nat.le_of_ble_eq_true rfl), (Nat.le_of_ble_eq_true rfl)⟩ hl.1 rfl (Nat.le_of_ble_eq_true rfl) d_Cursor_takeField_44 (fun v5 => ?_)
      refine fs_Jeq (g2 := F0 m 47 ls [.int v5, .long (fs_lshl v3 8)]) rfl ?_
      refine fs_lift (fun _ _ _ _ => lv_i2l hx hb d_Cursor_takeField_47 rfl) ?_
      refine fs_lift (fun _ _ _ _ => lv_lor hx hb d_Cursor_takeField_48) ?_
      refine fs_Jnj (fun v6 => ?_)
      refine fs_liftL (fun _ _ _ _ => lv_lstore_n (lv' := [(3, .long v6), (0, .ref a0), (2, .int v2), (5, .int v4)]) hx hb d_Cursor_takeField_49 rfl hl (Nat.le_of_ble_eq_true rfl) rfl) (fun ls hl => ?_)
      refine fs_Jnm (fun v7 hv9 => ?_)
      refine fs_liftL (fun _ _ _ _ => lv_iinc (k := 3) (v := v7) (lv' := [(5, .int v7), (3, .long v6), (0, .ref a0), (2, .int v2)]) hx hb d_Cursor_takeField_50 hl rfl (by rw [hv9]; rfl) (Nat.le_of_ble_eq_true rfl) rfl) (fun ls hl => ?_)
      refine fs_lift (fun _ _ _ _ => lv_goto hx hb d_Cursor_takeField_53 rfl) ?_
      exact hk33 v6 v7 ls (lv_sub hl [2, 3, 1, 0] rfl)
  · refine fs_ifn (fun _ _ _ _ => lv_if_ne hx hb d_Cursor_takeField_3 rfl) ?_ ?_
    · refine fs_lift (fun _ _ _ _ => lv_aload_n hx hb d_Cursor_takeField_6 rfl (lv_at hl 1 rfl)) ?_
      refine fs_JV S hG hR rfl [] (enc := fun r => some (.int r)) (fun zr zs zt zh => m_Cursor_takeByte X l a0 zh) tw_5_5 tw_5_6 tw_5_7 tw_5_8 tw_1_27 q_Cursor_takeByte ⟨(Nat.le_of_ble_eq_true rfl), (Nat.le_of_ble_eq_true rfl)⟩ hl.1 rfl (Nat.le_of_ble_eq_true rfl) d_Cursor_takeField_7 (fun v1 => ?_)
      refine fs_Jeq (g2 := F0 m 10 ls [.int v1]) rfl ?_
      refine fs_liftL (fun _ _ _ _ => lv_istore_n (lv' := [(2, .int v1), (0, .ref a0), (1, .int x1)]) hx hb d_Cursor_takeField_10 rfl hl (Nat.le_of_ble_eq_true rfl) rfl) (fun ls hl => ?_)
      refine fs_lift (fun _ _ _ _ => lv_iload_n hx hb d_Cursor_takeField_11 rfl (lv_at hl 0 rfl)) ?_
      refine fs_lift (fun _ _ _ _ => lv_iconst (v := 1) hx hb d_Cursor_takeField_12 (by decide)) ?_
      refine fs_Jlet1 (nL := 6) (pj := 21) (I := fun (_ : Unit) => [(0, .ref a0)]) (st := fun (_ : Unit) => []) (fun _ ls hl => ?_) (fun j21 hj21 => ?_)
      · refine fs_lift (fun _ _ _ _ => lv_aload_n hx hb d_Cursor_takeField_21 rfl (lv_at hl 0 rfl)) ?_
        refine fs_lift (fun _ _ _ _ => lv_iconst (v := 1) hx hb d_Cursor_takeField_22 (by decide)) ?_
        refine fs_Jpz (fun hz9 => ?_)
        refine fs_Jput S hG fs_in10 rfl 2 (Nat.le_of_ble_eq_true rfl) tw_4_230 (fun _ h9 => h9) fs_Y10 fs_ty10 fs_nm10 (Or.inl rfl) (fs_nar hz9) rfl d_Cursor_takeField_23 ?_
        refine fs_lift (fun _ _ _ _ => lv_lconst (v := 0) hx hb d_Cursor_takeField_26 (by decide)) ?_
        exact fs_Jlret S hr hk rfl d_Cursor_takeField_27
      · refine fs_if (fun _ _ _ _ => lv_icmp_lt hx hb d_Cursor_takeField_13 rfl) ?_ ?_
        · exact hj21 () ls (lv_sub hl [1] rfl)
        · refine fs_lift (fun _ _ _ _ => lv_iload_n hx hb d_Cursor_takeField_16 rfl (lv_at hl 0 rfl)) ?_
          refine fs_lift (fun _ _ _ _ => lv_iconst (v := 4) hx hb d_Cursor_takeField_17 (by decide)) ?_
          refine fs_if (fun _ _ _ _ => lv_icmp_le hx hb d_Cursor_takeField_18 rfl) ?_ ?_
          · exact hj28 v1 ls (lv_sub hl [1, 0] rfl)
          · exact hj21 () ls (lv_sub hl [1] rfl)
    · exact hj28 x1 ls (lv_sub hl [1, 0] rfl)

theorem d_Cursor_isAtEnd_0 : decode prog_3_method_2_code 0 = .ok (.aload_n 0, 1) := by decide +kernel
theorem d_Cursor_isAtEnd_1 : decode prog_3_method_2_code 1 = .ok (.getfield 9, 3) := by decide +kernel
theorem d_Cursor_isAtEnd_4 : decode prog_3_method_2_code 4 = .ok (.aload_n 0, 1) := by decide +kernel
theorem d_Cursor_isAtEnd_5 : decode prog_3_method_2_code 5 = .ok (.getfield 15, 3) := by decide +kernel
theorem d_Cursor_isAtEnd_8 : decode prog_3_method_2_code 8 = .ok (.getfield 19, 3) := by decide +kernel
theorem d_Cursor_isAtEnd_11 : decode prog_3_method_2_code 11 = .ok (.if_icmp .ne 7, 3) := by decide +kernel
theorem d_Cursor_isAtEnd_14 : decode prog_3_method_2_code 14 = .ok (.iconst 1, 1) := by decide +kernel
theorem d_Cursor_isAtEnd_15 : decode prog_3_method_2_code 15 = .ok (.goto 4, 3) := by decide +kernel
theorem d_Cursor_isAtEnd_18 : decode prog_3_method_2_code 18 = .ok (.iconst 0, 1) := by decide +kernel
theorem d_Cursor_isAtEnd_19 : decode prog_3_method_2_code 19 = .ok (.ireturn, 1) := by decide +kernel
theorem q_Cursor_isAtEnd : (⟨"FlowShelf$Cursor", "isAtEnd", "()Z"⟩ : MethodName).cls ≠ "java/lang/invoke/MethodHandle" ∧ (⟨"FlowShelf$Cursor", "isAtEnd", "()Z"⟩ : MethodName).cls ≠ "java/lang/invoke/VarHandle" ∧ (parseMethodDescriptor (⟨"FlowShelf$Cursor", "isAtEnd", "()Z"⟩ : MethodName).desc).map (fun d => d.parameters.length) = some 0 := by decide +kernel
set_option maxHeartbeats 4000000 in
set_option maxRecDepth 100000 in
theorem m_Cursor_isAtEnd (X : fs_X) (l : Launch) (a0 : Nat) {r : Int32} {σ σF : fs_S} (h : (f_Cursor_isAtEnd a0).1 σ = some (r, σF)) : fs_Met X l ⟨"FlowShelf$Cursor", "isAtEnd", "()Z"⟩ (Cond.code ⟨"FlowShelf$Cursor", "isAtEnd", "()Z"⟩ prog_3_method_2_code 1 (some FieldType.boolean)) 0 0 [.ref a0] σ (fs_eI r) σF := by
  refine fs_ofW (by decide) ?_
  intro p e s m args below meth c s₁ B hml hT hv
  obtain ⟨rfl, hw0, hG⟩ := hv
  have hx := B.exec
  have hb := B.bytes
  have hr := B.returns
  have hk := B.notSynchronized
  have S : CallFix p m c prog_3_method_2_code 1 s _ fs_ws "FlowShelf$Cursor" := ⟨B.exec, B.bytes, hml, findClass_of_methodNamed B.named, fun w hw => atoms_spec (ws := _ :: fs_ws) B.pre w (List.mem_cons_of_mem _ hw)⟩
  have hR := fs_hR (fr := 0) (lo := 0) ((f_Cursor_isAtEnd a0).2 _ _ _ h)
  have hl := lv_entry ([.ref a0]) (n := 1) (Nat.le_of_ble_eq_true rfl)
  rw [lg_entry_eq]
  generalize (lg_sl ([.ref a0]) ++ List.replicate (1 - (lg_sl ([.ref a0])).length) Slot.unset).toArray = ls at hl ⊢
  have hl : lv_has ls 1 [(0, .ref a0)] := hl
  refine (?_ : fs_J X p l e (fs_rm 0 0 σ σF) s m _ below meth c (fs_Q X below _ s (fs_eI r) σ σF) r σ σF (f_Cursor_isAtEnd a0) (F0 m 0 ls [])) σ s.heap [] 0 0 h hw0 va_S.rf rfl rfl
  clear h hw0
  unfold f_Cursor_isAtEnd
  refine fs_lift (fun _ _ _ _ => lv_aload_n hx hb d_Cursor_isAtEnd_0 rfl (lv_at hl 0 rfl)) ?_
  refine fs_Jgi S hG fs_in10 rfl 1 (Nat.le_of_ble_eq_true rfl) tw_4_229 (fun _ h9 => h9) d_Cursor_isAtEnd_1 (fun v1 => ?_)
  refine fs_lift (fun _ _ _ _ => lv_aload_n hx hb d_Cursor_isAtEnd_4 rfl (lv_at hl 0 rfl)) ?_
  refine fs_Jgr S hG fs_in10 rfl 0 (Nat.le_of_ble_eq_true rfl) tw_4_228 (fun _ h9 => h9) d_Cursor_isAtEnd_5 (fun r2 => ?_)
  refine fs_Jgi S hG fs_in9 rfl 1 (Nat.le_of_ble_eq_true rfl) tw_3_229 (fun _ h9 => h9) d_Cursor_isAtEnd_8 (fun v3 => ?_)
  refine fs_ifn (fun _ _ _ _ => lv_icmp_ne hx hb d_Cursor_isAtEnd_11 rfl) ?_ ?_
  · refine fs_lift (fun _ _ _ _ => lv_iconst (v := 1) hx hb d_Cursor_isAtEnd_14 (by decide)) ?_
    refine fs_lift (fun _ _ _ _ => lv_goto hx hb d_Cursor_isAtEnd_15 rfl) ?_
    exact fs_Jzret S hr hk rfl d_Cursor_isAtEnd_19
  · refine fs_lift (fun _ _ _ _ => lv_iconst (v := 0) hx hb d_Cursor_isAtEnd_18 (by decide)) ?_
    exact fs_Jzret S hr hk rfl d_Cursor_isAtEnd_19

theorem d_Collector_canRead_0 : decode prog_2_method_13_code 0 = .ok (.new 137, 3) := by decide +kernel
theorem d_Collector_canRead_3 : decode prog_2_method_13_code 3 = .ok (.dup, 1) := by decide +kernel
theorem d_Collector_canRead_4 : decode prog_2_method_13_code 4 = .ok (.aload_n 1, 1) := by decide +kernel
theorem d_Collector_canRead_5 : decode prog_2_method_13_code 5 = .ok (.invokespecial 139, 3) := by decide +kernel
theorem d_Collector_canRead_8 : decode prog_2_method_13_code 8 = .ok (.astore_n 3, 1) := by decide +kernel
theorem d_Collector_canRead_9 : decode prog_2_method_13_code 9 = .ok (.iconst 0, 1) := by decide +kernel
theorem d_Collector_canRead_10 : decode prog_2_method_13_code 10 = .ok (.istore 4, 2) := by decide +kernel
theorem d_Collector_canRead_12 : decode prog_2_method_13_code 12 = .ok (.iload 4, 2) := by decide +kernel
theorem d_Collector_canRead_14 : decode prog_2_method_13_code 14 = .ok (.aload_n 1, 1) := by decide +kernel
theorem d_Collector_canRead_15 : decode prog_2_method_13_code 15 = .ok (.invokevirtual 83, 3) := by decide +kernel
theorem d_Collector_canRead_18 : decode prog_2_method_13_code 18 = .ok (.if_icmp .ge 38, 3) := by decide +kernel
theorem d_Collector_canRead_21 : decode prog_2_method_13_code 21 = .ok (.iconst 0, 1) := by decide +kernel
theorem d_Collector_canRead_22 : decode prog_2_method_13_code 22 = .ok (.istore 5, 2) := by decide +kernel
theorem d_Collector_canRead_24 : decode prog_2_method_13_code 24 = .ok (.iload 5, 2) := by decide +kernel
theorem d_Collector_canRead_26 : decode prog_2_method_13_code 26 = .ok (.aload_n 2, 1) := by decide +kernel
theorem d_Collector_canRead_27 : decode prog_2_method_13_code 27 = .ok (.invokevirtual 140, 3) := by decide +kernel
theorem d_Collector_canRead_30 : decode prog_2_method_13_code 30 = .ok (.if_icmp .ge 20, 3) := by decide +kernel
theorem d_Collector_canRead_33 : decode prog_2_method_13_code 33 = .ok (.aload_n 3, 1) := by decide +kernel
theorem d_Collector_canRead_34 : decode prog_2_method_13_code 34 = .ok (.aload_n 2, 1) := by decide +kernel
theorem d_Collector_canRead_35 : decode prog_2_method_13_code 35 = .ok (.iload 5, 2) := by decide +kernel
theorem d_Collector_canRead_37 : decode prog_2_method_13_code 37 = .ok (.invokevirtual 143, 3) := by decide +kernel
theorem d_Collector_canRead_40 : decode prog_2_method_13_code 40 = .ok (.invokevirtual 147, 3) := by decide +kernel
theorem d_Collector_canRead_43 : decode prog_2_method_13_code 43 = .ok (.pop2, 1) := by decide +kernel
theorem d_Collector_canRead_44 : decode prog_2_method_13_code 44 = .ok (.iinc 5 1, 3) := by decide +kernel
theorem d_Collector_canRead_47 : decode prog_2_method_13_code 47 = .ok (.goto (-23), 3) := by decide +kernel
theorem d_Collector_canRead_50 : decode prog_2_method_13_code 50 = .ok (.iinc 4 1, 3) := by decide +kernel
theorem d_Collector_canRead_53 : decode prog_2_method_13_code 53 = .ok (.goto (-41), 3) := by decide +kernel
theorem d_Collector_canRead_56 : decode prog_2_method_13_code 56 = .ok (.aload_n 3, 1) := by decide +kernel
theorem d_Collector_canRead_57 : decode prog_2_method_13_code 57 = .ok (.getfield 151, 3) := by decide +kernel
theorem d_Collector_canRead_60 : decode prog_2_method_13_code 60 = .ok (.ifCond .ne 14, 3) := by decide +kernel
theorem d_Collector_canRead_63 : decode prog_2_method_13_code 63 = .ok (.aload_n 3, 1) := by decide +kernel
theorem d_Collector_canRead_64 : decode prog_2_method_13_code 64 = .ok (.invokevirtual 155, 3) := by decide +kernel
theorem d_Collector_canRead_67 : decode prog_2_method_13_code 67 = .ok (.ifCond .eq 7, 3) := by decide +kernel
theorem d_Collector_canRead_70 : decode prog_2_method_13_code 70 = .ok (.iconst 1, 1) := by decide +kernel
theorem d_Collector_canRead_71 : decode prog_2_method_13_code 71 = .ok (.goto 4, 3) := by decide +kernel
theorem d_Collector_canRead_74 : decode prog_2_method_13_code 74 = .ok (.iconst 0, 1) := by decide +kernel
theorem d_Collector_canRead_75 : decode prog_2_method_13_code 75 = .ok (.ireturn, 1) := by decide +kernel
theorem q_Collector_canRead : (⟨"FlowShelf$Collector", "canRead", "(LFlowShelf$Report;LFlowShelf$Report;)Z"⟩ : MethodName).cls ≠ "java/lang/invoke/MethodHandle" ∧ (⟨"FlowShelf$Collector", "canRead", "(LFlowShelf$Report;LFlowShelf$Report;)Z"⟩ : MethodName).cls ≠ "java/lang/invoke/VarHandle" ∧ (parseMethodDescriptor (⟨"FlowShelf$Collector", "canRead", "(LFlowShelf$Report;LFlowShelf$Report;)Z"⟩ : MethodName).desc).map (fun d => d.parameters.length) = some 2 := by decide +kernel
set_option maxHeartbeats 4000000 in
set_option maxRecDepth 100000 in
theorem m_Collector_canRead (X : fs_X) (l : Launch) (a0 : Nat) (a1 : Nat) (a2 : Nat) {r : Int32} {σ σF : fs_S} (h : (f_Collector_canRead a0 a1 a2).1 σ = some (r, σF)) : fs_Met X l ⟨"FlowShelf$Collector", "canRead", "(LFlowShelf$Report;LFlowShelf$Report;)Z"⟩ (Cond.code ⟨"FlowShelf$Collector", "canRead", "(LFlowShelf$Report;LFlowShelf$Report;)Z"⟩ prog_2_method_13_code 6 (some FieldType.boolean)) 2 46 [.ref a0, .ref a1, .ref a2] σ (fs_eI r) σF := by
  refine fs_ofW (by decide) ?_
  intro p e s m args below meth c s₁ B hml hT hv
  obtain ⟨rfl, hw0, hG⟩ := hv
  have hx := B.exec
  have hb := B.bytes
  have hr := B.returns
  have hk := B.notSynchronized
  have S : CallFix p m c prog_2_method_13_code 6 s _ fs_ws "FlowShelf$Collector" := ⟨B.exec, B.bytes, hml, findClass_of_methodNamed B.named, fun w hw => atoms_spec (ws := _ :: fs_ws) B.pre w (List.mem_cons_of_mem _ hw)⟩
  have hR := fs_hR (fr := 2) (lo := 46) ((f_Collector_canRead a0 a1 a2).2 _ _ _ h)
  have hl := lv_entry ([.ref a0, .ref a1, .ref a2]) (n := 6) (Nat.le_of_ble_eq_true rfl)
  rw [lg_entry_eq]
  generalize (lg_sl ([.ref a0, .ref a1, .ref a2]) ++ List.replicate (6 - (lg_sl ([.ref a0, .ref a1, .ref a2])).length) Slot.unset).toArray = ls at hl ⊢
  have hl : lv_has ls 6 [(0, .ref a0), (1, .ref a1), (2, .ref a2)] := hl
  refine (?_ : fs_J X p l e (fs_rm 2 46 σ σF) s m _ below meth c (fs_Q X below _ s (fs_eI r) σ σF) r σ σF (f_Collector_canRead a0 a1 a2) (F0 m 0 ls [])) σ s.heap [] 0 0 h hw0 va_S.rf rfl rfl
  clear h hw0
  unfold f_Collector_canRead
  refine fs_Jnw S hG hR fs_in10 rfl fs_Y10 fs_ty10 fs_dv10 rfl tw_4_222 tw_4_223 tw_1_27 d_Collector_canRead_0 (fun r1 => ?_)
  refine fs_lift (fun _ _ _ _ => lv_dup hx hb d_Collector_canRead_3 rfl) ?_
  refine fs_lift (fun _ _ _ _ => lv_aload_n hx hb d_Collector_canRead_4 rfl (lv_at hl 1 rfl)) ?_
  refine fs_JI S hG hR [.ref a1] (fun zr zs zt zh => m_Cursor_init X l r1 a1 zh) tw_4_224 tw_4_225 tw_4_226 tw_1_27 rfl q_Cursor_init ⟨(Nat.le_of_ble_eq_true rfl), (Nat.le_of_ble_eq_true rfl)⟩ hl.1 rfl (Nat.le_of_ble_eq_true rfl) d_Collector_canRead_5 ?_
  refine fs_Jeq (g2 := F0 m 8 ls [.ref r1]) rfl ?_
  refine fs_liftL (fun _ _ _ _ => lv_astore_n (lv' := [(3, .ref r1), (0, .ref a0), (1, .ref a1), (2, .ref a2)]) hx hb d_Collector_canRead_8 rfl hl (Nat.le_of_ble_eq_true rfl) rfl) (fun ls hl => ?_)
  refine fs_lift (fun _ _ _ _ => lv_iconst (v := 0) hx hb d_Collector_canRead_9 (by decide)) ?_
  refine fs_liftL (fun _ _ _ _ => lv_istore (lv' := [(4, .int 0), (3, .ref r1), (0, .ref a0), (1, .ref a1), (2, .ref a2)]) hx hb d_Collector_canRead_10 hl (Nat.le_of_ble_eq_true rfl) rfl) (fun ls hl => ?_)
  refine fs_Jlp1 (nL := 6) (pc := 12) (rest := []) (I := fun (v2 : Int32) => [(1, .ref a1), (2, .ref a2), (3, .ref r1), (4, .int v2)]) (fun k12 hk12 v2 ls hl => ?_) _ _ _ (lv_sub hl [3, 4, 1, 0] rfl)
  refine fs_lift (fun _ _ _ _ => lv_iload hx hb d_Collector_canRead_12 (lv_at hl 3 rfl)) ?_
  refine fs_lift (fun _ _ _ _ => lv_aload_n hx hb d_Collector_canRead_14 rfl (lv_at hl 0 rfl)) ?_
  refine fs_JV S hG hR rfl [] (enc := fun r => some (.int r)) (fun zr zs zt zh => m_Report_records X l a1 zh) tw_4_184 tw_4_136 tw_4_137 tw_4_138 tw_1_25 q_Report_records ⟨(Nat.le_of_ble_eq_true rfl), (Nat.le_of_ble_eq_true rfl)⟩ hl.1 rfl (Nat.le_of_ble_eq_true rfl) d_Collector_canRead_15 (fun v3 => ?_)
  refine fs_Jeq (g2 := F0 m 18 ls [.int v3, .int v2]) rfl ?_
  refine fs_if (fun _ _ _ _ => lv_icmp_ge hx hb d_Collector_canRead_18 rfl) ?_ ?_
  · refine fs_lift (fun _ _ _ _ => lv_aload_n hx hb d_Collector_canRead_56 rfl (lv_at hl 2 rfl)) ?_
    refine fs_Jgi S hG fs_in10 rfl 2 (Nat.le_of_ble_eq_true rfl) tw_4_231 (fun _ h9 => h9) d_Collector_canRead_57 (fun v4 => ?_)
    refine fs_ifn (fun _ _ _ _ => lv_if_ne hx hb d_Collector_canRead_60 rfl) ?_ ?_
    · refine fs_lift (fun _ _ _ _ => lv_aload_n hx hb d_Collector_canRead_63 rfl (lv_at hl 2 rfl)) ?_
      refine fs_JV S hG hR rfl [] (enc := fun r => some (.int r)) (fun zr zs zt zh => m_Cursor_isAtEnd X l r1 zh) tw_5_9 tw_5_10 tw_5_11 tw_5_12 tw_1_27 q_Cursor_isAtEnd ⟨(Nat.le_of_ble_eq_true rfl), (Nat.le_of_ble_eq_true rfl)⟩ hl.1 rfl (Nat.le_of_ble_eq_true rfl) d_Collector_canRead_64 (fun v5 => ?_)
      refine fs_Jeq (g2 := F0 m 67 ls [.int v5]) rfl ?_
      refine fs_if (fun _ _ _ _ => lv_if_eq hx hb d_Collector_canRead_67 rfl) ?_ ?_
      · refine fs_lift (fun _ _ _ _ => lv_iconst (v := 0) hx hb d_Collector_canRead_74 (by decide)) ?_
        exact fs_Jzret S hr hk rfl d_Collector_canRead_75
      · refine fs_lift (fun _ _ _ _ => lv_iconst (v := 1) hx hb d_Collector_canRead_70 (by decide)) ?_
        refine fs_lift (fun _ _ _ _ => lv_goto hx hb d_Collector_canRead_71 rfl) ?_
        exact fs_Jzret S hr hk rfl d_Collector_canRead_75
    · refine fs_lift (fun _ _ _ _ => lv_iconst (v := 0) hx hb d_Collector_canRead_74 (by decide)) ?_
      exact fs_Jzret S hr hk rfl d_Collector_canRead_75
  · refine fs_lift (fun _ _ _ _ => lv_iconst (v := 0) hx hb d_Collector_canRead_21 (by decide)) ?_
    refine fs_liftL (fun _ _ _ _ => lv_istore (lv' := [(5, .int 0), (1, .ref a1), (2, .ref a2), (3, .ref r1), (4, .int v2)]) hx hb d_Collector_canRead_22 hl (Nat.le_of_ble_eq_true rfl) rfl) (fun ls hl => ?_)
    refine fs_Jlp1 (nL := 6) (pc := 24) (rest := []) (I := fun (v6 : Int32) => [(1, .ref a1), (2, .ref a2), (3, .ref r1), (4, .int v2), (5, .int v6)]) (fun k24 hk24 v6 ls hl => ?_) _ _ _ (lv_sub hl [1, 2, 3, 4, 0] rfl)
    refine fs_lift (fun _ _ _ _ => lv_iload hx hb d_Collector_canRead_24 (lv_at hl 4 rfl)) ?_
    refine fs_lift (fun _ _ _ _ => lv_aload_n hx hb d_Collector_canRead_26 rfl (lv_at hl 1 rfl)) ?_
    refine fs_JV S hG hR rfl [] (enc := fun r => some (.int r)) (fun zr zs zt zh => m_Report_templateFields X l a2 zh) tw_4_239 tw_4_120 tw_4_121 tw_4_122 tw_1_25 q_Report_templateFields ⟨(Nat.le_of_ble_eq_true rfl), (Nat.le_of_ble_eq_true rfl)⟩ hl.1 rfl (Nat.le_of_ble_eq_true rfl) d_Collector_canRead_27 (fun v7 => ?_)
    refine fs_Jeq (g2 := F0 m 30 ls [.int v7, .int v6]) rfl ?_
    refine fs_if (fun _ _ _ _ => lv_icmp_ge hx hb d_Collector_canRead_30 rfl) ?_ ?_
    · refine fs_Jnm (fun v8 hv9 => ?_)
      refine fs_liftL (fun _ _ _ _ => lv_iinc (k := 3) (v := v8) (lv' := [(4, .int v8), (1, .ref a1), (2, .ref a2), (3, .ref r1), (5, .int v6)]) hx hb d_Collector_canRead_50 hl rfl (by rw [hv9]; rfl) (Nat.le_of_ble_eq_true rfl) rfl) (fun ls hl => ?_)
      refine fs_lift (fun _ _ _ _ => lv_goto hx hb d_Collector_canRead_53 rfl) ?_
      exact hk12 v8 ls (lv_sub hl [1, 2, 3, 0] rfl)
    · refine fs_lift (fun _ _ _ _ => lv_aload_n hx hb d_Collector_canRead_33 rfl (lv_at hl 2 rfl)) ?_
      refine fs_lift (fun _ _ _ _ => lv_aload_n hx hb d_Collector_canRead_34 rfl (lv_at hl 1 rfl)) ?_
      refine fs_lift (fun _ _ _ _ => lv_iload hx hb d_Collector_canRead_35 (lv_at hl 4 rfl)) ?_
      refine fs_JV S hG hR rfl [.int v6] (enc := fun r => some (.int r)) (fun zr zs zt zh => m_Report_templateLength X l a2 v6 zh) tw_5_0 tw_4_128 tw_4_129 tw_4_130 tw_1_25 q_Report_templateLength ⟨(Nat.le_of_ble_eq_true rfl), (Nat.le_of_ble_eq_true rfl)⟩ hl.1 rfl (Nat.le_of_ble_eq_true rfl) d_Collector_canRead_37 (fun v9 => ?_)
      refine fs_Jeq (g2 := F0 m 40 ls [.int v9, .ref r1]) rfl ?_
      refine fs_JV S hG hR rfl [.int v9] (enc := fun r => some (.long r)) (fun zr zs zt zh => m_Cursor_takeField X l r1 v9 zh) tw_5_1 tw_5_2 tw_5_3 tw_5_4 tw_1_27 q_Cursor_takeField ⟨(Nat.le_of_ble_eq_true rfl), (Nat.le_of_ble_eq_true rfl)⟩ hl.1 rfl (Nat.le_of_ble_eq_true rfl) d_Collector_canRead_40 (fun v10 => ?_)
      refine fs_Jeq (g2 := F0 m 43 ls [.long v10]) rfl ?_
      refine fs_lift (fun _ _ _ _ => lv_pop2_2 hx hb d_Collector_canRead_43 rfl) ?_
      refine fs_Jnm (fun v11 hv9 => ?_)
      refine fs_liftL (fun _ _ _ _ => lv_iinc (k := 4) (v := v11) (lv' := [(5, .int v11), (1, .ref a1), (2, .ref a2), (3, .ref r1), (4, .int v2)]) hx hb d_Collector_canRead_44 hl rfl (by rw [hv9]; rfl) (Nat.le_of_ble_eq_true rfl) rfl) (fun ls hl => ?_)
      refine fs_lift (fun _ _ _ _ => lv_goto hx hb d_Collector_canRead_47 rfl) ?_
      exact hk24 v11 ls (lv_sub hl [1, 2, 3, 4, 0] rfl)

theorem d_Arrays_fill_0_0 : decode prog_30_method_101_code 0 = .ok (.iconst 0, 1) := by decide +kernel
theorem d_Arrays_fill_0_1 : decode prog_30_method_101_code 1 = .ok (.istore_n 3, 1) := by decide +kernel
theorem d_Arrays_fill_0_2 : decode prog_30_method_101_code 2 = .ok (.aload_n 0, 1) := by decide +kernel
theorem d_Arrays_fill_0_3 : decode prog_30_method_101_code 3 = .ok (.arraylength, 1) := by decide +kernel
theorem d_Arrays_fill_0_4 : decode prog_30_method_101_code 4 = .ok (.istore 4, 2) := by decide +kernel
theorem d_Arrays_fill_0_6 : decode prog_30_method_101_code 6 = .ok (.iload_n 3, 1) := by decide +kernel
theorem d_Arrays_fill_0_7 : decode prog_30_method_101_code 7 = .ok (.iload 4, 2) := by decide +kernel
theorem d_Arrays_fill_0_9 : decode prog_30_method_101_code 9 = .ok (.if_icmp .ge 13, 3) := by decide +kernel
theorem d_Arrays_fill_0_12 : decode prog_30_method_101_code 12 = .ok (.aload_n 0, 1) := by decide +kernel
theorem d_Arrays_fill_0_13 : decode prog_30_method_101_code 13 = .ok (.iload_n 3, 1) := by decide +kernel
theorem d_Arrays_fill_0_14 : decode prog_30_method_101_code 14 = .ok (.lload_n 1, 1) := by decide +kernel
theorem d_Arrays_fill_0_15 : decode prog_30_method_101_code 15 = .ok (.lastore, 1) := by decide +kernel
theorem d_Arrays_fill_0_16 : decode prog_30_method_101_code 16 = .ok (.iinc 3 1, 3) := by decide +kernel
theorem d_Arrays_fill_0_19 : decode prog_30_method_101_code 19 = .ok (.goto (-13), 3) := by decide +kernel
theorem d_Arrays_fill_0_22 : decode prog_30_method_101_code 22 = .ok (.return_, 1) := by decide +kernel
theorem q_Arrays_fill_0 : (⟨"java/util/Arrays", "fill", "([JJ)V"⟩ : MethodName).cls ≠ "java/lang/invoke/MethodHandle" ∧ (⟨"java/util/Arrays", "fill", "([JJ)V"⟩ : MethodName).cls ≠ "java/lang/invoke/VarHandle" ∧ (parseMethodDescriptor (⟨"java/util/Arrays", "fill", "([JJ)V"⟩ : MethodName).desc).map (fun d => d.parameters.length) = some 2 := by decide +kernel
set_option maxHeartbeats 4000000 in
set_option maxRecDepth 100000 in
theorem m_Arrays_fill_0 (X : fs_X) (l : Launch) (a0 : Nat) (x1 : Int64) {r : Unit} {σ σF : fs_S} (h : (f_Arrays_fill_0 a0 x1).1 σ = some (r, σF)) : fs_Met X l ⟨"java/util/Arrays", "fill", "([JJ)V"⟩ (Cond.code ⟨"java/util/Arrays", "fill", "([JJ)V"⟩ prog_30_method_101_code 5 none) 0 0 [.ref a0, .long x1] σ (fs_eV r) σF := by
  refine fs_ofW (by decide) ?_
  intro p e s m args below meth c s₁ B hml hT hv
  obtain ⟨rfl, hw0, hG⟩ := hv
  have hx := B.exec
  have hb := B.bytes
  have hr := B.returns
  have hk := B.notSynchronized
  have S : CallFix p m c prog_30_method_101_code 5 s _ fs_ws "java/util/Arrays" := ⟨B.exec, B.bytes, hml, findClass_of_methodNamed B.named, fun w hw => atoms_spec (ws := _ :: fs_ws) B.pre w (List.mem_cons_of_mem _ hw)⟩
  have hR := fs_hR (fr := 0) (lo := 0) ((f_Arrays_fill_0 a0 x1).2 _ _ _ h)
  have hl := lv_entry ([.ref a0, .long x1]) (n := 5) (Nat.le_of_ble_eq_true rfl)
  rw [lg_entry_eq]
  generalize (lg_sl ([.ref a0, .long x1]) ++ List.replicate (5 - (lg_sl ([.ref a0, .long x1])).length) Slot.unset).toArray = ls at hl ⊢
  have hl : lv_has ls 5 [(0, .ref a0), (1, .long x1)] := hl
  refine (?_ : fs_J X p l e (fs_rm 0 0 σ σF) s m _ below meth c (fs_Q X below _ s (fs_eV r) σ σF) r σ σF (f_Arrays_fill_0 a0 x1) (F0 m 0 ls [])) σ s.heap [] 0 0 h hw0 va_S.rf rfl rfl
  clear h hw0
  unfold f_Arrays_fill_0
  refine fs_lift (fun _ _ _ _ => lv_iconst (v := 0) hx hb d_Arrays_fill_0_0 (by decide)) ?_
  refine fs_liftL (fun _ _ _ _ => lv_istore_n (lv' := [(3, .int 0), (0, .ref a0), (1, .long x1)]) hx hb d_Arrays_fill_0_1 rfl hl (Nat.le_of_ble_eq_true rfl) rfl) (fun ls hl => ?_)
  refine fs_lift (fun _ _ _ _ => lv_aload_n hx hb d_Arrays_fill_0_2 rfl (lv_at hl 1 rfl)) ?_
  refine fs_Jal S hG d_Arrays_fill_0_3 (fun v1 => ?_)
  refine fs_liftL (fun _ _ _ _ => lv_istore (lv' := [(4, .int v1), (3, .int 0), (0, .ref a0), (1, .long x1)]) hx hb d_Arrays_fill_0_4 hl (Nat.le_of_ble_eq_true rfl) rfl) (fun ls hl => ?_)
  refine fs_Jlp1 (nL := 5) (pc := 6) (rest := []) (I := fun (v2 : Int32) => [(0, .ref a0), (1, .long x1), (3, .int v2), (4, .int v1)]) (fun k6 hk6 v2 ls hl => ?_) _ _ _ (lv_sub hl [2, 3, 1, 0] rfl)
  refine fs_lift (fun _ _ _ _ => lv_iload_n hx hb d_Arrays_fill_0_6 rfl (lv_at hl 2 rfl)) ?_
  refine fs_lift (fun _ _ _ _ => lv_iload hx hb d_Arrays_fill_0_7 (lv_at hl 3 rfl)) ?_
  refine fs_if (fun _ _ _ _ => lv_icmp_ge hx hb d_Arrays_fill_0_9 rfl) ?_ ?_
  · exact fs_Jvret S hr hk rfl d_Arrays_fill_0_22
  · refine fs_lift (fun _ _ _ _ => lv_aload_n hx hb d_Arrays_fill_0_12 rfl (lv_at hl 0 rfl)) ?_
    refine fs_lift (fun _ _ _ _ => lv_iload_n hx hb d_Arrays_fill_0_13 rfl (lv_at hl 2 rfl)) ?_
    refine fs_lift (fun _ _ _ _ => lv_lload_n hx hb d_Arrays_fill_0_14 rfl (lv_at hl 1 rfl)) ?_
    refine fs_Jsj S hG d_Arrays_fill_0_15 ?_
    refine fs_Jnm (fun v3 hv9 => ?_)
    refine fs_liftL (fun _ _ _ _ => lv_iinc (k := 2) (v := v3) (lv' := [(3, .int v3), (0, .ref a0), (1, .long x1), (4, .int v1)]) hx hb d_Arrays_fill_0_16 hl rfl (by rw [hv9]; rfl) (Nat.le_of_ble_eq_true rfl) rfl) (fun ls hl => ?_)
    refine fs_lift (fun _ _ _ _ => lv_goto hx hb d_Arrays_fill_0_19 rfl) ?_
    exact hk6 v3 ls (lv_sub hl [1, 2, 0, 3] rfl)

theorem d_Row_init_0 : decode prog_9_method_1_code 0 = .ok (.aload_n 0, 1) := by decide +kernel
theorem d_Row_init_1 : decode prog_9_method_1_code 1 = .ok (.invokespecial 3, 3) := by decide +kernel
theorem d_Row_init_4 : decode prog_9_method_1_code 4 = .ok (.aload_n 0, 1) := by decide +kernel
theorem d_Row_init_5 : decode prog_9_method_1_code 5 = .ok (.bipush 8, 2) := by decide +kernel
theorem d_Row_init_7 : decode prog_9_method_1_code 7 = .ok (.newarray .long, 2) := by decide +kernel
theorem d_Row_init_9 : decode prog_9_method_1_code 9 = .ok (.putfield 9, 3) := by decide +kernel
theorem d_Row_init_12 : decode prog_9_method_1_code 12 = .ok (.aload_n 0, 1) := by decide +kernel
theorem d_Row_init_13 : decode prog_9_method_1_code 13 = .ok (.iload_n 1, 1) := by decide +kernel
theorem d_Row_init_14 : decode prog_9_method_1_code 14 = .ok (.putfield 15, 3) := by decide +kernel
theorem d_Row_init_17 : decode prog_9_method_1_code 17 = .ok (.aload_n 0, 1) := by decide +kernel
theorem d_Row_init_18 : decode prog_9_method_1_code 18 = .ok (.getfield 9, 3) := by decide +kernel
theorem d_Row_init_21 : decode prog_9_method_1_code 21 = .ok (.ldc2_w 19, 3) := by decide +kernel
theorem d_Row_init_24 : decode prog_9_method_1_code 24 = .ok (.invokestatic 21, 3) := by decide +kernel
theorem d_Row_init_27 : decode prog_9_method_1_code 27 = .ok (.return_, 1) := by decide +kernel
theorem q_Row_init : (⟨"FlowShelf$Row", "<init>", "(I)V"⟩ : MethodName).cls ≠ "java/lang/invoke/MethodHandle" ∧ (⟨"FlowShelf$Row", "<init>", "(I)V"⟩ : MethodName).cls ≠ "java/lang/invoke/VarHandle" ∧ (parseMethodDescriptor (⟨"FlowShelf$Row", "<init>", "(I)V"⟩ : MethodName).desc).map (fun d => d.parameters.length) = some 1 := by decide +kernel
set_option maxHeartbeats 4000000 in
set_option maxRecDepth 100000 in
theorem m_Row_init (X : fs_X) (l : Launch) (a0 : Nat) (x1 : Int32) {r : Unit} {σ σF : fs_S} (h : (f_Row_init a0 x1).1 σ = some (r, σF)) : fs_Met X l ⟨"FlowShelf$Row", "<init>", "(I)V"⟩ (Cond.code ⟨"FlowShelf$Row", "<init>", "(I)V"⟩ prog_9_method_1_code 2 none) 1 24 [.ref a0, .int x1] σ (fs_eV r) σF := by
  refine fs_ofW (by decide) ?_
  intro p e s m args below meth c s₁ B hml hT hv
  obtain ⟨rfl, hw0, hG⟩ := hv
  have hx := B.exec
  have hb := B.bytes
  have hr := B.returns
  have hk := B.notSynchronized
  have hin : meth.name = "<init>" := (name_of_methodNamed B.named B.method).1
  have S : CallFix p m c prog_9_method_1_code 2 s _ fs_ws "FlowShelf$Row" := ⟨B.exec, B.bytes, hml, findClass_of_methodNamed B.named, fun w hw => atoms_spec (ws := _ :: fs_ws) B.pre w (List.mem_cons_of_mem _ hw)⟩
  have hR := fs_hR (fr := 1) (lo := 24) ((f_Row_init a0 x1).2 _ _ _ h)
  have hl := lv_entry ([.ref a0, .int x1]) (n := 2) (Nat.le_of_ble_eq_true rfl)
  rw [lg_entry_eq]
  generalize (lg_sl ([.ref a0, .int x1]) ++ List.replicate (2 - (lg_sl ([.ref a0, .int x1])).length) Slot.unset).toArray = ls at hl ⊢
  have hl : lv_has ls 2 [(0, .ref a0), (1, .int x1)] := hl
  refine (?_ : fs_J X p l e (fs_rm 1 24 σ σF) s m _ below meth c (fs_Q X below _ s (fs_eV r) σ σF) r σ σF (f_Row_init a0 x1) (F0 m 0 ls [])) σ s.heap [] 0 0 h hw0 va_S.rf rfl rfl
  clear h hw0
  unfold f_Row_init
  refine fs_lift (fun _ _ _ _ => lv_aload_n hx hb d_Row_init_0 rfl (lv_at hl 0 rfl)) ?_
  refine fs_JO S tw_5_23 tw_1_35 tw_1_36 hl.1 (Nat.le_of_ble_eq_true rfl) (Nat.le_of_ble_eq_true rfl) d_Row_init_1 ?_
  refine fs_Jeq (g2 := F0 m 4 ls []) rfl ?_
  refine fs_lift (fun _ _ _ _ => lv_aload_n hx hb d_Row_init_4 rfl (lv_at hl 0 rfl)) ?_
  refine fs_lift (fun _ _ _ _ => lv_bipush (v := 8) hx hb d_Row_init_5 (by decide)) ?_
  refine fs_Jwj S hG hR rfl tw_5_40 d_Row_init_7 (fun r1 => ?_)
  refine fs_Jput S hG fs_in11 rfl 1 (Nat.le_of_ble_eq_true rfl) tw_5_31 (fun _ h9 => h9) fs_Y11 fs_ty11 fs_nm11 (Or.inr ⟨rfl, hin, rfl⟩) rfl rfl d_Row_init_9 ?_
  refine fs_lift (fun _ _ _ _ => lv_aload_n hx hb d_Row_init_12 rfl (lv_at hl 0 rfl)) ?_
  refine fs_lift (fun _ _ _ _ => lv_iload_n hx hb d_Row_init_13 rfl (lv_at hl 1 rfl)) ?_
  refine fs_Jput S hG fs_in11 rfl 0 (Nat.le_of_ble_eq_true rfl) tw_5_28 (fun _ h9 => h9) fs_Y11 fs_ty11 fs_nm11 (Or.inr ⟨rfl, hin, rfl⟩) rfl rfl d_Row_init_14 ?_
  refine fs_lift (fun _ _ _ _ => lv_aload_n hx hb d_Row_init_17 rfl (lv_at hl 0 rfl)) ?_
  refine fs_Jgr S hG fs_in11 rfl 1 (Nat.le_of_ble_eq_true rfl) tw_5_31 (fun _ h9 => h9) d_Row_init_18 (fun r2 => ?_)
  refine fs_lift (fun _ _ _ _ => lv_ldc2 hx hb S.2.2.2.1 (S.2.2.2.2 _ tw_5_24) d_Row_init_21) ?_
  refine fs_JS S hG hR [.ref r2, .long (-1)] (enc := fun _ => none) (fun zr zs zt zh => m_Arrays_fill_0 X l r2 (-1) zh) tw_5_25 tw_5_26 tw_5_27 tw_1_22 q_Arrays_fill_0 ⟨(Nat.le_of_ble_eq_true rfl), (Nat.le_of_ble_eq_true rfl)⟩ hl.1 rfl (Nat.le_of_ble_eq_true rfl) d_Row_init_24 (fun _ => ?_)
  refine fs_Jeq (g2 := F0 m 27 ls []) rfl ?_
  exact fs_Jvret S hr hk rfl d_Row_init_27

theorem d_Table_addRow_0 : decode prog_11_method_3_code 0 = .ok (.aload_n 0, 1) := by decide +kernel
theorem d_Table_addRow_1 : decode prog_11_method_3_code 1 = .ok (.iconst 1, 1) := by decide +kernel
theorem d_Table_addRow_2 : decode prog_11_method_3_code 2 = .ok (.invokevirtual 29, 3) := by decide +kernel
theorem d_Table_addRow_5 : decode prog_11_method_3_code 5 = .ok (.ifCond .eq 12, 3) := by decide +kernel
theorem d_Table_addRow_8 : decode prog_11_method_3_code 8 = .ok (.aload_n 0, 1) := by decide +kernel
theorem d_Table_addRow_9 : decode prog_11_method_3_code 9 = .ok (.getfield 12, 3) := by decide +kernel
theorem d_Table_addRow_12 : decode prog_11_method_3_code 12 = .ok (.aload_n 1, 1) := by decide +kernel
theorem d_Table_addRow_13 : decode prog_11_method_3_code 13 = .ok (.invokevirtual 33, 3) := by decide +kernel
theorem d_Table_addRow_16 : decode prog_11_method_3_code 16 = .ok (.pop, 1) := by decide +kernel
theorem d_Table_addRow_17 : decode prog_11_method_3_code 17 = .ok (.return_, 1) := by decide +kernel
theorem q_Table_addRow : (⟨"FlowShelf$Table", "addRow", "(LFlowShelf$Row;)V"⟩ : MethodName).cls ≠ "java/lang/invoke/MethodHandle" ∧ (⟨"FlowShelf$Table", "addRow", "(LFlowShelf$Row;)V"⟩ : MethodName).cls ≠ "java/lang/invoke/VarHandle" ∧ (parseMethodDescriptor (⟨"FlowShelf$Table", "addRow", "(LFlowShelf$Row;)V"⟩ : MethodName).desc).map (fun d => d.parameters.length) = some 1 := by decide +kernel
set_option maxHeartbeats 4000000 in
set_option maxRecDepth 100000 in
theorem m_Table_addRow (X : fs_X) (l : Launch) (a0 : Nat) (a1 : Nat) {r : Unit} {σ σF : fs_S} (h : (f_Table_addRow a0 a1).1 σ = some (r, σF)) : fs_Met X l ⟨"FlowShelf$Table", "addRow", "(LFlowShelf$Row;)V"⟩ (Cond.code ⟨"FlowShelf$Table", "addRow", "(LFlowShelf$Row;)V"⟩ prog_11_method_3_code 2 none) 7 191 [.ref a0, .ref a1] σ (fs_eV r) σF := by
  refine fs_ofW (by decide) ?_
  intro p e s m args below meth c s₁ B hml hT hv
  obtain ⟨rfl, hw0, hG⟩ := hv
  have hx := B.exec
  have hb := B.bytes
  have hr := B.returns
  have hk := B.notSynchronized
  have S : CallFix p m c prog_11_method_3_code 2 s _ fs_ws "FlowShelf$Table" := ⟨B.exec, B.bytes, hml, findClass_of_methodNamed B.named, fun w hw => atoms_spec (ws := _ :: fs_ws) B.pre w (List.mem_cons_of_mem _ hw)⟩
  have hR := fs_hR (fr := 7) (lo := 191) ((f_Table_addRow a0 a1).2 _ _ _ h)
  have hl := lv_entry ([.ref a0, .ref a1]) (n := 2) (Nat.le_of_ble_eq_true rfl)
  rw [lg_entry_eq]
  generalize (lg_sl ([.ref a0, .ref a1]) ++ List.replicate (2 - (lg_sl ([.ref a0, .ref a1])).length) Slot.unset).toArray = ls at hl ⊢
  have hl : lv_has ls 2 [(0, .ref a0), (1, .ref a1)] := hl
  refine (?_ : fs_J X p l e (fs_rm 7 191 σ σF) s m _ below meth c (fs_Q X below _ s (fs_eV r) σ σF) r σ σF (f_Table_addRow a0 a1) (F0 m 0 ls [])) σ s.heap [] 0 0 h hw0 va_S.rf rfl rfl
  clear h hw0
  unfold f_Table_addRow
  refine fs_lift (fun _ _ _ _ => lv_aload_n hx hb d_Table_addRow_0 rfl (lv_at hl 0 rfl)) ?_
  refine fs_lift (fun _ _ _ _ => lv_iconst (v := 1) hx hb d_Table_addRow_1 (by decide)) ?_
  refine fs_JV S hG hR rfl [.int 1] (enc := fun r => some (.int r)) (fun zr zs zt zh => m_Table_hasRoomFor X l a0 1 zh) tw_5_46 tw_4_190 tw_4_191 tw_4_192 tw_1_9 q_Table_hasRoomFor ⟨(Nat.le_of_ble_eq_true rfl), (Nat.le_of_ble_eq_true rfl)⟩ hl.1 rfl (Nat.le_of_ble_eq_true rfl) d_Table_addRow_2 (fun v1 => ?_)
  refine fs_Jeq (g2 := F0 m 5 ls [.int v1]) rfl ?_
  refine fs_if (fun _ _ _ _ => lv_if_eq hx hb d_Table_addRow_5 rfl) ?_ ?_
  · exact fs_Jvret S hr hk rfl d_Table_addRow_17
  · refine fs_lift (fun _ _ _ _ => lv_aload_n hx hb d_Table_addRow_8 rfl (lv_at hl 0 rfl)) ?_
    refine fs_Jgr S hG fs_in6 rfl 0 (Nat.le_of_ble_eq_true rfl) tw_1_183 (fun _ h9 => h9) d_Table_addRow_9 (fun r2 => ?_)
    refine fs_lift (fun _ _ _ _ => lv_aload_n hx hb d_Table_addRow_12 rfl (lv_at hl 1 rfl)) ?_
    refine fs_JV S hG hR rfl [.ref a1] (enc := fun r => some (.int r)) (fun zr zs zt zh => m_ArrayList_add_0 X l r2 a1 zh) tw_5_47 tw_2_200 tw_2_201 tw_2_202 tw_1_5 q_ArrayList_add_0 ⟨(Nat.le_of_ble_eq_true rfl), (Nat.le_of_ble_eq_true rfl)⟩ hl.1 rfl (Nat.le_of_ble_eq_true rfl) d_Table_addRow_13 (fun v3 => ?_)
    refine fs_Jeq (g2 := F0 m 16 ls [.int v3]) rfl ?_
    refine fs_lift (fun _ _ _ _ => lv_pop hx hb d_Table_addRow_16 rfl) ?_
    exact fs_Jvret S hr hk rfl d_Table_addRow_17

theorem d_Collector_makeRows_0 : decode prog_2_method_14_code 0 = .ok (.new 137, 3) := by decide +kernel
theorem d_Collector_makeRows_3 : decode prog_2_method_14_code 3 = .ok (.dup, 1) := by decide +kernel
theorem d_Collector_makeRows_4 : decode prog_2_method_14_code 4 = .ok (.aload_n 1, 1) := by decide +kernel
theorem d_Collector_makeRows_5 : decode prog_2_method_14_code 5 = .ok (.invokespecial 139, 3) := by decide +kernel
theorem d_Collector_makeRows_8 : decode prog_2_method_14_code 8 = .ok (.astore_n 3, 1) := by decide +kernel
theorem d_Collector_makeRows_9 : decode prog_2_method_14_code 9 = .ok (.iconst 0, 1) := by decide +kernel
theorem d_Collector_makeRows_10 : decode prog_2_method_14_code 10 = .ok (.istore 4, 2) := by decide +kernel
theorem d_Collector_makeRows_12 : decode prog_2_method_14_code 12 = .ok (.iload 4, 2) := by decide +kernel
theorem d_Collector_makeRows_14 : decode prog_2_method_14_code 14 = .ok (.aload_n 1, 1) := by decide +kernel
theorem d_Collector_makeRows_15 : decode prog_2_method_14_code 15 = .ok (.invokevirtual 83, 3) := by decide +kernel
theorem d_Collector_makeRows_18 : decode prog_2_method_14_code 18 = .ok (.if_icmp .ge 71, 3) := by decide +kernel
theorem d_Collector_makeRows_21 : decode prog_2_method_14_code 21 = .ok (.new 159, 3) := by decide +kernel
theorem d_Collector_makeRows_24 : decode prog_2_method_14_code 24 = .ok (.dup, 1) := by decide +kernel
theorem d_Collector_makeRows_25 : decode prog_2_method_14_code 25 = .ok (.aload_n 1, 1) := by decide +kernel
theorem d_Collector_makeRows_26 : decode prog_2_method_14_code 26 = .ok (.invokevirtual 48, 3) := by decide +kernel
theorem d_Collector_makeRows_29 : decode prog_2_method_14_code 29 = .ok (.invokespecial 161, 3) := by decide +kernel
theorem d_Collector_makeRows_32 : decode prog_2_method_14_code 32 = .ok (.astore 5, 2) := by decide +kernel
theorem d_Collector_makeRows_34 : decode prog_2_method_14_code 34 = .ok (.iconst 0, 1) := by decide +kernel
theorem d_Collector_makeRows_35 : decode prog_2_method_14_code 35 = .ok (.istore 6, 2) := by decide +kernel
theorem d_Collector_makeRows_37 : decode prog_2_method_14_code 37 = .ok (.iload 6, 2) := by decide +kernel
theorem d_Collector_makeRows_39 : decode prog_2_method_14_code 39 = .ok (.aload_n 2, 1) := by decide +kernel
theorem d_Collector_makeRows_40 : decode prog_2_method_14_code 40 = .ok (.invokevirtual 140, 3) := by decide +kernel
theorem d_Collector_makeRows_43 : decode prog_2_method_14_code 43 = .ok (.if_icmp .ge 31, 3) := by decide +kernel
theorem d_Collector_makeRows_46 : decode prog_2_method_14_code 46 = .ok (.aload 5, 2) := by decide +kernel
theorem d_Collector_makeRows_48 : decode prog_2_method_14_code 48 = .ok (.getfield 163, 3) := by decide +kernel
theorem d_Collector_makeRows_51 : decode prog_2_method_14_code 51 = .ok (.aload_n 2, 1) := by decide +kernel
theorem d_Collector_makeRows_52 : decode prog_2_method_14_code 52 = .ok (.iload 6, 2) := by decide +kernel
theorem d_Collector_makeRows_54 : decode prog_2_method_14_code 54 = .ok (.invokevirtual 167, 3) := by decide +kernel
theorem d_Collector_makeRows_57 : decode prog_2_method_14_code 57 = .ok (.aload_n 3, 1) := by decide +kernel
theorem d_Collector_makeRows_58 : decode prog_2_method_14_code 58 = .ok (.aload_n 2, 1) := by decide +kernel
theorem d_Collector_makeRows_59 : decode prog_2_method_14_code 59 = .ok (.iload 6, 2) := by decide +kernel
theorem d_Collector_makeRows_61 : decode prog_2_method_14_code 61 = .ok (.invokevirtual 143, 3) := by decide +kernel
theorem d_Collector_makeRows_64 : decode prog_2_method_14_code 64 = .ok (.invokevirtual 147, 3) := by decide +kernel
theorem d_Collector_makeRows_67 : decode prog_2_method_14_code 67 = .ok (.lastore, 1) := by decide +kernel
theorem d_Collector_makeRows_68 : decode prog_2_method_14_code 68 = .ok (.iinc 6 1, 3) := by decide +kernel
theorem d_Collector_makeRows_71 : decode prog_2_method_14_code 71 = .ok (.goto (-34), 3) := by decide +kernel
theorem d_Collector_makeRows_74 : decode prog_2_method_14_code 74 = .ok (.aload_n 0, 1) := by decide +kernel
theorem d_Collector_makeRows_75 : decode prog_2_method_14_code 75 = .ok (.getfield 24, 3) := by decide +kernel
theorem d_Collector_makeRows_78 : decode prog_2_method_14_code 78 = .ok (.aload 5, 2) := by decide +kernel
theorem d_Collector_makeRows_80 : decode prog_2_method_14_code 80 = .ok (.invokevirtual 170, 3) := by decide +kernel
theorem d_Collector_makeRows_83 : decode prog_2_method_14_code 83 = .ok (.iinc 4 1, 3) := by decide +kernel
theorem d_Collector_makeRows_86 : decode prog_2_method_14_code 86 = .ok (.goto (-74), 3) := by decide +kernel
theorem d_Collector_makeRows_89 : decode prog_2_method_14_code 89 = .ok (.return_, 1) := by decide +kernel
theorem q_Collector_makeRows : (⟨"FlowShelf$Collector", "makeRows", "(LFlowShelf$Report;LFlowShelf$Report;)V"⟩ : MethodName).cls ≠ "java/lang/invoke/MethodHandle" ∧ (⟨"FlowShelf$Collector", "makeRows", "(LFlowShelf$Report;LFlowShelf$Report;)V"⟩ : MethodName).cls ≠ "java/lang/invoke/VarHandle" ∧ (parseMethodDescriptor (⟨"FlowShelf$Collector", "makeRows", "(LFlowShelf$Report;LFlowShelf$Report;)V"⟩ : MethodName).desc).map (fun d => d.parameters.length) = some 2 := by decide +kernel
set_option maxHeartbeats 4000000 in
set_option maxRecDepth 100000 in
theorem m_Collector_makeRows (X : fs_X) (l : Launch) (a0 : Nat) (a1 : Nat) (a2 : Nat) {r : Unit} {σ σF : fs_S} (h : (f_Collector_makeRows a0 a1 a2).1 σ = some (r, σF)) : fs_Met X l ⟨"FlowShelf$Collector", "makeRows", "(LFlowShelf$Report;LFlowShelf$Report;)V"⟩ (Cond.code ⟨"FlowShelf$Collector", "makeRows", "(LFlowShelf$Report;LFlowShelf$Report;)V"⟩ prog_2_method_14_code 7 none) 8 212 [.ref a0, .ref a1, .ref a2] σ (fs_eV r) σF := by
  refine fs_ofW (by decide) ?_
  intro p e s m args below meth c s₁ B hml hT hv
  obtain ⟨rfl, hw0, hG⟩ := hv
  have hx := B.exec
  have hb := B.bytes
  have hr := B.returns
  have hk := B.notSynchronized
  have S : CallFix p m c prog_2_method_14_code 7 s _ fs_ws "FlowShelf$Collector" := ⟨B.exec, B.bytes, hml, findClass_of_methodNamed B.named, fun w hw => atoms_spec (ws := _ :: fs_ws) B.pre w (List.mem_cons_of_mem _ hw)⟩
  have hR := fs_hR (fr := 8) (lo := 212) ((f_Collector_makeRows a0 a1 a2).2 _ _ _ h)
  have hl := lv_entry ([.ref a0, .ref a1, .ref a2]) (n := 7) (Nat.le_of_ble_eq_true rfl)
  rw [lg_entry_eq]
  generalize (lg_sl ([.ref a0, .ref a1, .ref a2]) ++ List.replicate (7 - (lg_sl ([.ref a0, .ref a1, .ref a2])).length) Slot.unset).toArray = ls at hl ⊢
  have hl : lv_has ls 7 [(0, .ref a0), (1, .ref a1), (2, .ref a2)] := hl
  refine (?_ : fs_J X p l e (fs_rm 8 212 σ σF) s m _ below meth c (fs_Q X below _ s (fs_eV r) σ σF) r σ σF (f_Collector_makeRows a0 a1 a2) (F0 m 0 ls [])) σ s.heap [] 0 0 h hw0 va_S.rf rfl rfl
  clear h hw0
  unfold f_Collector_makeRows
  refine fs_Jnw S hG hR fs_in10 rfl fs_Y10 fs_ty10 fs_dv10 rfl tw_4_222 tw_4_223 tw_1_27 d_Collector_makeRows_0 (fun r1 => ?_)
  refine fs_lift (fun _ _ _ _ => lv_dup hx hb d_Collector_makeRows_3 rfl) ?_
  refine fs_lift (fun _ _ _ _ => lv_aload_n hx hb d_Collector_makeRows_4 rfl (lv_at hl 1 rfl)) ?_
  refine fs_JI S hG hR [.ref a1] (fun zr zs zt zh => m_Cursor_init X l r1 a1 zh) tw_4_224 tw_4_225 tw_4_226 tw_1_27 rfl q_Cursor_init ⟨(Nat.le_of_ble_eq_true rfl), (Nat.le_of_ble_eq_true rfl)⟩ hl.1 rfl (Nat.le_of_ble_eq_true rfl) d_Collector_makeRows_5 ?_
  refine fs_Jeq (g2 := F0 m 8 ls [.ref r1]) rfl ?_
  refine fs_liftL (fun _ _ _ _ => lv_astore_n (lv' := [(3, .ref r1), (0, .ref a0), (1, .ref a1), (2, .ref a2)]) hx hb d_Collector_makeRows_8 rfl hl (Nat.le_of_ble_eq_true rfl) rfl) (fun ls hl => ?_)
  refine fs_lift (fun _ _ _ _ => lv_iconst (v := 0) hx hb d_Collector_makeRows_9 (by decide)) ?_
  refine fs_liftL (fun _ _ _ _ => lv_istore (lv' := [(4, .int 0), (3, .ref r1), (0, .ref a0), (1, .ref a1), (2, .ref a2)]) hx hb d_Collector_makeRows_10 hl (Nat.le_of_ble_eq_true rfl) rfl) (fun ls hl => ?_)
  refine fs_Jlp1 (nL := 7) (pc := 12) (rest := []) (I := fun (v2 : Int32) => [(0, .ref a0), (1, .ref a1), (2, .ref a2), (3, .ref r1), (4, .int v2)]) (fun k12 hk12 v2 ls hl => ?_) _ _ _ (lv_sub hl [2, 3, 4, 1, 0] rfl)
  refine fs_lift (fun _ _ _ _ => lv_iload hx hb d_Collector_makeRows_12 (lv_at hl 4 rfl)) ?_
  refine fs_lift (fun _ _ _ _ => lv_aload_n hx hb d_Collector_makeRows_14 rfl (lv_at hl 1 rfl)) ?_
  refine fs_JV S hG hR rfl [] (enc := fun r => some (.int r)) (fun zr zs zt zh => m_Report_records X l a1 zh) tw_4_184 tw_4_136 tw_4_137 tw_4_138 tw_1_25 q_Report_records ⟨(Nat.le_of_ble_eq_true rfl), (Nat.le_of_ble_eq_true rfl)⟩ hl.1 rfl (Nat.le_of_ble_eq_true rfl) d_Collector_makeRows_15 (fun v3 => ?_)
  refine fs_Jeq (g2 := F0 m 18 ls [.int v3, .int v2]) rfl ?_
  refine fs_if (fun _ _ _ _ => lv_icmp_ge hx hb d_Collector_makeRows_18 rfl) ?_ ?_
  · exact fs_Jvret S hr hk rfl d_Collector_makeRows_89
  · refine fs_Jnw S hG hR fs_in11 rfl fs_Y11 fs_ty11 fs_dv11 rfl tw_5_17 tw_5_18 tw_1_28 d_Collector_makeRows_21 (fun r4 => ?_)
    refine fs_lift (fun _ _ _ _ => lv_dup hx hb d_Collector_makeRows_24 rfl) ?_
    refine fs_lift (fun _ _ _ _ => lv_aload_n hx hb d_Collector_makeRows_25 rfl (lv_at hl 1 rfl)) ?_
    refine fs_JV S hG hR rfl [] (enc := fun r => some (.int r)) (fun zr zs zt zh => m_Report_exporter X l a1 zh) tw_5_19 tw_4_99 tw_4_100 tw_4_101 tw_1_25 q_Report_exporter ⟨(Nat.le_of_ble_eq_true rfl), (Nat.le_of_ble_eq_true rfl)⟩ hl.1 rfl (Nat.le_of_ble_eq_true rfl) d_Collector_makeRows_26 (fun v5 => ?_)
    refine fs_Jeq (g2 := F0 m 29 ls [.int v5, .ref r4, .ref r4]) rfl ?_
    refine fs_JI S hG hR [.int v5] (fun zr zs zt zh => m_Row_init X l r4 v5 zh) tw_5_20 tw_5_21 tw_5_22 tw_1_28 rfl q_Row_init ⟨(Nat.le_of_ble_eq_true rfl), (Nat.le_of_ble_eq_true rfl)⟩ hl.1 rfl (Nat.le_of_ble_eq_true rfl) d_Collector_makeRows_29 ?_
    refine fs_Jeq (g2 := F0 m 32 ls [.ref r4]) rfl ?_
    refine fs_liftL (fun _ _ _ _ => lv_astore (lv' := [(5, .ref r4), (0, .ref a0), (1, .ref a1), (2, .ref a2), (3, .ref r1), (4, .int v2)]) hx hb d_Collector_makeRows_32 hl (Nat.le_of_ble_eq_true rfl) rfl) (fun ls hl => ?_)
    refine fs_lift (fun _ _ _ _ => lv_iconst (v := 0) hx hb d_Collector_makeRows_34 (by decide)) ?_
    refine fs_liftL (fun _ _ _ _ => lv_istore (lv' := [(6, .int 0), (5, .ref r4), (0, .ref a0), (1, .ref a1), (2, .ref a2), (3, .ref r1), (4, .int v2)]) hx hb d_Collector_makeRows_35 hl (Nat.le_of_ble_eq_true rfl) rfl) (fun ls hl => ?_)
    refine fs_Jlp1 (nL := 7) (pc := 37) (rest := []) (I := fun (v6 : Int32) => [(0, .ref a0), (1, .ref a1), (2, .ref a2), (3, .ref r1), (4, .int v2), (5, .ref r4), (6, .int v6)]) (fun k37 hk37 v6 ls hl => ?_) _ _ _ (lv_sub hl [2, 3, 4, 5, 6, 1, 0] rfl)
    refine fs_lift (fun _ _ _ _ => lv_iload hx hb d_Collector_makeRows_37 (lv_at hl 6 rfl)) ?_
    refine fs_lift (fun _ _ _ _ => lv_aload_n hx hb d_Collector_makeRows_39 rfl (lv_at hl 2 rfl)) ?_
    refine fs_JV S hG hR rfl [] (enc := fun r => some (.int r)) (fun zr zs zt zh => m_Report_templateFields X l a2 zh) tw_4_239 tw_4_120 tw_4_121 tw_4_122 tw_1_25 q_Report_templateFields ⟨(Nat.le_of_ble_eq_true rfl), (Nat.le_of_ble_eq_true rfl)⟩ hl.1 rfl (Nat.le_of_ble_eq_true rfl) d_Collector_makeRows_40 (fun v7 => ?_)
    refine fs_Jeq (g2 := F0 m 43 ls [.int v7, .int v6]) rfl ?_
    refine fs_if (fun _ _ _ _ => lv_icmp_ge hx hb d_Collector_makeRows_43 rfl) ?_ ?_
    · refine fs_lift (fun _ _ _ _ => lv_aload_n hx hb d_Collector_makeRows_74 rfl (lv_at hl 0 rfl)) ?_
      refine fs_Jgr S hG fs_in5 rfl 2 (Nat.le_of_ble_eq_true rfl) tw_1_232 (fun _ h9 => h9) d_Collector_makeRows_75 (fun r8 => ?_)
      refine fs_lift (fun _ _ _ _ => lv_aload hx hb d_Collector_makeRows_78 (lv_at hl 5 rfl)) ?_
      refine fs_JV S hG hR rfl [.ref r4] (enc := fun _ => none) (fun zr zs zt zh => m_Table_addRow X l r8 r4 zh) tw_5_42 tw_5_43 tw_5_44 tw_5_45 tw_1_9 q_Table_addRow ⟨(Nat.le_of_ble_eq_true rfl), (Nat.le_of_ble_eq_true rfl)⟩ hl.1 rfl (Nat.le_of_ble_eq_true rfl) d_Collector_makeRows_80 (fun _ => ?_)
      refine fs_Jeq (g2 := F0 m 83 ls []) rfl ?_
      refine fs_Jnm (fun v9 hv9 => ?_)
      refine fs_liftL (fun _ _ _ _ => lv_iinc (k := 4) (v := v9) (lv' := [(4, .int v9), (0, .ref a0), (1, .ref a1), (2, .ref a2), (3, .ref r1), (5, .ref r4), (6, .int v6)]) hx hb d_Collector_makeRows_83 hl rfl (by rw [hv9]; rfl) (Nat.le_of_ble_eq_true rfl) rfl) (fun ls hl => ?_)
      refine fs_lift (fun _ _ _ _ => lv_goto hx hb d_Collector_makeRows_86 rfl) ?_
      exact hk12 v9 ls (lv_sub hl [1, 2, 3, 4, 0] rfl)
    · refine fs_lift (fun _ _ _ _ => lv_aload hx hb d_Collector_makeRows_46 (lv_at hl 5 rfl)) ?_
      refine fs_Jgr S hG fs_in11 rfl 1 (Nat.le_of_ble_eq_true rfl) tw_5_33 (fun _ h9 => h9) d_Collector_makeRows_48 (fun r10 => ?_)
      refine fs_lift (fun _ _ _ _ => lv_aload_n hx hb d_Collector_makeRows_51 rfl (lv_at hl 2 rfl)) ?_
      refine fs_lift (fun _ _ _ _ => lv_iload hx hb d_Collector_makeRows_52 (lv_at hl 6 rfl)) ?_
      refine fs_JV S hG hR rfl [.int v6] (enc := fun r => some (.int r)) (fun zr zs zt zh => m_Report_templateField X l a2 v6 zh) tw_5_41 tw_4_124 tw_4_125 tw_4_126 tw_1_25 q_Report_templateField ⟨(Nat.le_of_ble_eq_true rfl), (Nat.le_of_ble_eq_true rfl)⟩ hl.1 rfl (Nat.le_of_ble_eq_true rfl) d_Collector_makeRows_54 (fun v11 => ?_)
      refine fs_Jeq (g2 := F0 m 57 ls [.int v11, .ref r10]) rfl ?_
      refine fs_lift (fun _ _ _ _ => lv_aload_n hx hb d_Collector_makeRows_57 rfl (lv_at hl 3 rfl)) ?_
      refine fs_lift (fun _ _ _ _ => lv_aload_n hx hb d_Collector_makeRows_58 rfl (lv_at hl 2 rfl)) ?_
      refine fs_lift (fun _ _ _ _ => lv_iload hx hb d_Collector_makeRows_59 (lv_at hl 6 rfl)) ?_
      refine fs_JV S hG hR rfl [.int v6] (enc := fun r => some (.int r)) (fun zr zs zt zh => m_Report_templateLength X l a2 v6 zh) tw_5_0 tw_4_128 tw_4_129 tw_4_130 tw_1_25 q_Report_templateLength ⟨(Nat.le_of_ble_eq_true rfl), (Nat.le_of_ble_eq_true rfl)⟩ hl.1 rfl (Nat.le_of_ble_eq_true rfl) d_Collector_makeRows_61 (fun v12 => ?_)
      refine fs_Jeq (g2 := F0 m 64 ls [.int v12, .ref r1, .int v11, .ref r10]) rfl ?_
      refine fs_JV S hG hR rfl [.int v12] (enc := fun r => some (.long r)) (fun zr zs zt zh => m_Cursor_takeField X l r1 v12 zh) tw_5_1 tw_5_2 tw_5_3 tw_5_4 tw_1_27 q_Cursor_takeField ⟨(Nat.le_of_ble_eq_true rfl), (Nat.le_of_ble_eq_true rfl)⟩ hl.1 rfl (Nat.le_of_ble_eq_true rfl) d_Collector_makeRows_64 (fun v13 => ?_)
      refine fs_Jeq (g2 := F0 m 67 ls [.long v13, .int v11, .ref r10]) rfl ?_
      refine fs_Jsj S hG d_Collector_makeRows_67 ?_
      refine fs_Jnm (fun v14 hv9 => ?_)
      refine fs_liftL (fun _ _ _ _ => lv_iinc (k := 6) (v := v14) (lv' := [(6, .int v14), (0, .ref a0), (1, .ref a1), (2, .ref a2), (3, .ref r1), (4, .int v2), (5, .ref r4)]) hx hb d_Collector_makeRows_68 hl rfl (by rw [hv9]; rfl) (Nat.le_of_ble_eq_true rfl) rfl) (fun ls hl => ?_)
      refine fs_lift (fun _ _ _ _ => lv_goto hx hb d_Collector_makeRows_71 rfl) ?_
      exact hk37 v14 ls (lv_sub hl [1, 2, 3, 4, 5, 6, 0] rfl)

theorem d_Collector_ledgerOf_0 : decode prog_2_method_2_code 0 = .ok (.iload_n 1, 1) := by decide +kernel
theorem d_Collector_ledgerOf_1 : decode prog_2_method_2_code 1 = .ok (.ifCond .ne 10, 3) := by decide +kernel
theorem d_Collector_ledgerOf_4 : decode prog_2_method_2_code 4 = .ok (.aload_n 0, 1) := by decide +kernel
theorem d_Collector_ledgerOf_5 : decode prog_2_method_2_code 5 = .ok (.getfield 31, 3) := by decide +kernel
theorem d_Collector_ledgerOf_8 : decode prog_2_method_2_code 8 = .ok (.goto 7, 3) := by decide +kernel
theorem d_Collector_ledgerOf_11 : decode prog_2_method_2_code 11 = .ok (.aload_n 0, 1) := by decide +kernel
theorem d_Collector_ledgerOf_12 : decode prog_2_method_2_code 12 = .ok (.getfield 35, 3) := by decide +kernel
theorem d_Collector_ledgerOf_15 : decode prog_2_method_2_code 15 = .ok (.areturn, 1) := by decide +kernel
theorem q_Collector_ledgerOf : (⟨"FlowShelf$Collector", "ledgerOf", "(I)LFlowShelf$Ledger;"⟩ : MethodName).cls ≠ "java/lang/invoke/MethodHandle" ∧ (⟨"FlowShelf$Collector", "ledgerOf", "(I)LFlowShelf$Ledger;"⟩ : MethodName).cls ≠ "java/lang/invoke/VarHandle" ∧ (parseMethodDescriptor (⟨"FlowShelf$Collector", "ledgerOf", "(I)LFlowShelf$Ledger;"⟩ : MethodName).desc).map (fun d => d.parameters.length) = some 1 := by decide +kernel
set_option maxHeartbeats 4000000 in
set_option maxRecDepth 100000 in
theorem m_Collector_ledgerOf (X : fs_X) (l : Launch) (a0 : Nat) (x1 : Int32) {r : Nat} {σ σF : fs_S} (h : (f_Collector_ledgerOf a0 x1).1 σ = some (r, σF)) : fs_Met X l ⟨"FlowShelf$Collector", "ledgerOf", "(I)LFlowShelf$Ledger;"⟩ (Cond.code ⟨"FlowShelf$Collector", "ledgerOf", "(I)LFlowShelf$Ledger;"⟩ prog_2_method_2_code 2 (some (FieldType.object "FlowShelf$Ledger"))) 0 0 [.ref a0, .int x1] σ (fs_eR r) σF := by
  refine fs_ofW (by decide) ?_
  intro p e s m args below meth c s₁ B hml hT hv
  obtain ⟨rfl, hw0, hG⟩ := hv
  have hx := B.exec
  have hb := B.bytes
  have hr := B.returns
  have hk := B.notSynchronized
  have S : CallFix p m c prog_2_method_2_code 2 s _ fs_ws "FlowShelf$Collector" := ⟨B.exec, B.bytes, hml, findClass_of_methodNamed B.named, fun w hw => atoms_spec (ws := _ :: fs_ws) B.pre w (List.mem_cons_of_mem _ hw)⟩
  have hR := fs_hR (fr := 0) (lo := 0) ((f_Collector_ledgerOf a0 x1).2 _ _ _ h)
  have hl := lv_entry ([.ref a0, .int x1]) (n := 2) (Nat.le_of_ble_eq_true rfl)
  rw [lg_entry_eq]
  generalize (lg_sl ([.ref a0, .int x1]) ++ List.replicate (2 - (lg_sl ([.ref a0, .int x1])).length) Slot.unset).toArray = ls at hl ⊢
  have hl : lv_has ls 2 [(0, .ref a0), (1, .int x1)] := hl
  refine (?_ : fs_J X p l e (fs_rm 0 0 σ σF) s m _ below meth c (fs_Q X below _ s (fs_eR r) σ σF) r σ σF (f_Collector_ledgerOf a0 x1) (F0 m 0 ls [])) σ s.heap [] 0 0 h hw0 va_S.rf rfl rfl
  clear h hw0
  unfold f_Collector_ledgerOf
  refine fs_lift (fun _ _ _ _ => lv_iload_n hx hb d_Collector_ledgerOf_0 rfl (lv_at hl 1 rfl)) ?_
  refine fs_ifn (fun _ _ _ _ => lv_if_ne hx hb d_Collector_ledgerOf_1 rfl) ?_ ?_
  · refine fs_lift (fun _ _ _ _ => lv_aload_n hx hb d_Collector_ledgerOf_4 rfl (lv_at hl 0 rfl)) ?_
    refine fs_Jgr S hG fs_in5 rfl 3 (Nat.le_of_ble_eq_true rfl) tw_1_234 (fun _ h9 => h9) d_Collector_ledgerOf_5 (fun r2 => ?_)
    refine fs_lift (fun _ _ _ _ => lv_goto hx hb d_Collector_ledgerOf_8 rfl) ?_
    exact fs_Jaret S hr (Or.inl ⟨_, rfl⟩) hk rfl d_Collector_ledgerOf_15
  · refine fs_lift (fun _ _ _ _ => lv_aload_n hx hb d_Collector_ledgerOf_11 rfl (lv_at hl 0 rfl)) ?_
    refine fs_Jgr S hG fs_in5 rfl 4 (Nat.le_of_ble_eq_true rfl) tw_1_235 (fun _ h9 => h9) d_Collector_ledgerOf_12 (fun r1 => ?_)
    exact fs_Jaret S hr (Or.inl ⟨_, rfl⟩) hk rfl d_Collector_ledgerOf_15

theorem d_Collector_readOrSpoil_0 : decode prog_2_method_8_code 0 = .ok (.aload_n 0, 1) := by decide +kernel
theorem d_Collector_readOrSpoil_1 : decode prog_2_method_8_code 1 = .ok (.aload_n 1, 1) := by decide +kernel
theorem d_Collector_readOrSpoil_2 : decode prog_2_method_8_code 2 = .ok (.aload_n 2, 1) := by decide +kernel
theorem d_Collector_readOrSpoil_3 : decode prog_2_method_8_code 3 = .ok (.invokevirtual 96, 3) := by decide +kernel
theorem d_Collector_readOrSpoil_6 : decode prog_2_method_8_code 6 = .ok (.ifCond .eq 12, 3) := by decide +kernel
theorem d_Collector_readOrSpoil_9 : decode prog_2_method_8_code 9 = .ok (.aload_n 0, 1) := by decide +kernel
theorem d_Collector_readOrSpoil_10 : decode prog_2_method_8_code 10 = .ok (.aload_n 1, 1) := by decide +kernel
theorem d_Collector_readOrSpoil_11 : decode prog_2_method_8_code 11 = .ok (.aload_n 2, 1) := by decide +kernel
theorem d_Collector_readOrSpoil_12 : decode prog_2_method_8_code 12 = .ok (.invokevirtual 100, 3) := by decide +kernel
theorem d_Collector_readOrSpoil_15 : decode prog_2_method_8_code 15 = .ok (.goto 20, 3) := by decide +kernel
theorem d_Collector_readOrSpoil_18 : decode prog_2_method_8_code 18 = .ok (.aload_n 0, 1) := by decide +kernel
theorem d_Collector_readOrSpoil_19 : decode prog_2_method_8_code 19 = .ok (.aload_n 1, 1) := by decide +kernel
theorem d_Collector_readOrSpoil_20 : decode prog_2_method_8_code 20 = .ok (.invokevirtual 48, 3) := by decide +kernel
theorem d_Collector_readOrSpoil_23 : decode prog_2_method_8_code 23 = .ok (.invokevirtual 103, 3) := by decide +kernel
theorem d_Collector_readOrSpoil_26 : decode prog_2_method_8_code 26 = .ok (.dup, 1) := by decide +kernel
theorem d_Collector_readOrSpoil_27 : decode prog_2_method_8_code 27 = .ok (.getfield 107, 3) := by decide +kernel
theorem d_Collector_readOrSpoil_30 : decode prog_2_method_8_code 30 = .ok (.iconst 1, 1) := by decide +kernel
theorem d_Collector_readOrSpoil_31 : decode prog_2_method_8_code 31 = .ok (.iadd, 1) := by decide +kernel
theorem d_Collector_readOrSpoil_32 : decode prog_2_method_8_code 32 = .ok (.putfield 107, 3) := by decide +kernel
theorem d_Collector_readOrSpoil_35 : decode prog_2_method_8_code 35 = .ok (.return_, 1) := by decide +kernel
theorem q_Collector_readOrSpoil : (⟨"FlowShelf$Collector", "readOrSpoil", "(LFlowShelf$Report;LFlowShelf$Report;)V"⟩ : MethodName).cls ≠ "java/lang/invoke/MethodHandle" ∧ (⟨"FlowShelf$Collector", "readOrSpoil", "(LFlowShelf$Report;LFlowShelf$Report;)V"⟩ : MethodName).cls ≠ "java/lang/invoke/VarHandle" ∧ (parseMethodDescriptor (⟨"FlowShelf$Collector", "readOrSpoil", "(LFlowShelf$Report;LFlowShelf$Report;)V"⟩ : MethodName).desc).map (fun d => d.parameters.length) = some 2 := by decide +kernel
set_option maxHeartbeats 4000000 in
set_option maxRecDepth 100000 in
theorem m_Collector_readOrSpoil (X : fs_X) (l : Launch) (a0 : Nat) (a1 : Nat) (a2 : Nat) {r : Unit} {σ σF : fs_S} (h : (f_Collector_readOrSpoil a0 a1 a2).1 σ = some (r, σF)) : fs_Met X l ⟨"FlowShelf$Collector", "readOrSpoil", "(LFlowShelf$Report;LFlowShelf$Report;)V"⟩ (Cond.code ⟨"FlowShelf$Collector", "readOrSpoil", "(LFlowShelf$Report;LFlowShelf$Report;)V"⟩ prog_2_method_8_code 3 none) 9 238 [.ref a0, .ref a1, .ref a2] σ (fs_eV r) σF := by
  refine fs_ofW (by decide) ?_
  intro p e s m args below meth c s₁ B hml hT hv
  obtain ⟨rfl, hw0, hG⟩ := hv
  have hx := B.exec
  have hb := B.bytes
  have hr := B.returns
  have hk := B.notSynchronized
  have S : CallFix p m c prog_2_method_8_code 3 s _ fs_ws "FlowShelf$Collector" := ⟨B.exec, B.bytes, hml, findClass_of_methodNamed B.named, fun w hw => atoms_spec (ws := _ :: fs_ws) B.pre w (List.mem_cons_of_mem _ hw)⟩
  have hR := fs_hR (fr := 9) (lo := 238) ((f_Collector_readOrSpoil a0 a1 a2).2 _ _ _ h)
  have hl := lv_entry ([.ref a0, .ref a1, .ref a2]) (n := 3) (Nat.le_of_ble_eq_true rfl)
  rw [lg_entry_eq]
  generalize (lg_sl ([.ref a0, .ref a1, .ref a2]) ++ List.replicate (3 - (lg_sl ([.ref a0, .ref a1, .ref a2])).length) Slot.unset).toArray = ls at hl ⊢
  have hl : lv_has ls 3 [(0, .ref a0), (1, .ref a1), (2, .ref a2)] := hl
  refine (?_ : fs_J X p l e (fs_rm 9 238 σ σF) s m _ below meth c (fs_Q X below _ s (fs_eV r) σ σF) r σ σF (f_Collector_readOrSpoil a0 a1 a2) (F0 m 0 ls [])) σ s.heap [] 0 0 h hw0 va_S.rf rfl rfl
  clear h hw0
  unfold f_Collector_readOrSpoil
  refine fs_lift (fun _ _ _ _ => lv_aload_n hx hb d_Collector_readOrSpoil_0 rfl (lv_at hl 0 rfl)) ?_
  refine fs_lift (fun _ _ _ _ => lv_aload_n hx hb d_Collector_readOrSpoil_1 rfl (lv_at hl 1 rfl)) ?_
  refine fs_lift (fun _ _ _ _ => lv_aload_n hx hb d_Collector_readOrSpoil_2 rfl (lv_at hl 2 rfl)) ?_
  refine fs_JV S hG hR rfl [.ref a1, .ref a2] (enc := fun r => some (.int r)) (fun zr zs zt zh => m_Collector_canRead X l a0 a1 a2 zh) tw_4_218 tw_4_219 tw_4_220 tw_4_221 tw_1_8 q_Collector_canRead ⟨(Nat.le_of_ble_eq_true rfl), (Nat.le_of_ble_eq_true rfl)⟩ hl.1 rfl (Nat.le_of_ble_eq_true rfl) d_Collector_readOrSpoil_3 (fun v1 => ?_)
  refine fs_Jeq (g2 := F0 m 6 ls [.int v1]) rfl ?_
  refine fs_if (fun _ _ _ _ => lv_if_eq hx hb d_Collector_readOrSpoil_6 rfl) ?_ ?_
  · refine fs_lift (fun _ _ _ _ => lv_aload_n hx hb d_Collector_readOrSpoil_18 rfl (lv_at hl 0 rfl)) ?_
    refine fs_lift (fun _ _ _ _ => lv_aload_n hx hb d_Collector_readOrSpoil_19 rfl (lv_at hl 1 rfl)) ?_
    refine fs_JV S hG hR rfl [] (enc := fun r => some (.int r)) (fun zr zs zt zh => m_Report_exporter X l a1 zh) tw_5_19 tw_4_99 tw_4_100 tw_4_101 tw_1_25 q_Report_exporter ⟨(Nat.le_of_ble_eq_true rfl), (Nat.le_of_ble_eq_true rfl)⟩ hl.1 rfl (Nat.le_of_ble_eq_true rfl) d_Collector_readOrSpoil_20 (fun v2 => ?_)
    refine fs_Jeq (g2 := F0 m 23 ls [.int v2, .ref a0]) rfl ?_
    refine fs_JV S hG hR rfl [.int v2] (enc := fun r => some (.ref r)) (fun zr zs zt zh => m_Collector_ledgerOf X l a0 v2 zh) tw_5_48 tw_5_49 tw_5_50 tw_5_51 tw_1_8 q_Collector_ledgerOf ⟨(Nat.le_of_ble_eq_true rfl), (Nat.le_of_ble_eq_true rfl)⟩ hl.1 rfl (Nat.le_of_ble_eq_true rfl) d_Collector_readOrSpoil_23 (fun r3 => ?_)
    refine fs_Jeq (g2 := F0 m 26 ls [.ref r3]) rfl ?_
    refine fs_lift (fun _ _ _ _ => lv_dup hx hb d_Collector_readOrSpoil_26 rfl) ?_
    refine fs_Jgi S hG fs_in7 rfl 2 (Nat.le_of_ble_eq_true rfl) tw_1_210 (fun _ h9 => h9) d_Collector_readOrSpoil_27 (fun v4 => ?_)
    refine fs_lift (fun _ _ _ _ => lv_iconst (v := 1) hx hb d_Collector_readOrSpoil_30 (by decide)) ?_
    refine fs_lift (fun _ _ _ _ => lv_iadd hx hb d_Collector_readOrSpoil_31) ?_
    refine fs_Jput S hG fs_in7 rfl 2 (Nat.le_of_ble_eq_true rfl) tw_1_210 (fun _ h9 => h9) fs_Y7 fs_ty7 fs_nm7 (Or.inl rfl) rfl rfl d_Collector_readOrSpoil_32 ?_
    exact fs_Jvret S hr hk rfl d_Collector_readOrSpoil_35
  · refine fs_lift (fun _ _ _ _ => lv_aload_n hx hb d_Collector_readOrSpoil_9 rfl (lv_at hl 0 rfl)) ?_
    refine fs_lift (fun _ _ _ _ => lv_aload_n hx hb d_Collector_readOrSpoil_10 rfl (lv_at hl 1 rfl)) ?_
    refine fs_lift (fun _ _ _ _ => lv_aload_n hx hb d_Collector_readOrSpoil_11 rfl (lv_at hl 2 rfl)) ?_
    refine fs_JV S hG hR rfl [.ref a1, .ref a2] (enc := fun _ => none) (fun zr zs zt zh => m_Collector_makeRows X l a0 a1 a2 zh) tw_5_13 tw_5_14 tw_5_15 tw_5_16 tw_1_8 q_Collector_makeRows ⟨(Nat.le_of_ble_eq_true rfl), (Nat.le_of_ble_eq_true rfl)⟩ hl.1 rfl (Nat.le_of_ble_eq_true rfl) d_Collector_readOrSpoil_12 (fun _ => ?_)
    refine fs_Jeq (g2 := F0 m 15 ls []) rfl ?_
    refine fs_lift (fun _ _ _ _ => lv_goto hx hb d_Collector_readOrSpoil_15 rfl) ?_
    exact fs_Jvret S hr hk rfl d_Collector_readOrSpoil_35

theorem d_Collector_readShelf_0 : decode prog_2_method_7_code 0 = .ok (.aload_n 0, 1) := by decide +kernel
theorem d_Collector_readShelf_1 : decode prog_2_method_7_code 1 = .ok (.getfield 24, 3) := by decide +kernel
theorem d_Collector_readShelf_4 : decode prog_2_method_7_code 4 = .ok (.getfield 86, 3) := by decide +kernel
theorem d_Collector_readShelf_7 : decode prog_2_method_7_code 7 = .ok (.invokevirtual 38, 3) := by decide +kernel
theorem d_Collector_readShelf_10 : decode prog_2_method_7_code 10 = .ok (.istore_n 2, 1) := by decide +kernel
theorem d_Collector_readShelf_11 : decode prog_2_method_7_code 11 = .ok (.aload_n 0, 1) := by decide +kernel
theorem d_Collector_readShelf_12 : decode prog_2_method_7_code 12 = .ok (.getfield 18, 3) := by decide +kernel
theorem d_Collector_readShelf_15 : decode prog_2_method_7_code 15 = .ok (.invokevirtual 38, 3) := by decide +kernel
theorem d_Collector_readShelf_18 : decode prog_2_method_7_code 18 = .ok (.istore_n 3, 1) := by decide +kernel
theorem d_Collector_readShelf_19 : decode prog_2_method_7_code 19 = .ok (.iconst 0, 1) := by decide +kernel
theorem d_Collector_readShelf_20 : decode prog_2_method_7_code 20 = .ok (.istore 4, 2) := by decide +kernel
theorem d_Collector_readShelf_22 : decode prog_2_method_7_code 22 = .ok (.iconst 0, 1) := by decide +kernel
theorem d_Collector_readShelf_23 : decode prog_2_method_7_code 23 = .ok (.istore 5, 2) := by decide +kernel
theorem d_Collector_readShelf_25 : decode prog_2_method_7_code 25 = .ok (.iload 5, 2) := by decide +kernel
theorem d_Collector_readShelf_27 : decode prog_2_method_7_code 27 = .ok (.iload_n 3, 1) := by decide +kernel
theorem d_Collector_readShelf_28 : decode prog_2_method_7_code 28 = .ok (.if_icmp .ge 51, 3) := by decide +kernel
theorem d_Collector_readShelf_31 : decode prog_2_method_7_code 31 = .ok (.aload_n 0, 1) := by decide +kernel
theorem d_Collector_readShelf_32 : decode prog_2_method_7_code 32 = .ok (.getfield 18, 3) := by decide +kernel
theorem d_Collector_readShelf_35 : decode prog_2_method_7_code 35 = .ok (.iload 4, 2) := by decide +kernel
theorem d_Collector_readShelf_37 : decode prog_2_method_7_code 37 = .ok (.invokevirtual 42, 3) := by decide +kernel
theorem d_Collector_readShelf_40 : decode prog_2_method_7_code 40 = .ok (.checkcast 46, 3) := by decide +kernel
theorem d_Collector_readShelf_43 : decode prog_2_method_7_code 43 = .ok (.aload_n 1, 1) := by decide +kernel
theorem d_Collector_readShelf_44 : decode prog_2_method_7_code 44 = .ok (.invokevirtual 51, 3) := by decide +kernel
theorem d_Collector_readShelf_47 : decode prog_2_method_7_code 47 = .ok (.ifCond .eq 23, 3) := by decide +kernel
theorem d_Collector_readShelf_50 : decode prog_2_method_7_code 50 = .ok (.aload_n 0, 1) := by decide +kernel
theorem d_Collector_readShelf_51 : decode prog_2_method_7_code 51 = .ok (.aload_n 0, 1) := by decide +kernel
theorem d_Collector_readShelf_52 : decode prog_2_method_7_code 52 = .ok (.getfield 18, 3) := by decide +kernel
theorem d_Collector_readShelf_55 : decode prog_2_method_7_code 55 = .ok (.iload 4, 2) := by decide +kernel
theorem d_Collector_readShelf_57 : decode prog_2_method_7_code 57 = .ok (.invokevirtual 89, 3) := by decide +kernel
theorem d_Collector_readShelf_60 : decode prog_2_method_7_code 60 = .ok (.checkcast 46, 3) := by decide +kernel
theorem d_Collector_readShelf_63 : decode prog_2_method_7_code 63 = .ok (.aload_n 1, 1) := by decide +kernel
theorem d_Collector_readShelf_64 : decode prog_2_method_7_code 64 = .ok (.invokevirtual 92, 3) := by decide +kernel
theorem d_Collector_readShelf_67 : decode prog_2_method_7_code 67 = .ok (.goto 6, 3) := by decide +kernel
theorem d_Collector_readShelf_70 : decode prog_2_method_7_code 70 = .ok (.iinc 4 1, 3) := by decide +kernel
theorem d_Collector_readShelf_73 : decode prog_2_method_7_code 73 = .ok (.iinc 5 1, 3) := by decide +kernel
theorem d_Collector_readShelf_76 : decode prog_2_method_7_code 76 = .ok (.goto (-51), 3) := by decide +kernel
theorem d_Collector_readShelf_79 : decode prog_2_method_7_code 79 = .ok (.aload_n 0, 1) := by decide +kernel
theorem d_Collector_readShelf_80 : decode prog_2_method_7_code 80 = .ok (.getfield 24, 3) := by decide +kernel
theorem d_Collector_readShelf_83 : decode prog_2_method_7_code 83 = .ok (.getfield 86, 3) := by decide +kernel
theorem d_Collector_readShelf_86 : decode prog_2_method_7_code 86 = .ok (.invokevirtual 38, 3) := by decide +kernel
theorem d_Collector_readShelf_89 : decode prog_2_method_7_code 89 = .ok (.iload_n 2, 1) := by decide +kernel
theorem d_Collector_readShelf_90 : decode prog_2_method_7_code 90 = .ok (.isub, 1) := by decide +kernel
theorem d_Collector_readShelf_91 : decode prog_2_method_7_code 91 = .ok (.ireturn, 1) := by decide +kernel
theorem q_Collector_readShelf : (⟨"FlowShelf$Collector", "readShelf", "(LFlowShelf$Report;)I"⟩ : MethodName).cls ≠ "java/lang/invoke/MethodHandle" ∧ (⟨"FlowShelf$Collector", "readShelf", "(LFlowShelf$Report;)I"⟩ : MethodName).cls ≠ "java/lang/invoke/VarHandle" ∧ (parseMethodDescriptor (⟨"FlowShelf$Collector", "readShelf", "(LFlowShelf$Report;)I"⟩ : MethodName).desc).map (fun d => d.parameters.length) = some 1 := by decide +kernel
set_option maxHeartbeats 4000000 in
set_option maxRecDepth 100000 in
theorem m_Collector_readShelf (X : fs_X) (l : Launch) (a0 : Nat) (a1 : Nat) {r : Int32} {σ σF : fs_S} (h : (f_Collector_readShelf a0 a1).1 σ = some (r, σF)) : fs_Met X l ⟨"FlowShelf$Collector", "readShelf", "(LFlowShelf$Report;)I"⟩ (Cond.code ⟨"FlowShelf$Collector", "readShelf", "(LFlowShelf$Report;)I"⟩ prog_2_method_7_code 6 (some FieldType.int)) 10 260 [.ref a0, .ref a1] σ (fs_eI r) σF := by
  refine fs_ofW (by decide) ?_
  intro p e s m args below meth c s₁ B hml hT hv
  obtain ⟨rfl, hw0, hG⟩ := hv
  have hx := B.exec
  have hb := B.bytes
  have hr := B.returns
  have hk := B.notSynchronized
  have S : CallFix p m c prog_2_method_7_code 6 s _ fs_ws "FlowShelf$Collector" := ⟨B.exec, B.bytes, hml, findClass_of_methodNamed B.named, fun w hw => atoms_spec (ws := _ :: fs_ws) B.pre w (List.mem_cons_of_mem _ hw)⟩
  have hR := fs_hR (fr := 10) (lo := 260) ((f_Collector_readShelf a0 a1).2 _ _ _ h)
  have hl := lv_entry ([.ref a0, .ref a1]) (n := 6) (Nat.le_of_ble_eq_true rfl)
  rw [lg_entry_eq]
  generalize (lg_sl ([.ref a0, .ref a1]) ++ List.replicate (6 - (lg_sl ([.ref a0, .ref a1])).length) Slot.unset).toArray = ls at hl ⊢
  have hl : lv_has ls 6 [(0, .ref a0), (1, .ref a1)] := hl
  refine (?_ : fs_J X p l e (fs_rm 10 260 σ σF) s m _ below meth c (fs_Q X below _ s (fs_eI r) σ σF) r σ σF (f_Collector_readShelf a0 a1) (F0 m 0 ls [])) σ s.heap [] 0 0 h hw0 va_S.rf rfl rfl
  clear h hw0
  unfold f_Collector_readShelf
  refine fs_lift (fun _ _ _ _ => lv_aload_n hx hb d_Collector_readShelf_0 rfl (lv_at hl 0 rfl)) ?_
  refine fs_Jgr S hG fs_in5 rfl 2 (Nat.le_of_ble_eq_true rfl) tw_1_232 (fun _ h9 => h9) d_Collector_readShelf_1 (fun r1 => ?_)
  refine fs_Jgr S hG fs_in6 rfl 0 (Nat.le_of_ble_eq_true rfl) tw_1_184 (fun _ h9 => h9) d_Collector_readShelf_4 (fun r2 => ?_)
  refine fs_JV S hG hR rfl [] (enc := fun r => some (.int r)) (fun zr zs zt zh => m_ArrayList_size X l r2 zh) tw_4_157 tw_2_29 tw_2_30 tw_2_31 tw_1_5 q_ArrayList_size ⟨(Nat.le_of_ble_eq_true rfl), (Nat.le_of_ble_eq_true rfl)⟩ hl.1 rfl (Nat.le_of_ble_eq_true rfl) d_Collector_readShelf_7 (fun v3 => ?_)
  refine fs_Jeq (g2 := F0 m 10 ls [.int v3]) rfl ?_
  refine fs_liftL (fun _ _ _ _ => lv_istore_n (lv' := [(2, .int v3), (0, .ref a0), (1, .ref a1)]) hx hb d_Collector_readShelf_10 rfl hl (Nat.le_of_ble_eq_true rfl) rfl) (fun ls hl => ?_)
  refine fs_lift (fun _ _ _ _ => lv_aload_n hx hb d_Collector_readShelf_11 rfl (lv_at hl 1 rfl)) ?_
  refine fs_Jgr S hG fs_in5 rfl 1 (Nat.le_of_ble_eq_true rfl) tw_1_231 (fun _ h9 => h9) d_Collector_readShelf_12 (fun r4 => ?_)
  refine fs_JV S hG hR rfl [] (enc := fun r => some (.int r)) (fun zr zs zt zh => m_ArrayList_size X l r4 zh) tw_4_157 tw_2_29 tw_2_30 tw_2_31 tw_1_5 q_ArrayList_size ⟨(Nat.le_of_ble_eq_true rfl), (Nat.le_of_ble_eq_true rfl)⟩ hl.1 rfl (Nat.le_of_ble_eq_true rfl) d_Collector_readShelf_15 (fun v5 => ?_)
  refine fs_Jeq (g2 := F0 m 18 ls [.int v5]) rfl ?_
  refine fs_liftL (fun _ _ _ _ => lv_istore_n (lv' := [(3, .int v5), (2, .int v3), (0, .ref a0), (1, .ref a1)]) hx hb d_Collector_readShelf_18 rfl hl (Nat.le_of_ble_eq_true rfl) rfl) (fun ls hl => ?_)
  refine fs_lift (fun _ _ _ _ => lv_iconst (v := 0) hx hb d_Collector_readShelf_19 (by decide)) ?_
  refine fs_liftL (fun _ _ _ _ => lv_istore (lv' := [(4, .int 0), (3, .int v5), (2, .int v3), (0, .ref a0), (1, .ref a1)]) hx hb d_Collector_readShelf_20 hl (Nat.le_of_ble_eq_true rfl) rfl) (fun ls hl => ?_)
  refine fs_lift (fun _ _ _ _ => lv_iconst (v := 0) hx hb d_Collector_readShelf_22 (by decide)) ?_
  refine fs_liftL (fun _ _ _ _ => lv_istore (lv' := [(5, .int 0), (4, .int 0), (3, .int v5), (2, .int v3), (0, .ref a0), (1, .ref a1)]) hx hb d_Collector_readShelf_23 hl (Nat.le_of_ble_eq_true rfl) rfl) (fun ls hl => ?_)
  refine fs_Jlp2 (nL := 6) (pc := 25) (rest := []) (I := fun (v6 : Int32) (v7 : Int32) => [(0, .ref a0), (1, .ref a1), (2, .int v3), (3, .int v5), (4, .int v6), (5, .int v7)]) (fun k25 hk25 v6 v7 ls hl => ?_) _ _ _ _ (lv_sub hl [4, 5, 3, 2, 1, 0] rfl)
  refine fs_lift (fun _ _ _ _ => lv_iload hx hb d_Collector_readShelf_25 (lv_at hl 5 rfl)) ?_
  refine fs_lift (fun _ _ _ _ => lv_iload_n hx hb d_Collector_readShelf_27 rfl (lv_at hl 3 rfl)) ?_
  refine fs_if (fun _ _ _ _ => lv_icmp_ge hx hb d_Collector_readShelf_28 rfl) ?_ ?_
  · refine fs_lift (fun _ _ _ _ => lv_aload_n hx hb d_Collector_readShelf_79 rfl (lv_at hl 0 rfl)) ?_
    refine fs_Jgr S hG fs_in5 rfl 2 (Nat.le_of_ble_eq_true rfl) tw_1_232 (fun _ h9 => h9) d_Collector_readShelf_80 (fun r8 => ?_)
    refine fs_Jgr S hG fs_in6 rfl 0 (Nat.le_of_ble_eq_true rfl) tw_1_184 (fun _ h9 => h9) d_Collector_readShelf_83 (fun r9 => ?_)
    refine fs_JV S hG hR rfl [] (enc := fun r => some (.int r)) (fun zr zs zt zh => m_ArrayList_size X l r9 zh) tw_4_157 tw_2_29 tw_2_30 tw_2_31 tw_1_5 q_ArrayList_size ⟨(Nat.le_of_ble_eq_true rfl), (Nat.le_of_ble_eq_true rfl)⟩ hl.1 rfl (Nat.le_of_ble_eq_true rfl) d_Collector_readShelf_86 (fun v10 => ?_)
    refine fs_Jeq (g2 := F0 m 89 ls [.int v10]) rfl ?_
    refine fs_lift (fun _ _ _ _ => lv_iload_n hx hb d_Collector_readShelf_89 rfl (lv_at hl 2 rfl)) ?_
    refine fs_lift (fun _ _ _ _ => lv_isub hx hb d_Collector_readShelf_90) ?_
    exact fs_Jiret S hr hk rfl d_Collector_readShelf_91
  · refine fs_lift (fun _ _ _ _ => lv_aload_n hx hb d_Collector_readShelf_31 rfl (lv_at hl 0 rfl)) ?_
    refine fs_Jgr S hG fs_in5 rfl 1 (Nat.le_of_ble_eq_true rfl) tw_1_231 (fun _ h9 => h9) d_Collector_readShelf_32 (fun r11 => ?_)
    refine fs_lift (fun _ _ _ _ => lv_iload hx hb d_Collector_readShelf_35 (lv_at hl 4 rfl)) ?_
    refine fs_JV S hG hR rfl [.int v6] (enc := fun r => some (.ref r)) (fun zr zs zt zh => m_ArrayList_get X l r11 v6 zh) tw_4_158 tw_2_33 tw_2_34 tw_2_35 tw_1_5 q_ArrayList_get ⟨(Nat.le_of_ble_eq_true rfl), (Nat.le_of_ble_eq_true rfl)⟩ hl.1 rfl (Nat.le_of_ble_eq_true rfl) d_Collector_readShelf_37 (fun r12 => ?_)
    refine fs_Jeq (g2 := F0 m 40 ls [.ref r12]) rfl ?_
    refine fs_Jck S hG rfl tw_4_159 tb_7_81 d_Collector_readShelf_40 ?_
    refine fs_lift (fun _ _ _ _ => lv_aload_n hx hb d_Collector_readShelf_43 rfl (lv_at hl 1 rfl)) ?_
    refine fs_JV S hG hR rfl [.ref a1] (enc := fun r => some (.int r)) (fun zr zs zt zh => m_Report_namesSameTemplate X l r12 a1 zh) tw_4_160 tw_4_161 tw_4_162 tw_4_163 tw_1_25 q_Report_namesSameTemplate ⟨(Nat.le_of_ble_eq_true rfl), (Nat.le_of_ble_eq_true rfl)⟩ hl.1 rfl (Nat.le_of_ble_eq_true rfl) d_Collector_readShelf_44 (fun v13 => ?_)
    refine fs_Jeq (g2 := F0 m 47 ls [.int v13]) rfl ?_
    refine fs_Jlet1 (nL := 6) (pj := 73) (I := fun (v17 : Int32) => [(0, .ref a0), (1, .ref a1), (2, .int v3), (3, .int v5), (4, .int v17), (5, .int v7)]) (st := fun (v17 : Int32) => []) (fun v17 ls hl => ?_) (fun j73 hj73 => ?_)
    · refine fs_Jnm (fun v18 hv9 => ?_)
      refine fs_liftL (fun _ _ _ _ => lv_iinc (k := 5) (v := v18) (lv' := [(5, .int v18), (0, .ref a0), (1, .ref a1), (2, .int v3), (3, .int v5), (4, .int v17)]) hx hb d_Collector_readShelf_73 hl rfl (by rw [hv9]; rfl) (Nat.le_of_ble_eq_true rfl) rfl) (fun ls hl => ?_)
      refine fs_lift (fun _ _ _ _ => lv_goto hx hb d_Collector_readShelf_76 rfl) ?_
      exact hk25 v17 v18 ls (lv_sub hl [1, 2, 3, 4, 5, 0] rfl)
    · refine fs_if (fun _ _ _ _ => lv_if_eq hx hb d_Collector_readShelf_47 rfl) ?_ ?_
      · refine fs_Jnm (fun v14 hv9 => ?_)
        refine fs_liftL (fun _ _ _ _ => lv_iinc (k := 4) (v := v14) (lv' := [(4, .int v14), (0, .ref a0), (1, .ref a1), (2, .int v3), (3, .int v5), (5, .int v7)]) hx hb d_Collector_readShelf_70 hl rfl (by rw [hv9]; rfl) (Nat.le_of_ble_eq_true rfl) rfl) (fun ls hl => ?_)
        exact hj73 v14 ls (lv_sub hl [1, 2, 3, 4, 0, 5] rfl)
      · refine fs_lift (fun _ _ _ _ => lv_aload_n hx hb d_Collector_readShelf_50 rfl (lv_at hl 0 rfl)) ?_
        refine fs_lift (fun _ _ _ _ => lv_aload_n hx hb d_Collector_readShelf_51 rfl (lv_at hl 0 rfl)) ?_
        refine fs_Jgr S hG fs_in5 rfl 1 (Nat.le_of_ble_eq_true rfl) tw_1_231 (fun _ h9 => h9) d_Collector_readShelf_52 (fun r15 => ?_)
        refine fs_lift (fun _ _ _ _ => lv_iload hx hb d_Collector_readShelf_55 (lv_at hl 4 rfl)) ?_
        refine fs_JV S hG hR rfl [.int v6] (enc := fun r => some (.ref r)) (fun zr zs zt zh => m_ArrayList_remove X l r15 v6 zh) tw_4_213 tw_2_189 tw_2_190 tw_2_191 tw_1_5 q_ArrayList_remove ⟨(Nat.le_of_ble_eq_true rfl), (Nat.le_of_ble_eq_true rfl)⟩ hl.1 rfl (Nat.le_of_ble_eq_true rfl) d_Collector_readShelf_57 (fun r16 => ?_)
        refine fs_Jeq (g2 := F0 m 60 ls [.ref r16, .ref a0]) rfl ?_
        refine fs_Jck S hG rfl tw_4_159 tb_7_81 d_Collector_readShelf_60 ?_
        refine fs_lift (fun _ _ _ _ => lv_aload_n hx hb d_Collector_readShelf_63 rfl (lv_at hl 1 rfl)) ?_
        refine fs_JV S hG hR rfl [.ref r16, .ref a1] (enc := fun _ => none) (fun zr zs zt zh => m_Collector_readOrSpoil X l a0 r16 a1 zh) tw_4_214 tw_4_215 tw_4_216 tw_4_217 tw_1_8 q_Collector_readOrSpoil ⟨(Nat.le_of_ble_eq_true rfl), (Nat.le_of_ble_eq_true rfl)⟩ hl.1 rfl (Nat.le_of_ble_eq_true rfl) d_Collector_readShelf_64 (fun _ => ?_)
        refine fs_Jeq (g2 := F0 m 67 ls []) rfl ?_
        refine fs_lift (fun _ _ _ _ => lv_goto hx hb d_Collector_readShelf_67 rfl) ?_
        exact hj73 v6 ls (lv_sub hl [0, 1, 2, 3, 4, 5] rfl)

theorem d_Collector_hearTemplate_0 : decode prog_2_method_5_code 0 = .ok (.aload_n 0, 1) := by decide +kernel
theorem d_Collector_hearTemplate_1 : decode prog_2_method_5_code 1 = .ok (.aload_n 1, 1) := by decide +kernel
theorem d_Collector_hearTemplate_2 : decode prog_2_method_5_code 2 = .ok (.invokevirtual 55, 3) := by decide +kernel
theorem d_Collector_hearTemplate_5 : decode prog_2_method_5_code 5 = .ok (.iconst (-1), 1) := by decide +kernel
theorem d_Collector_hearTemplate_6 : decode prog_2_method_5_code 6 = .ok (.if_icmp .eq 5, 3) := by decide +kernel
theorem d_Collector_hearTemplate_9 : decode prog_2_method_5_code 9 = .ok (.iconst 0, 1) := by decide +kernel
theorem d_Collector_hearTemplate_10 : decode prog_2_method_5_code 10 = .ok (.ireturn, 1) := by decide +kernel
theorem d_Collector_hearTemplate_11 : decode prog_2_method_5_code 11 = .ok (.aload_n 0, 1) := by decide +kernel
theorem d_Collector_hearTemplate_12 : decode prog_2_method_5_code 12 = .ok (.getfield 12, 3) := by decide +kernel
theorem d_Collector_hearTemplate_15 : decode prog_2_method_5_code 15 = .ok (.invokevirtual 38, 3) := by decide +kernel
theorem d_Collector_hearTemplate_18 : decode prog_2_method_5_code 18 = .ok (.bipush 20, 2) := by decide +kernel
theorem d_Collector_hearTemplate_20 : decode prog_2_method_5_code 20 = .ok (.if_icmp .lt 13, 3) := by decide +kernel
theorem d_Collector_hearTemplate_23 : decode prog_2_method_5_code 23 = .ok (.new 59, 3) := by decide +kernel
theorem d_Collector_hearTemplate_26 : decode prog_2_method_5_code 26 = .ok (.dup, 1) := by decide +kernel
theorem d_Collector_hearTemplate_27 : decode prog_2_method_5_code 27 = .ok (.ldc 61, 2) := by decide +kernel
theorem d_Collector_hearTemplate_29 : decode prog_2_method_5_code 29 = .ok (.invokespecial 63, 3) := by decide +kernel
theorem d_Collector_hearTemplate_32 : decode prog_2_method_5_code 32 = .ok (.athrow, 1) := by decide +kernel
theorem d_Collector_hearTemplate_33 : decode prog_2_method_5_code 33 = .ok (.aload_n 0, 1) := by decide +kernel
theorem d_Collector_hearTemplate_34 : decode prog_2_method_5_code 34 = .ok (.aload_n 0, 1) := by decide +kernel
theorem d_Collector_hearTemplate_35 : decode prog_2_method_5_code 35 = .ok (.aload_n 1, 1) := by decide +kernel
theorem d_Collector_hearTemplate_36 : decode prog_2_method_5_code 36 = .ok (.invokevirtual 66, 3) := by decide +kernel
theorem d_Collector_hearTemplate_39 : decode prog_2_method_5_code 39 = .ok (.invokevirtual 69, 3) := by decide +kernel
theorem d_Collector_hearTemplate_42 : decode prog_2_method_5_code 42 = .ok (.aload_n 0, 1) := by decide +kernel
theorem d_Collector_hearTemplate_43 : decode prog_2_method_5_code 43 = .ok (.getfield 12, 3) := by decide +kernel
theorem d_Collector_hearTemplate_46 : decode prog_2_method_5_code 46 = .ok (.new 46, 3) := by decide +kernel
theorem d_Collector_hearTemplate_49 : decode prog_2_method_5_code 49 = .ok (.dup, 1) := by decide +kernel
theorem d_Collector_hearTemplate_50 : decode prog_2_method_5_code 50 = .ok (.aload_n 1, 1) := by decide +kernel
theorem d_Collector_hearTemplate_51 : decode prog_2_method_5_code 51 = .ok (.invokespecial 73, 3) := by decide +kernel
theorem d_Collector_hearTemplate_54 : decode prog_2_method_5_code 54 = .ok (.invokevirtual 76, 3) := by decide +kernel
theorem d_Collector_hearTemplate_57 : decode prog_2_method_5_code 57 = .ok (.pop, 1) := by decide +kernel
theorem d_Collector_hearTemplate_58 : decode prog_2_method_5_code 58 = .ok (.aload_n 0, 1) := by decide +kernel
theorem d_Collector_hearTemplate_59 : decode prog_2_method_5_code 59 = .ok (.aload_n 1, 1) := by decide +kernel
theorem d_Collector_hearTemplate_60 : decode prog_2_method_5_code 60 = .ok (.invokevirtual 80, 3) := by decide +kernel
theorem d_Collector_hearTemplate_63 : decode prog_2_method_5_code 63 = .ok (.ireturn, 1) := by decide +kernel
theorem q_Collector_hearTemplate : (⟨"FlowShelf$Collector", "hearTemplate", "(LFlowShelf$Report;)I"⟩ : MethodName).cls ≠ "java/lang/invoke/MethodHandle" ∧ (⟨"FlowShelf$Collector", "hearTemplate", "(LFlowShelf$Report;)I"⟩ : MethodName).cls ≠ "java/lang/invoke/VarHandle" ∧ (parseMethodDescriptor (⟨"FlowShelf$Collector", "hearTemplate", "(LFlowShelf$Report;)I"⟩ : MethodName).desc).map (fun d => d.parameters.length) = some 1 := by decide +kernel
set_option maxHeartbeats 4000000 in
set_option maxRecDepth 100000 in
theorem m_Collector_hearTemplate (X : fs_X) (l : Launch) (hl0 : l.stackTraces = false) (a0 : Nat) (a1 : Nat) {r : (Int32 ⊕ String)} {σ σF : fs_S} (h : (f_Collector_hearTemplate a0 a1).1 σ = some (r, σF)) : fs_Met X l ⟨"FlowShelf$Collector", "hearTemplate", "(LFlowShelf$Report;)I"⟩ (Cond.code ⟨"FlowShelf$Collector", "hearTemplate", "(LFlowShelf$Report;)I"⟩ prog_2_method_5_code 2 (some FieldType.int)) 11 285 [.ref a0, .ref a1] σ (fs_qI r) σF := by
  refine fs_ofW (by decide) ?_
  intro p e s m args below meth c s₁ B hml hT hv
  obtain ⟨rfl, hw0, hG⟩ := hv
  have hx := B.exec
  have hb := B.bytes
  have hr := B.returns
  have hk := B.notSynchronized
  have S : CallFix p m c prog_2_method_5_code 2 s _ fs_ws "FlowShelf$Collector" := ⟨B.exec, B.bytes, hml, findClass_of_methodNamed B.named, fun w hw => atoms_spec (ws := _ :: fs_ws) B.pre w (List.mem_cons_of_mem _ hw)⟩
  have hR := fs_hR (fr := 11) (lo := 285) ((f_Collector_hearTemplate a0 a1).2 _ _ _ h)
  have hl := lv_entry ([.ref a0, .ref a1]) (n := 2) (Nat.le_of_ble_eq_true rfl)
  rw [lg_entry_eq]
  generalize (lg_sl ([.ref a0, .ref a1]) ++ List.replicate (2 - (lg_sl ([.ref a0, .ref a1])).length) Slot.unset).toArray = ls at hl ⊢
  have hl : lv_has ls 2 [(0, .ref a0), (1, .ref a1)] := hl
  refine (?_ : fs_J X p l e (fs_rm 11 285 σ σF) s m _ below meth c (fs_Q X below _ s (fs_qI r) σ σF) r σ σF (f_Collector_hearTemplate a0 a1) (F0 m 0 ls [])) σ s.heap [] 0 0 h hw0 va_S.rf rfl rfl
  clear h hw0
  unfold f_Collector_hearTemplate
  refine fs_lift (fun _ _ _ _ => lv_aload_n hx hb d_Collector_hearTemplate_0 rfl (lv_at hl 0 rfl)) ?_
  refine fs_lift (fun _ _ _ _ => lv_aload_n hx hb d_Collector_hearTemplate_1 rfl (lv_at hl 1 rfl)) ?_
  refine fs_JV S hG hR rfl [.ref a1] (enc := fun r => some (.int r)) (fun zr zs zt zh => m_Collector_knownTemplate X l a0 a1 zh) tw_4_153 tw_4_154 tw_4_155 tw_4_156 tw_1_8 q_Collector_knownTemplate ⟨(Nat.le_of_ble_eq_true rfl), (Nat.le_of_ble_eq_true rfl)⟩ hl.1 rfl (Nat.le_of_ble_eq_true rfl) d_Collector_hearTemplate_2 (fun v1 => ?_)
  refine fs_Jeq (g2 := F0 m 5 ls [.int v1]) rfl ?_
  refine fs_lift (fun _ _ _ _ => lv_iconst (v := (-1)) hx hb d_Collector_hearTemplate_5 (by decide)) ?_
  refine fs_if (fun _ _ _ _ => lv_icmp_eq hx hb d_Collector_hearTemplate_6 rfl) ?_ ?_
  · refine fs_lift (fun _ _ _ _ => lv_aload_n hx hb d_Collector_hearTemplate_11 rfl (lv_at hl 0 rfl)) ?_
    refine fs_Jgr S hG fs_in5 rfl 0 (Nat.le_of_ble_eq_true rfl) tw_1_230 (fun _ h9 => h9) d_Collector_hearTemplate_12 (fun r2 => ?_)
    refine fs_JV S hG hR rfl [] (enc := fun r => some (.int r)) (fun zr zs zt zh => m_ArrayList_size X l r2 zh) tw_4_157 tw_2_29 tw_2_30 tw_2_31 tw_1_5 q_ArrayList_size ⟨(Nat.le_of_ble_eq_true rfl), (Nat.le_of_ble_eq_true rfl)⟩ hl.1 rfl (Nat.le_of_ble_eq_true rfl) d_Collector_hearTemplate_15 (fun v3 => ?_)
    refine fs_Jeq (g2 := F0 m 18 ls [.int v3]) rfl ?_
    refine fs_lift (fun _ _ _ _ => lv_bipush (v := 20) hx hb d_Collector_hearTemplate_18 (by decide)) ?_
    refine fs_if (fun _ _ _ _ => lv_icmp_lt hx hb d_Collector_hearTemplate_20 rfl) ?_ ?_
    · refine fs_lift (fun _ _ _ _ => lv_aload_n hx hb d_Collector_hearTemplate_33 rfl (lv_at hl 0 rfl)) ?_
      refine fs_lift (fun _ _ _ _ => lv_aload_n hx hb d_Collector_hearTemplate_34 rfl (lv_at hl 0 rfl)) ?_
      refine fs_lift (fun _ _ _ _ => lv_aload_n hx hb d_Collector_hearTemplate_35 rfl (lv_at hl 1 rfl)) ?_
      refine fs_JV S hG hR rfl [.ref a1] (enc := fun r => some (.int r)) (fun zr zs zt zh => m_Collector_recordsWaitingFor X l a0 a1 zh) tw_4_180 tw_4_181 tw_4_182 tw_4_183 tw_1_8 q_Collector_recordsWaitingFor ⟨(Nat.le_of_ble_eq_true rfl), (Nat.le_of_ble_eq_true rfl)⟩ hl.1 rfl (Nat.le_of_ble_eq_true rfl) d_Collector_hearTemplate_36 (fun v4 => ?_)
      refine fs_Jeq (g2 := F0 m 39 ls [.int v4, .ref a0]) rfl ?_
      refine fs_JVx S hG hR hT hk rfl [.int v4] (fun _ => none) (encx := fs_qV) (fun _ => rfl) (fun _ => rfl) (fun zr zs zt zh => m_Collector_requireRoomFor X l hl0 a0 v4 zh) tw_4_185 tw_4_186 tw_4_187 tw_4_188 tw_1_8 q_Collector_requireRoomFor ⟨(Nat.le_of_ble_eq_true rfl), (Nat.le_of_ble_eq_true rfl)⟩ hl.1 rfl (Nat.le_of_ble_eq_true rfl) d_Collector_hearTemplate_39 (enc := fs_qI) (fun _ => rfl) (fun _ => ?_)
      refine fs_Jeq (g2 := F0 m 42 ls []) rfl ?_
      refine fs_lift (fun _ _ _ _ => lv_aload_n hx hb d_Collector_hearTemplate_42 rfl (lv_at hl 0 rfl)) ?_
      refine fs_Jgr S hG fs_in5 rfl 0 (Nat.le_of_ble_eq_true rfl) tw_1_230 (fun _ h9 => h9) d_Collector_hearTemplate_43 (fun r5 => ?_)
      refine fs_Jnw S hG hR fs_in9 rfl fs_Y9 fs_ty9 fs_dv9 rfl tw_4_159 tw_3_220 tw_1_25 d_Collector_hearTemplate_46 (fun r6 => ?_)
      refine fs_lift (fun _ _ _ _ => lv_dup hx hb d_Collector_hearTemplate_49 rfl) ?_
      refine fs_lift (fun _ _ _ _ => lv_aload_n hx hb d_Collector_hearTemplate_50 rfl (lv_at hl 1 rfl)) ?_
      refine fs_JI S hG hR [.ref a1] (fun zr zs zt zh => m_Report_init_1 X l r6 a1 zh) tw_4_195 tw_4_196 tw_4_197 tw_1_25 rfl q_Report_init_1 ⟨(Nat.le_of_ble_eq_true rfl), (Nat.le_of_ble_eq_true rfl)⟩ hl.1 rfl (Nat.le_of_ble_eq_true rfl) d_Collector_hearTemplate_51 ?_
      refine fs_Jeq (g2 := F0 m 54 ls [.ref r6, .ref r5]) rfl ?_
      refine fs_JV S hG hR rfl [.ref r6] (enc := fun r => some (.int r)) (fun zr zs zt zh => m_ArrayList_add_0 X l r5 r6 zh) tw_4_208 tw_2_200 tw_2_201 tw_2_202 tw_1_5 q_ArrayList_add_0 ⟨(Nat.le_of_ble_eq_true rfl), (Nat.le_of_ble_eq_true rfl)⟩ hl.1 rfl (Nat.le_of_ble_eq_true rfl) d_Collector_hearTemplate_54 (fun v7 => ?_)
      refine fs_Jeq (g2 := F0 m 57 ls [.int v7]) rfl ?_
      refine fs_lift (fun _ _ _ _ => lv_pop hx hb d_Collector_hearTemplate_57 rfl) ?_
      refine fs_lift (fun _ _ _ _ => lv_aload_n hx hb d_Collector_hearTemplate_58 rfl (lv_at hl 0 rfl)) ?_
      refine fs_lift (fun _ _ _ _ => lv_aload_n hx hb d_Collector_hearTemplate_59 rfl (lv_at hl 1 rfl)) ?_
      refine fs_JV S hG hR rfl [.ref a1] (enc := fun r => some (.int r)) (fun zr zs zt zh => m_Collector_readShelf X l a0 a1 zh) tw_4_209 tw_4_210 tw_4_211 tw_4_212 tw_1_8 q_Collector_readShelf ⟨(Nat.le_of_ble_eq_true rfl), (Nat.le_of_ble_eq_true rfl)⟩ hl.1 rfl (Nat.le_of_ble_eq_true rfl) d_Collector_hearTemplate_60 (fun v8 => ?_)
      refine fs_Jeq (g2 := F0 m 63 ls [.int v8]) rfl ?_
      exact fs_Jiret S hr hk rfl d_Collector_hearTemplate_63
    · exact fs_Jthrow S hG hR hl0 (names := fs_nms) (len := 2) (.ldc 61) (Or.inl ⟨rfl, rfl⟩) (by decide) fs_fit fs_at4 tw_4_164 tw_1_26 tb_4_173 hl.1 hT hk (Nat.le_of_ble_eq_true rfl) (Nat.le_of_ble_eq_true rfl) d_Collector_hearTemplate_23 d_Collector_hearTemplate_26 d_Collector_hearTemplate_27 d_Collector_hearTemplate_29 d_Collector_hearTemplate_32 rfl
  · refine fs_lift (fun _ _ _ _ => lv_iconst (v := 0) hx hb d_Collector_hearTemplate_9 (by decide)) ?_
    exact fs_Jiret S hr hk rfl d_Collector_hearTemplate_10

theorem d_Ledger_heardOneOf_0 : decode prog_7_method_2_code 0 = .ok (.aload_n 1, 1) := by decide +kernel
theorem d_Ledger_heardOneOf_1 : decode prog_7_method_2_code 1 = .ok (.invokevirtual 15, 3) := by decide +kernel
theorem d_Ledger_heardOneOf_4 : decode prog_7_method_2_code 4 = .ok (.bipush 100, 2) := by decide +kernel
theorem d_Ledger_heardOneOf_6 : decode prog_7_method_2_code 6 = .ok (.imul, 1) := by decide +kernel
theorem d_Ledger_heardOneOf_7 : decode prog_7_method_2_code 7 = .ok (.aload_n 1, 1) := by decide +kernel
theorem d_Ledger_heardOneOf_8 : decode prog_7_method_2_code 8 = .ok (.invokevirtual 21, 3) := by decide +kernel
theorem d_Ledger_heardOneOf_11 : decode prog_7_method_2_code 11 = .ok (.iadd, 1) := by decide +kernel
theorem d_Ledger_heardOneOf_12 : decode prog_7_method_2_code 12 = .ok (.istore_n 2, 1) := by decide +kernel
theorem d_Ledger_heardOneOf_13 : decode prog_7_method_2_code 13 = .ok (.iconst 0, 1) := by decide +kernel
theorem d_Ledger_heardOneOf_14 : decode prog_7_method_2_code 14 = .ok (.istore_n 3, 1) := by decide +kernel
theorem d_Ledger_heardOneOf_15 : decode prog_7_method_2_code 15 = .ok (.iload_n 3, 1) := by decide +kernel
theorem d_Ledger_heardOneOf_16 : decode prog_7_method_2_code 16 = .ok (.aload_n 1, 1) := by decide +kernel
theorem d_Ledger_heardOneOf_17 : decode prog_7_method_2_code 17 = .ok (.invokevirtual 24, 3) := by decide +kernel
theorem d_Ledger_heardOneOf_20 : decode prog_7_method_2_code 20 = .ok (.if_icmp .ge 22, 3) := by decide +kernel
theorem d_Ledger_heardOneOf_23 : decode prog_7_method_2_code 23 = .ok (.aload_n 0, 1) := by decide +kernel
theorem d_Ledger_heardOneOf_24 : decode prog_7_method_2_code 24 = .ok (.getfield 9, 3) := by decide +kernel
theorem d_Ledger_heardOneOf_27 : decode prog_7_method_2_code 27 = .ok (.iload_n 2, 1) := by decide +kernel
theorem d_Ledger_heardOneOf_28 : decode prog_7_method_2_code 28 = .ok (.iload_n 3, 1) := by decide +kernel
theorem d_Ledger_heardOneOf_29 : decode prog_7_method_2_code 29 = .ok (.iadd, 1) := by decide +kernel
theorem d_Ledger_heardOneOf_30 : decode prog_7_method_2_code 30 = .ok (.baload, 1) := by decide +kernel
theorem d_Ledger_heardOneOf_31 : decode prog_7_method_2_code 31 = .ok (.ifCond .eq 5, 3) := by decide +kernel
theorem d_Ledger_heardOneOf_34 : decode prog_7_method_2_code 34 = .ok (.iconst 1, 1) := by decide +kernel
theorem d_Ledger_heardOneOf_35 : decode prog_7_method_2_code 35 = .ok (.ireturn, 1) := by decide +kernel
theorem d_Ledger_heardOneOf_36 : decode prog_7_method_2_code 36 = .ok (.iinc 3 1, 3) := by decide +kernel
theorem d_Ledger_heardOneOf_39 : decode prog_7_method_2_code 39 = .ok (.goto (-24), 3) := by decide +kernel
theorem d_Ledger_heardOneOf_42 : decode prog_7_method_2_code 42 = .ok (.iconst 0, 1) := by decide +kernel
theorem d_Ledger_heardOneOf_43 : decode prog_7_method_2_code 43 = .ok (.ireturn, 1) := by decide +kernel
theorem q_Ledger_heardOneOf : (⟨"FlowShelf$Ledger", "heardOneOf", "(LFlowShelf$Report;)Z"⟩ : MethodName).cls ≠ "java/lang/invoke/MethodHandle" ∧ (⟨"FlowShelf$Ledger", "heardOneOf", "(LFlowShelf$Report;)Z"⟩ : MethodName).cls ≠ "java/lang/invoke/VarHandle" ∧ (parseMethodDescriptor (⟨"FlowShelf$Ledger", "heardOneOf", "(LFlowShelf$Report;)Z"⟩ : MethodName).desc).map (fun d => d.parameters.length) = some 1 := by decide +kernel
set_option maxHeartbeats 4000000 in
set_option maxRecDepth 100000 in
theorem m_Ledger_heardOneOf (X : fs_X) (l : Launch) (a0 : Nat) (a1 : Nat) {r : Int32} {σ σF : fs_S} (h : (f_Ledger_heardOneOf a0 a1).1 σ = some (r, σF)) : fs_Met X l ⟨"FlowShelf$Ledger", "heardOneOf", "(LFlowShelf$Report;)Z"⟩ (Cond.code ⟨"FlowShelf$Ledger", "heardOneOf", "(LFlowShelf$Report;)Z"⟩ prog_7_method_2_code 4 (some FieldType.boolean)) 1 20 [.ref a0, .ref a1] σ (fs_eI r) σF := by
  refine fs_ofW (by decide) ?_
  intro p e s m args below meth c s₁ B hml hT hv
  obtain ⟨rfl, hw0, hG⟩ := hv
  have hx := B.exec
  have hb := B.bytes
  have hr := B.returns
  have hk := B.notSynchronized
  have S : CallFix p m c prog_7_method_2_code 4 s _ fs_ws "FlowShelf$Ledger" := ⟨B.exec, B.bytes, hml, findClass_of_methodNamed B.named, fun w hw => atoms_spec (ws := _ :: fs_ws) B.pre w (List.mem_cons_of_mem _ hw)⟩
  have hR := fs_hR (fr := 1) (lo := 20) ((f_Ledger_heardOneOf a0 a1).2 _ _ _ h)
  have hl := lv_entry ([.ref a0, .ref a1]) (n := 4) (Nat.le_of_ble_eq_true rfl)
  rw [lg_entry_eq]
  generalize (lg_sl ([.ref a0, .ref a1]) ++ List.replicate (4 - (lg_sl ([.ref a0, .ref a1])).length) Slot.unset).toArray = ls at hl ⊢
  have hl : lv_has ls 4 [(0, .ref a0), (1, .ref a1)] := hl
  refine (?_ : fs_J X p l e (fs_rm 1 20 σ σF) s m _ below meth c (fs_Q X below _ s (fs_eI r) σ σF) r σ σF (f_Ledger_heardOneOf a0 a1) (F0 m 0 ls [])) σ s.heap [] 0 0 h hw0 va_S.rf rfl rfl
  clear h hw0
  unfold f_Ledger_heardOneOf
  refine fs_lift (fun _ _ _ _ => lv_aload_n hx hb d_Ledger_heardOneOf_0 rfl (lv_at hl 1 rfl)) ?_
  refine fs_JV S hG hR rfl [] (enc := fun r => some (.int r)) (fun zr zs zt zh => m_Report_epoch X l a1 zh) tw_5_60 tw_4_104 tw_4_105 tw_4_106 tw_1_25 q_Report_epoch ⟨(Nat.le_of_ble_eq_true rfl), (Nat.le_of_ble_eq_true rfl)⟩ hl.1 rfl (Nat.le_of_ble_eq_true rfl) d_Ledger_heardOneOf_1 (fun v1 => ?_)
  refine fs_Jeq (g2 := F0 m 4 ls [.int v1]) rfl ?_
  refine fs_lift (fun _ _ _ _ => lv_bipush (v := 100) hx hb d_Ledger_heardOneOf_4 (by decide)) ?_
  refine fs_lift (fun _ _ _ _ => lv_imul hx hb d_Ledger_heardOneOf_6) ?_
  refine fs_lift (fun _ _ _ _ => lv_aload_n hx hb d_Ledger_heardOneOf_7 rfl (lv_at hl 1 rfl)) ?_
  refine fs_JV S hG hR rfl [] (enc := fun r => some (.int r)) (fun zr zs zt zh => m_Report_firstPlace X l a1 zh) tw_5_61 tw_4_140 tw_4_141 tw_4_142 tw_1_25 q_Report_firstPlace ⟨(Nat.le_of_ble_eq_true rfl), (Nat.le_of_ble_eq_true rfl)⟩ hl.1 rfl (Nat.le_of_ble_eq_true rfl) d_Ledger_heardOneOf_8 (fun v2 => ?_)
  refine fs_Jeq (g2 := F0 m 11 ls [.int v2, .int (v1 * 100)]) rfl ?_
  refine fs_lift (fun _ _ _ _ => lv_iadd hx hb d_Ledger_heardOneOf_11) ?_
  refine fs_Jni (fun v3 => ?_)
  refine fs_liftL (fun _ _ _ _ => lv_istore_n (lv' := [(2, .int v3), (0, .ref a0), (1, .ref a1)]) hx hb d_Ledger_heardOneOf_12 rfl hl (Nat.le_of_ble_eq_true rfl) rfl) (fun ls hl => ?_)
  refine fs_lift (fun _ _ _ _ => lv_iconst (v := 0) hx hb d_Ledger_heardOneOf_13 (by decide)) ?_
  refine fs_liftL (fun _ _ _ _ => lv_istore_n (lv' := [(3, .int 0), (2, .int v3), (0, .ref a0), (1, .ref a1)]) hx hb d_Ledger_heardOneOf_14 rfl hl (Nat.le_of_ble_eq_true rfl) rfl) (fun ls hl => ?_)
  refine fs_Jlp1 (nL := 4) (pc := 15) (rest := []) (I := fun (v4 : Int32) => [(0, .ref a0), (1, .ref a1), (2, .int v3), (3, .int v4)]) (fun k15 hk15 v4 ls hl => ?_) _ _ _ (lv_sub hl [2, 3, 1, 0] rfl)
  refine fs_lift (fun _ _ _ _ => lv_iload_n hx hb d_Ledger_heardOneOf_15 rfl (lv_at hl 3 rfl)) ?_
  refine fs_lift (fun _ _ _ _ => lv_aload_n hx hb d_Ledger_heardOneOf_16 rfl (lv_at hl 1 rfl)) ?_
  refine fs_JV S hG hR rfl [] (enc := fun r => some (.int r)) (fun zr zs zt zh => m_Report_records X l a1 zh) tw_5_62 tw_4_136 tw_4_137 tw_4_138 tw_1_25 q_Report_records ⟨(Nat.le_of_ble_eq_true rfl), (Nat.le_of_ble_eq_true rfl)⟩ hl.1 rfl (Nat.le_of_ble_eq_true rfl) d_Ledger_heardOneOf_17 (fun v5 => ?_)
  refine fs_Jeq (g2 := F0 m 20 ls [.int v5, .int v4]) rfl ?_
  refine fs_if (fun _ _ _ _ => lv_icmp_ge hx hb d_Ledger_heardOneOf_20 rfl) ?_ ?_
  · refine fs_lift (fun _ _ _ _ => lv_iconst (v := 0) hx hb d_Ledger_heardOneOf_42 (by decide)) ?_
    exact fs_Jzret S hr hk rfl d_Ledger_heardOneOf_43
  · refine fs_lift (fun _ _ _ _ => lv_aload_n hx hb d_Ledger_heardOneOf_23 rfl (lv_at hl 0 rfl)) ?_
    refine fs_Jgr S hG fs_in7 rfl 0 (Nat.le_of_ble_eq_true rfl) tw_1_207 (fun _ h9 => h9) d_Ledger_heardOneOf_24 (fun r6 => ?_)
    refine fs_lift (fun _ _ _ _ => lv_iload_n hx hb d_Ledger_heardOneOf_27 rfl (lv_at hl 2 rfl)) ?_
    refine fs_lift (fun _ _ _ _ => lv_iload_n hx hb d_Ledger_heardOneOf_28 rfl (lv_at hl 3 rfl)) ?_
    refine fs_lift (fun _ _ _ _ => lv_iadd hx hb d_Ledger_heardOneOf_29) ?_
    refine fs_Jaz S hG d_Ledger_heardOneOf_30 (fun v7 => ?_)
    refine fs_if (fun _ _ _ _ => lv_if_eq hx hb d_Ledger_heardOneOf_31 rfl) ?_ ?_
    · refine fs_Jnm (fun v8 hv9 => ?_)
      refine fs_liftL (fun _ _ _ _ => lv_iinc (k := 3) (v := v8) (lv' := [(3, .int v8), (0, .ref a0), (1, .ref a1), (2, .int v3)]) hx hb d_Ledger_heardOneOf_36 hl rfl (by rw [hv9]; rfl) (Nat.le_of_ble_eq_true rfl) rfl) (fun ls hl => ?_)
      refine fs_lift (fun _ _ _ _ => lv_goto hx hb d_Ledger_heardOneOf_39 rfl) ?_
      exact hk15 v8 ls (lv_sub hl [1, 2, 3, 0] rfl)
    · refine fs_lift (fun _ _ _ _ => lv_iconst (v := 1) hx hb d_Ledger_heardOneOf_34 (by decide)) ?_
      exact fs_Jzret S hr hk rfl d_Ledger_heardOneOf_35

theorem d_Collector_putOnShelf_0 : decode prog_2_method_11_code 0 = .ok (.aload_n 0, 1) := by decide +kernel
theorem d_Collector_putOnShelf_1 : decode prog_2_method_11_code 1 = .ok (.getfield 18, 3) := by decide +kernel
theorem d_Collector_putOnShelf_4 : decode prog_2_method_11_code 4 = .ok (.invokevirtual 38, 3) := by decide +kernel
theorem d_Collector_putOnShelf_7 : decode prog_2_method_11_code 7 = .ok (.iconst 5, 1) := by decide +kernel
theorem d_Collector_putOnShelf_8 : decode prog_2_method_11_code 8 = .ok (.if_icmp .lt 30, 3) := by decide +kernel
theorem d_Collector_putOnShelf_11 : decode prog_2_method_11_code 11 = .ok (.aload_n 0, 1) := by decide +kernel
theorem d_Collector_putOnShelf_12 : decode prog_2_method_11_code 12 = .ok (.aload_n 0, 1) := by decide +kernel
theorem d_Collector_putOnShelf_13 : decode prog_2_method_11_code 13 = .ok (.getfield 18, 3) := by decide +kernel
theorem d_Collector_putOnShelf_16 : decode prog_2_method_11_code 16 = .ok (.iconst 0, 1) := by decide +kernel
theorem d_Collector_putOnShelf_17 : decode prog_2_method_11_code 17 = .ok (.invokevirtual 89, 3) := by decide +kernel
theorem d_Collector_putOnShelf_20 : decode prog_2_method_11_code 20 = .ok (.checkcast 46, 3) := by decide +kernel
theorem d_Collector_putOnShelf_23 : decode prog_2_method_11_code 23 = .ok (.invokevirtual 48, 3) := by decide +kernel
theorem d_Collector_putOnShelf_26 : decode prog_2_method_11_code 26 = .ok (.invokevirtual 103, 3) := by decide +kernel
theorem d_Collector_putOnShelf_29 : decode prog_2_method_11_code 29 = .ok (.dup, 1) := by decide +kernel
theorem d_Collector_putOnShelf_30 : decode prog_2_method_11_code 30 = .ok (.getfield 128, 3) := by decide +kernel
theorem d_Collector_putOnShelf_33 : decode prog_2_method_11_code 33 = .ok (.iconst 1, 1) := by decide +kernel
theorem d_Collector_putOnShelf_34 : decode prog_2_method_11_code 34 = .ok (.iadd, 1) := by decide +kernel
theorem d_Collector_putOnShelf_35 : decode prog_2_method_11_code 35 = .ok (.putfield 128, 3) := by decide +kernel
theorem d_Collector_putOnShelf_38 : decode prog_2_method_11_code 38 = .ok (.aload_n 0, 1) := by decide +kernel
theorem d_Collector_putOnShelf_39 : decode prog_2_method_11_code 39 = .ok (.getfield 18, 3) := by decide +kernel
theorem d_Collector_putOnShelf_42 : decode prog_2_method_11_code 42 = .ok (.new 46, 3) := by decide +kernel
theorem d_Collector_putOnShelf_45 : decode prog_2_method_11_code 45 = .ok (.dup, 1) := by decide +kernel
theorem d_Collector_putOnShelf_46 : decode prog_2_method_11_code 46 = .ok (.aload_n 1, 1) := by decide +kernel
theorem d_Collector_putOnShelf_47 : decode prog_2_method_11_code 47 = .ok (.invokespecial 73, 3) := by decide +kernel
theorem d_Collector_putOnShelf_50 : decode prog_2_method_11_code 50 = .ok (.invokevirtual 76, 3) := by decide +kernel
theorem d_Collector_putOnShelf_53 : decode prog_2_method_11_code 53 = .ok (.pop, 1) := by decide +kernel
theorem d_Collector_putOnShelf_54 : decode prog_2_method_11_code 54 = .ok (.return_, 1) := by decide +kernel
theorem q_Collector_putOnShelf : (⟨"FlowShelf$Collector", "putOnShelf", "(LFlowShelf$Report;)V"⟩ : MethodName).cls ≠ "java/lang/invoke/MethodHandle" ∧ (⟨"FlowShelf$Collector", "putOnShelf", "(LFlowShelf$Report;)V"⟩ : MethodName).cls ≠ "java/lang/invoke/VarHandle" ∧ (parseMethodDescriptor (⟨"FlowShelf$Collector", "putOnShelf", "(LFlowShelf$Report;)V"⟩ : MethodName).desc).map (fun d => d.parameters.length) = some 1 := by decide +kernel
set_option maxHeartbeats 4000000 in
set_option maxRecDepth 100000 in
theorem m_Collector_putOnShelf (X : fs_X) (l : Launch) (a0 : Nat) (a1 : Nat) {r : Unit} {σ σF : fs_S} (h : (f_Collector_putOnShelf a0 a1).1 σ = some (r, σF)) : fs_Met X l ⟨"FlowShelf$Collector", "putOnShelf", "(LFlowShelf$Report;)V"⟩ (Cond.code ⟨"FlowShelf$Collector", "putOnShelf", "(LFlowShelf$Report;)V"⟩ prog_2_method_11_code 2 none) 7 191 [.ref a0, .ref a1] σ (fs_eV r) σF := by
  refine fs_ofW (by decide) ?_
  intro p e s m args below meth c s₁ B hml hT hv
  obtain ⟨rfl, hw0, hG⟩ := hv
  have hx := B.exec
  have hb := B.bytes
  have hr := B.returns
  have hk := B.notSynchronized
  have S : CallFix p m c prog_2_method_11_code 2 s _ fs_ws "FlowShelf$Collector" := ⟨B.exec, B.bytes, hml, findClass_of_methodNamed B.named, fun w hw => atoms_spec (ws := _ :: fs_ws) B.pre w (List.mem_cons_of_mem _ hw)⟩
  have hR := fs_hR (fr := 7) (lo := 191) ((f_Collector_putOnShelf a0 a1).2 _ _ _ h)
  have hl := lv_entry ([.ref a0, .ref a1]) (n := 2) (Nat.le_of_ble_eq_true rfl)
  rw [lg_entry_eq]
  generalize (lg_sl ([.ref a0, .ref a1]) ++ List.replicate (2 - (lg_sl ([.ref a0, .ref a1])).length) Slot.unset).toArray = ls at hl ⊢
  have hl : lv_has ls 2 [(0, .ref a0), (1, .ref a1)] := hl
  refine (?_ : fs_J X p l e (fs_rm 7 191 σ σF) s m _ below meth c (fs_Q X below _ s (fs_eV r) σ σF) r σ σF (f_Collector_putOnShelf a0 a1) (F0 m 0 ls [])) σ s.heap [] 0 0 h hw0 va_S.rf rfl rfl
  clear h hw0
  unfold f_Collector_putOnShelf
  refine fs_lift (fun _ _ _ _ => lv_aload_n hx hb d_Collector_putOnShelf_0 rfl (lv_at hl 0 rfl)) ?_
  refine fs_Jgr S hG fs_in5 rfl 1 (Nat.le_of_ble_eq_true rfl) tw_1_231 (fun _ h9 => h9) d_Collector_putOnShelf_1 (fun r1 => ?_)
  refine fs_JV S hG hR rfl [] (enc := fun r => some (.int r)) (fun zr zs zt zh => m_ArrayList_size X l r1 zh) tw_4_157 tw_2_29 tw_2_30 tw_2_31 tw_1_5 q_ArrayList_size ⟨(Nat.le_of_ble_eq_true rfl), (Nat.le_of_ble_eq_true rfl)⟩ hl.1 rfl (Nat.le_of_ble_eq_true rfl) d_Collector_putOnShelf_4 (fun v2 => ?_)
  refine fs_Jeq (g2 := F0 m 7 ls [.int v2]) rfl ?_
  refine fs_lift (fun _ _ _ _ => lv_iconst (v := 5) hx hb d_Collector_putOnShelf_7 (by decide)) ?_
  refine fs_Jlet1 (nL := 2) (pj := 38) (I := fun (_ : Unit) => [(0, .ref a0), (1, .ref a1)]) (st := fun (_ : Unit) => []) (fun _ ls hl => ?_) (fun j38 hj38 => ?_)
  · refine fs_lift (fun _ _ _ _ => lv_aload_n hx hb d_Collector_putOnShelf_38 rfl (lv_at hl 0 rfl)) ?_
    refine fs_Jgr S hG fs_in5 rfl 1 (Nat.le_of_ble_eq_true rfl) tw_1_231 (fun _ h9 => h9) d_Collector_putOnShelf_39 (fun r8 => ?_)
    refine fs_Jnw S hG hR fs_in9 rfl fs_Y9 fs_ty9 fs_dv9 rfl tw_4_159 tw_3_220 tw_1_25 d_Collector_putOnShelf_42 (fun r9 => ?_)
    refine fs_lift (fun _ _ _ _ => lv_dup hx hb d_Collector_putOnShelf_45 rfl) ?_
    refine fs_lift (fun _ _ _ _ => lv_aload_n hx hb d_Collector_putOnShelf_46 rfl (lv_at hl 1 rfl)) ?_
    refine fs_JI S hG hR [.ref a1] (fun zr zs zt zh => m_Report_init_1 X l r9 a1 zh) tw_4_195 tw_4_196 tw_4_197 tw_1_25 rfl q_Report_init_1 ⟨(Nat.le_of_ble_eq_true rfl), (Nat.le_of_ble_eq_true rfl)⟩ hl.1 rfl (Nat.le_of_ble_eq_true rfl) d_Collector_putOnShelf_47 ?_
    refine fs_Jeq (g2 := F0 m 50 ls [.ref r9, .ref r8]) rfl ?_
    refine fs_JV S hG hR rfl [.ref r9] (enc := fun r => some (.int r)) (fun zr zs zt zh => m_ArrayList_add_0 X l r8 r9 zh) tw_4_208 tw_2_200 tw_2_201 tw_2_202 tw_1_5 q_ArrayList_add_0 ⟨(Nat.le_of_ble_eq_true rfl), (Nat.le_of_ble_eq_true rfl)⟩ hl.1 rfl (Nat.le_of_ble_eq_true rfl) d_Collector_putOnShelf_50 (fun v10 => ?_)
    refine fs_Jeq (g2 := F0 m 53 ls [.int v10]) rfl ?_
    refine fs_lift (fun _ _ _ _ => lv_pop hx hb d_Collector_putOnShelf_53 rfl) ?_
    exact fs_Jvret S hr hk rfl d_Collector_putOnShelf_54
  · refine fs_if (fun _ _ _ _ => lv_icmp_lt hx hb d_Collector_putOnShelf_8 rfl) ?_ ?_
    · exact hj38 () ls (lv_sub hl [0, 1] rfl)
    · refine fs_lift (fun _ _ _ _ => lv_aload_n hx hb d_Collector_putOnShelf_11 rfl (lv_at hl 0 rfl)) ?_
      refine fs_lift (fun _ _ _ _ => lv_aload_n hx hb d_Collector_putOnShelf_12 rfl (lv_at hl 0 rfl)) ?_
      refine fs_Jgr S hG fs_in5 rfl 1 (Nat.le_of_ble_eq_true rfl) tw_1_231 (fun _ h9 => h9) d_Collector_putOnShelf_13 (fun r3 => ?_)
      refine fs_lift (fun _ _ _ _ => lv_iconst (v := 0) hx hb d_Collector_putOnShelf_16 (by decide)) ?_
      refine fs_JV S hG hR rfl [.int 0] (enc := fun r => some (.ref r)) (fun zr zs zt zh => m_ArrayList_remove X l r3 0 zh) tw_4_213 tw_2_189 tw_2_190 tw_2_191 tw_1_5 q_ArrayList_remove ⟨(Nat.le_of_ble_eq_true rfl), (Nat.le_of_ble_eq_true rfl)⟩ hl.1 rfl (Nat.le_of_ble_eq_true rfl) d_Collector_putOnShelf_17 (fun r4 => ?_)
      refine fs_Jeq (g2 := F0 m 20 ls [.ref r4, .ref a0]) rfl ?_
      refine fs_Jck S hG rfl tw_4_159 tb_7_81 d_Collector_putOnShelf_20 ?_
      refine fs_JV S hG hR rfl [] (enc := fun r => some (.int r)) (fun zr zs zt zh => m_Report_exporter X l r4 zh) tw_5_19 tw_4_99 tw_4_100 tw_4_101 tw_1_25 q_Report_exporter ⟨(Nat.le_of_ble_eq_true rfl), (Nat.le_of_ble_eq_true rfl)⟩ hl.1 rfl (Nat.le_of_ble_eq_true rfl) d_Collector_putOnShelf_23 (fun v5 => ?_)
      refine fs_Jeq (g2 := F0 m 26 ls [.int v5, .ref a0]) rfl ?_
      refine fs_JV S hG hR rfl [.int v5] (enc := fun r => some (.ref r)) (fun zr zs zt zh => m_Collector_ledgerOf X l a0 v5 zh) tw_5_48 tw_5_49 tw_5_50 tw_5_51 tw_1_8 q_Collector_ledgerOf ⟨(Nat.le_of_ble_eq_true rfl), (Nat.le_of_ble_eq_true rfl)⟩ hl.1 rfl (Nat.le_of_ble_eq_true rfl) d_Collector_putOnShelf_26 (fun r6 => ?_)
      refine fs_Jeq (g2 := F0 m 29 ls [.ref r6]) rfl ?_
      refine fs_lift (fun _ _ _ _ => lv_dup hx hb d_Collector_putOnShelf_29 rfl) ?_
      refine fs_Jgi S hG fs_in7 rfl 1 (Nat.le_of_ble_eq_true rfl) tw_1_208 (fun _ h9 => h9) d_Collector_putOnShelf_30 (fun v7 => ?_)
      refine fs_lift (fun _ _ _ _ => lv_iconst (v := 1) hx hb d_Collector_putOnShelf_33 (by decide)) ?_
      refine fs_lift (fun _ _ _ _ => lv_iadd hx hb d_Collector_putOnShelf_34) ?_
      refine fs_Jput S hG fs_in7 rfl 1 (Nat.le_of_ble_eq_true rfl) tw_1_208 (fun _ h9 => h9) fs_Y7 fs_ty7 fs_nm7 (Or.inl rfl) rfl rfl d_Collector_putOnShelf_35 ?_
      exact hj38 () ls (lv_sub hl [0, 1] rfl)

