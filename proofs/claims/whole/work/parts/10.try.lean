/-! contracts -/
theorem d_Flow_hasKey_0 : decode prog_5_method_2_code 0 = .ok (.aload_n 0, 1) := by decide +kernel
theorem d_Flow_hasKey_1 : decode prog_5_method_2_code 1 = .ok (.getfield 9, 3) := by decide +kernel
theorem d_Flow_hasKey_4 : decode prog_5_method_2_code 4 = .ok (.iload_n 1, 1) := by decide +kernel
theorem d_Flow_hasKey_5 : decode prog_5_method_2_code 5 = .ok (.if_icmp .ne 23, 3) := by decide +kernel
theorem d_Flow_hasKey_8 : decode prog_5_method_2_code 8 = .ok (.aload_n 0, 1) := by decide +kernel
theorem d_Flow_hasKey_9 : decode prog_5_method_2_code 9 = .ok (.getfield 15, 3) := by decide +kernel
theorem d_Flow_hasKey_12 : decode prog_5_method_2_code 12 = .ok (.iload_n 2, 1) := by decide +kernel
theorem d_Flow_hasKey_13 : decode prog_5_method_2_code 13 = .ok (.if_icmp .ne 15, 3) := by decide +kernel
theorem d_Flow_hasKey_16 : decode prog_5_method_2_code 16 = .ok (.aload_n 0, 1) := by decide +kernel
theorem d_Flow_hasKey_17 : decode prog_5_method_2_code 17 = .ok (.getfield 18, 3) := by decide +kernel
theorem d_Flow_hasKey_20 : decode prog_5_method_2_code 20 = .ok (.iload_n 3, 1) := by decide +kernel
theorem d_Flow_hasKey_21 : decode prog_5_method_2_code 21 = .ok (.if_icmp .ne 7, 3) := by decide +kernel
theorem d_Flow_hasKey_24 : decode prog_5_method_2_code 24 = .ok (.iconst 1, 1) := by decide +kernel
theorem d_Flow_hasKey_25 : decode prog_5_method_2_code 25 = .ok (.goto 4, 3) := by decide +kernel
theorem d_Flow_hasKey_28 : decode prog_5_method_2_code 28 = .ok (.iconst 0, 1) := by decide +kernel
theorem d_Flow_hasKey_29 : decode prog_5_method_2_code 29 = .ok (.ireturn, 1) := by decide +kernel
theorem q_Flow_hasKey : (⟨"FlowShelf$Flow", "hasKey", "(III)Z"⟩ : MethodName).cls ≠ "java/lang/invoke/MethodHandle" ∧ (⟨"FlowShelf$Flow", "hasKey", "(III)Z"⟩ : MethodName).cls ≠ "java/lang/invoke/VarHandle" ∧ (parseMethodDescriptor (⟨"FlowShelf$Flow", "hasKey", "(III)Z"⟩ : MethodName).desc).map (fun d => d.parameters.length) = some 3 := by decide +kernel
set_option maxHeartbeats 4000000 in
set_option maxRecDepth 100000 in
theorem m_Flow_hasKey (X : fs_X) (l : Launch) (a0 : Nat) (x1 : Int32) (x2 : Int32) (x3 : Int32) {r : Int32} {σ σF : fs_S} (h : (f_Flow_hasKey a0 x1 x2 x3).1 σ = some (r, σF)) : fs_Met X l ⟨"FlowShelf$Flow", "hasKey", "(III)Z"⟩ (Cond.code ⟨"FlowShelf$Flow", "hasKey", "(III)Z"⟩ prog_5_method_2_code 4 (some FieldType.boolean)) 0 0 [.ref a0, .int x1, .int x2, .int x3] σ (fs_eI r) σF := by
  refine fs_ofW (by decide) ?_
  intro p e s m args below meth c s₁ B hml hT hv
  obtain ⟨rfl, hw0, hG⟩ := hv
  have hx := B.exec
  have hb := B.bytes
  have hr := B.returns
  have hk := B.notSynchronized
  have S : CallFix p m c prog_5_method_2_code 4 s _ fs_ws "FlowShelf$Flow" := ⟨B.exec, B.bytes, hml, findClass_of_methodNamed B.named, fun w hw => atoms_spec (ws := _ :: fs_ws) B.pre w (List.mem_cons_of_mem _ hw)⟩
  have hR := fs_hR (fr := 0) (lo := 0) ((f_Flow_hasKey a0 x1 x2 x3).2 _ _ _ h)
  have hl := lv_entry ([.ref a0, .int x1, .int x2, .int x3]) (n := 4) (Nat.le_of_ble_eq_true rfl)
  rw [lg_entry_eq]
  generalize (lg_sl ([.ref a0, .int x1, .int x2, .int x3]) ++ List.replicate (4 - (lg_sl ([.ref a0, .int x1, .int x2, .int x3])).length) Slot.unset).toArray = ls at hl ⊢
  have hl : lv_has ls 4 [(0, .ref a0), (1, .int x1), (2, .int x2), (3, .int x3)] := hl
  refine (?_ : fs_J X p l e (fs_rm 0 0 σ σF) s m _ below meth c (fs_Q X below _ s (fs_eI r) σ σF) r σ σF (f_Flow_hasKey a0 x1 x2 x3) (F0 m 0 ls [])) σ s.heap [] 0 0 h hw0 va_S.rf rfl rfl
  clear h hw0
  unfold f_Flow_hasKey
  refine fs_lift (fun _ _ _ _ => lv_aload_n hx hb d_Flow_hasKey_0 rfl (lv_at hl 0 rfl)) ?_
  refine fs_Jgi S hG fs_in8 rfl 0 (Nat.le_of_ble_eq_true rfl) tw_3_26 (fun _ h9 => h9) d_Flow_hasKey_1 (fun v1 => ?_)
  refine fs_lift (fun _ _ _ _ => lv_iload_n hx hb d_Flow_hasKey_4 rfl (lv_at hl 1 rfl)) ?_
  refine fs_ifn (fun _ _ _ _ => lv_icmp_ne hx hb d_Flow_hasKey_5 rfl) ?_ ?_
  · refine fs_lift (fun _ _ _ _ => lv_aload_n hx hb d_Flow_hasKey_8 rfl (lv_at hl 0 rfl)) ?_
    refine fs_Jgi S hG fs_in8 rfl 1 (Nat.le_of_ble_eq_true rfl) tw_3_27 (fun _ h9 => h9) d_Flow_hasKey_9 (fun v2 => ?_)
    refine fs_lift (fun _ _ _ _ => lv_iload_n hx hb d_Flow_hasKey_12 rfl (lv_at hl 2 rfl)) ?_
    refine fs_ifn (fun _ _ _ _ => lv_icmp_ne hx hb d_Flow_hasKey_13 rfl) ?_ ?_
    · refine fs_lift (fun _ _ _ _ => lv_aload_n hx hb d_Flow_hasKey_16 rfl (lv_at hl 0 rfl)) ?_
      refine fs_Jgi S hG fs_in8 rfl 2 (Nat.le_of_ble_eq_true rfl) tw_3_28 (fun _ h9 => h9) d_Flow_hasKey_17 (fun v3 => ?_)
      refine fs_lift (fun _ _ _ _ => lv_iload_n hx hb d_Flow_hasKey_20 rfl (lv_at hl 3 rfl)) ?_
      refine fs_ifn (fun _ _ _ _ => lv_icmp_ne hx hb d_Flow_hasKey_21 rfl) ?_ ?_
      · refine fs_lift (fun _ _ _ _ => lv_iconst (v := 1) hx hb d_Flow_hasKey_24 (by decide)) ?_
        refine fs_lift (fun _ _ _ _ => lv_goto hx hb d_Flow_hasKey_25 rfl) ?_
        exact fs_Jzret S hr hk rfl d_Flow_hasKey_29
      · refine fs_lift (fun _ _ _ _ => lv_iconst (v := 0) hx hb d_Flow_hasKey_28 (by decide)) ?_
        exact fs_Jzret S hr hk rfl d_Flow_hasKey_29
    · refine fs_lift (fun _ _ _ _ => lv_iconst (v := 0) hx hb d_Flow_hasKey_28 (by decide)) ?_
      exact fs_Jzret S hr hk rfl d_Flow_hasKey_29
  · refine fs_lift (fun _ _ _ _ => lv_iconst (v := 0) hx hb d_Flow_hasKey_28 (by decide)) ?_
    exact fs_Jzret S hr hk rfl d_Flow_hasKey_29

theorem d_Flow_init_0 : decode prog_5_method_1_code 0 = .ok (.aload_n 0, 1) := by decide +kernel
theorem d_Flow_init_1 : decode prog_5_method_1_code 1 = .ok (.invokespecial 3, 3) := by decide +kernel
theorem d_Flow_init_4 : decode prog_5_method_1_code 4 = .ok (.aload_n 0, 1) := by decide +kernel
theorem d_Flow_init_5 : decode prog_5_method_1_code 5 = .ok (.iload_n 1, 1) := by decide +kernel
theorem d_Flow_init_6 : decode prog_5_method_1_code 6 = .ok (.putfield 9, 3) := by decide +kernel
theorem d_Flow_init_9 : decode prog_5_method_1_code 9 = .ok (.aload_n 0, 1) := by decide +kernel
theorem d_Flow_init_10 : decode prog_5_method_1_code 10 = .ok (.iload_n 2, 1) := by decide +kernel
theorem d_Flow_init_11 : decode prog_5_method_1_code 11 = .ok (.putfield 15, 3) := by decide +kernel
theorem d_Flow_init_14 : decode prog_5_method_1_code 14 = .ok (.aload_n 0, 1) := by decide +kernel
theorem d_Flow_init_15 : decode prog_5_method_1_code 15 = .ok (.iload_n 3, 1) := by decide +kernel
theorem d_Flow_init_16 : decode prog_5_method_1_code 16 = .ok (.putfield 18, 3) := by decide +kernel
theorem d_Flow_init_19 : decode prog_5_method_1_code 19 = .ok (.aload_n 0, 1) := by decide +kernel
theorem d_Flow_init_20 : decode prog_5_method_1_code 20 = .ok (.iload 4, 2) := by decide +kernel
theorem d_Flow_init_22 : decode prog_5_method_1_code 22 = .ok (.putfield 21, 3) := by decide +kernel
theorem d_Flow_init_25 : decode prog_5_method_1_code 25 = .ok (.return_, 1) := by decide +kernel
theorem q_Flow_init : (⟨"FlowShelf$Flow", "<init>", "(IIII)V"⟩ : MethodName).cls ≠ "java/lang/invoke/MethodHandle" ∧ (⟨"FlowShelf$Flow", "<init>", "(IIII)V"⟩ : MethodName).cls ≠ "java/lang/invoke/VarHandle" ∧ (parseMethodDescriptor (⟨"FlowShelf$Flow", "<init>", "(IIII)V"⟩ : MethodName).desc).map (fun d => d.parameters.length) = some 4 := by decide +kernel
set_option maxHeartbeats 4000000 in
set_option maxRecDepth 100000 in
theorem m_Flow_init (X : fs_X) (l : Launch) (a0 : Nat) (x1 : Int32) (x2 : Int32) (x3 : Int32) (x4 : Int32) {r : Unit} {σ σF : fs_S} (h : (f_Flow_init a0 x1 x2 x3 x4).1 σ = some (r, σF)) : fs_Met X l ⟨"FlowShelf$Flow", "<init>", "(IIII)V"⟩ (Cond.code ⟨"FlowShelf$Flow", "<init>", "(IIII)V"⟩ prog_5_method_1_code 5 none) 1 12 [.ref a0, .int x1, .int x2, .int x3, .int x4] σ (fs_eV r) σF := by
  refine fs_ofW (by decide) ?_
  intro p e s m args below meth c s₁ B hml hT hv
  obtain ⟨rfl, hw0, hG⟩ := hv
  have hx := B.exec
  have hb := B.bytes
  have hr := B.returns
  have hk := B.notSynchronized
  have hin : meth.name = "<init>" := (name_of_methodNamed B.named B.method).1
  have S : CallFix p m c prog_5_method_1_code 5 s _ fs_ws "FlowShelf$Flow" := ⟨B.exec, B.bytes, hml, findClass_of_methodNamed B.named, fun w hw => atoms_spec (ws := _ :: fs_ws) B.pre w (List.mem_cons_of_mem _ hw)⟩
  have hR := fs_hR (fr := 1) (lo := 12) ((f_Flow_init a0 x1 x2 x3 x4).2 _ _ _ h)
  have hl := lv_entry ([.ref a0, .int x1, .int x2, .int x3, .int x4]) (n := 5) (Nat.le_of_ble_eq_true rfl)
  rw [lg_entry_eq]
  generalize (lg_sl ([.ref a0, .int x1, .int x2, .int x3, .int x4]) ++ List.replicate (5 - (lg_sl ([.ref a0, .int x1, .int x2, .int x3, .int x4])).length) Slot.unset).toArray = ls at hl ⊢
  have hl : lv_has ls 5 [(0, .ref a0), (1, .int x1), (2, .int x2), (3, .int x3), (4, .int x4)] := hl
  refine (?_ : fs_J X p l e (fs_rm 1 12 σ σF) s m _ below meth c (fs_Q X below _ s (fs_eV r) σ σF) r σ σF (f_Flow_init a0 x1 x2 x3 x4) (F0 m 0 ls [])) σ s.heap [] 0 0 h hw0 va_S.rf rfl rfl
  clear h hw0
  unfold f_Flow_init
  refine fs_lift (fun _ _ _ _ => lv_aload_n hx hb d_Flow_init_0 rfl (lv_at hl 0 rfl)) ?_
  refine fs_JO S tw_3_25 tw_1_35 tw_1_36 hl.1 (Nat.le_of_ble_eq_true rfl) (Nat.le_of_ble_eq_true rfl) d_Flow_init_1 ?_
  refine fs_Jeq (g2 := F0 m 4 ls []) rfl ?_
  refine fs_lift (fun _ _ _ _ => lv_aload_n hx hb d_Flow_init_4 rfl (lv_at hl 0 rfl)) ?_
  refine fs_lift (fun _ _ _ _ => lv_iload_n hx hb d_Flow_init_5 rfl (lv_at hl 1 rfl)) ?_
  refine fs_Jput S hG fs_in8 rfl 0 (Nat.le_of_ble_eq_true rfl) tw_3_26 (fun _ h9 => h9) fs_Y8 fs_ty8 fs_nm8 (Or.inr ⟨rfl, hin, rfl⟩) rfl rfl d_Flow_init_6 ?_
  refine fs_lift (fun _ _ _ _ => lv_aload_n hx hb d_Flow_init_9 rfl (lv_at hl 0 rfl)) ?_
  refine fs_lift (fun _ _ _ _ => lv_iload_n hx hb d_Flow_init_10 rfl (lv_at hl 2 rfl)) ?_
  refine fs_Jput S hG fs_in8 rfl 1 (Nat.le_of_ble_eq_true rfl) tw_3_27 (fun _ h9 => h9) fs_Y8 fs_ty8 fs_nm8 (Or.inr ⟨rfl, hin, rfl⟩) rfl rfl d_Flow_init_11 ?_
  refine fs_lift (fun _ _ _ _ => lv_aload_n hx hb d_Flow_init_14 rfl (lv_at hl 0 rfl)) ?_
  refine fs_lift (fun _ _ _ _ => lv_iload_n hx hb d_Flow_init_15 rfl (lv_at hl 3 rfl)) ?_
  refine fs_Jput S hG fs_in8 rfl 2 (Nat.le_of_ble_eq_true rfl) tw_3_28 (fun _ h9 => h9) fs_Y8 fs_ty8 fs_nm8 (Or.inr ⟨rfl, hin, rfl⟩) rfl rfl d_Flow_init_16 ?_
  refine fs_lift (fun _ _ _ _ => lv_aload_n hx hb d_Flow_init_19 rfl (lv_at hl 0 rfl)) ?_
  refine fs_lift (fun _ _ _ _ => lv_iload hx hb d_Flow_init_20 (lv_at hl 4 rfl)) ?_
  refine fs_Jput S hG fs_in8 rfl 3 (Nat.le_of_ble_eq_true rfl) tw_3_29 (fun _ h9 => h9) fs_Y8 fs_ty8 fs_nm8 (Or.inr ⟨rfl, hin, rfl⟩) rfl rfl d_Flow_init_22 ?_
  exact fs_Jvret S hr hk rfl d_Flow_init_25

theorem d_Flow_addPacket_0 : decode prog_5_method_3_code 0 = .ok (.aload_n 0, 1) := by decide +kernel
theorem d_Flow_addPacket_1 : decode prog_5_method_3_code 1 = .ok (.dup, 1) := by decide +kernel
theorem d_Flow_addPacket_2 : decode prog_5_method_3_code 2 = .ok (.getfield 24, 3) := by decide +kernel
theorem d_Flow_addPacket_5 : decode prog_5_method_3_code 5 = .ok (.iload_n 1, 1) := by decide +kernel
theorem d_Flow_addPacket_6 : decode prog_5_method_3_code 6 = .ok (.iadd, 1) := by decide +kernel
theorem d_Flow_addPacket_7 : decode prog_5_method_3_code 7 = .ok (.putfield 24, 3) := by decide +kernel
theorem d_Flow_addPacket_10 : decode prog_5_method_3_code 10 = .ok (.aload_n 0, 1) := by decide +kernel
theorem d_Flow_addPacket_11 : decode prog_5_method_3_code 11 = .ok (.dup, 1) := by decide +kernel
theorem d_Flow_addPacket_12 : decode prog_5_method_3_code 12 = .ok (.getfield 27, 3) := by decide +kernel
theorem d_Flow_addPacket_15 : decode prog_5_method_3_code 15 = .ok (.iconst 1, 1) := by decide +kernel
theorem d_Flow_addPacket_16 : decode prog_5_method_3_code 16 = .ok (.iadd, 1) := by decide +kernel
theorem d_Flow_addPacket_17 : decode prog_5_method_3_code 17 = .ok (.putfield 27, 3) := by decide +kernel
theorem d_Flow_addPacket_20 : decode prog_5_method_3_code 20 = .ok (.aload_n 0, 1) := by decide +kernel
theorem d_Flow_addPacket_21 : decode prog_5_method_3_code 21 = .ok (.iload_n 2, 1) := by decide +kernel
theorem d_Flow_addPacket_22 : decode prog_5_method_3_code 22 = .ok (.putfield 30, 3) := by decide +kernel
theorem d_Flow_addPacket_25 : decode prog_5_method_3_code 25 = .ok (.return_, 1) := by decide +kernel
theorem q_Flow_addPacket : (⟨"FlowShelf$Flow", "addPacket", "(II)V"⟩ : MethodName).cls ≠ "java/lang/invoke/MethodHandle" ∧ (⟨"FlowShelf$Flow", "addPacket", "(II)V"⟩ : MethodName).cls ≠ "java/lang/invoke/VarHandle" ∧ (parseMethodDescriptor (⟨"FlowShelf$Flow", "addPacket", "(II)V"⟩ : MethodName).desc).map (fun d => d.parameters.length) = some 2 := by decide +kernel
set_option maxHeartbeats 4000000 in
set_option maxRecDepth 100000 in
theorem m_Flow_addPacket (X : fs_X) (l : Launch) (a0 : Nat) (x1 : Int32) (x2 : Int32) {r : Unit} {σ σF : fs_S} (h : (f_Flow_addPacket a0 x1 x2).1 σ = some (r, σF)) : fs_Met X l ⟨"FlowShelf$Flow", "addPacket", "(II)V"⟩ (Cond.code ⟨"FlowShelf$Flow", "addPacket", "(II)V"⟩ prog_5_method_3_code 3 none) 0 0 [.ref a0, .int x1, .int x2] σ (fs_eV r) σF := by
  refine fs_ofW (by decide) ?_
  intro p e s m args below meth c s₁ B hml hT hv
  obtain ⟨rfl, hw0, hG⟩ := hv
  have hx := B.exec
  have hb := B.bytes
  have hr := B.returns
  have hk := B.notSynchronized
  have S : CallFix p m c prog_5_method_3_code 3 s _ fs_ws "FlowShelf$Flow" := ⟨B.exec, B.bytes, hml, findClass_of_methodNamed B.named, fun w hw => atoms_spec (ws := _ :: fs_ws) B.pre w (List.mem_cons_of_mem _ hw)⟩
  have hR := fs_hR (fr := 0) (lo := 0) ((f_Flow_addPacket a0 x1 x2).2 _ _ _ h)
  have hl := lv_entry ([.ref a0, .int x1, .int x2]) (n := 3) (Nat.le_of_ble_eq_true rfl)
  rw [lg_entry_eq]
  generalize (lg_sl ([.ref a0, .int x1, .int x2]) ++ List.replicate (3 - (lg_sl ([.ref a0, .int x1, .int x2])).length) Slot.unset).toArray = ls at hl ⊢
  have hl : lv_has ls 3 [(0, .ref a0), (1, .int x1), (2, .int x2)] := hl
  refine (?_ : fs_J X p l e (fs_rm 0 0 σ σF) s m _ below meth c (fs_Q X below _ s (fs_eV r) σ σF) r σ σF (f_Flow_addPacket a0 x1 x2) (F0 m 0 ls [])) σ s.heap [] 0 0 h hw0 va_S.rf rfl rfl
  clear h hw0
  unfold f_Flow_addPacket
  refine fs_lift (fun _ _ _ _ => lv_aload_n hx hb d_Flow_addPacket_0 rfl (lv_at hl 0 rfl)) ?_
  refine fs_lift (fun _ _ _ _ => lv_dup hx hb d_Flow_addPacket_1 rfl) ?_
  refine fs_Jgi S hG fs_in8 rfl 4 (Nat.le_of_ble_eq_true rfl) tw_3_30 (fun _ h9 => h9) d_Flow_addPacket_2 (fun v1 => ?_)
  refine fs_lift (fun _ _ _ _ => lv_iload_n hx hb d_Flow_addPacket_5 rfl (lv_at hl 1 rfl)) ?_
  refine fs_lift (fun _ _ _ _ => lv_iadd hx hb d_Flow_addPacket_6) ?_
  refine fs_Jput S hG fs_in8 rfl 4 (Nat.le_of_ble_eq_true rfl) tw_3_30 (fun _ h9 => h9) fs_Y8 fs_ty8 fs_nm8 (Or.inl rfl) rfl rfl d_Flow_addPacket_7 ?_
  refine fs_lift (fun _ _ _ _ => lv_aload_n hx hb d_Flow_addPacket_10 rfl (lv_at hl 0 rfl)) ?_
  refine fs_lift (fun _ _ _ _ => lv_dup hx hb d_Flow_addPacket_11 rfl) ?_
  refine fs_Jgi S hG fs_in8 rfl 5 (Nat.le_of_ble_eq_true rfl) tw_3_31 (fun _ h9 => h9) d_Flow_addPacket_12 (fun v2 => ?_)
  refine fs_lift (fun _ _ _ _ => lv_iconst (v := 1) hx hb d_Flow_addPacket_15 (by decide)) ?_
  refine fs_lift (fun _ _ _ _ => lv_iadd hx hb d_Flow_addPacket_16) ?_
  refine fs_Jput S hG fs_in8 rfl 5 (Nat.le_of_ble_eq_true rfl) tw_3_31 (fun _ h9 => h9) fs_Y8 fs_ty8 fs_nm8 (Or.inl rfl) rfl rfl d_Flow_addPacket_17 ?_
  refine fs_lift (fun _ _ _ _ => lv_aload_n hx hb d_Flow_addPacket_20 rfl (lv_at hl 0 rfl)) ?_
  refine fs_lift (fun _ _ _ _ => lv_iload_n hx hb d_Flow_addPacket_21 rfl (lv_at hl 2 rfl)) ?_
  refine fs_Jput S hG fs_in8 rfl 6 (Nat.le_of_ble_eq_true rfl) tw_3_32 (fun _ h9 => h9) fs_Y8 fs_ty8 fs_nm8 (Or.inl rfl) rfl rfl d_Flow_addPacket_22 ?_
  exact fs_Jvret S hr hk rfl d_Flow_addPacket_25

theorem d_Flow_reasonToEnd_0 : decode prog_5_method_4_code 0 = .ok (.iload_n 1, 1) := by decide +kernel
theorem d_Flow_reasonToEnd_1 : decode prog_5_method_4_code 1 = .ok (.aload_n 0, 1) := by decide +kernel
theorem d_Flow_reasonToEnd_2 : decode prog_5_method_4_code 2 = .ok (.getfield 30, 3) := by decide +kernel
theorem d_Flow_reasonToEnd_5 : decode prog_5_method_4_code 5 = .ok (.isub, 1) := by decide +kernel
theorem d_Flow_reasonToEnd_6 : decode prog_5_method_4_code 6 = .ok (.bipush 15, 2) := by decide +kernel
theorem d_Flow_reasonToEnd_8 : decode prog_5_method_4_code 8 = .ok (.if_icmp .lt 5, 3) := by decide +kernel
theorem d_Flow_reasonToEnd_11 : decode prog_5_method_4_code 11 = .ok (.iconst 1, 1) := by decide +kernel
theorem d_Flow_reasonToEnd_12 : decode prog_5_method_4_code 12 = .ok (.ireturn, 1) := by decide +kernel
theorem d_Flow_reasonToEnd_13 : decode prog_5_method_4_code 13 = .ok (.iload_n 1, 1) := by decide +kernel
theorem d_Flow_reasonToEnd_14 : decode prog_5_method_4_code 14 = .ok (.aload_n 0, 1) := by decide +kernel
theorem d_Flow_reasonToEnd_15 : decode prog_5_method_4_code 15 = .ok (.getfield 21, 3) := by decide +kernel
theorem d_Flow_reasonToEnd_18 : decode prog_5_method_4_code 18 = .ok (.isub, 1) := by decide +kernel
theorem d_Flow_reasonToEnd_19 : decode prog_5_method_4_code 19 = .ok (.bipush 60, 2) := by decide +kernel
theorem d_Flow_reasonToEnd_21 : decode prog_5_method_4_code 21 = .ok (.if_icmp .lt 7, 3) := by decide +kernel
theorem d_Flow_reasonToEnd_24 : decode prog_5_method_4_code 24 = .ok (.iconst 2, 1) := by decide +kernel
theorem d_Flow_reasonToEnd_25 : decode prog_5_method_4_code 25 = .ok (.goto 4, 3) := by decide +kernel
theorem d_Flow_reasonToEnd_28 : decode prog_5_method_4_code 28 = .ok (.iconst 0, 1) := by decide +kernel
theorem d_Flow_reasonToEnd_29 : decode prog_5_method_4_code 29 = .ok (.ireturn, 1) := by decide +kernel
theorem q_Flow_reasonToEnd : (⟨"FlowShelf$Flow", "reasonToEnd", "(I)I"⟩ : MethodName).cls ≠ "java/lang/invoke/MethodHandle" ∧ (⟨"FlowShelf$Flow", "reasonToEnd", "(I)I"⟩ : MethodName).cls ≠ "java/lang/invoke/VarHandle" ∧ (parseMethodDescriptor (⟨"FlowShelf$Flow", "reasonToEnd", "(I)I"⟩ : MethodName).desc).map (fun d => d.parameters.length) = some 1 := by decide +kernel
set_option maxHeartbeats 4000000 in
set_option maxRecDepth 100000 in
theorem m_Flow_reasonToEnd (X : fs_X) (l : Launch) (a0 : Nat) (x1 : Int32) {r : Int32} {σ σF : fs_S} (h : (f_Flow_reasonToEnd a0 x1).1 σ = some (r, σF)) : fs_Met X l ⟨"FlowShelf$Flow", "reasonToEnd", "(I)I"⟩ (Cond.code ⟨"FlowShelf$Flow", "reasonToEnd", "(I)I"⟩ prog_5_method_4_code 2 (some FieldType.int)) 0 0 [.ref a0, .int x1] σ (fs_eI r) σF := by
  refine fs_ofW (by decide) ?_
  intro p e s m args below meth c s₁ B hml hT hv
  obtain ⟨rfl, hw0, hG⟩ := hv
  have hx := B.exec
  have hb := B.bytes
  have hr := B.returns
  have hk := B.notSynchronized
  have S : CallFix p m c prog_5_method_4_code 2 s _ fs_ws "FlowShelf$Flow" := ⟨B.exec, B.bytes, hml, findClass_of_methodNamed B.named, fun w hw => atoms_spec (ws := _ :: fs_ws) B.pre w (List.mem_cons_of_mem _ hw)⟩
  have hR := fs_hR (fr := 0) (lo := 0) ((f_Flow_reasonToEnd a0 x1).2 _ _ _ h)
  have hl := lv_entry ([.ref a0, .int x1]) (n := 2) (Nat.le_of_ble_eq_true rfl)
  rw [lg_entry_eq]
  generalize (lg_sl ([.ref a0, .int x1]) ++ List.replicate (2 - (lg_sl ([.ref a0, .int x1])).length) Slot.unset).toArray = ls at hl ⊢
  have hl : lv_has ls 2 [(0, .ref a0), (1, .int x1)] := hl
  refine (?_ : fs_J X p l e (fs_rm 0 0 σ σF) s m _ below meth c (fs_Q X below _ s (fs_eI r) σ σF) r σ σF (f_Flow_reasonToEnd a0 x1) (F0 m 0 ls [])) σ s.heap [] 0 0 h hw0 va_S.rf rfl rfl
  clear h hw0
  unfold f_Flow_reasonToEnd
  refine fs_lift (fun _ _ _ _ => lv_iload_n hx hb d_Flow_reasonToEnd_0 rfl (lv_at hl 1 rfl)) ?_
  refine fs_lift (fun _ _ _ _ => lv_aload_n hx hb d_Flow_reasonToEnd_1 rfl (lv_at hl 0 rfl)) ?_
  refine fs_Jgi S hG fs_in8 rfl 6 (Nat.le_of_ble_eq_true rfl) tw_3_32 (fun _ h9 => h9) d_Flow_reasonToEnd_2 (fun v1 => ?_)
  refine fs_lift (fun _ _ _ _ => lv_isub hx hb d_Flow_reasonToEnd_5) ?_
  refine fs_lift (fun _ _ _ _ => lv_bipush (v := 15) hx hb d_Flow_reasonToEnd_6 (by decide)) ?_
  refine fs_if (fun _ _ _ _ => lv_icmp_lt hx hb d_Flow_reasonToEnd_8 rfl) ?_ ?_
  · refine fs_lift (fun _ _ _ _ => lv_iload_n hx hb d_Flow_reasonToEnd_13 rfl (lv_at hl 1 rfl)) ?_
    refine fs_lift (fun _ _ _ _ => lv_aload_n hx hb d_Flow_reasonToEnd_14 rfl (lv_at hl 0 rfl)) ?_
    refine fs_Jgi S hG fs_in8 rfl 3 (Nat.le_of_ble_eq_true rfl) tw_3_29 (fun _ h9 => h9) d_Flow_reasonToEnd_15 (fun v2 => ?_)
    refine fs_lift (fun _ _ _ _ => lv_isub hx hb d_Flow_reasonToEnd_18) ?_
    refine fs_lift (fun _ _ _ _ => lv_bipush (v := 60) hx hb d_Flow_reasonToEnd_19 (by decide)) ?_
    refine fs_if (fun _ _ _ _ => lv_icmp_lt hx hb d_Flow_reasonToEnd_21 rfl) ?_ ?_
    · refine fs_lift (fun _ _ _ _ => lv_iconst (v := 0) hx hb d_Flow_reasonToEnd_28 (by decide)) ?_
      exact fs_Jiret S hr hk rfl d_Flow_reasonToEnd_29
    · refine fs_lift (fun _ _ _ _ => lv_iconst (v := 2) hx hb d_Flow_reasonToEnd_24 (by decide)) ?_
      refine fs_lift (fun _ _ _ _ => lv_goto hx hb d_Flow_reasonToEnd_25 rfl) ?_
      exact fs_Jiret S hr hk rfl d_Flow_reasonToEnd_29
  · refine fs_lift (fun _ _ _ _ => lv_iconst (v := 1) hx hb d_Flow_reasonToEnd_11 (by decide)) ?_
    exact fs_Jiret S hr hk rfl d_Flow_reasonToEnd_12

theorem d_Flow_valueOf_0 : decode prog_5_method_5_code 0 = .ok (.iload_n 1, 1) := by decide +kernel
theorem d_Flow_valueOf_1 : decode prog_5_method_5_code 1 = .ok (.tableswitch 78 0 6 #[43, 48, 53, 58, 63, 68, 73], 43) := by decide +kernel
theorem d_Flow_valueOf_44 : decode prog_5_method_5_code 44 = .ok (.aload_n 0, 1) := by decide +kernel
theorem d_Flow_valueOf_45 : decode prog_5_method_5_code 45 = .ok (.getfield 9, 3) := by decide +kernel
theorem d_Flow_valueOf_48 : decode prog_5_method_5_code 48 = .ok (.ireturn, 1) := by decide +kernel
theorem d_Flow_valueOf_49 : decode prog_5_method_5_code 49 = .ok (.aload_n 0, 1) := by decide +kernel
theorem d_Flow_valueOf_50 : decode prog_5_method_5_code 50 = .ok (.getfield 15, 3) := by decide +kernel
theorem d_Flow_valueOf_53 : decode prog_5_method_5_code 53 = .ok (.ireturn, 1) := by decide +kernel
theorem d_Flow_valueOf_54 : decode prog_5_method_5_code 54 = .ok (.aload_n 0, 1) := by decide +kernel
theorem d_Flow_valueOf_55 : decode prog_5_method_5_code 55 = .ok (.getfield 18, 3) := by decide +kernel
theorem d_Flow_valueOf_58 : decode prog_5_method_5_code 58 = .ok (.ireturn, 1) := by decide +kernel
theorem d_Flow_valueOf_59 : decode prog_5_method_5_code 59 = .ok (.aload_n 0, 1) := by decide +kernel
theorem d_Flow_valueOf_60 : decode prog_5_method_5_code 60 = .ok (.getfield 24, 3) := by decide +kernel
theorem d_Flow_valueOf_63 : decode prog_5_method_5_code 63 = .ok (.ireturn, 1) := by decide +kernel
theorem d_Flow_valueOf_64 : decode prog_5_method_5_code 64 = .ok (.aload_n 0, 1) := by decide +kernel
theorem d_Flow_valueOf_65 : decode prog_5_method_5_code 65 = .ok (.getfield 27, 3) := by decide +kernel
theorem d_Flow_valueOf_68 : decode prog_5_method_5_code 68 = .ok (.ireturn, 1) := by decide +kernel
theorem d_Flow_valueOf_69 : decode prog_5_method_5_code 69 = .ok (.aload_n 0, 1) := by decide +kernel
theorem d_Flow_valueOf_70 : decode prog_5_method_5_code 70 = .ok (.getfield 21, 3) := by decide +kernel
theorem d_Flow_valueOf_73 : decode prog_5_method_5_code 73 = .ok (.ireturn, 1) := by decide +kernel
theorem d_Flow_valueOf_74 : decode prog_5_method_5_code 74 = .ok (.aload_n 0, 1) := by decide +kernel
theorem d_Flow_valueOf_75 : decode prog_5_method_5_code 75 = .ok (.getfield 33, 3) := by decide +kernel
theorem d_Flow_valueOf_78 : decode prog_5_method_5_code 78 = .ok (.ireturn, 1) := by decide +kernel
theorem d_Flow_valueOf_79 : decode prog_5_method_5_code 79 = .ok (.aload_n 0, 1) := by decide +kernel
theorem d_Flow_valueOf_80 : decode prog_5_method_5_code 80 = .ok (.getfield 36, 3) := by decide +kernel
theorem d_Flow_valueOf_83 : decode prog_5_method_5_code 83 = .ok (.ireturn, 1) := by decide +kernel
theorem q_Flow_valueOf : (⟨"FlowShelf$Flow", "valueOf", "(I)I"⟩ : MethodName).cls ≠ "java/lang/invoke/MethodHandle" ∧ (⟨"FlowShelf$Flow", "valueOf", "(I)I"⟩ : MethodName).cls ≠ "java/lang/invoke/VarHandle" ∧ (parseMethodDescriptor (⟨"FlowShelf$Flow", "valueOf", "(I)I"⟩ : MethodName).desc).map (fun d => d.parameters.length) = some 1 := by decide +kernel
set_option maxHeartbeats 4000000 in
set_option maxRecDepth 100000 in
theorem m_Flow_valueOf (X : fs_X) (l : Launch) (a0 : Nat) (x1 : Int32) {r : Int32} {σ σF : fs_S} (h : (f_Flow_valueOf a0 x1).1 σ = some (r, σF)) : fs_Met X l ⟨"FlowShelf$Flow", "valueOf", "(I)I"⟩ (Cond.code ⟨"FlowShelf$Flow", "valueOf", "(I)I"⟩ prog_5_method_5_code 2 (some FieldType.int)) 0 0 [.ref a0, .int x1] σ (fs_eI r) σF := by
  refine fs_ofW (by decide) ?_
  intro p e s m args below meth c s₁ B hml hT hv
  obtain ⟨rfl, hw0, hG⟩ := hv
  have hx := B.exec
  have hb := B.bytes
  have hr := B.returns
  have hk := B.notSynchronized
  have S : CallFix p m c prog_5_method_5_code 2 s _ fs_ws "FlowShelf$Flow" := ⟨B.exec, B.bytes, hml, findClass_of_methodNamed B.named, fun w hw => atoms_spec (ws := _ :: fs_ws) B.pre w (List.mem_cons_of_mem _ hw)⟩
  have hR := fs_hR (fr := 0) (lo := 0) ((f_Flow_valueOf a0 x1).2 _ _ _ h)
  have hl := lv_entry ([.ref a0, .int x1]) (n := 2) (Nat.le_of_ble_eq_true rfl)
  rw [lg_entry_eq]
  generalize (lg_sl ([.ref a0, .int x1]) ++ List.replicate (2 - (lg_sl ([.ref a0, .int x1])).length) Slot.unset).toArray = ls at hl ⊢
  have hl : lv_has ls 2 [(0, .ref a0), (1, .int x1)] := hl
  refine (?_ : fs_J X p l e (fs_rm 0 0 σ σF) s m _ below meth c (fs_Q X below _ s (fs_eI r) σ σF) r σ σF (f_Flow_valueOf a0 x1) (F0 m 0 ls [])) σ s.heap [] 0 0 h hw0 va_S.rf rfl rfl
  clear h hw0
  unfold f_Flow_valueOf
  refine fs_lift (fun _ _ _ _ => lv_iload_n hx hb d_Flow_valueOf_0 rfl (lv_at hl 1 rfl)) ?_
  refine fs_sw (fun q9 => ?_) (fun q100 => ?_)
  · refine fs_lift (fun _ _ _ _ => lv_tableIn (off := 43) (tgt := 44) hx hb d_Flow_valueOf_1 (by rw [q9]; decide) (by rw [q9]; decide) (by rw [q9]; rfl) rfl) ?_
    refine fs_lift (fun _ _ _ _ => lv_aload_n hx hb d_Flow_valueOf_44 rfl (lv_at hl 0 rfl)) ?_
    refine fs_Jgi S hG fs_in8 rfl 0 (Nat.le_of_ble_eq_true rfl) tw_3_26 (fun _ h9 => h9) d_Flow_valueOf_45 (fun v1 => ?_)
    exact fs_Jiret S hr hk rfl d_Flow_valueOf_48
  refine fs_sw (fun q9 => ?_) (fun q101 => ?_)
  · refine fs_lift (fun _ _ _ _ => lv_tableIn (off := 48) (tgt := 49) hx hb d_Flow_valueOf_1 (by rw [q9]; decide) (by rw [q9]; decide) (by rw [q9]; rfl) rfl) ?_
    refine fs_lift (fun _ _ _ _ => lv_aload_n hx hb d_Flow_valueOf_49 rfl (lv_at hl 0 rfl)) ?_
    refine fs_Jgi S hG fs_in8 rfl 1 (Nat.le_of_ble_eq_true rfl) tw_3_27 (fun _ h9 => h9) d_Flow_valueOf_50 (fun v2 => ?_)
    exact fs_Jiret S hr hk rfl d_Flow_valueOf_53
  refine fs_sw (fun q9 => ?_) (fun q102 => ?_)
  · refine fs_lift (fun _ _ _ _ => lv_tableIn (off := 53) (tgt := 54) hx hb d_Flow_valueOf_1 (by rw [q9]; decide) (by rw [q9]; decide) (by rw [q9]; rfl) rfl) ?_
    refine fs_lift (fun _ _ _ _ => lv_aload_n hx hb d_Flow_valueOf_54 rfl (lv_at hl 0 rfl)) ?_
    refine fs_Jgi S hG fs_in8 rfl 2 (Nat.le_of_ble_eq_true rfl) tw_3_28 (fun _ h9 => h9) d_Flow_valueOf_55 (fun v3 => ?_)
    exact fs_Jiret S hr hk rfl d_Flow_valueOf_58
  refine fs_sw (fun q9 => ?_) (fun q103 => ?_)
  · refine fs_lift (fun _ _ _ _ => lv_tableIn (off := 58) (tgt := 59) hx hb d_Flow_valueOf_1 (by rw [q9]; decide) (by rw [q9]; decide) (by rw [q9]; rfl) rfl) ?_
    refine fs_lift (fun _ _ _ _ => lv_aload_n hx hb d_Flow_valueOf_59 rfl (lv_at hl 0 rfl)) ?_
    refine fs_Jgi S hG fs_in8 rfl 4 (Nat.le_of_ble_eq_true rfl) tw_3_30 (fun _ h9 => h9) d_Flow_valueOf_60 (fun v4 => ?_)
    exact fs_Jiret S hr hk rfl d_Flow_valueOf_63
  refine fs_sw (fun q9 => ?_) (fun q104 => ?_)
  · refine fs_lift (fun _ _ _ _ => lv_tableIn (off := 63) (tgt := 64) hx hb d_Flow_valueOf_1 (by rw [q9]; decide) (by rw [q9]; decide) (by rw [q9]; rfl) rfl) ?_
    refine fs_lift (fun _ _ _ _ => lv_aload_n hx hb d_Flow_valueOf_64 rfl (lv_at hl 0 rfl)) ?_
    refine fs_Jgi S hG fs_in8 rfl 5 (Nat.le_of_ble_eq_true rfl) tw_3_31 (fun _ h9 => h9) d_Flow_valueOf_65 (fun v5 => ?_)
    exact fs_Jiret S hr hk rfl d_Flow_valueOf_68
  refine fs_sw (fun q9 => ?_) (fun q105 => ?_)
  · refine fs_lift (fun _ _ _ _ => lv_tableIn (off := 68) (tgt := 69) hx hb d_Flow_valueOf_1 (by rw [q9]; decide) (by rw [q9]; decide) (by rw [q9]; rfl) rfl) ?_
    refine fs_lift (fun _ _ _ _ => lv_aload_n hx hb d_Flow_valueOf_69 rfl (lv_at hl 0 rfl)) ?_
    refine fs_Jgi S hG fs_in8 rfl 3 (Nat.le_of_ble_eq_true rfl) tw_3_29 (fun _ h9 => h9) d_Flow_valueOf_70 (fun v6 => ?_)
    exact fs_Jiret S hr hk rfl d_Flow_valueOf_73
  refine fs_sw (fun q9 => ?_) (fun q106 => ?_)
  · refine fs_lift (fun _ _ _ _ => lv_tableIn (off := 73) (tgt := 74) hx hb d_Flow_valueOf_1 (by rw [q9]; decide) (by rw [q9]; decide) (by rw [q9]; rfl) rfl) ?_
    refine fs_lift (fun _ _ _ _ => lv_aload_n hx hb d_Flow_valueOf_74 rfl (lv_at hl 0 rfl)) ?_
    refine fs_Jgi S hG fs_in8 rfl 7 (Nat.le_of_ble_eq_true rfl) tw_3_34 (fun _ h9 => h9) d_Flow_valueOf_75 (fun v7 => ?_)
    exact fs_Jiret S hr hk rfl d_Flow_valueOf_78
  refine fs_lift (fun _ _ _ _ => lv_tableOut (tgt := 79) hx hb d_Flow_valueOf_1 (fs_tout 6 (fun k hk => match k, hk with | 0, _ => q100 | 1, _ => q101 | 2, _ => q102 | 3, _ => q103 | 4, _ => q104 | 5, _ => q105 | 6, _ => q106 | n + 7, h => absurd h (by omega)) (by decide)) rfl) ?_
  refine fs_lift (fun _ _ _ _ => lv_aload_n hx hb d_Flow_valueOf_79 rfl (lv_at hl 0 rfl)) ?_
  refine fs_Jgi S hG fs_in8 rfl 8 (Nat.le_of_ble_eq_true rfl) tw_3_36 (fun _ h9 => h9) d_Flow_valueOf_80 (fun v8 => ?_)
  exact fs_Jiret S hr hk rfl d_Flow_valueOf_83
