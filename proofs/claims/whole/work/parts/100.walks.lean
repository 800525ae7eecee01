/-! contracts of methods, walked by program -/
theorem d_AbstractCollection_init_0 : decode prog_27_method_1_code 0 = .ok (.aload_n 0, 1) := by decide +kernel
theorem d_AbstractCollection_init_1 : decode prog_27_method_1_code 1 = .ok (.invokespecial 1, 3) := by decide +kernel
theorem d_AbstractCollection_init_4 : decode prog_27_method_1_code 4 = .ok (.return_, 1) := by decide +kernel
theorem q_AbstractCollection_init : (⟨"java/util/AbstractCollection", "<init>", "()V"⟩ : MethodName).cls ≠ "java/lang/invoke/MethodHandle" ∧ (⟨"java/util/AbstractCollection", "<init>", "()V"⟩ : MethodName).cls ≠ "java/lang/invoke/VarHandle" ∧ (parseMethodDescriptor (⟨"java/util/AbstractCollection", "<init>", "()V"⟩ : MethodName).desc).map (fun d => d.parameters.length) = some 0 := by decide +kernel
set_option maxHeartbeats 4000000 in
set_option maxRecDepth 100000 in
theorem m_AbstractCollection_init (X : fs_X) (l : Launch) (a0 : Nat) {r : Unit} {σ σF : fs_S} (h : (f_AbstractCollection_init a0).1 σ = some (r, σF)) : fs_Met X l ⟨"java/util/AbstractCollection", "<init>", "()V"⟩ (Cond.code ⟨"java/util/AbstractCollection", "<init>", "()V"⟩ prog_27_method_1_code 1 none) 1 12 [.ref a0] σ (fs_eV r) σF := by
  refine fs_ofW (by decide) ?_
  intro p e s m args below meth c s₁ B hml hT hv
  obtain ⟨rfl, hw0, hG⟩ := hv
  have hx := B.exec
  have hb := B.bytes
  have hr := B.returns
  have hk := B.notSynchronized
  have hin : meth.name = "<init>" := (name_of_methodNamed B.named B.method).1
  have S : CallFix p m c prog_27_method_1_code 1 s _ fs_ws "java/util/AbstractCollection" := ⟨B.exec, B.bytes, hml, findClass_of_methodNamed B.named, fun w hw => atoms_spec (ws := _ :: fs_ws) B.pre w (List.mem_cons_of_mem _ hw)⟩
  have hR := fs_hR (fr := 1) (lo := 12) ((f_AbstractCollection_init a0).2 _ _ _ h)
  have hl := lv_entry ([.ref a0]) (n := 1) (Nat.le_of_ble_eq_true rfl)
  rw [lg_entry_eq]
  generalize (lg_sl ([.ref a0]) ++ List.replicate (1 - (lg_sl ([.ref a0])).length) Slot.unset).toArray = ls at hl ⊢
  have hl : lv_has ls 1 [(0, .ref a0)] := hl
  refine (?_ : fs_J X p l e (fs_rm 1 12 σ σF) s m _ below meth c (fs_Q X below _ s (fs_eV r) σ σF) r σ σF (f_AbstractCollection_init a0) (F0 m 0 ls [])) σ s.heap [] 0 0 h hw0 va_S.rf rfl rfl
  clear h hw0
  unfold f_AbstractCollection_init
  refine fs_lift (fun _ _ _ _ => lv_aload_n hx hb d_AbstractCollection_init_0 rfl (lv_at hl 0 rfl)) ?_
  refine fs_JO S tw_1_54 tw_1_35 tw_1_36 hl.1 (Nat.le_of_ble_eq_true rfl) (Nat.le_of_ble_eq_true rfl) d_AbstractCollection_init_1 ?_
  refine fs_Jeq (g2 := F0 m 4 ls []) rfl ?_
  exact fs_Jvret S hr hk rfl d_AbstractCollection_init_4

theorem d_AbstractList_init_0 : decode prog_28_method_1_code 0 = .ok (.aload_n 0, 1) := by decide +kernel
theorem d_AbstractList_init_1 : decode prog_28_method_1_code 1 = .ok (.invokespecial 1, 3) := by decide +kernel
theorem d_AbstractList_init_4 : decode prog_28_method_1_code 4 = .ok (.aload_n 0, 1) := by decide +kernel
theorem d_AbstractList_init_5 : decode prog_28_method_1_code 5 = .ok (.iconst 0, 1) := by decide +kernel
theorem d_AbstractList_init_6 : decode prog_28_method_1_code 6 = .ok (.putfield 7, 3) := by decide +kernel
theorem d_AbstractList_init_9 : decode prog_28_method_1_code 9 = .ok (.return_, 1) := by decide +kernel
theorem q_AbstractList_init : (⟨"java/util/AbstractList", "<init>", "()V"⟩ : MethodName).cls ≠ "java/lang/invoke/MethodHandle" ∧ (⟨"java/util/AbstractList", "<init>", "()V"⟩ : MethodName).cls ≠ "java/lang/invoke/VarHandle" ∧ (parseMethodDescriptor (⟨"java/util/AbstractList", "<init>", "()V"⟩ : MethodName).desc).map (fun d => d.parameters.length) = some 0 := by decide +kernel
set_option maxHeartbeats 4000000 in
set_option maxRecDepth 100000 in
theorem m_AbstractList_init (X : fs_X) (l : Launch) (a0 : Nat) {r : Unit} {σ σF : fs_S} (h : (f_AbstractList_init a0).1 σ = some (r, σF)) : fs_Met X l ⟨"java/util/AbstractList", "<init>", "()V"⟩ (Cond.code ⟨"java/util/AbstractList", "<init>", "()V"⟩ prog_28_method_1_code 1 none) 2 32 [.ref a0] σ (fs_eV r) σF := by
  refine fs_ofW (by decide) ?_
  intro p e s m args below meth c s₁ B hml hT hv
  obtain ⟨rfl, hw0, hG⟩ := hv
  have hx := B.exec
  have hb := B.bytes
  have hr := B.returns
  have hk := B.notSynchronized
  have hin : meth.name = "<init>" := (name_of_methodNamed B.named B.method).1
  have S : CallFix p m c prog_28_method_1_code 1 s _ fs_ws "java/util/AbstractList" := ⟨B.exec, B.bytes, hml, findClass_of_methodNamed B.named, fun w hw => atoms_spec (ws := _ :: fs_ws) B.pre w (List.mem_cons_of_mem _ hw)⟩
  have hR := fs_hR (fr := 2) (lo := 32) ((f_AbstractList_init a0).2 _ _ _ h)
  have hl := lv_entry ([.ref a0]) (n := 1) (Nat.le_of_ble_eq_true rfl)
  rw [lg_entry_eq]
  generalize (lg_sl ([.ref a0]) ++ List.replicate (1 - (lg_sl ([.ref a0])).length) Slot.unset).toArray = ls at hl ⊢
  have hl : lv_has ls 1 [(0, .ref a0)] := hl
  refine (?_ : fs_J X p l e (fs_rm 2 32 σ σF) s m _ below meth c (fs_Q X below _ s (fs_eV r) σ σF) r σ σF (f_AbstractList_init a0) (F0 m 0 ls [])) σ s.heap [] 0 0 h hw0 va_S.rf rfl rfl
  clear h hw0
  unfold f_AbstractList_init
  refine fs_lift (fun _ _ _ _ => lv_aload_n hx hb d_AbstractList_init_0 rfl (lv_at hl 0 rfl)) ?_
  refine fs_JI S hG hR [] (fun zr zs zt zh => m_AbstractCollection_init X l a0 zh) tw_1_51 tw_1_52 tw_1_53 tw_1_3 rfl q_AbstractCollection_init ⟨(Nat.le_of_ble_eq_true rfl), (Nat.le_of_ble_eq_true rfl)⟩ hl.1 rfl (Nat.le_of_ble_eq_true rfl) d_AbstractList_init_1 ?_
  refine fs_Jeq (g2 := F0 m 4 ls []) rfl ?_
  refine fs_lift (fun _ _ _ _ => lv_aload_n hx hb d_AbstractList_init_4 rfl (lv_at hl 0 rfl)) ?_
  refine fs_lift (fun _ _ _ _ => lv_iconst (v := 0) hx hb d_AbstractList_init_5 (by decide)) ?_
  refine fs_Jput S hG fs_in2 rfl 2 (Nat.le_of_ble_eq_true rfl) tw_1_59 (fun _ h9 => h9) fs_Y2 fs_ty2 fs_nm2 (Or.inl rfl) rfl rfl d_AbstractList_init_6 ?_
  exact fs_Jvret S hr hk rfl d_AbstractList_init_9

theorem d_ArrayList_init_0 : decode prog_29_method_2_code 0 = .ok (.aload_n 0, 1) := by decide +kernel
theorem d_ArrayList_init_1 : decode prog_29_method_2_code 1 = .ok (.invokespecial 1, 3) := by decide +kernel
theorem d_ArrayList_init_4 : decode prog_29_method_2_code 4 = .ok (.aload_n 0, 1) := by decide +kernel
theorem d_ArrayList_init_5 : decode prog_29_method_2_code 5 = .ok (.getstatic 39, 3) := by decide +kernel
theorem d_ArrayList_init_8 : decode prog_29_method_2_code 8 = .ok (.putfield 9, 3) := by decide +kernel
theorem d_ArrayList_init_11 : decode prog_29_method_2_code 11 = .ok (.return_, 1) := by decide +kernel
theorem q_ArrayList_init : (⟨"java/util/ArrayList", "<init>", "()V"⟩ : MethodName).cls ≠ "java/lang/invoke/MethodHandle" ∧ (⟨"java/util/ArrayList", "<init>", "()V"⟩ : MethodName).cls ≠ "java/lang/invoke/VarHandle" ∧ (parseMethodDescriptor (⟨"java/util/ArrayList", "<init>", "()V"⟩ : MethodName).desc).map (fun d => d.parameters.length) = some 0 := by decide +kernel
set_option maxHeartbeats 4000000 in
set_option maxRecDepth 100000 in
theorem m_ArrayList_init (X : fs_X) (l : Launch) (a0 : Nat) {r : Unit} {σ σF : fs_S} (h : (f_ArrayList_init a0).1 σ = some (r, σF)) : fs_Met X l ⟨"java/util/ArrayList", "<init>", "()V"⟩ (Cond.code ⟨"java/util/ArrayList", "<init>", "()V"⟩ prog_29_method_2_code 1 none) 3 52 [.ref a0] σ (fs_eV r) σF := by
  refine fs_ofW (by decide) ?_
  intro p e s m args below meth c s₁ B hml hT hv
  obtain ⟨rfl, hw0, hG⟩ := hv
  have hx := B.exec
  have hb := B.bytes
  have hr := B.returns
  have hk := B.notSynchronized
  have hin : meth.name = "<init>" := (name_of_methodNamed B.named B.method).1
  have S : CallFix p m c prog_29_method_2_code 1 s _ fs_ws "java/util/ArrayList" := ⟨B.exec, B.bytes, hml, findClass_of_methodNamed B.named, fun w hw => atoms_spec (ws := _ :: fs_ws) B.pre w (List.mem_cons_of_mem _ hw)⟩
  have hR := fs_hR (fr := 3) (lo := 52) ((f_ArrayList_init a0).2 _ _ _ h)
  have hl := lv_entry ([.ref a0]) (n := 1) (Nat.le_of_ble_eq_true rfl)
  rw [lg_entry_eq]
  generalize (lg_sl ([.ref a0]) ++ List.replicate (1 - (lg_sl ([.ref a0])).length) Slot.unset).toArray = ls at hl ⊢
  have hl : lv_has ls 1 [(0, .ref a0)] := hl
  refine (?_ : fs_J X p l e (fs_rm 3 52 σ σF) s m _ below meth c (fs_Q X below _ s (fs_eV r) σ σF) r σ σF (f_ArrayList_init a0) (F0 m 0 ls [])) σ s.heap [] 0 0 h hw0 va_S.rf rfl rfl
  clear h hw0
  unfold f_ArrayList_init
  refine fs_lift (fun _ _ _ _ => lv_aload_n hx hb d_ArrayList_init_0 rfl (lv_at hl 0 rfl)) ?_
  refine fs_JI S hG hR [] (fun zr zs zt zh => m_AbstractList_init X l a0 zh) tw_1_48 tw_1_49 tw_1_50 tw_1_4 rfl q_AbstractList_init ⟨(Nat.le_of_ble_eq_true rfl), (Nat.le_of_ble_eq_true rfl)⟩ hl.1 rfl (Nat.le_of_ble_eq_true rfl) d_ArrayList_init_1 ?_
  refine fs_Jeq (g2 := F0 m 4 ls []) rfl ?_
  refine fs_lift (fun _ _ _ _ => lv_aload_n hx hb d_ArrayList_init_4 rfl (lv_at hl 0 rfl)) ?_
  refine fs_Jgs1 S hG tw_1_55 d_ArrayList_init_5 (fun r1 => ?_)
  refine fs_Jput S hG fs_in2 rfl 0 (Nat.le_of_ble_eq_true rfl) tw_1_57 (fun _ h9 => h9) fs_Y2 fs_ty2 fs_nm2 (Or.inl rfl) rfl rfl d_ArrayList_init_8 ?_
  exact fs_Jvret S hr hk rfl d_ArrayList_init_11

theorem d_Layout_init_0 : decode prog_6_method_1_code 0 = .ok (.aload_n 0, 1) := by decide +kernel
theorem d_Layout_init_1 : decode prog_6_method_1_code 1 = .ok (.invokespecial 3, 3) := by decide +kernel
theorem d_Layout_init_4 : decode prog_6_method_1_code 4 = .ok (.aload_n 0, 1) := by decide +kernel
theorem d_Layout_init_5 : decode prog_6_method_1_code 5 = .ok (.bipush 8, 2) := by decide +kernel
theorem d_Layout_init_7 : decode prog_6_method_1_code 7 = .ok (.newarray .int, 2) := by decide +kernel
theorem d_Layout_init_9 : decode prog_6_method_1_code 9 = .ok (.putfield 9, 3) := by decide +kernel
theorem d_Layout_init_12 : decode prog_6_method_1_code 12 = .ok (.aload_n 0, 1) := by decide +kernel
theorem d_Layout_init_13 : decode prog_6_method_1_code 13 = .ok (.bipush 8, 2) := by decide +kernel
theorem d_Layout_init_15 : decode prog_6_method_1_code 15 = .ok (.newarray .int, 2) := by decide +kernel
theorem d_Layout_init_17 : decode prog_6_method_1_code 17 = .ok (.putfield 15, 3) := by decide +kernel
theorem d_Layout_init_20 : decode prog_6_method_1_code 20 = .ok (.return_, 1) := by decide +kernel
theorem q_Layout_init : (⟨"FlowShelf$Layout", "<init>", "()V"⟩ : MethodName).cls ≠ "java/lang/invoke/MethodHandle" ∧ (⟨"FlowShelf$Layout", "<init>", "()V"⟩ : MethodName).cls ≠ "java/lang/invoke/VarHandle" ∧ (parseMethodDescriptor (⟨"FlowShelf$Layout", "<init>", "()V"⟩ : MethodName).desc).map (fun d => d.parameters.length) = some 0 := by decide +kernel
set_option maxHeartbeats 4000000 in
set_option maxRecDepth 100000 in
theorem m_Layout_init (X : fs_X) (l : Launch) (a0 : Nat) {r : Unit} {σ σF : fs_S} (h : (f_Layout_init a0).1 σ = some (r, σF)) : fs_Met X l ⟨"FlowShelf$Layout", "<init>", "()V"⟩ (Cond.code ⟨"FlowShelf$Layout", "<init>", "()V"⟩ prog_6_method_1_code 1 none) 1 12 [.ref a0] σ (fs_eV r) σF := by
  refine fs_ofW (by decide) ?_
  intro p e s m args below meth c s₁ B hml hT hv
  obtain ⟨rfl, hw0, hG⟩ := hv
  have hx := B.exec
  have hb := B.bytes
  have hr := B.returns
  have hk := B.notSynchronized
  have hin : meth.name = "<init>" := (name_of_methodNamed B.named B.method).1
  have S : CallFix p m c prog_6_method_1_code 1 s _ fs_ws "FlowShelf$Layout" := ⟨B.exec, B.bytes, hml, findClass_of_methodNamed B.named, fun w hw => atoms_spec (ws := _ :: fs_ws) B.pre w (List.mem_cons_of_mem _ hw)⟩
  have hR := fs_hR (fr := 1) (lo := 12) ((f_Layout_init a0).2 _ _ _ h)
  have hl := lv_entry ([.ref a0]) (n := 1) (Nat.le_of_ble_eq_true rfl)
  rw [lg_entry_eq]
  generalize (lg_sl ([.ref a0]) ++ List.replicate (1 - (lg_sl ([.ref a0])).length) Slot.unset).toArray = ls at hl ⊢
  have hl : lv_has ls 1 [(0, .ref a0)] := hl
  refine (?_ : fs_J X p l e (fs_rm 1 12 σ σF) s m _ below meth c (fs_Q X below _ s (fs_eV r) σ σF) r σ σF (f_Layout_init a0) (F0 m 0 ls [])) σ s.heap [] 0 0 h hw0 va_S.rf rfl rfl
  clear h hw0
  unfold f_Layout_init
  refine fs_lift (fun _ _ _ _ => lv_aload_n hx hb d_Layout_init_0 rfl (lv_at hl 0 rfl)) ?_
  refine fs_JO S tw_1_81 tw_1_35 tw_1_36 hl.1 (Nat.le_of_ble_eq_true rfl) (Nat.le_of_ble_eq_true rfl) d_Layout_init_1 ?_
  refine fs_Jeq (g2 := F0 m 4 ls []) rfl ?_
  refine fs_lift (fun _ _ _ _ => lv_aload_n hx hb d_Layout_init_4 rfl (lv_at hl 0 rfl)) ?_
  refine fs_lift (fun _ _ _ _ => lv_bipush (v := 8) hx hb d_Layout_init_5 (by decide)) ?_
  refine fs_Jwi S hG hR rfl tw_1_97 d_Layout_init_7 (fun r1 => ?_)
  refine fs_Jput S hG fs_in4 rfl 0 (Nat.le_of_ble_eq_true rfl) tw_1_82 (fun _ h9 => h9) fs_Y4 fs_ty4 fs_nm4 (Or.inr ⟨rfl, hin, rfl⟩) rfl rfl d_Layout_init_9 ?_
  refine fs_lift (fun _ _ _ _ => lv_aload_n hx hb d_Layout_init_12 rfl (lv_at hl 0 rfl)) ?_
  refine fs_lift (fun _ _ _ _ => lv_bipush (v := 8) hx hb d_Layout_init_13 (by decide)) ?_
  refine fs_Jwi S hG hR rfl tw_1_97 d_Layout_init_15 (fun r2 => ?_)
  refine fs_Jput S hG fs_in4 rfl 1 (Nat.le_of_ble_eq_true rfl) tw_1_84 (fun _ h9 => h9) fs_Y4 fs_ty4 fs_nm4 (Or.inr ⟨rfl, hin, rfl⟩) rfl rfl d_Layout_init_17 ?_
  exact fs_Jvret S hr hk rfl d_Layout_init_20

theorem d_Slot_init_0 : decode prog_10_method_1_code 0 = .ok (.aload_n 0, 1) := by decide +kernel
theorem d_Slot_init_1 : decode prog_10_method_1_code 1 = .ok (.invokespecial 1, 3) := by decide +kernel
theorem d_Slot_init_4 : decode prog_10_method_1_code 4 = .ok (.aload_n 0, 1) := by decide +kernel
theorem d_Slot_init_5 : decode prog_10_method_1_code 5 = .ok (.new 7, 3) := by decide +kernel
theorem d_Slot_init_8 : decode prog_10_method_1_code 8 = .ok (.dup, 1) := by decide +kernel
theorem d_Slot_init_9 : decode prog_10_method_1_code 9 = .ok (.invokespecial 9, 3) := by decide +kernel
theorem d_Slot_init_12 : decode prog_10_method_1_code 12 = .ok (.putfield 10, 3) := by decide +kernel
theorem d_Slot_init_15 : decode prog_10_method_1_code 15 = .ok (.aload_n 0, 1) := by decide +kernel
theorem d_Slot_init_16 : decode prog_10_method_1_code 16 = .ok (.new 7, 3) := by decide +kernel
theorem d_Slot_init_19 : decode prog_10_method_1_code 19 = .ok (.dup, 1) := by decide +kernel
theorem d_Slot_init_20 : decode prog_10_method_1_code 20 = .ok (.invokespecial 9, 3) := by decide +kernel
theorem d_Slot_init_23 : decode prog_10_method_1_code 23 = .ok (.putfield 16, 3) := by decide +kernel
theorem d_Slot_init_26 : decode prog_10_method_1_code 26 = .ok (.aload_n 0, 1) := by decide +kernel
theorem d_Slot_init_27 : decode prog_10_method_1_code 27 = .ok (.iload_n 1, 1) := by decide +kernel
theorem d_Slot_init_28 : decode prog_10_method_1_code 28 = .ok (.putfield 19, 3) := by decide +kernel
theorem d_Slot_init_31 : decode prog_10_method_1_code 31 = .ok (.return_, 1) := by decide +kernel
theorem q_Slot_init : (⟨"FlowShelf$Slot", "<init>", "(I)V"⟩ : MethodName).cls ≠ "java/lang/invoke/MethodHandle" ∧ (⟨"FlowShelf$Slot", "<init>", "(I)V"⟩ : MethodName).cls ≠ "java/lang/invoke/VarHandle" ∧ (parseMethodDescriptor (⟨"FlowShelf$Slot", "<init>", "(I)V"⟩ : MethodName).desc).map (fun d => d.parameters.length) = some 1 := by decide +kernel
set_option maxHeartbeats 4000000 in
set_option maxRecDepth 100000 in
theorem m_Slot_init (X : fs_X) (l : Launch) (a0 : Nat) (x1 : Int32) {r : Unit} {σ σF : fs_S} (h : (f_Slot_init a0 x1).1 σ = some (r, σF)) : fs_Met X l ⟨"FlowShelf$Slot", "<init>", "(I)V"⟩ (Cond.code ⟨"FlowShelf$Slot", "<init>", "(I)V"⟩ prog_10_method_1_code 2 none) 2 32 [.ref a0, .int x1] σ (fs_eV r) σF := by
  refine fs_ofW (by decide) ?_
  intro p e s m args below meth c s₁ B hml hT hv
  obtain ⟨rfl, hw0, hG⟩ := hv
  have hx := B.exec
  have hb := B.bytes
  have hr := B.returns
  have hk := B.notSynchronized
  have hin : meth.name = "<init>" := (name_of_methodNamed B.named B.method).1
  have S : CallFix p m c prog_10_method_1_code 2 s _ fs_ws "FlowShelf$Slot" := ⟨B.exec, B.bytes, hml, findClass_of_methodNamed B.named, fun w hw => atoms_spec (ws := _ :: fs_ws) B.pre w (List.mem_cons_of_mem _ hw)⟩
  have hR := fs_hR (fr := 2) (lo := 32) ((f_Slot_init a0 x1).2 _ _ _ h)
  have hl := lv_entry ([.ref a0, .int x1]) (n := 2) (Nat.le_of_ble_eq_true rfl)
  rw [lg_entry_eq]
  generalize (lg_sl ([.ref a0, .int x1]) ++ List.replicate (2 - (lg_sl ([.ref a0, .int x1])).length) Slot.unset).toArray = ls at hl ⊢
  have hl : lv_has ls 2 [(0, .ref a0), (1, .int x1)] := hl
  refine (?_ : fs_J X p l e (fs_rm 2 32 σ σF) s m _ below meth c (fs_Q X below _ s (fs_eV r) σ σF) r σ σF (f_Slot_init a0 x1) (F0 m 0 ls [])) σ s.heap [] 0 0 h hw0 va_S.rf rfl rfl
  clear h hw0
  unfold f_Slot_init
  refine fs_lift (fun _ _ _ _ => lv_aload_n hx hb d_Slot_init_0 rfl (lv_at hl 0 rfl)) ?_
  refine fs_JO S tw_1_75 tw_1_35 tw_1_36 hl.1 (Nat.le_of_ble_eq_true rfl) (Nat.le_of_ble_eq_true rfl) d_Slot_init_1 ?_
  refine fs_Jeq (g2 := F0 m 4 ls []) rfl ?_
  refine fs_lift (fun _ _ _ _ => lv_aload_n hx hb d_Slot_init_4 rfl (lv_at hl 0 rfl)) ?_
  refine fs_Jnw S hG hR fs_in4 rfl fs_Y4 fs_ty4 fs_dv4 rfl tw_1_76 tw_1_77 tw_1_7 d_Slot_init_5 (fun r1 => ?_)
  refine fs_lift (fun _ _ _ _ => lv_dup hx hb d_Slot_init_8 rfl) ?_
  refine fs_JIN S hG hR [] (fun zr zs zt zh => m_Layout_init X l r1 zh) tb_1_78 tw_1_79 tw_1_80 tw_1_7 rfl q_Layout_init ⟨(Nat.le_of_ble_eq_true rfl), (Nat.le_of_ble_eq_true rfl)⟩ hl.1 rfl (Nat.le_of_ble_eq_true rfl) d_Slot_init_9 ?_
  refine fs_Jeq (g2 := F0 m 12 ls [.ref r1, .ref a0]) rfl ?_
  refine fs_Jput S hG fs_in3 rfl 1 (Nat.le_of_ble_eq_true rfl) tw_1_100 (fun _ h9 => h9) fs_Y3 fs_ty3 fs_nm3 (Or.inl rfl) rfl rfl d_Slot_init_12 ?_
  refine fs_lift (fun _ _ _ _ => lv_aload_n hx hb d_Slot_init_15 rfl (lv_at hl 0 rfl)) ?_
  refine fs_Jnw S hG hR fs_in4 rfl fs_Y4 fs_ty4 fs_dv4 rfl tw_1_76 tw_1_77 tw_1_7 d_Slot_init_16 (fun r2 => ?_)
  refine fs_lift (fun _ _ _ _ => lv_dup hx hb d_Slot_init_19 rfl) ?_
  refine fs_JIN S hG hR [] (fun zr zs zt zh => m_Layout_init X l r2 zh) tb_1_78 tw_1_79 tw_1_80 tw_1_7 rfl q_Layout_init ⟨(Nat.le_of_ble_eq_true rfl), (Nat.le_of_ble_eq_true rfl)⟩ hl.1 rfl (Nat.le_of_ble_eq_true rfl) d_Slot_init_20 ?_
  refine fs_Jeq (g2 := F0 m 23 ls [.ref r2, .ref a0]) rfl ?_
  refine fs_Jput S hG fs_in3 rfl 2 (Nat.le_of_ble_eq_true rfl) tw_1_102 (fun _ h9 => h9) fs_Y3 fs_ty3 fs_nm3 (Or.inl rfl) rfl rfl d_Slot_init_23 ?_
  refine fs_lift (fun _ _ _ _ => lv_aload_n hx hb d_Slot_init_26 rfl (lv_at hl 0 rfl)) ?_
  refine fs_lift (fun _ _ _ _ => lv_iload_n hx hb d_Slot_init_27 rfl (lv_at hl 1 rfl)) ?_
  refine fs_Jput S hG fs_in3 rfl 0 (Nat.le_of_ble_eq_true rfl) tw_1_98 (fun _ h9 => h9) fs_Y3 fs_ty3 fs_nm3 (Or.inr ⟨rfl, hin, rfl⟩) rfl rfl d_Slot_init_28 ?_
  exact fs_Jvret S hr hk rfl d_Slot_init_31

theorem d_Exporter_init_0 : decode prog_4_method_1_code 0 = .ok (.aload_n 0, 1) := by decide +kernel
theorem d_Exporter_init_1 : decode prog_4_method_1_code 1 = .ok (.invokespecial 3, 3) := by decide +kernel
theorem d_Exporter_init_4 : decode prog_4_method_1_code 4 = .ok (.aload_n 0, 1) := by decide +kernel
theorem d_Exporter_init_5 : decode prog_4_method_1_code 5 = .ok (.new 9, 3) := by decide +kernel
theorem d_Exporter_init_8 : decode prog_4_method_1_code 8 = .ok (.dup, 1) := by decide +kernel
theorem d_Exporter_init_9 : decode prog_4_method_1_code 9 = .ok (.invokespecial 11, 3) := by decide +kernel
theorem d_Exporter_init_12 : decode prog_4_method_1_code 12 = .ok (.putfield 12, 3) := by decide +kernel
theorem d_Exporter_init_15 : decode prog_4_method_1_code 15 = .ok (.aload_n 0, 1) := by decide +kernel
theorem d_Exporter_init_16 : decode prog_4_method_1_code 16 = .ok (.new 9, 3) := by decide +kernel
theorem d_Exporter_init_19 : decode prog_4_method_1_code 19 = .ok (.dup, 1) := by decide +kernel
theorem d_Exporter_init_20 : decode prog_4_method_1_code 20 = .ok (.invokespecial 11, 3) := by decide +kernel
theorem d_Exporter_init_23 : decode prog_4_method_1_code 23 = .ok (.putfield 18, 3) := by decide +kernel
theorem d_Exporter_init_26 : decode prog_4_method_1_code 26 = .ok (.aload_n 0, 1) := by decide +kernel
theorem d_Exporter_init_27 : decode prog_4_method_1_code 27 = .ok (.iconst 3, 1) := by decide +kernel
theorem d_Exporter_init_28 : decode prog_4_method_1_code 28 = .ok (.anewarray 21, 3) := by decide +kernel
theorem d_Exporter_init_31 : decode prog_4_method_1_code 31 = .ok (.putfield 23, 3) := by decide +kernel
theorem d_Exporter_init_34 : decode prog_4_method_1_code 34 = .ok (.aload_n 0, 1) := by decide +kernel
theorem d_Exporter_init_35 : decode prog_4_method_1_code 35 = .ok (.iconst 1, 1) := by decide +kernel
theorem d_Exporter_init_36 : decode prog_4_method_1_code 36 = .ok (.putfield 27, 3) := by decide +kernel
theorem d_Exporter_init_39 : decode prog_4_method_1_code 39 = .ok (.aload_n 0, 1) := by decide +kernel
theorem d_Exporter_init_40 : decode prog_4_method_1_code 40 = .ok (.iload_n 1, 1) := by decide +kernel
theorem d_Exporter_init_41 : decode prog_4_method_1_code 41 = .ok (.putfield 31, 3) := by decide +kernel
theorem d_Exporter_init_44 : decode prog_4_method_1_code 44 = .ok (.iconst 0, 1) := by decide +kernel
theorem d_Exporter_init_45 : decode prog_4_method_1_code 45 = .ok (.istore_n 2, 1) := by decide +kernel
theorem d_Exporter_init_46 : decode prog_4_method_1_code 46 = .ok (.iload_n 2, 1) := by decide +kernel
theorem d_Exporter_init_47 : decode prog_4_method_1_code 47 = .ok (.iconst 3, 1) := by decide +kernel
theorem d_Exporter_init_48 : decode prog_4_method_1_code 48 = .ok (.if_icmp .ge 23, 3) := by decide +kernel
theorem d_Exporter_init_51 : decode prog_4_method_1_code 51 = .ok (.aload_n 0, 1) := by decide +kernel
theorem d_Exporter_init_52 : decode prog_4_method_1_code 52 = .ok (.getfield 23, 3) := by decide +kernel
theorem d_Exporter_init_55 : decode prog_4_method_1_code 55 = .ok (.iload_n 2, 1) := by decide +kernel
theorem d_Exporter_init_56 : decode prog_4_method_1_code 56 = .ok (.new 21, 3) := by decide +kernel
theorem d_Exporter_init_59 : decode prog_4_method_1_code 59 = .ok (.dup, 1) := by decide +kernel
theorem d_Exporter_init_60 : decode prog_4_method_1_code 60 = .ok (.iload_n 2, 1) := by decide +kernel
theorem d_Exporter_init_61 : decode prog_4_method_1_code 61 = .ok (.invokespecial 34, 3) := by decide +kernel
theorem d_Exporter_init_64 : decode prog_4_method_1_code 64 = .ok (.aastore, 1) := by decide +kernel
theorem d_Exporter_init_65 : decode prog_4_method_1_code 65 = .ok (.iinc 2 1, 3) := by decide +kernel
theorem d_Exporter_init_68 : decode prog_4_method_1_code 68 = .ok (.goto (-22), 3) := by decide +kernel
theorem d_Exporter_init_71 : decode prog_4_method_1_code 71 = .ok (.return_, 1) := by decide +kernel
theorem q_Exporter_init : (⟨"FlowShelf$Exporter", "<init>", "(I)V"⟩ : MethodName).cls ≠ "java/lang/invoke/MethodHandle" ∧ (⟨"FlowShelf$Exporter", "<init>", "(I)V"⟩ : MethodName).cls ≠ "java/lang/invoke/VarHandle" ∧ (parseMethodDescriptor (⟨"FlowShelf$Exporter", "<init>", "(I)V"⟩ : MethodName).desc).map (fun d => d.parameters.length) = some 1 := by decide +kernel
set_option maxHeartbeats 4000000 in
set_option maxRecDepth 100000 in
theorem m_Exporter_init (X : fs_X) (l : Launch) (a0 : Nat) (x1 : Int32) {r : Unit} {σ σF : fs_S} (h : (f_Exporter_init a0 x1).1 σ = some (r, σF)) : fs_Met X l ⟨"FlowShelf$Exporter", "<init>", "(I)V"⟩ (Cond.code ⟨"FlowShelf$Exporter", "<init>", "(I)V"⟩ prog_4_method_1_code 3 none) 4 72 [.ref a0, .int x1] σ (fs_eV r) σF := by
  refine fs_ofW (by decide) ?_
  intro p e s m args below meth c s₁ B hml hT hv
  obtain ⟨rfl, hw0, hG⟩ := hv
  have hx := B.exec
  have hb := B.bytes
  have hr := B.returns
  have hk := B.notSynchronized
  have hin : meth.name = "<init>" := (name_of_methodNamed B.named B.method).1
  have S : CallFix p m c prog_4_method_1_code 3 s _ fs_ws "FlowShelf$Exporter" := ⟨B.exec, B.bytes, hml, findClass_of_methodNamed B.named, fun w hw => atoms_spec (ws := _ :: fs_ws) B.pre w (List.mem_cons_of_mem _ hw)⟩
  have hR := fs_hR (fr := 4) (lo := 72) ((f_Exporter_init a0 x1).2 _ _ _ h)
  have hl := lv_entry ([.ref a0, .int x1]) (n := 3) (Nat.le_of_ble_eq_true rfl)
  rw [lg_entry_eq]
  generalize (lg_sl ([.ref a0, .int x1]) ++ List.replicate (3 - (lg_sl ([.ref a0, .int x1])).length) Slot.unset).toArray = ls at hl ⊢
  have hl : lv_has ls 3 [(0, .ref a0), (1, .int x1)] := hl
  refine (?_ : fs_J X p l e (fs_rm 4 72 σ σF) s m _ below meth c (fs_Q X below _ s (fs_eV r) σ σF) r σ σF (f_Exporter_init a0 x1) (F0 m 0 ls [])) σ s.heap [] 0 0 h hw0 va_S.rf rfl rfl
  clear h hw0
  unfold f_Exporter_init
  refine fs_lift (fun _ _ _ _ => lv_aload_n hx hb d_Exporter_init_0 rfl (lv_at hl 0 rfl)) ?_
  refine fs_JO S tw_1_42 tw_1_35 tw_1_36 hl.1 (Nat.le_of_ble_eq_true rfl) (Nat.le_of_ble_eq_true rfl) d_Exporter_init_1 ?_
  refine fs_Jeq (g2 := F0 m 4 ls []) rfl ?_
  refine fs_lift (fun _ _ _ _ => lv_aload_n hx hb d_Exporter_init_4 rfl (lv_at hl 0 rfl)) ?_
  refine fs_Jnw S hG hR fs_in2 rfl fs_Y2 fs_ty2 fs_dv2 rfl tw_1_43 tw_1_44 tw_1_5 d_Exporter_init_5 (fun r1 => ?_)
  refine fs_lift (fun _ _ _ _ => lv_dup hx hb d_Exporter_init_8 rfl) ?_
  refine fs_JI S hG hR [] (fun zr zs zt zh => m_ArrayList_init X l r1 zh) tw_1_45 tw_1_46 tw_1_47 tw_1_5 rfl q_ArrayList_init ⟨(Nat.le_of_ble_eq_true rfl), (Nat.le_of_ble_eq_true rfl)⟩ hl.1 rfl (Nat.le_of_ble_eq_true rfl) d_Exporter_init_9 ?_
  refine fs_Jeq (g2 := F0 m 12 ls [.ref r1, .ref a0]) rfl ?_
  refine fs_Jput S hG fs_in1 rfl 1 (Nat.le_of_ble_eq_true rfl) tw_1_126 (fun _ h9 => h9) fs_Y1 fs_ty1 fs_nm1 (Or.inr ⟨rfl, hin, rfl⟩) rfl rfl d_Exporter_init_12 ?_
  refine fs_lift (fun _ _ _ _ => lv_aload_n hx hb d_Exporter_init_15 rfl (lv_at hl 0 rfl)) ?_
  refine fs_Jnw S hG hR fs_in2 rfl fs_Y2 fs_ty2 fs_dv2 rfl tw_1_43 tw_1_44 tw_1_5 d_Exporter_init_16 (fun r2 => ?_)
  refine fs_lift (fun _ _ _ _ => lv_dup hx hb d_Exporter_init_19 rfl) ?_
  refine fs_JI S hG hR [] (fun zr zs zt zh => m_ArrayList_init X l r2 zh) tw_1_45 tw_1_46 tw_1_47 tw_1_5 rfl q_ArrayList_init ⟨(Nat.le_of_ble_eq_true rfl), (Nat.le_of_ble_eq_true rfl)⟩ hl.1 rfl (Nat.le_of_ble_eq_true rfl) d_Exporter_init_20 ?_
  refine fs_Jeq (g2 := F0 m 23 ls [.ref r2, .ref a0]) rfl ?_
  refine fs_Jput S hG fs_in1 rfl 2 (Nat.le_of_ble_eq_true rfl) tw_1_128 (fun _ h9 => h9) fs_Y1 fs_ty1 fs_nm1 (Or.inr ⟨rfl, hin, rfl⟩) rfl rfl d_Exporter_init_23 ?_
  refine fs_lift (fun _ _ _ _ => lv_aload_n hx hb d_Exporter_init_26 rfl (lv_at hl 0 rfl)) ?_
  refine fs_lift (fun _ _ _ _ => lv_iconst (v := 3) hx hb d_Exporter_init_27 (by decide)) ?_
  refine fs_Jws S hG hR tw_1_69 tb_1_70 d_Exporter_init_28 (fun r3 => ?_)
  refine fs_Jput S hG fs_in1 rfl 3 (Nat.le_of_ble_eq_true rfl) tw_1_130 (fun _ h9 => h9) fs_Y1 fs_ty1 fs_nm1 (Or.inr ⟨rfl, hin, rfl⟩) rfl rfl d_Exporter_init_31 ?_
  refine fs_lift (fun _ _ _ _ => lv_aload_n hx hb d_Exporter_init_34 rfl (lv_at hl 0 rfl)) ?_
  refine fs_lift (fun _ _ _ _ => lv_iconst (v := 1) hx hb d_Exporter_init_35 (by decide)) ?_
  refine fs_Jput S hG fs_in1 rfl 6 (Nat.le_of_ble_eq_true rfl) tw_1_136 (fun _ h9 => h9) fs_Y1 fs_ty1 fs_nm1 (Or.inl rfl) rfl rfl d_Exporter_init_36 ?_
  refine fs_lift (fun _ _ _ _ => lv_aload_n hx hb d_Exporter_init_39 rfl (lv_at hl 0 rfl)) ?_
  refine fs_lift (fun _ _ _ _ => lv_iload_n hx hb d_Exporter_init_40 rfl (lv_at hl 1 rfl)) ?_
  refine fs_Jput S hG fs_in1 rfl 0 (Nat.le_of_ble_eq_true rfl) tw_1_125 (fun _ h9 => h9) fs_Y1 fs_ty1 fs_nm1 (Or.inr ⟨rfl, hin, rfl⟩) rfl rfl d_Exporter_init_41 ?_
  refine fs_lift (fun _ _ _ _ => lv_iconst (v := 0) hx hb d_Exporter_init_44 (by decide)) ?_
  refine fs_liftL (fun _ _ _ _ => lv_istore_n (lv' := [(2, .int 0), (0, .ref a0), (1, .int x1)]) hx hb d_Exporter_init_45 rfl hl (Nat.le_of_ble_eq_true rfl) rfl) (fun ls hl => ?_)
  refine fs_Jlp1 (nL := 3) (pc := 46) (rest := []) (I := fun (v4 : Int32) => [(0, .ref a0), (2, .int v4)]) (fun k46 hk46 v4 ls hl => ?_) _ _ _ (lv_sub hl [1, 0] rfl)
  refine fs_lift (fun _ _ _ _ => lv_iload_n hx hb d_Exporter_init_46 rfl (lv_at hl 1 rfl)) ?_
  refine fs_lift (fun _ _ _ _ => lv_iconst (v := 3) hx hb d_Exporter_init_47 (by decide)) ?_
  refine fs_if (fun _ _ _ _ => lv_icmp_ge hx hb d_Exporter_init_48 rfl) ?_ ?_
  · exact fs_Jvret S hr hk rfl d_Exporter_init_71
  · refine fs_lift (fun _ _ _ _ => lv_aload_n hx hb d_Exporter_init_51 rfl (lv_at hl 0 rfl)) ?_
    refine fs_Jgr S hG fs_in1 rfl 3 (Nat.le_of_ble_eq_true rfl) tw_1_130 (fun _ h9 => h9) d_Exporter_init_52 (fun r5 => ?_)
    refine fs_lift (fun _ _ _ _ => lv_iload_n hx hb d_Exporter_init_55 rfl (lv_at hl 1 rfl)) ?_
    refine fs_Jnw S hG hR fs_in3 rfl fs_Y3 fs_ty3 fs_dv3 rfl tw_1_69 tw_1_71 tw_1_6 d_Exporter_init_56 (fun r6 => ?_)
    refine fs_lift (fun _ _ _ _ => lv_dup hx hb d_Exporter_init_59 rfl) ?_
    refine fs_lift (fun _ _ _ _ => lv_iload_n hx hb d_Exporter_init_60 rfl (lv_at hl 1 rfl)) ?_
    refine fs_JI S hG hR [.int v4] (fun zr zs zt zh => m_Slot_init X l r6 v4 zh) tw_1_72 tw_1_73 tw_1_74 tw_1_6 rfl q_Slot_init ⟨(Nat.le_of_ble_eq_true rfl), (Nat.le_of_ble_eq_true rfl)⟩ hl.1 rfl (Nat.le_of_ble_eq_true rfl) d_Exporter_init_61 ?_
    refine fs_Jeq (g2 := F0 m 64 ls [.ref r6, .int v4, .ref r5]) rfl ?_
    refine fs_Jsr S hG d_Exporter_init_64 ?_
    refine fs_Jnm (fun v7 hv9 => ?_)
    refine fs_liftL (fun _ _ _ _ => lv_iinc (k := 1) (v := v7) (lv' := [(2, .int v7), (0, .ref a0)]) hx hb d_Exporter_init_65 hl rfl (by rw [hv9]; rfl) (Nat.le_of_ble_eq_true rfl) rfl) (fun ls hl => ?_)
    refine fs_lift (fun _ _ _ _ => lv_goto hx hb d_Exporter_init_68 rfl) ?_
    exact hk46 v7 ls (lv_sub hl [1, 0] rfl)

theorem d_Table_init_0 : decode prog_11_method_1_code 0 = .ok (.aload_n 0, 1) := by decide +kernel
theorem d_Table_init_1 : decode prog_11_method_1_code 1 = .ok (.invokespecial 3, 3) := by decide +kernel
theorem d_Table_init_4 : decode prog_11_method_1_code 4 = .ok (.aload_n 0, 1) := by decide +kernel
theorem d_Table_init_5 : decode prog_11_method_1_code 5 = .ok (.new 9, 3) := by decide +kernel
theorem d_Table_init_8 : decode prog_11_method_1_code 8 = .ok (.dup, 1) := by decide +kernel
theorem d_Table_init_9 : decode prog_11_method_1_code 9 = .ok (.invokespecial 11, 3) := by decide +kernel
theorem d_Table_init_12 : decode prog_11_method_1_code 12 = .ok (.putfield 12, 3) := by decide +kernel
theorem d_Table_init_15 : decode prog_11_method_1_code 15 = .ok (.aload_n 0, 1) := by decide +kernel
theorem d_Table_init_16 : decode prog_11_method_1_code 16 = .ok (.bipush 80, 2) := by decide +kernel
theorem d_Table_init_18 : decode prog_11_method_1_code 18 = .ok (.newarray .int, 2) := by decide +kernel
theorem d_Table_init_20 : decode prog_11_method_1_code 20 = .ok (.putfield 18, 3) := by decide +kernel
theorem d_Table_init_23 : decode prog_11_method_1_code 23 = .ok (.aload_n 0, 1) := by decide +kernel
theorem d_Table_init_24 : decode prog_11_method_1_code 24 = .ok (.bipush 80, 2) := by decide +kernel
theorem d_Table_init_26 : decode prog_11_method_1_code 26 = .ok (.newarray .int, 2) := by decide +kernel
theorem d_Table_init_28 : decode prog_11_method_1_code 28 = .ok (.putfield 22, 3) := by decide +kernel
theorem d_Table_init_31 : decode prog_11_method_1_code 31 = .ok (.return_, 1) := by decide +kernel
theorem q_Table_init : (⟨"FlowShelf$Table", "<init>", "()V"⟩ : MethodName).cls ≠ "java/lang/invoke/MethodHandle" ∧ (⟨"FlowShelf$Table", "<init>", "()V"⟩ : MethodName).cls ≠ "java/lang/invoke/VarHandle" ∧ (parseMethodDescriptor (⟨"FlowShelf$Table", "<init>", "()V"⟩ : MethodName).desc).map (fun d => d.parameters.length) = some 0 := by decide +kernel
set_option maxHeartbeats 4000000 in
set_option maxRecDepth 100000 in
theorem m_Table_init (X : fs_X) (l : Launch) (a0 : Nat) {r : Unit} {σ σF : fs_S} (h : (f_Table_init a0).1 σ = some (r, σF)) : fs_Met X l ⟨"FlowShelf$Table", "<init>", "()V"⟩ (Cond.code ⟨"FlowShelf$Table", "<init>", "()V"⟩ prog_11_method_1_code 1 none) 4 72 [.ref a0] σ (fs_eV r) σF := by
  refine fs_ofW (by decide) ?_
  intro p e s m args below meth c s₁ B hml hT hv
  obtain ⟨rfl, hw0, hG⟩ := hv
  have hx := B.exec
  have hb := B.bytes
  have hr := B.returns
  have hk := B.notSynchronized
  have hin : meth.name = "<init>" := (name_of_methodNamed B.named B.method).1
  have S : CallFix p m c prog_11_method_1_code 1 s _ fs_ws "FlowShelf$Table" := ⟨B.exec, B.bytes, hml, findClass_of_methodNamed B.named, fun w hw => atoms_spec (ws := _ :: fs_ws) B.pre w (List.mem_cons_of_mem _ hw)⟩
  have hR := fs_hR (fr := 4) (lo := 72) ((f_Table_init a0).2 _ _ _ h)
  have hl := lv_entry ([.ref a0]) (n := 1) (Nat.le_of_ble_eq_true rfl)
  rw [lg_entry_eq]
  generalize (lg_sl ([.ref a0]) ++ List.replicate (1 - (lg_sl ([.ref a0])).length) Slot.unset).toArray = ls at hl ⊢
  have hl : lv_has ls 1 [(0, .ref a0)] := hl
  refine (?_ : fs_J X p l e (fs_rm 4 72 σ σF) s m _ below meth c (fs_Q X below _ s (fs_eV r) σ σF) r σ σF (f_Table_init a0) (F0 m 0 ls [])) σ s.heap [] 0 0 h hw0 va_S.rf rfl rfl
  clear h hw0
  unfold f_Table_init
  refine fs_lift (fun _ _ _ _ => lv_aload_n hx hb d_Table_init_0 rfl (lv_at hl 0 rfl)) ?_
  refine fs_JO S tw_1_180 tw_1_35 tw_1_36 hl.1 (Nat.le_of_ble_eq_true rfl) (Nat.le_of_ble_eq_true rfl) d_Table_init_1 ?_
  refine fs_Jeq (g2 := F0 m 4 ls []) rfl ?_
  refine fs_lift (fun _ _ _ _ => lv_aload_n hx hb d_Table_init_4 rfl (lv_at hl 0 rfl)) ?_
  refine fs_Jnw S hG hR fs_in2 rfl fs_Y2 fs_ty2 fs_dv2 rfl tw_1_181 tw_1_44 tw_1_5 d_Table_init_5 (fun r1 => ?_)
  refine fs_lift (fun _ _ _ _ => lv_dup hx hb d_Table_init_8 rfl) ?_
  refine fs_JI S hG hR [] (fun zr zs zt zh => m_ArrayList_init X l r1 zh) tw_1_182 tw_1_46 tw_1_47 tw_1_5 rfl q_ArrayList_init ⟨(Nat.le_of_ble_eq_true rfl), (Nat.le_of_ble_eq_true rfl)⟩ hl.1 rfl (Nat.le_of_ble_eq_true rfl) d_Table_init_9 ?_
  refine fs_Jeq (g2 := F0 m 12 ls [.ref r1, .ref a0]) rfl ?_
  refine fs_Jput S hG fs_in6 rfl 0 (Nat.le_of_ble_eq_true rfl) tw_1_183 (fun _ h9 => h9) fs_Y6 fs_ty6 fs_nm6 (Or.inr ⟨rfl, hin, rfl⟩) rfl rfl d_Table_init_12 ?_
  refine fs_lift (fun _ _ _ _ => lv_aload_n hx hb d_Table_init_15 rfl (lv_at hl 0 rfl)) ?_
  refine fs_lift (fun _ _ _ _ => lv_bipush (v := 80) hx hb d_Table_init_16 (by decide)) ?_
  refine fs_Jwi S hG hR rfl tw_1_97 d_Table_init_18 (fun r2 => ?_)
  refine fs_Jput S hG fs_in6 rfl 1 (Nat.le_of_ble_eq_true rfl) tw_1_186 (fun _ h9 => h9) fs_Y6 fs_ty6 fs_nm6 (Or.inr ⟨rfl, hin, rfl⟩) rfl rfl d_Table_init_20 ?_
  refine fs_lift (fun _ _ _ _ => lv_aload_n hx hb d_Table_init_23 rfl (lv_at hl 0 rfl)) ?_
  refine fs_lift (fun _ _ _ _ => lv_bipush (v := 80) hx hb d_Table_init_24 (by decide)) ?_
  refine fs_Jwi S hG hR rfl tw_1_97 d_Table_init_26 (fun r3 => ?_)
  refine fs_Jput S hG fs_in6 rfl 2 (Nat.le_of_ble_eq_true rfl) tw_1_187 (fun _ h9 => h9) fs_Y6 fs_ty6 fs_nm6 (Or.inr ⟨rfl, hin, rfl⟩) rfl rfl d_Table_init_28 ?_
  exact fs_Jvret S hr hk rfl d_Table_init_31

theorem d_Ledger_init_0 : decode prog_7_method_1_code 0 = .ok (.aload_n 0, 1) := by decide +kernel
theorem d_Ledger_init_1 : decode prog_7_method_1_code 1 = .ok (.invokespecial 3, 3) := by decide +kernel
theorem d_Ledger_init_4 : decode prog_7_method_1_code 4 = .ok (.aload_n 0, 1) := by decide +kernel
theorem d_Ledger_init_5 : decode prog_7_method_1_code 5 = .ok (.sipush 600, 3) := by decide +kernel
theorem d_Ledger_init_8 : decode prog_7_method_1_code 8 = .ok (.newarray .boolean, 2) := by decide +kernel
theorem d_Ledger_init_10 : decode prog_7_method_1_code 10 = .ok (.putfield 9, 3) := by decide +kernel
theorem d_Ledger_init_13 : decode prog_7_method_1_code 13 = .ok (.return_, 1) := by decide +kernel
theorem q_Ledger_init : (⟨"FlowShelf$Ledger", "<init>", "()V"⟩ : MethodName).cls ≠ "java/lang/invoke/MethodHandle" ∧ (⟨"FlowShelf$Ledger", "<init>", "()V"⟩ : MethodName).cls ≠ "java/lang/invoke/VarHandle" ∧ (parseMethodDescriptor (⟨"FlowShelf$Ledger", "<init>", "()V"⟩ : MethodName).desc).map (fun d => d.parameters.length) = some 0 := by decide +kernel
set_option maxHeartbeats 4000000 in
set_option maxRecDepth 100000 in
theorem m_Ledger_init (X : fs_X) (l : Launch) (a0 : Nat) {r : Unit} {σ σF : fs_S} (h : (f_Ledger_init a0).1 σ = some (r, σF)) : fs_Met X l ⟨"FlowShelf$Ledger", "<init>", "()V"⟩ (Cond.code ⟨"FlowShelf$Ledger", "<init>", "()V"⟩ prog_7_method_1_code 1 none) 1 12 [.ref a0] σ (fs_eV r) σF := by
  refine fs_ofW (by decide) ?_
  intro p e s m args below meth c s₁ B hml hT hv
  obtain ⟨rfl, hw0, hG⟩ := hv
  have hx := B.exec
  have hb := B.bytes
  have hr := B.returns
  have hk := B.notSynchronized
  have hin : meth.name = "<init>" := (name_of_methodNamed B.named B.method).1
  have S : CallFix p m c prog_7_method_1_code 1 s _ fs_ws "FlowShelf$Ledger" := ⟨B.exec, B.bytes, hml, findClass_of_methodNamed B.named, fun w hw => atoms_spec (ws := _ :: fs_ws) B.pre w (List.mem_cons_of_mem _ hw)⟩
  have hR := fs_hR (fr := 1) (lo := 12) ((f_Ledger_init a0).2 _ _ _ h)
  have hl := lv_entry ([.ref a0]) (n := 1) (Nat.le_of_ble_eq_true rfl)
  rw [lg_entry_eq]
  generalize (lg_sl ([.ref a0]) ++ List.replicate (1 - (lg_sl ([.ref a0])).length) Slot.unset).toArray = ls at hl ⊢
  have hl : lv_has ls 1 [(0, .ref a0)] := hl
  refine (?_ : fs_J X p l e (fs_rm 1 12 σ σF) s m _ below meth c (fs_Q X below _ s (fs_eV r) σ σF) r σ σF (f_Ledger_init a0) (F0 m 0 ls [])) σ s.heap [] 0 0 h hw0 va_S.rf rfl rfl
  clear h hw0
  unfold f_Ledger_init
  refine fs_lift (fun _ _ _ _ => lv_aload_n hx hb d_Ledger_init_0 rfl (lv_at hl 0 rfl)) ?_
  refine fs_JO S tw_1_206 tw_1_35 tw_1_36 hl.1 (Nat.le_of_ble_eq_true rfl) (Nat.le_of_ble_eq_true rfl) d_Ledger_init_1 ?_
  refine fs_Jeq (g2 := F0 m 4 ls []) rfl ?_
  refine fs_lift (fun _ _ _ _ => lv_aload_n hx hb d_Ledger_init_4 rfl (lv_at hl 0 rfl)) ?_
  refine fs_lift (fun _ _ _ _ => lv_sipush (v := 600) hx hb d_Ledger_init_5 (by decide)) ?_
  refine fs_Jwz S hG hR rfl tw_1_229 d_Ledger_init_8 (fun r1 => ?_)
  refine fs_Jput S hG fs_in7 rfl 0 (Nat.le_of_ble_eq_true rfl) tw_1_207 (fun _ h9 => h9) fs_Y7 fs_ty7 fs_nm7 (Or.inr ⟨rfl, hin, rfl⟩) rfl rfl d_Ledger_init_10 ?_
  exact fs_Jvret S hr hk rfl d_Ledger_init_13

theorem d_Collector_init_0 : decode prog_2_method_1_code 0 = .ok (.aload_n 0, 1) := by decide +kernel
theorem d_Collector_init_1 : decode prog_2_method_1_code 1 = .ok (.invokespecial 3, 3) := by decide +kernel
theorem d_Collector_init_4 : decode prog_2_method_1_code 4 = .ok (.aload_n 0, 1) := by decide +kernel
theorem d_Collector_init_5 : decode prog_2_method_1_code 5 = .ok (.new 9, 3) := by decide +kernel
theorem d_Collector_init_8 : decode prog_2_method_1_code 8 = .ok (.dup, 1) := by decide +kernel
theorem d_Collector_init_9 : decode prog_2_method_1_code 9 = .ok (.invokespecial 11, 3) := by decide +kernel
theorem d_Collector_init_12 : decode prog_2_method_1_code 12 = .ok (.putfield 12, 3) := by decide +kernel
theorem d_Collector_init_15 : decode prog_2_method_1_code 15 = .ok (.aload_n 0, 1) := by decide +kernel
theorem d_Collector_init_16 : decode prog_2_method_1_code 16 = .ok (.new 9, 3) := by decide +kernel
theorem d_Collector_init_19 : decode prog_2_method_1_code 19 = .ok (.dup, 1) := by decide +kernel
theorem d_Collector_init_20 : decode prog_2_method_1_code 20 = .ok (.invokespecial 11, 3) := by decide +kernel
theorem d_Collector_init_23 : decode prog_2_method_1_code 23 = .ok (.putfield 18, 3) := by decide +kernel
theorem d_Collector_init_26 : decode prog_2_method_1_code 26 = .ok (.aload_n 0, 1) := by decide +kernel
theorem d_Collector_init_27 : decode prog_2_method_1_code 27 = .ok (.new 21, 3) := by decide +kernel
theorem d_Collector_init_30 : decode prog_2_method_1_code 30 = .ok (.dup, 1) := by decide +kernel
theorem d_Collector_init_31 : decode prog_2_method_1_code 31 = .ok (.invokespecial 23, 3) := by decide +kernel
theorem d_Collector_init_34 : decode prog_2_method_1_code 34 = .ok (.putfield 24, 3) := by decide +kernel
theorem d_Collector_init_37 : decode prog_2_method_1_code 37 = .ok (.aload_n 0, 1) := by decide +kernel
theorem d_Collector_init_38 : decode prog_2_method_1_code 38 = .ok (.new 28, 3) := by decide +kernel
theorem d_Collector_init_41 : decode prog_2_method_1_code 41 = .ok (.dup, 1) := by decide +kernel
theorem d_Collector_init_42 : decode prog_2_method_1_code 42 = .ok (.invokespecial 30, 3) := by decide +kernel
theorem d_Collector_init_45 : decode prog_2_method_1_code 45 = .ok (.putfield 31, 3) := by decide +kernel
theorem d_Collector_init_48 : decode prog_2_method_1_code 48 = .ok (.aload_n 0, 1) := by decide +kernel
theorem d_Collector_init_49 : decode prog_2_method_1_code 49 = .ok (.new 28, 3) := by decide +kernel
theorem d_Collector_init_52 : decode prog_2_method_1_code 52 = .ok (.dup, 1) := by decide +kernel
theorem d_Collector_init_53 : decode prog_2_method_1_code 53 = .ok (.invokespecial 30, 3) := by decide +kernel
theorem d_Collector_init_56 : decode prog_2_method_1_code 56 = .ok (.putfield 35, 3) := by decide +kernel
theorem d_Collector_init_59 : decode prog_2_method_1_code 59 = .ok (.return_, 1) := by decide +kernel
theorem q_Collector_init : (⟨"FlowShelf$Collector", "<init>", "()V"⟩ : MethodName).cls ≠ "java/lang/invoke/MethodHandle" ∧ (⟨"FlowShelf$Collector", "<init>", "()V"⟩ : MethodName).cls ≠ "java/lang/invoke/VarHandle" ∧ (parseMethodDescriptor (⟨"FlowShelf$Collector", "<init>", "()V"⟩ : MethodName).desc).map (fun d => d.parameters.length) = some 0 := by decide +kernel
set_option maxHeartbeats 4000000 in
set_option maxRecDepth 100000 in
theorem m_Collector_init (X : fs_X) (l : Launch) (a0 : Nat) {r : Unit} {σ σF : fs_S} (h : (f_Collector_init a0).1 σ = some (r, σF)) : fs_Met X l ⟨"FlowShelf$Collector", "<init>", "()V"⟩ (Cond.code ⟨"FlowShelf$Collector", "<init>", "()V"⟩ prog_2_method_1_code 1 none) 5 92 [.ref a0] σ (fs_eV r) σF := by
  refine fs_ofW (by decide) ?_
  intro p e s m args below meth c s₁ B hml hT hv
  obtain ⟨rfl, hw0, hG⟩ := hv
  have hx := B.exec
  have hb := B.bytes
  have hr := B.returns
  have hk := B.notSynchronized
  have hin : meth.name = "<init>" := (name_of_methodNamed B.named B.method).1
  have S : CallFix p m c prog_2_method_1_code 1 s _ fs_ws "FlowShelf$Collector" := ⟨B.exec, B.bytes, hml, findClass_of_methodNamed B.named, fun w hw => atoms_spec (ws := _ :: fs_ws) B.pre w (List.mem_cons_of_mem _ hw)⟩
  have hR := fs_hR (fr := 5) (lo := 92) ((f_Collector_init a0).2 _ _ _ h)
  have hl := lv_entry ([.ref a0]) (n := 1) (Nat.le_of_ble_eq_true rfl)
  rw [lg_entry_eq]
  generalize (lg_sl ([.ref a0]) ++ List.replicate (1 - (lg_sl ([.ref a0])).length) Slot.unset).toArray = ls at hl ⊢
  have hl : lv_has ls 1 [(0, .ref a0)] := hl
  refine (?_ : fs_J X p l e (fs_rm 5 92 σ σF) s m _ below meth c (fs_Q X below _ s (fs_eV r) σ σF) r σ σF (f_Collector_init a0) (F0 m 0 ls [])) σ s.heap [] 0 0 h hw0 va_S.rf rfl rfl
  clear h hw0
  unfold f_Collector_init
  refine fs_lift (fun _ _ _ _ => lv_aload_n hx hb d_Collector_init_0 rfl (lv_at hl 0 rfl)) ?_
  refine fs_JO S tw_1_172 tw_1_35 tw_1_36 hl.1 (Nat.le_of_ble_eq_true rfl) (Nat.le_of_ble_eq_true rfl) d_Collector_init_1 ?_
  refine fs_Jeq (g2 := F0 m 4 ls []) rfl ?_
  refine fs_lift (fun _ _ _ _ => lv_aload_n hx hb d_Collector_init_4 rfl (lv_at hl 0 rfl)) ?_
  refine fs_Jnw S hG hR fs_in2 rfl fs_Y2 fs_ty2 fs_dv2 rfl tw_1_173 tw_1_44 tw_1_5 d_Collector_init_5 (fun r1 => ?_)
  refine fs_lift (fun _ _ _ _ => lv_dup hx hb d_Collector_init_8 rfl) ?_
  refine fs_JI S hG hR [] (fun zr zs zt zh => m_ArrayList_init X l r1 zh) tw_1_174 tw_1_46 tw_1_47 tw_1_5 rfl q_ArrayList_init ⟨(Nat.le_of_ble_eq_true rfl), (Nat.le_of_ble_eq_true rfl)⟩ hl.1 rfl (Nat.le_of_ble_eq_true rfl) d_Collector_init_9 ?_
  refine fs_Jeq (g2 := F0 m 12 ls [.ref r1, .ref a0]) rfl ?_
  refine fs_Jput S hG fs_in5 rfl 0 (Nat.le_of_ble_eq_true rfl) tw_1_230 (fun _ h9 => h9) fs_Y5 fs_ty5 fs_nm5 (Or.inr ⟨rfl, hin, rfl⟩) rfl rfl d_Collector_init_12 ?_
  refine fs_lift (fun _ _ _ _ => lv_aload_n hx hb d_Collector_init_15 rfl (lv_at hl 0 rfl)) ?_
  refine fs_Jnw S hG hR fs_in2 rfl fs_Y2 fs_ty2 fs_dv2 rfl tw_1_173 tw_1_44 tw_1_5 d_Collector_init_16 (fun r2 => ?_)
  refine fs_lift (fun _ _ _ _ => lv_dup hx hb d_Collector_init_19 rfl) ?_
  refine fs_JI S hG hR [] (fun zr zs zt zh => m_ArrayList_init X l r2 zh) tw_1_174 tw_1_46 tw_1_47 tw_1_5 rfl q_ArrayList_init ⟨(Nat.le_of_ble_eq_true rfl), (Nat.le_of_ble_eq_true rfl)⟩ hl.1 rfl (Nat.le_of_ble_eq_true rfl) d_Collector_init_20 ?_
  refine fs_Jeq (g2 := F0 m 23 ls [.ref r2, .ref a0]) rfl ?_
  refine fs_Jput S hG fs_in5 rfl 1 (Nat.le_of_ble_eq_true rfl) tw_1_231 (fun _ h9 => h9) fs_Y5 fs_ty5 fs_nm5 (Or.inr ⟨rfl, hin, rfl⟩) rfl rfl d_Collector_init_23 ?_
  refine fs_lift (fun _ _ _ _ => lv_aload_n hx hb d_Collector_init_26 rfl (lv_at hl 0 rfl)) ?_
  refine fs_Jnw S hG hR fs_in6 rfl fs_Y6 fs_ty6 fs_dv6 rfl tw_1_175 tw_1_176 tw_1_9 d_Collector_init_27 (fun r3 => ?_)
  refine fs_lift (fun _ _ _ _ => lv_dup hx hb d_Collector_init_30 rfl) ?_
  refine fs_JIN S hG hR [] (fun zr zs zt zh => m_Table_init X l r3 zh) tb_1_177 tw_1_178 tw_1_179 tw_1_9 rfl q_Table_init ⟨(Nat.le_of_ble_eq_true rfl), (Nat.le_of_ble_eq_true rfl)⟩ hl.1 rfl (Nat.le_of_ble_eq_true rfl) d_Collector_init_31 ?_
  refine fs_Jeq (g2 := F0 m 34 ls [.ref r3, .ref a0]) rfl ?_
  refine fs_Jput S hG fs_in5 rfl 2 (Nat.le_of_ble_eq_true rfl) tw_1_232 (fun _ h9 => h9) fs_Y5 fs_ty5 fs_nm5 (Or.inr ⟨rfl, hin, rfl⟩) rfl rfl d_Collector_init_34 ?_
  refine fs_lift (fun _ _ _ _ => lv_aload_n hx hb d_Collector_init_37 rfl (lv_at hl 0 rfl)) ?_
  refine fs_Jnw S hG hR fs_in7 rfl fs_Y7 fs_ty7 fs_dv7 rfl tw_1_201 tw_1_202 tw_1_10 d_Collector_init_38 (fun r4 => ?_)
  refine fs_lift (fun _ _ _ _ => lv_dup hx hb d_Collector_init_41 rfl) ?_
  refine fs_JIN S hG hR [] (fun zr zs zt zh => m_Ledger_init X l r4 zh) tb_1_203 tw_1_204 tw_1_205 tw_1_10 rfl q_Ledger_init ⟨(Nat.le_of_ble_eq_true rfl), (Nat.le_of_ble_eq_true rfl)⟩ hl.1 rfl (Nat.le_of_ble_eq_true rfl) d_Collector_init_42 ?_
  refine fs_Jeq (g2 := F0 m 45 ls [.ref r4, .ref a0]) rfl ?_
  refine fs_Jput S hG fs_in5 rfl 3 (Nat.le_of_ble_eq_true rfl) tw_1_234 (fun _ h9 => h9) fs_Y5 fs_ty5 fs_nm5 (Or.inr ⟨rfl, hin, rfl⟩) rfl rfl d_Collector_init_45 ?_
  refine fs_lift (fun _ _ _ _ => lv_aload_n hx hb d_Collector_init_48 rfl (lv_at hl 0 rfl)) ?_
  refine fs_Jnw S hG hR fs_in7 rfl fs_Y7 fs_ty7 fs_dv7 rfl tw_1_201 tw_1_202 tw_1_10 d_Collector_init_49 (fun r5 => ?_)
  refine fs_lift (fun _ _ _ _ => lv_dup hx hb d_Collector_init_52 rfl) ?_
  refine fs_JIN S hG hR [] (fun zr zs zt zh => m_Ledger_init X l r5 zh) tb_1_203 tw_1_204 tw_1_205 tw_1_10 rfl q_Ledger_init ⟨(Nat.le_of_ble_eq_true rfl), (Nat.le_of_ble_eq_true rfl)⟩ hl.1 rfl (Nat.le_of_ble_eq_true rfl) d_Collector_init_53 ?_
  refine fs_Jeq (g2 := F0 m 56 ls [.ref r5, .ref a0]) rfl ?_
  refine fs_Jput S hG fs_in5 rfl 4 (Nat.le_of_ble_eq_true rfl) tw_1_235 (fun _ h9 => h9) fs_Y5 fs_ty5 fs_nm5 (Or.inr ⟨rfl, hin, rfl⟩) rfl rfl d_Collector_init_56 ?_
  exact fs_Jvret S hr hk rfl d_Collector_init_59

theorem d_Fs_init_0 : decode prog_1_method_1_code 0 = .ok (.aload_n 0, 1) := by decide +kernel
theorem d_Fs_init_1 : decode prog_1_method_1_code 1 = .ok (.invokespecial 1, 3) := by decide +kernel
theorem d_Fs_init_4 : decode prog_1_method_1_code 4 = .ok (.aload_n 0, 1) := by decide +kernel
theorem d_Fs_init_5 : decode prog_1_method_1_code 5 = .ok (.new 7, 3) := by decide +kernel
theorem d_Fs_init_8 : decode prog_1_method_1_code 8 = .ok (.dup, 1) := by decide +kernel
theorem d_Fs_init_9 : decode prog_1_method_1_code 9 = .ok (.iconst 0, 1) := by decide +kernel
theorem d_Fs_init_10 : decode prog_1_method_1_code 10 = .ok (.invokespecial 9, 3) := by decide +kernel
theorem d_Fs_init_13 : decode prog_1_method_1_code 13 = .ok (.putfield 12, 3) := by decide +kernel
theorem d_Fs_init_16 : decode prog_1_method_1_code 16 = .ok (.aload_n 0, 1) := by decide +kernel
theorem d_Fs_init_17 : decode prog_1_method_1_code 17 = .ok (.new 7, 3) := by decide +kernel
theorem d_Fs_init_20 : decode prog_1_method_1_code 20 = .ok (.dup, 1) := by decide +kernel
theorem d_Fs_init_21 : decode prog_1_method_1_code 21 = .ok (.iconst 1, 1) := by decide +kernel
theorem d_Fs_init_22 : decode prog_1_method_1_code 22 = .ok (.invokespecial 9, 3) := by decide +kernel
theorem d_Fs_init_25 : decode prog_1_method_1_code 25 = .ok (.putfield 18, 3) := by decide +kernel
theorem d_Fs_init_28 : decode prog_1_method_1_code 28 = .ok (.aload_n 0, 1) := by decide +kernel
theorem d_Fs_init_29 : decode prog_1_method_1_code 29 = .ok (.new 21, 3) := by decide +kernel
theorem d_Fs_init_32 : decode prog_1_method_1_code 32 = .ok (.dup, 1) := by decide +kernel
theorem d_Fs_init_33 : decode prog_1_method_1_code 33 = .ok (.invokespecial 23, 3) := by decide +kernel
theorem d_Fs_init_36 : decode prog_1_method_1_code 36 = .ok (.putfield 24, 3) := by decide +kernel
theorem d_Fs_init_39 : decode prog_1_method_1_code 39 = .ok (.aload_n 0, 1) := by decide +kernel
theorem d_Fs_init_40 : decode prog_1_method_1_code 40 = .ok (.new 28, 3) := by decide +kernel
theorem d_Fs_init_43 : decode prog_1_method_1_code 43 = .ok (.dup, 1) := by decide +kernel
theorem d_Fs_init_44 : decode prog_1_method_1_code 44 = .ok (.invokespecial 30, 3) := by decide +kernel
theorem d_Fs_init_47 : decode prog_1_method_1_code 47 = .ok (.putfield 31, 3) := by decide +kernel
theorem d_Fs_init_50 : decode prog_1_method_1_code 50 = .ok (.return_, 1) := by decide +kernel
theorem q_Fs_init : (⟨"FlowShelf", "<init>", "()V"⟩ : MethodName).cls ≠ "java/lang/invoke/MethodHandle" ∧ (⟨"FlowShelf", "<init>", "()V"⟩ : MethodName).cls ≠ "java/lang/invoke/VarHandle" ∧ (parseMethodDescriptor (⟨"FlowShelf", "<init>", "()V"⟩ : MethodName).desc).map (fun d => d.parameters.length) = some 0 := by decide +kernel
set_option maxHeartbeats 4000000 in
set_option maxRecDepth 100000 in
theorem m_Fs_init (X : fs_X) (l : Launch) (a0 : Nat) {r : Unit} {σ σF : fs_S} (h : (f_Fs_init a0).1 σ = some (r, σF)) : fs_Met X l ⟨"FlowShelf", "<init>", "()V"⟩ (Cond.code ⟨"FlowShelf", "<init>", "()V"⟩ prog_1_method_1_code 1 none) 6 112 [.ref a0] σ (fs_eV r) σF := by
  refine fs_ofW (by decide) ?_
  intro p e s m args below meth c s₁ B hml hT hv
  obtain ⟨rfl, hw0, hG⟩ := hv
  have hx := B.exec
  have hb := B.bytes
  have hr := B.returns
  have hk := B.notSynchronized
  have hin : meth.name = "<init>" := (name_of_methodNamed B.named B.method).1
  have S : CallFix p m c prog_1_method_1_code 1 s _ fs_ws "FlowShelf" := ⟨B.exec, B.bytes, hml, findClass_of_methodNamed B.named, fun w hw => atoms_spec (ws := _ :: fs_ws) B.pre w (List.mem_cons_of_mem _ hw)⟩
  have hR := fs_hR (fr := 6) (lo := 112) ((f_Fs_init a0).2 _ _ _ h)
  have hl := lv_entry ([.ref a0]) (n := 1) (Nat.le_of_ble_eq_true rfl)
  rw [lg_entry_eq]
  generalize (lg_sl ([.ref a0]) ++ List.replicate (1 - (lg_sl ([.ref a0])).length) Slot.unset).toArray = ls at hl ⊢
  have hl : lv_has ls 1 [(0, .ref a0)] := hl
  refine (?_ : fs_J X p l e (fs_rm 6 112 σ σF) s m _ below meth c (fs_Q X below _ s (fs_eV r) σ σF) r σ σF (f_Fs_init a0) (F0 m 0 ls [])) σ s.heap [] 0 0 h hw0 va_S.rf rfl rfl
  clear h hw0
  unfold f_Fs_init
  refine fs_lift (fun _ _ _ _ => lv_aload_n hx hb d_Fs_init_0 rfl (lv_at hl 0 rfl)) ?_
  refine fs_JO S tw_1_34 tw_1_35 tw_1_36 hl.1 (Nat.le_of_ble_eq_true rfl) (Nat.le_of_ble_eq_true rfl) d_Fs_init_1 ?_
  refine fs_Jeq (g2 := F0 m 4 ls []) rfl ?_
  refine fs_lift (fun _ _ _ _ => lv_aload_n hx hb d_Fs_init_4 rfl (lv_at hl 0 rfl)) ?_
  refine fs_Jnw S hG hR fs_in1 rfl fs_Y1 fs_ty1 fs_dv1 rfl tw_1_37 tw_1_38 tw_1_2 d_Fs_init_5 (fun r1 => ?_)
  refine fs_lift (fun _ _ _ _ => lv_dup hx hb d_Fs_init_8 rfl) ?_
  refine fs_lift (fun _ _ _ _ => lv_iconst (v := 0) hx hb d_Fs_init_9 (by decide)) ?_
  refine fs_JI S hG hR [.int 0] (fun zr zs zt zh => m_Exporter_init X l r1 0 zh) tw_1_39 tw_1_40 tw_1_41 tw_1_2 rfl q_Exporter_init ⟨(Nat.le_of_ble_eq_true rfl), (Nat.le_of_ble_eq_true rfl)⟩ hl.1 rfl (Nat.le_of_ble_eq_true rfl) d_Fs_init_10 ?_
  refine fs_Jeq (g2 := F0 m 13 ls [.ref r1, .ref a0]) rfl ?_
  refine fs_Jput S hG fs_in0 rfl 0 (Nat.le_of_ble_eq_true rfl) tw_2_7 (fun _ h9 => h9) fs_Y0 fs_ty0 fs_nm0 (Or.inr ⟨rfl, hin, rfl⟩) rfl rfl d_Fs_init_13 ?_
  refine fs_lift (fun _ _ _ _ => lv_aload_n hx hb d_Fs_init_16 rfl (lv_at hl 0 rfl)) ?_
  refine fs_Jnw S hG hR fs_in1 rfl fs_Y1 fs_ty1 fs_dv1 rfl tw_1_37 tw_1_38 tw_1_2 d_Fs_init_17 (fun r2 => ?_)
  refine fs_lift (fun _ _ _ _ => lv_dup hx hb d_Fs_init_20 rfl) ?_
  refine fs_lift (fun _ _ _ _ => lv_iconst (v := 1) hx hb d_Fs_init_21 (by decide)) ?_
  refine fs_JI S hG hR [.int 1] (fun zr zs zt zh => m_Exporter_init X l r2 1 zh) tw_1_39 tw_1_40 tw_1_41 tw_1_2 rfl q_Exporter_init ⟨(Nat.le_of_ble_eq_true rfl), (Nat.le_of_ble_eq_true rfl)⟩ hl.1 rfl (Nat.le_of_ble_eq_true rfl) d_Fs_init_22 ?_
  refine fs_Jeq (g2 := F0 m 25 ls [.ref r2, .ref a0]) rfl ?_
  refine fs_Jput S hG fs_in0 rfl 1 (Nat.le_of_ble_eq_true rfl) tw_2_8 (fun _ h9 => h9) fs_Y0 fs_ty0 fs_nm0 (Or.inr ⟨rfl, hin, rfl⟩) rfl rfl d_Fs_init_25 ?_
  refine fs_lift (fun _ _ _ _ => lv_aload_n hx hb d_Fs_init_28 rfl (lv_at hl 0 rfl)) ?_
  refine fs_Jnw S hG hR fs_in2 rfl fs_Y2 fs_ty2 fs_dv2 rfl tw_1_165 tw_1_44 tw_1_5 d_Fs_init_29 (fun r3 => ?_)
  refine fs_lift (fun _ _ _ _ => lv_dup hx hb d_Fs_init_32 rfl) ?_
  refine fs_JI S hG hR [] (fun zr zs zt zh => m_ArrayList_init X l r3 zh) tw_1_166 tw_1_46 tw_1_47 tw_1_5 rfl q_ArrayList_init ⟨(Nat.le_of_ble_eq_true rfl), (Nat.le_of_ble_eq_true rfl)⟩ hl.1 rfl (Nat.le_of_ble_eq_true rfl) d_Fs_init_33 ?_
  refine fs_Jeq (g2 := F0 m 36 ls [.ref r3, .ref a0]) rfl ?_
  refine fs_Jput S hG fs_in0 rfl 2 (Nat.le_of_ble_eq_true rfl) tw_2_9 (fun _ h9 => h9) fs_Y0 fs_ty0 fs_nm0 (Or.inr ⟨rfl, hin, rfl⟩) rfl rfl d_Fs_init_36 ?_
  refine fs_lift (fun _ _ _ _ => lv_aload_n hx hb d_Fs_init_39 rfl (lv_at hl 0 rfl)) ?_
  refine fs_Jnw S hG hR fs_in5 rfl fs_Y5 fs_ty5 fs_dv5 rfl tw_1_167 tw_1_168 tw_1_8 d_Fs_init_40 (fun r4 => ?_)
  refine fs_lift (fun _ _ _ _ => lv_dup hx hb d_Fs_init_43 rfl) ?_
  refine fs_JIN S hG hR [] (fun zr zs zt zh => m_Collector_init X l r4 zh) tb_1_169 tw_1_170 tw_1_171 tw_1_8 rfl q_Collector_init ⟨(Nat.le_of_ble_eq_true rfl), (Nat.le_of_ble_eq_true rfl)⟩ hl.1 rfl (Nat.le_of_ble_eq_true rfl) d_Fs_init_44 ?_
  refine fs_Jeq (g2 := F0 m 47 ls [.ref r4, .ref a0]) rfl ?_
  refine fs_Jput S hG fs_in0 rfl 3 (Nat.le_of_ble_eq_true rfl) tw_2_10 (fun _ h9 => h9) fs_Y0 fs_ty0 fs_nm0 (Or.inr ⟨rfl, hin, rfl⟩) rfl rfl d_Fs_init_47 ?_
  exact fs_Jvret S hr hk rfl d_Fs_init_50

theorem d_ArrayList_size_0 : decode prog_29_method_8_code 0 = .ok (.aload_n 0, 1) := by decide +kernel
theorem d_ArrayList_size_1 : decode prog_29_method_8_code 1 = .ok (.getfield 48, 3) := by decide +kernel
theorem d_ArrayList_size_4 : decode prog_29_method_8_code 4 = .ok (.ireturn, 1) := by decide +kernel
theorem q_ArrayList_size : (⟨"java/util/ArrayList", "size", "()I"⟩ : MethodName).cls ≠ "java/lang/invoke/MethodHandle" ∧ (⟨"java/util/ArrayList", "size", "()I"⟩ : MethodName).cls ≠ "java/lang/invoke/VarHandle" ∧ (parseMethodDescriptor (⟨"java/util/ArrayList", "size", "()I"⟩ : MethodName).desc).map (fun d => d.parameters.length) = some 0 := by decide +kernel
set_option maxHeartbeats 4000000 in
set_option maxRecDepth 100000 in
theorem m_ArrayList_size (X : fs_X) (l : Launch) (a0 : Nat) {r : Int32} {σ σF : fs_S} (h : (f_ArrayList_size a0).1 σ = some (r, σF)) : fs_Met X l ⟨"java/util/ArrayList", "size", "()I"⟩ (Cond.code ⟨"java/util/ArrayList", "size", "()I"⟩ prog_29_method_8_code 1 (some FieldType.int)) 0 0 [.ref a0] σ (fs_eI r) σF := by
  refine fs_ofW (by decide) ?_
  intro p e s m args below meth c s₁ B hml hT hv
  obtain ⟨rfl, hw0, hG⟩ := hv
  have hx := B.exec
  have hb := B.bytes
  have hr := B.returns
  have hk := B.notSynchronized
  have S : CallFix p m c prog_29_method_8_code 1 s _ fs_ws "java/util/ArrayList" := ⟨B.exec, B.bytes, hml, findClass_of_methodNamed B.named, fun w hw => atoms_spec (ws := _ :: fs_ws) B.pre w (List.mem_cons_of_mem _ hw)⟩
  have hR := fs_hR (fr := 0) (lo := 0) ((f_ArrayList_size a0).2 _ _ _ h)
  have hl := lv_entry ([.ref a0]) (n := 1) (Nat.le_of_ble_eq_true rfl)
  rw [lg_entry_eq]
  generalize (lg_sl ([.ref a0]) ++ List.replicate (1 - (lg_sl ([.ref a0])).length) Slot.unset).toArray = ls at hl ⊢
  have hl : lv_has ls 1 [(0, .ref a0)] := hl
  refine (?_ : fs_J X p l e (fs_rm 0 0 σ σF) s m _ below meth c (fs_Q X below _ s (fs_eI r) σ σF) r σ σF (f_ArrayList_size a0) (F0 m 0 ls [])) σ s.heap [] 0 0 h hw0 va_S.rf rfl rfl
  clear h hw0
  unfold f_ArrayList_size
  refine fs_lift (fun _ _ _ _ => lv_aload_n hx hb d_ArrayList_size_0 rfl (lv_at hl 0 rfl)) ?_
  refine fs_Jgi S hG fs_in2 rfl 1 (Nat.le_of_ble_eq_true rfl) tw_1_58 (fun _ h9 => h9) d_ArrayList_size_1 (fun v1 => ?_)
  exact fs_Jiret S hr hk rfl d_ArrayList_size_4

theorem d_Fs_isReport_0 : decode prog_1_method_29_code 0 = .ok (.iload_n 1, 1) := by decide +kernel
theorem d_Fs_isReport_1 : decode prog_1_method_29_code 1 = .ok (.ifCond .lt 18, 3) := by decide +kernel
theorem d_Fs_isReport_4 : decode prog_1_method_29_code 4 = .ok (.iload_n 1, 1) := by decide +kernel
theorem d_Fs_isReport_5 : decode prog_1_method_29_code 5 = .ok (.aload_n 0, 1) := by decide +kernel
theorem d_Fs_isReport_6 : decode prog_1_method_29_code 6 = .ok (.getfield 24, 3) := by decide +kernel
theorem d_Fs_isReport_9 : decode prog_1_method_29_code 9 = .ok (.invokevirtual 88, 3) := by decide +kernel
theorem d_Fs_isReport_12 : decode prog_1_method_29_code 12 = .ok (.if_icmp .ge 7, 3) := by decide +kernel
theorem d_Fs_isReport_15 : decode prog_1_method_29_code 15 = .ok (.iconst 1, 1) := by decide +kernel
theorem d_Fs_isReport_16 : decode prog_1_method_29_code 16 = .ok (.goto 4, 3) := by decide +kernel
theorem d_Fs_isReport_19 : decode prog_1_method_29_code 19 = .ok (.iconst 0, 1) := by decide +kernel
theorem d_Fs_isReport_20 : decode prog_1_method_29_code 20 = .ok (.ireturn, 1) := by decide +kernel
theorem q_Fs_isReport : (⟨"FlowShelf", "isReport", "(I)Z"⟩ : MethodName).cls ≠ "java/lang/invoke/MethodHandle" ∧ (⟨"FlowShelf", "isReport", "(I)Z"⟩ : MethodName).cls ≠ "java/lang/invoke/VarHandle" ∧ (parseMethodDescriptor (⟨"FlowShelf", "isReport", "(I)Z"⟩ : MethodName).desc).map (fun d => d.parameters.length) = some 1 := by decide +kernel
set_option maxHeartbeats 4000000 in
set_option maxRecDepth 100000 in
theorem m_Fs_isReport (X : fs_X) (l : Launch) (a0 : Nat) (x1 : Int32) {r : Int32} {σ σF : fs_S} (h : (f_Fs_isReport a0 x1).1 σ = some (r, σF)) : fs_Met X l ⟨"FlowShelf", "isReport", "(I)Z"⟩ (Cond.code ⟨"FlowShelf", "isReport", "(I)Z"⟩ prog_1_method_29_code 2 (some FieldType.boolean)) 1 20 [.ref a0, .int x1] σ (fs_eI r) σF := by
  refine fs_ofW (by decide) ?_
  intro p e s m args below meth c s₁ B hml hT hv
  obtain ⟨rfl, hw0, hG⟩ := hv
  have hx := B.exec
  have hb := B.bytes
  have hr := B.returns
  have hk := B.notSynchronized
  have S : CallFix p m c prog_1_method_29_code 2 s _ fs_ws "FlowShelf" := ⟨B.exec, B.bytes, hml, findClass_of_methodNamed B.named, fun w hw => atoms_spec (ws := _ :: fs_ws) B.pre w (List.mem_cons_of_mem _ hw)⟩
  have hR := fs_hR (fr := 1) (lo := 20) ((f_Fs_isReport a0 x1).2 _ _ _ h)
  have hl := lv_entry ([.ref a0, .int x1]) (n := 2) (Nat.le_of_ble_eq_true rfl)
  rw [lg_entry_eq]
  generalize (lg_sl ([.ref a0, .int x1]) ++ List.replicate (2 - (lg_sl ([.ref a0, .int x1])).length) Slot.unset).toArray = ls at hl ⊢
  have hl : lv_has ls 2 [(0, .ref a0), (1, .int x1)] := hl
  refine (?_ : fs_J X p l e (fs_rm 1 20 σ σF) s m _ below meth c (fs_Q X below _ s (fs_eI r) σ σF) r σ σF (f_Fs_isReport a0 x1) (F0 m 0 ls [])) σ s.heap [] 0 0 h hw0 va_S.rf rfl rfl
  clear h hw0
  unfold f_Fs_isReport
  refine fs_lift (fun _ _ _ _ => lv_iload_n hx hb d_Fs_isReport_0 rfl (lv_at hl 1 rfl)) ?_
  refine fs_if (fun _ _ _ _ => lv_if_lt hx hb d_Fs_isReport_1 rfl) ?_ ?_
  · refine fs_lift (fun _ _ _ _ => lv_iconst (v := 0) hx hb d_Fs_isReport_19 (by decide)) ?_
    exact fs_Jzret S hr hk rfl d_Fs_isReport_20
  · refine fs_lift (fun _ _ _ _ => lv_iload_n hx hb d_Fs_isReport_4 rfl (lv_at hl 1 rfl)) ?_
    refine fs_lift (fun _ _ _ _ => lv_aload_n hx hb d_Fs_isReport_5 rfl (lv_at hl 0 rfl)) ?_
    refine fs_Jgr S hG fs_in0 rfl 2 (Nat.le_of_ble_eq_true rfl) tw_2_9 (fun _ h9 => h9) d_Fs_isReport_6 (fun r1 => ?_)
    refine fs_JV S hG hR rfl [] (enc := fun r => some (.int r)) (fun zr zs zt zh => m_ArrayList_size X l r1 zh) tw_2_28 tw_2_29 tw_2_30 tw_2_31 tw_1_5 q_ArrayList_size ⟨(Nat.le_of_ble_eq_true rfl), (Nat.le_of_ble_eq_true rfl)⟩ hl.1 rfl (Nat.le_of_ble_eq_true rfl) d_Fs_isReport_9 (fun v2 => ?_)
    refine fs_Jeq (g2 := F0 m 12 ls [.int v2, .int x1]) rfl ?_
    refine fs_if (fun _ _ _ _ => lv_icmp_ge hx hb d_Fs_isReport_12 rfl) ?_ ?_
    · refine fs_lift (fun _ _ _ _ => lv_iconst (v := 0) hx hb d_Fs_isReport_19 (by decide)) ?_
      exact fs_Jzret S hr hk rfl d_Fs_isReport_20
    · refine fs_lift (fun _ _ _ _ => lv_iconst (v := 1) hx hb d_Fs_isReport_15 (by decide)) ?_
      refine fs_lift (fun _ _ _ _ => lv_goto hx hb d_Fs_isReport_16 rfl) ?_
      exact fs_Jzret S hr hk rfl d_Fs_isReport_20

theorem d_Preconditions_checkIndex_0 : decode prog_37_method_11_code 0 = .ok (.iload_n 0, 1) := by decide +kernel
theorem d_Preconditions_checkIndex_1 : decode prog_37_method_11_code 1 = .ok (.ifCond .lt 8, 3) := by decide +kernel
theorem d_Preconditions_checkIndex_4 : decode prog_37_method_11_code 4 = .ok (.iload_n 0, 1) := by decide +kernel
theorem d_Preconditions_checkIndex_5 : decode prog_37_method_11_code 5 = .ok (.iload_n 1, 1) := by decide +kernel
theorem d_Preconditions_checkIndex_6 : decode prog_37_method_11_code 6 = .ok (.if_icmp .lt 10, 3) := by decide +kernel
theorem d_Preconditions_checkIndex_16 : decode prog_37_method_11_code 16 = .ok (.iload_n 0, 1) := by decide +kernel
theorem d_Preconditions_checkIndex_17 : decode prog_37_method_11_code 17 = .ok (.ireturn, 1) := by decide +kernel
theorem q_Preconditions_checkIndex : (⟨"jdk/internal/util/Preconditions", "checkIndex", "(IILjava/util/function/BiFunction;)I"⟩ : MethodName).cls ≠ "java/lang/invoke/MethodHandle" ∧ (⟨"jdk/internal/util/Preconditions", "checkIndex", "(IILjava/util/function/BiFunction;)I"⟩ : MethodName).cls ≠ "java/lang/invoke/VarHandle" ∧ (parseMethodDescriptor (⟨"jdk/internal/util/Preconditions", "checkIndex", "(IILjava/util/function/BiFunction;)I"⟩ : MethodName).desc).map (fun d => d.parameters.length) = some 3 := by decide +kernel
set_option maxHeartbeats 4000000 in
set_option maxRecDepth 100000 in
theorem m_Preconditions_checkIndex (X : fs_X) (l : Launch) (x0 : Int32) (x1 : Int32) {r : Int32} {σ σF : fs_S} (h : (f_Preconditions_checkIndex x0 x1).1 σ = some (r, σF)) : fs_Met X l ⟨"jdk/internal/util/Preconditions", "checkIndex", "(IILjava/util/function/BiFunction;)I"⟩ (Cond.code ⟨"jdk/internal/util/Preconditions", "checkIndex", "(IILjava/util/function/BiFunction;)I"⟩ prog_37_method_11_code 3 (some FieldType.int)) 0 0 [.int x0, .int x1, .null] σ (fs_eI r) σF := by
  refine fs_ofW (by decide) ?_
  intro p e s m args below meth c s₁ B hml hT hv
  obtain ⟨rfl, hw0, hG⟩ := hv
  have hx := B.exec
  have hb := B.bytes
  have hr := B.returns
  have hk := B.notSynchronized
  have S : CallFix p m c prog_37_method_11_code 3 s _ fs_ws "jdk/internal/util/Preconditions" := ⟨B.exec, B.bytes, hml, findClass_of_methodNamed B.named, fun w hw => atoms_spec (ws := _ :: fs_ws) B.pre w (List.mem_cons_of_mem _ hw)⟩
  have hR := fs_hR (fr := 0) (lo := 0) ((f_Preconditions_checkIndex x0 x1).2 _ _ _ h)
  have hl := lv_entry ([.int x0, .int x1, .null]) (n := 3) (Nat.le_of_ble_eq_true rfl)
  rw [lg_entry_eq]
  generalize (lg_sl ([.int x0, .int x1, .null]) ++ List.replicate (3 - (lg_sl ([.int x0, .int x1, .null])).length) Slot.unset).toArray = ls at hl ⊢
  have hl : lv_has ls 3 [(0, .int x0), (1, .int x1), (2, .null)] := hl
  refine (?_ : fs_J X p l e (fs_rm 0 0 σ σF) s m _ below meth c (fs_Q X below _ s (fs_eI r) σ σF) r σ σF (f_Preconditions_checkIndex x0 x1) (F0 m 0 ls [])) σ s.heap [] 0 0 h hw0 va_S.rf rfl rfl
  clear h hw0
  unfold f_Preconditions_checkIndex
  refine fs_lift (fun _ _ _ _ => lv_iload_n hx hb d_Preconditions_checkIndex_0 rfl (lv_at hl 0 rfl)) ?_
  refine fs_Jlet1 (nL := 3) (pj := 9) (I := fun (_ : Unit) => [(0, .int x0), (1, .int x1), (2, .null)]) (st := fun (_ : Unit) => []) (fun _ ls hl => ?_) (fun j9 hj9 => ?_)
  · exact fs_Jfail
  · refine fs_if (fun _ _ _ _ => lv_if_lt hx hb d_Preconditions_checkIndex_1 rfl) ?_ ?_
    · exact hj9 () ls (lv_sub hl [0, 1, 2] rfl)
    · refine fs_lift (fun _ _ _ _ => lv_iload_n hx hb d_Preconditions_checkIndex_4 rfl (lv_at hl 0 rfl)) ?_
      refine fs_lift (fun _ _ _ _ => lv_iload_n hx hb d_Preconditions_checkIndex_5 rfl (lv_at hl 1 rfl)) ?_
      refine fs_if (fun _ _ _ _ => lv_icmp_lt hx hb d_Preconditions_checkIndex_6 rfl) ?_ ?_
      · refine fs_lift (fun _ _ _ _ => lv_iload_n hx hb d_Preconditions_checkIndex_16 rfl (lv_at hl 0 rfl)) ?_
        exact fs_Jiret S hr hk rfl d_Preconditions_checkIndex_17
      · exact hj9 () ls (lv_sub hl [0, 1, 2] rfl)

theorem d_Objects_checkIndex_0 : decode prog_33_method_17_code 0 = .ok (.iload_n 0, 1) := by decide +kernel
theorem d_Objects_checkIndex_1 : decode prog_33_method_17_code 1 = .ok (.iload_n 1, 1) := by decide +kernel
theorem d_Objects_checkIndex_2 : decode prog_33_method_17_code 2 = .ok (.aconst_null, 1) := by decide +kernel
theorem d_Objects_checkIndex_3 : decode prog_33_method_17_code 3 = .ok (.invokestatic 105, 3) := by decide +kernel
theorem d_Objects_checkIndex_6 : decode prog_33_method_17_code 6 = .ok (.ireturn, 1) := by decide +kernel
theorem q_Objects_checkIndex : (⟨"java/util/Objects", "checkIndex", "(II)I"⟩ : MethodName).cls ≠ "java/lang/invoke/MethodHandle" ∧ (⟨"java/util/Objects", "checkIndex", "(II)I"⟩ : MethodName).cls ≠ "java/lang/invoke/VarHandle" ∧ (parseMethodDescriptor (⟨"java/util/Objects", "checkIndex", "(II)I"⟩ : MethodName).desc).map (fun d => d.parameters.length) = some 2 := by decide +kernel
set_option maxHeartbeats 4000000 in
set_option maxRecDepth 100000 in
theorem m_Objects_checkIndex (X : fs_X) (l : Launch) (x0 : Int32) (x1 : Int32) {r : Int32} {σ σF : fs_S} (h : (f_Objects_checkIndex x0 x1).1 σ = some (r, σF)) : fs_Met X l ⟨"java/util/Objects", "checkIndex", "(II)I"⟩ (Cond.code ⟨"java/util/Objects", "checkIndex", "(II)I"⟩ prog_33_method_17_code 2 (some FieldType.int)) 1 22 [.int x0, .int x1] σ (fs_eI r) σF := by
  refine fs_ofW (by decide) ?_
  intro p e s m args below meth c s₁ B hml hT hv
  obtain ⟨rfl, hw0, hG⟩ := hv
  have hx := B.exec
  have hb := B.bytes
  have hr := B.returns
  have hk := B.notSynchronized
  have S : CallFix p m c prog_33_method_17_code 2 s _ fs_ws "java/util/Objects" := ⟨B.exec, B.bytes, hml, findClass_of_methodNamed B.named, fun w hw => atoms_spec (ws := _ :: fs_ws) B.pre w (List.mem_cons_of_mem _ hw)⟩
  have hR := fs_hR (fr := 1) (lo := 22) ((f_Objects_checkIndex x0 x1).2 _ _ _ h)
  have hl := lv_entry ([.int x0, .int x1]) (n := 2) (Nat.le_of_ble_eq_true rfl)
  rw [lg_entry_eq]
  generalize (lg_sl ([.int x0, .int x1]) ++ List.replicate (2 - (lg_sl ([.int x0, .int x1])).length) Slot.unset).toArray = ls at hl ⊢
  have hl : lv_has ls 2 [(0, .int x0), (1, .int x1)] := hl
  refine (?_ : fs_J X p l e (fs_rm 1 22 σ σF) s m _ below meth c (fs_Q X below _ s (fs_eI r) σ σF) r σ σF (f_Objects_checkIndex x0 x1) (F0 m 0 ls [])) σ s.heap [] 0 0 h hw0 va_S.rf rfl rfl
  clear h hw0
  unfold f_Objects_checkIndex
  refine fs_lift (fun _ _ _ _ => lv_iload_n hx hb d_Objects_checkIndex_0 rfl (lv_at hl 0 rfl)) ?_
  refine fs_lift (fun _ _ _ _ => lv_iload_n hx hb d_Objects_checkIndex_1 rfl (lv_at hl 1 rfl)) ?_
  refine fs_lift (fun _ _ _ _ => lv_null hx hb d_Objects_checkIndex_2) ?_
  refine fs_JS S hG hR [.int x0, .int x1, .null] (enc := fun r => some (.int r)) (fun zr zs zt zh => m_Preconditions_checkIndex X l x0 x1 zh) tw_2_39 tw_2_40 tw_2_41 tw_1_18 q_Preconditions_checkIndex ⟨(Nat.le_of_ble_eq_true rfl), (Nat.le_of_ble_eq_true rfl)⟩ hl.1 rfl (Nat.le_of_ble_eq_true rfl) d_Objects_checkIndex_3 (fun v1 => ?_)
  refine fs_Jeq (g2 := F0 m 6 ls [.int v1]) rfl ?_
  exact fs_Jiret S hr hk rfl d_Objects_checkIndex_6

theorem d_ArrayList_elementData_0 : decode prog_29_method_18_code 0 = .ok (.aload_n 0, 1) := by decide +kernel
theorem d_ArrayList_elementData_1 : decode prog_29_method_18_code 1 = .ok (.getfield 9, 3) := by decide +kernel
theorem d_ArrayList_elementData_4 : decode prog_29_method_18_code 4 = .ok (.iload_n 1, 1) := by decide +kernel
theorem d_ArrayList_elementData_5 : decode prog_29_method_18_code 5 = .ok (.aaload, 1) := by decide +kernel
theorem d_ArrayList_elementData_6 : decode prog_29_method_18_code 6 = .ok (.areturn, 1) := by decide +kernel
theorem q_ArrayList_elementData : (⟨"java/util/ArrayList", "elementData", "(I)Ljava/lang/Object;"⟩ : MethodName).cls ≠ "java/lang/invoke/MethodHandle" ∧ (⟨"java/util/ArrayList", "elementData", "(I)Ljava/lang/Object;"⟩ : MethodName).cls ≠ "java/lang/invoke/VarHandle" ∧ (parseMethodDescriptor (⟨"java/util/ArrayList", "elementData", "(I)Ljava/lang/Object;"⟩ : MethodName).desc).map (fun d => d.parameters.length) = some 1 := by decide +kernel
set_option maxHeartbeats 4000000 in
set_option maxRecDepth 100000 in
theorem m_ArrayList_elementData (X : fs_X) (l : Launch) (a0 : Nat) (x1 : Int32) {r : Nat} {σ σF : fs_S} (h : (f_ArrayList_elementData a0 x1).1 σ = some (r, σF)) : fs_Met X l ⟨"java/util/ArrayList", "elementData", "(I)Ljava/lang/Object;"⟩ (Cond.code ⟨"java/util/ArrayList", "elementData", "(I)Ljava/lang/Object;"⟩ prog_29_method_18_code 2 (some (FieldType.object "java/lang/Object"))) 0 0 [.ref a0, .int x1] σ (fs_eR r) σF := by
  refine fs_ofW (by decide) ?_
  intro p e s m args below meth c s₁ B hml hT hv
  obtain ⟨rfl, hw0, hG⟩ := hv
  have hx := B.exec
  have hb := B.bytes
  have hr := B.returns
  have hk := B.notSynchronized
  have S : CallFix p m c prog_29_method_18_code 2 s _ fs_ws "java/util/ArrayList" := ⟨B.exec, B.bytes, hml, findClass_of_methodNamed B.named, fun w hw => atoms_spec (ws := _ :: fs_ws) B.pre w (List.mem_cons_of_mem _ hw)⟩
  have hR := fs_hR (fr := 0) (lo := 0) ((f_ArrayList_elementData a0 x1).2 _ _ _ h)
  have hl := lv_entry ([.ref a0, .int x1]) (n := 2) (Nat.le_of_ble_eq_true rfl)
  rw [lg_entry_eq]
  generalize (lg_sl ([.ref a0, .int x1]) ++ List.replicate (2 - (lg_sl ([.ref a0, .int x1])).length) Slot.unset).toArray = ls at hl ⊢
  have hl : lv_has ls 2 [(0, .ref a0), (1, .int x1)] := hl
  refine (?_ : fs_J X p l e (fs_rm 0 0 σ σF) s m _ below meth c (fs_Q X below _ s (fs_eR r) σ σF) r σ σF (f_ArrayList_elementData a0 x1) (F0 m 0 ls [])) σ s.heap [] 0 0 h hw0 va_S.rf rfl rfl
  clear h hw0
  unfold f_ArrayList_elementData
  refine fs_lift (fun _ _ _ _ => lv_aload_n hx hb d_ArrayList_elementData_0 rfl (lv_at hl 0 rfl)) ?_
  refine fs_Jgr S hG fs_in2 rfl 0 (Nat.le_of_ble_eq_true rfl) tw_1_57 (fun _ h9 => h9) d_ArrayList_elementData_1 (fun r1 => ?_)
  refine fs_lift (fun _ _ _ _ => lv_iload_n hx hb d_ArrayList_elementData_4 rfl (lv_at hl 1 rfl)) ?_
  refine fs_Jar S hG d_ArrayList_elementData_5 (fun r2 => ?_)
  exact fs_Jaret S hr (Or.inl ⟨_, rfl⟩) hk rfl d_ArrayList_elementData_6

theorem d_ArrayList_get_0 : decode prog_29_method_20_code 0 = .ok (.iload_n 1, 1) := by decide +kernel
theorem d_ArrayList_get_1 : decode prog_29_method_20_code 1 = .ok (.aload_n 0, 1) := by decide +kernel
theorem d_ArrayList_get_2 : decode prog_29_method_20_code 2 = .ok (.getfield 48, 3) := by decide +kernel
theorem d_ArrayList_get_5 : decode prog_29_method_20_code 5 = .ok (.invokestatic 118, 3) := by decide +kernel
theorem d_ArrayList_get_8 : decode prog_29_method_20_code 8 = .ok (.pop, 1) := by decide +kernel
theorem d_ArrayList_get_9 : decode prog_29_method_20_code 9 = .ok (.aload_n 0, 1) := by decide +kernel
theorem d_ArrayList_get_10 : decode prog_29_method_20_code 10 = .ok (.iload_n 1, 1) := by decide +kernel
theorem d_ArrayList_get_11 : decode prog_29_method_20_code 11 = .ok (.invokevirtual 123, 3) := by decide +kernel
theorem d_ArrayList_get_14 : decode prog_29_method_20_code 14 = .ok (.areturn, 1) := by decide +kernel
theorem q_ArrayList_get : (⟨"java/util/ArrayList", "get", "(I)Ljava/lang/Object;"⟩ : MethodName).cls ≠ "java/lang/invoke/MethodHandle" ∧ (⟨"java/util/ArrayList", "get", "(I)Ljava/lang/Object;"⟩ : MethodName).cls ≠ "java/lang/invoke/VarHandle" ∧ (parseMethodDescriptor (⟨"java/util/ArrayList", "get", "(I)Ljava/lang/Object;"⟩ : MethodName).desc).map (fun d => d.parameters.length) = some 1 := by decide +kernel
set_option maxHeartbeats 4000000 in
set_option maxRecDepth 100000 in
theorem m_ArrayList_get (X : fs_X) (l : Launch) (a0 : Nat) (x1 : Int32) {r : Nat} {σ σF : fs_S} (h : (f_ArrayList_get a0 x1).1 σ = some (r, σF)) : fs_Met X l ⟨"java/util/ArrayList", "get", "(I)Ljava/lang/Object;"⟩ (Cond.code ⟨"java/util/ArrayList", "get", "(I)Ljava/lang/Object;"⟩ prog_29_method_20_code 2 (some (FieldType.object "java/lang/Object"))) 2 43 [.ref a0, .int x1] σ (fs_eR r) σF := by
  refine fs_ofW (by decide) ?_
  intro p e s m args below meth c s₁ B hml hT hv
  obtain ⟨rfl, hw0, hG⟩ := hv
  have hx := B.exec
  have hb := B.bytes
  have hr := B.returns
  have hk := B.notSynchronized
  have S : CallFix p m c prog_29_method_20_code 2 s _ fs_ws "java/util/ArrayList" := ⟨B.exec, B.bytes, hml, findClass_of_methodNamed B.named, fun w hw => atoms_spec (ws := _ :: fs_ws) B.pre w (List.mem_cons_of_mem _ hw)⟩
  have hR := fs_hR (fr := 2) (lo := 43) ((f_ArrayList_get a0 x1).2 _ _ _ h)
  have hl := lv_entry ([.ref a0, .int x1]) (n := 2) (Nat.le_of_ble_eq_true rfl)
  rw [lg_entry_eq]
  generalize (lg_sl ([.ref a0, .int x1]) ++ List.replicate (2 - (lg_sl ([.ref a0, .int x1])).length) Slot.unset).toArray = ls at hl ⊢
  have hl : lv_has ls 2 [(0, .ref a0), (1, .int x1)] := hl
  refine (?_ : fs_J X p l e (fs_rm 2 43 σ σF) s m _ below meth c (fs_Q X below _ s (fs_eR r) σ σF) r σ σF (f_ArrayList_get a0 x1) (F0 m 0 ls [])) σ s.heap [] 0 0 h hw0 va_S.rf rfl rfl
  clear h hw0
  unfold f_ArrayList_get
  refine fs_lift (fun _ _ _ _ => lv_iload_n hx hb d_ArrayList_get_0 rfl (lv_at hl 1 rfl)) ?_
  refine fs_lift (fun _ _ _ _ => lv_aload_n hx hb d_ArrayList_get_1 rfl (lv_at hl 0 rfl)) ?_
  refine fs_Jgi S hG fs_in2 rfl 1 (Nat.le_of_ble_eq_true rfl) tw_1_58 (fun _ h9 => h9) d_ArrayList_get_2 (fun v1 => ?_)
  refine fs_JS S hG hR [.int x1, .int v1] (enc := fun r => some (.int r)) (fun zr zs zt zh => m_Objects_checkIndex X l x1 v1 zh) tw_2_36 tw_2_37 tw_2_38 tw_1_17 q_Objects_checkIndex ⟨(Nat.le_of_ble_eq_true rfl), (Nat.le_of_ble_eq_true rfl)⟩ hl.1 rfl (Nat.le_of_ble_eq_true rfl) d_ArrayList_get_5 (fun v2 => ?_)
  refine fs_Jeq (g2 := F0 m 8 ls [.int v2]) rfl ?_
  refine fs_lift (fun _ _ _ _ => lv_pop hx hb d_ArrayList_get_8 rfl) ?_
  refine fs_lift (fun _ _ _ _ => lv_aload_n hx hb d_ArrayList_get_9 rfl (lv_at hl 0 rfl)) ?_
  refine fs_lift (fun _ _ _ _ => lv_iload_n hx hb d_ArrayList_get_10 rfl (lv_at hl 1 rfl)) ?_
  refine fs_JV S hG hR rfl [.int x1] (enc := fun r => some (.ref r)) (fun zr zs zt zh => m_ArrayList_elementData X l a0 x1 zh) tw_2_42 tw_2_43 tw_2_44 tw_2_45 tw_1_5 q_ArrayList_elementData ⟨(Nat.le_of_ble_eq_true rfl), (Nat.le_of_ble_eq_true rfl)⟩ hl.1 rfl (Nat.le_of_ble_eq_true rfl) d_ArrayList_get_11 (fun r3 => ?_)
  refine fs_Jeq (g2 := F0 m 14 ls [.ref r3]) rfl ?_
  exact fs_Jaret S hr (Or.inl ⟨_, rfl⟩) hk rfl d_ArrayList_get_14

theorem d_Fs_size_0 : decode prog_1_method_14_code 0 = .ok (.aload_n 0, 1) := by decide +kernel
theorem d_Fs_size_1 : decode prog_1_method_14_code 1 = .ok (.iload_n 1, 1) := by decide +kernel
theorem d_Fs_size_2 : decode prog_1_method_14_code 2 = .ok (.invokevirtual 201, 3) := by decide +kernel
theorem d_Fs_size_5 : decode prog_1_method_14_code 5 = .ok (.ifCond .eq 20, 3) := by decide +kernel
theorem d_Fs_size_8 : decode prog_1_method_14_code 8 = .ok (.aload_n 0, 1) := by decide +kernel
theorem d_Fs_size_9 : decode prog_1_method_14_code 9 = .ok (.getfield 24, 3) := by decide +kernel
theorem d_Fs_size_12 : decode prog_1_method_14_code 12 = .ok (.iload_n 1, 1) := by decide +kernel
theorem d_Fs_size_13 : decode prog_1_method_14_code 13 = .ok (.invokevirtual 96, 3) := by decide +kernel
theorem d_Fs_size_16 : decode prog_1_method_14_code 16 = .ok (.checkcast 204, 3) := by decide +kernel
theorem d_Fs_size_19 : decode prog_1_method_14_code 19 = .ok (.getfield 206, 3) := by decide +kernel
theorem d_Fs_size_22 : decode prog_1_method_14_code 22 = .ok (.goto 4, 3) := by decide +kernel
theorem d_Fs_size_25 : decode prog_1_method_14_code 25 = .ok (.iconst (-1), 1) := by decide +kernel
theorem d_Fs_size_26 : decode prog_1_method_14_code 26 = .ok (.ireturn, 1) := by decide +kernel
theorem q_Fs_size : (⟨"FlowShelf", "size", "(I)I"⟩ : MethodName).cls ≠ "java/lang/invoke/MethodHandle" ∧ (⟨"FlowShelf", "size", "(I)I"⟩ : MethodName).cls ≠ "java/lang/invoke/VarHandle" ∧ (parseMethodDescriptor (⟨"FlowShelf", "size", "(I)I"⟩ : MethodName).desc).map (fun d => d.parameters.length) = some 1 := by decide +kernel
set_option maxHeartbeats 4000000 in
set_option maxRecDepth 100000 in
theorem m_Fs_size (X : fs_X) (l : Launch) (a0 : Nat) (x1 : Int32) {r : Int32} {σ σF : fs_S} (h : (f_Fs_size a0 x1).1 σ = some (r, σF)) : fs_Met X l ⟨"FlowShelf", "size", "(I)I"⟩ (Cond.code ⟨"FlowShelf", "size", "(I)I"⟩ prog_1_method_14_code 2 (some FieldType.int)) 3 64 [.ref a0, .int x1] σ (fs_eI r) σF := by
  refine fs_ofW (by decide) ?_
  intro p e s m args below meth c s₁ B hml hT hv
  obtain ⟨rfl, hw0, hG⟩ := hv
  have hx := B.exec
  have hb := B.bytes
  have hr := B.returns
  have hk := B.notSynchronized
  have S : CallFix p m c prog_1_method_14_code 2 s _ fs_ws "FlowShelf" := ⟨B.exec, B.bytes, hml, findClass_of_methodNamed B.named, fun w hw => atoms_spec (ws := _ :: fs_ws) B.pre w (List.mem_cons_of_mem _ hw)⟩
  have hR := fs_hR (fr := 3) (lo := 64) ((f_Fs_size a0 x1).2 _ _ _ h)
  have hl := lv_entry ([.ref a0, .int x1]) (n := 2) (Nat.le_of_ble_eq_true rfl)
  rw [lg_entry_eq]
  generalize (lg_sl ([.ref a0, .int x1]) ++ List.replicate (2 - (lg_sl ([.ref a0, .int x1])).length) Slot.unset).toArray = ls at hl ⊢
  have hl : lv_has ls 2 [(0, .ref a0), (1, .int x1)] := hl
  refine (?_ : fs_J X p l e (fs_rm 3 64 σ σF) s m _ below meth c (fs_Q X below _ s (fs_eI r) σ σF) r σ σF (f_Fs_size a0 x1) (F0 m 0 ls [])) σ s.heap [] 0 0 h hw0 va_S.rf rfl rfl
  clear h hw0
  unfold f_Fs_size
  refine fs_lift (fun _ _ _ _ => lv_aload_n hx hb d_Fs_size_0 rfl (lv_at hl 0 rfl)) ?_
  refine fs_lift (fun _ _ _ _ => lv_iload_n hx hb d_Fs_size_1 rfl (lv_at hl 1 rfl)) ?_
  refine fs_JV S hG hR rfl [.int x1] (enc := fun r => some (.int r)) (fun zr zs zt zh => m_Fs_isReport X l a0 x1 zh) tw_2_24 tw_2_26 tp_1_0 tw_2_27 tw_1_1 q_Fs_isReport ⟨(Nat.le_of_ble_eq_true rfl), (Nat.le_of_ble_eq_true rfl)⟩ hl.1 rfl (Nat.le_of_ble_eq_true rfl) d_Fs_size_2 (fun v1 => ?_)
  refine fs_Jeq (g2 := F0 m 5 ls [.int v1]) rfl ?_
  refine fs_if (fun _ _ _ _ => lv_if_eq hx hb d_Fs_size_5 rfl) ?_ ?_
  · refine fs_lift (fun _ _ _ _ => lv_iconst (v := (-1)) hx hb d_Fs_size_25 (by decide)) ?_
    exact fs_Jiret S hr hk rfl d_Fs_size_26
  · refine fs_lift (fun _ _ _ _ => lv_aload_n hx hb d_Fs_size_8 rfl (lv_at hl 0 rfl)) ?_
    refine fs_Jgr S hG fs_in0 rfl 2 (Nat.le_of_ble_eq_true rfl) tw_2_9 (fun _ h9 => h9) d_Fs_size_9 (fun r2 => ?_)
    refine fs_lift (fun _ _ _ _ => lv_iload_n hx hb d_Fs_size_12 rfl (lv_at hl 1 rfl)) ?_
    refine fs_JV S hG hR rfl [.int x1] (enc := fun r => some (.ref r)) (fun zr zs zt zh => m_ArrayList_get X l r2 x1 zh) tw_2_32 tw_2_33 tw_2_34 tw_2_35 tw_1_5 q_ArrayList_get ⟨(Nat.le_of_ble_eq_true rfl), (Nat.le_of_ble_eq_true rfl)⟩ hl.1 rfl (Nat.le_of_ble_eq_true rfl) d_Fs_size_13 (fun r3 => ?_)
    refine fs_Jeq (g2 := F0 m 16 ls [.ref r3]) rfl ?_
    refine fs_Jck S hG rfl tw_2_46 tb_7_81 d_Fs_size_16 ?_
    refine fs_Jgi S hG fs_in9 rfl 1 (Nat.le_of_ble_eq_true rfl) tw_3_230 (fun _ h9 => h9) d_Fs_size_19 (fun v4 => ?_)
    refine fs_lift (fun _ _ _ _ => lv_goto hx hb d_Fs_size_22 rfl) ?_
    exact fs_Jiret S hr hk rfl d_Fs_size_26

theorem d_Fs_rows_0 : decode prog_1_method_18_code 0 = .ok (.aload_n 0, 1) := by decide +kernel
theorem d_Fs_rows_1 : decode prog_1_method_18_code 1 = .ok (.getfield 31, 3) := by decide +kernel
theorem d_Fs_rows_4 : decode prog_1_method_18_code 4 = .ok (.getfield 247, 3) := by decide +kernel
theorem d_Fs_rows_7 : decode prog_1_method_18_code 7 = .ok (.getfield 251, 3) := by decide +kernel
theorem d_Fs_rows_10 : decode prog_1_method_18_code 10 = .ok (.invokevirtual 88, 3) := by decide +kernel
theorem d_Fs_rows_13 : decode prog_1_method_18_code 13 = .ok (.ireturn, 1) := by decide +kernel
theorem q_Fs_rows : (⟨"FlowShelf", "rows", "()I"⟩ : MethodName).cls ≠ "java/lang/invoke/MethodHandle" ∧ (⟨"FlowShelf", "rows", "()I"⟩ : MethodName).cls ≠ "java/lang/invoke/VarHandle" ∧ (parseMethodDescriptor (⟨"FlowShelf", "rows", "()I"⟩ : MethodName).desc).map (fun d => d.parameters.length) = some 0 := by decide +kernel
set_option maxHeartbeats 4000000 in
set_option maxRecDepth 100000 in
theorem m_Fs_rows (X : fs_X) (l : Launch) (a0 : Nat) {r : Int32} {σ σF : fs_S} (h : (f_Fs_rows a0).1 σ = some (r, σF)) : fs_Met X l ⟨"FlowShelf", "rows", "()I"⟩ (Cond.code ⟨"FlowShelf", "rows", "()I"⟩ prog_1_method_18_code 1 (some FieldType.int)) 1 20 [.ref a0] σ (fs_eI r) σF := by
  refine fs_ofW (by decide) ?_
  intro p e s m args below meth c s₁ B hml hT hv
  obtain ⟨rfl, hw0, hG⟩ := hv
  have hx := B.exec
  have hb := B.bytes
  have hr := B.returns
  have hk := B.notSynchronized
  have S : CallFix p m c prog_1_method_18_code 1 s _ fs_ws "FlowShelf" := ⟨B.exec, B.bytes, hml, findClass_of_methodNamed B.named, fun w hw => atoms_spec (ws := _ :: fs_ws) B.pre w (List.mem_cons_of_mem _ hw)⟩
  have hR := fs_hR (fr := 1) (lo := 20) ((f_Fs_rows a0).2 _ _ _ h)
  have hl := lv_entry ([.ref a0]) (n := 1) (Nat.le_of_ble_eq_true rfl)
  rw [lg_entry_eq]
  generalize (lg_sl ([.ref a0]) ++ List.replicate (1 - (lg_sl ([.ref a0])).length) Slot.unset).toArray = ls at hl ⊢
  have hl : lv_has ls 1 [(0, .ref a0)] := hl
  refine (?_ : fs_J X p l e (fs_rm 1 20 σ σF) s m _ below meth c (fs_Q X below _ s (fs_eI r) σ σF) r σ σF (f_Fs_rows a0) (F0 m 0 ls [])) σ s.heap [] 0 0 h hw0 va_S.rf rfl rfl
  clear h hw0
  unfold f_Fs_rows
  refine fs_lift (fun _ _ _ _ => lv_aload_n hx hb d_Fs_rows_0 rfl (lv_at hl 0 rfl)) ?_
  refine fs_Jgr S hG fs_in0 rfl 3 (Nat.le_of_ble_eq_true rfl) tw_2_10 (fun _ h9 => h9) d_Fs_rows_1 (fun r1 => ?_)
  refine fs_Jgr S hG fs_in5 rfl 2 (Nat.le_of_ble_eq_true rfl) tw_1_233 (fun _ h9 => h9) d_Fs_rows_4 (fun r2 => ?_)
  refine fs_Jgr S hG fs_in6 rfl 0 (Nat.le_of_ble_eq_true rfl) tw_1_185 (fun _ h9 => h9) d_Fs_rows_7 (fun r3 => ?_)
  refine fs_JV S hG hR rfl [] (enc := fun r => some (.int r)) (fun zr zs zt zh => m_ArrayList_size X l r3 zh) tw_2_28 tw_2_29 tw_2_30 tw_2_31 tw_1_5 q_ArrayList_size ⟨(Nat.le_of_ble_eq_true rfl), (Nat.le_of_ble_eq_true rfl)⟩ hl.1 rfl (Nat.le_of_ble_eq_true rfl) d_Fs_rows_10 (fun v4 => ?_)
  refine fs_Jeq (g2 := F0 m 13 ls [.int v4]) rfl ?_
  exact fs_Jiret S hr hk rfl d_Fs_rows_13

theorem d_Fs_isExporter_0 : decode prog_1_method_23_code 0 = .ok (.iload_n 0, 1) := by decide +kernel
theorem d_Fs_isExporter_1 : decode prog_1_method_23_code 1 = .ok (.ifCond .eq 8, 3) := by decide +kernel
theorem d_Fs_isExporter_4 : decode prog_1_method_23_code 4 = .ok (.iload_n 0, 1) := by decide +kernel
theorem d_Fs_isExporter_5 : decode prog_1_method_23_code 5 = .ok (.iconst 1, 1) := by decide +kernel
theorem d_Fs_isExporter_6 : decode prog_1_method_23_code 6 = .ok (.if_icmp .ne 7, 3) := by decide +kernel
theorem d_Fs_isExporter_9 : decode prog_1_method_23_code 9 = .ok (.iconst 1, 1) := by decide +kernel
theorem d_Fs_isExporter_10 : decode prog_1_method_23_code 10 = .ok (.goto 4, 3) := by decide +kernel
theorem d_Fs_isExporter_13 : decode prog_1_method_23_code 13 = .ok (.iconst 0, 1) := by decide +kernel
theorem d_Fs_isExporter_14 : decode prog_1_method_23_code 14 = .ok (.ireturn, 1) := by decide +kernel
theorem q_Fs_isExporter : (⟨"FlowShelf", "isExporter", "(I)Z"⟩ : MethodName).cls ≠ "java/lang/invoke/MethodHandle" ∧ (⟨"FlowShelf", "isExporter", "(I)Z"⟩ : MethodName).cls ≠ "java/lang/invoke/VarHandle" ∧ (parseMethodDescriptor (⟨"FlowShelf", "isExporter", "(I)Z"⟩ : MethodName).desc).map (fun d => d.parameters.length) = some 1 := by decide +kernel
set_option maxHeartbeats 4000000 in
set_option maxRecDepth 100000 in
theorem m_Fs_isExporter (X : fs_X) (l : Launch) (x0 : Int32) {r : Int32} {σ σF : fs_S} (h : (f_Fs_isExporter x0).1 σ = some (r, σF)) : fs_Met X l ⟨"FlowShelf", "isExporter", "(I)Z"⟩ (Cond.code ⟨"FlowShelf", "isExporter", "(I)Z"⟩ prog_1_method_23_code 1 (some FieldType.boolean)) 0 0 [.int x0] σ (fs_eI r) σF := by
  refine fs_ofW (by decide) ?_
  intro p e s m args below meth c s₁ B hml hT hv
  obtain ⟨rfl, hw0, hG⟩ := hv
  have hx := B.exec
  have hb := B.bytes
  have hr := B.returns
  have hk := B.notSynchronized
  have S : CallFix p m c prog_1_method_23_code 1 s _ fs_ws "FlowShelf" := ⟨B.exec, B.bytes, hml, findClass_of_methodNamed B.named, fun w hw => atoms_spec (ws := _ :: fs_ws) B.pre w (List.mem_cons_of_mem _ hw)⟩
  have hR := fs_hR (fr := 0) (lo := 0) ((f_Fs_isExporter x0).2 _ _ _ h)
  have hl := lv_entry ([.int x0]) (n := 1) (Nat.le_of_ble_eq_true rfl)
  rw [lg_entry_eq]
  generalize (lg_sl ([.int x0]) ++ List.replicate (1 - (lg_sl ([.int x0])).length) Slot.unset).toArray = ls at hl ⊢
  have hl : lv_has ls 1 [(0, .int x0)] := hl
  refine (?_ : fs_J X p l e (fs_rm 0 0 σ σF) s m _ below meth c (fs_Q X below _ s (fs_eI r) σ σF) r σ σF (f_Fs_isExporter x0) (F0 m 0 ls [])) σ s.heap [] 0 0 h hw0 va_S.rf rfl rfl
  clear h hw0
  unfold f_Fs_isExporter
  refine fs_lift (fun _ _ _ _ => lv_iload_n hx hb d_Fs_isExporter_0 rfl (lv_at hl 0 rfl)) ?_
  refine fs_if (fun _ _ _ _ => lv_if_eq hx hb d_Fs_isExporter_1 rfl) ?_ ?_
  · refine fs_lift (fun _ _ _ _ => lv_iconst (v := 1) hx hb d_Fs_isExporter_9 (by decide)) ?_
    refine fs_lift (fun _ _ _ _ => lv_goto hx hb d_Fs_isExporter_10 rfl) ?_
    exact fs_Jzret S hr hk rfl d_Fs_isExporter_14
  · refine fs_lift (fun _ _ _ _ => lv_iload_n hx hb d_Fs_isExporter_4 rfl (lv_at hl 0 rfl)) ?_
    refine fs_lift (fun _ _ _ _ => lv_iconst (v := 1) hx hb d_Fs_isExporter_5 (by decide)) ?_
    refine fs_ifn (fun _ _ _ _ => lv_icmp_ne hx hb d_Fs_isExporter_6 rfl) ?_ ?_
    · refine fs_lift (fun _ _ _ _ => lv_iconst (v := 1) hx hb d_Fs_isExporter_9 (by decide)) ?_
      refine fs_lift (fun _ _ _ _ => lv_goto hx hb d_Fs_isExporter_10 rfl) ?_
      exact fs_Jzret S hr hk rfl d_Fs_isExporter_14
    · refine fs_lift (fun _ _ _ _ => lv_iconst (v := 0) hx hb d_Fs_isExporter_13 (by decide)) ?_
      exact fs_Jzret S hr hk rfl d_Fs_isExporter_14

theorem d_Fs_exporterOf_0 : decode prog_1_method_27_code 0 = .ok (.iload_n 1, 1) := by decide +kernel
theorem d_Fs_exporterOf_1 : decode prog_1_method_27_code 1 = .ok (.invokestatic 269, 3) := by decide +kernel
theorem d_Fs_exporterOf_4 : decode prog_1_method_27_code 4 = .ok (.ifCond .ne 14, 3) := by decide +kernel
theorem d_Fs_exporterOf_7 : decode prog_1_method_27_code 7 = .ok (.new 43, 3) := by decide +kernel
theorem d_Fs_exporterOf_10 : decode prog_1_method_27_code 10 = .ok (.dup, 1) := by decide +kernel
theorem d_Fs_exporterOf_11 : decode prog_1_method_27_code 11 = .ok (.ldc_w 272, 3) := by decide +kernel
theorem d_Fs_exporterOf_14 : decode prog_1_method_27_code 14 = .ok (.invokespecial 47, 3) := by decide +kernel
theorem d_Fs_exporterOf_17 : decode prog_1_method_27_code 17 = .ok (.athrow, 1) := by decide +kernel
theorem d_Fs_exporterOf_18 : decode prog_1_method_27_code 18 = .ok (.iload_n 1, 1) := by decide +kernel
theorem d_Fs_exporterOf_19 : decode prog_1_method_27_code 19 = .ok (.ifCond .ne 10, 3) := by decide +kernel
theorem d_Fs_exporterOf_22 : decode prog_1_method_27_code 22 = .ok (.aload_n 0, 1) := by decide +kernel
theorem d_Fs_exporterOf_23 : decode prog_1_method_27_code 23 = .ok (.getfield 12, 3) := by decide +kernel
theorem d_Fs_exporterOf_26 : decode prog_1_method_27_code 26 = .ok (.goto 7, 3) := by decide +kernel
theorem d_Fs_exporterOf_29 : decode prog_1_method_27_code 29 = .ok (.aload_n 0, 1) := by decide +kernel
theorem d_Fs_exporterOf_30 : decode prog_1_method_27_code 30 = .ok (.getfield 18, 3) := by decide +kernel
theorem d_Fs_exporterOf_33 : decode prog_1_method_27_code 33 = .ok (.areturn, 1) := by decide +kernel
theorem q_Fs_exporterOf : (⟨"FlowShelf", "exporterOf", "(I)LFlowShelf$Exporter;"⟩ : MethodName).cls ≠ "java/lang/invoke/MethodHandle" ∧ (⟨"FlowShelf", "exporterOf", "(I)LFlowShelf$Exporter;"⟩ : MethodName).cls ≠ "java/lang/invoke/VarHandle" ∧ (parseMethodDescriptor (⟨"FlowShelf", "exporterOf", "(I)LFlowShelf$Exporter;"⟩ : MethodName).desc).map (fun d => d.parameters.length) = some 1 := by decide +kernel
set_option maxHeartbeats 4000000 in
set_option maxRecDepth 100000 in
theorem m_Fs_exporterOf (X : fs_X) (l : Launch) (hl0 : l.stackTraces = false) (a0 : Nat) (x1 : Int32) {r : (Nat ⊕ String)} {σ σF : fs_S} (h : (f_Fs_exporterOf a0 x1).1 σ = some (r, σF)) : fs_Met X l ⟨"FlowShelf", "exporterOf", "(I)LFlowShelf$Exporter;"⟩ (Cond.code ⟨"FlowShelf", "exporterOf", "(I)LFlowShelf$Exporter;"⟩ prog_1_method_27_code 2 (some (FieldType.object "FlowShelf$Exporter"))) 6 82 [.ref a0, .int x1] σ (fs_qR r) σF := by
  refine fs_ofW (by decide) ?_
  intro p e s m args below meth c s₁ B hml hT hv
  obtain ⟨rfl, hw0, hG⟩ := hv
  have hx := B.exec
  have hb := B.bytes
  have hr := B.returns
  have hk := B.notSynchronized
  have S : CallFix p m c prog_1_method_27_code 2 s _ fs_ws "FlowShelf" := ⟨B.exec, B.bytes, hml, findClass_of_methodNamed B.named, fun w hw => atoms_spec (ws := _ :: fs_ws) B.pre w (List.mem_cons_of_mem _ hw)⟩
  have hR := fs_hR (fr := 6) (lo := 82) ((f_Fs_exporterOf a0 x1).2 _ _ _ h)
  have hl := lv_entry ([.ref a0, .int x1]) (n := 2) (Nat.le_of_ble_eq_true rfl)
  rw [lg_entry_eq]
  generalize (lg_sl ([.ref a0, .int x1]) ++ List.replicate (2 - (lg_sl ([.ref a0, .int x1])).length) Slot.unset).toArray = ls at hl ⊢
  have hl : lv_has ls 2 [(0, .ref a0), (1, .int x1)] := hl
  refine (?_ : fs_J X p l e (fs_rm 6 82 σ σF) s m _ below meth c (fs_Q X below _ s (fs_qR r) σ σF) r σ σF (f_Fs_exporterOf a0 x1) (F0 m 0 ls [])) σ s.heap [] 0 0 h hw0 va_S.rf rfl rfl
  clear h hw0
  unfold f_Fs_exporterOf
  refine fs_lift (fun _ _ _ _ => lv_iload_n hx hb d_Fs_exporterOf_0 rfl (lv_at hl 1 rfl)) ?_
  refine fs_JS S hG hR [.int x1] (enc := fun r => some (.int r)) (fun zr zs zt zh => m_Fs_isExporter X l x1 zh) tw_2_64 tw_2_65 tw_2_66 tw_1_1 q_Fs_isExporter ⟨(Nat.le_of_ble_eq_true rfl), (Nat.le_of_ble_eq_true rfl)⟩ hl.1 rfl (Nat.le_of_ble_eq_true rfl) d_Fs_exporterOf_1 (fun v1 => ?_)
  refine fs_Jeq (g2 := F0 m 4 ls [.int v1]) rfl ?_
  refine fs_ifn (fun _ _ _ _ => lv_if_ne hx hb d_Fs_exporterOf_4 rfl) ?_ ?_
  · exact fs_Jthrow S hG hR hl0 (names := fs_nms) (len := 3) (.ldc_w 272) (Or.inr ⟨rfl, rfl⟩) (by decide) fs_fit fs_at1 tw_2_67 tw_1_15 tb_2_109 hl.1 hT hk (Nat.le_of_ble_eq_true rfl) (Nat.le_of_ble_eq_true rfl) d_Fs_exporterOf_7 d_Fs_exporterOf_10 d_Fs_exporterOf_11 d_Fs_exporterOf_14 d_Fs_exporterOf_17 rfl
  · refine fs_lift (fun _ _ _ _ => lv_iload_n hx hb d_Fs_exporterOf_18 rfl (lv_at hl 1 rfl)) ?_
    refine fs_ifn (fun _ _ _ _ => lv_if_ne hx hb d_Fs_exporterOf_19 rfl) ?_ ?_
    · refine fs_lift (fun _ _ _ _ => lv_aload_n hx hb d_Fs_exporterOf_22 rfl (lv_at hl 0 rfl)) ?_
      refine fs_Jgr S hG fs_in0 rfl 0 (Nat.le_of_ble_eq_true rfl) tw_2_7 (fun _ h9 => h9) d_Fs_exporterOf_23 (fun r3 => ?_)
      refine fs_lift (fun _ _ _ _ => lv_goto hx hb d_Fs_exporterOf_26 rfl) ?_
      exact fs_Jaret S hr (Or.inl ⟨_, rfl⟩) hk rfl d_Fs_exporterOf_33
    · refine fs_lift (fun _ _ _ _ => lv_aload_n hx hb d_Fs_exporterOf_29 rfl (lv_at hl 0 rfl)) ?_
      refine fs_Jgr S hG fs_in0 rfl 1 (Nat.le_of_ble_eq_true rfl) tw_2_8 (fun _ h9 => h9) d_Fs_exporterOf_30 (fun r2 => ?_)
      exact fs_Jaret S hr (Or.inl ⟨_, rfl⟩) hk rfl d_Fs_exporterOf_33

theorem d_Fs_isByte_0 : decode prog_1_method_24_code 0 = .ok (.iload_n 0, 1) := by decide +kernel
theorem d_Fs_isByte_1 : decode prog_1_method_24_code 1 = .ok (.ifCond .lt 14, 3) := by decide +kernel
theorem d_Fs_isByte_4 : decode prog_1_method_24_code 4 = .ok (.iload_n 0, 1) := by decide +kernel
theorem d_Fs_isByte_5 : decode prog_1_method_24_code 5 = .ok (.sipush 255, 3) := by decide +kernel
theorem d_Fs_isByte_8 : decode prog_1_method_24_code 8 = .ok (.if_icmp .gt 7, 3) := by decide +kernel
theorem d_Fs_isByte_11 : decode prog_1_method_24_code 11 = .ok (.iconst 1, 1) := by decide +kernel
theorem d_Fs_isByte_12 : decode prog_1_method_24_code 12 = .ok (.goto 4, 3) := by decide +kernel
theorem d_Fs_isByte_15 : decode prog_1_method_24_code 15 = .ok (.iconst 0, 1) := by decide +kernel
theorem d_Fs_isByte_16 : decode prog_1_method_24_code 16 = .ok (.ireturn, 1) := by decide +kernel
theorem q_Fs_isByte : (⟨"FlowShelf", "isByte", "(I)Z"⟩ : MethodName).cls ≠ "java/lang/invoke/MethodHandle" ∧ (⟨"FlowShelf", "isByte", "(I)Z"⟩ : MethodName).cls ≠ "java/lang/invoke/VarHandle" ∧ (parseMethodDescriptor (⟨"FlowShelf", "isByte", "(I)Z"⟩ : MethodName).desc).map (fun d => d.parameters.length) = some 1 := by decide +kernel
set_option maxHeartbeats 4000000 in
set_option maxRecDepth 100000 in
theorem m_Fs_isByte (X : fs_X) (l : Launch) (x0 : Int32) {r : Int32} {σ σF : fs_S} (h : (f_Fs_isByte x0).1 σ = some (r, σF)) : fs_Met X l ⟨"FlowShelf", "isByte", "(I)Z"⟩ (Cond.code ⟨"FlowShelf", "isByte", "(I)Z"⟩ prog_1_method_24_code 1 (some FieldType.boolean)) 0 0 [.int x0] σ (fs_eI r) σF := by
  refine fs_ofW (by decide) ?_
  intro p e s m args below meth c s₁ B hml hT hv
  obtain ⟨rfl, hw0, hG⟩ := hv
  have hx := B.exec
  have hb := B.bytes
  have hr := B.returns
  have hk := B.notSynchronized
  have S : CallFix p m c prog_1_method_24_code 1 s _ fs_ws "FlowShelf" := ⟨B.exec, B.bytes, hml, findClass_of_methodNamed B.named, fun w hw => atoms_spec (ws := _ :: fs_ws) B.pre w (List.mem_cons_of_mem _ hw)⟩
  have hR := fs_hR (fr := 0) (lo := 0) ((f_Fs_isByte x0).2 _ _ _ h)
  have hl := lv_entry ([.int x0]) (n := 1) (Nat.le_of_ble_eq_true rfl)
  rw [lg_entry_eq]
  generalize (lg_sl ([.int x0]) ++ List.replicate (1 - (lg_sl ([.int x0])).length) Slot.unset).toArray = ls at hl ⊢
  have hl : lv_has ls 1 [(0, .int x0)] := hl
  refine (?_ : fs_J X p l e (fs_rm 0 0 σ σF) s m _ below meth c (fs_Q X below _ s (fs_eI r) σ σF) r σ σF (f_Fs_isByte x0) (F0 m 0 ls [])) σ s.heap [] 0 0 h hw0 va_S.rf rfl rfl
  clear h hw0
  unfold f_Fs_isByte
  refine fs_lift (fun _ _ _ _ => lv_iload_n hx hb d_Fs_isByte_0 rfl (lv_at hl 0 rfl)) ?_
  refine fs_if (fun _ _ _ _ => lv_if_lt hx hb d_Fs_isByte_1 rfl) ?_ ?_
  · refine fs_lift (fun _ _ _ _ => lv_iconst (v := 0) hx hb d_Fs_isByte_15 (by decide)) ?_
    exact fs_Jzret S hr hk rfl d_Fs_isByte_16
  · refine fs_lift (fun _ _ _ _ => lv_iload_n hx hb d_Fs_isByte_4 rfl (lv_at hl 0 rfl)) ?_
    refine fs_lift (fun _ _ _ _ => lv_sipush (v := 255) hx hb d_Fs_isByte_5 (by decide)) ?_
    refine fs_if (fun _ _ _ _ => lv_icmp_gt hx hb d_Fs_isByte_8 rfl) ?_ ?_
    · refine fs_lift (fun _ _ _ _ => lv_iconst (v := 0) hx hb d_Fs_isByte_15 (by decide)) ?_
      exact fs_Jzret S hr hk rfl d_Fs_isByte_16
    · refine fs_lift (fun _ _ _ _ => lv_iconst (v := 1) hx hb d_Fs_isByte_11 (by decide)) ?_
      refine fs_lift (fun _ _ _ _ => lv_goto hx hb d_Fs_isByte_12 rfl) ?_
      exact fs_Jzret S hr hk rfl d_Fs_isByte_16

theorem d_Exporter_flowsHeld_0 : decode prog_4_method_2_code 0 = .ok (.aload_n 0, 1) := by decide +kernel
theorem d_Exporter_flowsHeld_1 : decode prog_4_method_2_code 1 = .ok (.getfield 12, 3) := by decide +kernel
theorem d_Exporter_flowsHeld_4 : decode prog_4_method_2_code 4 = .ok (.invokevirtual 37, 3) := by decide +kernel
theorem d_Exporter_flowsHeld_7 : decode prog_4_method_2_code 7 = .ok (.aload_n 0, 1) := by decide +kernel
theorem d_Exporter_flowsHeld_8 : decode prog_4_method_2_code 8 = .ok (.getfield 18, 3) := by decide +kernel
theorem d_Exporter_flowsHeld_11 : decode prog_4_method_2_code 11 = .ok (.invokevirtual 37, 3) := by decide +kernel
theorem d_Exporter_flowsHeld_14 : decode prog_4_method_2_code 14 = .ok (.iadd, 1) := by decide +kernel
theorem d_Exporter_flowsHeld_15 : decode prog_4_method_2_code 15 = .ok (.ireturn, 1) := by decide +kernel
theorem q_Exporter_flowsHeld : (⟨"FlowShelf$Exporter", "flowsHeld", "()I"⟩ : MethodName).cls ≠ "java/lang/invoke/MethodHandle" ∧ (⟨"FlowShelf$Exporter", "flowsHeld", "()I"⟩ : MethodName).cls ≠ "java/lang/invoke/VarHandle" ∧ (parseMethodDescriptor (⟨"FlowShelf$Exporter", "flowsHeld", "()I"⟩ : MethodName).desc).map (fun d => d.parameters.length) = some 0 := by decide +kernel
set_option maxHeartbeats 4000000 in
set_option maxRecDepth 100000 in
theorem m_Exporter_flowsHeld (X : fs_X) (l : Launch) (a0 : Nat) {r : Int32} {σ σF : fs_S} (h : (f_Exporter_flowsHeld a0).1 σ = some (r, σF)) : fs_Met X l ⟨"FlowShelf$Exporter", "flowsHeld", "()I"⟩ (Cond.code ⟨"FlowShelf$Exporter", "flowsHeld", "()I"⟩ prog_4_method_2_code 1 (some FieldType.int)) 1 20 [.ref a0] σ (fs_eI r) σF := by
  refine fs_ofW (by decide) ?_
  intro p e s m args below meth c s₁ B hml hT hv
  obtain ⟨rfl, hw0, hG⟩ := hv
  have hx := B.exec
  have hb := B.bytes
  have hr := B.returns
  have hk := B.notSynchronized
  have S : CallFix p m c prog_4_method_2_code 1 s _ fs_ws "FlowShelf$Exporter" := ⟨B.exec, B.bytes, hml, findClass_of_methodNamed B.named, fun w hw => atoms_spec (ws := _ :: fs_ws) B.pre w (List.mem_cons_of_mem _ hw)⟩
  have hR := fs_hR (fr := 1) (lo := 20) ((f_Exporter_flowsHeld a0).2 _ _ _ h)
  have hl := lv_entry ([.ref a0]) (n := 1) (Nat.le_of_ble_eq_true rfl)
  rw [lg_entry_eq]
  generalize (lg_sl ([.ref a0]) ++ List.replicate (1 - (lg_sl ([.ref a0])).length) Slot.unset).toArray = ls at hl ⊢
  have hl : lv_has ls 1 [(0, .ref a0)] := hl
  refine (?_ : fs_J X p l e (fs_rm 1 20 σ σF) s m _ below meth c (fs_Q X below _ s (fs_eI r) σ σF) r σ σF (f_Exporter_flowsHeld a0) (F0 m 0 ls [])) σ s.heap [] 0 0 h hw0 va_S.rf rfl rfl
  clear h hw0
  unfold f_Exporter_flowsHeld
  refine fs_lift (fun _ _ _ _ => lv_aload_n hx hb d_Exporter_flowsHeld_0 rfl (lv_at hl 0 rfl)) ?_
  refine fs_Jgr S hG fs_in1 rfl 1 (Nat.le_of_ble_eq_true rfl) tw_1_126 (fun _ h9 => h9) d_Exporter_flowsHeld_1 (fun r1 => ?_)
  refine fs_JV S hG hR rfl [] (enc := fun r => some (.int r)) (fun zr zs zt zh => m_ArrayList_size X l r1 zh) tw_2_145 tw_2_29 tw_2_30 tw_2_31 tw_1_5 q_ArrayList_size ⟨(Nat.le_of_ble_eq_true rfl), (Nat.le_of_ble_eq_true rfl)⟩ hl.1 rfl (Nat.le_of_ble_eq_true rfl) d_Exporter_flowsHeld_4 (fun v2 => ?_)
  refine fs_Jeq (g2 := F0 m 7 ls [.int v2]) rfl ?_
  refine fs_lift (fun _ _ _ _ => lv_aload_n hx hb d_Exporter_flowsHeld_7 rfl (lv_at hl 0 rfl)) ?_
  refine fs_Jgr S hG fs_in1 rfl 2 (Nat.le_of_ble_eq_true rfl) tw_1_128 (fun _ h9 => h9) d_Exporter_flowsHeld_8 (fun r3 => ?_)
  refine fs_JV S hG hR rfl [] (enc := fun r => some (.int r)) (fun zr zs zt zh => m_ArrayList_size X l r3 zh) tw_2_145 tw_2_29 tw_2_30 tw_2_31 tw_1_5 q_ArrayList_size ⟨(Nat.le_of_ble_eq_true rfl), (Nat.le_of_ble_eq_true rfl)⟩ hl.1 rfl (Nat.le_of_ble_eq_true rfl) d_Exporter_flowsHeld_11 (fun v4 => ?_)
  refine fs_Jeq (g2 := F0 m 14 ls [.int v4, .int v2]) rfl ?_
  refine fs_lift (fun _ _ _ _ => lv_iadd hx hb d_Exporter_flowsHeld_14) ?_
  exact fs_Jiret S hr hk rfl d_Exporter_flowsHeld_15

theorem d_Exporter_samplesNext_0 : decode prog_4_method_4_code 0 = .ok (.aload_n 0, 1) := by decide +kernel
theorem d_Exporter_samplesNext_1 : decode prog_4_method_4_code 1 = .ok (.getfield 41, 3) := by decide +kernel
theorem d_Exporter_samplesNext_4 : decode prog_4_method_4_code 4 = .ok (.ifCond .ne 7, 3) := by decide +kernel
theorem d_Exporter_samplesNext_7 : decode prog_4_method_4_code 7 = .ok (.iconst 1, 1) := by decide +kernel
theorem d_Exporter_samplesNext_8 : decode prog_4_method_4_code 8 = .ok (.goto 4, 3) := by decide +kernel
theorem d_Exporter_samplesNext_11 : decode prog_4_method_4_code 11 = .ok (.iconst 0, 1) := by decide +kernel
theorem d_Exporter_samplesNext_12 : decode prog_4_method_4_code 12 = .ok (.istore_n 1, 1) := by decide +kernel
theorem d_Exporter_samplesNext_13 : decode prog_4_method_4_code 13 = .ok (.aload_n 0, 1) := by decide +kernel
theorem d_Exporter_samplesNext_14 : decode prog_4_method_4_code 14 = .ok (.aload_n 0, 1) := by decide +kernel
theorem d_Exporter_samplesNext_15 : decode prog_4_method_4_code 15 = .ok (.getfield 41, 3) := by decide +kernel
theorem d_Exporter_samplesNext_18 : decode prog_4_method_4_code 18 = .ok (.iconst 1, 1) := by decide +kernel
theorem d_Exporter_samplesNext_19 : decode prog_4_method_4_code 19 = .ok (.iadd, 1) := by decide +kernel
theorem d_Exporter_samplesNext_20 : decode prog_4_method_4_code 20 = .ok (.aload_n 0, 1) := by decide +kernel
theorem d_Exporter_samplesNext_21 : decode prog_4_method_4_code 21 = .ok (.getfield 27, 3) := by decide +kernel
theorem d_Exporter_samplesNext_24 : decode prog_4_method_4_code 24 = .ok (.if_icmp .lt 7, 3) := by decide +kernel
theorem d_Exporter_samplesNext_27 : decode prog_4_method_4_code 27 = .ok (.iconst 0, 1) := by decide +kernel
theorem d_Exporter_samplesNext_28 : decode prog_4_method_4_code 28 = .ok (.goto 9, 3) := by decide +kernel
theorem d_Exporter_samplesNext_31 : decode prog_4_method_4_code 31 = .ok (.aload_n 0, 1) := by decide +kernel
theorem d_Exporter_samplesNext_32 : decode prog_4_method_4_code 32 = .ok (.getfield 41, 3) := by decide +kernel
theorem d_Exporter_samplesNext_35 : decode prog_4_method_4_code 35 = .ok (.iconst 1, 1) := by decide +kernel
theorem d_Exporter_samplesNext_36 : decode prog_4_method_4_code 36 = .ok (.iadd, 1) := by decide +kernel
theorem d_Exporter_samplesNext_37 : decode prog_4_method_4_code 37 = .ok (.putfield 41, 3) := by decide +kernel
theorem d_Exporter_samplesNext_40 : decode prog_4_method_4_code 40 = .ok (.iload_n 1, 1) := by decide +kernel
theorem d_Exporter_samplesNext_41 : decode prog_4_method_4_code 41 = .ok (.ireturn, 1) := by decide +kernel
theorem q_Exporter_samplesNext : (⟨"FlowShelf$Exporter", "samplesNext", "()Z"⟩ : MethodName).cls ≠ "java/lang/invoke/MethodHandle" ∧ (⟨"FlowShelf$Exporter", "samplesNext", "()Z"⟩ : MethodName).cls ≠ "java/lang/invoke/VarHandle" ∧ (parseMethodDescriptor (⟨"FlowShelf$Exporter", "samplesNext", "()Z"⟩ : MethodName).desc).map (fun d => d.parameters.length) = some 0 := by decide +kernel
set_option maxHeartbeats 4000000 in
set_option maxRecDepth 100000 in
theorem m_Exporter_samplesNext (X : fs_X) (l : Launch) (a0 : Nat) {r : Int32} {σ σF : fs_S} (h : (f_Exporter_samplesNext a0).1 σ = some (r, σF)) : fs_Met X l ⟨"FlowShelf$Exporter", "samplesNext", "()Z"⟩ (Cond.code ⟨"FlowShelf$Exporter", "samplesNext", "()Z"⟩ prog_4_method_4_code 2 (some FieldType.boolean)) 0 0 [.ref a0] σ (fs_eI r) σF := by
  refine fs_ofW (by decide) ?_
  intro p e s m args below meth c s₁ B hml hT hv
  obtain ⟨rfl, hw0, hG⟩ := hv
  have hx := B.exec
  have hb := B.bytes
  have hr := B.returns
  have hk := B.notSynchronized
  have S : CallFix p m c prog_4_method_4_code 2 s _ fs_ws "FlowShelf$Exporter" := ⟨B.exec, B.bytes, hml, findClass_of_methodNamed B.named, fun w hw => atoms_spec (ws := _ :: fs_ws) B.pre w (List.mem_cons_of_mem _ hw)⟩
  have hR := fs_hR (fr := 0) (lo := 0) ((f_Exporter_samplesNext a0).2 _ _ _ h)
  have hl := lv_entry ([.ref a0]) (n := 2) (Nat.le_of_ble_eq_true rfl)
  rw [lg_entry_eq]
  generalize (lg_sl ([.ref a0]) ++ List.replicate (2 - (lg_sl ([.ref a0])).length) Slot.unset).toArray = ls at hl ⊢
  have hl : lv_has ls 2 [(0, .ref a0)] := hl
  refine (?_ : fs_J X p l e (fs_rm 0 0 σ σF) s m _ below meth c (fs_Q X below _ s (fs_eI r) σ σF) r σ σF (f_Exporter_samplesNext a0) (F0 m 0 ls [])) σ s.heap [] 0 0 h hw0 va_S.rf rfl rfl
  clear h hw0
  unfold f_Exporter_samplesNext
  refine fs_lift (fun _ _ _ _ => lv_aload_n hx hb d_Exporter_samplesNext_0 rfl (lv_at hl 0 rfl)) ?_
  refine fs_Jgi S hG fs_in1 rfl 7 (Nat.le_of_ble_eq_true rfl) tw_1_137 (fun _ h9 => h9) d_Exporter_samplesNext_1 (fun v1 => ?_)
  refine fs_Jlet1 (nL := 2) (pj := 12) (I := fun (v2 : Int32) => [(0, .ref a0)]) (st := fun (v2 : Int32) => [.int v2]) (fun v2 ls hl => ?_) (fun j12 hj12 => ?_)
  · refine fs_liftL (fun _ _ _ _ => lv_istore_n (lv' := [(1, .int v2), (0, .ref a0)]) hx hb d_Exporter_samplesNext_12 rfl hl (Nat.le_of_ble_eq_true rfl) rfl) (fun ls hl => ?_)
    refine fs_lift (fun _ _ _ _ => lv_aload_n hx hb d_Exporter_samplesNext_13 rfl (lv_at hl 1 rfl)) ?_
    refine fs_lift (fun _ _ _ _ => lv_aload_n hx hb d_Exporter_samplesNext_14 rfl (lv_at hl 1 rfl)) ?_
    refine fs_Jgi S hG fs_in1 rfl 7 (Nat.le_of_ble_eq_true rfl) tw_1_137 (fun _ h9 => h9) d_Exporter_samplesNext_15 (fun v3 => ?_)
    refine fs_lift (fun _ _ _ _ => lv_iconst (v := 1) hx hb d_Exporter_samplesNext_18 (by decide)) ?_
    refine fs_lift (fun _ _ _ _ => lv_iadd hx hb d_Exporter_samplesNext_19) ?_
    refine fs_lift (fun _ _ _ _ => lv_aload_n hx hb d_Exporter_samplesNext_20 rfl (lv_at hl 1 rfl)) ?_
    refine fs_Jgi S hG fs_in1 rfl 6 (Nat.le_of_ble_eq_true rfl) tw_1_136 (fun _ h9 => h9) d_Exporter_samplesNext_21 (fun v4 => ?_)
    refine fs_Jlet1 (nL := 2) (pj := 37) (I := fun (v6 : Int32) => [(1, .int v2)]) (st := fun (v6 : Int32) => [.int v6, .ref a0]) (fun v6 ls hl => ?_) (fun j37 hj37 => ?_)
    · refine fs_Jput S hG fs_in1 rfl 7 (Nat.le_of_ble_eq_true rfl) tw_1_137 (fun _ h9 => h9) fs_Y1 fs_ty1 fs_nm1 (Or.inl rfl) rfl rfl d_Exporter_samplesNext_37 ?_
      refine fs_lift (fun _ _ _ _ => lv_iload_n hx hb d_Exporter_samplesNext_40 rfl (lv_at hl 0 rfl)) ?_
      exact fs_Jzret S hr hk rfl d_Exporter_samplesNext_41
    · refine fs_if (fun _ _ _ _ => lv_icmp_lt hx hb d_Exporter_samplesNext_24 rfl) ?_ ?_
      · refine fs_lift (fun _ _ _ _ => lv_aload_n hx hb d_Exporter_samplesNext_31 rfl (lv_at hl 1 rfl)) ?_
        refine fs_Jgi S hG fs_in1 rfl 7 (Nat.le_of_ble_eq_true rfl) tw_1_137 (fun _ h9 => h9) d_Exporter_samplesNext_32 (fun v5 => ?_)
        refine fs_lift (fun _ _ _ _ => lv_iconst (v := 1) hx hb d_Exporter_samplesNext_35 (by decide)) ?_
        refine fs_lift (fun _ _ _ _ => lv_iadd hx hb d_Exporter_samplesNext_36) ?_
        exact hj37 (v5 + 1) ls (lv_sub hl [0] rfl)
      · refine fs_lift (fun _ _ _ _ => lv_iconst (v := 0) hx hb d_Exporter_samplesNext_27 (by decide)) ?_
        refine fs_lift (fun _ _ _ _ => lv_goto hx hb d_Exporter_samplesNext_28 rfl) ?_
        exact hj37 0 ls (lv_sub hl [0] rfl)
  · refine fs_ifn (fun _ _ _ _ => lv_if_ne hx hb d_Exporter_samplesNext_4 rfl) ?_ ?_
    · refine fs_lift (fun _ _ _ _ => lv_iconst (v := 1) hx hb d_Exporter_samplesNext_7 (by decide)) ?_
      refine fs_lift (fun _ _ _ _ => lv_goto hx hb d_Exporter_samplesNext_8 rfl) ?_
      exact hj12 1 ls (lv_sub hl [0] rfl)
    · refine fs_lift (fun _ _ _ _ => lv_iconst (v := 0) hx hb d_Exporter_samplesNext_11 (by decide)) ?_
      exact hj12 0 ls (lv_sub hl [0] rfl)

theorem d_Flow_hasKey_0 : decode prog_5_method_2_code 0 = .ok (.aload_n 0, 1) := by decide +kernel
theorem d_Flow_hasKey_1 : decode prog_5_method_2_code 1 = .ok (.getfield 9, 3) := by decide +kernel
theorem d_Flow_hasKey_4 : decode prog_5_method_2_code 4 = .ok (.iload_n 1, 1) := by decide +kernel
theorem d_Flow_hasKey_5 : decode prog_5_method_2_code 5 = .ok (.if_icmp .ne 23, 3) := by decide +kernel
theorem d_Flow_hasKey_8 : decode prog_5_method_2_code 8 = .ok (.aload_n 0, 1) := by decide +kernel
theorem d_Flow_hasKey_9 : decode prog_5_method_2_code 9 = .ok (.getfield 15, 3) := by decide +kernel
theorem d_Flow_hasKey_12 : decode prog_5_method_2_code 12 = .ok (.iload_n 2, 1) := by decide +kernel
theorem d_Flow_hasKey_13 : decode prog_5_method_2_code 13 = .ok (.if_icmp .ne 15, 3) := by decide +kernel
theorem d_Flow_hasKey_16 : decode prog_5_method_2_code 16 = .ok (.aload_n 0, 1) := by decide +kernel
theorem d_Flow_hasKey_17 : decode prog_5_method_2_code 17 = .ok (.getfield 18, 3) := by decide +kernel
theorem d_Flow_hasKey_20 : decode prog_5_method_2_code 20 = .ok (.iload_n 3, 1) := by decide +kernel
theorem d_Flow_hasKey_21 : decode prog_5_method_2_code 21 = .ok (.if_icmp .ne 7, 3) := by decide +kernel
theorem d_Flow_hasKey_24 : decode prog_5_method_2_code 24 = .ok (.iconst 1, 1) := by decide +kernel
theorem d_Flow_hasKey_25 : decode prog_5_method_2_code 25 = .ok (.goto 4, 3) := by decide +kernel
theorem d_Flow_hasKey_28 : decode prog_5_method_2_code 28 = .ok (.iconst 0, 1) := by decide +kernel
theorem d_Flow_hasKey_29 : decode prog_5_method_2_code 29 = .ok (.ireturn, 1) := by decide +kernel
theorem q_Flow_hasKey : (⟨"FlowShelf$Flow", "hasKey", "(III)Z"⟩ : MethodName).cls ≠ "java/lang/invoke/MethodHandle" ∧ (⟨"FlowShelf$Flow", "hasKey", "(III)Z"⟩ : MethodName).cls ≠ "java/lang/invoke/VarHandle" ∧ (parseMethodDescriptor (⟨"FlowShelf$Flow", "hasKey", "(III)Z"⟩ : MethodName).desc).map (fun d => d.parameters.length) = some 3 := by decide +kernel
set_option maxHeartbeats 4000000 in
set_option maxRecDepth 100000 in
theorem m_Flow_hasKey (X : fs_X) (l : Launch) (a0 : Nat) (x1 : Int32) (x2 : Int32) (x3 : Int32) {r : Int32} {σ σF : fs_S} (h : (f_Flow_hasKey a0 x1 x2 x3).1 σ = some (r, σF)) : fs_Met X l ⟨"FlowShelf$Flow", "hasKey", "(III)Z"⟩ (Cond.code ⟨"FlowShelf$Flow", "hasKey", "(III)Z"⟩ prog_5_method_2_code 4 (some FieldType.boolean)) 0 0 [.ref a0, .int x1, .int x2, .int x3] σ (fs_eI r) σF := by
  refine fs_ofW (by decide) ?_
  intro p e s m args below meth c s₁ B hml hT hv
  obtain ⟨rfl, hw0, hG⟩ := hv
  have hx := B.exec
  have hb := B.bytes
  have hr := B.returns
  have hk := B.notSynchronized
  have S : CallFix p m c prog_5_method_2_code 4 s _ fs_ws "FlowShelf$Flow" := ⟨B.exec, B.bytes, hml, findClass_of_methodNamed B.named, fun w hw => atoms_spec (ws := _ :: fs_ws) B.pre w (List.mem_cons_of_mem _ hw)⟩
  have hR := fs_hR (fr := 0) (lo := 0) ((f_Flow_hasKey a0 x1 x2 x3).2 _ _ _ h)
  have hl := lv_entry ([.ref a0, .int x1, .int x2, .int x3]) (n := 4) (Nat.le_of_ble_eq_true rfl)
  rw [lg_entry_eq]
  generalize (lg_sl ([.ref a0, .int x1, .int x2, .int x3]) ++ List.replicate (4 - (lg_sl ([.ref a0, .int x1, .int x2, .int x3])).length) Slot.unset).toArray = ls at hl ⊢
  have hl : lv_has ls 4 [(0, .ref a0), (1, .int x1), (2, .int x2), (3, .int x3)] := hl
  refine (?_ : fs_J X p l e (fs_rm 0 0 σ σF) s m _ below meth c (fs_Q X below _ s (fs_eI r) σ σF) r σ σF (f_Flow_hasKey a0 x1 x2 x3) (F0 m 0 ls [])) σ s.heap [] 0 0 h hw0 va_S.rf rfl rfl
  clear h hw0
  unfold f_Flow_hasKey
  refine fs_lift (fun _ _ _ _ => lv_aload_n hx hb d_Flow_hasKey_0 rfl (lv_at hl 0 rfl)) ?_
  refine fs_Jgi S hG fs_in8 rfl 0 (Nat.le_of_ble_eq_true rfl) tw_3_26 (fun _ h9 => h9) d_Flow_hasKey_1 (fun v1 => ?_)
  refine fs_lift (fun _ _ _ _ => lv_iload_n hx hb d_Flow_hasKey_4 rfl (lv_at hl 1 rfl)) ?_
  refine fs_ifn (fun _ _ _ _ => lv_icmp_ne hx hb d_Flow_hasKey_5 rfl) ?_ ?_
  · refine fs_lift (fun _ _ _ _ => lv_aload_n hx hb d_Flow_hasKey_8 rfl (lv_at hl 0 rfl)) ?_
    refine fs_Jgi S hG fs_in8 rfl 1 (Nat.le_of_ble_eq_true rfl) tw_3_27 (fun _ h9 => h9) d_Flow_hasKey_9 (fun v2 => ?_)
    refine fs_lift (fun _ _ _ _ => lv_iload_n hx hb d_Flow_hasKey_12 rfl (lv_at hl 2 rfl)) ?_
    refine fs_ifn (fun _ _ _ _ => lv_icmp_ne hx hb d_Flow_hasKey_13 rfl) ?_ ?_
    · refine fs_lift (fun _ _ _ _ => lv_aload_n hx hb d_Flow_hasKey_16 rfl (lv_at hl 0 rfl)) ?_
      refine fs_Jgi S hG fs_in8 rfl 2 (Nat.le_of_ble_eq_true rfl) tw_3_28 (fun _ h9 => h9) d_Flow_hasKey_17 (fun v3 => ?_)
      refine fs_lift (fun _ _ _ _ => lv_iload_n hx hb d_Flow_hasKey_20 rfl (lv_at hl 3 rfl)) ?_
      refine fs_ifn (fun _ _ _ _ => lv_icmp_ne hx hb d_Flow_hasKey_21 rfl) ?_ ?_
      · refine fs_lift (fun _ _ _ _ => lv_iconst (v := 1) hx hb d_Flow_hasKey_24 (by decide)) ?_
        refine fs_lift (fun _ _ _ _ => lv_goto hx hb d_Flow_hasKey_25 rfl) ?_
        exact fs_Jzret S hr hk rfl d_Flow_hasKey_29
      · refine fs_lift (fun _ _ _ _ => lv_iconst (v := 0) hx hb d_Flow_hasKey_28 (by decide)) ?_
        exact fs_Jzret S hr hk rfl d_Flow_hasKey_29
    · refine fs_lift (fun _ _ _ _ => lv_iconst (v := 0) hx hb d_Flow_hasKey_28 (by decide)) ?_
      exact fs_Jzret S hr hk rfl d_Flow_hasKey_29
  · refine fs_lift (fun _ _ _ _ => lv_iconst (v := 0) hx hb d_Flow_hasKey_28 (by decide)) ?_
    exact fs_Jzret S hr hk rfl d_Flow_hasKey_29

theorem d_Exporter_placeInCache_0 : decode prog_4_method_6_code 0 = .ok (.iconst 0, 1) := by decide +kernel
theorem d_Exporter_placeInCache_1 : decode prog_4_method_6_code 1 = .ok (.istore 4, 2) := by decide +kernel
theorem d_Exporter_placeInCache_3 : decode prog_4_method_6_code 3 = .ok (.iload 4, 2) := by decide +kernel
theorem d_Exporter_placeInCache_5 : decode prog_4_method_6_code 5 = .ok (.aload_n 0, 1) := by decide +kernel
theorem d_Exporter_placeInCache_6 : decode prog_4_method_6_code 6 = .ok (.getfield 12, 3) := by decide +kernel
theorem d_Exporter_placeInCache_9 : decode prog_4_method_6_code 9 = .ok (.invokevirtual 37, 3) := by decide +kernel
theorem d_Exporter_placeInCache_12 : decode prog_4_method_6_code 12 = .ok (.if_icmp .ge 33, 3) := by decide +kernel
theorem d_Exporter_placeInCache_15 : decode prog_4_method_6_code 15 = .ok (.aload_n 0, 1) := by decide +kernel
theorem d_Exporter_placeInCache_16 : decode prog_4_method_6_code 16 = .ok (.getfield 12, 3) := by decide +kernel
theorem d_Exporter_placeInCache_19 : decode prog_4_method_6_code 19 = .ok (.iload 4, 2) := by decide +kernel
theorem d_Exporter_placeInCache_21 : decode prog_4_method_6_code 21 = .ok (.invokevirtual 67, 3) := by decide +kernel
theorem d_Exporter_placeInCache_24 : decode prog_4_method_6_code 24 = .ok (.checkcast 55, 3) := by decide +kernel
theorem d_Exporter_placeInCache_27 : decode prog_4_method_6_code 27 = .ok (.iload_n 1, 1) := by decide +kernel
theorem d_Exporter_placeInCache_28 : decode prog_4_method_6_code 28 = .ok (.iload_n 2, 1) := by decide +kernel
theorem d_Exporter_placeInCache_29 : decode prog_4_method_6_code 29 = .ok (.iload_n 3, 1) := by decide +kernel
theorem d_Exporter_placeInCache_30 : decode prog_4_method_6_code 30 = .ok (.invokevirtual 74, 3) := by decide +kernel
theorem d_Exporter_placeInCache_33 : decode prog_4_method_6_code 33 = .ok (.ifCond .eq 6, 3) := by decide +kernel
theorem d_Exporter_placeInCache_36 : decode prog_4_method_6_code 36 = .ok (.iload 4, 2) := by decide +kernel
theorem d_Exporter_placeInCache_38 : decode prog_4_method_6_code 38 = .ok (.ireturn, 1) := by decide +kernel
theorem d_Exporter_placeInCache_39 : decode prog_4_method_6_code 39 = .ok (.iinc 4 1, 3) := by decide +kernel
theorem d_Exporter_placeInCache_42 : decode prog_4_method_6_code 42 = .ok (.goto (-39), 3) := by decide +kernel
theorem d_Exporter_placeInCache_45 : decode prog_4_method_6_code 45 = .ok (.iconst (-1), 1) := by decide +kernel
theorem d_Exporter_placeInCache_46 : decode prog_4_method_6_code 46 = .ok (.ireturn, 1) := by decide +kernel
theorem q_Exporter_placeInCache : (⟨"FlowShelf$Exporter", "placeInCache", "(III)I"⟩ : MethodName).cls ≠ "java/lang/invoke/MethodHandle" ∧ (⟨"FlowShelf$Exporter", "placeInCache", "(III)I"⟩ : MethodName).cls ≠ "java/lang/invoke/VarHandle" ∧ (parseMethodDescriptor (⟨"FlowShelf$Exporter", "placeInCache", "(III)I"⟩ : MethodName).desc).map (fun d => d.parameters.length) = some 3 := by decide +kernel
set_option maxHeartbeats 4000000 in
set_option maxRecDepth 100000 in
theorem m_Exporter_placeInCache (X : fs_X) (l : Launch) (a0 : Nat) (x1 : Int32) (x2 : Int32) (x3 : Int32) {r : Int32} {σ σF : fs_S} (h : (f_Exporter_placeInCache a0 x1 x2 x3).1 σ = some (r, σF)) : fs_Met X l ⟨"FlowShelf$Exporter", "placeInCache", "(III)I"⟩ (Cond.code ⟨"FlowShelf$Exporter", "placeInCache", "(III)I"⟩ prog_4_method_6_code 5 (some FieldType.int)) 3 64 [.ref a0, .int x1, .int x2, .int x3] σ (fs_eI r) σF := by
  refine fs_ofW (by decide) ?_
  intro p e s m args below meth c s₁ B hml hT hv
  obtain ⟨rfl, hw0, hG⟩ := hv
  have hx := B.exec
  have hb := B.bytes
  have hr := B.returns
  have hk := B.notSynchronized
  have S : CallFix p m c prog_4_method_6_code 5 s _ fs_ws "FlowShelf$Exporter" := ⟨B.exec, B.bytes, hml, findClass_of_methodNamed B.named, fun w hw => atoms_spec (ws := _ :: fs_ws) B.pre w (List.mem_cons_of_mem _ hw)⟩
  have hR := fs_hR (fr := 3) (lo := 64) ((f_Exporter_placeInCache a0 x1 x2 x3).2 _ _ _ h)
  have hl := lv_entry ([.ref a0, .int x1, .int x2, .int x3]) (n := 5) (Nat.le_of_ble_eq_true rfl)
  rw [lg_entry_eq]
  generalize (lg_sl ([.ref a0, .int x1, .int x2, .int x3]) ++ List.replicate (5 - (lg_sl ([.ref a0, .int x1, .int x2, .int x3])).length) Slot.unset).toArray = ls at hl ⊢
  have hl : lv_has ls 5 [(0, .ref a0), (1, .int x1), (2, .int x2), (3, .int x3)] := hl
  refine (?_ : fs_J X p l e (fs_rm 3 64 σ σF) s m _ below meth c (fs_Q X below _ s (fs_eI r) σ σF) r σ σF (f_Exporter_placeInCache a0 x1 x2 x3) (F0 m 0 ls [])) σ s.heap [] 0 0 h hw0 va_S.rf rfl rfl
  clear h hw0
  unfold f_Exporter_placeInCache
  refine fs_lift (fun _ _ _ _ => lv_iconst (v := 0) hx hb d_Exporter_placeInCache_0 (by decide)) ?_
  refine fs_liftL (fun _ _ _ _ => lv_istore (lv' := [(4, .int 0), (0, .ref a0), (1, .int x1), (2, .int x2), (3, .int x3)]) hx hb d_Exporter_placeInCache_1 hl (Nat.le_of_ble_eq_true rfl) rfl) (fun ls hl => ?_)
  refine fs_Jlp1 (nL := 5) (pc := 3) (rest := []) (I := fun (v1 : Int32) => [(0, .ref a0), (1, .int x1), (2, .int x2), (3, .int x3), (4, .int v1)]) (fun k3 hk3 v1 ls hl => ?_) _ _ _ (lv_sub hl [1, 2, 3, 4, 0] rfl)
  refine fs_lift (fun _ _ _ _ => lv_iload hx hb d_Exporter_placeInCache_3 (lv_at hl 4 rfl)) ?_
  refine fs_lift (fun _ _ _ _ => lv_aload_n hx hb d_Exporter_placeInCache_5 rfl (lv_at hl 0 rfl)) ?_
  refine fs_Jgr S hG fs_in1 rfl 1 (Nat.le_of_ble_eq_true rfl) tw_1_126 (fun _ h9 => h9) d_Exporter_placeInCache_6 (fun r2 => ?_)
  refine fs_JV S hG hR rfl [] (enc := fun r => some (.int r)) (fun zr zs zt zh => m_ArrayList_size X l r2 zh) tw_2_145 tw_2_29 tw_2_30 tw_2_31 tw_1_5 q_ArrayList_size ⟨(Nat.le_of_ble_eq_true rfl), (Nat.le_of_ble_eq_true rfl)⟩ hl.1 rfl (Nat.le_of_ble_eq_true rfl) d_Exporter_placeInCache_9 (fun v3 => ?_)
  refine fs_Jeq (g2 := F0 m 12 ls [.int v3, .int v1]) rfl ?_
  refine fs_if (fun _ _ _ _ => lv_icmp_ge hx hb d_Exporter_placeInCache_12 rfl) ?_ ?_
  · refine fs_lift (fun _ _ _ _ => lv_iconst (v := (-1)) hx hb d_Exporter_placeInCache_45 (by decide)) ?_
    exact fs_Jiret S hr hk rfl d_Exporter_placeInCache_46
  · refine fs_lift (fun _ _ _ _ => lv_aload_n hx hb d_Exporter_placeInCache_15 rfl (lv_at hl 0 rfl)) ?_
    refine fs_Jgr S hG fs_in1 rfl 1 (Nat.le_of_ble_eq_true rfl) tw_1_126 (fun _ h9 => h9) d_Exporter_placeInCache_16 (fun r4 => ?_)
    refine fs_lift (fun _ _ _ _ => lv_iload hx hb d_Exporter_placeInCache_19 (lv_at hl 4 rfl)) ?_
    refine fs_JV S hG hR rfl [.int v1] (enc := fun r => some (.ref r)) (fun zr zs zt zh => m_ArrayList_get X l r4 v1 zh) tw_2_174 tw_2_33 tw_2_34 tw_2_35 tw_1_5 q_ArrayList_get ⟨(Nat.le_of_ble_eq_true rfl), (Nat.le_of_ble_eq_true rfl)⟩ hl.1 rfl (Nat.le_of_ble_eq_true rfl) d_Exporter_placeInCache_21 (fun r5 => ?_)
    refine fs_Jeq (g2 := F0 m 24 ls [.ref r5]) rfl ?_
    refine fs_Jck S hG rfl tw_2_175 tb_7_82 d_Exporter_placeInCache_24 ?_
    refine fs_lift (fun _ _ _ _ => lv_iload_n hx hb d_Exporter_placeInCache_27 rfl (lv_at hl 1 rfl)) ?_
    refine fs_lift (fun _ _ _ _ => lv_iload_n hx hb d_Exporter_placeInCache_28 rfl (lv_at hl 2 rfl)) ?_
    refine fs_lift (fun _ _ _ _ => lv_iload_n hx hb d_Exporter_placeInCache_29 rfl (lv_at hl 3 rfl)) ?_
    refine fs_JV S hG hR rfl [.int x1, .int x2, .int x3] (enc := fun r => some (.int r)) (fun zr zs zt zh => m_Flow_hasKey X l r5 x1 x2 x3 zh) tw_2_176 tw_2_177 tw_2_178 tw_2_179 tw_1_23 q_Flow_hasKey ⟨(Nat.le_of_ble_eq_true rfl), (Nat.le_of_ble_eq_true rfl)⟩ hl.1 rfl (Nat.le_of_ble_eq_true rfl) d_Exporter_placeInCache_30 (fun v6 => ?_)
    refine fs_Jeq (g2 := F0 m 33 ls [.int v6]) rfl ?_
    refine fs_if (fun _ _ _ _ => lv_if_eq hx hb d_Exporter_placeInCache_33 rfl) ?_ ?_
    · refine fs_Jnm (fun v7 hv9 => ?_)
      refine fs_liftL (fun _ _ _ _ => lv_iinc (k := 4) (v := v7) (lv' := [(4, .int v7), (0, .ref a0), (1, .int x1), (2, .int x2), (3, .int x3)]) hx hb d_Exporter_placeInCache_39 hl rfl (by rw [hv9]; rfl) (Nat.le_of_ble_eq_true rfl) rfl) (fun ls hl => ?_)
      refine fs_lift (fun _ _ _ _ => lv_goto hx hb d_Exporter_placeInCache_42 rfl) ?_
      exact hk3 v7 ls (lv_sub hl [1, 2, 3, 4, 0] rfl)
    · refine fs_lift (fun _ _ _ _ => lv_iload hx hb d_Exporter_placeInCache_36 (lv_at hl 4 rfl)) ?_
      exact fs_Jiret S hr hk rfl d_Exporter_placeInCache_38

theorem d_Exporter_leastRecent_0 : decode prog_4_method_7_code 0 = .ok (.iconst 0, 1) := by decide +kernel
theorem d_Exporter_leastRecent_1 : decode prog_4_method_7_code 1 = .ok (.istore_n 1, 1) := by decide +kernel
theorem d_Exporter_leastRecent_2 : decode prog_4_method_7_code 2 = .ok (.iconst 1, 1) := by decide +kernel
theorem d_Exporter_leastRecent_3 : decode prog_4_method_7_code 3 = .ok (.istore_n 2, 1) := by decide +kernel
theorem d_Exporter_leastRecent_4 : decode prog_4_method_7_code 4 = .ok (.iload_n 2, 1) := by decide +kernel
theorem d_Exporter_leastRecent_5 : decode prog_4_method_7_code 5 = .ok (.aload_n 0, 1) := by decide +kernel
theorem d_Exporter_leastRecent_6 : decode prog_4_method_7_code 6 = .ok (.getfield 12, 3) := by decide +kernel
theorem d_Exporter_leastRecent_9 : decode prog_4_method_7_code 9 = .ok (.invokevirtual 37, 3) := by decide +kernel
theorem d_Exporter_leastRecent_12 : decode prog_4_method_7_code 12 = .ok (.if_icmp .ge 42, 3) := by decide +kernel
theorem d_Exporter_leastRecent_15 : decode prog_4_method_7_code 15 = .ok (.aload_n 0, 1) := by decide +kernel
theorem d_Exporter_leastRecent_16 : decode prog_4_method_7_code 16 = .ok (.getfield 12, 3) := by decide +kernel
theorem d_Exporter_leastRecent_19 : decode prog_4_method_7_code 19 = .ok (.iload_n 2, 1) := by decide +kernel
theorem d_Exporter_leastRecent_20 : decode prog_4_method_7_code 20 = .ok (.invokevirtual 67, 3) := by decide +kernel
theorem d_Exporter_leastRecent_23 : decode prog_4_method_7_code 23 = .ok (.checkcast 55, 3) := by decide +kernel
theorem d_Exporter_leastRecent_26 : decode prog_4_method_7_code 26 = .ok (.getfield 78, 3) := by decide +kernel
theorem d_Exporter_leastRecent_29 : decode prog_4_method_7_code 29 = .ok (.aload_n 0, 1) := by decide +kernel
theorem d_Exporter_leastRecent_30 : decode prog_4_method_7_code 30 = .ok (.getfield 12, 3) := by decide +kernel
theorem d_Exporter_leastRecent_33 : decode prog_4_method_7_code 33 = .ok (.iload_n 1, 1) := by decide +kernel
theorem d_Exporter_leastRecent_34 : decode prog_4_method_7_code 34 = .ok (.invokevirtual 67, 3) := by decide +kernel
theorem d_Exporter_leastRecent_37 : decode prog_4_method_7_code 37 = .ok (.checkcast 55, 3) := by decide +kernel
theorem d_Exporter_leastRecent_40 : decode prog_4_method_7_code 40 = .ok (.getfield 78, 3) := by decide +kernel
theorem d_Exporter_leastRecent_43 : decode prog_4_method_7_code 43 = .ok (.if_icmp .ge 5, 3) := by decide +kernel
theorem d_Exporter_leastRecent_46 : decode prog_4_method_7_code 46 = .ok (.iload_n 2, 1) := by decide +kernel
theorem d_Exporter_leastRecent_47 : decode prog_4_method_7_code 47 = .ok (.istore_n 1, 1) := by decide +kernel
theorem d_Exporter_leastRecent_48 : decode prog_4_method_7_code 48 = .ok (.iinc 2 1, 3) := by decide +kernel
theorem d_Exporter_leastRecent_51 : decode prog_4_method_7_code 51 = .ok (.goto (-47), 3) := by decide +kernel
theorem d_Exporter_leastRecent_54 : decode prog_4_method_7_code 54 = .ok (.iload_n 1, 1) := by decide +kernel
theorem d_Exporter_leastRecent_55 : decode prog_4_method_7_code 55 = .ok (.ireturn, 1) := by decide +kernel
theorem q_Exporter_leastRecent : (⟨"FlowShelf$Exporter", "leastRecent", "()I"⟩ : MethodName).cls ≠ "java/lang/invoke/MethodHandle" ∧ (⟨"FlowShelf$Exporter", "leastRecent", "()I"⟩ : MethodName).cls ≠ "java/lang/invoke/VarHandle" ∧ (parseMethodDescriptor (⟨"FlowShelf$Exporter", "leastRecent", "()I"⟩ : MethodName).desc).map (fun d => d.parameters.length) = some 0 := by decide +kernel
set_option maxHeartbeats 4000000 in
set_option maxRecDepth 100000 in
theorem m_Exporter_leastRecent (X : fs_X) (l : Launch) (a0 : Nat) {r : Int32} {σ σF : fs_S} (h : (f_Exporter_leastRecent a0).1 σ = some (r, σF)) : fs_Met X l ⟨"FlowShelf$Exporter", "leastRecent", "()I"⟩ (Cond.code ⟨"FlowShelf$Exporter", "leastRecent", "()I"⟩ prog_4_method_7_code 3 (some FieldType.int)) 3 64 [.ref a0] σ (fs_eI r) σF := by
  refine fs_ofW (by decide) ?_
  intro p e s m args below meth c s₁ B hml hT hv
  obtain ⟨rfl, hw0, hG⟩ := hv
  have hx := B.exec
  have hb := B.bytes
  have hr := B.returns
  have hk := B.notSynchronized
  have S : CallFix p m c prog_4_method_7_code 3 s _ fs_ws "FlowShelf$Exporter" := ⟨B.exec, B.bytes, hml, findClass_of_methodNamed B.named, fun w hw => atoms_spec (ws := _ :: fs_ws) B.pre w (List.mem_cons_of_mem _ hw)⟩
  have hR := fs_hR (fr := 3) (lo := 64) ((f_Exporter_leastRecent a0).2 _ _ _ h)
  have hl := lv_entry ([.ref a0]) (n := 3) (Nat.le_of_ble_eq_true rfl)
  rw [lg_entry_eq]
  generalize (lg_sl ([.ref a0]) ++ List.replicate (3 - (lg_sl ([.ref a0])).length) Slot.unset).toArray = ls at hl ⊢
  have hl : lv_has ls 3 [(0, .ref a0)] := hl
  refine (?_ : fs_J X p l e (fs_rm 3 64 σ σF) s m _ below meth c (fs_Q X below _ s (fs_eI r) σ σF) r σ σF (f_Exporter_leastRecent a0) (F0 m 0 ls [])) σ s.heap [] 0 0 h hw0 va_S.rf rfl rfl
  clear h hw0
  unfold f_Exporter_leastRecent
  refine fs_lift (fun _ _ _ _ => lv_iconst (v := 0) hx hb d_Exporter_leastRecent_0 (by decide)) ?_
  refine fs_liftL (fun _ _ _ _ => lv_istore_n (lv' := [(1, .int 0), (0, .ref a0)]) hx hb d_Exporter_leastRecent_1 rfl hl (Nat.le_of_ble_eq_true rfl) rfl) (fun ls hl => ?_)
  refine fs_lift (fun _ _ _ _ => lv_iconst (v := 1) hx hb d_Exporter_leastRecent_2 (by decide)) ?_
  refine fs_liftL (fun _ _ _ _ => lv_istore_n (lv' := [(2, .int 1), (1, .int 0), (0, .ref a0)]) hx hb d_Exporter_leastRecent_3 rfl hl (Nat.le_of_ble_eq_true rfl) rfl) (fun ls hl => ?_)
  refine fs_Jlp2 (nL := 3) (pc := 4) (rest := []) (I := fun (v1 : Int32) (v2 : Int32) => [(0, .ref a0), (1, .int v1), (2, .int v2)]) (fun k4 hk4 v1 v2 ls hl => ?_) _ _ _ _ (lv_sub hl [2, 1, 0] rfl)
  refine fs_lift (fun _ _ _ _ => lv_iload_n hx hb d_Exporter_leastRecent_4 rfl (lv_at hl 2 rfl)) ?_
  refine fs_lift (fun _ _ _ _ => lv_aload_n hx hb d_Exporter_leastRecent_5 rfl (lv_at hl 0 rfl)) ?_
  refine fs_Jgr S hG fs_in1 rfl 1 (Nat.le_of_ble_eq_true rfl) tw_1_126 (fun _ h9 => h9) d_Exporter_leastRecent_6 (fun r3 => ?_)
  refine fs_JV S hG hR rfl [] (enc := fun r => some (.int r)) (fun zr zs zt zh => m_ArrayList_size X l r3 zh) tw_2_145 tw_2_29 tw_2_30 tw_2_31 tw_1_5 q_ArrayList_size ⟨(Nat.le_of_ble_eq_true rfl), (Nat.le_of_ble_eq_true rfl)⟩ hl.1 rfl (Nat.le_of_ble_eq_true rfl) d_Exporter_leastRecent_9 (fun v4 => ?_)
  refine fs_Jeq (g2 := F0 m 12 ls [.int v4, .int v2]) rfl ?_
  refine fs_if (fun _ _ _ _ => lv_icmp_ge hx hb d_Exporter_leastRecent_12 rfl) ?_ ?_
  · refine fs_lift (fun _ _ _ _ => lv_iload_n hx hb d_Exporter_leastRecent_54 rfl (lv_at hl 1 rfl)) ?_
    exact fs_Jiret S hr hk rfl d_Exporter_leastRecent_55
  · refine fs_lift (fun _ _ _ _ => lv_aload_n hx hb d_Exporter_leastRecent_15 rfl (lv_at hl 0 rfl)) ?_
    refine fs_Jgr S hG fs_in1 rfl 1 (Nat.le_of_ble_eq_true rfl) tw_1_126 (fun _ h9 => h9) d_Exporter_leastRecent_16 (fun r5 => ?_)
    refine fs_lift (fun _ _ _ _ => lv_iload_n hx hb d_Exporter_leastRecent_19 rfl (lv_at hl 2 rfl)) ?_
    refine fs_JV S hG hR rfl [.int v2] (enc := fun r => some (.ref r)) (fun zr zs zt zh => m_ArrayList_get X l r5 v2 zh) tw_2_174 tw_2_33 tw_2_34 tw_2_35 tw_1_5 q_ArrayList_get ⟨(Nat.le_of_ble_eq_true rfl), (Nat.le_of_ble_eq_true rfl)⟩ hl.1 rfl (Nat.le_of_ble_eq_true rfl) d_Exporter_leastRecent_20 (fun r6 => ?_)
    refine fs_Jeq (g2 := F0 m 23 ls [.ref r6]) rfl ?_
    refine fs_Jck S hG rfl tw_2_175 tb_7_82 d_Exporter_leastRecent_23 ?_
    refine fs_Jgi S hG fs_in8 rfl 6 (Nat.le_of_ble_eq_true rfl) tw_3_33 (fun _ h9 => h9) d_Exporter_leastRecent_26 (fun v7 => ?_)
    refine fs_lift (fun _ _ _ _ => lv_aload_n hx hb d_Exporter_leastRecent_29 rfl (lv_at hl 0 rfl)) ?_
    refine fs_Jgr S hG fs_in1 rfl 1 (Nat.le_of_ble_eq_true rfl) tw_1_126 (fun _ h9 => h9) d_Exporter_leastRecent_30 (fun r8 => ?_)
    refine fs_lift (fun _ _ _ _ => lv_iload_n hx hb d_Exporter_leastRecent_33 rfl (lv_at hl 1 rfl)) ?_
    refine fs_JV S hG hR rfl [.int v1] (enc := fun r => some (.ref r)) (fun zr zs zt zh => m_ArrayList_get X l r8 v1 zh) tw_2_174 tw_2_33 tw_2_34 tw_2_35 tw_1_5 q_ArrayList_get ⟨(Nat.le_of_ble_eq_true rfl), (Nat.le_of_ble_eq_true rfl)⟩ hl.1 rfl (Nat.le_of_ble_eq_true rfl) d_Exporter_leastRecent_34 (fun r9 => ?_)
    refine fs_Jeq (g2 := F0 m 37 ls [.ref r9, .int v7]) rfl ?_
    refine fs_Jck S hG rfl tw_2_175 tb_7_82 d_Exporter_leastRecent_37 ?_
    refine fs_Jgi S hG fs_in8 rfl 6 (Nat.le_of_ble_eq_true rfl) tw_3_33 (fun _ h9 => h9) d_Exporter_leastRecent_40 (fun v10 => ?_)
    refine fs_Jlet1 (nL := 3) (pj := 48) (I := fun (v11 : Int32) => [(0, .ref a0), (1, .int v11), (2, .int v2)]) (st := fun (v11 : Int32) => []) (fun v11 ls hl => ?_) (fun j48 hj48 => ?_)
    · refine fs_Jnm (fun v12 hv9 => ?_)
      refine fs_liftL (fun _ _ _ _ => lv_iinc (k := 2) (v := v12) (lv' := [(2, .int v12), (0, .ref a0), (1, .int v11)]) hx hb d_Exporter_leastRecent_48 hl rfl (by rw [hv9]; rfl) (Nat.le_of_ble_eq_true rfl) rfl) (fun ls hl => ?_)
      refine fs_lift (fun _ _ _ _ => lv_goto hx hb d_Exporter_leastRecent_51 rfl) ?_
      exact hk4 v11 v12 ls (lv_sub hl [1, 2, 0] rfl)
    · refine fs_if (fun _ _ _ _ => lv_icmp_ge hx hb d_Exporter_leastRecent_43 rfl) ?_ ?_
      · exact hj48 v1 ls (lv_sub hl [0, 1, 2] rfl)
      · refine fs_lift (fun _ _ _ _ => lv_iload_n hx hb d_Exporter_leastRecent_46 rfl (lv_at hl 2 rfl)) ?_
        refine fs_liftL (fun _ _ _ _ => lv_istore_n (lv' := [(1, .int v2), (0, .ref a0), (2, .int v2)]) hx hb d_Exporter_leastRecent_47 rfl hl (Nat.le_of_ble_eq_true rfl) rfl) (fun ls hl => ?_)
        exact hj48 v2 ls (lv_sub hl [1, 0, 2] rfl)

theorem d_ArrayList_fastRemove_0 : decode prog_29_method_39_code 0 = .ok (.aload_n 0, 1) := by decide +kernel
theorem d_ArrayList_fastRemove_1 : decode prog_29_method_39_code 1 = .ok (.dup, 1) := by decide +kernel
theorem d_ArrayList_fastRemove_2 : decode prog_29_method_39_code 2 = .ok (.getfield 63, 3) := by decide +kernel
theorem d_ArrayList_fastRemove_5 : decode prog_29_method_39_code 5 = .ok (.iconst 1, 1) := by decide +kernel
theorem d_ArrayList_fastRemove_6 : decode prog_29_method_39_code 6 = .ok (.iadd, 1) := by decide +kernel
theorem d_ArrayList_fastRemove_7 : decode prog_29_method_39_code 7 = .ok (.putfield 63, 3) := by decide +kernel
theorem d_ArrayList_fastRemove_10 : decode prog_29_method_39_code 10 = .ok (.aload_n 0, 1) := by decide +kernel
theorem d_ArrayList_fastRemove_11 : decode prog_29_method_39_code 11 = .ok (.getfield 48, 3) := by decide +kernel
theorem d_ArrayList_fastRemove_14 : decode prog_29_method_39_code 14 = .ok (.iconst 1, 1) := by decide +kernel
theorem d_ArrayList_fastRemove_15 : decode prog_29_method_39_code 15 = .ok (.isub, 1) := by decide +kernel
theorem d_ArrayList_fastRemove_16 : decode prog_29_method_39_code 16 = .ok (.dup, 1) := by decide +kernel
theorem d_ArrayList_fastRemove_17 : decode prog_29_method_39_code 17 = .ok (.istore_n 3, 1) := by decide +kernel
theorem d_ArrayList_fastRemove_18 : decode prog_29_method_39_code 18 = .ok (.iload_n 2, 1) := by decide +kernel
theorem d_ArrayList_fastRemove_19 : decode prog_29_method_39_code 19 = .ok (.if_icmp .le 15, 3) := by decide +kernel
theorem d_ArrayList_fastRemove_22 : decode prog_29_method_39_code 22 = .ok (.aload_n 1, 1) := by decide +kernel
theorem d_ArrayList_fastRemove_23 : decode prog_29_method_39_code 23 = .ok (.iload_n 2, 1) := by decide +kernel
theorem d_ArrayList_fastRemove_24 : decode prog_29_method_39_code 24 = .ok (.iconst 1, 1) := by decide +kernel
theorem d_ArrayList_fastRemove_25 : decode prog_29_method_39_code 25 = .ok (.iadd, 1) := by decide +kernel
theorem d_ArrayList_fastRemove_26 : decode prog_29_method_39_code 26 = .ok (.aload_n 1, 1) := by decide +kernel
theorem d_ArrayList_fastRemove_27 : decode prog_29_method_39_code 27 = .ok (.iload_n 2, 1) := by decide +kernel
theorem d_ArrayList_fastRemove_28 : decode prog_29_method_39_code 28 = .ok (.iload_n 3, 1) := by decide +kernel
theorem d_ArrayList_fastRemove_29 : decode prog_29_method_39_code 29 = .ok (.iload_n 2, 1) := by decide +kernel
theorem d_ArrayList_fastRemove_30 : decode prog_29_method_39_code 30 = .ok (.isub, 1) := by decide +kernel
theorem d_ArrayList_fastRemove_31 : decode prog_29_method_39_code 31 = .ok (.invokestatic 112, 3) := by decide +kernel
theorem d_ArrayList_fastRemove_34 : decode prog_29_method_39_code 34 = .ok (.aload_n 1, 1) := by decide +kernel
theorem d_ArrayList_fastRemove_35 : decode prog_29_method_39_code 35 = .ok (.aload_n 0, 1) := by decide +kernel
theorem d_ArrayList_fastRemove_36 : decode prog_29_method_39_code 36 = .ok (.iload_n 3, 1) := by decide +kernel
theorem d_ArrayList_fastRemove_37 : decode prog_29_method_39_code 37 = .ok (.dup_x1, 1) := by decide +kernel
theorem d_ArrayList_fastRemove_38 : decode prog_29_method_39_code 38 = .ok (.putfield 48, 3) := by decide +kernel
theorem d_ArrayList_fastRemove_41 : decode prog_29_method_39_code 41 = .ok (.aconst_null, 1) := by decide +kernel
theorem d_ArrayList_fastRemove_42 : decode prog_29_method_39_code 42 = .ok (.aastore, 1) := by decide +kernel
theorem d_ArrayList_fastRemove_43 : decode prog_29_method_39_code 43 = .ok (.return_, 1) := by decide +kernel
theorem q_ArrayList_fastRemove : (⟨"java/util/ArrayList", "fastRemove", "([Ljava/lang/Object;I)V"⟩ : MethodName).cls ≠ "java/lang/invoke/MethodHandle" ∧ (⟨"java/util/ArrayList", "fastRemove", "([Ljava/lang/Object;I)V"⟩ : MethodName).cls ≠ "java/lang/invoke/VarHandle" ∧ (parseMethodDescriptor (⟨"java/util/ArrayList", "fastRemove", "([Ljava/lang/Object;I)V"⟩ : MethodName).desc).map (fun d => d.parameters.length) = some 2 := by decide +kernel
set_option maxHeartbeats 4000000 in
set_option maxRecDepth 100000 in
theorem m_ArrayList_fastRemove (X : fs_X) (l : Launch) (a0 : Nat) (a1 : Nat) (x2 : Int32) {r : Unit} {σ σF : fs_S} (h : (f_ArrayList_fastRemove a0 a1 x2).1 σ = some (r, σF)) : fs_Met X l ⟨"java/util/ArrayList", "fastRemove", "([Ljava/lang/Object;I)V"⟩ (Cond.code ⟨"java/util/ArrayList", "fastRemove", "([Ljava/lang/Object;I)V"⟩ prog_29_method_39_code 4 none) 1 60 [.ref a0, .ref a1, .int x2] σ (fs_eV r) σF := by
  refine fs_ofW (by decide) ?_
  intro p e s m args below meth c s₁ B hml hT hv
  obtain ⟨rfl, hw0, hG⟩ := hv
  have hx := B.exec
  have hb := B.bytes
  have hr := B.returns
  have hk := B.notSynchronized
  have S : CallFix p m c prog_29_method_39_code 4 s _ fs_ws "java/util/ArrayList" := ⟨B.exec, B.bytes, hml, findClass_of_methodNamed B.named, fun w hw => atoms_spec (ws := _ :: fs_ws) B.pre w (List.mem_cons_of_mem _ hw)⟩
  have hR := fs_hR (fr := 1) (lo := 60) ((f_ArrayList_fastRemove a0 a1 x2).2 _ _ _ h)
  have hl := lv_entry ([.ref a0, .ref a1, .int x2]) (n := 4) (Nat.le_of_ble_eq_true rfl)
  rw [lg_entry_eq]
  generalize (lg_sl ([.ref a0, .ref a1, .int x2]) ++ List.replicate (4 - (lg_sl ([.ref a0, .ref a1, .int x2])).length) Slot.unset).toArray = ls at hl ⊢
  have hl : lv_has ls 4 [(0, .ref a0), (1, .ref a1), (2, .int x2)] := hl
  refine (?_ : fs_J X p l e (fs_rm 1 60 σ σF) s m _ below meth c (fs_Q X below _ s (fs_eV r) σ σF) r σ σF (f_ArrayList_fastRemove a0 a1 x2) (F0 m 0 ls [])) σ s.heap [] 0 0 h hw0 va_S.rf rfl rfl
  clear h hw0
  unfold f_ArrayList_fastRemove
  refine fs_lift (fun _ _ _ _ => lv_aload_n hx hb d_ArrayList_fastRemove_0 rfl (lv_at hl 0 rfl)) ?_
  refine fs_lift (fun _ _ _ _ => lv_dup hx hb d_ArrayList_fastRemove_1 rfl) ?_
  refine fs_Jgi S hG fs_in2 rfl 2 (Nat.le_of_ble_eq_true rfl) tw_1_60 (fun x9 h9 => u_same (S.2.2.2.2 _ tw_1_61) x9 h9) d_ArrayList_fastRemove_2 (fun v1 => ?_)
  refine fs_lift (fun _ _ _ _ => lv_iconst (v := 1) hx hb d_ArrayList_fastRemove_5 (by decide)) ?_
  refine fs_lift (fun _ _ _ _ => lv_iadd hx hb d_ArrayList_fastRemove_6) ?_
  refine fs_Jput S hG fs_in2 rfl 2 (Nat.le_of_ble_eq_true rfl) tw_1_60 (fun x9 h9 => u_same (S.2.2.2.2 _ tw_1_61) x9 h9) fs_Y2 fs_ty2 fs_nm2 (Or.inl rfl) rfl rfl d_ArrayList_fastRemove_7 ?_
  refine fs_lift (fun _ _ _ _ => lv_aload_n hx hb d_ArrayList_fastRemove_10 rfl (lv_at hl 0 rfl)) ?_
  refine fs_Jgi S hG fs_in2 rfl 1 (Nat.le_of_ble_eq_true rfl) tw_1_58 (fun _ h9 => h9) d_ArrayList_fastRemove_11 (fun v2 => ?_)
  refine fs_lift (fun _ _ _ _ => lv_iconst (v := 1) hx hb d_ArrayList_fastRemove_14 (by decide)) ?_
  refine fs_lift (fun _ _ _ _ => lv_isub hx hb d_ArrayList_fastRemove_15) ?_
  refine fs_Jni (fun v3 => ?_)
  refine fs_lift (fun _ _ _ _ => lv_dup hx hb d_ArrayList_fastRemove_16 rfl) ?_
  refine fs_liftL (fun _ _ _ _ => lv_istore_n (lv' := [(3, .int v3), (0, .ref a0), (1, .ref a1), (2, .int x2)]) hx hb d_ArrayList_fastRemove_17 rfl hl (Nat.le_of_ble_eq_true rfl) rfl) (fun ls hl => ?_)
  refine fs_lift (fun _ _ _ _ => lv_iload_n hx hb d_ArrayList_fastRemove_18 rfl (lv_at hl 3 rfl)) ?_
  refine fs_Jlet1 (nL := 4) (pj := 34) (I := fun (_ : Unit) => [(0, .ref a0), (1, .ref a1), (3, .int v3)]) (st := fun (_ : Unit) => []) (fun _ ls hl => ?_) (fun j34 hj34 => ?_)
  · refine fs_lift (fun _ _ _ _ => lv_aload_n hx hb d_ArrayList_fastRemove_34 rfl (lv_at hl 1 rfl)) ?_
    refine fs_lift (fun _ _ _ _ => lv_aload_n hx hb d_ArrayList_fastRemove_35 rfl (lv_at hl 0 rfl)) ?_
    refine fs_lift (fun _ _ _ _ => lv_iload_n hx hb d_ArrayList_fastRemove_36 rfl (lv_at hl 2 rfl)) ?_
    refine fs_lift (fun _ _ _ _ => lv_dup_x1 hx hb d_ArrayList_fastRemove_37 rfl rfl) ?_
    refine fs_Jput S hG fs_in2 rfl 1 (Nat.le_of_ble_eq_true rfl) tw_1_58 (fun _ h9 => h9) fs_Y2 fs_ty2 fs_nm2 (Or.inl rfl) rfl rfl d_ArrayList_fastRemove_38 ?_
    refine fs_lift (fun _ _ _ _ => lv_null hx hb d_ArrayList_fastRemove_41) ?_
    refine fs_Js0 S hG d_ArrayList_fastRemove_42 ?_
    exact fs_Jvret S hr hk rfl d_ArrayList_fastRemove_43
  · refine fs_if (fun _ _ _ _ => lv_icmp_le hx hb d_ArrayList_fastRemove_19 rfl) ?_ ?_
    · exact hj34 () ls (lv_sub hl [1, 2, 0] rfl)
    · refine fs_lift (fun _ _ _ _ => lv_aload_n hx hb d_ArrayList_fastRemove_22 rfl (lv_at hl 2 rfl)) ?_
      refine fs_lift (fun _ _ _ _ => lv_iload_n hx hb d_ArrayList_fastRemove_23 rfl (lv_at hl 3 rfl)) ?_
      refine fs_lift (fun _ _ _ _ => lv_iconst (v := 1) hx hb d_ArrayList_fastRemove_24 (by decide)) ?_
      refine fs_lift (fun _ _ _ _ => lv_iadd hx hb d_ArrayList_fastRemove_25) ?_
      refine fs_lift (fun _ _ _ _ => lv_aload_n hx hb d_ArrayList_fastRemove_26 rfl (lv_at hl 2 rfl)) ?_
      refine fs_lift (fun _ _ _ _ => lv_iload_n hx hb d_ArrayList_fastRemove_27 rfl (lv_at hl 3 rfl)) ?_
      refine fs_lift (fun _ _ _ _ => lv_iload_n hx hb d_ArrayList_fastRemove_28 rfl (lv_at hl 0 rfl)) ?_
      refine fs_lift (fun _ _ _ _ => lv_iload_n hx hb d_ArrayList_fastRemove_29 rfl (lv_at hl 3 rfl)) ?_
      refine fs_lift (fun _ _ _ _ => lv_isub hx hb d_ArrayList_fastRemove_30) ?_
      refine fs_Jcp S hG tw_2_196 hl.1 (Nat.le_of_ble_eq_true rfl) (Nat.le_of_ble_eq_true rfl) d_ArrayList_fastRemove_31 ?_
      refine fs_Jeq (g2 := F0 m 34 ls []) rfl ?_
      exact hj34 () ls (lv_sub hl [1, 2, 0] rfl)

theorem d_ArrayList_remove_0 : decode prog_29_method_29_code 0 = .ok (.iload_n 1, 1) := by decide +kernel
theorem d_ArrayList_remove_1 : decode prog_29_method_29_code 1 = .ok (.aload_n 0, 1) := by decide +kernel
theorem d_ArrayList_remove_2 : decode prog_29_method_29_code 2 = .ok (.getfield 48, 3) := by decide +kernel
theorem d_ArrayList_remove_5 : decode prog_29_method_29_code 5 = .ok (.invokestatic 118, 3) := by decide +kernel
theorem d_ArrayList_remove_8 : decode prog_29_method_29_code 8 = .ok (.pop, 1) := by decide +kernel
theorem d_ArrayList_remove_9 : decode prog_29_method_29_code 9 = .ok (.aload_n 0, 1) := by decide +kernel
theorem d_ArrayList_remove_10 : decode prog_29_method_29_code 10 = .ok (.getfield 9, 3) := by decide +kernel
theorem d_ArrayList_remove_13 : decode prog_29_method_29_code 13 = .ok (.astore_n 2, 1) := by decide +kernel
theorem d_ArrayList_remove_14 : decode prog_29_method_29_code 14 = .ok (.aload_n 2, 1) := by decide +kernel
theorem d_ArrayList_remove_15 : decode prog_29_method_29_code 15 = .ok (.iload_n 1, 1) := by decide +kernel
theorem d_ArrayList_remove_16 : decode prog_29_method_29_code 16 = .ok (.aaload, 1) := by decide +kernel
theorem d_ArrayList_remove_17 : decode prog_29_method_29_code 17 = .ok (.astore_n 3, 1) := by decide +kernel
theorem d_ArrayList_remove_18 : decode prog_29_method_29_code 18 = .ok (.aload_n 0, 1) := by decide +kernel
theorem d_ArrayList_remove_19 : decode prog_29_method_29_code 19 = .ok (.aload_n 2, 1) := by decide +kernel
theorem d_ArrayList_remove_20 : decode prog_29_method_29_code 20 = .ok (.iload_n 1, 1) := by decide +kernel
theorem d_ArrayList_remove_21 : decode prog_29_method_29_code 21 = .ok (.invokevirtual 144, 3) := by decide +kernel
theorem d_ArrayList_remove_24 : decode prog_29_method_29_code 24 = .ok (.aload_n 3, 1) := by decide +kernel
theorem d_ArrayList_remove_25 : decode prog_29_method_29_code 25 = .ok (.areturn, 1) := by decide +kernel
theorem q_ArrayList_remove : (⟨"java/util/ArrayList", "remove", "(I)Ljava/lang/Object;"⟩ : MethodName).cls ≠ "java/lang/invoke/MethodHandle" ∧ (⟨"java/util/ArrayList", "remove", "(I)Ljava/lang/Object;"⟩ : MethodName).cls ≠ "java/lang/invoke/VarHandle" ∧ (parseMethodDescriptor (⟨"java/util/ArrayList", "remove", "(I)Ljava/lang/Object;"⟩ : MethodName).desc).map (fun d => d.parameters.length) = some 1 := by decide +kernel
set_option maxHeartbeats 4000000 in
set_option maxRecDepth 100000 in
theorem m_ArrayList_remove (X : fs_X) (l : Launch) (a0 : Nat) (x1 : Int32) {r : Nat} {σ σF : fs_S} (h : (f_ArrayList_remove a0 x1).1 σ = some (r, σF)) : fs_Met X l ⟨"java/util/ArrayList", "remove", "(I)Ljava/lang/Object;"⟩ (Cond.code ⟨"java/util/ArrayList", "remove", "(I)Ljava/lang/Object;"⟩ prog_29_method_29_code 4 (some (FieldType.object "java/lang/Object"))) 2 83 [.ref a0, .int x1] σ (fs_eR r) σF := by
  refine fs_ofW (by decide) ?_
  intro p e s m args below meth c s₁ B hml hT hv
  obtain ⟨rfl, hw0, hG⟩ := hv
  have hx := B.exec
  have hb := B.bytes
  have hr := B.returns
  have hk := B.notSynchronized
  have S : CallFix p m c prog_29_method_29_code 4 s _ fs_ws "java/util/ArrayList" := ⟨B.exec, B.bytes, hml, findClass_of_methodNamed B.named, fun w hw => atoms_spec (ws := _ :: fs_ws) B.pre w (List.mem_cons_of_mem _ hw)⟩
  have hR := fs_hR (fr := 2) (lo := 83) ((f_ArrayList_remove a0 x1).2 _ _ _ h)
  have hl := lv_entry ([.ref a0, .int x1]) (n := 4) (Nat.le_of_ble_eq_true rfl)
  rw [lg_entry_eq]
  generalize (lg_sl ([.ref a0, .int x1]) ++ List.replicate (4 - (lg_sl ([.ref a0, .int x1])).length) Slot.unset).toArray = ls at hl ⊢
  have hl : lv_has ls 4 [(0, .ref a0), (1, .int x1)] := hl
  refine (?_ : fs_J X p l e (fs_rm 2 83 σ σF) s m _ below meth c (fs_Q X below _ s (fs_eR r) σ σF) r σ σF (f_ArrayList_remove a0 x1) (F0 m 0 ls [])) σ s.heap [] 0 0 h hw0 va_S.rf rfl rfl
  clear h hw0
  unfold f_ArrayList_remove
  refine fs_lift (fun _ _ _ _ => lv_iload_n hx hb d_ArrayList_remove_0 rfl (lv_at hl 1 rfl)) ?_
  refine fs_lift (fun _ _ _ _ => lv_aload_n hx hb d_ArrayList_remove_1 rfl (lv_at hl 0 rfl)) ?_
  refine fs_Jgi S hG fs_in2 rfl 1 (Nat.le_of_ble_eq_true rfl) tw_1_58 (fun _ h9 => h9) d_ArrayList_remove_2 (fun v1 => ?_)
  refine fs_JS S hG hR [.int x1, .int v1] (enc := fun r => some (.int r)) (fun zr zs zt zh => m_Objects_checkIndex X l x1 v1 zh) tw_2_36 tw_2_37 tw_2_38 tw_1_17 q_Objects_checkIndex ⟨(Nat.le_of_ble_eq_true rfl), (Nat.le_of_ble_eq_true rfl)⟩ hl.1 rfl (Nat.le_of_ble_eq_true rfl) d_ArrayList_remove_5 (fun v2 => ?_)
  refine fs_Jeq (g2 := F0 m 8 ls [.int v2]) rfl ?_
  refine fs_lift (fun _ _ _ _ => lv_pop hx hb d_ArrayList_remove_8 rfl) ?_
  refine fs_lift (fun _ _ _ _ => lv_aload_n hx hb d_ArrayList_remove_9 rfl (lv_at hl 0 rfl)) ?_
  refine fs_Jgr S hG fs_in2 rfl 0 (Nat.le_of_ble_eq_true rfl) tw_1_57 (fun _ h9 => h9) d_ArrayList_remove_10 (fun r3 => ?_)
  refine fs_liftL (fun _ _ _ _ => lv_astore_n (lv' := [(2, .ref r3), (0, .ref a0), (1, .int x1)]) hx hb d_ArrayList_remove_13 rfl hl (Nat.le_of_ble_eq_true rfl) rfl) (fun ls hl => ?_)
  refine fs_lift (fun _ _ _ _ => lv_aload_n hx hb d_ArrayList_remove_14 rfl (lv_at hl 0 rfl)) ?_
  refine fs_lift (fun _ _ _ _ => lv_iload_n hx hb d_ArrayList_remove_15 rfl (lv_at hl 2 rfl)) ?_
  refine fs_Jar S hG d_ArrayList_remove_16 (fun r4 => ?_)
  refine fs_liftL (fun _ _ _ _ => lv_astore_n (lv' := [(3, .ref r4), (2, .ref r3), (0, .ref a0), (1, .int x1)]) hx hb d_ArrayList_remove_17 rfl hl (Nat.le_of_ble_eq_true rfl) rfl) (fun ls hl => ?_)
  refine fs_lift (fun _ _ _ _ => lv_aload_n hx hb d_ArrayList_remove_18 rfl (lv_at hl 2 rfl)) ?_
  refine fs_lift (fun _ _ _ _ => lv_aload_n hx hb d_ArrayList_remove_19 rfl (lv_at hl 1 rfl)) ?_
  refine fs_lift (fun _ _ _ _ => lv_iload_n hx hb d_ArrayList_remove_20 rfl (lv_at hl 3 rfl)) ?_
  refine fs_JV S hG hR rfl [.ref r3, .int x1] (enc := fun _ => none) (fun zr zs zt zh => m_ArrayList_fastRemove X l a0 r3 x1 zh) tw_2_192 tw_2_194 tp_1_3 tw_2_195 tw_1_5 q_ArrayList_fastRemove ⟨(Nat.le_of_ble_eq_true rfl), (Nat.le_of_ble_eq_true rfl)⟩ hl.1 rfl (Nat.le_of_ble_eq_true rfl) d_ArrayList_remove_21 (fun _ => ?_)
  refine fs_Jeq (g2 := F0 m 24 ls []) rfl ?_
  refine fs_lift (fun _ _ _ _ => lv_aload_n hx hb d_ArrayList_remove_24 rfl (lv_at hl 0 rfl)) ?_
  exact fs_Jaret S hr (Or.inl ⟨_, rfl⟩) hk rfl d_ArrayList_remove_25

theorem d_ArraysSupport_newLength_0 : decode prog_36_method_27_code 0 = .ok (.iload_n 0, 1) := by decide +kernel
theorem d_ArraysSupport_newLength_1 : decode prog_36_method_27_code 1 = .ok (.iload_n 1, 1) := by decide +kernel
theorem d_ArraysSupport_newLength_2 : decode prog_36_method_27_code 2 = .ok (.iload_n 2, 1) := by decide +kernel
theorem d_ArraysSupport_newLength_3 : decode prog_36_method_27_code 3 = .ok (.invokestatic 194, 3) := by decide +kernel
theorem d_ArraysSupport_newLength_6 : decode prog_36_method_27_code 6 = .ok (.iadd, 1) := by decide +kernel
theorem d_ArraysSupport_newLength_7 : decode prog_36_method_27_code 7 = .ok (.istore_n 3, 1) := by decide +kernel
theorem d_ArraysSupport_newLength_8 : decode prog_36_method_27_code 8 = .ok (.iconst 0, 1) := by decide +kernel
theorem d_ArraysSupport_newLength_9 : decode prog_36_method_27_code 9 = .ok (.iload_n 3, 1) := by decide +kernel
theorem d_ArraysSupport_newLength_10 : decode prog_36_method_27_code 10 = .ok (.if_icmp .ge 11, 3) := by decide +kernel
theorem d_ArraysSupport_newLength_13 : decode prog_36_method_27_code 13 = .ok (.iload_n 3, 1) := by decide +kernel
theorem d_ArraysSupport_newLength_14 : decode prog_36_method_27_code 14 = .ok (.ldc 200, 2) := by decide +kernel
theorem d_ArraysSupport_newLength_16 : decode prog_36_method_27_code 16 = .ok (.if_icmp .gt 5, 3) := by decide +kernel
theorem d_ArraysSupport_newLength_19 : decode prog_36_method_27_code 19 = .ok (.iload_n 3, 1) := by decide +kernel
theorem d_ArraysSupport_newLength_20 : decode prog_36_method_27_code 20 = .ok (.ireturn, 1) := by decide +kernel
theorem q_ArraysSupport_newLength : (⟨"jdk/internal/util/ArraysSupport", "newLength", "(III)I"⟩ : MethodName).cls ≠ "java/lang/invoke/MethodHandle" ∧ (⟨"jdk/internal/util/ArraysSupport", "newLength", "(III)I"⟩ : MethodName).cls ≠ "java/lang/invoke/VarHandle" ∧ (parseMethodDescriptor (⟨"jdk/internal/util/ArraysSupport", "newLength", "(III)I"⟩ : MethodName).desc).map (fun d => d.parameters.length) = some 3 := by decide +kernel
set_option maxHeartbeats 4000000 in
set_option maxRecDepth 100000 in
theorem m_ArraysSupport_newLength (X : fs_X) (l : Launch) (x0 : Int32) (x1 : Int32) (x2 : Int32) {r : Int32} {σ σF : fs_S} (h : (f_ArraysSupport_newLength x0 x1 x2).1 σ = some (r, σF)) : fs_Met X l ⟨"jdk/internal/util/ArraysSupport", "newLength", "(III)I"⟩ (Cond.code ⟨"jdk/internal/util/ArraysSupport", "newLength", "(III)I"⟩ prog_36_method_27_code 4 (some FieldType.int)) 1 14 [.int x0, .int x1, .int x2] σ (fs_eI r) σF := by
  refine fs_ofW (by decide) ?_
  intro p e s m args below meth c s₁ B hml hT hv
  obtain ⟨rfl, hw0, hG⟩ := hv
  have hx := B.exec
  have hb := B.bytes
  have hr := B.returns
  have hk := B.notSynchronized
  have S : CallFix p m c prog_36_method_27_code 4 s _ fs_ws "jdk/internal/util/ArraysSupport" := ⟨B.exec, B.bytes, hml, findClass_of_methodNamed B.named, fun w hw => atoms_spec (ws := _ :: fs_ws) B.pre w (List.mem_cons_of_mem _ hw)⟩
  have hR := fs_hR (fr := 1) (lo := 14) ((f_ArraysSupport_newLength x0 x1 x2).2 _ _ _ h)
  have hl := lv_entry ([.int x0, .int x1, .int x2]) (n := 4) (Nat.le_of_ble_eq_true rfl)
  rw [lg_entry_eq]
  generalize (lg_sl ([.int x0, .int x1, .int x2]) ++ List.replicate (4 - (lg_sl ([.int x0, .int x1, .int x2])).length) Slot.unset).toArray = ls at hl ⊢
  have hl : lv_has ls 4 [(0, .int x0), (1, .int x1), (2, .int x2)] := hl
  refine (?_ : fs_J X p l e (fs_rm 1 14 σ σF) s m _ below meth c (fs_Q X below _ s (fs_eI r) σ σF) r σ σF (f_ArraysSupport_newLength x0 x1 x2) (F0 m 0 ls [])) σ s.heap [] 0 0 h hw0 va_S.rf rfl rfl
  clear h hw0
  unfold f_ArraysSupport_newLength
  refine fs_lift (fun _ _ _ _ => lv_iload_n hx hb d_ArraysSupport_newLength_0 rfl (lv_at hl 0 rfl)) ?_
  refine fs_lift (fun _ _ _ _ => lv_iload_n hx hb d_ArraysSupport_newLength_1 rfl (lv_at hl 1 rfl)) ?_
  refine fs_lift (fun _ _ _ _ => lv_iload_n hx hb d_ArraysSupport_newLength_2 rfl (lv_at hl 2 rfl)) ?_
  refine fs_Jmax S hR hl.1 tw_2_218 tw_2_219 tw_2_220 (Nat.le_of_ble_eq_true rfl) (Nat.le_of_ble_eq_true rfl) d_ArraysSupport_newLength_3 ?_
  refine fs_Jeq (g2 := F0 m 6 ls [.int (fs_max x1 x2), .int x0]) rfl ?_
  refine fs_lift (fun _ _ _ _ => lv_iadd hx hb d_ArraysSupport_newLength_6) ?_
  refine fs_Jni (fun v1 => ?_)
  refine fs_liftL (fun _ _ _ _ => lv_istore_n (lv' := [(3, .int v1), (0, .int x0), (1, .int x1), (2, .int x2)]) hx hb d_ArraysSupport_newLength_7 rfl hl (Nat.le_of_ble_eq_true rfl) rfl) (fun ls hl => ?_)
  refine fs_lift (fun _ _ _ _ => lv_iconst (v := 0) hx hb d_ArraysSupport_newLength_8 (by decide)) ?_
  refine fs_lift (fun _ _ _ _ => lv_iload_n hx hb d_ArraysSupport_newLength_9 rfl (lv_at hl 0 rfl)) ?_
  refine fs_Jlet1 (nL := 4) (pj := 21) (I := fun (_ : Unit) => [(0, .int x0), (1, .int x1)]) (st := fun (_ : Unit) => []) (fun _ ls hl => ?_) (fun j21 hj21 => ?_)
  · exact fs_Jfail
  · refine fs_if (fun _ _ _ _ => lv_icmp_ge hx hb d_ArraysSupport_newLength_10 rfl) ?_ ?_
    · exact hj21 () ls (lv_sub hl [1, 2] rfl)
    · refine fs_lift (fun _ _ _ _ => lv_iload_n hx hb d_ArraysSupport_newLength_13 rfl (lv_at hl 0 rfl)) ?_
      refine fs_lift (fun _ _ _ _ => lv_ldc hx hb S.2.2.2.1 (S.2.2.2.2 _ tw_2_221) d_ArraysSupport_newLength_14) ?_
      refine fs_if (fun _ _ _ _ => lv_icmp_gt hx hb d_ArraysSupport_newLength_16 rfl) ?_ ?_
      · exact hj21 () ls (lv_sub hl [1, 2] rfl)
      · refine fs_lift (fun _ _ _ _ => lv_iload_n hx hb d_ArraysSupport_newLength_19 rfl (lv_at hl 0 rfl)) ?_
        exact fs_Jiret S hr hk rfl d_ArraysSupport_newLength_20

theorem d_Arrays_copyOf_1_0 : decode prog_30_method_120_code 0 = .ok (.aload_n 2, 1) := by decide +kernel
theorem d_Arrays_copyOf_1_1 : decode prog_30_method_120_code 1 = .ok (.ldc 110, 2) := by decide +kernel
theorem d_Arrays_copyOf_1_3 : decode prog_30_method_120_code 3 = .ok (.if_acmp .ne 10, 3) := by decide +kernel
theorem d_Arrays_copyOf_1_6 : decode prog_30_method_120_code 6 = .ok (.iload_n 1, 1) := by decide +kernel
theorem d_Arrays_copyOf_1_7 : decode prog_30_method_120_code 7 = .ok (.anewarray 2, 3) := by decide +kernel
theorem d_Arrays_copyOf_1_10 : decode prog_30_method_120_code 10 = .ok (.goto 14, 3) := by decide +kernel
theorem d_Arrays_copyOf_1_24 : decode prog_30_method_120_code 24 = .ok (.astore_n 3, 1) := by decide +kernel
theorem d_Arrays_copyOf_1_25 : decode prog_30_method_120_code 25 = .ok (.aload_n 0, 1) := by decide +kernel
theorem d_Arrays_copyOf_1_26 : decode prog_30_method_120_code 26 = .ok (.iconst 0, 1) := by decide +kernel
theorem d_Arrays_copyOf_1_27 : decode prog_30_method_120_code 27 = .ok (.aload_n 3, 1) := by decide +kernel
theorem d_Arrays_copyOf_1_28 : decode prog_30_method_120_code 28 = .ok (.iconst 0, 1) := by decide +kernel
theorem d_Arrays_copyOf_1_29 : decode prog_30_method_120_code 29 = .ok (.aload_n 0, 1) := by decide +kernel
theorem d_Arrays_copyOf_1_30 : decode prog_30_method_120_code 30 = .ok (.arraylength, 1) := by decide +kernel
theorem d_Arrays_copyOf_1_31 : decode prog_30_method_120_code 31 = .ok (.iload_n 1, 1) := by decide +kernel
theorem d_Arrays_copyOf_1_32 : decode prog_30_method_120_code 32 = .ok (.invokestatic 304, 3) := by decide +kernel
theorem d_Arrays_copyOf_1_35 : decode prog_30_method_120_code 35 = .ok (.invokestatic 150, 3) := by decide +kernel
theorem d_Arrays_copyOf_1_38 : decode prog_30_method_120_code 38 = .ok (.aload_n 3, 1) := by decide +kernel
theorem d_Arrays_copyOf_1_39 : decode prog_30_method_120_code 39 = .ok (.areturn, 1) := by decide +kernel
theorem q_Arrays_copyOf_1 : (⟨"java/util/Arrays", "copyOf", "([Ljava/lang/Object;ILjava/lang/Class;)[Ljava/lang/Object;"⟩ : MethodName).cls ≠ "java/lang/invoke/MethodHandle" ∧ (⟨"java/util/Arrays", "copyOf", "([Ljava/lang/Object;ILjava/lang/Class;)[Ljava/lang/Object;"⟩ : MethodName).cls ≠ "java/lang/invoke/VarHandle" ∧ (parseMethodDescriptor (⟨"java/util/Arrays", "copyOf", "([Ljava/lang/Object;ILjava/lang/Class;)[Ljava/lang/Object;"⟩ : MethodName).desc).map (fun d => d.parameters.length) = some 3 := by decide +kernel
set_option maxHeartbeats 4000000 in
set_option maxRecDepth 100000 in
theorem m_Arrays_copyOf_1 (X : fs_X) (l : Launch) (a0 : Nat) (x1 : Int32) (a2 : Nat) {r : Nat} {σ σF : fs_S} (h : (f_Arrays_copyOf_1 a0 x1 a2).1 σ = some (r, σF)) : fs_Met X l ⟨"java/util/Arrays", "copyOf", "([Ljava/lang/Object;ILjava/lang/Class;)[Ljava/lang/Object;"⟩ (Cond.code ⟨"java/util/Arrays", "copyOf", "([Ljava/lang/Object;ILjava/lang/Class;)[Ljava/lang/Object;"⟩ prog_30_method_120_code 4 (some (FieldType.array (FieldType.object "java/lang/Object")))) 1 60 [.ref a0, .int x1, .ref a2] σ (fs_eR r) σF := by
  refine fs_ofW (by decide) ?_
  intro p e s m args below meth c s₁ B hml hT hv
  obtain ⟨rfl, hw0, hG⟩ := hv
  have hx := B.exec
  have hb := B.bytes
  have hr := B.returns
  have hk := B.notSynchronized
  have S : CallFix p m c prog_30_method_120_code 4 s _ fs_ws "java/util/Arrays" := ⟨B.exec, B.bytes, hml, findClass_of_methodNamed B.named, fun w hw => atoms_spec (ws := _ :: fs_ws) B.pre w (List.mem_cons_of_mem _ hw)⟩
  have hR := fs_hR (fr := 1) (lo := 60) ((f_Arrays_copyOf_1 a0 x1 a2).2 _ _ _ h)
  have hl := lv_entry ([.ref a0, .int x1, .ref a2]) (n := 4) (Nat.le_of_ble_eq_true rfl)
  rw [lg_entry_eq]
  generalize (lg_sl ([.ref a0, .int x1, .ref a2]) ++ List.replicate (4 - (lg_sl ([.ref a0, .int x1, .ref a2])).length) Slot.unset).toArray = ls at hl ⊢
  have hl : lv_has ls 4 [(0, .ref a0), (1, .int x1), (2, .ref a2)] := hl
  refine (?_ : fs_J X p l e (fs_rm 1 60 σ σF) s m _ below meth c (fs_Q X below _ s (fs_eR r) σ σF) r σ σF (f_Arrays_copyOf_1 a0 x1 a2) (F0 m 0 ls [])) σ s.heap [] 0 0 h hw0 va_S.rf rfl rfl
  clear h hw0
  unfold f_Arrays_copyOf_1
  refine fs_lift (fun _ _ _ _ => lv_aload_n hx hb d_Arrays_copyOf_1_0 rfl (lv_at hl 2 rfl)) ?_
  refine fs_Jlc S hG tw_3_12 d_Arrays_copyOf_1_1 (fun r1 => ?_)
  refine fs_Jlet1 (nL := 4) (pj := 24) (I := fun (r3 : Nat) => [(0, .ref a0), (1, .int x1)]) (st := fun (r3 : Nat) => [.ref r3]) (fun r3 ls hl => ?_) (fun j24 hj24 => ?_)
  · refine fs_liftL (fun _ _ _ _ => lv_astore_n (lv' := [(3, .ref r3), (0, .ref a0), (1, .int x1)]) hx hb d_Arrays_copyOf_1_24 rfl hl (Nat.le_of_ble_eq_true rfl) rfl) (fun ls hl => ?_)
    refine fs_lift (fun _ _ _ _ => lv_aload_n hx hb d_Arrays_copyOf_1_25 rfl (lv_at hl 1 rfl)) ?_
    refine fs_lift (fun _ _ _ _ => lv_iconst (v := 0) hx hb d_Arrays_copyOf_1_26 (by decide)) ?_
    refine fs_lift (fun _ _ _ _ => lv_aload_n hx hb d_Arrays_copyOf_1_27 rfl (lv_at hl 0 rfl)) ?_
    refine fs_lift (fun _ _ _ _ => lv_iconst (v := 0) hx hb d_Arrays_copyOf_1_28 (by decide)) ?_
    refine fs_lift (fun _ _ _ _ => lv_aload_n hx hb d_Arrays_copyOf_1_29 rfl (lv_at hl 1 rfl)) ?_
    refine fs_Jal S hG d_Arrays_copyOf_1_30 (fun v4 => ?_)
    refine fs_lift (fun _ _ _ _ => lv_iload_n hx hb d_Arrays_copyOf_1_31 rfl (lv_at hl 2 rfl)) ?_
    refine fs_Jmin S hR hl.1 tw_3_15 tw_3_16 tw_3_17 (Nat.le_of_ble_eq_true rfl) (Nat.le_of_ble_eq_true rfl) d_Arrays_copyOf_1_32 ?_
    refine fs_Jeq (g2 := F0 m 35 ls [.int (fs_min v4 x1), .int 0, .ref r3, .int 0, .ref a0]) rfl ?_
    refine fs_Jcp S hG tw_3_18 hl.1 (Nat.le_of_ble_eq_true rfl) (Nat.le_of_ble_eq_true rfl) d_Arrays_copyOf_1_35 ?_
    refine fs_Jeq (g2 := F0 m 38 ls []) rfl ?_
    refine fs_lift (fun _ _ _ _ => lv_aload_n hx hb d_Arrays_copyOf_1_38 rfl (lv_at hl 0 rfl)) ?_
    exact fs_Jaret S hr (Or.inr ⟨_, rfl⟩) hk rfl d_Arrays_copyOf_1_39
  · refine fs_ifn (fun _ _ _ _ => fs_acne hx hb d_Arrays_copyOf_1_3 rfl) ?_ ?_
    · refine fs_lift (fun _ _ _ _ => lv_iload_n hx hb d_Arrays_copyOf_1_6 rfl (lv_at hl 1 rfl)) ?_
      refine fs_Jwo S hG hR tw_3_14 tb_3_13 d_Arrays_copyOf_1_7 (fun r2 => ?_)
      refine fs_lift (fun _ _ _ _ => lv_goto hx hb d_Arrays_copyOf_1_10 rfl) ?_
      exact hj24 r2 ls (lv_sub hl [0, 1] rfl)
    · exact fs_Jfail

theorem d_Arrays_copyOf_0_0 : decode prog_30_method_119_code 0 = .ok (.aload_n 0, 1) := by decide +kernel
theorem d_Arrays_copyOf_0_1 : decode prog_30_method_119_code 1 = .ok (.iload_n 1, 1) := by decide +kernel
theorem d_Arrays_copyOf_0_2 : decode prog_30_method_119_code 2 = .ok (.aload_n 0, 1) := by decide +kernel
theorem d_Arrays_copyOf_0_3 : decode prog_30_method_119_code 3 = .ok (.invokevirtual 86, 3) := by decide +kernel
theorem d_Arrays_copyOf_0_6 : decode prog_30_method_119_code 6 = .ok (.invokestatic 300, 3) := by decide +kernel
theorem d_Arrays_copyOf_0_9 : decode prog_30_method_119_code 9 = .ok (.areturn, 1) := by decide +kernel
theorem q_Arrays_copyOf_0 : (⟨"java/util/Arrays", "copyOf", "([Ljava/lang/Object;I)[Ljava/lang/Object;"⟩ : MethodName).cls ≠ "java/lang/invoke/MethodHandle" ∧ (⟨"java/util/Arrays", "copyOf", "([Ljava/lang/Object;I)[Ljava/lang/Object;"⟩ : MethodName).cls ≠ "java/lang/invoke/VarHandle" ∧ (parseMethodDescriptor (⟨"java/util/Arrays", "copyOf", "([Ljava/lang/Object;I)[Ljava/lang/Object;"⟩ : MethodName).desc).map (fun d => d.parameters.length) = some 2 := by decide +kernel
set_option maxHeartbeats 4000000 in
set_option maxRecDepth 100000 in
theorem m_Arrays_copyOf_0 (X : fs_X) (l : Launch) (a0 : Nat) (x1 : Int32) {r : Nat} {σ σF : fs_S} (h : (f_Arrays_copyOf_0 a0 x1).1 σ = some (r, σF)) : fs_Met X l ⟨"java/util/Arrays", "copyOf", "([Ljava/lang/Object;I)[Ljava/lang/Object;"⟩ (Cond.code ⟨"java/util/Arrays", "copyOf", "([Ljava/lang/Object;I)[Ljava/lang/Object;"⟩ prog_30_method_119_code 2 (some (FieldType.array (FieldType.object "java/lang/Object")))) 2 83 [.ref a0, .int x1] σ (fs_eR r) σF := by
  refine fs_ofW (by decide) ?_
  intro p e s m args below meth c s₁ B hml hT hv
  obtain ⟨rfl, hw0, hG⟩ := hv
  have hx := B.exec
  have hb := B.bytes
  have hr := B.returns
  have hk := B.notSynchronized
  have S : CallFix p m c prog_30_method_119_code 2 s _ fs_ws "java/util/Arrays" := ⟨B.exec, B.bytes, hml, findClass_of_methodNamed B.named, fun w hw => atoms_spec (ws := _ :: fs_ws) B.pre w (List.mem_cons_of_mem _ hw)⟩
  have hR := fs_hR (fr := 2) (lo := 83) ((f_Arrays_copyOf_0 a0 x1).2 _ _ _ h)
  have hl := lv_entry ([.ref a0, .int x1]) (n := 2) (Nat.le_of_ble_eq_true rfl)
  rw [lg_entry_eq]
  generalize (lg_sl ([.ref a0, .int x1]) ++ List.replicate (2 - (lg_sl ([.ref a0, .int x1])).length) Slot.unset).toArray = ls at hl ⊢
  have hl : lv_has ls 2 [(0, .ref a0), (1, .int x1)] := hl
  refine (?_ : fs_J X p l e (fs_rm 2 83 σ σF) s m _ below meth c (fs_Q X below _ s (fs_eR r) σ σF) r σ σF (f_Arrays_copyOf_0 a0 x1) (F0 m 0 ls [])) σ s.heap [] 0 0 h hw0 va_S.rf rfl rfl
  clear h hw0
  unfold f_Arrays_copyOf_0
  refine fs_lift (fun _ _ _ _ => lv_aload_n hx hb d_Arrays_copyOf_0_0 rfl (lv_at hl 0 rfl)) ?_
  refine fs_lift (fun _ _ _ _ => lv_iload_n hx hb d_Arrays_copyOf_0_1 rfl (lv_at hl 1 rfl)) ?_
  refine fs_lift (fun _ _ _ _ => lv_aload_n hx hb d_Arrays_copyOf_0_2 rfl (lv_at hl 0 rfl)) ?_
  refine fs_Jgc S hG tw_2_228 hl.1 (Nat.le_of_ble_eq_true rfl) (Nat.le_of_ble_eq_true rfl) d_Arrays_copyOf_0_3 (fun r1 => ?_)
  refine fs_Jeq (g2 := F0 m 6 ls [.ref r1, .int x1, .ref a0]) rfl ?_
  refine fs_JS S hG hR [.ref a0, .int x1, .ref r1] (enc := fun r => some (.ref r)) (fun zr zs zt zh => m_Arrays_copyOf_1 X l a0 x1 r1 zh) tw_3_9 tw_3_10 tw_3_11 tw_1_22 q_Arrays_copyOf_1 ⟨(Nat.le_of_ble_eq_true rfl), (Nat.le_of_ble_eq_true rfl)⟩ hl.1 rfl (Nat.le_of_ble_eq_true rfl) d_Arrays_copyOf_0_6 (fun r2 => ?_)
  refine fs_Jeq (g2 := F0 m 9 ls [.ref r2]) rfl ?_
  exact fs_Jaret S hr (Or.inr ⟨_, rfl⟩) hk rfl d_Arrays_copyOf_0_9

theorem d_ArrayList_grow_1_0 : decode prog_29_method_6_code 0 = .ok (.aload_n 0, 1) := by decide +kernel
theorem d_ArrayList_grow_1_1 : decode prog_29_method_6_code 1 = .ok (.getfield 9, 3) := by decide +kernel
theorem d_ArrayList_grow_1_4 : decode prog_29_method_6_code 4 = .ok (.arraylength, 1) := by decide +kernel
theorem d_ArrayList_grow_1_5 : decode prog_29_method_6_code 5 = .ok (.istore_n 2, 1) := by decide +kernel
theorem d_ArrayList_grow_1_6 : decode prog_29_method_6_code 6 = .ok (.iload_n 2, 1) := by decide +kernel
theorem d_ArrayList_grow_1_7 : decode prog_29_method_6_code 7 = .ok (.ifCond .gt 13, 3) := by decide +kernel
theorem d_ArrayList_grow_1_10 : decode prog_29_method_6_code 10 = .ok (.aload_n 0, 1) := by decide +kernel
theorem d_ArrayList_grow_1_11 : decode prog_29_method_6_code 11 = .ok (.getfield 9, 3) := by decide +kernel
theorem d_ArrayList_grow_1_14 : decode prog_29_method_6_code 14 = .ok (.getstatic 39, 3) := by decide +kernel
theorem d_ArrayList_grow_1_17 : decode prog_29_method_6_code 17 = .ok (.if_acmp .eq 28, 3) := by decide +kernel
theorem d_ArrayList_grow_1_20 : decode prog_29_method_6_code 20 = .ok (.iload_n 2, 1) := by decide +kernel
theorem d_ArrayList_grow_1_21 : decode prog_29_method_6_code 21 = .ok (.iload_n 1, 1) := by decide +kernel
theorem d_ArrayList_grow_1_22 : decode prog_29_method_6_code 22 = .ok (.iload_n 2, 1) := by decide +kernel
theorem d_ArrayList_grow_1_23 : decode prog_29_method_6_code 23 = .ok (.isub, 1) := by decide +kernel
theorem d_ArrayList_grow_1_24 : decode prog_29_method_6_code 24 = .ok (.iload_n 2, 1) := by decide +kernel
theorem d_ArrayList_grow_1_25 : decode prog_29_method_6_code 25 = .ok (.iconst 1, 1) := by decide +kernel
theorem d_ArrayList_grow_1_26 : decode prog_29_method_6_code 26 = .ok (.ishr, 1) := by decide +kernel
theorem d_ArrayList_grow_1_27 : decode prog_29_method_6_code 27 = .ok (.invokestatic 73, 3) := by decide +kernel
theorem d_ArrayList_grow_1_30 : decode prog_29_method_6_code 30 = .ok (.istore_n 3, 1) := by decide +kernel
theorem d_ArrayList_grow_1_31 : decode prog_29_method_6_code 31 = .ok (.aload_n 0, 1) := by decide +kernel
theorem d_ArrayList_grow_1_32 : decode prog_29_method_6_code 32 = .ok (.aload_n 0, 1) := by decide +kernel
theorem d_ArrayList_grow_1_33 : decode prog_29_method_6_code 33 = .ok (.getfield 9, 3) := by decide +kernel
theorem d_ArrayList_grow_1_36 : decode prog_29_method_6_code 36 = .ok (.iload_n 3, 1) := by decide +kernel
theorem d_ArrayList_grow_1_37 : decode prog_29_method_6_code 37 = .ok (.invokestatic 66, 3) := by decide +kernel
theorem d_ArrayList_grow_1_40 : decode prog_29_method_6_code 40 = .ok (.dup_x1, 1) := by decide +kernel
theorem d_ArrayList_grow_1_41 : decode prog_29_method_6_code 41 = .ok (.putfield 9, 3) := by decide +kernel
theorem d_ArrayList_grow_1_44 : decode prog_29_method_6_code 44 = .ok (.areturn, 1) := by decide +kernel
theorem d_ArrayList_grow_1_45 : decode prog_29_method_6_code 45 = .ok (.aload_n 0, 1) := by decide +kernel
theorem d_ArrayList_grow_1_46 : decode prog_29_method_6_code 46 = .ok (.bipush 10, 2) := by decide +kernel
theorem d_ArrayList_grow_1_48 : decode prog_29_method_6_code 48 = .ok (.iload_n 1, 1) := by decide +kernel
theorem d_ArrayList_grow_1_49 : decode prog_29_method_6_code 49 = .ok (.invokestatic 79, 3) := by decide +kernel
theorem d_ArrayList_grow_1_52 : decode prog_29_method_6_code 52 = .ok (.anewarray 7, 3) := by decide +kernel
theorem d_ArrayList_grow_1_55 : decode prog_29_method_6_code 55 = .ok (.dup_x1, 1) := by decide +kernel
theorem d_ArrayList_grow_1_56 : decode prog_29_method_6_code 56 = .ok (.putfield 9, 3) := by decide +kernel
theorem d_ArrayList_grow_1_59 : decode prog_29_method_6_code 59 = .ok (.areturn, 1) := by decide +kernel
theorem q_ArrayList_grow_1 : (⟨"java/util/ArrayList", "grow", "(I)[Ljava/lang/Object;"⟩ : MethodName).cls ≠ "java/lang/invoke/MethodHandle" ∧ (⟨"java/util/ArrayList", "grow", "(I)[Ljava/lang/Object;"⟩ : MethodName).cls ≠ "java/lang/invoke/VarHandle" ∧ (parseMethodDescriptor (⟨"java/util/ArrayList", "grow", "(I)[Ljava/lang/Object;"⟩ : MethodName).desc).map (fun d => d.parameters.length) = some 1 := by decide +kernel
set_option maxHeartbeats 4000000 in
set_option maxRecDepth 100000 in
theorem m_ArrayList_grow_1 (X : fs_X) (l : Launch) (a0 : Nat) (x1 : Int32) {r : Nat} {σ σF : fs_S} (h : (f_ArrayList_grow_1 a0 x1).1 σ = some (r, σF)) : fs_Met X l ⟨"java/util/ArrayList", "grow", "(I)[Ljava/lang/Object;"⟩ (Cond.code ⟨"java/util/ArrayList", "grow", "(I)[Ljava/lang/Object;"⟩ prog_29_method_6_code 4 (some (FieldType.array (FieldType.object "java/lang/Object")))) 3 104 [.ref a0, .int x1] σ (fs_eR r) σF := by
  refine fs_ofW (by decide) ?_
  intro p e s m args below meth c s₁ B hml hT hv
  obtain ⟨rfl, hw0, hG⟩ := hv
  have hx := B.exec
  have hb := B.bytes
  have hr := B.returns
  have hk := B.notSynchronized
  have S : CallFix p m c prog_29_method_6_code 4 s _ fs_ws "java/util/ArrayList" := ⟨B.exec, B.bytes, hml, findClass_of_methodNamed B.named, fun w hw => atoms_spec (ws := _ :: fs_ws) B.pre w (List.mem_cons_of_mem _ hw)⟩
  have hR := fs_hR (fr := 3) (lo := 104) ((f_ArrayList_grow_1 a0 x1).2 _ _ _ h)
  have hl := lv_entry ([.ref a0, .int x1]) (n := 4) (Nat.le_of_ble_eq_true rfl)
  rw [lg_entry_eq]
  generalize (lg_sl ([.ref a0, .int x1]) ++ List.replicate (4 - (lg_sl ([.ref a0, .int x1])).length) Slot.unset).toArray = ls at hl ⊢
  have hl : lv_has ls 4 [(0, .ref a0), (1, .int x1)] := hl
  refine (?_ : fs_J X p l e (fs_rm 3 104 σ σF) s m _ below meth c (fs_Q X below _ s (fs_eR r) σ σF) r σ σF (f_ArrayList_grow_1 a0 x1) (F0 m 0 ls [])) σ s.heap [] 0 0 h hw0 va_S.rf rfl rfl
  clear h hw0
  unfold f_ArrayList_grow_1
  refine fs_lift (fun _ _ _ _ => lv_aload_n hx hb d_ArrayList_grow_1_0 rfl (lv_at hl 0 rfl)) ?_
  refine fs_Jgr S hG fs_in2 rfl 0 (Nat.le_of_ble_eq_true rfl) tw_1_57 (fun _ h9 => h9) d_ArrayList_grow_1_1 (fun r1 => ?_)
  refine fs_Jal S hG d_ArrayList_grow_1_4 (fun v2 => ?_)
  refine fs_liftL (fun _ _ _ _ => lv_istore_n (lv' := [(2, .int v2), (0, .ref a0), (1, .int x1)]) hx hb d_ArrayList_grow_1_5 rfl hl (Nat.le_of_ble_eq_true rfl) rfl) (fun ls hl => ?_)
  refine fs_lift (fun _ _ _ _ => lv_iload_n hx hb d_ArrayList_grow_1_6 rfl (lv_at hl 0 rfl)) ?_
  refine fs_Jlet1 (nL := 4) (pj := 20) (I := fun (_ : Unit) => [(0, .ref a0), (1, .int x1), (2, .int v2)]) (st := fun (_ : Unit) => []) (fun _ ls hl => ?_) (fun j20 hj20 => ?_)
  · refine fs_lift (fun _ _ _ _ => lv_iload_n hx hb d_ArrayList_grow_1_20 rfl (lv_at hl 2 rfl)) ?_
    refine fs_lift (fun _ _ _ _ => lv_iload_n hx hb d_ArrayList_grow_1_21 rfl (lv_at hl 1 rfl)) ?_
    refine fs_lift (fun _ _ _ _ => lv_iload_n hx hb d_ArrayList_grow_1_22 rfl (lv_at hl 2 rfl)) ?_
    refine fs_lift (fun _ _ _ _ => lv_isub hx hb d_ArrayList_grow_1_23) ?_
    refine fs_lift (fun _ _ _ _ => lv_iload_n hx hb d_ArrayList_grow_1_24 rfl (lv_at hl 2 rfl)) ?_
    refine fs_lift (fun _ _ _ _ => lv_iconst (v := 1) hx hb d_ArrayList_grow_1_25 (by decide)) ?_
    refine fs_lift (fun _ _ _ _ => lv_ishr hx hb d_ArrayList_grow_1_26) ?_
    refine fs_JS S hG hR [.int v2, .int (x1 - v2), .int (v2 >>> (1 &&& 31))] (enc := fun r => some (.int r)) (fun zr zs zt zh => m_ArraysSupport_newLength X l v2 (x1 - v2) (v2 >>> (1 &&& 31)) zh) tw_2_215 tw_2_216 tw_2_217 tw_1_20 q_ArraysSupport_newLength ⟨(Nat.le_of_ble_eq_true rfl), (Nat.le_of_ble_eq_true rfl)⟩ hl.1 rfl (Nat.le_of_ble_eq_true rfl) d_ArrayList_grow_1_27 (fun v6 => ?_)
    refine fs_Jeq (g2 := F0 m 30 ls [.int v6]) rfl ?_
    refine fs_liftL (fun _ _ _ _ => lv_istore_n (lv' := [(3, .int v6), (0, .ref a0), (1, .int x1), (2, .int v2)]) hx hb d_ArrayList_grow_1_30 rfl hl (Nat.le_of_ble_eq_true rfl) rfl) (fun ls hl => ?_)
    refine fs_lift (fun _ _ _ _ => lv_aload_n hx hb d_ArrayList_grow_1_31 rfl (lv_at hl 1 rfl)) ?_
    refine fs_lift (fun _ _ _ _ => lv_aload_n hx hb d_ArrayList_grow_1_32 rfl (lv_at hl 1 rfl)) ?_
    refine fs_Jgr S hG fs_in2 rfl 0 (Nat.le_of_ble_eq_true rfl) tw_1_57 (fun _ h9 => h9) d_ArrayList_grow_1_33 (fun r7 => ?_)
    refine fs_lift (fun _ _ _ _ => lv_iload_n hx hb d_ArrayList_grow_1_36 rfl (lv_at hl 0 rfl)) ?_
    refine fs_JS S hG hR [.ref r7, .int v6] (enc := fun r => some (.ref r)) (fun zr zs zt zh => m_Arrays_copyOf_0 X l r7 v6 zh) tw_2_225 tw_2_226 tw_2_227 tw_1_22 q_Arrays_copyOf_0 ⟨(Nat.le_of_ble_eq_true rfl), (Nat.le_of_ble_eq_true rfl)⟩ hl.1 rfl (Nat.le_of_ble_eq_true rfl) d_ArrayList_grow_1_37 (fun r8 => ?_)
    refine fs_Jeq (g2 := F0 m 40 ls [.ref r8, .ref a0]) rfl ?_
    refine fs_lift (fun _ _ _ _ => lv_dup_x1 hx hb d_ArrayList_grow_1_40 rfl rfl) ?_
    refine fs_Jput S hG fs_in2 rfl 0 (Nat.le_of_ble_eq_true rfl) tw_1_57 (fun _ h9 => h9) fs_Y2 fs_ty2 fs_nm2 (Or.inl rfl) rfl rfl d_ArrayList_grow_1_41 ?_
    exact fs_Jaret S hr (Or.inr ⟨_, rfl⟩) hk rfl d_ArrayList_grow_1_44
  · refine fs_if (fun _ _ _ _ => lv_if_gt hx hb d_ArrayList_grow_1_7 rfl) ?_ ?_
    · exact hj20 () ls (lv_sub hl [1, 2, 0] rfl)
    · refine fs_lift (fun _ _ _ _ => lv_aload_n hx hb d_ArrayList_grow_1_10 rfl (lv_at hl 1 rfl)) ?_
      refine fs_Jgr S hG fs_in2 rfl 0 (Nat.le_of_ble_eq_true rfl) tw_1_57 (fun _ h9 => h9) d_ArrayList_grow_1_11 (fun r3 => ?_)
      refine fs_Jgs1 S hG tw_1_55 d_ArrayList_grow_1_14 (fun r4 => ?_)
      refine fs_if (fun _ _ _ _ => fs_aceq hx hb d_ArrayList_grow_1_17 rfl) ?_ ?_
      · refine fs_lift (fun _ _ _ _ => lv_aload_n hx hb d_ArrayList_grow_1_45 rfl (lv_at hl 1 rfl)) ?_
        refine fs_lift (fun _ _ _ _ => lv_bipush (v := 10) hx hb d_ArrayList_grow_1_46 (by decide)) ?_
        refine fs_lift (fun _ _ _ _ => lv_iload_n hx hb d_ArrayList_grow_1_48 rfl (lv_at hl 2 rfl)) ?_
        refine fs_Jmax S hR hl.1 tw_3_19 tw_2_219 tw_2_220 (Nat.le_of_ble_eq_true rfl) (Nat.le_of_ble_eq_true rfl) d_ArrayList_grow_1_49 ?_
        refine fs_Jeq (g2 := F0 m 52 ls [.int (fs_max 10 x1), .ref a0]) rfl ?_
        refine fs_Jwo S hG hR tw_3_20 tb_3_13 d_ArrayList_grow_1_52 (fun r5 => ?_)
        refine fs_lift (fun _ _ _ _ => lv_dup_x1 hx hb d_ArrayList_grow_1_55 rfl rfl) ?_
        refine fs_Jput S hG fs_in2 rfl 0 (Nat.le_of_ble_eq_true rfl) tw_1_57 (fun _ h9 => h9) fs_Y2 fs_ty2 fs_nm2 (Or.inl rfl) rfl rfl d_ArrayList_grow_1_56 ?_
        exact fs_Jaret S hr (Or.inr ⟨_, rfl⟩) hk rfl d_ArrayList_grow_1_59
      · exact hj20 () ls (lv_sub hl [1, 2, 0] rfl)

