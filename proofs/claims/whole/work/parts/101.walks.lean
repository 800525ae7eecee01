/-! contracts of methods, walked by program -/
theorem d_ArrayList_grow_0_0 : decode prog_29_method_7_code 0 = .ok (.aload_n 0, 1) := by decide +kernel
theorem d_ArrayList_grow_0_1 : decode prog_29_method_7_code 1 = .ok (.aload_n 0, 1) := by decide +kernel
theorem d_ArrayList_grow_0_2 : decode prog_29_method_7_code 2 = .ok (.getfield 48, 3) := by decide +kernel
theorem d_ArrayList_grow_0_5 : decode prog_29_method_7_code 5 = .ok (.iconst 1, 1) := by decide +kernel
theorem d_ArrayList_grow_0_6 : decode prog_29_method_7_code 6 = .ok (.iadd, 1) := by decide +kernel
theorem d_ArrayList_grow_0_7 : decode prog_29_method_7_code 7 = .ok (.invokevirtual 69, 3) := by decide +kernel
theorem d_ArrayList_grow_0_10 : decode prog_29_method_7_code 10 = .ok (.areturn, 1) := by decide +kernel
theorem q_ArrayList_grow_0 : (⟨"java/util/ArrayList", "grow", "()[Ljava/lang/Object;"⟩ : MethodName).cls ≠ "java/lang/invoke/MethodHandle" ∧ (⟨"java/util/ArrayList", "grow", "()[Ljava/lang/Object;"⟩ : MethodName).cls ≠ "java/lang/invoke/VarHandle" ∧ (parseMethodDescriptor (⟨"java/util/ArrayList", "grow", "()[Ljava/lang/Object;"⟩ : MethodName).desc).map (fun d => d.parameters.length) = some 0 := by decide +kernel
set_option maxHeartbeats 4000000 in
set_option maxRecDepth 100000 in
theorem m_ArrayList_grow_0 (X : fs_X) (l : Launch) (a0 : Nat) {r : Nat} {σ σF : fs_S} (h : (f_ArrayList_grow_0 a0).1 σ = some (r, σF)) : fs_Met X l ⟨"java/util/ArrayList", "grow", "()[Ljava/lang/Object;"⟩ (Cond.code ⟨"java/util/ArrayList", "grow", "()[Ljava/lang/Object;"⟩ prog_29_method_7_code 1 (some (FieldType.array (FieldType.object "java/lang/Object")))) 4 127 [.ref a0] σ (fs_eR r) σF := by
  refine fs_ofW (by decide) ?_
  intro p e s m args below meth c s₁ B hml hT hv
  obtain ⟨rfl, hw0, hG⟩ := hv
  have hx := B.exec
  have hb := B.bytes
  have hr := B.returns
  have hk := B.notSynchronized
  have S : CallFix p m c prog_29_method_7_code 1 s _ fs_ws "java/util/ArrayList" := ⟨B.exec, B.bytes, hml, findClass_of_methodNamed B.named, fun w hw => atoms_spec (ws := _ :: fs_ws) B.pre w (List.mem_cons_of_mem _ hw)⟩
  have hR := fs_hR (fr := 4) (lo := 127) ((f_ArrayList_grow_0 a0).2 _ _ _ h)
  have hl := lv_entry ([.ref a0]) (n := 1) (Nat.le_of_ble_eq_true rfl)
  rw [lg_entry_eq]
  generalize (lg_sl ([.ref a0]) ++ List.replicate (1 - (lg_sl ([.ref a0])).length) Slot.unset).toArray = ls at hl ⊢
  have hl : lv_has ls 1 [(0, .ref a0)] := hl
  refine (?_ : fs_J X p l e (fs_rm 4 127 σ σF) s m _ below meth c (fs_Q X below _ s (fs_eR r) σ σF) r σ σF (f_ArrayList_grow_0 a0) (F0 m 0 ls [])) σ s.heap [] 0 0 h hw0 va_S.rf rfl rfl
  clear h hw0
  unfold f_ArrayList_grow_0
  refine fs_lift (fun _ _ _ _ => lv_aload_n hx hb d_ArrayList_grow_0_0 rfl (lv_at hl 0 rfl)) ?_
  refine fs_lift (fun _ _ _ _ => lv_aload_n hx hb d_ArrayList_grow_0_1 rfl (lv_at hl 0 rfl)) ?_
  refine fs_Jgi S hG fs_in2 rfl 1 (Nat.le_of_ble_eq_true rfl) tw_1_58 (fun _ h9 => h9) d_ArrayList_grow_0_2 (fun v1 => ?_)
  refine fs_lift (fun _ _ _ _ => lv_iconst (v := 1) hx hb d_ArrayList_grow_0_5 (by decide)) ?_
  refine fs_lift (fun _ _ _ _ => lv_iadd hx hb d_ArrayList_grow_0_6) ?_
  refine fs_JV S hG hR rfl [.int (v1 + 1)] (enc := fun r => some (.ref r)) (fun zr zs zt zh => m_ArrayList_grow_1 X l a0 (v1 + 1) zh) tw_2_211 tw_2_213 tp_1_6 tw_2_214 tw_1_5 q_ArrayList_grow_1 ⟨(Nat.le_of_ble_eq_true rfl), (Nat.le_of_ble_eq_true rfl)⟩ hl.1 rfl (Nat.le_of_ble_eq_true rfl) d_ArrayList_grow_0_7 (fun r2 => ?_)
  refine fs_Jeq (g2 := F0 m 10 ls [.ref r2]) rfl ?_
  exact fs_Jaret S hr (Or.inr ⟨_, rfl⟩) hk rfl d_ArrayList_grow_0_10

theorem d_ArrayList_add_1_0 : decode prog_29_method_24_code 0 = .ok (.iload_n 3, 1) := by decide +kernel
theorem d_ArrayList_add_1_1 : decode prog_29_method_24_code 1 = .ok (.aload_n 2, 1) := by decide +kernel
theorem d_ArrayList_add_1_2 : decode prog_29_method_24_code 2 = .ok (.arraylength, 1) := by decide +kernel
theorem d_ArrayList_add_1_3 : decode prog_29_method_24_code 3 = .ok (.if_icmp .ne 8, 3) := by decide +kernel
theorem d_ArrayList_add_1_6 : decode prog_29_method_24_code 6 = .ok (.aload_n 0, 1) := by decide +kernel
theorem d_ArrayList_add_1_7 : decode prog_29_method_24_code 7 = .ok (.invokevirtual 129, 3) := by decide +kernel
theorem d_ArrayList_add_1_10 : decode prog_29_method_24_code 10 = .ok (.astore_n 2, 1) := by decide +kernel
theorem d_ArrayList_add_1_11 : decode prog_29_method_24_code 11 = .ok (.aload_n 2, 1) := by decide +kernel
theorem d_ArrayList_add_1_12 : decode prog_29_method_24_code 12 = .ok (.iload_n 3, 1) := by decide +kernel
theorem d_ArrayList_add_1_13 : decode prog_29_method_24_code 13 = .ok (.aload_n 1, 1) := by decide +kernel
theorem d_ArrayList_add_1_14 : decode prog_29_method_24_code 14 = .ok (.aastore, 1) := by decide +kernel
theorem d_ArrayList_add_1_15 : decode prog_29_method_24_code 15 = .ok (.aload_n 0, 1) := by decide +kernel
theorem d_ArrayList_add_1_16 : decode prog_29_method_24_code 16 = .ok (.iload_n 3, 1) := by decide +kernel
theorem d_ArrayList_add_1_17 : decode prog_29_method_24_code 17 = .ok (.iconst 1, 1) := by decide +kernel
theorem d_ArrayList_add_1_18 : decode prog_29_method_24_code 18 = .ok (.iadd, 1) := by decide +kernel
theorem d_ArrayList_add_1_19 : decode prog_29_method_24_code 19 = .ok (.putfield 48, 3) := by decide +kernel
theorem d_ArrayList_add_1_22 : decode prog_29_method_24_code 22 = .ok (.return_, 1) := by decide +kernel
theorem q_ArrayList_add_1 : (⟨"java/util/ArrayList", "add", "(Ljava/lang/Object;[Ljava/lang/Object;I)V"⟩ : MethodName).cls ≠ "java/lang/invoke/MethodHandle" ∧ (⟨"java/util/ArrayList", "add", "(Ljava/lang/Object;[Ljava/lang/Object;I)V"⟩ : MethodName).cls ≠ "java/lang/invoke/VarHandle" ∧ (parseMethodDescriptor (⟨"java/util/ArrayList", "add", "(Ljava/lang/Object;[Ljava/lang/Object;I)V"⟩ : MethodName).desc).map (fun d => d.parameters.length) = some 3 := by decide +kernel
set_option maxHeartbeats 4000000 in
set_option maxRecDepth 100000 in
theorem m_ArrayList_add_1 (X : fs_X) (l : Launch) (a0 : Nat) (a1 : Nat) (a2 : Nat) (x3 : Int32) {r : Unit} {σ σF : fs_S} (h : (f_ArrayList_add_1 a0 a1 a2 x3).1 σ = some (r, σF)) : fs_Met X l ⟨"java/util/ArrayList", "add", "(Ljava/lang/Object;[Ljava/lang/Object;I)V"⟩ (Cond.code ⟨"java/util/ArrayList", "add", "(Ljava/lang/Object;[Ljava/lang/Object;I)V"⟩ prog_29_method_24_code 4 none) 5 147 [.ref a0, .ref a1, .ref a2, .int x3] σ (fs_eV r) σF := by
  refine fs_ofW (by decide) ?_
  intro p e s m args below meth c s₁ B hml hT hv
  obtain ⟨rfl, hw0, hG⟩ := hv
  have hx := B.exec
  have hb := B.bytes
  have hr := B.returns
  have hk := B.notSynchronized
  have S : CallFix p m c prog_29_method_24_code 4 s _ fs_ws "java/util/ArrayList" := ⟨B.exec, B.bytes, hml, findClass_of_methodNamed B.named, fun w hw => atoms_spec (ws := _ :: fs_ws) B.pre w (List.mem_cons_of_mem _ hw)⟩
  have hR := fs_hR (fr := 5) (lo := 147) ((f_ArrayList_add_1 a0 a1 a2 x3).2 _ _ _ h)
  have hl := lv_entry ([.ref a0, .ref a1, .ref a2, .int x3]) (n := 4) (Nat.le_of_ble_eq_true rfl)
  rw [lg_entry_eq]
  generalize (lg_sl ([.ref a0, .ref a1, .ref a2, .int x3]) ++ List.replicate (4 - (lg_sl ([.ref a0, .ref a1, .ref a2, .int x3])).length) Slot.unset).toArray = ls at hl ⊢
  have hl : lv_has ls 4 [(0, .ref a0), (1, .ref a1), (2, .ref a2), (3, .int x3)] := hl
  refine (?_ : fs_J X p l e (fs_rm 5 147 σ σF) s m _ below meth c (fs_Q X below _ s (fs_eV r) σ σF) r σ σF (f_ArrayList_add_1 a0 a1 a2 x3) (F0 m 0 ls [])) σ s.heap [] 0 0 h hw0 va_S.rf rfl rfl
  clear h hw0
  unfold f_ArrayList_add_1
  refine fs_lift (fun _ _ _ _ => lv_iload_n hx hb d_ArrayList_add_1_0 rfl (lv_at hl 3 rfl)) ?_
  refine fs_lift (fun _ _ _ _ => lv_aload_n hx hb d_ArrayList_add_1_1 rfl (lv_at hl 2 rfl)) ?_
  refine fs_Jal S hG d_ArrayList_add_1_2 (fun v1 => ?_)
  refine fs_Jlet1 (nL := 4) (pj := 11) (I := fun (r3 : Nat) => [(0, .ref a0), (1, .ref a1), (2, .ref r3), (3, .int x3)]) (st := fun (r3 : Nat) => []) (fun r3 ls hl => ?_) (fun j11 hj11 => ?_)
  · refine fs_lift (fun _ _ _ _ => lv_aload_n hx hb d_ArrayList_add_1_11 rfl (lv_at hl 2 rfl)) ?_
    refine fs_lift (fun _ _ _ _ => lv_iload_n hx hb d_ArrayList_add_1_12 rfl (lv_at hl 3 rfl)) ?_
    refine fs_lift (fun _ _ _ _ => lv_aload_n hx hb d_ArrayList_add_1_13 rfl (lv_at hl 1 rfl)) ?_
    refine fs_Jsr S hG d_ArrayList_add_1_14 ?_
    refine fs_lift (fun _ _ _ _ => lv_aload_n hx hb d_ArrayList_add_1_15 rfl (lv_at hl 0 rfl)) ?_
    refine fs_lift (fun _ _ _ _ => lv_iload_n hx hb d_ArrayList_add_1_16 rfl (lv_at hl 3 rfl)) ?_
    refine fs_lift (fun _ _ _ _ => lv_iconst (v := 1) hx hb d_ArrayList_add_1_17 (by decide)) ?_
    refine fs_lift (fun _ _ _ _ => lv_iadd hx hb d_ArrayList_add_1_18) ?_
    refine fs_Jput S hG fs_in2 rfl 1 (Nat.le_of_ble_eq_true rfl) tw_1_58 (fun _ h9 => h9) fs_Y2 fs_ty2 fs_nm2 (Or.inl rfl) rfl rfl d_ArrayList_add_1_19 ?_
    exact fs_Jvret S hr hk rfl d_ArrayList_add_1_22
  · refine fs_ifn (fun _ _ _ _ => lv_icmp_ne hx hb d_ArrayList_add_1_3 rfl) ?_ ?_
    · refine fs_lift (fun _ _ _ _ => lv_aload_n hx hb d_ArrayList_add_1_6 rfl (lv_at hl 0 rfl)) ?_
      refine fs_JV S hG hR rfl [] (enc := fun r => some (.ref r)) (fun zr zs zt zh => m_ArrayList_grow_0 X l a0 zh) tw_2_207 tw_2_209 tp_1_5 tw_2_210 tw_1_5 q_ArrayList_grow_0 ⟨(Nat.le_of_ble_eq_true rfl), (Nat.le_of_ble_eq_true rfl)⟩ hl.1 rfl (Nat.le_of_ble_eq_true rfl) d_ArrayList_add_1_7 (fun r2 => ?_)
      refine fs_Jeq (g2 := F0 m 10 ls [.ref r2]) rfl ?_
      refine fs_liftL (fun _ _ _ _ => lv_astore_n (lv' := [(2, .ref r2), (0, .ref a0), (1, .ref a1), (3, .int x3)]) hx hb d_ArrayList_add_1_10 rfl hl (Nat.le_of_ble_eq_true rfl) rfl) (fun ls hl => ?_)
      exact hj11 r2 ls (lv_sub hl [1, 2, 0, 3] rfl)
    · exact hj11 a2 ls (lv_sub hl [0, 1, 2, 3] rfl)

theorem d_ArrayList_add_0_0 : decode prog_29_method_25_code 0 = .ok (.aload_n 0, 1) := by decide +kernel
theorem d_ArrayList_add_0_1 : decode prog_29_method_25_code 1 = .ok (.dup, 1) := by decide +kernel
theorem d_ArrayList_add_0_2 : decode prog_29_method_25_code 2 = .ok (.getfield 63, 3) := by decide +kernel
theorem d_ArrayList_add_0_5 : decode prog_29_method_25_code 5 = .ok (.iconst 1, 1) := by decide +kernel
theorem d_ArrayList_add_0_6 : decode prog_29_method_25_code 6 = .ok (.iadd, 1) := by decide +kernel
theorem d_ArrayList_add_0_7 : decode prog_29_method_25_code 7 = .ok (.putfield 63, 3) := by decide +kernel
theorem d_ArrayList_add_0_10 : decode prog_29_method_25_code 10 = .ok (.aload_n 0, 1) := by decide +kernel
theorem d_ArrayList_add_0_11 : decode prog_29_method_25_code 11 = .ok (.aload_n 1, 1) := by decide +kernel
theorem d_ArrayList_add_0_12 : decode prog_29_method_25_code 12 = .ok (.aload_n 0, 1) := by decide +kernel
theorem d_ArrayList_add_0_13 : decode prog_29_method_25_code 13 = .ok (.getfield 9, 3) := by decide +kernel
theorem d_ArrayList_add_0_16 : decode prog_29_method_25_code 16 = .ok (.aload_n 0, 1) := by decide +kernel
theorem d_ArrayList_add_0_17 : decode prog_29_method_25_code 17 = .ok (.getfield 48, 3) := by decide +kernel
theorem d_ArrayList_add_0_20 : decode prog_29_method_25_code 20 = .ok (.invokevirtual 131, 3) := by decide +kernel
theorem d_ArrayList_add_0_23 : decode prog_29_method_25_code 23 = .ok (.iconst 1, 1) := by decide +kernel
theorem d_ArrayList_add_0_24 : decode prog_29_method_25_code 24 = .ok (.ireturn, 1) := by decide +kernel
theorem q_ArrayList_add_0 : (⟨"java/util/ArrayList", "add", "(Ljava/lang/Object;)Z"⟩ : MethodName).cls ≠ "java/lang/invoke/MethodHandle" ∧ (⟨"java/util/ArrayList", "add", "(Ljava/lang/Object;)Z"⟩ : MethodName).cls ≠ "java/lang/invoke/VarHandle" ∧ (parseMethodDescriptor (⟨"java/util/ArrayList", "add", "(Ljava/lang/Object;)Z"⟩ : MethodName).desc).map (fun d => d.parameters.length) = some 1 := by decide +kernel
set_option maxHeartbeats 4000000 in
set_option maxRecDepth 100000 in
theorem m_ArrayList_add_0 (X : fs_X) (l : Launch) (a0 : Nat) (a1 : Nat) {r : Int32} {σ σF : fs_S} (h : (f_ArrayList_add_0 a0 a1).1 σ = some (r, σF)) : fs_Met X l ⟨"java/util/ArrayList", "add", "(Ljava/lang/Object;)Z"⟩ (Cond.code ⟨"java/util/ArrayList", "add", "(Ljava/lang/Object;)Z"⟩ prog_29_method_25_code 2 (some FieldType.boolean)) 6 170 [.ref a0, .ref a1] σ (fs_eI r) σF := by
  refine fs_ofW (by decide) ?_
  intro p e s m args below meth c s₁ B hml hT hv
  obtain ⟨rfl, hw0, hG⟩ := hv
  have hx := B.exec
  have hb := B.bytes
  have hr := B.returns
  have hk := B.notSynchronized
  have S : CallFix p m c prog_29_method_25_code 2 s _ fs_ws "java/util/ArrayList" := ⟨B.exec, B.bytes, hml, findClass_of_methodNamed B.named, fun w hw => atoms_spec (ws := _ :: fs_ws) B.pre w (List.mem_cons_of_mem _ hw)⟩
  have hR := fs_hR (fr := 6) (lo := 170) ((f_ArrayList_add_0 a0 a1).2 _ _ _ h)
  have hl := lv_entry ([.ref a0, .ref a1]) (n := 2) (Nat.le_of_ble_eq_true rfl)
  rw [lg_entry_eq]
  generalize (lg_sl ([.ref a0, .ref a1]) ++ List.replicate (2 - (lg_sl ([.ref a0, .ref a1])).length) Slot.unset).toArray = ls at hl ⊢
  have hl : lv_has ls 2 [(0, .ref a0), (1, .ref a1)] := hl
  refine (?_ : fs_J X p l e (fs_rm 6 170 σ σF) s m _ below meth c (fs_Q X below _ s (fs_eI r) σ σF) r σ σF (f_ArrayList_add_0 a0 a1) (F0 m 0 ls [])) σ s.heap [] 0 0 h hw0 va_S.rf rfl rfl
  clear h hw0
  unfold f_ArrayList_add_0
  refine fs_lift (fun _ _ _ _ => lv_aload_n hx hb d_ArrayList_add_0_0 rfl (lv_at hl 0 rfl)) ?_
  refine fs_lift (fun _ _ _ _ => lv_dup hx hb d_ArrayList_add_0_1 rfl) ?_
  refine fs_Jgi S hG fs_in2 rfl 2 (Nat.le_of_ble_eq_true rfl) tw_1_60 (fun x9 h9 => u_same (S.2.2.2.2 _ tw_1_61) x9 h9) d_ArrayList_add_0_2 (fun v1 => ?_)
  refine fs_lift (fun _ _ _ _ => lv_iconst (v := 1) hx hb d_ArrayList_add_0_5 (by decide)) ?_
  refine fs_lift (fun _ _ _ _ => lv_iadd hx hb d_ArrayList_add_0_6) ?_
  refine fs_Jput S hG fs_in2 rfl 2 (Nat.le_of_ble_eq_true rfl) tw_1_60 (fun x9 h9 => u_same (S.2.2.2.2 _ tw_1_61) x9 h9) fs_Y2 fs_ty2 fs_nm2 (Or.inl rfl) rfl rfl d_ArrayList_add_0_7 ?_
  refine fs_lift (fun _ _ _ _ => lv_aload_n hx hb d_ArrayList_add_0_10 rfl (lv_at hl 0 rfl)) ?_
  refine fs_lift (fun _ _ _ _ => lv_aload_n hx hb d_ArrayList_add_0_11 rfl (lv_at hl 1 rfl)) ?_
  refine fs_lift (fun _ _ _ _ => lv_aload_n hx hb d_ArrayList_add_0_12 rfl (lv_at hl 0 rfl)) ?_
  refine fs_Jgr S hG fs_in2 rfl 0 (Nat.le_of_ble_eq_true rfl) tw_1_57 (fun _ h9 => h9) d_ArrayList_add_0_13 (fun r2 => ?_)
  refine fs_lift (fun _ _ _ _ => lv_aload_n hx hb d_ArrayList_add_0_16 rfl (lv_at hl 0 rfl)) ?_
  refine fs_Jgi S hG fs_in2 rfl 1 (Nat.le_of_ble_eq_true rfl) tw_1_58 (fun _ h9 => h9) d_ArrayList_add_0_17 (fun v3 => ?_)
  refine fs_JV S hG hR rfl [.ref a1, .ref r2, .int v3] (enc := fun _ => none) (fun zr zs zt zh => m_ArrayList_add_1 X l a0 a1 r2 v3 zh) tw_2_203 tw_2_205 tp_1_4 tw_2_206 tw_1_5 q_ArrayList_add_1 ⟨(Nat.le_of_ble_eq_true rfl), (Nat.le_of_ble_eq_true rfl)⟩ hl.1 rfl (Nat.le_of_ble_eq_true rfl) d_ArrayList_add_0_20 (fun _ => ?_)
  refine fs_Jeq (g2 := F0 m 23 ls []) rfl ?_
  refine fs_lift (fun _ _ _ _ => lv_iconst (v := 1) hx hb d_ArrayList_add_0_23 (by decide)) ?_
  exact fs_Jzret S hr hk rfl d_ArrayList_add_0_24

theorem d_Exporter_end_0 : decode prog_4_method_8_code 0 = .ok (.iload_n 1, 1) := by decide +kernel
theorem d_Exporter_end_1 : decode prog_4_method_8_code 1 = .ok (.ifCond .lt 14, 3) := by decide +kernel
theorem d_Exporter_end_4 : decode prog_4_method_8_code 4 = .ok (.iload_n 1, 1) := by decide +kernel
theorem d_Exporter_end_5 : decode prog_4_method_8_code 5 = .ok (.aload_n 0, 1) := by decide +kernel
theorem d_Exporter_end_6 : decode prog_4_method_8_code 6 = .ok (.getfield 12, 3) := by decide +kernel
theorem d_Exporter_end_9 : decode prog_4_method_8_code 9 = .ok (.invokevirtual 37, 3) := by decide +kernel
theorem d_Exporter_end_12 : decode prog_4_method_8_code 12 = .ok (.if_icmp .lt 4, 3) := by decide +kernel
theorem d_Exporter_end_15 : decode prog_4_method_8_code 15 = .ok (.return_, 1) := by decide +kernel
theorem d_Exporter_end_16 : decode prog_4_method_8_code 16 = .ok (.aload_n 0, 1) := by decide +kernel
theorem d_Exporter_end_17 : decode prog_4_method_8_code 17 = .ok (.getfield 12, 3) := by decide +kernel
theorem d_Exporter_end_20 : decode prog_4_method_8_code 20 = .ok (.iload_n 1, 1) := by decide +kernel
theorem d_Exporter_end_21 : decode prog_4_method_8_code 21 = .ok (.invokevirtual 81, 3) := by decide +kernel
theorem d_Exporter_end_24 : decode prog_4_method_8_code 24 = .ok (.checkcast 55, 3) := by decide +kernel
theorem d_Exporter_end_27 : decode prog_4_method_8_code 27 = .ok (.astore_n 3, 1) := by decide +kernel
theorem d_Exporter_end_28 : decode prog_4_method_8_code 28 = .ok (.aload_n 3, 1) := by decide +kernel
theorem d_Exporter_end_29 : decode prog_4_method_8_code 29 = .ok (.aload_n 0, 1) := by decide +kernel
theorem d_Exporter_end_30 : decode prog_4_method_8_code 30 = .ok (.getfield 57, 3) := by decide +kernel
theorem d_Exporter_end_33 : decode prog_4_method_8_code 33 = .ok (.putfield 84, 3) := by decide +kernel
theorem d_Exporter_end_36 : decode prog_4_method_8_code 36 = .ok (.aload_n 3, 1) := by decide +kernel
theorem d_Exporter_end_37 : decode prog_4_method_8_code 37 = .ok (.iload_n 2, 1) := by decide +kernel
theorem d_Exporter_end_38 : decode prog_4_method_8_code 38 = .ok (.putfield 87, 3) := by decide +kernel
theorem d_Exporter_end_41 : decode prog_4_method_8_code 41 = .ok (.aload_n 0, 1) := by decide +kernel
theorem d_Exporter_end_42 : decode prog_4_method_8_code 42 = .ok (.getfield 18, 3) := by decide +kernel
theorem d_Exporter_end_45 : decode prog_4_method_8_code 45 = .ok (.aload_n 3, 1) := by decide +kernel
theorem d_Exporter_end_46 : decode prog_4_method_8_code 46 = .ok (.invokevirtual 63, 3) := by decide +kernel
theorem d_Exporter_end_49 : decode prog_4_method_8_code 49 = .ok (.pop, 1) := by decide +kernel
theorem d_Exporter_end_50 : decode prog_4_method_8_code 50 = .ok (.return_, 1) := by decide +kernel
theorem q_Exporter_end : (⟨"FlowShelf$Exporter", "end", "(II)V"⟩ : MethodName).cls ≠ "java/lang/invoke/MethodHandle" ∧ (⟨"FlowShelf$Exporter", "end", "(II)V"⟩ : MethodName).cls ≠ "java/lang/invoke/VarHandle" ∧ (parseMethodDescriptor (⟨"FlowShelf$Exporter", "end", "(II)V"⟩ : MethodName).desc).map (fun d => d.parameters.length) = some 2 := by decide +kernel
set_option maxHeartbeats 4000000 in
set_option maxRecDepth 100000 in
theorem m_Exporter_end (X : fs_X) (l : Launch) (a0 : Nat) (x1 : Int32) (x2 : Int32) {r : Unit} {σ σF : fs_S} (h : (f_Exporter_end a0 x1 x2).1 σ = some (r, σF)) : fs_Met X l ⟨"FlowShelf$Exporter", "end", "(II)V"⟩ (Cond.code ⟨"FlowShelf$Exporter", "end", "(II)V"⟩ prog_4_method_8_code 4 none) 7 191 [.ref a0, .int x1, .int x2] σ (fs_eV r) σF := by
  refine fs_ofW (by decide) ?_
  intro p e s m args below meth c s₁ B hml hT hv
  obtain ⟨rfl, hw0, hG⟩ := hv
  have hx := B.exec
  have hb := B.bytes
  have hr := B.returns
  have hk := B.notSynchronized
  have S : CallFix p m c prog_4_method_8_code 4 s _ fs_ws "FlowShelf$Exporter" := ⟨B.exec, B.bytes, hml, findClass_of_methodNamed B.named, fun w hw => atoms_spec (ws := _ :: fs_ws) B.pre w (List.mem_cons_of_mem _ hw)⟩
  have hR := fs_hR (fr := 7) (lo := 191) ((f_Exporter_end a0 x1 x2).2 _ _ _ h)
  have hl := lv_entry ([.ref a0, .int x1, .int x2]) (n := 4) (Nat.le_of_ble_eq_true rfl)
  rw [lg_entry_eq]
  generalize (lg_sl ([.ref a0, .int x1, .int x2]) ++ List.replicate (4 - (lg_sl ([.ref a0, .int x1, .int x2])).length) Slot.unset).toArray = ls at hl ⊢
  have hl : lv_has ls 4 [(0, .ref a0), (1, .int x1), (2, .int x2)] := hl
  refine (?_ : fs_J X p l e (fs_rm 7 191 σ σF) s m _ below meth c (fs_Q X below _ s (fs_eV r) σ σF) r σ σF (f_Exporter_end a0 x1 x2) (F0 m 0 ls [])) σ s.heap [] 0 0 h hw0 va_S.rf rfl rfl
  clear h hw0
  unfold f_Exporter_end
  refine fs_lift (fun _ _ _ _ => lv_iload_n hx hb d_Exporter_end_0 rfl (lv_at hl 1 rfl)) ?_
  refine fs_if (fun _ _ _ _ => lv_if_lt hx hb d_Exporter_end_1 rfl) ?_ ?_
  · exact fs_Jvret S hr hk rfl d_Exporter_end_15
  · refine fs_lift (fun _ _ _ _ => lv_iload_n hx hb d_Exporter_end_4 rfl (lv_at hl 1 rfl)) ?_
    refine fs_lift (fun _ _ _ _ => lv_aload_n hx hb d_Exporter_end_5 rfl (lv_at hl 0 rfl)) ?_
    refine fs_Jgr S hG fs_in1 rfl 1 (Nat.le_of_ble_eq_true rfl) tw_1_126 (fun _ h9 => h9) d_Exporter_end_6 (fun r1 => ?_)
    refine fs_JV S hG hR rfl [] (enc := fun r => some (.int r)) (fun zr zs zt zh => m_ArrayList_size X l r1 zh) tw_2_145 tw_2_29 tw_2_30 tw_2_31 tw_1_5 q_ArrayList_size ⟨(Nat.le_of_ble_eq_true rfl), (Nat.le_of_ble_eq_true rfl)⟩ hl.1 rfl (Nat.le_of_ble_eq_true rfl) d_Exporter_end_9 (fun v2 => ?_)
    refine fs_Jeq (g2 := F0 m 12 ls [.int v2, .int x1]) rfl ?_
    refine fs_if (fun _ _ _ _ => lv_icmp_lt hx hb d_Exporter_end_12 rfl) ?_ ?_
    · refine fs_lift (fun _ _ _ _ => lv_aload_n hx hb d_Exporter_end_16 rfl (lv_at hl 0 rfl)) ?_
      refine fs_Jgr S hG fs_in1 rfl 1 (Nat.le_of_ble_eq_true rfl) tw_1_126 (fun _ h9 => h9) d_Exporter_end_17 (fun r3 => ?_)
      refine fs_lift (fun _ _ _ _ => lv_iload_n hx hb d_Exporter_end_20 rfl (lv_at hl 1 rfl)) ?_
      refine fs_JV S hG hR rfl [.int x1] (enc := fun r => some (.ref r)) (fun zr zs zt zh => m_ArrayList_remove X l r3 x1 zh) tw_2_188 tw_2_189 tw_2_190 tw_2_191 tw_1_5 q_ArrayList_remove ⟨(Nat.le_of_ble_eq_true rfl), (Nat.le_of_ble_eq_true rfl)⟩ hl.1 rfl (Nat.le_of_ble_eq_true rfl) d_Exporter_end_21 (fun r4 => ?_)
      refine fs_Jeq (g2 := F0 m 24 ls [.ref r4]) rfl ?_
      refine fs_Jck S hG rfl tw_2_175 tb_7_82 d_Exporter_end_24 ?_
      refine fs_liftL (fun _ _ _ _ => lv_astore_n (lv' := [(3, .ref r4), (0, .ref a0), (1, .int x1), (2, .int x2)]) hx hb d_Exporter_end_27 rfl hl (Nat.le_of_ble_eq_true rfl) rfl) (fun ls hl => ?_)
      refine fs_lift (fun _ _ _ _ => lv_aload_n hx hb d_Exporter_end_28 rfl (lv_at hl 0 rfl)) ?_
      refine fs_lift (fun _ _ _ _ => lv_aload_n hx hb d_Exporter_end_29 rfl (lv_at hl 1 rfl)) ?_
      refine fs_Jgi S hG fs_in1 rfl 4 (Nat.le_of_ble_eq_true rfl) tw_1_132 (fun _ h9 => h9) d_Exporter_end_30 (fun v5 => ?_)
      refine fs_Jput S hG fs_in8 rfl 7 (Nat.le_of_ble_eq_true rfl) tw_3_35 (fun _ h9 => h9) fs_Y8 fs_ty8 fs_nm8 (Or.inl rfl) rfl rfl d_Exporter_end_33 ?_
      refine fs_lift (fun _ _ _ _ => lv_aload_n hx hb d_Exporter_end_36 rfl (lv_at hl 0 rfl)) ?_
      refine fs_lift (fun _ _ _ _ => lv_iload_n hx hb d_Exporter_end_37 rfl (lv_at hl 3 rfl)) ?_
      refine fs_Jput S hG fs_in8 rfl 8 (Nat.le_of_ble_eq_true rfl) tw_3_37 (fun _ h9 => h9) fs_Y8 fs_ty8 fs_nm8 (Or.inl rfl) rfl rfl d_Exporter_end_38 ?_
      refine fs_lift (fun _ _ _ _ => lv_aload_n hx hb d_Exporter_end_41 rfl (lv_at hl 1 rfl)) ?_
      refine fs_Jgr S hG fs_in1 rfl 2 (Nat.le_of_ble_eq_true rfl) tw_1_128 (fun _ h9 => h9) d_Exporter_end_42 (fun r6 => ?_)
      refine fs_lift (fun _ _ _ _ => lv_aload_n hx hb d_Exporter_end_45 rfl (lv_at hl 0 rfl)) ?_
      refine fs_JV S hG hR rfl [.ref r4] (enc := fun r => some (.int r)) (fun zr zs zt zh => m_ArrayList_add_0 X l r6 r4 zh) tw_2_199 tw_2_200 tw_2_201 tw_2_202 tw_1_5 q_ArrayList_add_0 ⟨(Nat.le_of_ble_eq_true rfl), (Nat.le_of_ble_eq_true rfl)⟩ hl.1 rfl (Nat.le_of_ble_eq_true rfl) d_Exporter_end_46 (fun v7 => ?_)
      refine fs_Jeq (g2 := F0 m 49 ls [.int v7]) rfl ?_
      refine fs_lift (fun _ _ _ _ => lv_pop hx hb d_Exporter_end_49 rfl) ?_
      exact fs_Jvret S hr hk rfl d_Exporter_end_50
    · exact fs_Jvret S hr hk rfl d_Exporter_end_15

theorem d_Flow_init_0 : decode prog_5_method_1_code 0 = .ok (.aload_n 0, 1) := by decide +kernel
theorem d_Flow_init_1 : decode prog_5_method_1_code 1 = .ok (.invokespecial 3, 3) := by decide +kernel
theorem d_Flow_init_4 : decode prog_5_method_1_code 4 = .ok (.aload_n 0, 1) := by decide +kernel
theorem d_Flow_init_5 : decode prog_5_method_1_code 5 = .ok (.iload_n 1, 1) := by decide +kernel
theorem d_Flow_init_6 : decode prog_5_method_1_code 6 = .ok (.putfield 9, 3) := by decide +kernel
theorem d_Flow_init_9 : decode prog_5_method_1_code 9 = .ok (.aload_n 0, 1) := by decide +kernel
theorem d_Flow_init_10 : decode prog_5_method_1_code 10 = .ok (.iload_n 2, 1) := by decide +kernel
theorem d_Flow_init_11 : decode prog_5_method_1_code 11 = .ok (.putfield 15, 3) := by decide +kernel
theorem d_Flow_init_14 : decode prog_5_method_1_code 14 = .ok (.aload_n 0, 1) := by decide +kernel
theorem d_Flow_init_15 : decode prog_5_method_1_code 15 = .ok (.iload_n 3, 1) := by decide +kernel
theorem d_Flow_init_16 : decode prog_5_method_1_code 16 = .ok (.putfield 18, 3) := by decide +kernel
theorem d_Flow_init_19 : decode prog_5_method_1_code 19 = .ok (.aload_n 0, 1) := by decide +kernel
theorem d_Flow_init_20 : decode prog_5_method_1_code 20 = .ok (.iload 4, 2) := by decide +kernel
theorem d_Flow_init_22 : decode prog_5_method_1_code 22 = .ok (.putfield 21, 3) := by decide +kernel
theorem d_Flow_init_25 : decode prog_5_method_1_code 25 = .ok (.return_, 1) := by decide +kernel
theorem q_Flow_init : (⟨"FlowShelf$Flow", "<init>", "(IIII)V"⟩ : MethodName).cls ≠ "java/lang/invoke/MethodHandle" ∧ (⟨"FlowShelf$Flow", "<init>", "(IIII)V"⟩ : MethodName).cls ≠ "java/lang/invoke/VarHandle" ∧ (parseMethodDescriptor (⟨"FlowShelf$Flow", "<init>", "(IIII)V"⟩ : MethodName).desc).map (fun d => d.parameters.length) = some 4 := by decide +kernel
set_option maxHeartbeats 4000000 in
set_option maxRecDepth 100000 in
theorem m_Flow_init (X : fs_X) (l : Launch) (a0 : Nat) (x1 : Int32) (x2 : Int32) (x3 : Int32) (x4 : Int32) {r : Unit} {σ σF : fs_S} (h : (f_Flow_init a0 x1 x2 x3 x4).1 σ = some (r, σF)) : fs_Met X l ⟨"FlowShelf$Flow", "<init>", "(IIII)V"⟩ (Cond.code ⟨"FlowShelf$Flow", "<init>", "(IIII)V"⟩ prog_5_method_1_code 5 none) 1 12 [.ref a0, .int x1, .int x2, .int x3, .int x4] σ (fs_eV r) σF := by
  refine fs_ofW (by decide) ?_
  intro p e s m args below meth c s₁ B hml hT hv
  obtain ⟨rfl, hw0, hG⟩ := hv
  have hx := B.exec
  have hb := B.bytes
  have hr := B.returns
  have hk := B.notSynchronized
  have hin : meth.name = "<init>" := (name_of_methodNamed B.named B.method).1
  have S : CallFix p m c prog_5_method_1_code 5 s _ fs_ws "FlowShelf$Flow" := ⟨B.exec, B.bytes, hml, findClass_of_methodNamed B.named, fun w hw => atoms_spec (ws := _ :: fs_ws) B.pre w (List.mem_cons_of_mem _ hw)⟩
  have hR := fs_hR (fr := 1) (lo := 12) ((f_Flow_init a0 x1 x2 x3 x4).2 _ _ _ h)
  have hl := lv_entry ([.ref a0, .int x1, .int x2, .int x3, .int x4]) (n := 5) (Nat.le_of_ble_eq_true rfl)
  rw [lg_entry_eq]
  generalize (lg_sl ([.ref a0, .int x1, .int x2, .int x3, .int x4]) ++ List.replicate (5 - (lg_sl ([.ref a0, .int x1, .int x2, .int x3, .int x4])).length) Slot.unset).toArray = ls at hl ⊢
  have hl : lv_has ls 5 [(0, .ref a0), (1, .int x1), (2, .int x2), (3, .int x3), (4, .int x4)] := hl
  refine (?_ : fs_J X p l e (fs_rm 1 12 σ σF) s m _ below meth c (fs_Q X below _ s (fs_eV r) σ σF) r σ σF (f_Flow_init a0 x1 x2 x3 x4) (F0 m 0 ls [])) σ s.heap [] 0 0 h hw0 va_S.rf rfl rfl
  clear h hw0
  unfold f_Flow_init
  refine fs_lift (fun _ _ _ _ => lv_aload_n hx hb d_Flow_init_0 rfl (lv_at hl 0 rfl)) ?_
  refine fs_JO S tw_3_25 tw_1_35 tw_1_36 hl.1 (Nat.le_of_ble_eq_true rfl) (Nat.le_of_ble_eq_true rfl) d_Flow_init_1 ?_
  refine fs_Jeq (g2 := F0 m 4 ls []) rfl ?_
  refine fs_lift (fun _ _ _ _ => lv_aload_n hx hb d_Flow_init_4 rfl (lv_at hl 0 rfl)) ?_
  refine fs_lift (fun _ _ _ _ => lv_iload_n hx hb d_Flow_init_5 rfl (lv_at hl 1 rfl)) ?_
  refine fs_Jput S hG fs_in8 rfl 0 (Nat.le_of_ble_eq_true rfl) tw_3_26 (fun _ h9 => h9) fs_Y8 fs_ty8 fs_nm8 (Or.inr ⟨rfl, hin, rfl⟩) rfl rfl d_Flow_init_6 ?_
  refine fs_lift (fun _ _ _ _ => lv_aload_n hx hb d_Flow_init_9 rfl (lv_at hl 0 rfl)) ?_
  refine fs_lift (fun _ _ _ _ => lv_iload_n hx hb d_Flow_init_10 rfl (lv_at hl 2 rfl)) ?_
  refine fs_Jput S hG fs_in8 rfl 1 (Nat.le_of_ble_eq_true rfl) tw_3_27 (fun _ h9 => h9) fs_Y8 fs_ty8 fs_nm8 (Or.inr ⟨rfl, hin, rfl⟩) rfl rfl d_Flow_init_11 ?_
  refine fs_lift (fun _ _ _ _ => lv_aload_n hx hb d_Flow_init_14 rfl (lv_at hl 0 rfl)) ?_
  refine fs_lift (fun _ _ _ _ => lv_iload_n hx hb d_Flow_init_15 rfl (lv_at hl 3 rfl)) ?_
  refine fs_Jput S hG fs_in8 rfl 2 (Nat.le_of_ble_eq_true rfl) tw_3_28 (fun _ h9 => h9) fs_Y8 fs_ty8 fs_nm8 (Or.inr ⟨rfl, hin, rfl⟩) rfl rfl d_Flow_init_16 ?_
  refine fs_lift (fun _ _ _ _ => lv_aload_n hx hb d_Flow_init_19 rfl (lv_at hl 0 rfl)) ?_
  refine fs_lift (fun _ _ _ _ => lv_iload hx hb d_Flow_init_20 (lv_at hl 4 rfl)) ?_
  refine fs_Jput S hG fs_in8 rfl 3 (Nat.le_of_ble_eq_true rfl) tw_3_29 (fun _ h9 => h9) fs_Y8 fs_ty8 fs_nm8 (Or.inr ⟨rfl, hin, rfl⟩) rfl rfl d_Flow_init_22 ?_
  exact fs_Jvret S hr hk rfl d_Flow_init_25

theorem d_Flow_addPacket_0 : decode prog_5_method_3_code 0 = .ok (.aload_n 0, 1) := by decide +kernel
theorem d_Flow_addPacket_1 : decode prog_5_method_3_code 1 = .ok (.dup, 1) := by decide +kernel
theorem d_Flow_addPacket_2 : decode prog_5_method_3_code 2 = .ok (.getfield 24, 3) := by decide +kernel
theorem d_Flow_addPacket_5 : decode prog_5_method_3_code 5 = .ok (.iload_n 1, 1) := by decide +kernel
theorem d_Flow_addPacket_6 : decode prog_5_method_3_code 6 = .ok (.iadd, 1) := by decide +kernel
theorem d_Flow_addPacket_7 : decode prog_5_method_3_code 7 = .ok (.putfield 24, 3) := by decide +kernel
theorem d_Flow_addPacket_10 : decode prog_5_method_3_code 10 = .ok (.aload_n 0, 1) := by decide +kernel
theorem d_Flow_addPacket_11 : decode prog_5_method_3_code 11 = .ok (.dup, 1) := by decide +kernel
theorem d_Flow_addPacket_12 : decode prog_5_method_3_code 12 = .ok (.getfield 27, 3) := by decide +kernel
theorem d_Flow_addPacket_15 : decode prog_5_method_3_code 15 = .ok (.iconst 1, 1) := by decide +kernel
theorem d_Flow_addPacket_16 : decode prog_5_method_3_code 16 = .ok (.iadd, 1) := by decide +kernel
theorem d_Flow_addPacket_17 : decode prog_5_method_3_code 17 = .ok (.putfield 27, 3) := by decide +kernel
theorem d_Flow_addPacket_20 : decode prog_5_method_3_code 20 = .ok (.aload_n 0, 1) := by decide +kernel
theorem d_Flow_addPacket_21 : decode prog_5_method_3_code 21 = .ok (.iload_n 2, 1) := by decide +kernel
theorem d_Flow_addPacket_22 : decode prog_5_method_3_code 22 = .ok (.putfield 30, 3) := by decide +kernel
theorem d_Flow_addPacket_25 : decode prog_5_method_3_code 25 = .ok (.return_, 1) := by decide +kernel
theorem q_Flow_addPacket : (⟨"FlowShelf$Flow", "addPacket", "(II)V"⟩ : MethodName).cls ≠ "java/lang/invoke/MethodHandle" ∧ (⟨"FlowShelf$Flow", "addPacket", "(II)V"⟩ : MethodName).cls ≠ "java/lang/invoke/VarHandle" ∧ (parseMethodDescriptor (⟨"FlowShelf$Flow", "addPacket", "(II)V"⟩ : MethodName).desc).map (fun d => d.parameters.length) = some 2 := by decide +kernel
set_option maxHeartbeats 4000000 in
set_option maxRecDepth 100000 in
theorem m_Flow_addPacket (X : fs_X) (l : Launch) (a0 : Nat) (x1 : Int32) (x2 : Int32) {r : Unit} {σ σF : fs_S} (h : (f_Flow_addPacket a0 x1 x2).1 σ = some (r, σF)) : fs_Met X l ⟨"FlowShelf$Flow", "addPacket", "(II)V"⟩ (Cond.code ⟨"FlowShelf$Flow", "addPacket", "(II)V"⟩ prog_5_method_3_code 3 none) 0 0 [.ref a0, .int x1, .int x2] σ (fs_eV r) σF := by
  refine fs_ofW (by decide) ?_
  intro p e s m args below meth c s₁ B hml hT hv
  obtain ⟨rfl, hw0, hG⟩ := hv
  have hx := B.exec
  have hb := B.bytes
  have hr := B.returns
  have hk := B.notSynchronized
  have S : CallFix p m c prog_5_method_3_code 3 s _ fs_ws "FlowShelf$Flow" := ⟨B.exec, B.bytes, hml, findClass_of_methodNamed B.named, fun w hw => atoms_spec (ws := _ :: fs_ws) B.pre w (List.mem_cons_of_mem _ hw)⟩
  have hR := fs_hR (fr := 0) (lo := 0) ((f_Flow_addPacket a0 x1 x2).2 _ _ _ h)
  have hl := lv_entry ([.ref a0, .int x1, .int x2]) (n := 3) (Nat.le_of_ble_eq_true rfl)
  rw [lg_entry_eq]
  generalize (lg_sl ([.ref a0, .int x1, .int x2]) ++ List.replicate (3 - (lg_sl ([.ref a0, .int x1, .int x2])).length) Slot.unset).toArray = ls at hl ⊢
  have hl : lv_has ls 3 [(0, .ref a0), (1, .int x1), (2, .int x2)] := hl
  refine (?_ : fs_J X p l e (fs_rm 0 0 σ σF) s m _ below meth c (fs_Q X below _ s (fs_eV r) σ σF) r σ σF (f_Flow_addPacket a0 x1 x2) (F0 m 0 ls [])) σ s.heap [] 0 0 h hw0 va_S.rf rfl rfl
  clear h hw0
  unfold f_Flow_addPacket
  refine fs_lift (fun _ _ _ _ => lv_aload_n hx hb d_Flow_addPacket_0 rfl (lv_at hl 0 rfl)) ?_
  refine fs_lift (fun _ _ _ _ => lv_dup hx hb d_Flow_addPacket_1 rfl) ?_
  refine fs_Jgi S hG fs_in8 rfl 4 (Nat.le_of_ble_eq_true rfl) tw_3_30 (fun _ h9 => h9) d_Flow_addPacket_2 (fun v1 => ?_)
  refine fs_lift (fun _ _ _ _ => lv_iload_n hx hb d_Flow_addPacket_5 rfl (lv_at hl 1 rfl)) ?_
  refine fs_lift (fun _ _ _ _ => lv_iadd hx hb d_Flow_addPacket_6) ?_
  refine fs_Jput S hG fs_in8 rfl 4 (Nat.le_of_ble_eq_true rfl) tw_3_30 (fun _ h9 => h9) fs_Y8 fs_ty8 fs_nm8 (Or.inl rfl) rfl rfl d_Flow_addPacket_7 ?_
  refine fs_lift (fun _ _ _ _ => lv_aload_n hx hb d_Flow_addPacket_10 rfl (lv_at hl 0 rfl)) ?_
  refine fs_lift (fun _ _ _ _ => lv_dup hx hb d_Flow_addPacket_11 rfl) ?_
  refine fs_Jgi S hG fs_in8 rfl 5 (Nat.le_of_ble_eq_true rfl) tw_3_31 (fun _ h9 => h9) d_Flow_addPacket_12 (fun v2 => ?_)
  refine fs_lift (fun _ _ _ _ => lv_iconst (v := 1) hx hb d_Flow_addPacket_15 (by decide)) ?_
  refine fs_lift (fun _ _ _ _ => lv_iadd hx hb d_Flow_addPacket_16) ?_
  refine fs_Jput S hG fs_in8 rfl 5 (Nat.le_of_ble_eq_true rfl) tw_3_31 (fun _ h9 => h9) fs_Y8 fs_ty8 fs_nm8 (Or.inl rfl) rfl rfl d_Flow_addPacket_17 ?_
  refine fs_lift (fun _ _ _ _ => lv_aload_n hx hb d_Flow_addPacket_20 rfl (lv_at hl 0 rfl)) ?_
  refine fs_lift (fun _ _ _ _ => lv_iload_n hx hb d_Flow_addPacket_21 rfl (lv_at hl 2 rfl)) ?_
  refine fs_Jput S hG fs_in8 rfl 6 (Nat.le_of_ble_eq_true rfl) tw_3_32 (fun _ h9 => h9) fs_Y8 fs_ty8 fs_nm8 (Or.inl rfl) rfl rfl d_Flow_addPacket_22 ?_
  exact fs_Jvret S hr hk rfl d_Flow_addPacket_25

theorem d_Exporter_watch_0 : decode prog_4_method_5_code 0 = .ok (.aload_n 0, 1) := by decide +kernel
theorem d_Exporter_watch_1 : decode prog_4_method_5_code 1 = .ok (.iload_n 1, 1) := by decide +kernel
theorem d_Exporter_watch_2 : decode prog_4_method_5_code 2 = .ok (.iload_n 2, 1) := by decide +kernel
theorem d_Exporter_watch_3 : decode prog_4_method_5_code 3 = .ok (.iload_n 3, 1) := by decide +kernel
theorem d_Exporter_watch_4 : decode prog_4_method_5_code 4 = .ok (.invokevirtual 44, 3) := by decide +kernel
theorem d_Exporter_watch_7 : decode prog_4_method_5_code 7 = .ok (.istore 6, 2) := by decide +kernel
theorem d_Exporter_watch_9 : decode prog_4_method_5_code 9 = .ok (.iload 6, 2) := by decide +kernel
theorem d_Exporter_watch_11 : decode prog_4_method_5_code 11 = .ok (.iconst (-1), 1) := by decide +kernel
theorem d_Exporter_watch_12 : decode prog_4_method_5_code 12 = .ok (.if_icmp .ne 57, 3) := by decide +kernel
theorem d_Exporter_watch_15 : decode prog_4_method_5_code 15 = .ok (.aload_n 0, 1) := by decide +kernel
theorem d_Exporter_watch_16 : decode prog_4_method_5_code 16 = .ok (.getfield 12, 3) := by decide +kernel
theorem d_Exporter_watch_19 : decode prog_4_method_5_code 19 = .ok (.invokevirtual 37, 3) := by decide +kernel
theorem d_Exporter_watch_22 : decode prog_4_method_5_code 22 = .ok (.bipush 6, 2) := by decide +kernel
theorem d_Exporter_watch_24 : decode prog_4_method_5_code 24 = .ok (.if_icmp .lt 12, 3) := by decide +kernel
theorem d_Exporter_watch_27 : decode prog_4_method_5_code 27 = .ok (.aload_n 0, 1) := by decide +kernel
theorem d_Exporter_watch_28 : decode prog_4_method_5_code 28 = .ok (.aload_n 0, 1) := by decide +kernel
theorem d_Exporter_watch_29 : decode prog_4_method_5_code 29 = .ok (.invokevirtual 48, 3) := by decide +kernel
theorem d_Exporter_watch_32 : decode prog_4_method_5_code 32 = .ok (.iconst 4, 1) := by decide +kernel
theorem d_Exporter_watch_33 : decode prog_4_method_5_code 33 = .ok (.invokevirtual 51, 3) := by decide +kernel
theorem d_Exporter_watch_36 : decode prog_4_method_5_code 36 = .ok (.aload_n 0, 1) := by decide +kernel
theorem d_Exporter_watch_37 : decode prog_4_method_5_code 37 = .ok (.getfield 12, 3) := by decide +kernel
theorem d_Exporter_watch_40 : decode prog_4_method_5_code 40 = .ok (.new 55, 3) := by decide +kernel
theorem d_Exporter_watch_43 : decode prog_4_method_5_code 43 = .ok (.dup, 1) := by decide +kernel
theorem d_Exporter_watch_44 : decode prog_4_method_5_code 44 = .ok (.iload_n 1, 1) := by decide +kernel
theorem d_Exporter_watch_45 : decode prog_4_method_5_code 45 = .ok (.iload_n 2, 1) := by decide +kernel
theorem d_Exporter_watch_46 : decode prog_4_method_5_code 46 = .ok (.iload_n 3, 1) := by decide +kernel
theorem d_Exporter_watch_47 : decode prog_4_method_5_code 47 = .ok (.aload_n 0, 1) := by decide +kernel
theorem d_Exporter_watch_48 : decode prog_4_method_5_code 48 = .ok (.getfield 57, 3) := by decide +kernel
theorem d_Exporter_watch_51 : decode prog_4_method_5_code 51 = .ok (.invokespecial 60, 3) := by decide +kernel
theorem d_Exporter_watch_54 : decode prog_4_method_5_code 54 = .ok (.invokevirtual 63, 3) := by decide +kernel
theorem d_Exporter_watch_57 : decode prog_4_method_5_code 57 = .ok (.pop, 1) := by decide +kernel
theorem d_Exporter_watch_58 : decode prog_4_method_5_code 58 = .ok (.aload_n 0, 1) := by decide +kernel
theorem d_Exporter_watch_59 : decode prog_4_method_5_code 59 = .ok (.getfield 12, 3) := by decide +kernel
theorem d_Exporter_watch_62 : decode prog_4_method_5_code 62 = .ok (.invokevirtual 37, 3) := by decide +kernel
theorem d_Exporter_watch_65 : decode prog_4_method_5_code 65 = .ok (.iconst 1, 1) := by decide +kernel
theorem d_Exporter_watch_66 : decode prog_4_method_5_code 66 = .ok (.isub, 1) := by decide +kernel
theorem d_Exporter_watch_67 : decode prog_4_method_5_code 67 = .ok (.istore 6, 2) := by decide +kernel
theorem d_Exporter_watch_69 : decode prog_4_method_5_code 69 = .ok (.aload_n 0, 1) := by decide +kernel
theorem d_Exporter_watch_70 : decode prog_4_method_5_code 70 = .ok (.getfield 12, 3) := by decide +kernel
theorem d_Exporter_watch_73 : decode prog_4_method_5_code 73 = .ok (.iload 6, 2) := by decide +kernel
theorem d_Exporter_watch_75 : decode prog_4_method_5_code 75 = .ok (.invokevirtual 67, 3) := by decide +kernel
theorem d_Exporter_watch_78 : decode prog_4_method_5_code 78 = .ok (.checkcast 55, 3) := by decide +kernel
theorem d_Exporter_watch_81 : decode prog_4_method_5_code 81 = .ok (.iload 4, 2) := by decide +kernel
theorem d_Exporter_watch_83 : decode prog_4_method_5_code 83 = .ok (.aload_n 0, 1) := by decide +kernel
theorem d_Exporter_watch_84 : decode prog_4_method_5_code 84 = .ok (.getfield 57, 3) := by decide +kernel
theorem d_Exporter_watch_87 : decode prog_4_method_5_code 87 = .ok (.invokevirtual 71, 3) := by decide +kernel
theorem d_Exporter_watch_90 : decode prog_4_method_5_code 90 = .ok (.iload 5, 2) := by decide +kernel
theorem d_Exporter_watch_92 : decode prog_4_method_5_code 92 = .ok (.ifCond .eq 10, 3) := by decide +kernel
theorem d_Exporter_watch_95 : decode prog_4_method_5_code 95 = .ok (.aload_n 0, 1) := by decide +kernel
theorem d_Exporter_watch_96 : decode prog_4_method_5_code 96 = .ok (.iload 6, 2) := by decide +kernel
theorem d_Exporter_watch_98 : decode prog_4_method_5_code 98 = .ok (.iconst 3, 1) := by decide +kernel
theorem d_Exporter_watch_99 : decode prog_4_method_5_code 99 = .ok (.invokevirtual 51, 3) := by decide +kernel
theorem d_Exporter_watch_102 : decode prog_4_method_5_code 102 = .ok (.return_, 1) := by decide +kernel
theorem q_Exporter_watch : (⟨"FlowShelf$Exporter", "watch", "(IIIIZ)V"⟩ : MethodName).cls ≠ "java/lang/invoke/MethodHandle" ∧ (⟨"FlowShelf$Exporter", "watch", "(IIIIZ)V"⟩ : MethodName).cls ≠ "java/lang/invoke/VarHandle" ∧ (parseMethodDescriptor (⟨"FlowShelf$Exporter", "watch", "(IIIIZ)V"⟩ : MethodName).desc).map (fun d => d.parameters.length) = some 5 := by decide +kernel
set_option maxHeartbeats 4000000 in
set_option maxRecDepth 100000 in
theorem m_Exporter_watch (X : fs_X) (l : Launch) (a0 : Nat) (x1 : Int32) (x2 : Int32) (x3 : Int32) (x4 : Int32) (x5 : Int32) {r : Unit} {σ σF : fs_S} (h : (f_Exporter_watch a0 x1 x2 x3 x4 x5).1 σ = some (r, σF)) : fs_Met X l ⟨"FlowShelf$Exporter", "watch", "(IIIIZ)V"⟩ (Cond.code ⟨"FlowShelf$Exporter", "watch", "(IIIIZ)V"⟩ prog_4_method_5_code 7 none) 8 214 [.ref a0, .int x1, .int x2, .int x3, .int x4, .int x5] σ (fs_eV r) σF := by
  refine fs_ofW (by decide) ?_
  intro p e s m args below meth c s₁ B hml hT hv
  obtain ⟨rfl, hw0, hG⟩ := hv
  have hx := B.exec
  have hb := B.bytes
  have hr := B.returns
  have hk := B.notSynchronized
  have S : CallFix p m c prog_4_method_5_code 7 s _ fs_ws "FlowShelf$Exporter" := ⟨B.exec, B.bytes, hml, findClass_of_methodNamed B.named, fun w hw => atoms_spec (ws := _ :: fs_ws) B.pre w (List.mem_cons_of_mem _ hw)⟩
  have hR := fs_hR (fr := 8) (lo := 214) ((f_Exporter_watch a0 x1 x2 x3 x4 x5).2 _ _ _ h)
  have hl := lv_entry ([.ref a0, .int x1, .int x2, .int x3, .int x4, .int x5]) (n := 7) (Nat.le_of_ble_eq_true rfl)
  rw [lg_entry_eq]
  generalize (lg_sl ([.ref a0, .int x1, .int x2, .int x3, .int x4, .int x5]) ++ List.replicate (7 - (lg_sl ([.ref a0, .int x1, .int x2, .int x3, .int x4, .int x5])).length) Slot.unset).toArray = ls at hl ⊢
  have hl : lv_has ls 7 [(0, .ref a0), (1, .int x1), (2, .int x2), (3, .int x3), (4, .int x4), (5, .int x5)] := hl
  refine (?_ : fs_J X p l e (fs_rm 8 214 σ σF) s m _ below meth c (fs_Q X below _ s (fs_eV r) σ σF) r σ σF (f_Exporter_watch a0 x1 x2 x3 x4 x5) (F0 m 0 ls [])) σ s.heap [] 0 0 h hw0 va_S.rf rfl rfl
  clear h hw0
  unfold f_Exporter_watch
  refine fs_lift (fun _ _ _ _ => lv_aload_n hx hb d_Exporter_watch_0 rfl (lv_at hl 0 rfl)) ?_
  refine fs_lift (fun _ _ _ _ => lv_iload_n hx hb d_Exporter_watch_1 rfl (lv_at hl 1 rfl)) ?_
  refine fs_lift (fun _ _ _ _ => lv_iload_n hx hb d_Exporter_watch_2 rfl (lv_at hl 2 rfl)) ?_
  refine fs_lift (fun _ _ _ _ => lv_iload_n hx hb d_Exporter_watch_3 rfl (lv_at hl 3 rfl)) ?_
  refine fs_JV S hG hR rfl [.int x1, .int x2, .int x3] (enc := fun r => some (.int r)) (fun zr zs zt zh => m_Exporter_placeInCache X l a0 x1 x2 x3 zh) tw_2_170 tw_2_171 tw_2_172 tw_2_173 tw_1_2 q_Exporter_placeInCache ⟨(Nat.le_of_ble_eq_true rfl), (Nat.le_of_ble_eq_true rfl)⟩ hl.1 rfl (Nat.le_of_ble_eq_true rfl) d_Exporter_watch_4 (fun v1 => ?_)
  refine fs_Jeq (g2 := F0 m 7 ls [.int v1]) rfl ?_
  refine fs_liftL (fun _ _ _ _ => lv_istore (lv' := [(6, .int v1), (0, .ref a0), (1, .int x1), (2, .int x2), (3, .int x3), (4, .int x4), (5, .int x5)]) hx hb d_Exporter_watch_7 hl (Nat.le_of_ble_eq_true rfl) rfl) (fun ls hl => ?_)
  refine fs_lift (fun _ _ _ _ => lv_iload hx hb d_Exporter_watch_9 (lv_at hl 0 rfl)) ?_
  refine fs_lift (fun _ _ _ _ => lv_iconst (v := (-1)) hx hb d_Exporter_watch_11 (by decide)) ?_
  refine fs_Jlet1 (nL := 7) (pj := 69) (I := fun (v12 : Int32) => [(0, .ref a0), (4, .int x4), (5, .int x5), (6, .int v12)]) (st := fun (v12 : Int32) => []) (fun v12 ls hl => ?_) (fun j69 hj69 => ?_)
  · refine fs_lift (fun _ _ _ _ => lv_aload_n hx hb d_Exporter_watch_69 rfl (lv_at hl 0 rfl)) ?_
    refine fs_Jgr S hG fs_in1 rfl 1 (Nat.le_of_ble_eq_true rfl) tw_1_126 (fun _ h9 => h9) d_Exporter_watch_70 (fun r13 => ?_)
    refine fs_lift (fun _ _ _ _ => lv_iload hx hb d_Exporter_watch_73 (lv_at hl 3 rfl)) ?_
    refine fs_JV S hG hR rfl [.int v12] (enc := fun r => some (.ref r)) (fun zr zs zt zh => m_ArrayList_get X l r13 v12 zh) tw_2_174 tw_2_33 tw_2_34 tw_2_35 tw_1_5 q_ArrayList_get ⟨(Nat.le_of_ble_eq_true rfl), (Nat.le_of_ble_eq_true rfl)⟩ hl.1 rfl (Nat.le_of_ble_eq_true rfl) d_Exporter_watch_75 (fun r14 => ?_)
    refine fs_Jeq (g2 := F0 m 78 ls [.ref r14]) rfl ?_
    refine fs_Jck S hG rfl tw_2_175 tb_7_82 d_Exporter_watch_78 ?_
    refine fs_lift (fun _ _ _ _ => lv_iload hx hb d_Exporter_watch_81 (lv_at hl 1 rfl)) ?_
    refine fs_lift (fun _ _ _ _ => lv_aload_n hx hb d_Exporter_watch_83 rfl (lv_at hl 0 rfl)) ?_
    refine fs_Jgi S hG fs_in1 rfl 4 (Nat.le_of_ble_eq_true rfl) tw_1_132 (fun _ h9 => h9) d_Exporter_watch_84 (fun v15 => ?_)
    refine fs_JV S hG hR rfl [.int x4, .int v15] (enc := fun _ => none) (fun zr zs zt zh => m_Flow_addPacket X l r14 x4 v15 zh) tw_3_57 tw_3_58 tw_3_59 tw_3_60 tw_1_23 q_Flow_addPacket ⟨(Nat.le_of_ble_eq_true rfl), (Nat.le_of_ble_eq_true rfl)⟩ hl.1 rfl (Nat.le_of_ble_eq_true rfl) d_Exporter_watch_87 (fun _ => ?_)
    refine fs_Jeq (g2 := F0 m 90 ls []) rfl ?_
    refine fs_lift (fun _ _ _ _ => lv_iload hx hb d_Exporter_watch_90 (lv_at hl 2 rfl)) ?_
    refine fs_if (fun _ _ _ _ => lv_if_eq hx hb d_Exporter_watch_92 rfl) ?_ ?_
    · exact fs_Jvret S hr hk rfl d_Exporter_watch_102
    · refine fs_lift (fun _ _ _ _ => lv_aload_n hx hb d_Exporter_watch_95 rfl (lv_at hl 0 rfl)) ?_
      refine fs_lift (fun _ _ _ _ => lv_iload hx hb d_Exporter_watch_96 (lv_at hl 3 rfl)) ?_
      refine fs_lift (fun _ _ _ _ => lv_iconst (v := 3) hx hb d_Exporter_watch_98 (by decide)) ?_
      refine fs_JV S hG hR rfl [.int v12, .int 3] (enc := fun _ => none) (fun zr zs zt zh => m_Exporter_end X l a0 v12 3 zh) tw_2_184 tw_2_185 tw_2_186 tw_2_187 tw_1_2 q_Exporter_end ⟨(Nat.le_of_ble_eq_true rfl), (Nat.le_of_ble_eq_true rfl)⟩ hl.1 rfl (Nat.le_of_ble_eq_true rfl) d_Exporter_watch_99 (fun _ => ?_)
      refine fs_Jeq (g2 := F0 m 102 ls []) rfl ?_
      exact fs_Jvret S hr hk rfl d_Exporter_watch_102
  · refine fs_ifn (fun _ _ _ _ => lv_icmp_ne hx hb d_Exporter_watch_12 rfl) ?_ ?_
    · refine fs_lift (fun _ _ _ _ => lv_aload_n hx hb d_Exporter_watch_15 rfl (lv_at hl 1 rfl)) ?_
      refine fs_Jgr S hG fs_in1 rfl 1 (Nat.le_of_ble_eq_true rfl) tw_1_126 (fun _ h9 => h9) d_Exporter_watch_16 (fun r2 => ?_)
      refine fs_JV S hG hR rfl [] (enc := fun r => some (.int r)) (fun zr zs zt zh => m_ArrayList_size X l r2 zh) tw_2_145 tw_2_29 tw_2_30 tw_2_31 tw_1_5 q_ArrayList_size ⟨(Nat.le_of_ble_eq_true rfl), (Nat.le_of_ble_eq_true rfl)⟩ hl.1 rfl (Nat.le_of_ble_eq_true rfl) d_Exporter_watch_19 (fun v3 => ?_)
      refine fs_Jeq (g2 := F0 m 22 ls [.int v3]) rfl ?_
      refine fs_lift (fun _ _ _ _ => lv_bipush (v := 6) hx hb d_Exporter_watch_22 (by decide)) ?_
      refine fs_Jlet1 (nL := 7) (pj := 36) (I := fun (_ : Unit) => [(0, .ref a0), (1, .int x1), (2, .int x2), (3, .int x3), (4, .int x4), (5, .int x5)]) (st := fun (_ : Unit) => []) (fun _ ls hl => ?_) (fun j36 hj36 => ?_)
      · refine fs_lift (fun _ _ _ _ => lv_aload_n hx hb d_Exporter_watch_36 rfl (lv_at hl 0 rfl)) ?_
        refine fs_Jgr S hG fs_in1 rfl 1 (Nat.le_of_ble_eq_true rfl) tw_1_126 (fun _ h9 => h9) d_Exporter_watch_37 (fun r5 => ?_)
        refine fs_Jnw S hG hR fs_in8 rfl fs_Y8 fs_ty8 fs_dv8 rfl tw_2_175 tw_3_21 tw_1_23 d_Exporter_watch_40 (fun r6 => ?_)
        refine fs_lift (fun _ _ _ _ => lv_dup hx hb d_Exporter_watch_43 rfl) ?_
        refine fs_lift (fun _ _ _ _ => lv_iload_n hx hb d_Exporter_watch_44 rfl (lv_at hl 1 rfl)) ?_
        refine fs_lift (fun _ _ _ _ => lv_iload_n hx hb d_Exporter_watch_45 rfl (lv_at hl 2 rfl)) ?_
        refine fs_lift (fun _ _ _ _ => lv_iload_n hx hb d_Exporter_watch_46 rfl (lv_at hl 3 rfl)) ?_
        refine fs_lift (fun _ _ _ _ => lv_aload_n hx hb d_Exporter_watch_47 rfl (lv_at hl 0 rfl)) ?_
        refine fs_Jgi S hG fs_in1 rfl 4 (Nat.le_of_ble_eq_true rfl) tw_1_132 (fun _ h9 => h9) d_Exporter_watch_48 (fun v7 => ?_)
        refine fs_JI S hG hR [.int x1, .int x2, .int x3, .int v7] (fun zr zs zt zh => m_Flow_init X l r6 x1 x2 x3 v7 zh) tw_3_22 tw_3_23 tw_3_24 tw_1_23 rfl q_Flow_init ⟨(Nat.le_of_ble_eq_true rfl), (Nat.le_of_ble_eq_true rfl)⟩ hl.1 rfl (Nat.le_of_ble_eq_true rfl) d_Exporter_watch_51 ?_
        refine fs_Jeq (g2 := F0 m 54 ls [.ref r6, .ref r5]) rfl ?_
        refine fs_JV S hG hR rfl [.ref r6] (enc := fun r => some (.int r)) (fun zr zs zt zh => m_ArrayList_add_0 X l r5 r6 zh) tw_2_199 tw_2_200 tw_2_201 tw_2_202 tw_1_5 q_ArrayList_add_0 ⟨(Nat.le_of_ble_eq_true rfl), (Nat.le_of_ble_eq_true rfl)⟩ hl.1 rfl (Nat.le_of_ble_eq_true rfl) d_Exporter_watch_54 (fun v8 => ?_)
        refine fs_Jeq (g2 := F0 m 57 ls [.int v8]) rfl ?_
        refine fs_lift (fun _ _ _ _ => lv_pop hx hb d_Exporter_watch_57 rfl) ?_
        refine fs_lift (fun _ _ _ _ => lv_aload_n hx hb d_Exporter_watch_58 rfl (lv_at hl 0 rfl)) ?_
        refine fs_Jgr S hG fs_in1 rfl 1 (Nat.le_of_ble_eq_true rfl) tw_1_126 (fun _ h9 => h9) d_Exporter_watch_59 (fun r9 => ?_)
        refine fs_JV S hG hR rfl [] (enc := fun r => some (.int r)) (fun zr zs zt zh => m_ArrayList_size X l r9 zh) tw_2_145 tw_2_29 tw_2_30 tw_2_31 tw_1_5 q_ArrayList_size ⟨(Nat.le_of_ble_eq_true rfl), (Nat.le_of_ble_eq_true rfl)⟩ hl.1 rfl (Nat.le_of_ble_eq_true rfl) d_Exporter_watch_62 (fun v10 => ?_)
        refine fs_Jeq (g2 := F0 m 65 ls [.int v10]) rfl ?_
        refine fs_lift (fun _ _ _ _ => lv_iconst (v := 1) hx hb d_Exporter_watch_65 (by decide)) ?_
        refine fs_lift (fun _ _ _ _ => lv_isub hx hb d_Exporter_watch_66) ?_
        refine fs_Jni (fun v11 => ?_)
        refine fs_liftL (fun _ _ _ _ => lv_istore (lv' := [(6, .int v11), (0, .ref a0), (1, .int x1), (2, .int x2), (3, .int x3), (4, .int x4), (5, .int x5)]) hx hb d_Exporter_watch_67 hl (Nat.le_of_ble_eq_true rfl) rfl) (fun ls hl => ?_)
        exact hj69 v11 ls (lv_sub hl [1, 5, 6, 0] rfl)
      · refine fs_if (fun _ _ _ _ => lv_icmp_lt hx hb d_Exporter_watch_24 rfl) ?_ ?_
        · exact hj36 () ls (lv_sub hl [1, 2, 3, 4, 5, 6] rfl)
        · refine fs_lift (fun _ _ _ _ => lv_aload_n hx hb d_Exporter_watch_27 rfl (lv_at hl 1 rfl)) ?_
          refine fs_lift (fun _ _ _ _ => lv_aload_n hx hb d_Exporter_watch_28 rfl (lv_at hl 1 rfl)) ?_
          refine fs_JV S hG hR rfl [] (enc := fun r => some (.int r)) (fun zr zs zt zh => m_Exporter_leastRecent X l a0 zh) tw_2_180 tw_2_181 tw_2_182 tw_2_183 tw_1_2 q_Exporter_leastRecent ⟨(Nat.le_of_ble_eq_true rfl), (Nat.le_of_ble_eq_true rfl)⟩ hl.1 rfl (Nat.le_of_ble_eq_true rfl) d_Exporter_watch_29 (fun v4 => ?_)
          refine fs_Jeq (g2 := F0 m 32 ls [.int v4, .ref a0]) rfl ?_
          refine fs_lift (fun _ _ _ _ => lv_iconst (v := 4) hx hb d_Exporter_watch_32 (by decide)) ?_
          refine fs_JV S hG hR rfl [.int v4, .int 4] (enc := fun _ => none) (fun zr zs zt zh => m_Exporter_end X l a0 v4 4 zh) tw_2_184 tw_2_185 tw_2_186 tw_2_187 tw_1_2 q_Exporter_end ⟨(Nat.le_of_ble_eq_true rfl), (Nat.le_of_ble_eq_true rfl)⟩ hl.1 rfl (Nat.le_of_ble_eq_true rfl) d_Exporter_watch_33 (fun _ => ?_)
          refine fs_Jeq (g2 := F0 m 36 ls []) rfl ?_
          exact hj36 () ls (lv_sub hl [1, 2, 3, 4, 5, 6] rfl)
    · exact hj69 v1 ls (lv_sub hl [1, 5, 6, 0] rfl)

theorem d_Flow_reasonToEnd_0 : decode prog_5_method_4_code 0 = .ok (.iload_n 1, 1) := by decide +kernel
theorem d_Flow_reasonToEnd_1 : decode prog_5_method_4_code 1 = .ok (.aload_n 0, 1) := by decide +kernel
theorem d_Flow_reasonToEnd_2 : decode prog_5_method_4_code 2 = .ok (.getfield 30, 3) := by decide +kernel
theorem d_Flow_reasonToEnd_5 : decode prog_5_method_4_code 5 = .ok (.isub, 1) := by decide +kernel
theorem d_Flow_reasonToEnd_6 : decode prog_5_method_4_code 6 = .ok (.bipush 15, 2) := by decide +kernel
theorem d_Flow_reasonToEnd_8 : decode prog_5_method_4_code 8 = .ok (.if_icmp .lt 5, 3) := by decide +kernel
theorem d_Flow_reasonToEnd_11 : decode prog_5_method_4_code 11 = .ok (.iconst 1, 1) := by decide +kernel
theorem d_Flow_reasonToEnd_12 : decode prog_5_method_4_code 12 = .ok (.ireturn, 1) := by decide +kernel
theorem d_Flow_reasonToEnd_13 : decode prog_5_method_4_code 13 = .ok (.iload_n 1, 1) := by decide +kernel
theorem d_Flow_reasonToEnd_14 : decode prog_5_method_4_code 14 = .ok (.aload_n 0, 1) := by decide +kernel
theorem d_Flow_reasonToEnd_15 : decode prog_5_method_4_code 15 = .ok (.getfield 21, 3) := by decide +kernel
theorem d_Flow_reasonToEnd_18 : decode prog_5_method_4_code 18 = .ok (.isub, 1) := by decide +kernel
theorem d_Flow_reasonToEnd_19 : decode prog_5_method_4_code 19 = .ok (.bipush 60, 2) := by decide +kernel
theorem d_Flow_reasonToEnd_21 : decode prog_5_method_4_code 21 = .ok (.if_icmp .lt 7, 3) := by decide +kernel
theorem d_Flow_reasonToEnd_24 : decode prog_5_method_4_code 24 = .ok (.iconst 2, 1) := by decide +kernel
theorem d_Flow_reasonToEnd_25 : decode prog_5_method_4_code 25 = .ok (.goto 4, 3) := by decide +kernel
theorem d_Flow_reasonToEnd_28 : decode prog_5_method_4_code 28 = .ok (.iconst 0, 1) := by decide +kernel
theorem d_Flow_reasonToEnd_29 : decode prog_5_method_4_code 29 = .ok (.ireturn, 1) := by decide +kernel
theorem q_Flow_reasonToEnd : (⟨"FlowShelf$Flow", "reasonToEnd", "(I)I"⟩ : MethodName).cls ≠ "java/lang/invoke/MethodHandle" ∧ (⟨"FlowShelf$Flow", "reasonToEnd", "(I)I"⟩ : MethodName).cls ≠ "java/lang/invoke/VarHandle" ∧ (parseMethodDescriptor (⟨"FlowShelf$Flow", "reasonToEnd", "(I)I"⟩ : MethodName).desc).map (fun d => d.parameters.length) = some 1 := by decide +kernel
set_option maxHeartbeats 4000000 in
set_option maxRecDepth 100000 in
theorem m_Flow_reasonToEnd (X : fs_X) (l : Launch) (a0 : Nat) (x1 : Int32) {r : Int32} {σ σF : fs_S} (h : (f_Flow_reasonToEnd a0 x1).1 σ = some (r, σF)) : fs_Met X l ⟨"FlowShelf$Flow", "reasonToEnd", "(I)I"⟩ (Cond.code ⟨"FlowShelf$Flow", "reasonToEnd", "(I)I"⟩ prog_5_method_4_code 2 (some FieldType.int)) 0 0 [.ref a0, .int x1] σ (fs_eI r) σF := by
  refine fs_ofW (by decide) ?_
  intro p e s m args below meth c s₁ B hml hT hv
  obtain ⟨rfl, hw0, hG⟩ := hv
  have hx := B.exec
  have hb := B.bytes
  have hr := B.returns
  have hk := B.notSynchronized
  have S : CallFix p m c prog_5_method_4_code 2 s _ fs_ws "FlowShelf$Flow" := ⟨B.exec, B.bytes, hml, findClass_of_methodNamed B.named, fun w hw => atoms_spec (ws := _ :: fs_ws) B.pre w (List.mem_cons_of_mem _ hw)⟩
  have hR := fs_hR (fr := 0) (lo := 0) ((f_Flow_reasonToEnd a0 x1).2 _ _ _ h)
  have hl := lv_entry ([.ref a0, .int x1]) (n := 2) (Nat.le_of_ble_eq_true rfl)
  rw [lg_entry_eq]
  generalize (lg_sl ([.ref a0, .int x1]) ++ List.replicate (2 - (lg_sl ([.ref a0, .int x1])).length) Slot.unset).toArray = ls at hl ⊢
  have hl : lv_has ls 2 [(0, .ref a0), (1, .int x1)] := hl
  refine (?_ : fs_J X p l e (fs_rm 0 0 σ σF) s m _ below meth c (fs_Q X below _ s (fs_eI r) σ σF) r σ σF (f_Flow_reasonToEnd a0 x1) (F0 m 0 ls [])) σ s.heap [] 0 0 h hw0 va_S.rf rfl rfl
  clear h hw0
  unfold f_Flow_reasonToEnd
  refine fs_lift (fun _ _ _ _ => lv_iload_n hx hb d_Flow_reasonToEnd_0 rfl (lv_at hl 1 rfl)) ?_
  refine fs_lift (fun _ _ _ _ => lv_aload_n hx hb d_Flow_reasonToEnd_1 rfl (lv_at hl 0 rfl)) ?_
  refine fs_Jgi S hG fs_in8 rfl 6 (Nat.le_of_ble_eq_true rfl) tw_3_32 (fun _ h9 => h9) d_Flow_reasonToEnd_2 (fun v1 => ?_)
  refine fs_lift (fun _ _ _ _ => lv_isub hx hb d_Flow_reasonToEnd_5) ?_
  refine fs_lift (fun _ _ _ _ => lv_bipush (v := 15) hx hb d_Flow_reasonToEnd_6 (by decide)) ?_
  refine fs_if (fun _ _ _ _ => lv_icmp_lt hx hb d_Flow_reasonToEnd_8 rfl) ?_ ?_
  · refine fs_lift (fun _ _ _ _ => lv_iload_n hx hb d_Flow_reasonToEnd_13 rfl (lv_at hl 1 rfl)) ?_
    refine fs_lift (fun _ _ _ _ => lv_aload_n hx hb d_Flow_reasonToEnd_14 rfl (lv_at hl 0 rfl)) ?_
    refine fs_Jgi S hG fs_in8 rfl 3 (Nat.le_of_ble_eq_true rfl) tw_3_29 (fun _ h9 => h9) d_Flow_reasonToEnd_15 (fun v2 => ?_)
    refine fs_lift (fun _ _ _ _ => lv_isub hx hb d_Flow_reasonToEnd_18) ?_
    refine fs_lift (fun _ _ _ _ => lv_bipush (v := 60) hx hb d_Flow_reasonToEnd_19 (by decide)) ?_
    refine fs_if (fun _ _ _ _ => lv_icmp_lt hx hb d_Flow_reasonToEnd_21 rfl) ?_ ?_
    · refine fs_lift (fun _ _ _ _ => lv_iconst (v := 0) hx hb d_Flow_reasonToEnd_28 (by decide)) ?_
      exact fs_Jiret S hr hk rfl d_Flow_reasonToEnd_29
    · refine fs_lift (fun _ _ _ _ => lv_iconst (v := 2) hx hb d_Flow_reasonToEnd_24 (by decide)) ?_
      refine fs_lift (fun _ _ _ _ => lv_goto hx hb d_Flow_reasonToEnd_25 rfl) ?_
      exact fs_Jiret S hr hk rfl d_Flow_reasonToEnd_29
  · refine fs_lift (fun _ _ _ _ => lv_iconst (v := 1) hx hb d_Flow_reasonToEnd_11 (by decide)) ?_
    exact fs_Jiret S hr hk rfl d_Flow_reasonToEnd_12

theorem d_Exporter_passTick_0 : decode prog_4_method_9_code 0 = .ok (.aload_n 0, 1) := by decide +kernel
theorem d_Exporter_passTick_1 : decode prog_4_method_9_code 1 = .ok (.dup, 1) := by decide +kernel
theorem d_Exporter_passTick_2 : decode prog_4_method_9_code 2 = .ok (.getfield 57, 3) := by decide +kernel
theorem d_Exporter_passTick_5 : decode prog_4_method_9_code 5 = .ok (.iconst 1, 1) := by decide +kernel
theorem d_Exporter_passTick_6 : decode prog_4_method_9_code 6 = .ok (.iadd, 1) := by decide +kernel
theorem d_Exporter_passTick_7 : decode prog_4_method_9_code 7 = .ok (.putfield 57, 3) := by decide +kernel
theorem d_Exporter_passTick_10 : decode prog_4_method_9_code 10 = .ok (.aload_n 0, 1) := by decide +kernel
theorem d_Exporter_passTick_11 : decode prog_4_method_9_code 11 = .ok (.getfield 12, 3) := by decide +kernel
theorem d_Exporter_passTick_14 : decode prog_4_method_9_code 14 = .ok (.invokevirtual 37, 3) := by decide +kernel
theorem d_Exporter_passTick_17 : decode prog_4_method_9_code 17 = .ok (.istore_n 1, 1) := by decide +kernel
theorem d_Exporter_passTick_18 : decode prog_4_method_9_code 18 = .ok (.iconst 0, 1) := by decide +kernel
theorem d_Exporter_passTick_19 : decode prog_4_method_9_code 19 = .ok (.istore_n 2, 1) := by decide +kernel
theorem d_Exporter_passTick_20 : decode prog_4_method_9_code 20 = .ok (.iconst 0, 1) := by decide +kernel
theorem d_Exporter_passTick_21 : decode prog_4_method_9_code 21 = .ok (.istore_n 3, 1) := by decide +kernel
theorem d_Exporter_passTick_22 : decode prog_4_method_9_code 22 = .ok (.iload_n 3, 1) := by decide +kernel
theorem d_Exporter_passTick_23 : decode prog_4_method_9_code 23 = .ok (.iload_n 1, 1) := by decide +kernel
theorem d_Exporter_passTick_24 : decode prog_4_method_9_code 24 = .ok (.if_icmp .ge 47, 3) := by decide +kernel
theorem d_Exporter_passTick_27 : decode prog_4_method_9_code 27 = .ok (.aload_n 0, 1) := by decide +kernel
theorem d_Exporter_passTick_28 : decode prog_4_method_9_code 28 = .ok (.getfield 12, 3) := by decide +kernel
theorem d_Exporter_passTick_31 : decode prog_4_method_9_code 31 = .ok (.iload_n 2, 1) := by decide +kernel
theorem d_Exporter_passTick_32 : decode prog_4_method_9_code 32 = .ok (.invokevirtual 67, 3) := by decide +kernel
theorem d_Exporter_passTick_35 : decode prog_4_method_9_code 35 = .ok (.checkcast 55, 3) := by decide +kernel
theorem d_Exporter_passTick_38 : decode prog_4_method_9_code 38 = .ok (.aload_n 0, 1) := by decide +kernel
theorem d_Exporter_passTick_39 : decode prog_4_method_9_code 39 = .ok (.getfield 57, 3) := by decide +kernel
theorem d_Exporter_passTick_42 : decode prog_4_method_9_code 42 = .ok (.invokevirtual 90, 3) := by decide +kernel
theorem d_Exporter_passTick_45 : decode prog_4_method_9_code 45 = .ok (.istore 4, 2) := by decide +kernel
theorem d_Exporter_passTick_47 : decode prog_4_method_9_code 47 = .ok (.iload 4, 2) := by decide +kernel
theorem d_Exporter_passTick_49 : decode prog_4_method_9_code 49 = .ok (.ifCond .ne 9, 3) := by decide +kernel
theorem d_Exporter_passTick_52 : decode prog_4_method_9_code 52 = .ok (.iinc 2 1, 3) := by decide +kernel
theorem d_Exporter_passTick_55 : decode prog_4_method_9_code 55 = .ok (.goto 10, 3) := by decide +kernel
theorem d_Exporter_passTick_58 : decode prog_4_method_9_code 58 = .ok (.aload_n 0, 1) := by decide +kernel
theorem d_Exporter_passTick_59 : decode prog_4_method_9_code 59 = .ok (.iload_n 2, 1) := by decide +kernel
theorem d_Exporter_passTick_60 : decode prog_4_method_9_code 60 = .ok (.iload 4, 2) := by decide +kernel
theorem d_Exporter_passTick_62 : decode prog_4_method_9_code 62 = .ok (.invokevirtual 51, 3) := by decide +kernel
theorem d_Exporter_passTick_65 : decode prog_4_method_9_code 65 = .ok (.iinc 3 1, 3) := by decide +kernel
theorem d_Exporter_passTick_68 : decode prog_4_method_9_code 68 = .ok (.goto (-46), 3) := by decide +kernel
theorem d_Exporter_passTick_71 : decode prog_4_method_9_code 71 = .ok (.iload_n 1, 1) := by decide +kernel
theorem d_Exporter_passTick_72 : decode prog_4_method_9_code 72 = .ok (.aload_n 0, 1) := by decide +kernel
theorem d_Exporter_passTick_73 : decode prog_4_method_9_code 73 = .ok (.getfield 12, 3) := by decide +kernel
theorem d_Exporter_passTick_76 : decode prog_4_method_9_code 76 = .ok (.invokevirtual 37, 3) := by decide +kernel
theorem d_Exporter_passTick_79 : decode prog_4_method_9_code 79 = .ok (.isub, 1) := by decide +kernel
theorem d_Exporter_passTick_80 : decode prog_4_method_9_code 80 = .ok (.ireturn, 1) := by decide +kernel
theorem q_Exporter_passTick : (⟨"FlowShelf$Exporter", "passTick", "()I"⟩ : MethodName).cls ≠ "java/lang/invoke/MethodHandle" ∧ (⟨"FlowShelf$Exporter", "passTick", "()I"⟩ : MethodName).cls ≠ "java/lang/invoke/VarHandle" ∧ (parseMethodDescriptor (⟨"FlowShelf$Exporter", "passTick", "()I"⟩ : MethodName).desc).map (fun d => d.parameters.length) = some 0 := by decide +kernel
set_option maxHeartbeats 4000000 in
set_option maxRecDepth 100000 in
theorem m_Exporter_passTick (X : fs_X) (l : Launch) (a0 : Nat) {r : Int32} {σ σF : fs_S} (h : (f_Exporter_passTick a0).1 σ = some (r, σF)) : fs_Met X l ⟨"FlowShelf$Exporter", "passTick", "()I"⟩ (Cond.code ⟨"FlowShelf$Exporter", "passTick", "()I"⟩ prog_4_method_9_code 5 (some FieldType.int)) 8 214 [.ref a0] σ (fs_eI r) σF := by
  refine fs_ofW (by decide) ?_
  intro p e s m args below meth c s₁ B hml hT hv
  obtain ⟨rfl, hw0, hG⟩ := hv
  have hx := B.exec
  have hb := B.bytes
  have hr := B.returns
  have hk := B.notSynchronized
  have S : CallFix p m c prog_4_method_9_code 5 s _ fs_ws "FlowShelf$Exporter" := ⟨B.exec, B.bytes, hml, findClass_of_methodNamed B.named, fun w hw => atoms_spec (ws := _ :: fs_ws) B.pre w (List.mem_cons_of_mem _ hw)⟩
  have hR := fs_hR (fr := 8) (lo := 214) ((f_Exporter_passTick a0).2 _ _ _ h)
  have hl := lv_entry ([.ref a0]) (n := 5) (Nat.le_of_ble_eq_true rfl)
  rw [lg_entry_eq]
  generalize (lg_sl ([.ref a0]) ++ List.replicate (5 - (lg_sl ([.ref a0])).length) Slot.unset).toArray = ls at hl ⊢
  have hl : lv_has ls 5 [(0, .ref a0)] := hl
  refine (?_ : fs_J X p l e (fs_rm 8 214 σ σF) s m _ below meth c (fs_Q X below _ s (fs_eI r) σ σF) r σ σF (f_Exporter_passTick a0) (F0 m 0 ls [])) σ s.heap [] 0 0 h hw0 va_S.rf rfl rfl
  clear h hw0
  unfold f_Exporter_passTick
  refine fs_lift (fun _ _ _ _ => lv_aload_n hx hb d_Exporter_passTick_0 rfl (lv_at hl 0 rfl)) ?_
  refine fs_lift (fun _ _ _ _ => lv_dup hx hb d_Exporter_passTick_1 rfl) ?_
  refine fs_Jgi S hG fs_in1 rfl 4 (Nat.le_of_ble_eq_true rfl) tw_1_132 (fun _ h9 => h9) d_Exporter_passTick_2 (fun v1 => ?_)
  refine fs_lift (fun _ _ _ _ => lv_iconst (v := 1) hx hb d_Exporter_passTick_5 (by decide)) ?_
  refine fs_lift (fun _ _ _ _ => lv_iadd hx hb d_Exporter_passTick_6) ?_
  refine fs_Jput S hG fs_in1 rfl 4 (Nat.le_of_ble_eq_true rfl) tw_1_132 (fun _ h9 => h9) fs_Y1 fs_ty1 fs_nm1 (Or.inl rfl) rfl rfl d_Exporter_passTick_7 ?_
  refine fs_lift (fun _ _ _ _ => lv_aload_n hx hb d_Exporter_passTick_10 rfl (lv_at hl 0 rfl)) ?_
  refine fs_Jgr S hG fs_in1 rfl 1 (Nat.le_of_ble_eq_true rfl) tw_1_126 (fun _ h9 => h9) d_Exporter_passTick_11 (fun r2 => ?_)
  refine fs_JV S hG hR rfl [] (enc := fun r => some (.int r)) (fun zr zs zt zh => m_ArrayList_size X l r2 zh) tw_2_145 tw_2_29 tw_2_30 tw_2_31 tw_1_5 q_ArrayList_size ⟨(Nat.le_of_ble_eq_true rfl), (Nat.le_of_ble_eq_true rfl)⟩ hl.1 rfl (Nat.le_of_ble_eq_true rfl) d_Exporter_passTick_14 (fun v3 => ?_)
  refine fs_Jeq (g2 := F0 m 17 ls [.int v3]) rfl ?_
  refine fs_liftL (fun _ _ _ _ => lv_istore_n (lv' := [(1, .int v3), (0, .ref a0)]) hx hb d_Exporter_passTick_17 rfl hl (Nat.le_of_ble_eq_true rfl) rfl) (fun ls hl => ?_)
  refine fs_lift (fun _ _ _ _ => lv_iconst (v := 0) hx hb d_Exporter_passTick_18 (by decide)) ?_
  refine fs_liftL (fun _ _ _ _ => lv_istore_n (lv' := [(2, .int 0), (1, .int v3), (0, .ref a0)]) hx hb d_Exporter_passTick_19 rfl hl (Nat.le_of_ble_eq_true rfl) rfl) (fun ls hl => ?_)
  refine fs_lift (fun _ _ _ _ => lv_iconst (v := 0) hx hb d_Exporter_passTick_20 (by decide)) ?_
  refine fs_liftL (fun _ _ _ _ => lv_istore_n (lv' := [(3, .int 0), (2, .int 0), (1, .int v3), (0, .ref a0)]) hx hb d_Exporter_passTick_21 rfl hl (Nat.le_of_ble_eq_true rfl) rfl) (fun ls hl => ?_)
  refine fs_Jlp2 (nL := 5) (pc := 22) (rest := []) (I := fun (v4 : Int32) (v5 : Int32) => [(0, .ref a0), (1, .int v3), (2, .int v4), (3, .int v5)]) (fun k22 hk22 v4 v5 ls hl => ?_) _ _ _ _ (lv_sub hl [3, 2, 1, 0] rfl)
  refine fs_lift (fun _ _ _ _ => lv_iload_n hx hb d_Exporter_passTick_22 rfl (lv_at hl 3 rfl)) ?_
  refine fs_lift (fun _ _ _ _ => lv_iload_n hx hb d_Exporter_passTick_23 rfl (lv_at hl 1 rfl)) ?_
  refine fs_if (fun _ _ _ _ => lv_icmp_ge hx hb d_Exporter_passTick_24 rfl) ?_ ?_
  · refine fs_lift (fun _ _ _ _ => lv_iload_n hx hb d_Exporter_passTick_71 rfl (lv_at hl 1 rfl)) ?_
    refine fs_lift (fun _ _ _ _ => lv_aload_n hx hb d_Exporter_passTick_72 rfl (lv_at hl 0 rfl)) ?_
    refine fs_Jgr S hG fs_in1 rfl 1 (Nat.le_of_ble_eq_true rfl) tw_1_126 (fun _ h9 => h9) d_Exporter_passTick_73 (fun r6 => ?_)
    refine fs_JV S hG hR rfl [] (enc := fun r => some (.int r)) (fun zr zs zt zh => m_ArrayList_size X l r6 zh) tw_2_145 tw_2_29 tw_2_30 tw_2_31 tw_1_5 q_ArrayList_size ⟨(Nat.le_of_ble_eq_true rfl), (Nat.le_of_ble_eq_true rfl)⟩ hl.1 rfl (Nat.le_of_ble_eq_true rfl) d_Exporter_passTick_76 (fun v7 => ?_)
    refine fs_Jeq (g2 := F0 m 79 ls [.int v7, .int v3]) rfl ?_
    refine fs_lift (fun _ _ _ _ => lv_isub hx hb d_Exporter_passTick_79) ?_
    exact fs_Jiret S hr hk rfl d_Exporter_passTick_80
  · refine fs_lift (fun _ _ _ _ => lv_aload_n hx hb d_Exporter_passTick_27 rfl (lv_at hl 0 rfl)) ?_
    refine fs_Jgr S hG fs_in1 rfl 1 (Nat.le_of_ble_eq_true rfl) tw_1_126 (fun _ h9 => h9) d_Exporter_passTick_28 (fun r8 => ?_)
    refine fs_lift (fun _ _ _ _ => lv_iload_n hx hb d_Exporter_passTick_31 rfl (lv_at hl 2 rfl)) ?_
    refine fs_JV S hG hR rfl [.int v4] (enc := fun r => some (.ref r)) (fun zr zs zt zh => m_ArrayList_get X l r8 v4 zh) tw_2_174 tw_2_33 tw_2_34 tw_2_35 tw_1_5 q_ArrayList_get ⟨(Nat.le_of_ble_eq_true rfl), (Nat.le_of_ble_eq_true rfl)⟩ hl.1 rfl (Nat.le_of_ble_eq_true rfl) d_Exporter_passTick_32 (fun r9 => ?_)
    refine fs_Jeq (g2 := F0 m 35 ls [.ref r9]) rfl ?_
    refine fs_Jck S hG rfl tw_2_175 tb_7_82 d_Exporter_passTick_35 ?_
    refine fs_lift (fun _ _ _ _ => lv_aload_n hx hb d_Exporter_passTick_38 rfl (lv_at hl 0 rfl)) ?_
    refine fs_Jgi S hG fs_in1 rfl 4 (Nat.le_of_ble_eq_true rfl) tw_1_132 (fun _ h9 => h9) d_Exporter_passTick_39 (fun v10 => ?_)
    refine fs_JV S hG hR rfl [.int v10] (enc := fun r => some (.int r)) (fun zr zs zt zh => m_Flow_reasonToEnd X l r9 v10 zh) tw_3_73 tw_3_74 tw_3_75 tw_3_76 tw_1_23 q_Flow_reasonToEnd ⟨(Nat.le_of_ble_eq_true rfl), (Nat.le_of_ble_eq_true rfl)⟩ hl.1 rfl (Nat.le_of_ble_eq_true rfl) d_Exporter_passTick_42 (fun v11 => ?_)
    refine fs_Jeq (g2 := F0 m 45 ls [.int v11]) rfl ?_
    refine fs_liftL (fun _ _ _ _ => lv_istore (lv' := [(4, .int v11), (0, .ref a0), (1, .int v3), (2, .int v4), (3, .int v5)]) hx hb d_Exporter_passTick_45 hl (Nat.le_of_ble_eq_true rfl) rfl) (fun ls hl => ?_)
    refine fs_lift (fun _ _ _ _ => lv_iload hx hb d_Exporter_passTick_47 (lv_at hl 0 rfl)) ?_
    refine fs_Jlet1 (nL := 5) (pj := 65) (I := fun (v13 : Int32) => [(0, .ref a0), (1, .int v3), (2, .int v13), (3, .int v5)]) (st := fun (v13 : Int32) => []) (fun v13 ls hl => ?_) (fun j65 hj65 => ?_)
    · refine fs_Jnm (fun v14 hv9 => ?_)
      refine fs_liftL (fun _ _ _ _ => lv_iinc (k := 3) (v := v14) (lv' := [(3, .int v14), (0, .ref a0), (1, .int v3), (2, .int v13)]) hx hb d_Exporter_passTick_65 hl rfl (by rw [hv9]; rfl) (Nat.le_of_ble_eq_true rfl) rfl) (fun ls hl => ?_)
      refine fs_lift (fun _ _ _ _ => lv_goto hx hb d_Exporter_passTick_68 rfl) ?_
      exact hk22 v13 v14 ls (lv_sub hl [1, 2, 3, 0] rfl)
    · refine fs_ifn (fun _ _ _ _ => lv_if_ne hx hb d_Exporter_passTick_49 rfl) ?_ ?_
      · refine fs_Jnm (fun v12 hv9 => ?_)
        refine fs_liftL (fun _ _ _ _ => lv_iinc (k := 3) (v := v12) (lv' := [(2, .int v12), (4, .int v11), (0, .ref a0), (1, .int v3), (3, .int v5)]) hx hb d_Exporter_passTick_52 hl rfl (by rw [hv9]; rfl) (Nat.le_of_ble_eq_true rfl) rfl) (fun ls hl => ?_)
        refine fs_lift (fun _ _ _ _ => lv_goto hx hb d_Exporter_passTick_55 rfl) ?_
        exact hj65 v12 ls (lv_sub hl [2, 3, 0, 4] rfl)
      · refine fs_lift (fun _ _ _ _ => lv_aload_n hx hb d_Exporter_passTick_58 rfl (lv_at hl 1 rfl)) ?_
        refine fs_lift (fun _ _ _ _ => lv_iload_n hx hb d_Exporter_passTick_59 rfl (lv_at hl 3 rfl)) ?_
        refine fs_lift (fun _ _ _ _ => lv_iload hx hb d_Exporter_passTick_60 (lv_at hl 0 rfl)) ?_
        refine fs_JV S hG hR rfl [.int v4, .int v11] (enc := fun _ => none) (fun zr zs zt zh => m_Exporter_end X l a0 v4 v11 zh) tw_2_184 tw_2_185 tw_2_186 tw_2_187 tw_1_2 q_Exporter_end ⟨(Nat.le_of_ble_eq_true rfl), (Nat.le_of_ble_eq_true rfl)⟩ hl.1 rfl (Nat.le_of_ble_eq_true rfl) d_Exporter_passTick_62 (fun _ => ?_)
        refine fs_Jeq (g2 := F0 m 65 ls []) rfl ?_
        exact hj65 v4 ls (lv_sub hl [1, 2, 3, 4] rfl)

theorem d_Exporter_flushCache_0 : decode prog_4_method_10_code 0 = .ok (.aload_n 0, 1) := by decide +kernel
theorem d_Exporter_flushCache_1 : decode prog_4_method_10_code 1 = .ok (.getfield 12, 3) := by decide +kernel
theorem d_Exporter_flushCache_4 : decode prog_4_method_10_code 4 = .ok (.invokevirtual 37, 3) := by decide +kernel
theorem d_Exporter_flushCache_7 : decode prog_4_method_10_code 7 = .ok (.istore_n 1, 1) := by decide +kernel
theorem d_Exporter_flushCache_8 : decode prog_4_method_10_code 8 = .ok (.iconst 0, 1) := by decide +kernel
theorem d_Exporter_flushCache_9 : decode prog_4_method_10_code 9 = .ok (.istore_n 2, 1) := by decide +kernel
theorem d_Exporter_flushCache_10 : decode prog_4_method_10_code 10 = .ok (.iload_n 2, 1) := by decide +kernel
theorem d_Exporter_flushCache_11 : decode prog_4_method_10_code 11 = .ok (.iload_n 1, 1) := by decide +kernel
theorem d_Exporter_flushCache_12 : decode prog_4_method_10_code 12 = .ok (.if_icmp .ge 15, 3) := by decide +kernel
theorem d_Exporter_flushCache_15 : decode prog_4_method_10_code 15 = .ok (.aload_n 0, 1) := by decide +kernel
theorem d_Exporter_flushCache_16 : decode prog_4_method_10_code 16 = .ok (.iconst 0, 1) := by decide +kernel
theorem d_Exporter_flushCache_17 : decode prog_4_method_10_code 17 = .ok (.iconst 5, 1) := by decide +kernel
theorem d_Exporter_flushCache_18 : decode prog_4_method_10_code 18 = .ok (.invokevirtual 51, 3) := by decide +kernel
theorem d_Exporter_flushCache_21 : decode prog_4_method_10_code 21 = .ok (.iinc 2 1, 3) := by decide +kernel
theorem d_Exporter_flushCache_24 : decode prog_4_method_10_code 24 = .ok (.goto (-14), 3) := by decide +kernel
theorem d_Exporter_flushCache_27 : decode prog_4_method_10_code 27 = .ok (.iload_n 1, 1) := by decide +kernel
theorem d_Exporter_flushCache_28 : decode prog_4_method_10_code 28 = .ok (.ireturn, 1) := by decide +kernel
theorem q_Exporter_flushCache : (⟨"FlowShelf$Exporter", "flushCache", "()I"⟩ : MethodName).cls ≠ "java/lang/invoke/MethodHandle" ∧ (⟨"FlowShelf$Exporter", "flushCache", "()I"⟩ : MethodName).cls ≠ "java/lang/invoke/VarHandle" ∧ (parseMethodDescriptor (⟨"FlowShelf$Exporter", "flushCache", "()I"⟩ : MethodName).desc).map (fun d => d.parameters.length) = some 0 := by decide +kernel
set_option maxHeartbeats 4000000 in
set_option maxRecDepth 100000 in
theorem m_Exporter_flushCache (X : fs_X) (l : Launch) (a0 : Nat) {r : Int32} {σ σF : fs_S} (h : (f_Exporter_flushCache a0).1 σ = some (r, σF)) : fs_Met X l ⟨"FlowShelf$Exporter", "flushCache", "()I"⟩ (Cond.code ⟨"FlowShelf$Exporter", "flushCache", "()I"⟩ prog_4_method_10_code 3 (some FieldType.int)) 8 214 [.ref a0] σ (fs_eI r) σF := by
  refine fs_ofW (by decide) ?_
  intro p e s m args below meth c s₁ B hml hT hv
  obtain ⟨rfl, hw0, hG⟩ := hv
  have hx := B.exec
  have hb := B.bytes
  have hr := B.returns
  have hk := B.notSynchronized
  have S : CallFix p m c prog_4_method_10_code 3 s _ fs_ws "FlowShelf$Exporter" := ⟨B.exec, B.bytes, hml, findClass_of_methodNamed B.named, fun w hw => atoms_spec (ws := _ :: fs_ws) B.pre w (List.mem_cons_of_mem _ hw)⟩
  have hR := fs_hR (fr := 8) (lo := 214) ((f_Exporter_flushCache a0).2 _ _ _ h)
  have hl := lv_entry ([.ref a0]) (n := 3) (Nat.le_of_ble_eq_true rfl)
  rw [lg_entry_eq]
  generalize (lg_sl ([.ref a0]) ++ List.replicate (3 - (lg_sl ([.ref a0])).length) Slot.unset).toArray = ls at hl ⊢
  have hl : lv_has ls 3 [(0, .ref a0)] := hl
  refine (?_ : fs_J X p l e (fs_rm 8 214 σ σF) s m _ below meth c (fs_Q X below _ s (fs_eI r) σ σF) r σ σF (f_Exporter_flushCache a0) (F0 m 0 ls [])) σ s.heap [] 0 0 h hw0 va_S.rf rfl rfl
  clear h hw0
  unfold f_Exporter_flushCache
  refine fs_lift (fun _ _ _ _ => lv_aload_n hx hb d_Exporter_flushCache_0 rfl (lv_at hl 0 rfl)) ?_
  refine fs_Jgr S hG fs_in1 rfl 1 (Nat.le_of_ble_eq_true rfl) tw_1_126 (fun _ h9 => h9) d_Exporter_flushCache_1 (fun r1 => ?_)
  refine fs_JV S hG hR rfl [] (enc := fun r => some (.int r)) (fun zr zs zt zh => m_ArrayList_size X l r1 zh) tw_2_145 tw_2_29 tw_2_30 tw_2_31 tw_1_5 q_ArrayList_size ⟨(Nat.le_of_ble_eq_true rfl), (Nat.le_of_ble_eq_true rfl)⟩ hl.1 rfl (Nat.le_of_ble_eq_true rfl) d_Exporter_flushCache_4 (fun v2 => ?_)
  refine fs_Jeq (g2 := F0 m 7 ls [.int v2]) rfl ?_
  refine fs_liftL (fun _ _ _ _ => lv_istore_n (lv' := [(1, .int v2), (0, .ref a0)]) hx hb d_Exporter_flushCache_7 rfl hl (Nat.le_of_ble_eq_true rfl) rfl) (fun ls hl => ?_)
  refine fs_lift (fun _ _ _ _ => lv_iconst (v := 0) hx hb d_Exporter_flushCache_8 (by decide)) ?_
  refine fs_liftL (fun _ _ _ _ => lv_istore_n (lv' := [(2, .int 0), (1, .int v2), (0, .ref a0)]) hx hb d_Exporter_flushCache_9 rfl hl (Nat.le_of_ble_eq_true rfl) rfl) (fun ls hl => ?_)
  refine fs_Jlp1 (nL := 3) (pc := 10) (rest := []) (I := fun (v3 : Int32) => [(0, .ref a0), (1, .int v2), (2, .int v3)]) (fun k10 hk10 v3 ls hl => ?_) _ _ _ (lv_sub hl [2, 1, 0] rfl)
  refine fs_lift (fun _ _ _ _ => lv_iload_n hx hb d_Exporter_flushCache_10 rfl (lv_at hl 2 rfl)) ?_
  refine fs_lift (fun _ _ _ _ => lv_iload_n hx hb d_Exporter_flushCache_11 rfl (lv_at hl 1 rfl)) ?_
  refine fs_if (fun _ _ _ _ => lv_icmp_ge hx hb d_Exporter_flushCache_12 rfl) ?_ ?_
  · refine fs_lift (fun _ _ _ _ => lv_iload_n hx hb d_Exporter_flushCache_27 rfl (lv_at hl 1 rfl)) ?_
    exact fs_Jiret S hr hk rfl d_Exporter_flushCache_28
  · refine fs_lift (fun _ _ _ _ => lv_aload_n hx hb d_Exporter_flushCache_15 rfl (lv_at hl 0 rfl)) ?_
    refine fs_lift (fun _ _ _ _ => lv_iconst (v := 0) hx hb d_Exporter_flushCache_16 (by decide)) ?_
    refine fs_lift (fun _ _ _ _ => lv_iconst (v := 5) hx hb d_Exporter_flushCache_17 (by decide)) ?_
    refine fs_JV S hG hR rfl [.int 0, .int 5] (enc := fun _ => none) (fun zr zs zt zh => m_Exporter_end X l a0 0 5 zh) tw_2_184 tw_2_185 tw_2_186 tw_2_187 tw_1_2 q_Exporter_end ⟨(Nat.le_of_ble_eq_true rfl), (Nat.le_of_ble_eq_true rfl)⟩ hl.1 rfl (Nat.le_of_ble_eq_true rfl) d_Exporter_flushCache_18 (fun _ => ?_)
    refine fs_Jeq (g2 := F0 m 21 ls []) rfl ?_
    refine fs_Jnm (fun v4 hv9 => ?_)
    refine fs_liftL (fun _ _ _ _ => lv_iinc (k := 2) (v := v4) (lv' := [(2, .int v4), (0, .ref a0), (1, .int v2)]) hx hb d_Exporter_flushCache_21 hl rfl (by rw [hv9]; rfl) (Nat.le_of_ble_eq_true rfl) rfl) (fun ls hl => ?_)
    refine fs_lift (fun _ _ _ _ => lv_goto hx hb d_Exporter_flushCache_24 rfl) ?_
    exact hk10 v4 ls (lv_sub hl [1, 2, 0] rfl)

theorem d_Exporter_sampleEvery_0 : decode prog_4_method_3_code 0 = .ok (.aload_n 0, 1) := by decide +kernel
theorem d_Exporter_sampleEvery_1 : decode prog_4_method_3_code 1 = .ok (.iload_n 1, 1) := by decide +kernel
theorem d_Exporter_sampleEvery_2 : decode prog_4_method_3_code 2 = .ok (.putfield 27, 3) := by decide +kernel
theorem d_Exporter_sampleEvery_5 : decode prog_4_method_3_code 5 = .ok (.aload_n 0, 1) := by decide +kernel
theorem d_Exporter_sampleEvery_6 : decode prog_4_method_3_code 6 = .ok (.iconst 0, 1) := by decide +kernel
theorem d_Exporter_sampleEvery_7 : decode prog_4_method_3_code 7 = .ok (.putfield 41, 3) := by decide +kernel
theorem d_Exporter_sampleEvery_10 : decode prog_4_method_3_code 10 = .ok (.return_, 1) := by decide +kernel
theorem q_Exporter_sampleEvery : (⟨"FlowShelf$Exporter", "sampleEvery", "(I)V"⟩ : MethodName).cls ≠ "java/lang/invoke/MethodHandle" ∧ (⟨"FlowShelf$Exporter", "sampleEvery", "(I)V"⟩ : MethodName).cls ≠ "java/lang/invoke/VarHandle" ∧ (parseMethodDescriptor (⟨"FlowShelf$Exporter", "sampleEvery", "(I)V"⟩ : MethodName).desc).map (fun d => d.parameters.length) = some 1 := by decide +kernel
set_option maxHeartbeats 4000000 in
set_option maxRecDepth 100000 in
theorem m_Exporter_sampleEvery (X : fs_X) (l : Launch) (a0 : Nat) (x1 : Int32) {r : Unit} {σ σF : fs_S} (h : (f_Exporter_sampleEvery a0 x1).1 σ = some (r, σF)) : fs_Met X l ⟨"FlowShelf$Exporter", "sampleEvery", "(I)V"⟩ (Cond.code ⟨"FlowShelf$Exporter", "sampleEvery", "(I)V"⟩ prog_4_method_3_code 2 none) 0 0 [.ref a0, .int x1] σ (fs_eV r) σF := by
  refine fs_ofW (by decide) ?_
  intro p e s m args below meth c s₁ B hml hT hv
  obtain ⟨rfl, hw0, hG⟩ := hv
  have hx := B.exec
  have hb := B.bytes
  have hr := B.returns
  have hk := B.notSynchronized
  have S : CallFix p m c prog_4_method_3_code 2 s _ fs_ws "FlowShelf$Exporter" := ⟨B.exec, B.bytes, hml, findClass_of_methodNamed B.named, fun w hw => atoms_spec (ws := _ :: fs_ws) B.pre w (List.mem_cons_of_mem _ hw)⟩
  have hR := fs_hR (fr := 0) (lo := 0) ((f_Exporter_sampleEvery a0 x1).2 _ _ _ h)
  have hl := lv_entry ([.ref a0, .int x1]) (n := 2) (Nat.le_of_ble_eq_true rfl)
  rw [lg_entry_eq]
  generalize (lg_sl ([.ref a0, .int x1]) ++ List.replicate (2 - (lg_sl ([.ref a0, .int x1])).length) Slot.unset).toArray = ls at hl ⊢
  have hl : lv_has ls 2 [(0, .ref a0), (1, .int x1)] := hl
  refine (?_ : fs_J X p l e (fs_rm 0 0 σ σF) s m _ below meth c (fs_Q X below _ s (fs_eV r) σ σF) r σ σF (f_Exporter_sampleEvery a0 x1) (F0 m 0 ls [])) σ s.heap [] 0 0 h hw0 va_S.rf rfl rfl
  clear h hw0
  unfold f_Exporter_sampleEvery
  refine fs_lift (fun _ _ _ _ => lv_aload_n hx hb d_Exporter_sampleEvery_0 rfl (lv_at hl 0 rfl)) ?_
  refine fs_lift (fun _ _ _ _ => lv_iload_n hx hb d_Exporter_sampleEvery_1 rfl (lv_at hl 1 rfl)) ?_
  refine fs_Jput S hG fs_in1 rfl 6 (Nat.le_of_ble_eq_true rfl) tw_1_136 (fun _ h9 => h9) fs_Y1 fs_ty1 fs_nm1 (Or.inl rfl) rfl rfl d_Exporter_sampleEvery_2 ?_
  refine fs_lift (fun _ _ _ _ => lv_aload_n hx hb d_Exporter_sampleEvery_5 rfl (lv_at hl 0 rfl)) ?_
  refine fs_lift (fun _ _ _ _ => lv_iconst (v := 0) hx hb d_Exporter_sampleEvery_6 (by decide)) ?_
  refine fs_Jput S hG fs_in1 rfl 7 (Nat.le_of_ble_eq_true rfl) tw_1_137 (fun _ h9 => h9) fs_Y1 fs_ty1 fs_nm1 (Or.inl rfl) rfl rfl d_Exporter_sampleEvery_7 ?_
  exact fs_Jvret S hr hk rfl d_Exporter_sampleEvery_10

theorem d_Flow_valueOf_0 : decode prog_5_method_5_code 0 = .ok (.iload_n 1, 1) := by decide +kernel
theorem d_Flow_valueOf_1 : decode prog_5_method_5_code 1 = .ok (.tableswitch 78 0 6 #[43, 48, 53, 58, 63, 68, 73], 43) := by decide +kernel
theorem d_Flow_valueOf_44 : decode prog_5_method_5_code 44 = .ok (.aload_n 0, 1) := by decide +kernel
theorem d_Flow_valueOf_45 : decode prog_5_method_5_code 45 = .ok (.getfield 9, 3) := by decide +kernel
theorem d_Flow_valueOf_48 : decode prog_5_method_5_code 48 = .ok (.ireturn, 1) := by decide +kernel
theorem d_Flow_valueOf_49 : decode prog_5_method_5_code 49 = .ok (.aload_n 0, 1) := by decide +kernel
theorem d_Flow_valueOf_50 : decode prog_5_method_5_code 50 = .ok (.getfield 15, 3) := by decide +kernel
theorem d_Flow_valueOf_53 : decode prog_5_method_5_code 53 = .ok (.ireturn, 1) := by decide +kernel
theorem d_Flow_valueOf_54 : decode prog_5_method_5_code 54 = .ok (.aload_n 0, 1) := by decide +kernel
theorem d_Flow_valueOf_55 : decode prog_5_method_5_code 55 = .ok (.getfield 18, 3) := by decide +kernel
theorem d_Flow_valueOf_58 : decode prog_5_method_5_code 58 = .ok (.ireturn, 1) := by decide +kernel
theorem d_Flow_valueOf_59 : decode prog_5_method_5_code 59 = .ok (.aload_n 0, 1) := by decide +kernel
theorem d_Flow_valueOf_60 : decode prog_5_method_5_code 60 = .ok (.getfield 24, 3) := by decide +kernel
theorem d_Flow_valueOf_63 : decode prog_5_method_5_code 63 = .ok (.ireturn, 1) := by decide +kernel
theorem d_Flow_valueOf_64 : decode prog_5_method_5_code 64 = .ok (.aload_n 0, 1) := by decide +kernel
theorem d_Flow_valueOf_65 : decode prog_5_method_5_code 65 = .ok (.getfield 27, 3) := by decide +kernel
theorem d_Flow_valueOf_68 : decode prog_5_method_5_code 68 = .ok (.ireturn, 1) := by decide +kernel
theorem d_Flow_valueOf_69 : decode prog_5_method_5_code 69 = .ok (.aload_n 0, 1) := by decide +kernel
theorem d_Flow_valueOf_70 : decode prog_5_method_5_code 70 = .ok (.getfield 21, 3) := by decide +kernel
theorem d_Flow_valueOf_73 : decode prog_5_method_5_code 73 = .ok (.ireturn, 1) := by decide +kernel
theorem d_Flow_valueOf_74 : decode prog_5_method_5_code 74 = .ok (.aload_n 0, 1) := by decide +kernel
theorem d_Flow_valueOf_75 : decode prog_5_method_5_code 75 = .ok (.getfield 33, 3) := by decide +kernel
theorem d_Flow_valueOf_78 : decode prog_5_method_5_code 78 = .ok (.ireturn, 1) := by decide +kernel
theorem d_Flow_valueOf_79 : decode prog_5_method_5_code 79 = .ok (.aload_n 0, 1) := by decide +kernel
theorem d_Flow_valueOf_80 : decode prog_5_method_5_code 80 = .ok (.getfield 36, 3) := by decide +kernel
theorem d_Flow_valueOf_83 : decode prog_5_method_5_code 83 = .ok (.ireturn, 1) := by decide +kernel
theorem q_Flow_valueOf : (⟨"FlowShelf$Flow", "valueOf", "(I)I"⟩ : MethodName).cls ≠ "java/lang/invoke/MethodHandle" ∧ (⟨"FlowShelf$Flow", "valueOf", "(I)I"⟩ : MethodName).cls ≠ "java/lang/invoke/VarHandle" ∧ (parseMethodDescriptor (⟨"FlowShelf$Flow", "valueOf", "(I)I"⟩ : MethodName).desc).map (fun d => d.parameters.length) = some 1 := by decide +kernel
set_option maxHeartbeats 4000000 in
set_option maxRecDepth 100000 in
theorem m_Flow_valueOf (X : fs_X) (l : Launch) (a0 : Nat) (x1 : Int32) {r : Int32} {σ σF : fs_S} (h : (f_Flow_valueOf a0 x1).1 σ = some (r, σF)) : fs_Met X l ⟨"FlowShelf$Flow", "valueOf", "(I)I"⟩ (Cond.code ⟨"FlowShelf$Flow", "valueOf", "(I)I"⟩ prog_5_method_5_code 2 (some FieldType.int)) 0 0 [.ref a0, .int x1] σ (fs_eI r) σF := by
  refine fs_ofW (by decide) ?_
  intro p e s m args below meth c s₁ B hml hT hv
  obtain ⟨rfl, hw0, hG⟩ := hv
  have hx := B.exec
  have hb := B.bytes
  have hr := B.returns
  have hk := B.notSynchronized
  have S : CallFix p m c prog_5_method_5_code 2 s _ fs_ws "FlowShelf$Flow" := ⟨B.exec, B.bytes, hml, findClass_of_methodNamed B.named, fun w hw => atoms_spec (ws := _ :: fs_ws) B.pre w (List.mem_cons_of_mem _ hw)⟩
  have hR := fs_hR (fr := 0) (lo := 0) ((f_Flow_valueOf a0 x1).2 _ _ _ h)
  have hl := lv_entry ([.ref a0, .int x1]) (n := 2) (Nat.le_of_ble_eq_true rfl)
  rw [lg_entry_eq]
  generalize (lg_sl ([.ref a0, .int x1]) ++ List.replicate (2 - (lg_sl ([.ref a0, .int x1])).length) Slot.unset).toArray = ls at hl ⊢
  have hl : lv_has ls 2 [(0, .ref a0), (1, .int x1)] := hl
  refine (?_ : fs_J X p l e (fs_rm 0 0 σ σF) s m _ below meth c (fs_Q X below _ s (fs_eI r) σ σF) r σ σF (f_Flow_valueOf a0 x1) (F0 m 0 ls [])) σ s.heap [] 0 0 h hw0 va_S.rf rfl rfl
  clear h hw0
  unfold f_Flow_valueOf
  refine fs_lift (fun _ _ _ _ => lv_iload_n hx hb d_Flow_valueOf_0 rfl (lv_at hl 1 rfl)) ?_
  refine fs_sw (fun q9 => ?_) (fun q100 => ?_)
  · refine fs_lift (fun _ _ _ _ => lv_tableIn (off := 43) (tgt := 44) hx hb d_Flow_valueOf_1 (by rw [q9]; decide) (by rw [q9]; decide) (by rw [q9]; rfl) rfl) ?_
    refine fs_lift (fun _ _ _ _ => lv_aload_n hx hb d_Flow_valueOf_44 rfl (lv_at hl 0 rfl)) ?_
    refine fs_Jgi S hG fs_in8 rfl 0 (Nat.le_of_ble_eq_true rfl) tw_3_26 (fun _ h9 => h9) d_Flow_valueOf_45 (fun v1 => ?_)
    exact fs_Jiret S hr hk rfl d_Flow_valueOf_48
  refine fs_sw (fun q9 => ?_) (fun q101 => ?_)
  · refine fs_lift (fun _ _ _ _ => lv_tableIn (off := 48) (tgt := 49) hx hb d_Flow_valueOf_1 (by rw [q9]; decide) (by rw [q9]; decide) (by rw [q9]; rfl) rfl) ?_
    refine fs_lift (fun _ _ _ _ => lv_aload_n hx hb d_Flow_valueOf_49 rfl (lv_at hl 0 rfl)) ?_
    refine fs_Jgi S hG fs_in8 rfl 1 (Nat.le_of_ble_eq_true rfl) tw_3_27 (fun _ h9 => h9) d_Flow_valueOf_50 (fun v2 => ?_)
    exact fs_Jiret S hr hk rfl d_Flow_valueOf_53
  refine fs_sw (fun q9 => ?_) (fun q102 => ?_)
  · refine fs_lift (fun _ _ _ _ => lv_tableIn (off := 53) (tgt := 54) hx hb d_Flow_valueOf_1 (by rw [q9]; decide) (by rw [q9]; decide) (by rw [q9]; rfl) rfl) ?_
    refine fs_lift (fun _ _ _ _ => lv_aload_n hx hb d_Flow_valueOf_54 rfl (lv_at hl 0 rfl)) ?_
    refine fs_Jgi S hG fs_in8 rfl 2 (Nat.le_of_ble_eq_true rfl) tw_3_28 (fun _ h9 => h9) d_Flow_valueOf_55 (fun v3 => ?_)
    exact fs_Jiret S hr hk rfl d_Flow_valueOf_58
  refine fs_sw (fun q9 => ?_) (fun q103 => ?_)
  · refine fs_lift (fun _ _ _ _ => lv_tableIn (off := 58) (tgt := 59) hx hb d_Flow_valueOf_1 (by rw [q9]; decide) (by rw [q9]; decide) (by rw [q9]; rfl) rfl) ?_
    refine fs_lift (fun _ _ _ _ => lv_aload_n hx hb d_Flow_valueOf_59 rfl (lv_at hl 0 rfl)) ?_
    refine fs_Jgi S hG fs_in8 rfl 4 (Nat.le_of_ble_eq_true rfl) tw_3_30 (fun _ h9 => h9) d_Flow_valueOf_60 (fun v4 => ?_)
    exact fs_Jiret S hr hk rfl d_Flow_valueOf_63
  refine fs_sw (fun q9 => ?_) (fun q104 => ?_)
  · refine fs_lift (fun _ _ _ _ => lv_tableIn (off := 63) (tgt := 64) hx hb d_Flow_valueOf_1 (by rw [q9]; decide) (by rw [q9]; decide) (by rw [q9]; rfl) rfl) ?_
    refine fs_lift (fun _ _ _ _ => lv_aload_n hx hb d_Flow_valueOf_64 rfl (lv_at hl 0 rfl)) ?_
    refine fs_Jgi S hG fs_in8 rfl 5 (Nat.le_of_ble_eq_true rfl) tw_3_31 (fun _ h9 => h9) d_Flow_valueOf_65 (fun v5 => ?_)
    exact fs_Jiret S hr hk rfl d_Flow_valueOf_68
  refine fs_sw (fun q9 => ?_) (fun q105 => ?_)
  · refine fs_lift (fun _ _ _ _ => lv_tableIn (off := 68) (tgt := 69) hx hb d_Flow_valueOf_1 (by rw [q9]; decide) (by rw [q9]; decide) (by rw [q9]; rfl) rfl) ?_
    refine fs_lift (fun _ _ _ _ => lv_aload_n hx hb d_Flow_valueOf_69 rfl (lv_at hl 0 rfl)) ?_
    refine fs_Jgi S hG fs_in8 rfl 3 (Nat.le_of_ble_eq_true rfl) tw_3_29 (fun _ h9 => h9) d_Flow_valueOf_70 (fun v6 => ?_)
    exact fs_Jiret S hr hk rfl d_Flow_valueOf_73
  refine fs_sw (fun q9 => ?_) (fun q106 => ?_)
  · refine fs_lift (fun _ _ _ _ => lv_tableIn (off := 73) (tgt := 74) hx hb d_Flow_valueOf_1 (by rw [q9]; decide) (by rw [q9]; decide) (by rw [q9]; rfl) rfl) ?_
    refine fs_lift (fun _ _ _ _ => lv_aload_n hx hb d_Flow_valueOf_74 rfl (lv_at hl 0 rfl)) ?_
    refine fs_Jgi S hG fs_in8 rfl 7 (Nat.le_of_ble_eq_true rfl) tw_3_34 (fun _ h9 => h9) d_Flow_valueOf_75 (fun v7 => ?_)
    exact fs_Jiret S hr hk rfl d_Flow_valueOf_78
  refine fs_lift (fun _ _ _ _ => lv_tableOut (tgt := 79) hx hb d_Flow_valueOf_1 (fs_tout 6 (fun k hk => match k, hk with | 0, _ => q100 | 1, _ => q101 | 2, _ => q102 | 3, _ => q103 | 4, _ => q104 | 5, _ => q105 | 6, _ => q106 | n + 7, h => absurd h (by omega)) (by decide)) rfl) ?_
  refine fs_lift (fun _ _ _ _ => lv_aload_n hx hb d_Flow_valueOf_79 rfl (lv_at hl 0 rfl)) ?_
  refine fs_Jgi S hG fs_in8 rfl 8 (Nat.le_of_ble_eq_true rfl) tw_3_36 (fun _ h9 => h9) d_Flow_valueOf_80 (fun v8 => ?_)
  exact fs_Jiret S hr hk rfl d_Flow_valueOf_83

theorem d_Layout_has_0 : decode prog_6_method_2_code 0 = .ok (.iconst 0, 1) := by decide +kernel
theorem d_Layout_has_1 : decode prog_6_method_2_code 1 = .ok (.istore_n 2, 1) := by decide +kernel
theorem d_Layout_has_2 : decode prog_6_method_2_code 2 = .ok (.iload_n 2, 1) := by decide +kernel
theorem d_Layout_has_3 : decode prog_6_method_2_code 3 = .ok (.aload_n 0, 1) := by decide +kernel
theorem d_Layout_has_4 : decode prog_6_method_2_code 4 = .ok (.getfield 18, 3) := by decide +kernel
theorem d_Layout_has_7 : decode prog_6_method_2_code 7 = .ok (.if_icmp .ge 21, 3) := by decide +kernel
theorem d_Layout_has_10 : decode prog_6_method_2_code 10 = .ok (.aload_n 0, 1) := by decide +kernel
theorem d_Layout_has_11 : decode prog_6_method_2_code 11 = .ok (.getfield 9, 3) := by decide +kernel
theorem d_Layout_has_14 : decode prog_6_method_2_code 14 = .ok (.iload_n 2, 1) := by decide +kernel
theorem d_Layout_has_15 : decode prog_6_method_2_code 15 = .ok (.iaload, 1) := by decide +kernel
theorem d_Layout_has_16 : decode prog_6_method_2_code 16 = .ok (.iload_n 1, 1) := by decide +kernel
theorem d_Layout_has_17 : decode prog_6_method_2_code 17 = .ok (.if_icmp .ne 5, 3) := by decide +kernel
theorem d_Layout_has_20 : decode prog_6_method_2_code 20 = .ok (.iconst 1, 1) := by decide +kernel
theorem d_Layout_has_21 : decode prog_6_method_2_code 21 = .ok (.ireturn, 1) := by decide +kernel
theorem d_Layout_has_22 : decode prog_6_method_2_code 22 = .ok (.iinc 2 1, 3) := by decide +kernel
theorem d_Layout_has_25 : decode prog_6_method_2_code 25 = .ok (.goto (-23), 3) := by decide +kernel
theorem d_Layout_has_28 : decode prog_6_method_2_code 28 = .ok (.iconst 0, 1) := by decide +kernel
theorem d_Layout_has_29 : decode prog_6_method_2_code 29 = .ok (.ireturn, 1) := by decide +kernel
theorem q_Layout_has : (⟨"FlowShelf$Layout", "has", "(I)Z"⟩ : MethodName).cls ≠ "java/lang/invoke/MethodHandle" ∧ (⟨"FlowShelf$Layout", "has", "(I)Z"⟩ : MethodName).cls ≠ "java/lang/invoke/VarHandle" ∧ (parseMethodDescriptor (⟨"FlowShelf$Layout", "has", "(I)Z"⟩ : MethodName).desc).map (fun d => d.parameters.length) = some 1 := by decide +kernel
set_option maxHeartbeats 4000000 in
set_option maxRecDepth 100000 in
theorem m_Layout_has (X : fs_X) (l : Launch) (a0 : Nat) (x1 : Int32) {r : Int32} {σ σF : fs_S} (h : (f_Layout_has a0 x1).1 σ = some (r, σF)) : fs_Met X l ⟨"FlowShelf$Layout", "has", "(I)Z"⟩ (Cond.code ⟨"FlowShelf$Layout", "has", "(I)Z"⟩ prog_6_method_2_code 3 (some FieldType.boolean)) 0 0 [.ref a0, .int x1] σ (fs_eI r) σF := by
  refine fs_ofW (by decide) ?_
  intro p e s m args below meth c s₁ B hml hT hv
  obtain ⟨rfl, hw0, hG⟩ := hv
  have hx := B.exec
  have hb := B.bytes
  have hr := B.returns
  have hk := B.notSynchronized
  have S : CallFix p m c prog_6_method_2_code 3 s _ fs_ws "FlowShelf$Layout" := ⟨B.exec, B.bytes, hml, findClass_of_methodNamed B.named, fun w hw => atoms_spec (ws := _ :: fs_ws) B.pre w (List.mem_cons_of_mem _ hw)⟩
  have hR := fs_hR (fr := 0) (lo := 0) ((f_Layout_has a0 x1).2 _ _ _ h)
  have hl := lv_entry ([.ref a0, .int x1]) (n := 3) (Nat.le_of_ble_eq_true rfl)
  rw [lg_entry_eq]
  generalize (lg_sl ([.ref a0, .int x1]) ++ List.replicate (3 - (lg_sl ([.ref a0, .int x1])).length) Slot.unset).toArray = ls at hl ⊢
  have hl : lv_has ls 3 [(0, .ref a0), (1, .int x1)] := hl
  refine (?_ : fs_J X p l e (fs_rm 0 0 σ σF) s m _ below meth c (fs_Q X below _ s (fs_eI r) σ σF) r σ σF (f_Layout_has a0 x1) (F0 m 0 ls [])) σ s.heap [] 0 0 h hw0 va_S.rf rfl rfl
  clear h hw0
  unfold f_Layout_has
  refine fs_lift (fun _ _ _ _ => lv_iconst (v := 0) hx hb d_Layout_has_0 (by decide)) ?_
  refine fs_liftL (fun _ _ _ _ => lv_istore_n (lv' := [(2, .int 0), (0, .ref a0), (1, .int x1)]) hx hb d_Layout_has_1 rfl hl (Nat.le_of_ble_eq_true rfl) rfl) (fun ls hl => ?_)
  refine fs_Jlp1 (nL := 3) (pc := 2) (rest := []) (I := fun (v1 : Int32) => [(0, .ref a0), (1, .int x1), (2, .int v1)]) (fun k2 hk2 v1 ls hl => ?_) _ _ _ (lv_sub hl [1, 2, 0] rfl)
  refine fs_lift (fun _ _ _ _ => lv_iload_n hx hb d_Layout_has_2 rfl (lv_at hl 2 rfl)) ?_
  refine fs_lift (fun _ _ _ _ => lv_aload_n hx hb d_Layout_has_3 rfl (lv_at hl 0 rfl)) ?_
  refine fs_Jgi S hG fs_in4 rfl 2 (Nat.le_of_ble_eq_true rfl) tw_1_86 (fun _ h9 => h9) d_Layout_has_4 (fun v2 => ?_)
  refine fs_if (fun _ _ _ _ => lv_icmp_ge hx hb d_Layout_has_7 rfl) ?_ ?_
  · refine fs_lift (fun _ _ _ _ => lv_iconst (v := 0) hx hb d_Layout_has_28 (by decide)) ?_
    exact fs_Jzret S hr hk rfl d_Layout_has_29
  · refine fs_lift (fun _ _ _ _ => lv_aload_n hx hb d_Layout_has_10 rfl (lv_at hl 0 rfl)) ?_
    refine fs_Jgr S hG fs_in4 rfl 0 (Nat.le_of_ble_eq_true rfl) tw_1_82 (fun _ h9 => h9) d_Layout_has_11 (fun r3 => ?_)
    refine fs_lift (fun _ _ _ _ => lv_iload_n hx hb d_Layout_has_14 rfl (lv_at hl 2 rfl)) ?_
    refine fs_Jai S hG d_Layout_has_15 (fun v4 => ?_)
    refine fs_lift (fun _ _ _ _ => lv_iload_n hx hb d_Layout_has_16 rfl (lv_at hl 1 rfl)) ?_
    refine fs_ifn (fun _ _ _ _ => lv_icmp_ne hx hb d_Layout_has_17 rfl) ?_ ?_
    · refine fs_lift (fun _ _ _ _ => lv_iconst (v := 1) hx hb d_Layout_has_20 (by decide)) ?_
      exact fs_Jzret S hr hk rfl d_Layout_has_21
    · refine fs_Jnm (fun v5 hv9 => ?_)
      refine fs_liftL (fun _ _ _ _ => lv_iinc (k := 2) (v := v5) (lv' := [(2, .int v5), (0, .ref a0), (1, .int x1)]) hx hb d_Layout_has_22 hl rfl (by rw [hv9]; rfl) (Nat.le_of_ble_eq_true rfl) rfl) (fun ls hl => ?_)
      refine fs_lift (fun _ _ _ _ => lv_goto hx hb d_Layout_has_25 rfl) ?_
      exact hk2 v5 ls (lv_sub hl [1, 2, 0] rfl)

theorem d_Layout_append_0 : decode prog_6_method_3_code 0 = .ok (.aload_n 0, 1) := by decide +kernel
theorem d_Layout_append_1 : decode prog_6_method_3_code 1 = .ok (.getfield 18, 3) := by decide +kernel
theorem d_Layout_append_4 : decode prog_6_method_3_code 4 = .ok (.bipush 8, 2) := by decide +kernel
theorem d_Layout_append_6 : decode prog_6_method_3_code 6 = .ok (.if_icmp .ge 33, 3) := by decide +kernel
theorem d_Layout_append_9 : decode prog_6_method_3_code 9 = .ok (.aload_n 0, 1) := by decide +kernel
theorem d_Layout_append_10 : decode prog_6_method_3_code 10 = .ok (.getfield 9, 3) := by decide +kernel
theorem d_Layout_append_13 : decode prog_6_method_3_code 13 = .ok (.aload_n 0, 1) := by decide +kernel
theorem d_Layout_append_14 : decode prog_6_method_3_code 14 = .ok (.getfield 18, 3) := by decide +kernel
theorem d_Layout_append_17 : decode prog_6_method_3_code 17 = .ok (.iload_n 1, 1) := by decide +kernel
theorem d_Layout_append_18 : decode prog_6_method_3_code 18 = .ok (.iastore, 1) := by decide +kernel
theorem d_Layout_append_19 : decode prog_6_method_3_code 19 = .ok (.aload_n 0, 1) := by decide +kernel
theorem d_Layout_append_20 : decode prog_6_method_3_code 20 = .ok (.getfield 15, 3) := by decide +kernel
theorem d_Layout_append_23 : decode prog_6_method_3_code 23 = .ok (.aload_n 0, 1) := by decide +kernel
theorem d_Layout_append_24 : decode prog_6_method_3_code 24 = .ok (.getfield 18, 3) := by decide +kernel
theorem d_Layout_append_27 : decode prog_6_method_3_code 27 = .ok (.iload_n 2, 1) := by decide +kernel
theorem d_Layout_append_28 : decode prog_6_method_3_code 28 = .ok (.iastore, 1) := by decide +kernel
theorem d_Layout_append_29 : decode prog_6_method_3_code 29 = .ok (.aload_n 0, 1) := by decide +kernel
theorem d_Layout_append_30 : decode prog_6_method_3_code 30 = .ok (.dup, 1) := by decide +kernel
theorem d_Layout_append_31 : decode prog_6_method_3_code 31 = .ok (.getfield 18, 3) := by decide +kernel
theorem d_Layout_append_34 : decode prog_6_method_3_code 34 = .ok (.iconst 1, 1) := by decide +kernel
theorem d_Layout_append_35 : decode prog_6_method_3_code 35 = .ok (.iadd, 1) := by decide +kernel
theorem d_Layout_append_36 : decode prog_6_method_3_code 36 = .ok (.putfield 18, 3) := by decide +kernel
theorem d_Layout_append_39 : decode prog_6_method_3_code 39 = .ok (.return_, 1) := by decide +kernel
theorem q_Layout_append : (⟨"FlowShelf$Layout", "append", "(II)V"⟩ : MethodName).cls ≠ "java/lang/invoke/MethodHandle" ∧ (⟨"FlowShelf$Layout", "append", "(II)V"⟩ : MethodName).cls ≠ "java/lang/invoke/VarHandle" ∧ (parseMethodDescriptor (⟨"FlowShelf$Layout", "append", "(II)V"⟩ : MethodName).desc).map (fun d => d.parameters.length) = some 2 := by decide +kernel
set_option maxHeartbeats 4000000 in
set_option maxRecDepth 100000 in
theorem m_Layout_append (X : fs_X) (l : Launch) (a0 : Nat) (x1 : Int32) (x2 : Int32) {r : Unit} {σ σF : fs_S} (h : (f_Layout_append a0 x1 x2).1 σ = some (r, σF)) : fs_Met X l ⟨"FlowShelf$Layout", "append", "(II)V"⟩ (Cond.code ⟨"FlowShelf$Layout", "append", "(II)V"⟩ prog_6_method_3_code 3 none) 0 0 [.ref a0, .int x1, .int x2] σ (fs_eV r) σF := by
  refine fs_ofW (by decide) ?_
  intro p e s m args below meth c s₁ B hml hT hv
  obtain ⟨rfl, hw0, hG⟩ := hv
  have hx := B.exec
  have hb := B.bytes
  have hr := B.returns
  have hk := B.notSynchronized
  have S : CallFix p m c prog_6_method_3_code 3 s _ fs_ws "FlowShelf$Layout" := ⟨B.exec, B.bytes, hml, findClass_of_methodNamed B.named, fun w hw => atoms_spec (ws := _ :: fs_ws) B.pre w (List.mem_cons_of_mem _ hw)⟩
  have hR := fs_hR (fr := 0) (lo := 0) ((f_Layout_append a0 x1 x2).2 _ _ _ h)
  have hl := lv_entry ([.ref a0, .int x1, .int x2]) (n := 3) (Nat.le_of_ble_eq_true rfl)
  rw [lg_entry_eq]
  generalize (lg_sl ([.ref a0, .int x1, .int x2]) ++ List.replicate (3 - (lg_sl ([.ref a0, .int x1, .int x2])).length) Slot.unset).toArray = ls at hl ⊢
  have hl : lv_has ls 3 [(0, .ref a0), (1, .int x1), (2, .int x2)] := hl
  refine (?_ : fs_J X p l e (fs_rm 0 0 σ σF) s m _ below meth c (fs_Q X below _ s (fs_eV r) σ σF) r σ σF (f_Layout_append a0 x1 x2) (F0 m 0 ls [])) σ s.heap [] 0 0 h hw0 va_S.rf rfl rfl
  clear h hw0
  unfold f_Layout_append
  refine fs_lift (fun _ _ _ _ => lv_aload_n hx hb d_Layout_append_0 rfl (lv_at hl 0 rfl)) ?_
  refine fs_Jgi S hG fs_in4 rfl 2 (Nat.le_of_ble_eq_true rfl) tw_1_86 (fun _ h9 => h9) d_Layout_append_1 (fun v1 => ?_)
  refine fs_lift (fun _ _ _ _ => lv_bipush (v := 8) hx hb d_Layout_append_4 (by decide)) ?_
  refine fs_if (fun _ _ _ _ => lv_icmp_ge hx hb d_Layout_append_6 rfl) ?_ ?_
  · exact fs_Jvret S hr hk rfl d_Layout_append_39
  · refine fs_lift (fun _ _ _ _ => lv_aload_n hx hb d_Layout_append_9 rfl (lv_at hl 0 rfl)) ?_
    refine fs_Jgr S hG fs_in4 rfl 0 (Nat.le_of_ble_eq_true rfl) tw_1_82 (fun _ h9 => h9) d_Layout_append_10 (fun r2 => ?_)
    refine fs_lift (fun _ _ _ _ => lv_aload_n hx hb d_Layout_append_13 rfl (lv_at hl 0 rfl)) ?_
    refine fs_Jgi S hG fs_in4 rfl 2 (Nat.le_of_ble_eq_true rfl) tw_1_86 (fun _ h9 => h9) d_Layout_append_14 (fun v3 => ?_)
    refine fs_lift (fun _ _ _ _ => lv_iload_n hx hb d_Layout_append_17 rfl (lv_at hl 1 rfl)) ?_
    refine fs_Jsi S hG d_Layout_append_18 ?_
    refine fs_lift (fun _ _ _ _ => lv_aload_n hx hb d_Layout_append_19 rfl (lv_at hl 0 rfl)) ?_
    refine fs_Jgr S hG fs_in4 rfl 1 (Nat.le_of_ble_eq_true rfl) tw_1_84 (fun _ h9 => h9) d_Layout_append_20 (fun r4 => ?_)
    refine fs_lift (fun _ _ _ _ => lv_aload_n hx hb d_Layout_append_23 rfl (lv_at hl 0 rfl)) ?_
    refine fs_Jgi S hG fs_in4 rfl 2 (Nat.le_of_ble_eq_true rfl) tw_1_86 (fun _ h9 => h9) d_Layout_append_24 (fun v5 => ?_)
    refine fs_lift (fun _ _ _ _ => lv_iload_n hx hb d_Layout_append_27 rfl (lv_at hl 2 rfl)) ?_
    refine fs_Jsi S hG d_Layout_append_28 ?_
    refine fs_lift (fun _ _ _ _ => lv_aload_n hx hb d_Layout_append_29 rfl (lv_at hl 0 rfl)) ?_
    refine fs_lift (fun _ _ _ _ => lv_dup hx hb d_Layout_append_30 rfl) ?_
    refine fs_Jgi S hG fs_in4 rfl 2 (Nat.le_of_ble_eq_true rfl) tw_1_86 (fun _ h9 => h9) d_Layout_append_31 (fun v6 => ?_)
    refine fs_lift (fun _ _ _ _ => lv_iconst (v := 1) hx hb d_Layout_append_34 (by decide)) ?_
    refine fs_lift (fun _ _ _ _ => lv_iadd hx hb d_Layout_append_35) ?_
    refine fs_Jput S hG fs_in4 rfl 2 (Nat.le_of_ble_eq_true rfl) tw_1_86 (fun _ h9 => h9) fs_Y4 fs_ty4 fs_nm4 (Or.inl rfl) rfl rfl d_Layout_append_36 ?_
    exact fs_Jvret S hr hk rfl d_Layout_append_39

theorem d_Exporter_nextSeal_0 : decode prog_4_method_11_code 0 = .ok (.aload_n 0, 1) := by decide +kernel
theorem d_Exporter_nextSeal_1 : decode prog_4_method_11_code 1 = .ok (.dup, 1) := by decide +kernel
theorem d_Exporter_nextSeal_2 : decode prog_4_method_11_code 2 = .ok (.getfield 94, 3) := by decide +kernel
theorem d_Exporter_nextSeal_5 : decode prog_4_method_11_code 5 = .ok (.iconst 1, 1) := by decide +kernel
theorem d_Exporter_nextSeal_6 : decode prog_4_method_11_code 6 = .ok (.iadd, 1) := by decide +kernel
theorem d_Exporter_nextSeal_7 : decode prog_4_method_11_code 7 = .ok (.putfield 94, 3) := by decide +kernel
theorem d_Exporter_nextSeal_10 : decode prog_4_method_11_code 10 = .ok (.aload_n 0, 1) := by decide +kernel
theorem d_Exporter_nextSeal_11 : decode prog_4_method_11_code 11 = .ok (.getfield 94, 3) := by decide +kernel
theorem d_Exporter_nextSeal_14 : decode prog_4_method_11_code 14 = .ok (.ireturn, 1) := by decide +kernel
theorem q_Exporter_nextSeal : (⟨"FlowShelf$Exporter", "nextSeal", "()I"⟩ : MethodName).cls ≠ "java/lang/invoke/MethodHandle" ∧ (⟨"FlowShelf$Exporter", "nextSeal", "()I"⟩ : MethodName).cls ≠ "java/lang/invoke/VarHandle" ∧ (parseMethodDescriptor (⟨"FlowShelf$Exporter", "nextSeal", "()I"⟩ : MethodName).desc).map (fun d => d.parameters.length) = some 0 := by decide +kernel
set_option maxHeartbeats 4000000 in
set_option maxRecDepth 100000 in
theorem m_Exporter_nextSeal (X : fs_X) (l : Launch) (a0 : Nat) {r : Int32} {σ σF : fs_S} (h : (f_Exporter_nextSeal a0).1 σ = some (r, σF)) : fs_Met X l ⟨"FlowShelf$Exporter", "nextSeal", "()I"⟩ (Cond.code ⟨"FlowShelf$Exporter", "nextSeal", "()I"⟩ prog_4_method_11_code 1 (some FieldType.int)) 0 0 [.ref a0] σ (fs_eI r) σF := by
  refine fs_ofW (by decide) ?_
  intro p e s m args below meth c s₁ B hml hT hv
  obtain ⟨rfl, hw0, hG⟩ := hv
  have hx := B.exec
  have hb := B.bytes
  have hr := B.returns
  have hk := B.notSynchronized
  have S : CallFix p m c prog_4_method_11_code 1 s _ fs_ws "FlowShelf$Exporter" := ⟨B.exec, B.bytes, hml, findClass_of_methodNamed B.named, fun w hw => atoms_spec (ws := _ :: fs_ws) B.pre w (List.mem_cons_of_mem _ hw)⟩
  have hR := fs_hR (fr := 0) (lo := 0) ((f_Exporter_nextSeal a0).2 _ _ _ h)
  have hl := lv_entry ([.ref a0]) (n := 1) (Nat.le_of_ble_eq_true rfl)
  rw [lg_entry_eq]
  generalize (lg_sl ([.ref a0]) ++ List.replicate (1 - (lg_sl ([.ref a0])).length) Slot.unset).toArray = ls at hl ⊢
  have hl : lv_has ls 1 [(0, .ref a0)] := hl
  refine (?_ : fs_J X p l e (fs_rm 0 0 σ σF) s m _ below meth c (fs_Q X below _ s (fs_eI r) σ σF) r σ σF (f_Exporter_nextSeal a0) (F0 m 0 ls [])) σ s.heap [] 0 0 h hw0 va_S.rf rfl rfl
  clear h hw0
  unfold f_Exporter_nextSeal
  refine fs_lift (fun _ _ _ _ => lv_aload_n hx hb d_Exporter_nextSeal_0 rfl (lv_at hl 0 rfl)) ?_
  refine fs_lift (fun _ _ _ _ => lv_dup hx hb d_Exporter_nextSeal_1 rfl) ?_
  refine fs_Jgi S hG fs_in1 rfl 8 (Nat.le_of_ble_eq_true rfl) tw_1_138 (fun _ h9 => h9) d_Exporter_nextSeal_2 (fun v1 => ?_)
  refine fs_lift (fun _ _ _ _ => lv_iconst (v := 1) hx hb d_Exporter_nextSeal_5 (by decide)) ?_
  refine fs_lift (fun _ _ _ _ => lv_iadd hx hb d_Exporter_nextSeal_6) ?_
  refine fs_Jput S hG fs_in1 rfl 8 (Nat.le_of_ble_eq_true rfl) tw_1_138 (fun _ h9 => h9) fs_Y1 fs_ty1 fs_nm1 (Or.inl rfl) rfl rfl d_Exporter_nextSeal_7 ?_
  refine fs_lift (fun _ _ _ _ => lv_aload_n hx hb d_Exporter_nextSeal_10 rfl (lv_at hl 0 rfl)) ?_
  refine fs_Jgi S hG fs_in1 rfl 8 (Nat.le_of_ble_eq_true rfl) tw_1_138 (fun _ h9 => h9) d_Exporter_nextSeal_11 (fun v2 => ?_)
  exact fs_Jiret S hr hk rfl d_Exporter_nextSeal_14

theorem d_Slot_putInForce_0 : decode prog_10_method_2_code 0 = .ok (.aload_n 0, 1) := by decide +kernel
theorem d_Slot_putInForce_1 : decode prog_10_method_2_code 1 = .ok (.getfield 16, 3) := by decide +kernel
theorem d_Slot_putInForce_4 : decode prog_10_method_2_code 4 = .ok (.astore_n 2, 1) := by decide +kernel
theorem d_Slot_putInForce_5 : decode prog_10_method_2_code 5 = .ok (.aload_n 0, 1) := by decide +kernel
theorem d_Slot_putInForce_6 : decode prog_10_method_2_code 6 = .ok (.aload_n 0, 1) := by decide +kernel
theorem d_Slot_putInForce_7 : decode prog_10_method_2_code 7 = .ok (.getfield 10, 3) := by decide +kernel
theorem d_Slot_putInForce_10 : decode prog_10_method_2_code 10 = .ok (.putfield 16, 3) := by decide +kernel
theorem d_Slot_putInForce_13 : decode prog_10_method_2_code 13 = .ok (.aload_n 0, 1) := by decide +kernel
theorem d_Slot_putInForce_14 : decode prog_10_method_2_code 14 = .ok (.aload_n 2, 1) := by decide +kernel
theorem d_Slot_putInForce_15 : decode prog_10_method_2_code 15 = .ok (.putfield 10, 3) := by decide +kernel
theorem d_Slot_putInForce_18 : decode prog_10_method_2_code 18 = .ok (.aload_n 0, 1) := by decide +kernel
theorem d_Slot_putInForce_19 : decode prog_10_method_2_code 19 = .ok (.getfield 10, 3) := by decide +kernel
theorem d_Slot_putInForce_22 : decode prog_10_method_2_code 22 = .ok (.iconst 0, 1) := by decide +kernel
theorem d_Slot_putInForce_23 : decode prog_10_method_2_code 23 = .ok (.putfield 23, 3) := by decide +kernel
theorem d_Slot_putInForce_26 : decode prog_10_method_2_code 26 = .ok (.aload_n 0, 1) := by decide +kernel
theorem d_Slot_putInForce_27 : decode prog_10_method_2_code 27 = .ok (.iconst 1, 1) := by decide +kernel
theorem d_Slot_putInForce_28 : decode prog_10_method_2_code 28 = .ok (.putfield 26, 3) := by decide +kernel
theorem d_Slot_putInForce_31 : decode prog_10_method_2_code 31 = .ok (.aload_n 0, 1) := by decide +kernel
theorem d_Slot_putInForce_32 : decode prog_10_method_2_code 32 = .ok (.dup, 1) := by decide +kernel
theorem d_Slot_putInForce_33 : decode prog_10_method_2_code 33 = .ok (.getfield 30, 3) := by decide +kernel
theorem d_Slot_putInForce_36 : decode prog_10_method_2_code 36 = .ok (.iconst 1, 1) := by decide +kernel
theorem d_Slot_putInForce_37 : decode prog_10_method_2_code 37 = .ok (.iadd, 1) := by decide +kernel
theorem d_Slot_putInForce_38 : decode prog_10_method_2_code 38 = .ok (.putfield 30, 3) := by decide +kernel
theorem d_Slot_putInForce_41 : decode prog_10_method_2_code 41 = .ok (.aload_n 0, 1) := by decide +kernel
theorem d_Slot_putInForce_42 : decode prog_10_method_2_code 42 = .ok (.iload_n 1, 1) := by decide +kernel
theorem d_Slot_putInForce_43 : decode prog_10_method_2_code 43 = .ok (.putfield 33, 3) := by decide +kernel
theorem d_Slot_putInForce_46 : decode prog_10_method_2_code 46 = .ok (.return_, 1) := by decide +kernel
theorem q_Slot_putInForce : (⟨"FlowShelf$Slot", "putInForce", "(I)V"⟩ : MethodName).cls ≠ "java/lang/invoke/MethodHandle" ∧ (⟨"FlowShelf$Slot", "putInForce", "(I)V"⟩ : MethodName).cls ≠ "java/lang/invoke/VarHandle" ∧ (parseMethodDescriptor (⟨"FlowShelf$Slot", "putInForce", "(I)V"⟩ : MethodName).desc).map (fun d => d.parameters.length) = some 1 := by decide +kernel
set_option maxHeartbeats 4000000 in
set_option maxRecDepth 100000 in
theorem m_Slot_putInForce (X : fs_X) (l : Launch) (a0 : Nat) (x1 : Int32) {r : Unit} {σ σF : fs_S} (h : (f_Slot_putInForce a0 x1).1 σ = some (r, σF)) : fs_Met X l ⟨"FlowShelf$Slot", "putInForce", "(I)V"⟩ (Cond.code ⟨"FlowShelf$Slot", "putInForce", "(I)V"⟩ prog_10_method_2_code 3 none) 0 0 [.ref a0, .int x1] σ (fs_eV r) σF := by
  refine fs_ofW (by decide) ?_
  intro p e s m args below meth c s₁ B hml hT hv
  obtain ⟨rfl, hw0, hG⟩ := hv
  have hx := B.exec
  have hb := B.bytes
  have hr := B.returns
  have hk := B.notSynchronized
  have S : CallFix p m c prog_10_method_2_code 3 s _ fs_ws "FlowShelf$Slot" := ⟨B.exec, B.bytes, hml, findClass_of_methodNamed B.named, fun w hw => atoms_spec (ws := _ :: fs_ws) B.pre w (List.mem_cons_of_mem _ hw)⟩
  have hR := fs_hR (fr := 0) (lo := 0) ((f_Slot_putInForce a0 x1).2 _ _ _ h)
  have hl := lv_entry ([.ref a0, .int x1]) (n := 3) (Nat.le_of_ble_eq_true rfl)
  rw [lg_entry_eq]
  generalize (lg_sl ([.ref a0, .int x1]) ++ List.replicate (3 - (lg_sl ([.ref a0, .int x1])).length) Slot.unset).toArray = ls at hl ⊢
  have hl : lv_has ls 3 [(0, .ref a0), (1, .int x1)] := hl
  refine (?_ : fs_J X p l e (fs_rm 0 0 σ σF) s m _ below meth c (fs_Q X below _ s (fs_eV r) σ σF) r σ σF (f_Slot_putInForce a0 x1) (F0 m 0 ls [])) σ s.heap [] 0 0 h hw0 va_S.rf rfl rfl
  clear h hw0
  unfold f_Slot_putInForce
  refine fs_lift (fun _ _ _ _ => lv_aload_n hx hb d_Slot_putInForce_0 rfl (lv_at hl 0 rfl)) ?_
  refine fs_Jgr S hG fs_in3 rfl 2 (Nat.le_of_ble_eq_true rfl) tw_1_102 (fun _ h9 => h9) d_Slot_putInForce_1 (fun r1 => ?_)
  refine fs_liftL (fun _ _ _ _ => lv_astore_n (lv' := [(2, .ref r1), (0, .ref a0), (1, .int x1)]) hx hb d_Slot_putInForce_4 rfl hl (Nat.le_of_ble_eq_true rfl) rfl) (fun ls hl => ?_)
  refine fs_lift (fun _ _ _ _ => lv_aload_n hx hb d_Slot_putInForce_5 rfl (lv_at hl 1 rfl)) ?_
  refine fs_lift (fun _ _ _ _ => lv_aload_n hx hb d_Slot_putInForce_6 rfl (lv_at hl 1 rfl)) ?_
  refine fs_Jgr S hG fs_in3 rfl 1 (Nat.le_of_ble_eq_true rfl) tw_1_100 (fun _ h9 => h9) d_Slot_putInForce_7 (fun r2 => ?_)
  refine fs_Jput S hG fs_in3 rfl 2 (Nat.le_of_ble_eq_true rfl) tw_1_102 (fun _ h9 => h9) fs_Y3 fs_ty3 fs_nm3 (Or.inl rfl) rfl rfl d_Slot_putInForce_10 ?_
  refine fs_lift (fun _ _ _ _ => lv_aload_n hx hb d_Slot_putInForce_13 rfl (lv_at hl 1 rfl)) ?_
  refine fs_lift (fun _ _ _ _ => lv_aload_n hx hb d_Slot_putInForce_14 rfl (lv_at hl 0 rfl)) ?_
  refine fs_Jput S hG fs_in3 rfl 1 (Nat.le_of_ble_eq_true rfl) tw_1_100 (fun _ h9 => h9) fs_Y3 fs_ty3 fs_nm3 (Or.inl rfl) rfl rfl d_Slot_putInForce_15 ?_
  refine fs_lift (fun _ _ _ _ => lv_aload_n hx hb d_Slot_putInForce_18 rfl (lv_at hl 1 rfl)) ?_
  refine fs_Jgr S hG fs_in3 rfl 1 (Nat.le_of_ble_eq_true rfl) tw_1_100 (fun _ h9 => h9) d_Slot_putInForce_19 (fun r3 => ?_)
  refine fs_lift (fun _ _ _ _ => lv_iconst (v := 0) hx hb d_Slot_putInForce_22 (by decide)) ?_
  refine fs_Jput S hG fs_in4 rfl 2 (Nat.le_of_ble_eq_true rfl) tw_1_87 (fun _ h9 => h9) fs_Y4 fs_ty4 fs_nm4 (Or.inl rfl) rfl rfl d_Slot_putInForce_23 ?_
  refine fs_lift (fun _ _ _ _ => lv_aload_n hx hb d_Slot_putInForce_26 rfl (lv_at hl 1 rfl)) ?_
  refine fs_lift (fun _ _ _ _ => lv_iconst (v := 1) hx hb d_Slot_putInForce_27 (by decide)) ?_
  refine fs_Jpz (fun hz9 => ?_)
  refine fs_Jput S hG fs_in3 rfl 3 (Nat.le_of_ble_eq_true rfl) tw_1_104 (fun _ h9 => h9) fs_Y3 fs_ty3 fs_nm3 (Or.inl rfl) (fs_nar hz9) rfl d_Slot_putInForce_28 ?_
  refine fs_lift (fun _ _ _ _ => lv_aload_n hx hb d_Slot_putInForce_31 rfl (lv_at hl 1 rfl)) ?_
  refine fs_lift (fun _ _ _ _ => lv_dup hx hb d_Slot_putInForce_32 rfl) ?_
  refine fs_Jgi S hG fs_in3 rfl 4 (Nat.le_of_ble_eq_true rfl) tw_1_107 (fun _ h9 => h9) d_Slot_putInForce_33 (fun v4 => ?_)
  refine fs_lift (fun _ _ _ _ => lv_iconst (v := 1) hx hb d_Slot_putInForce_36 (by decide)) ?_
  refine fs_lift (fun _ _ _ _ => lv_iadd hx hb d_Slot_putInForce_37) ?_
  refine fs_Jput S hG fs_in3 rfl 4 (Nat.le_of_ble_eq_true rfl) tw_1_107 (fun _ h9 => h9) fs_Y3 fs_ty3 fs_nm3 (Or.inl rfl) rfl rfl d_Slot_putInForce_38 ?_
  refine fs_lift (fun _ _ _ _ => lv_aload_n hx hb d_Slot_putInForce_41 rfl (lv_at hl 1 rfl)) ?_
  refine fs_lift (fun _ _ _ _ => lv_iload_n hx hb d_Slot_putInForce_42 rfl (lv_at hl 2 rfl)) ?_
  refine fs_Jput S hG fs_in3 rfl 5 (Nat.le_of_ble_eq_true rfl) tw_1_110 (fun _ h9 => h9) fs_Y3 fs_ty3 fs_nm3 (Or.inl rfl) rfl rfl d_Slot_putInForce_43 ?_
  exact fs_Jvret S hr hk rfl d_Slot_putInForce_46

theorem d_ArrayList_clear_0 : decode prog_29_method_40_code 0 = .ok (.aload_n 0, 1) := by decide +kernel
theorem d_ArrayList_clear_1 : decode prog_29_method_40_code 1 = .ok (.dup, 1) := by decide +kernel
theorem d_ArrayList_clear_2 : decode prog_29_method_40_code 2 = .ok (.getfield 63, 3) := by decide +kernel
theorem d_ArrayList_clear_5 : decode prog_29_method_40_code 5 = .ok (.iconst 1, 1) := by decide +kernel
theorem d_ArrayList_clear_6 : decode prog_29_method_40_code 6 = .ok (.iadd, 1) := by decide +kernel
theorem d_ArrayList_clear_7 : decode prog_29_method_40_code 7 = .ok (.putfield 63, 3) := by decide +kernel
theorem d_ArrayList_clear_10 : decode prog_29_method_40_code 10 = .ok (.aload_n 0, 1) := by decide +kernel
theorem d_ArrayList_clear_11 : decode prog_29_method_40_code 11 = .ok (.getfield 9, 3) := by decide +kernel
theorem d_ArrayList_clear_14 : decode prog_29_method_40_code 14 = .ok (.astore_n 1, 1) := by decide +kernel
theorem d_ArrayList_clear_15 : decode prog_29_method_40_code 15 = .ok (.aload_n 0, 1) := by decide +kernel
theorem d_ArrayList_clear_16 : decode prog_29_method_40_code 16 = .ok (.getfield 48, 3) := by decide +kernel
theorem d_ArrayList_clear_19 : decode prog_29_method_40_code 19 = .ok (.istore_n 2, 1) := by decide +kernel
theorem d_ArrayList_clear_20 : decode prog_29_method_40_code 20 = .ok (.aload_n 0, 1) := by decide +kernel
theorem d_ArrayList_clear_21 : decode prog_29_method_40_code 21 = .ok (.iconst 0, 1) := by decide +kernel
theorem d_ArrayList_clear_22 : decode prog_29_method_40_code 22 = .ok (.dup_x1, 1) := by decide +kernel
theorem d_ArrayList_clear_23 : decode prog_29_method_40_code 23 = .ok (.putfield 48, 3) := by decide +kernel
theorem d_ArrayList_clear_26 : decode prog_29_method_40_code 26 = .ok (.istore_n 3, 1) := by decide +kernel
theorem d_ArrayList_clear_27 : decode prog_29_method_40_code 27 = .ok (.iload_n 3, 1) := by decide +kernel
theorem d_ArrayList_clear_28 : decode prog_29_method_40_code 28 = .ok (.iload_n 2, 1) := by decide +kernel
theorem d_ArrayList_clear_29 : decode prog_29_method_40_code 29 = .ok (.if_icmp .ge 13, 3) := by decide +kernel
theorem d_ArrayList_clear_32 : decode prog_29_method_40_code 32 = .ok (.aload_n 1, 1) := by decide +kernel
theorem d_ArrayList_clear_33 : decode prog_29_method_40_code 33 = .ok (.iload_n 3, 1) := by decide +kernel
theorem d_ArrayList_clear_34 : decode prog_29_method_40_code 34 = .ok (.aconst_null, 1) := by decide +kernel
theorem d_ArrayList_clear_35 : decode prog_29_method_40_code 35 = .ok (.aastore, 1) := by decide +kernel
theorem d_ArrayList_clear_36 : decode prog_29_method_40_code 36 = .ok (.iinc 3 1, 3) := by decide +kernel
theorem d_ArrayList_clear_39 : decode prog_29_method_40_code 39 = .ok (.goto (-12), 3) := by decide +kernel
theorem d_ArrayList_clear_42 : decode prog_29_method_40_code 42 = .ok (.return_, 1) := by decide +kernel
theorem q_ArrayList_clear : (⟨"java/util/ArrayList", "clear", "()V"⟩ : MethodName).cls ≠ "java/lang/invoke/MethodHandle" ∧ (⟨"java/util/ArrayList", "clear", "()V"⟩ : MethodName).cls ≠ "java/lang/invoke/VarHandle" ∧ (parseMethodDescriptor (⟨"java/util/ArrayList", "clear", "()V"⟩ : MethodName).desc).map (fun d => d.parameters.length) = some 0 := by decide +kernel
set_option maxHeartbeats 4000000 in
set_option maxRecDepth 100000 in
theorem m_ArrayList_clear (X : fs_X) (l : Launch) (a0 : Nat) {r : Unit} {σ σF : fs_S} (h : (f_ArrayList_clear a0).1 σ = some (r, σF)) : fs_Met X l ⟨"java/util/ArrayList", "clear", "()V"⟩ (Cond.code ⟨"java/util/ArrayList", "clear", "()V"⟩ prog_29_method_40_code 4 none) 0 0 [.ref a0] σ (fs_eV r) σF := by
  refine fs_ofW (by decide) ?_
  intro p e s m args below meth c s₁ B hml hT hv
  obtain ⟨rfl, hw0, hG⟩ := hv
  have hx := B.exec
  have hb := B.bytes
  have hr := B.returns
  have hk := B.notSynchronized
  have S : CallFix p m c prog_29_method_40_code 4 s _ fs_ws "java/util/ArrayList" := ⟨B.exec, B.bytes, hml, findClass_of_methodNamed B.named, fun w hw => atoms_spec (ws := _ :: fs_ws) B.pre w (List.mem_cons_of_mem _ hw)⟩
  have hR := fs_hR (fr := 0) (lo := 0) ((f_ArrayList_clear a0).2 _ _ _ h)
  have hl := lv_entry ([.ref a0]) (n := 4) (Nat.le_of_ble_eq_true rfl)
  rw [lg_entry_eq]
  generalize (lg_sl ([.ref a0]) ++ List.replicate (4 - (lg_sl ([.ref a0])).length) Slot.unset).toArray = ls at hl ⊢
  have hl : lv_has ls 4 [(0, .ref a0)] := hl
  refine (?_ : fs_J X p l e (fs_rm 0 0 σ σF) s m _ below meth c (fs_Q X below _ s (fs_eV r) σ σF) r σ σF (f_ArrayList_clear a0) (F0 m 0 ls [])) σ s.heap [] 0 0 h hw0 va_S.rf rfl rfl
  clear h hw0
  unfold f_ArrayList_clear
  refine fs_lift (fun _ _ _ _ => lv_aload_n hx hb d_ArrayList_clear_0 rfl (lv_at hl 0 rfl)) ?_
  refine fs_lift (fun _ _ _ _ => lv_dup hx hb d_ArrayList_clear_1 rfl) ?_
  refine fs_Jgi S hG fs_in2 rfl 2 (Nat.le_of_ble_eq_true rfl) tw_1_60 (fun x9 h9 => u_same (S.2.2.2.2 _ tw_1_61) x9 h9) d_ArrayList_clear_2 (fun v1 => ?_)
  refine fs_lift (fun _ _ _ _ => lv_iconst (v := 1) hx hb d_ArrayList_clear_5 (by decide)) ?_
  refine fs_lift (fun _ _ _ _ => lv_iadd hx hb d_ArrayList_clear_6) ?_
  refine fs_Jput S hG fs_in2 rfl 2 (Nat.le_of_ble_eq_true rfl) tw_1_60 (fun x9 h9 => u_same (S.2.2.2.2 _ tw_1_61) x9 h9) fs_Y2 fs_ty2 fs_nm2 (Or.inl rfl) rfl rfl d_ArrayList_clear_7 ?_
  refine fs_lift (fun _ _ _ _ => lv_aload_n hx hb d_ArrayList_clear_10 rfl (lv_at hl 0 rfl)) ?_
  refine fs_Jgr S hG fs_in2 rfl 0 (Nat.le_of_ble_eq_true rfl) tw_1_57 (fun _ h9 => h9) d_ArrayList_clear_11 (fun r2 => ?_)
  refine fs_liftL (fun _ _ _ _ => lv_astore_n (lv' := [(1, .ref r2), (0, .ref a0)]) hx hb d_ArrayList_clear_14 rfl hl (Nat.le_of_ble_eq_true rfl) rfl) (fun ls hl => ?_)
  refine fs_lift (fun _ _ _ _ => lv_aload_n hx hb d_ArrayList_clear_15 rfl (lv_at hl 1 rfl)) ?_
  refine fs_Jgi S hG fs_in2 rfl 1 (Nat.le_of_ble_eq_true rfl) tw_1_58 (fun _ h9 => h9) d_ArrayList_clear_16 (fun v3 => ?_)
  refine fs_liftL (fun _ _ _ _ => lv_istore_n (lv' := [(2, .int v3), (1, .ref r2), (0, .ref a0)]) hx hb d_ArrayList_clear_19 rfl hl (Nat.le_of_ble_eq_true rfl) rfl) (fun ls hl => ?_)
  refine fs_lift (fun _ _ _ _ => lv_aload_n hx hb d_ArrayList_clear_20 rfl (lv_at hl 2 rfl)) ?_
  refine fs_lift (fun _ _ _ _ => lv_iconst (v := 0) hx hb d_ArrayList_clear_21 (by decide)) ?_
  refine fs_lift (fun _ _ _ _ => lv_dup_x1 hx hb d_ArrayList_clear_22 rfl rfl) ?_
  refine fs_Jput S hG fs_in2 rfl 1 (Nat.le_of_ble_eq_true rfl) tw_1_58 (fun _ h9 => h9) fs_Y2 fs_ty2 fs_nm2 (Or.inl rfl) rfl rfl d_ArrayList_clear_23 ?_
  refine fs_liftL (fun _ _ _ _ => lv_istore_n (lv' := [(3, .int 0), (2, .int v3), (1, .ref r2), (0, .ref a0)]) hx hb d_ArrayList_clear_26 rfl hl (Nat.le_of_ble_eq_true rfl) rfl) (fun ls hl => ?_)
  refine fs_Jlp1 (nL := 4) (pc := 27) (rest := []) (I := fun (v4 : Int32) => [(1, .ref r2), (2, .int v3), (3, .int v4)]) (fun k27 hk27 v4 ls hl => ?_) _ _ _ (lv_sub hl [2, 1, 0] rfl)
  refine fs_lift (fun _ _ _ _ => lv_iload_n hx hb d_ArrayList_clear_27 rfl (lv_at hl 2 rfl)) ?_
  refine fs_lift (fun _ _ _ _ => lv_iload_n hx hb d_ArrayList_clear_28 rfl (lv_at hl 1 rfl)) ?_
  refine fs_if (fun _ _ _ _ => lv_icmp_ge hx hb d_ArrayList_clear_29 rfl) ?_ ?_
  · exact fs_Jvret S hr hk rfl d_ArrayList_clear_42
  · refine fs_lift (fun _ _ _ _ => lv_aload_n hx hb d_ArrayList_clear_32 rfl (lv_at hl 0 rfl)) ?_
    refine fs_lift (fun _ _ _ _ => lv_iload_n hx hb d_ArrayList_clear_33 rfl (lv_at hl 2 rfl)) ?_
    refine fs_lift (fun _ _ _ _ => lv_null hx hb d_ArrayList_clear_34) ?_
    refine fs_Js0 S hG d_ArrayList_clear_35 ?_
    refine fs_Jnm (fun v5 hv9 => ?_)
    refine fs_liftL (fun _ _ _ _ => lv_iinc (k := 2) (v := v5) (lv' := [(3, .int v5), (1, .ref r2), (2, .int v3)]) hx hb d_ArrayList_clear_36 hl rfl (by rw [hv9]; rfl) (Nat.le_of_ble_eq_true rfl) rfl) (fun ls hl => ?_)
    refine fs_lift (fun _ _ _ _ => lv_goto hx hb d_ArrayList_clear_39 rfl) ?_
    exact hk27 v5 ls (lv_sub hl [1, 2, 0] rfl)

theorem d_Slot_forget_0 : decode prog_10_method_3_code 0 = .ok (.aload_n 0, 1) := by decide +kernel
theorem d_Slot_forget_1 : decode prog_10_method_3_code 1 = .ok (.getfield 10, 3) := by decide +kernel
theorem d_Slot_forget_4 : decode prog_10_method_3_code 4 = .ok (.iconst 0, 1) := by decide +kernel
theorem d_Slot_forget_5 : decode prog_10_method_3_code 5 = .ok (.putfield 23, 3) := by decide +kernel
theorem d_Slot_forget_8 : decode prog_10_method_3_code 8 = .ok (.aload_n 0, 1) := by decide +kernel
theorem d_Slot_forget_9 : decode prog_10_method_3_code 9 = .ok (.iconst 0, 1) := by decide +kernel
theorem d_Slot_forget_10 : decode prog_10_method_3_code 10 = .ok (.putfield 26, 3) := by decide +kernel
theorem d_Slot_forget_13 : decode prog_10_method_3_code 13 = .ok (.aload_n 0, 1) := by decide +kernel
theorem d_Slot_forget_14 : decode prog_10_method_3_code 14 = .ok (.iconst 0, 1) := by decide +kernel
theorem d_Slot_forget_15 : decode prog_10_method_3_code 15 = .ok (.putfield 30, 3) := by decide +kernel
theorem d_Slot_forget_18 : decode prog_10_method_3_code 18 = .ok (.return_, 1) := by decide +kernel
theorem q_Slot_forget : (⟨"FlowShelf$Slot", "forget", "()V"⟩ : MethodName).cls ≠ "java/lang/invoke/MethodHandle" ∧ (⟨"FlowShelf$Slot", "forget", "()V"⟩ : MethodName).cls ≠ "java/lang/invoke/VarHandle" ∧ (parseMethodDescriptor (⟨"FlowShelf$Slot", "forget", "()V"⟩ : MethodName).desc).map (fun d => d.parameters.length) = some 0 := by decide +kernel
set_option maxHeartbeats 4000000 in
set_option maxRecDepth 100000 in
theorem m_Slot_forget (X : fs_X) (l : Launch) (a0 : Nat) {r : Unit} {σ σF : fs_S} (h : (f_Slot_forget a0).1 σ = some (r, σF)) : fs_Met X l ⟨"FlowShelf$Slot", "forget", "()V"⟩ (Cond.code ⟨"FlowShelf$Slot", "forget", "()V"⟩ prog_10_method_3_code 1 none) 0 0 [.ref a0] σ (fs_eV r) σF := by
  refine fs_ofW (by decide) ?_
  intro p e s m args below meth c s₁ B hml hT hv
  obtain ⟨rfl, hw0, hG⟩ := hv
  have hx := B.exec
  have hb := B.bytes
  have hr := B.returns
  have hk := B.notSynchronized
  have S : CallFix p m c prog_10_method_3_code 1 s _ fs_ws "FlowShelf$Slot" := ⟨B.exec, B.bytes, hml, findClass_of_methodNamed B.named, fun w hw => atoms_spec (ws := _ :: fs_ws) B.pre w (List.mem_cons_of_mem _ hw)⟩
  have hR := fs_hR (fr := 0) (lo := 0) ((f_Slot_forget a0).2 _ _ _ h)
  have hl := lv_entry ([.ref a0]) (n := 1) (Nat.le_of_ble_eq_true rfl)
  rw [lg_entry_eq]
  generalize (lg_sl ([.ref a0]) ++ List.replicate (1 - (lg_sl ([.ref a0])).length) Slot.unset).toArray = ls at hl ⊢
  have hl : lv_has ls 1 [(0, .ref a0)] := hl
  refine (?_ : fs_J X p l e (fs_rm 0 0 σ σF) s m _ below meth c (fs_Q X below _ s (fs_eV r) σ σF) r σ σF (f_Slot_forget a0) (F0 m 0 ls [])) σ s.heap [] 0 0 h hw0 va_S.rf rfl rfl
  clear h hw0
  unfold f_Slot_forget
  refine fs_lift (fun _ _ _ _ => lv_aload_n hx hb d_Slot_forget_0 rfl (lv_at hl 0 rfl)) ?_
  refine fs_Jgr S hG fs_in3 rfl 1 (Nat.le_of_ble_eq_true rfl) tw_1_100 (fun _ h9 => h9) d_Slot_forget_1 (fun r1 => ?_)
  refine fs_lift (fun _ _ _ _ => lv_iconst (v := 0) hx hb d_Slot_forget_4 (by decide)) ?_
  refine fs_Jput S hG fs_in4 rfl 2 (Nat.le_of_ble_eq_true rfl) tw_1_87 (fun _ h9 => h9) fs_Y4 fs_ty4 fs_nm4 (Or.inl rfl) rfl rfl d_Slot_forget_5 ?_
  refine fs_lift (fun _ _ _ _ => lv_aload_n hx hb d_Slot_forget_8 rfl (lv_at hl 0 rfl)) ?_
  refine fs_lift (fun _ _ _ _ => lv_iconst (v := 0) hx hb d_Slot_forget_9 (by decide)) ?_
  refine fs_Jpz (fun hz9 => ?_)
  refine fs_Jput S hG fs_in3 rfl 3 (Nat.le_of_ble_eq_true rfl) tw_1_104 (fun _ h9 => h9) fs_Y3 fs_ty3 fs_nm3 (Or.inl rfl) (fs_nar hz9) rfl d_Slot_forget_10 ?_
  refine fs_lift (fun _ _ _ _ => lv_aload_n hx hb d_Slot_forget_13 rfl (lv_at hl 0 rfl)) ?_
  refine fs_lift (fun _ _ _ _ => lv_iconst (v := 0) hx hb d_Slot_forget_14 (by decide)) ?_
  refine fs_Jput S hG fs_in3 rfl 4 (Nat.le_of_ble_eq_true rfl) tw_1_107 (fun _ h9 => h9) fs_Y3 fs_ty3 fs_nm3 (Or.inl rfl) rfl rfl d_Slot_forget_15 ?_
  exact fs_Jvret S hr hk rfl d_Slot_forget_18

theorem d_Exporter_beginNextEpoch_0 : decode prog_4_method_13_code 0 = .ok (.aload_n 0, 1) := by decide +kernel
theorem d_Exporter_beginNextEpoch_1 : decode prog_4_method_13_code 1 = .ok (.dup, 1) := by decide +kernel
theorem d_Exporter_beginNextEpoch_2 : decode prog_4_method_13_code 2 = .ok (.getfield 104, 3) := by decide +kernel
theorem d_Exporter_beginNextEpoch_5 : decode prog_4_method_13_code 5 = .ok (.iconst 1, 1) := by decide +kernel
theorem d_Exporter_beginNextEpoch_6 : decode prog_4_method_13_code 6 = .ok (.iadd, 1) := by decide +kernel
theorem d_Exporter_beginNextEpoch_7 : decode prog_4_method_13_code 7 = .ok (.putfield 104, 3) := by decide +kernel
theorem d_Exporter_beginNextEpoch_10 : decode prog_4_method_13_code 10 = .ok (.aload_n 0, 1) := by decide +kernel
theorem d_Exporter_beginNextEpoch_11 : decode prog_4_method_13_code 11 = .ok (.getfield 12, 3) := by decide +kernel
theorem d_Exporter_beginNextEpoch_14 : decode prog_4_method_13_code 14 = .ok (.invokevirtual 107, 3) := by decide +kernel
theorem d_Exporter_beginNextEpoch_17 : decode prog_4_method_13_code 17 = .ok (.aload_n 0, 1) := by decide +kernel
theorem d_Exporter_beginNextEpoch_18 : decode prog_4_method_13_code 18 = .ok (.getfield 18, 3) := by decide +kernel
theorem d_Exporter_beginNextEpoch_21 : decode prog_4_method_13_code 21 = .ok (.invokevirtual 107, 3) := by decide +kernel
theorem d_Exporter_beginNextEpoch_24 : decode prog_4_method_13_code 24 = .ok (.iconst 0, 1) := by decide +kernel
theorem d_Exporter_beginNextEpoch_25 : decode prog_4_method_13_code 25 = .ok (.istore_n 1, 1) := by decide +kernel
theorem d_Exporter_beginNextEpoch_26 : decode prog_4_method_13_code 26 = .ok (.iload_n 1, 1) := by decide +kernel
theorem d_Exporter_beginNextEpoch_27 : decode prog_4_method_13_code 27 = .ok (.iconst 3, 1) := by decide +kernel
theorem d_Exporter_beginNextEpoch_28 : decode prog_4_method_13_code 28 = .ok (.if_icmp .ge 18, 3) := by decide +kernel
theorem d_Exporter_beginNextEpoch_31 : decode prog_4_method_13_code 31 = .ok (.aload_n 0, 1) := by decide +kernel
theorem d_Exporter_beginNextEpoch_32 : decode prog_4_method_13_code 32 = .ok (.getfield 23, 3) := by decide +kernel
theorem d_Exporter_beginNextEpoch_35 : decode prog_4_method_13_code 35 = .ok (.iload_n 1, 1) := by decide +kernel
theorem d_Exporter_beginNextEpoch_36 : decode prog_4_method_13_code 36 = .ok (.aaload, 1) := by decide +kernel
theorem d_Exporter_beginNextEpoch_37 : decode prog_4_method_13_code 37 = .ok (.invokevirtual 110, 3) := by decide +kernel
theorem d_Exporter_beginNextEpoch_40 : decode prog_4_method_13_code 40 = .ok (.iinc 1 1, 3) := by decide +kernel
theorem d_Exporter_beginNextEpoch_43 : decode prog_4_method_13_code 43 = .ok (.goto (-17), 3) := by decide +kernel
theorem d_Exporter_beginNextEpoch_46 : decode prog_4_method_13_code 46 = .ok (.aload_n 0, 1) := by decide +kernel
theorem d_Exporter_beginNextEpoch_47 : decode prog_4_method_13_code 47 = .ok (.iconst 1, 1) := by decide +kernel
theorem d_Exporter_beginNextEpoch_48 : decode prog_4_method_13_code 48 = .ok (.invokevirtual 113, 3) := by decide +kernel
theorem d_Exporter_beginNextEpoch_51 : decode prog_4_method_13_code 51 = .ok (.aload_n 0, 1) := by decide +kernel
theorem d_Exporter_beginNextEpoch_52 : decode prog_4_method_13_code 52 = .ok (.iconst 0, 1) := by decide +kernel
theorem d_Exporter_beginNextEpoch_53 : decode prog_4_method_13_code 53 = .ok (.putfield 116, 3) := by decide +kernel
theorem d_Exporter_beginNextEpoch_56 : decode prog_4_method_13_code 56 = .ok (.aload_n 0, 1) := by decide +kernel
theorem d_Exporter_beginNextEpoch_57 : decode prog_4_method_13_code 57 = .ok (.iconst 0, 1) := by decide +kernel
theorem d_Exporter_beginNextEpoch_58 : decode prog_4_method_13_code 58 = .ok (.putfield 119, 3) := by decide +kernel
theorem d_Exporter_beginNextEpoch_61 : decode prog_4_method_13_code 61 = .ok (.return_, 1) := by decide +kernel
theorem q_Exporter_beginNextEpoch : (⟨"FlowShelf$Exporter", "beginNextEpoch", "()V"⟩ : MethodName).cls ≠ "java/lang/invoke/MethodHandle" ∧ (⟨"FlowShelf$Exporter", "beginNextEpoch", "()V"⟩ : MethodName).cls ≠ "java/lang/invoke/VarHandle" ∧ (parseMethodDescriptor (⟨"FlowShelf$Exporter", "beginNextEpoch", "()V"⟩ : MethodName).desc).map (fun d => d.parameters.length) = some 0 := by decide +kernel
set_option maxHeartbeats 4000000 in
set_option maxRecDepth 100000 in
theorem m_Exporter_beginNextEpoch (X : fs_X) (l : Launch) (a0 : Nat) {r : Unit} {σ σF : fs_S} (h : (f_Exporter_beginNextEpoch a0).1 σ = some (r, σF)) : fs_Met X l ⟨"FlowShelf$Exporter", "beginNextEpoch", "()V"⟩ (Cond.code ⟨"FlowShelf$Exporter", "beginNextEpoch", "()V"⟩ prog_4_method_13_code 2 none) 1 23 [.ref a0] σ (fs_eV r) σF := by
  refine fs_ofW (by decide) ?_
  intro p e s m args below meth c s₁ B hml hT hv
  obtain ⟨rfl, hw0, hG⟩ := hv
  have hx := B.exec
  have hb := B.bytes
  have hr := B.returns
  have hk := B.notSynchronized
  have S : CallFix p m c prog_4_method_13_code 2 s _ fs_ws "FlowShelf$Exporter" := ⟨B.exec, B.bytes, hml, findClass_of_methodNamed B.named, fun w hw => atoms_spec (ws := _ :: fs_ws) B.pre w (List.mem_cons_of_mem _ hw)⟩
  have hR := fs_hR (fr := 1) (lo := 23) ((f_Exporter_beginNextEpoch a0).2 _ _ _ h)
  have hl := lv_entry ([.ref a0]) (n := 2) (Nat.le_of_ble_eq_true rfl)
  rw [lg_entry_eq]
  generalize (lg_sl ([.ref a0]) ++ List.replicate (2 - (lg_sl ([.ref a0])).length) Slot.unset).toArray = ls at hl ⊢
  have hl : lv_has ls 2 [(0, .ref a0)] := hl
  refine (?_ : fs_J X p l e (fs_rm 1 23 σ σF) s m _ below meth c (fs_Q X below _ s (fs_eV r) σ σF) r σ σF (f_Exporter_beginNextEpoch a0) (F0 m 0 ls [])) σ s.heap [] 0 0 h hw0 va_S.rf rfl rfl
  clear h hw0
  unfold f_Exporter_beginNextEpoch
  refine fs_lift (fun _ _ _ _ => lv_aload_n hx hb d_Exporter_beginNextEpoch_0 rfl (lv_at hl 0 rfl)) ?_
  refine fs_lift (fun _ _ _ _ => lv_dup hx hb d_Exporter_beginNextEpoch_1 rfl) ?_
  refine fs_Jgi S hG fs_in1 rfl 5 (Nat.le_of_ble_eq_true rfl) tw_1_135 (fun _ h9 => h9) d_Exporter_beginNextEpoch_2 (fun v1 => ?_)
  refine fs_lift (fun _ _ _ _ => lv_iconst (v := 1) hx hb d_Exporter_beginNextEpoch_5 (by decide)) ?_
  refine fs_lift (fun _ _ _ _ => lv_iadd hx hb d_Exporter_beginNextEpoch_6) ?_
  refine fs_Jput S hG fs_in1 rfl 5 (Nat.le_of_ble_eq_true rfl) tw_1_135 (fun _ h9 => h9) fs_Y1 fs_ty1 fs_nm1 (Or.inl rfl) rfl rfl d_Exporter_beginNextEpoch_7 ?_
  refine fs_lift (fun _ _ _ _ => lv_aload_n hx hb d_Exporter_beginNextEpoch_10 rfl (lv_at hl 0 rfl)) ?_
  refine fs_Jgr S hG fs_in1 rfl 1 (Nat.le_of_ble_eq_true rfl) tw_1_126 (fun _ h9 => h9) d_Exporter_beginNextEpoch_11 (fun r2 => ?_)
  refine fs_JV S hG hR rfl [] (enc := fun _ => none) (fun zr zs zt zh => m_ArrayList_clear X l r2 zh) tw_3_194 tw_3_195 tw_3_196 tw_3_197 tw_1_5 q_ArrayList_clear ⟨(Nat.le_of_ble_eq_true rfl), (Nat.le_of_ble_eq_true rfl)⟩ hl.1 rfl (Nat.le_of_ble_eq_true rfl) d_Exporter_beginNextEpoch_14 (fun _ => ?_)
  refine fs_Jeq (g2 := F0 m 17 ls []) rfl ?_
  refine fs_lift (fun _ _ _ _ => lv_aload_n hx hb d_Exporter_beginNextEpoch_17 rfl (lv_at hl 0 rfl)) ?_
  refine fs_Jgr S hG fs_in1 rfl 2 (Nat.le_of_ble_eq_true rfl) tw_1_128 (fun _ h9 => h9) d_Exporter_beginNextEpoch_18 (fun r3 => ?_)
  refine fs_JV S hG hR rfl [] (enc := fun _ => none) (fun zr zs zt zh => m_ArrayList_clear X l r3 zh) tw_3_194 tw_3_195 tw_3_196 tw_3_197 tw_1_5 q_ArrayList_clear ⟨(Nat.le_of_ble_eq_true rfl), (Nat.le_of_ble_eq_true rfl)⟩ hl.1 rfl (Nat.le_of_ble_eq_true rfl) d_Exporter_beginNextEpoch_21 (fun _ => ?_)
  refine fs_Jeq (g2 := F0 m 24 ls []) rfl ?_
  refine fs_lift (fun _ _ _ _ => lv_iconst (v := 0) hx hb d_Exporter_beginNextEpoch_24 (by decide)) ?_
  refine fs_liftL (fun _ _ _ _ => lv_istore_n (lv' := [(1, .int 0), (0, .ref a0)]) hx hb d_Exporter_beginNextEpoch_25 rfl hl (Nat.le_of_ble_eq_true rfl) rfl) (fun ls hl => ?_)
  refine fs_Jlp1 (nL := 2) (pc := 26) (rest := []) (I := fun (v4 : Int32) => [(0, .ref a0), (1, .int v4)]) (fun k26 hk26 v4 ls hl => ?_) _ _ _ (lv_sub hl [1, 0] rfl)
  refine fs_lift (fun _ _ _ _ => lv_iload_n hx hb d_Exporter_beginNextEpoch_26 rfl (lv_at hl 1 rfl)) ?_
  refine fs_lift (fun _ _ _ _ => lv_iconst (v := 3) hx hb d_Exporter_beginNextEpoch_27 (by decide)) ?_
  refine fs_if (fun _ _ _ _ => lv_icmp_ge hx hb d_Exporter_beginNextEpoch_28 rfl) ?_ ?_
  · refine fs_lift (fun _ _ _ _ => lv_aload_n hx hb d_Exporter_beginNextEpoch_46 rfl (lv_at hl 0 rfl)) ?_
    refine fs_lift (fun _ _ _ _ => lv_iconst (v := 1) hx hb d_Exporter_beginNextEpoch_47 (by decide)) ?_
    refine fs_JV S hG hR rfl [.int 1] (enc := fun _ => none) (fun zr zs zt zh => m_Exporter_sampleEvery X l a0 1 zh) tw_3_202 tw_3_97 tw_3_98 tw_3_99 tw_1_2 q_Exporter_sampleEvery ⟨(Nat.le_of_ble_eq_true rfl), (Nat.le_of_ble_eq_true rfl)⟩ hl.1 rfl (Nat.le_of_ble_eq_true rfl) d_Exporter_beginNextEpoch_48 (fun _ => ?_)
    refine fs_Jeq (g2 := F0 m 51 ls []) rfl ?_
    refine fs_lift (fun _ _ _ _ => lv_aload_n hx hb d_Exporter_beginNextEpoch_51 rfl (lv_at hl 0 rfl)) ?_
    refine fs_lift (fun _ _ _ _ => lv_iconst (v := 0) hx hb d_Exporter_beginNextEpoch_52 (by decide)) ?_
    refine fs_Jput S hG fs_in1 rfl 9 (Nat.le_of_ble_eq_true rfl) tw_1_140 (fun _ h9 => h9) fs_Y1 fs_ty1 fs_nm1 (Or.inl rfl) rfl rfl d_Exporter_beginNextEpoch_53 ?_
    refine fs_lift (fun _ _ _ _ => lv_aload_n hx hb d_Exporter_beginNextEpoch_56 rfl (lv_at hl 0 rfl)) ?_
    refine fs_lift (fun _ _ _ _ => lv_iconst (v := 0) hx hb d_Exporter_beginNextEpoch_57 (by decide)) ?_
    refine fs_Jput S hG fs_in1 rfl 10 (Nat.le_of_ble_eq_true rfl) tw_1_141 (fun _ h9 => h9) fs_Y1 fs_ty1 fs_nm1 (Or.inl rfl) rfl rfl d_Exporter_beginNextEpoch_58 ?_
    exact fs_Jvret S hr hk rfl d_Exporter_beginNextEpoch_61
  · refine fs_lift (fun _ _ _ _ => lv_aload_n hx hb d_Exporter_beginNextEpoch_31 rfl (lv_at hl 0 rfl)) ?_
    refine fs_Jgr S hG fs_in1 rfl 3 (Nat.le_of_ble_eq_true rfl) tw_1_130 (fun _ h9 => h9) d_Exporter_beginNextEpoch_32 (fun r5 => ?_)
    refine fs_lift (fun _ _ _ _ => lv_iload_n hx hb d_Exporter_beginNextEpoch_35 rfl (lv_at hl 1 rfl)) ?_
    refine fs_Jar S hG d_Exporter_beginNextEpoch_36 (fun r6 => ?_)
    refine fs_JV S hG hR rfl [] (enc := fun _ => none) (fun zr zs zt zh => m_Slot_forget X l r6 zh) tw_3_198 tw_3_199 tw_3_200 tw_3_201 tw_1_6 q_Slot_forget ⟨(Nat.le_of_ble_eq_true rfl), (Nat.le_of_ble_eq_true rfl)⟩ hl.1 rfl (Nat.le_of_ble_eq_true rfl) d_Exporter_beginNextEpoch_37 (fun _ => ?_)
    refine fs_Jeq (g2 := F0 m 40 ls []) rfl ?_
    refine fs_Jnm (fun v7 hv9 => ?_)
    refine fs_liftL (fun _ _ _ _ => lv_iinc (k := 1) (v := v7) (lv' := [(1, .int v7), (0, .ref a0)]) hx hb d_Exporter_beginNextEpoch_40 hl rfl (by rw [hv9]; rfl) (Nat.le_of_ble_eq_true rfl) rfl) (fun ls hl => ?_)
    refine fs_lift (fun _ _ _ _ => lv_goto hx hb d_Exporter_beginNextEpoch_43 rfl) ?_
    exact hk26 v7 ls (lv_sub hl [1, 0] rfl)

theorem d_Fs_hasNoRoomForReport_0 : decode prog_1_method_32_code 0 = .ok (.aload_n 0, 1) := by decide +kernel
theorem d_Fs_hasNoRoomForReport_1 : decode prog_1_method_32_code 1 = .ok (.getfield 24, 3) := by decide +kernel
theorem d_Fs_hasNoRoomForReport_4 : decode prog_1_method_32_code 4 = .ok (.invokevirtual 88, 3) := by decide +kernel
theorem d_Fs_hasNoRoomForReport_7 : decode prog_1_method_32_code 7 = .ok (.bipush 30, 2) := by decide +kernel
theorem d_Fs_hasNoRoomForReport_9 : decode prog_1_method_32_code 9 = .ok (.if_icmp .lt 7, 3) := by decide +kernel
theorem d_Fs_hasNoRoomForReport_12 : decode prog_1_method_32_code 12 = .ok (.iconst 1, 1) := by decide +kernel
theorem d_Fs_hasNoRoomForReport_13 : decode prog_1_method_32_code 13 = .ok (.goto 4, 3) := by decide +kernel
theorem d_Fs_hasNoRoomForReport_16 : decode prog_1_method_32_code 16 = .ok (.iconst 0, 1) := by decide +kernel
theorem d_Fs_hasNoRoomForReport_17 : decode prog_1_method_32_code 17 = .ok (.ireturn, 1) := by decide +kernel
theorem q_Fs_hasNoRoomForReport : (⟨"FlowShelf", "hasNoRoomForReport", "()Z"⟩ : MethodName).cls ≠ "java/lang/invoke/MethodHandle" ∧ (⟨"FlowShelf", "hasNoRoomForReport", "()Z"⟩ : MethodName).cls ≠ "java/lang/invoke/VarHandle" ∧ (parseMethodDescriptor (⟨"FlowShelf", "hasNoRoomForReport", "()Z"⟩ : MethodName).desc).map (fun d => d.parameters.length) = some 0 := by decide +kernel
set_option maxHeartbeats 4000000 in
set_option maxRecDepth 100000 in
theorem m_Fs_hasNoRoomForReport (X : fs_X) (l : Launch) (a0 : Nat) {r : Int32} {σ σF : fs_S} (h : (f_Fs_hasNoRoomForReport a0).1 σ = some (r, σF)) : fs_Met X l ⟨"FlowShelf", "hasNoRoomForReport", "()Z"⟩ (Cond.code ⟨"FlowShelf", "hasNoRoomForReport", "()Z"⟩ prog_1_method_32_code 1 (some FieldType.boolean)) 1 20 [.ref a0] σ (fs_eI r) σF := by
  refine fs_ofW (by decide) ?_
  intro p e s m args below meth c s₁ B hml hT hv
  obtain ⟨rfl, hw0, hG⟩ := hv
  have hx := B.exec
  have hb := B.bytes
  have hr := B.returns
  have hk := B.notSynchronized
  have S : CallFix p m c prog_1_method_32_code 1 s _ fs_ws "FlowShelf" := ⟨B.exec, B.bytes, hml, findClass_of_methodNamed B.named, fun w hw => atoms_spec (ws := _ :: fs_ws) B.pre w (List.mem_cons_of_mem _ hw)⟩
  have hR := fs_hR (fr := 1) (lo := 20) ((f_Fs_hasNoRoomForReport a0).2 _ _ _ h)
  have hl := lv_entry ([.ref a0]) (n := 1) (Nat.le_of_ble_eq_true rfl)
  rw [lg_entry_eq]
  generalize (lg_sl ([.ref a0]) ++ List.replicate (1 - (lg_sl ([.ref a0])).length) Slot.unset).toArray = ls at hl ⊢
  have hl : lv_has ls 1 [(0, .ref a0)] := hl
  refine (?_ : fs_J X p l e (fs_rm 1 20 σ σF) s m _ below meth c (fs_Q X below _ s (fs_eI r) σ σF) r σ σF (f_Fs_hasNoRoomForReport a0) (F0 m 0 ls [])) σ s.heap [] 0 0 h hw0 va_S.rf rfl rfl
  clear h hw0
  unfold f_Fs_hasNoRoomForReport
  refine fs_lift (fun _ _ _ _ => lv_aload_n hx hb d_Fs_hasNoRoomForReport_0 rfl (lv_at hl 0 rfl)) ?_
  refine fs_Jgr S hG fs_in0 rfl 2 (Nat.le_of_ble_eq_true rfl) tw_2_9 (fun _ h9 => h9) d_Fs_hasNoRoomForReport_1 (fun r1 => ?_)
  refine fs_JV S hG hR rfl [] (enc := fun r => some (.int r)) (fun zr zs zt zh => m_ArrayList_size X l r1 zh) tw_2_28 tw_2_29 tw_2_30 tw_2_31 tw_1_5 q_ArrayList_size ⟨(Nat.le_of_ble_eq_true rfl), (Nat.le_of_ble_eq_true rfl)⟩ hl.1 rfl (Nat.le_of_ble_eq_true rfl) d_Fs_hasNoRoomForReport_4 (fun v2 => ?_)
  refine fs_Jeq (g2 := F0 m 7 ls [.int v2]) rfl ?_
  refine fs_lift (fun _ _ _ _ => lv_bipush (v := 30) hx hb d_Fs_hasNoRoomForReport_7 (by decide)) ?_
  refine fs_if (fun _ _ _ _ => lv_icmp_lt hx hb d_Fs_hasNoRoomForReport_9 rfl) ?_ ?_
  · refine fs_lift (fun _ _ _ _ => lv_iconst (v := 0) hx hb d_Fs_hasNoRoomForReport_16 (by decide)) ?_
    exact fs_Jzret S hr hk rfl d_Fs_hasNoRoomForReport_17
  · refine fs_lift (fun _ _ _ _ => lv_iconst (v := 1) hx hb d_Fs_hasNoRoomForReport_12 (by decide)) ?_
    refine fs_lift (fun _ _ _ _ => lv_goto hx hb d_Fs_hasNoRoomForReport_13 rfl) ?_
    exact fs_Jzret S hr hk rfl d_Fs_hasNoRoomForReport_17

theorem d_Report_init_0_0 : decode prog_8_method_1_code 0 = .ok (.aload_n 0, 1) := by decide +kernel
theorem d_Report_init_0_1 : decode prog_8_method_1_code 1 = .ok (.invokespecial 3, 3) := by decide +kernel
theorem d_Report_init_0_4 : decode prog_8_method_1_code 4 = .ok (.aload_n 0, 1) := by decide +kernel
theorem d_Report_init_0_5 : decode prog_8_method_1_code 5 = .ok (.bipush 64, 2) := by decide +kernel
theorem d_Report_init_0_7 : decode prog_8_method_1_code 7 = .ok (.newarray .int, 2) := by decide +kernel
theorem d_Report_init_0_9 : decode prog_8_method_1_code 9 = .ok (.putfield 9, 3) := by decide +kernel
theorem d_Report_init_0_12 : decode prog_8_method_1_code 12 = .ok (.aload_n 0, 1) := by decide +kernel
theorem d_Report_init_0_13 : decode prog_8_method_1_code 13 = .ok (.getfield 9, 3) := by decide +kernel
theorem d_Report_init_0_16 : decode prog_8_method_1_code 16 = .ok (.iconst 0, 1) := by decide +kernel
theorem d_Report_init_0_17 : decode prog_8_method_1_code 17 = .ok (.iload_n 1, 1) := by decide +kernel
theorem d_Report_init_0_18 : decode prog_8_method_1_code 18 = .ok (.iastore, 1) := by decide +kernel
theorem d_Report_init_0_19 : decode prog_8_method_1_code 19 = .ok (.aload_n 0, 1) := by decide +kernel
theorem d_Report_init_0_20 : decode prog_8_method_1_code 20 = .ok (.getfield 9, 3) := by decide +kernel
theorem d_Report_init_0_23 : decode prog_8_method_1_code 23 = .ok (.iconst 1, 1) := by decide +kernel
theorem d_Report_init_0_24 : decode prog_8_method_1_code 24 = .ok (.iload_n 2, 1) := by decide +kernel
theorem d_Report_init_0_25 : decode prog_8_method_1_code 25 = .ok (.iastore, 1) := by decide +kernel
theorem d_Report_init_0_26 : decode prog_8_method_1_code 26 = .ok (.aload_n 0, 1) := by decide +kernel
theorem d_Report_init_0_27 : decode prog_8_method_1_code 27 = .ok (.getfield 9, 3) := by decide +kernel
theorem d_Report_init_0_30 : decode prog_8_method_1_code 30 = .ok (.iconst 2, 1) := by decide +kernel
theorem d_Report_init_0_31 : decode prog_8_method_1_code 31 = .ok (.iload_n 3, 1) := by decide +kernel
theorem d_Report_init_0_32 : decode prog_8_method_1_code 32 = .ok (.iastore, 1) := by decide +kernel
theorem d_Report_init_0_33 : decode prog_8_method_1_code 33 = .ok (.aload_n 0, 1) := by decide +kernel
theorem d_Report_init_0_34 : decode prog_8_method_1_code 34 = .ok (.iconst 3, 1) := by decide +kernel
theorem d_Report_init_0_35 : decode prog_8_method_1_code 35 = .ok (.putfield 15, 3) := by decide +kernel
theorem d_Report_init_0_38 : decode prog_8_method_1_code 38 = .ok (.return_, 1) := by decide +kernel
theorem q_Report_init_0 : (⟨"FlowShelf$Report", "<init>", "(III)V"⟩ : MethodName).cls ≠ "java/lang/invoke/MethodHandle" ∧ (⟨"FlowShelf$Report", "<init>", "(III)V"⟩ : MethodName).cls ≠ "java/lang/invoke/VarHandle" ∧ (parseMethodDescriptor (⟨"FlowShelf$Report", "<init>", "(III)V"⟩ : MethodName).desc).map (fun d => d.parameters.length) = some 3 := by decide +kernel
set_option maxHeartbeats 4000000 in
set_option maxRecDepth 100000 in
theorem m_Report_init_0 (X : fs_X) (l : Launch) (a0 : Nat) (x1 : Int32) (x2 : Int32) (x3 : Int32) {r : Unit} {σ σF : fs_S} (h : (f_Report_init_0 a0 x1 x2 x3).1 σ = some (r, σF)) : fs_Met X l ⟨"FlowShelf$Report", "<init>", "(III)V"⟩ (Cond.code ⟨"FlowShelf$Report", "<init>", "(III)V"⟩ prog_8_method_1_code 4 none) 1 12 [.ref a0, .int x1, .int x2, .int x3] σ (fs_eV r) σF := by
  refine fs_ofW (by decide) ?_
  intro p e s m args below meth c s₁ B hml hT hv
  obtain ⟨rfl, hw0, hG⟩ := hv
  have hx := B.exec
  have hb := B.bytes
  have hr := B.returns
  have hk := B.notSynchronized
  have hin : meth.name = "<init>" := (name_of_methodNamed B.named B.method).1
  have S : CallFix p m c prog_8_method_1_code 4 s _ fs_ws "FlowShelf$Report" := ⟨B.exec, B.bytes, hml, findClass_of_methodNamed B.named, fun w hw => atoms_spec (ws := _ :: fs_ws) B.pre w (List.mem_cons_of_mem _ hw)⟩
  have hR := fs_hR (fr := 1) (lo := 12) ((f_Report_init_0 a0 x1 x2 x3).2 _ _ _ h)
  have hl := lv_entry ([.ref a0, .int x1, .int x2, .int x3]) (n := 4) (Nat.le_of_ble_eq_true rfl)
  rw [lg_entry_eq]
  generalize (lg_sl ([.ref a0, .int x1, .int x2, .int x3]) ++ List.replicate (4 - (lg_sl ([.ref a0, .int x1, .int x2, .int x3])).length) Slot.unset).toArray = ls at hl ⊢
  have hl : lv_has ls 4 [(0, .ref a0), (1, .int x1), (2, .int x2), (3, .int x3)] := hl
  refine (?_ : fs_J X p l e (fs_rm 1 12 σ σF) s m _ below meth c (fs_Q X below _ s (fs_eV r) σ σF) r σ σF (f_Report_init_0 a0 x1 x2 x3) (F0 m 0 ls [])) σ s.heap [] 0 0 h hw0 va_S.rf rfl rfl
  clear h hw0
  unfold f_Report_init_0
  refine fs_lift (fun _ _ _ _ => lv_aload_n hx hb d_Report_init_0_0 rfl (lv_at hl 0 rfl)) ?_
  refine fs_JO S tw_3_224 tw_1_35 tw_1_36 hl.1 (Nat.le_of_ble_eq_true rfl) (Nat.le_of_ble_eq_true rfl) d_Report_init_0_1 ?_
  refine fs_Jeq (g2 := F0 m 4 ls []) rfl ?_
  refine fs_lift (fun _ _ _ _ => lv_aload_n hx hb d_Report_init_0_4 rfl (lv_at hl 0 rfl)) ?_
  refine fs_lift (fun _ _ _ _ => lv_bipush (v := 64) hx hb d_Report_init_0_5 (by decide)) ?_
  refine fs_Jwi S hG hR rfl tw_1_97 d_Report_init_0_7 (fun r1 => ?_)
  refine fs_Jput S hG fs_in9 rfl 0 (Nat.le_of_ble_eq_true rfl) tw_3_225 (fun _ h9 => h9) fs_Y9 fs_ty9 fs_nm9 (Or.inr ⟨rfl, hin, rfl⟩) rfl rfl d_Report_init_0_9 ?_
  refine fs_lift (fun _ _ _ _ => lv_aload_n hx hb d_Report_init_0_12 rfl (lv_at hl 0 rfl)) ?_
  refine fs_Jgr S hG fs_in9 rfl 0 (Nat.le_of_ble_eq_true rfl) tw_3_225 (fun _ h9 => h9) d_Report_init_0_13 (fun r2 => ?_)
  refine fs_lift (fun _ _ _ _ => lv_iconst (v := 0) hx hb d_Report_init_0_16 (by decide)) ?_
  refine fs_lift (fun _ _ _ _ => lv_iload_n hx hb d_Report_init_0_17 rfl (lv_at hl 1 rfl)) ?_
  refine fs_Jsi S hG d_Report_init_0_18 ?_
  refine fs_lift (fun _ _ _ _ => lv_aload_n hx hb d_Report_init_0_19 rfl (lv_at hl 0 rfl)) ?_
  refine fs_Jgr S hG fs_in9 rfl 0 (Nat.le_of_ble_eq_true rfl) tw_3_225 (fun _ h9 => h9) d_Report_init_0_20 (fun r3 => ?_)
  refine fs_lift (fun _ _ _ _ => lv_iconst (v := 1) hx hb d_Report_init_0_23 (by decide)) ?_
  refine fs_lift (fun _ _ _ _ => lv_iload_n hx hb d_Report_init_0_24 rfl (lv_at hl 2 rfl)) ?_
  refine fs_Jsi S hG d_Report_init_0_25 ?_
  refine fs_lift (fun _ _ _ _ => lv_aload_n hx hb d_Report_init_0_26 rfl (lv_at hl 0 rfl)) ?_
  refine fs_Jgr S hG fs_in9 rfl 0 (Nat.le_of_ble_eq_true rfl) tw_3_225 (fun _ h9 => h9) d_Report_init_0_27 (fun r4 => ?_)
  refine fs_lift (fun _ _ _ _ => lv_iconst (v := 2) hx hb d_Report_init_0_30 (by decide)) ?_
  refine fs_lift (fun _ _ _ _ => lv_iload_n hx hb d_Report_init_0_31 rfl (lv_at hl 3 rfl)) ?_
  refine fs_Jsi S hG d_Report_init_0_32 ?_
  refine fs_lift (fun _ _ _ _ => lv_aload_n hx hb d_Report_init_0_33 rfl (lv_at hl 0 rfl)) ?_
  refine fs_lift (fun _ _ _ _ => lv_iconst (v := 3) hx hb d_Report_init_0_34 (by decide)) ?_
  refine fs_Jput S hG fs_in9 rfl 1 (Nat.le_of_ble_eq_true rfl) tw_3_228 (fun _ h9 => h9) fs_Y9 fs_ty9 fs_nm9 (Or.inl rfl) rfl rfl d_Report_init_0_35 ?_
  exact fs_Jvret S hr hk rfl d_Report_init_0_38

theorem d_Report_append_0 : decode prog_8_method_3_code 0 = .ok (.aload_n 0, 1) := by decide +kernel
theorem d_Report_append_1 : decode prog_8_method_3_code 1 = .ok (.getfield 15, 3) := by decide +kernel
theorem d_Report_append_4 : decode prog_8_method_3_code 4 = .ok (.bipush 64, 2) := by decide +kernel
theorem d_Report_append_6 : decode prog_8_method_3_code 6 = .ok (.if_icmp .ge 27, 3) := by decide +kernel
theorem d_Report_append_9 : decode prog_8_method_3_code 9 = .ok (.aload_n 0, 1) := by decide +kernel
theorem d_Report_append_10 : decode prog_8_method_3_code 10 = .ok (.getfield 9, 3) := by decide +kernel
theorem d_Report_append_13 : decode prog_8_method_3_code 13 = .ok (.aload_n 0, 1) := by decide +kernel
theorem d_Report_append_14 : decode prog_8_method_3_code 14 = .ok (.getfield 15, 3) := by decide +kernel
theorem d_Report_append_17 : decode prog_8_method_3_code 17 = .ok (.iload_n 1, 1) := by decide +kernel
theorem d_Report_append_18 : decode prog_8_method_3_code 18 = .ok (.sipush 255, 3) := by decide +kernel
theorem d_Report_append_21 : decode prog_8_method_3_code 21 = .ok (.iand, 1) := by decide +kernel
theorem d_Report_append_22 : decode prog_8_method_3_code 22 = .ok (.iastore, 1) := by decide +kernel
theorem d_Report_append_23 : decode prog_8_method_3_code 23 = .ok (.aload_n 0, 1) := by decide +kernel
theorem d_Report_append_24 : decode prog_8_method_3_code 24 = .ok (.dup, 1) := by decide +kernel
theorem d_Report_append_25 : decode prog_8_method_3_code 25 = .ok (.getfield 15, 3) := by decide +kernel
theorem d_Report_append_28 : decode prog_8_method_3_code 28 = .ok (.iconst 1, 1) := by decide +kernel
theorem d_Report_append_29 : decode prog_8_method_3_code 29 = .ok (.iadd, 1) := by decide +kernel
theorem d_Report_append_30 : decode prog_8_method_3_code 30 = .ok (.putfield 15, 3) := by decide +kernel
theorem d_Report_append_33 : decode prog_8_method_3_code 33 = .ok (.return_, 1) := by decide +kernel
theorem q_Report_append : (⟨"FlowShelf$Report", "append", "(I)V"⟩ : MethodName).cls ≠ "java/lang/invoke/MethodHandle" ∧ (⟨"FlowShelf$Report", "append", "(I)V"⟩ : MethodName).cls ≠ "java/lang/invoke/VarHandle" ∧ (parseMethodDescriptor (⟨"FlowShelf$Report", "append", "(I)V"⟩ : MethodName).desc).map (fun d => d.parameters.length) = some 1 := by decide +kernel
set_option maxHeartbeats 4000000 in
set_option maxRecDepth 100000 in
theorem m_Report_append (X : fs_X) (l : Launch) (a0 : Nat) (x1 : Int32) {r : Unit} {σ σF : fs_S} (h : (f_Report_append a0 x1).1 σ = some (r, σF)) : fs_Met X l ⟨"FlowShelf$Report", "append", "(I)V"⟩ (Cond.code ⟨"FlowShelf$Report", "append", "(I)V"⟩ prog_8_method_3_code 2 none) 0 0 [.ref a0, .int x1] σ (fs_eV r) σF := by
  refine fs_ofW (by decide) ?_
  intro p e s m args below meth c s₁ B hml hT hv
  obtain ⟨rfl, hw0, hG⟩ := hv
  have hx := B.exec
  have hb := B.bytes
  have hr := B.returns
  have hk := B.notSynchronized
  have S : CallFix p m c prog_8_method_3_code 2 s _ fs_ws "FlowShelf$Report" := ⟨B.exec, B.bytes, hml, findClass_of_methodNamed B.named, fun w hw => atoms_spec (ws := _ :: fs_ws) B.pre w (List.mem_cons_of_mem _ hw)⟩
  have hR := fs_hR (fr := 0) (lo := 0) ((f_Report_append a0 x1).2 _ _ _ h)
  have hl := lv_entry ([.ref a0, .int x1]) (n := 2) (Nat.le_of_ble_eq_true rfl)
  rw [lg_entry_eq]
  generalize (lg_sl ([.ref a0, .int x1]) ++ List.replicate (2 - (lg_sl ([.ref a0, .int x1])).length) Slot.unset).toArray = ls at hl ⊢
  have hl : lv_has ls 2 [(0, .ref a0), (1, .int x1)] := hl
  refine (?_ : fs_J X p l e (fs_rm 0 0 σ σF) s m _ below meth c (fs_Q X below _ s (fs_eV r) σ σF) r σ σF (f_Report_append a0 x1) (F0 m 0 ls [])) σ s.heap [] 0 0 h hw0 va_S.rf rfl rfl
  clear h hw0
  unfold f_Report_append
  refine fs_lift (fun _ _ _ _ => lv_aload_n hx hb d_Report_append_0 rfl (lv_at hl 0 rfl)) ?_
  refine fs_Jgi S hG fs_in9 rfl 1 (Nat.le_of_ble_eq_true rfl) tw_3_228 (fun _ h9 => h9) d_Report_append_1 (fun v1 => ?_)
  refine fs_lift (fun _ _ _ _ => lv_bipush (v := 64) hx hb d_Report_append_4 (by decide)) ?_
  refine fs_if (fun _ _ _ _ => lv_icmp_ge hx hb d_Report_append_6 rfl) ?_ ?_
  · exact fs_Jvret S hr hk rfl d_Report_append_33
  · refine fs_lift (fun _ _ _ _ => lv_aload_n hx hb d_Report_append_9 rfl (lv_at hl 0 rfl)) ?_
    refine fs_Jgr S hG fs_in9 rfl 0 (Nat.le_of_ble_eq_true rfl) tw_3_225 (fun _ h9 => h9) d_Report_append_10 (fun r2 => ?_)
    refine fs_lift (fun _ _ _ _ => lv_aload_n hx hb d_Report_append_13 rfl (lv_at hl 0 rfl)) ?_
    refine fs_Jgi S hG fs_in9 rfl 1 (Nat.le_of_ble_eq_true rfl) tw_3_228 (fun _ h9 => h9) d_Report_append_14 (fun v3 => ?_)
    refine fs_lift (fun _ _ _ _ => lv_iload_n hx hb d_Report_append_17 rfl (lv_at hl 1 rfl)) ?_
    refine fs_lift (fun _ _ _ _ => lv_sipush (v := 255) hx hb d_Report_append_18 (by decide)) ?_
    refine fs_lift (fun _ _ _ _ => lv_iand hx hb d_Report_append_21) ?_
    refine fs_Jsi S hG d_Report_append_22 ?_
    refine fs_lift (fun _ _ _ _ => lv_aload_n hx hb d_Report_append_23 rfl (lv_at hl 0 rfl)) ?_
    refine fs_lift (fun _ _ _ _ => lv_dup hx hb d_Report_append_24 rfl) ?_
    refine fs_Jgi S hG fs_in9 rfl 1 (Nat.le_of_ble_eq_true rfl) tw_3_228 (fun _ h9 => h9) d_Report_append_25 (fun v4 => ?_)
    refine fs_lift (fun _ _ _ _ => lv_iconst (v := 1) hx hb d_Report_append_28 (by decide)) ?_
    refine fs_lift (fun _ _ _ _ => lv_iadd hx hb d_Report_append_29) ?_
    refine fs_Jput S hG fs_in9 rfl 1 (Nat.le_of_ble_eq_true rfl) tw_3_228 (fun _ h9 => h9) fs_Y9 fs_ty9 fs_nm9 (Or.inl rfl) rfl rfl d_Report_append_30 ?_
    exact fs_Jvret S hr hk rfl d_Report_append_33

