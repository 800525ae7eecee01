/-! contracts of methods, walked by program -/
theorem d_ArrayList_grow_0_0 : decode prog_29_method_7_code 0 = .ok (.aload_n 0, 1) := by decide +kernel
theorem d_ArrayList_grow_0_1 : decode prog_29_method_7_code 1 = .ok (.aload_n 0, 1) := by decide +kernel
theorem d_ArrayList_grow_0_2 : decode prog_29_method_7_code 2 = .ok (.getfield 48, 3) := by decide +kernel
theorem d_ArrayList_grow_0_5 : decode prog_29_method_7_code 5 = .ok (.iconst 1, 1) := by decide +kernel
theorem d_ArrayList_grow_0_6 : decode prog_29_method_7_code 6 = .ok (.iadd, 1) := by decide +kernel
theorem d_ArrayList_grow_0_7 : decode prog_29_method_7_code 7 = .ok (.invokevirtual 69, 3) := by decide +kernel
theorem d_ArrayList_grow_0_10 : decode prog_29_method_7_code 10 = .ok (.areturn, 1) := by decide +kernel
theorem q_ArrayList_grow_0 : (⟨"java/util/ArrayList", "grow", "()[Ljava/lang/Object;"⟩ : MethodName).cls ≠ "java/lang/invoke/MethodHandle" ∧ (⟨"java/util/ArrayList", "grow", "()[Ljava/lang/Object;"⟩ : MethodName).cls ≠ "java/lang/invoke/VarHandle" ∧ (parseMethodDescriptor (⟨"java/util/ArrayList", "grow", "()[Ljava/lang/Object;"⟩ : MethodName).desc).map (fun d => d.parameters.length) = some 0 := by decide +kernel
set_option maxHeartbeats 4000000 in
set_option maxRecDepth 100000 in
theorem m_ArrayList_grow_0 (X : fs_X) (l : Launch) (a0 : Nat) {r : Nat} {σ σF : fs_S} (h : (f_ArrayList_grow_0 a0).1 σ = some (r, σF)) : fs_Met X l ⟨"java/util/ArrayList", "grow", "()[Ljava/lang/Object;"⟩ (Cond.code ⟨"java/util/ArrayList", "grow", "()[Ljava/lang/Object;"⟩ prog_29_method_7_code 1 (some (FieldType.array (FieldType.object "java/lang/Object")))) 4 127 [.ref a0] σ (fs_eR r) σF := by
  refine fs_ofW (by decide) ?_
  intro p e s m args below meth c s₁ B hml hT hv
  obtain ⟨rfl, hw0, hG⟩ := hv
  have hx := B.exec
  have hb := B.bytes
  have hr := B.returns
  have hk := B.notSynchronized
  have S : CallFix p m c prog_29_method_7_code 1 s _ fs_ws "java/util/ArrayList" := ⟨B.exec, B.bytes, hml, findClass_of_methodNamed B.named, fun w hw => atoms_spec (ws := _ :: fs_ws) B.pre w (List.mem_cons_of_mem _ hw)⟩
  have hR := fs_hR (fr := 4) (lo := 127) ((f_ArrayList_grow_0 a0).2 _ _ _ h)
  have hl := lv_entry ([.ref a0]) (n := 1) (Nat.le_of_ble_eq_true rfl)
  rw [lg_entry_eq]
  generalize (lg_sl ([.ref a0]) ++ List.replicate (1 - (lg_sl ([.ref a0])).length) Slot.unset).toArray = ls at hl ⊢
  have hl : lv_has ls 1 [(0, .ref a0)] := hl
  refine (?_ : fs_J X p l e (fs_rm 4 127 σ σF) s m _ below meth c (fs_Q X below _ s (fs_eR r) σ σF) r σ σF (f_ArrayList_grow_0 a0) (F0 m 0 ls [])) σ s.heap [] 0 0 h hw0 va_S.rf rfl rfl
  clear h hw0
  unfold f_ArrayList_grow_0
  refine fs_lift (fun _ _ _ _ => lv_aload_n hx hb d_ArrayList_grow_0_0 rfl (lv_at hl 0 rfl)) ?_
  refine fs_lift (fun _ _ _ _ => lv_aload_n hx hb d_ArrayList_grow_0_1 rfl (lv_at hl 0 rfl)) ?_
  refine fs_Jgi S hG fs_in2 rfl 1 (Nat.le_of_ble_eq_true rfl) tw_1_58 (fun _ h9 => h9) d_ArrayList_grow_0_2 (fun v1 => ?_)
  refine fs_lift (fun _ _ _ _ => lv_iconst (v := 1) hx hb d_ArrayList_grow_0_5 (by decide)) ?_
  refine fs_lift (fun _ _ _ _ => lv_iadd hx hb d_ArrayList_grow_0_6) ?_
  refine fs_JV S hG hR rfl [.int (v1 + 1)] (enc := fun r => some (.ref r)) (fun zr zs zt zh => m_ArrayList_grow_1 X l a0 (v1 + 1) zh) tw_2_211 tw_2_213 tp_1_6 tw_2_214 tw_1_5 q_ArrayList_grow_1 ⟨(Nat.le_of_ble_eq_true rfl), (Nat.le_of_ble_eq_true rfl)⟩ hl.1 rfl (Nat.le_of_ble_eq_true rfl) d_ArrayList_grow_0_7 (fun r2 => ?_)
  refine fs_Jeq (g2 := F0 m 10 ls [.ref r2]) rfl ?_
  exact fs_Jaret S hr (Or.inr ⟨_, rfl⟩) hk rfl d_ArrayList_grow_0_10

theorem d_ArrayList_add_1_0 : decode prog_29_method_24_code 0 = .ok (.iload_n 3, 1) := by decide +kernel
theorem d_ArrayList_add_1_1 : decode prog_29_method_24_code 1 = .ok (.aload_n 2, 1) := by decide +kernel
theorem d_ArrayList_add_1_2 : decode prog_29_method_24_code 2 = .ok (.arraylength, 1) := by decide +kernel
theorem d_ArrayList_add_1_3 : decode prog_29_method_24_code 3 = .ok (.if_icmp .ne 8, 3) := by decide +kernel
theorem d_ArrayList_add_1_6 : decode prog_29_method_24_code 6 = .ok (.aload_n 0, 1) := by decide +kernel
theorem d_ArrayList_add_1_7 : decode prog_29_method_24_code 7 = .ok (.invokevirtual 129, 3) := by decide +kernel
theorem d_ArrayList_add_1_10 : decode prog_29_method_24_code 10 = .ok (.astore_n 2, 1) := by decide +kernel
theorem d_ArrayList_add_1_11 : decode prog_29_method_24_code 11 = .ok (.aload_n 2, 1) := by decide +kernel
theorem d_ArrayList_add_1_12 : decode prog_29_method_24_code 12 = .ok (.iload_n 3, 1) := by decide +kernel
theorem d_ArrayList_add_1_13 : decode prog_29_method_24_code 13 = .ok (.aload_n 1, 1) := by decide +kernel
theorem d_ArrayList_add_1_14 : decode prog_29_method_24_code 14 = .ok (.aastore, 1) := by decide +kernel
theorem d_ArrayList_add_1_15 : decode prog_29_method_24_code 15 = .ok (.aload_n 0, 1) := by decide +kernel
theorem d_ArrayList_add_1_16 : decode prog_29_method_24_code 16 = .ok (.iload_n 3, 1) := by decide +kernel
theorem d_ArrayList_add_1_17 : decode prog_29_method_24_code 17 = .ok (.iconst 1, 1) := by decide +kernel
theorem d_ArrayList_add_1_18 : decode prog_29_method_24_code 18 = .ok (.iadd, 1) := by decide +kernel
theorem d_ArrayList_add_1_19 : decode prog_29_method_24_code 19 = .ok (.putfield 48, 3) := by decide +kernel
theorem d_ArrayList_add_1_22 : decode prog_29_method_24_code 22 = .ok (.return_, 1) := by decide +kernel
theorem q_ArrayList_add_1 : (⟨"java/util/ArrayList", "add", "(Ljava/lang/Object;[Ljava/lang/Object;I)V"⟩ : MethodName).cls ≠ "java/lang/invoke/MethodHandle" ∧ (⟨"java/util/ArrayList", "add", "(Ljava/lang/Object;[Ljava/lang/Object;I)V"⟩ : MethodName).cls ≠ "java/lang/invoke/VarHandle" ∧ (parseMethodDescriptor (⟨"java/util/ArrayList", "add", "(Ljava/lang/Object;[Ljava/lang/Object;I)V"⟩ : MethodName).desc).map (fun d => d.parameters.length) = some 3 := by decide +kernel
set_option maxHeartbeats 4000000 in
set_option maxRecDepth 100000 in
theorem m_ArrayList_add_1 (X : fs_X) (l : Launch) (a0 : Nat) (a1 : Nat) (a2 : Nat) (x3 : Int32) {r : Unit} {σ σF : fs_S} (h : (f_ArrayList_add_1 a0 a1 a2 x3).1 σ = some (r, σF)) : fs_Met X l ⟨"java/util/ArrayList", "add", "(Ljava/lang/Object;[Ljava/lang/Object;I)V"⟩ (Cond.code ⟨"java/util/ArrayList", "add", "(Ljava/lang/Object;[Ljava/lang/Object;I)V"⟩ prog_29_method_24_code 4 none) 5 147 [.ref a0, .ref a1, .ref a2, .int x3] σ (fs_eV r) σF := by
  refine fs_ofW (by decide) ?_
  intro p e s m args below meth c s₁ B hml hT hv
  obtain ⟨rfl, hw0, hG⟩ := hv
  have hx := B.exec
  have hb := B.bytes
  have hr := B.returns
  have hk := B.notSynchronized
  have S : CallFix p m c prog_29_method_24_code 4 s _ fs_ws "java/util/ArrayList" := ⟨B.exec, B.bytes, hml, findClass_of_methodNamed B.named, fun w hw => atoms_spec (ws := _ :: fs_ws) B.pre w (List.mem_cons_of_mem _ hw)⟩
  have hR := fs_hR (fr := 5) (lo := 147) ((f_ArrayList_add_1 a0 a1 a2 x3).2 _ _ _ h)
  have hl := lv_entry ([.ref a0, .ref a1, .ref a2, .int x3]) (n := 4) (Nat.le_of_ble_eq_true rfl)
  rw [lg_entry_eq]
  generalize (lg_sl ([.ref a0, .ref a1, .ref a2, .int x3]) ++ List.replicate (4 - (lg_sl ([.ref a0, .ref a1, .ref a2, .int x3])).length) Slot.unset).toArray = ls at hl ⊢
  have hl : lv_has ls 4 [(0, .ref a0), (1, .ref a1), (2, .ref a2), (3, .int x3)] := hl
  refine (?_ : fs_J X p l e (fs_rm 5 147 σ σF) s m _ below meth c (fs_Q X below _ s (fs_eV r) σ σF) r σ σF (f_ArrayList_add_1 a0 a1 a2 x3) (F0 m 0 ls [])) σ s.heap [] 0 0 h hw0 va_S.rf rfl rfl
  clear h hw0
  unfold f_ArrayList_add_1
  refine fs_lift (fun _ _ _ _ => lv_iload_n hx hb d_ArrayList_add_1_0 rfl (lv_at hl 3 rfl)) ?_
  refine fs_lift (fun _ _ _ _ => lv_aload_n hx hb d_ArrayList_add_1_1 rfl (lv_at hl 2 rfl)) ?_
  refine fs_Jal S hG d_ArrayList_add_1_2 (fun v1 => ?_)
  refine fs_Jlet1 (nL := 4) (pj := 11) (I := fun (r3 : Nat) => [(0, .ref a0), (1, .ref a1), (2, .ref r3), (3, .int x3)]) (st := fun (r3 : Nat) => []) (fun r3 ls hl => ?_) (fun j11 hj11 => ?_)
  · refine fs_lift (fun _ _ _ _ => lv_aload_n hx hb d_ArrayList_add_1_11 rfl (lv_at hl 2 rfl)) ?_
    refine fs_lift (fun _ _ _ _ => lv_iload_n hx hb d_ArrayList_add_1_12 rfl (lv_at hl 3 rfl)) ?_
    refine fs_lift (fun _ _ _ _ => lv_aload_n hx hb d_ArrayList_add_1_13 rfl (lv_at hl 1 rfl)) ?_
    refine fs_Jsr S hG d_ArrayList_add_1_14 ?_
    refine fs_lift (fun _ _ _ _ => lv_aload_n hx hb d_ArrayList_add_1_15 rfl (lv_at hl 0 rfl)) ?_
    refine fs_lift (fun _ _ _ _ => lv_iload_n hx hb d_ArrayList_add_1_16 rfl (lv_at hl 3 rfl)) ?_
    refine fs_lift (fun _ _ _ _ => lv_iconst (v := 1) hx hb d_ArrayList_add_1_17 (by decide)) ?_
    refine fs_lift (fun _ _ _ _ => lv_iadd hx hb d_ArrayList_add_1_18) ?_
    refine fs_Jput S hG fs_in2 rfl 1 (Nat.le_of_ble_eq_true rfl) tw_1_58 (fun _ h9 => h9) fs_Y2 fs_ty2 fs_nm2 (Or.inl rfl) rfl rfl d_ArrayList_add_1_19 ?_
    exact fs_Jvret S hr hk rfl d_ArrayList_add_1_22
  · refine fs_ifn (fun _ _ _ _ => lv_icmp_ne hx hb d_ArrayList_add_1_3 rfl) ?_ ?_
    · refine fs_lift (fun _ _ _ _ => lv_aload_n hx hb d_ArrayList_add_1_6 rfl (lv_at hl 0 rfl)) ?_
      refine fs_JV S hG hR rfl [] (enc := fun r => some (.ref r)) (fun zr zs zt zh => m_ArrayList_grow_0 X l a0 zh) tw_2_207 tw_2_209 tp_1_5 tw_2_210 tw_1_5 q_ArrayList_grow_0 ⟨(Nat.le_of_ble_eq_true rfl), (Nat.le_of_ble_eq_true rfl)⟩ hl.1 rfl (Nat.le_of_ble_eq_true rfl) d_ArrayList_add_1_7 (fun r2 => ?_)
      refine fs_Jeq (g2 := F0 m 10 ls [.ref r2]) rfl ?_
      refine fs_liftL (fun _ _ _ _ => lv_astore_n (lv' := [(2, .ref r2), (0, .ref a0), (1, .ref a1), (3, .int x3)]) hx hb d_ArrayList_add_1_10 rfl hl (Nat.le_of_ble_eq_true rfl) rfl) (fun ls hl => ?_)
      exact hj11 r2 ls (lv_sub hl [1, 2, 0, 3] rfl)
    · exact hj11 a2 ls (lv_sub hl [0, 1, 2, 3] rfl)

theorem d_ArrayList_add_0_0 : decode prog_29_method_25_code 0 = .ok (.aload_n 0, 1) := by decide +kernel
theorem d_ArrayList_add_0_1 : decode prog_29_method_25_code 1 = .ok (.dup, 1) := by decide +kernel
theorem d_ArrayList_add_0_2 : decode prog_29_method_25_code 2 = .ok (.getfield 63, 3) := by decide +kernel
theorem d_ArrayList_add_0_5 : decode prog_29_method_25_code 5 = .ok (.iconst 1, 1) := by decide +kernel
theorem d_ArrayList_add_0_6 : decode prog_29_method_25_code 6 = .ok (.iadd, 1) := by decide +kernel
theorem d_ArrayList_add_0_7 : decode prog_29_method_25_code 7 = .ok (.putfield 63, 3) := by decide +kernel
theorem d_ArrayList_add_0_10 : decode prog_29_method_25_code 10 = .ok (.aload_n 0, 1) := by decide +kernel
theorem d_ArrayList_add_0_11 : decode prog_29_method_25_code 11 = .ok (.aload_n 1, 1) := by decide +kernel
theorem d_ArrayList_add_0_12 : decode prog_29_method_25_code 12 = .ok (.aload_n 0, 1) := by decide +kernel
theorem d_ArrayList_add_0_13 : decode prog_29_method_25_code 13 = .ok (.getfield 9, 3) := by decide +kernel
theorem d_ArrayList_add_0_16 : decode prog_29_method_25_code 16 = .ok (.aload_n 0, 1) := by decide +kernel
theorem d_ArrayList_add_0_17 : decode prog_29_method_25_code 17 = .ok (.getfield 48, 3) := by decide +kernel
theorem d_ArrayList_add_0_20 : decode prog_29_method_25_code 20 = .ok (.invokevirtual 131, 3) := by decide +kernel
theorem d_ArrayList_add_0_23 : decode prog_29_method_25_code 23 = .ok (.iconst 1, 1) := by decide +kernel
theorem d_ArrayList_add_0_24 : decode prog_29_method_25_code 24 = .ok (.ireturn, 1) := by decide +kernel
theorem q_ArrayList_add_0 : (⟨"java/util/ArrayList", "add", "(Ljava/lang/Object;)Z"⟩ : MethodName).cls ≠ "java/lang/invoke/MethodHandle" ∧ (⟨"java/util/ArrayList", "add", "(Ljava/lang/Object;)Z"⟩ : MethodName).cls ≠ "java/lang/invoke/VarHandle" ∧ (parseMethodDescriptor (⟨"java/util/ArrayList", "add", "(Ljava/lang/Object;)Z"⟩ : MethodName).desc).map (fun d => d.parameters.length) = some 1 := by decide +kernel
set_option maxHeartbeats 4000000 in
set_option maxRecDepth 100000 in
theorem m_ArrayList_add_0 (X : fs_X) (l : Launch) (a0 : Nat) (a1 : Nat) {r : Int32} {σ σF : fs_S} (h : (f_ArrayList_add_0 a0 a1).1 σ = some (r, σF)) : fs_Met X l ⟨"java/util/ArrayList", "add", "(Ljava/lang/Object;)Z"⟩ (Cond.code ⟨"java/util/ArrayList", "add", "(Ljava/lang/Object;)Z"⟩ prog_29_method_25_code 2 (some FieldType.boolean)) 6 170 [.ref a0, .ref a1] σ (fs_eI r) σF := by
  refine fs_ofW (by decide) ?_
  intro p e s m args below meth c s₁ B hml hT hv
  obtain ⟨rfl, hw0, hG⟩ := hv
  have hx := B.exec
  have hb := B.bytes
  have hr := B.returns
  have hk := B.notSynchronized
  have S : CallFix p m c prog_29_method_25_code 2 s _ fs_ws "java/util/ArrayList" := ⟨B.exec, B.bytes, hml, findClass_of_methodNamed B.named, fun w hw => atoms_spec (ws := _ :: fs_ws) B.pre w (List.mem_cons_of_mem _ hw)⟩
  have hR := fs_hR (fr := 6) (lo := 170) ((f_ArrayList_add_0 a0 a1).2 _ _ _ h)
  have hl := lv_entry ([.ref a0, .ref a1]) (n := 2) (Nat.le_of_ble_eq_true rfl)
  rw [lg_entry_eq]
  generalize (lg_sl ([.ref a0, .ref a1]) ++ List.replicate (2 - (lg_sl ([.ref a0, .ref a1])).length) Slot.unset).toArray = ls at hl ⊢
  have hl : lv_has ls 2 [(0, .ref a0), (1, .ref a1)] := hl
  refine (?_ : fs_J X p l e (fs_rm 6 170 σ σF) s m _ below meth c (fs_Q X below _ s (fs_eI r) σ σF) r σ σF (f_ArrayList_add_0 a0 a1) (F0 m 0 ls [])) σ s.heap [] 0 0 h hw0 va_S.rf rfl rfl
  clear h hw0
  unfold f_ArrayList_add_0
  refine fs_lift (fun _ _ _ _ => lv_aload_n hx hb d_ArrayList_add_0_0 rfl (lv_at hl 0 rfl)) ?_
  refine fs_lift (fun _ _ _ _ => lv_dup hx hb d_ArrayList_add_0_1 rfl) ?_
  refine fs_Jgi S hG fs_in2 rfl 2 (Nat.le_of_ble_eq_true rfl) tw_1_60 (fun x9 h9 => u_same (S.2.2.2.2 _ tw_1_61) x9 h9) d_ArrayList_add_0_2 (fun v1 => ?_)
  refine fs_lift (fun _ _ _ _ => lv_iconst (v := 1) hx hb d_ArrayList_add_0_5 (by decide)) ?_
  refine fs_lift (fun _ _ _ _ => lv_iadd hx hb d_ArrayList_add_0_6) ?_
  refine fs_Jput S hG fs_in2 rfl 2 (Nat.le_of_ble_eq_true rfl) tw_1_60 (fun x9 h9 => u_same (S.2.2.2.2 _ tw_1_61) x9 h9) fs_Y2 fs_ty2 fs_nm2 (Or.inl rfl) rfl rfl d_ArrayList_add_0_7 ?_
  refine fs_lift (fun _ _ _ _ => lv_aload_n hx hb d_ArrayList_add_0_10 rfl (lv_at hl 0 rfl)) ?_
  refine fs_lift (fun _ _ _ _ => lv_aload_n hx hb d_ArrayList_add_0_11 rfl (lv_at hl 1 rfl)) ?_
  refine fs_lift (fun _ _ _ _ => lv_aload_n hx hb d_ArrayList_add_0_12 rfl (lv_at hl 0 rfl)) ?_
  refine fs_Jgr S hG fs_in2 rfl 0 (Nat.le_of_ble_eq_true rfl) tw_1_57 (fun _ h9 => h9) d_ArrayList_add_0_13 (fun r2 => ?_)
  refine fs_lift (fun _ _ _ _ => lv_aload_n hx hb d_ArrayList_add_0_16 rfl (lv_at hl 0 rfl)) ?_
  refine fs_Jgi S hG fs_in2 rfl 1 (Nat.le_of_ble_eq_true rfl) tw_1_58 (fun _ h9 => h9) d_ArrayList_add_0_17 (fun v3 => ?_)
  refine fs_JV S hG hR rfl [.ref a1, .ref r2, .int v3] (enc := fun _ => none) (fun zr zs zt zh => m_ArrayList_add_1 X l a0 a1 r2 v3 zh) tw_2_203 tw_2_205 tp_1_4 tw_2_206 tw_1_5 q_ArrayList_add_1 ⟨(Nat.le_of_ble_eq_true rfl), (Nat.le_of_ble_eq_true rfl)⟩ hl.1 rfl (Nat.le_of_ble_eq_true rfl) d_ArrayList_add_0_20 (fun _ => ?_)
  refine fs_Jeq (g2 := F0 m 23 ls []) rfl ?_
  refine fs_lift (fun _ _ _ _ => lv_iconst (v := 1) hx hb d_ArrayList_add_0_23 (by decide)) ?_
  exact fs_Jzret S hr hk rfl d_ArrayList_add_0_24

theorem d_Exporter_end_0 : decode prog_4_method_8_code 0 = .ok (.iload_n 1, 1) := by decide +kernel
theorem d_Exporter_end_1 : decode prog_4_method_8_code 1 = .ok (.ifCond .lt 14, 3) := by decide +kernel
theorem d_Exporter_end_4 : decode prog_4_method_8_code 4 = .ok (.iload_n 1, 1) := by decide +kernel
theorem d_Exporter_end_5 : decode prog_4_method_8_code 5 = .ok (.aload_n 0, 1) := by decide +kernel
theorem d_Exporter_end_6 : decode prog_4_method_8_code 6 = .ok (.getfield 12, 3) := by decide +kernel
theorem d_Exporter_end_9 : decode prog_4_method_8_code 9 = .ok (.invokevirtual 37, 3) := by decide +kernel
theorem d_Exporter_end_12 : decode prog_4_method_8_code 12 = .ok (.if_icmp .lt 4, 3) := by decide +kernel
theorem d_Exporter_end_15 : decode prog_4_method_8_code 15 = .ok (.return_, 1) := by decide +kernel
theorem d_Exporter_end_16 : decode prog_4_method_8_code 16 = .ok (.aload_n 0, 1) := by decide +kernel
theorem d_Exporter_end_17 : decode prog_4_method_8_code 17 = .ok (.getfield 12, 3) := by decide +kernel
theorem d_Exporter_end_20 : decode prog_4_method_8_code 20 = .ok (.iload_n 1, 1) := by decide +kernel
theorem d_Exporter_end_21 : decode prog_4_method_8_code 21 = .ok (.invokevirtual 81, 3) := by decide +kernel
theorem d_Exporter_end_24 : decode prog_4_method_8_code 24 = .ok (.checkcast 55, 3) := by decide +kernel
theorem d_Exporter_end_27 : decode prog_4_method_8_code 27 = .ok (.astore_n 3, 1) := by decide +kernel
theorem d_Exporter_end_28 : decode prog_4_method_8_code 28 = .ok (.aload_n 3, 1) := by decide +kernel
theorem d_Exporter_end_29 : decode prog_4_method_8_code 29 = .ok (.aload_n 0, 1) := by decide +kernel
theorem d_Exporter_end_30 : decode prog_4_method_8_code 30 = .ok (.getfield 57, 3) := by decide +kernel
theorem d_Exporter_end_33 : decode prog_4_method_8_code 33 = .ok (.putfield 84, 3) := by decide +kernel
theorem d_Exporter_end_36 : decode prog_4_method_8_code 36 = .ok (.aload_n 3, 1) := by decide +kernel
theorem d_Exporter_end_37 : decode prog_4_method_8_code 37 = .ok (.iload_n 2, 1) := by decide +kernel
theorem d_Exporter_end_38 : decode prog_4_method_8_code 38 = .ok (.putfield 87, 3) := by decide +kernel
theorem d_Exporter_end_41 : decode prog_4_method_8_code 41 = .ok (.aload_n 0, 1) := by decide +kernel
theorem d_Exporter_end_42 : decode prog_4_method_8_code 42 = .ok (.getfield 18, 3) := by decide +kernel
theorem d_Exporter_end_45 : decode prog_4_method_8_code 45 = .ok (.aload_n 3, 1) := by decide +kernel
theorem d_Exporter_end_46 : decode prog_4_method_8_code 46 = .ok (.invokevirtual 63, 3) := by decide +kernel
theorem d_Exporter_end_49 : decode prog_4_method_8_code 49 = .ok (.pop, 1) := by decide +kernel
theorem d_Exporter_end_50 : decode prog_4_method_8_code 50 = .ok (.return_, 1) := by decide +kernel
theorem q_Exporter_end : (⟨"FlowShelf$Exporter", "end", "(II)V"⟩ : MethodName).cls ≠ "java/lang/invoke/MethodHandle" ∧ (⟨"FlowShelf$Exporter", "end", "(II)V"⟩ : MethodName).cls ≠ "java/lang/invoke/VarHandle" ∧ (parseMethodDescriptor (⟨"FlowShelf$Exporter", "end", "(II)V"⟩ : MethodName).desc).map (fun d => d.parameters.length) = some 2 := by decide +kernel
set_option maxHeartbeats 4000000 in
set_option maxRecDepth 100000 in
theorem m_Exporter_end (X : fs_X) (l : Launch) (a0 : Nat) (x1 : Int32) (x2 : Int32) {r : Unit} {σ σF : fs_S} (h : (f_Exporter_end a0 x1 x2).1 σ = some (r, σF)) : fs_Met X l ⟨"FlowShelf$Exporter", "end", "(II)V"⟩ (Cond.code ⟨"FlowShelf$Exporter", "end", "(II)V"⟩ prog_4_method_8_code 4 none) 7 191 [.ref a0, .int x1, .int x2] σ (fs_eV r) σF := by
  refine fs_ofW (by decide) ?_
  intro p e s m args below meth c s₁ B hml hT hv
  obtain ⟨rfl, hw0, hG⟩ := hv
  have hx := B.exec
  have hb := B.bytes
  have hr := B.returns
  have hk := B.notSynchronized
  have S : CallFix p m c prog_4_method_8_code 4 s _ fs_ws "FlowShelf$Exporter" := ⟨B.exec, B.bytes, hml, findClass_of_methodNamed B.named, fun w hw => atoms_spec (ws := _ :: fs_ws) B.pre w (List.mem_cons_of_mem _ hw)⟩
  have hR := fs_hR (fr := 7) (lo := 191) ((f_Exporter_end a0 x1 x2).2 _ _ _ h)
  have hl := lv_entry ([.ref a0, .int x1, .int x2]) (n := 4) (Nat.le_of_ble_eq_true rfl)
  rw [lg_entry_eq]
  generalize (lg_sl ([.ref a0, .int x1, .int x2]) ++ List.replicate (4 - (lg_sl ([.ref a0, .int x1, .int x2])).length) Slot.unset).toArray = ls at hl ⊢
  have hl : lv_has ls 4 [(0, .ref a0), (1, .int x1), (2, .int x2)] := hl
  refine (?_ : fs_J X p l e (fs_rm 7 191 σ σF) s m _ below meth c (fs_Q X below _ s (fs_eV r) σ σF) r σ σF (f_Exporter_end a0 x1 x2) (F0 m 0 ls [])) σ s.heap [] 0 0 h hw0 va_S.rf rfl rfl
  clear h hw0
  unfold f_Exporter_end
  refine fs_lift (fun _ _ _ _ => lv_iload_n hx hb d_Exporter_end_0 rfl (lv_at hl 1 rfl)) ?_
  refine fs_if (fun _ _ _ _ => lv_if_lt hx hb d_Exporter_end_1 rfl) ?_ ?_
  · exact fs_Jvret S hr hk rfl d_Exporter_end_15
  · refine fs_lift (fun _ _ _ _ => lv_iload_n hx hb d_Exporter_end_4 rfl (lv_at hl 1 rfl)) ?_
    refine fs_lift (fun _ _ _ _ => lv_aload_n hx hb d_Exporter_end_5 rfl (lv_at hl 0 rfl)) ?_
    refine fs_Jgr S hG fs_in1 rfl 1 (Nat.le_of_ble_eq_true rfl) tw_1_126 (fun _ h9 => h9) d_Exporter_end_6 (fun r1 => ?_)
    refine fs_JV S hG hR rfl [] (enc := fun r => some (.int r)) (fun zr zs zt zh => m_ArrayList_size X l r1 zh) tw_2_145 tw_2_29 tw_2_30 tw_2_31 tw_1_5 q_ArrayList_size ⟨(Nat.le_of_ble_eq_true rfl), (Nat.le_of_ble_eq_true rfl)⟩ hl.1 rfl (Nat.le_of_ble_eq_true rfl) d_Exporter_end_9 (fun v2 => ?_)
    refine fs_Jeq (g2 := F0 m 12 ls [.int v2, .int x1]) rfl ?_
    refine fs_if (fun _ _ _ _ => lv_icmp_lt hx hb d_Exporter_end_12 rfl) ?_ ?_
    · refine fs_lift (fun _ _ _ _ => lv_aload_n hx hb d_Exporter_end_16 rfl (lv_at hl 0 rfl)) ?_
      refine fs_Jgr S hG fs_in1 rfl 1 (Nat.le_of_ble_eq_true rfl) tw_1_126 (fun _ h9 => h9) d_Exporter_end_17 (fun r3 => ?_)
      refine fs_lift (fun _ _ _ _ => lv_iload_n hx hb d_Exporter_end_20 rfl (lv_at hl 1 rfl)) ?_
      refine fs_JV S hG hR rfl [.int x1] (enc := fun r => some (.ref r)) (fun zr zs zt zh => m_ArrayList_remove X l r3 x1 zh) tw_2_188 tw_2_189 tw_2_190 tw_2_191 tw_1_5 q_ArrayList_remove ⟨(Nat.le_of_ble_eq_true rfl), (Nat.le_of_ble_eq_true rfl)⟩ hl.1 rfl (Nat.le_of_ble_eq_true rfl) d_Exporter_end_21 (fun r4 => ?_)
      refine fs_Jeq (g2 := F0 m 24 ls [.ref r4]) rfl ?_
      refine fs_Jck S hG rfl tw_2_175 tb_7_82 d_Exporter_end_24 ?_
      refine fs_liftL (fun _ _ _ _ => lv_astore_n (lv' := [(3, .ref r4), (0, .ref a0), (1, .int x1), (2, .int x2)]) hx hb d_Exporter_end_27 rfl hl (Nat.le_of_ble_eq_true rfl) rfl) (fun ls hl => ?_)
      refine fs_lift (fun _ _ _ _ => lv_aload_n hx hb d_Exporter_end_28 rfl (lv_at hl 0 rfl)) ?_
      refine fs_lift (fun _ _ _ _ => lv_aload_n hx hb d_Exporter_end_29 rfl (lv_at hl 1 rfl)) ?_
      refine fs_Jgi S hG fs_in1 rfl 4 (Nat.le_of_ble_eq_true rfl) tw_1_132 (fun _ h9 => h9) d_Exporter_end_30 (fun v5 => ?_)
      refine fs_Jput S hG fs_in8 rfl 7 (Nat.le_of_ble_eq_true rfl) tw_3_35 (fun _ h9 => h9) fs_Y8 fs_ty8 fs_nm8 (Or.inl rfl) rfl rfl d_Exporter_end_33 ?_
      refine fs_lift (fun _ _ _ _ => lv_aload_n hx hb d_Exporter_end_36 rfl (lv_at hl 0 rfl)) ?_
      refine fs_lift (fun _ _ _ _ => lv_iload_n hx hb d_Exporter_end_37 rfl (lv_at hl 3 rfl)) ?_
      refine fs_Jput S hG fs_in8 rfl 8 (Nat.le_of_ble_eq_true rfl) tw_3_37 (fun _ h9 => h9) fs_Y8 fs_ty8 fs_nm8 (Or.inl rfl) rfl rfl d_Exporter_end_38 ?_
      refine fs_lift (fun _ _ _ _ => lv_aload_n hx hb d_Exporter_end_41 rfl (lv_at hl 1 rfl)) ?_
      refine fs_Jgr S hG fs_in1 rfl 2 (Nat.le_of_ble_eq_true rfl) tw_1_128 (fun _ h9 => h9) d_Exporter_end_42 (fun r6 => ?_)
      refine fs_lift (fun _ _ _ _ => lv_aload_n hx hb d_Exporter_end_45 rfl (lv_at hl 0 rfl)) ?_
      refine fs_JV S hG hR rfl [.ref r4] (enc := fun r => some (.int r)) (fun zr zs zt zh => m_ArrayList_add_0 X l r6 r4 zh) tw_2_199 tw_2_200 tw_2_201 tw_2_202 tw_1_5 q_ArrayList_add_0 ⟨(Nat.le_of_ble_eq_true rfl), (Nat.le_of_ble_eq_true rfl)⟩ hl.1 rfl (Nat.le_of_ble_eq_true rfl) d_Exporter_end_46 (fun v7 => ?_)
      refine fs_Jeq (g2 := F0 m 49 ls [.int v7]) rfl ?_
      refine fs_lift (fun _ _ _ _ => lv_pop hx hb d_Exporter_end_49 rfl) ?_
      exact fs_Jvret S hr hk rfl d_Exporter_end_50
    · exact fs_Jvret S hr hk rfl d_Exporter_end_15

theorem d_Flow_init_0 : decode prog_5_method_1_code 0 = .ok (.aload_n 0, 1) := by decide +kernel
theorem d_Flow_init_1 : decode prog_5_method_1_code 1 = .ok (.invokespecial 3, 3) := by decide +kernel
theorem d_Flow_init_4 : decode prog_5_method_1_code 4 = .ok (.aload_n 0, 1) := by decide +kernel
theorem d_Flow_init_5 : decode prog_5_method_1_code 5 = .ok (.iload_n 1, 1) := by decide +kernel
theorem d_Flow_init_6 : decode prog_5_method_1_code 6 = .ok (.putfield 9, 3) := by decide +kernel
theorem d_Flow_init_9 : decode prog_5_method_1_code 9 = .ok (.aload_n 0, 1) := by decide +kernel
theorem d_Flow_init_10 : decode prog_5_method_1_code 10 = .ok (.iload_n 2, 1) := by decide +kernel
theorem d_Flow_init_11 : decode prog_5_method_1_code 11 = .ok (.putfield 15, 3) := by decide +kernel
theorem d_Flow_init_14 : decode prog_5_method_1_code 14 = .ok (.aload_n 0, 1) := by decide +kernel
theorem d_Flow_init_15 : decode prog_5_method_1_code 15 = .ok (.iload_n 3, 1) := by decide +kernel
theorem d_Flow_init_16 : decode prog_5_method_1_code 16 = .ok (.putfield 18, 3) := by decide +kernel
theorem d_Flow_init_19 : decode prog_5_method_1_code 19 = .ok (.aload_n 0, 1) := by decide +kernel
theorem d_Flow_init_20 : decode prog_5_method_1_code 20 = .ok (.iload 4, 2) := by decide +kernel
theorem d_Flow_init_22 : decode prog_5_method_1_code 22 = .ok (.putfield 21, 3) := by decide +kernel
theorem d_Flow_init_25 : decode prog_5_method_1_code 25 = .ok (.return_, 1) := by decide +kernel
theorem q_Flow_init : (⟨"FlowShelf$Flow", "<init>", "(IIII)V"⟩ : MethodName).cls ≠ "java/lang/invoke/MethodHandle" ∧ (⟨"FlowShelf$Flow", "<init>", "(IIII)V"⟩ : MethodName).cls ≠ "java/lang/invoke/VarHandle" ∧ (parseMethodDescriptor (⟨"FlowShelf$Flow", "<init>", "(IIII)V"⟩ : MethodName).desc).map (fun d => d.parameters.length) = some 4 := by decide +kernel
set_option maxHeartbeats 4000000 in
set_option maxRecDepth 100000 in
theorem m_Flow_init (X : fs_X) (l : Launch) (a0 : Nat) (x1 : Int32) (x2 : Int32) (x3 : Int32) (x4 : Int32) {r : Unit} {σ σF : fs_S} (h : (f_Flow_init a0 x1 x2 x3 x4).1 σ = some (r, σF)) : fs_Met X l ⟨"FlowShelf$Flow", "<init>", "(IIII)V"⟩ (Cond.code ⟨"FlowShelf$Flow", "<init>", "(IIII)V"⟩ prog_5_method_1_code 5 none) 1 12 [.ref a0, .int x1, .int x2, .int x3, .int x4] σ (fs_eV r) σF := by
  refine fs_ofW (by decide) ?_
  intro p e s m args below meth c s₁ B hml hT hv
  obtain ⟨rfl, hw0, hG⟩ := hv
  have hx := B.exec
  have hb := B.bytes
  have hr := B.returns
  have hk := B.notSynchronized
  have hin : meth.name = "<init>" := (name_of_methodNamed B.named B.method).1
  have S : CallFix p m c prog_5_method_1_code 5 s _ fs_ws "FlowShelf$Flow" := ⟨B.exec, B.bytes, hml, findClass_of_methodNamed B.named, fun w hw => atoms_spec (ws := _ :: fs_ws) B.pre w (List.mem_cons_of_mem _ hw)⟩
  have hR := fs_hR (fr := 1) (lo := 12) ((f_Flow_init a0 x1 x2 x3 x4).2 _ _ _ h)
  have hl := lv_entry ([.ref a0, .int x1, .int x2, .int x3, .int x4]) (n := 5) (Nat.le_of_ble_eq_true rfl)
  rw [lg_entry_eq]
  generalize (lg_sl ([.ref a0, .int x1, .int x2, .int x3, .int x4]) ++ List.replicate (5 - (lg_sl ([.ref a0, .int x1, .int x2, .int x3, .int x4])).length) Slot.unset).toArray = ls at hl ⊢
  have hl : lv_has ls 5 [(0, .ref a0), (1, .int x1), (2, .int x2), (3, .int x3), (4, .int x4)] := hl
  refine (?_ : fs_J X p l e (fs_rm 1 12 σ σF) s m _ below meth c (fs_Q X below _ s (fs_eV r) σ σF) r σ σF (f_Flow_init a0 x1 x2 x3 x4) (F0 m 0 ls [])) σ s.heap [] 0 0 h hw0 va_S.rf rfl rfl
  clear h hw0
  unfold f_Flow_init
  refine fs_lift (fun _ _ _ _ => lv_aload_n hx hb d_Flow_init_0 rfl (lv_at hl 0 rfl)) ?_
  refine fs_JO S tw_3_25 tw_1_35 tw_1_36 hl.1 (Nat.le_of_ble_eq_true rfl) (Nat.le_of_ble_eq_true rfl) d_Flow_init_1 ?_
  refine fs_Jeq (g2 := F0 m 4 ls []) rfl ?_
  refine fs_lift (fun _ _ _ _ => lv_aload_n hx hb d_Flow_init_4 rfl (lv_at hl 0 rfl)) ?_
  refine fs_lift (fun _ _ _ _ => lv_iload_n hx hb d_Flow_init_5 rfl (lv_at hl 1 rfl)) ?_
  refine fs_Jput S hG fs_in8 rfl 0 (Nat.le_of_ble_eq_true rfl) tw_3_26 (fun _ h9 => h9) fs_Y8 fs_ty8 fs_nm8 (Or.inr ⟨rfl, hin, rfl⟩) rfl rfl d_Flow_init_6 ?_
  refine fs_lift (fun _ _ _ _ => lv_aload_n hx hb d_Flow_init_9 rfl (lv_at hl 0 rfl)) ?_
  refine fs_lift (fun _ _ _ _ => lv_iload_n hx hb d_Flow_init_10 rfl (lv_at hl 2 rfl)) ?_
  refine fs_Jput S hG fs_in8 rfl 1 (Nat.le_of_ble_eq_true rfl) tw_3_27 (fun _ h9 => h9) fs_Y8 fs_ty8 fs_nm8 (Or.inr ⟨rfl, hin, rfl⟩) rfl rfl d_Flow_init_11 ?_
  refine fs_lift (fun _ _ _ _ => lv_aload_n hx hb d_Flow_init_14 rfl (lv_at hl 0 rfl)) ?_
  refine fs_lift (fun _ _ _ _ => lv_iload_n hx hb d_Flow_init_15 rfl (lv_at hl 3 rfl)) ?_
  refine fs_Jput S hG fs_in8 rfl 2 (Nat.le_of_ble_eq_true rfl) tw_3_28 (fun _ h9 => h9) fs_Y8 fs_ty8 fs_nm8 (Or.inr ⟨rfl, hin, rfl⟩) rfl rfl d_Flow_init_16 ?_
  refine fs_lift (fun _ _ _ _ => lv_aload_n hx hb d_Flow_init_19 rfl (lv_at hl 0 rfl)) ?_
  refine fs_lift (fun _ _ _ _ => lv_iload hx hb d_Flow_init_20 (lv_at hl 4 rfl)) ?_
  refine fs_Jput S hG fs_in8 rfl 3 (Nat.le_of_ble_eq_true rfl) tw_3_29 (fun _ h9 => h9) fs_Y8 fs_ty8 fs_nm8 (Or.inr ⟨rfl, hin, rfl⟩) rfl rfl d_Flow_init_22 ?_
  exact fs_Jvret S hr hk rfl d_Flow_init_25

theorem d_Flow_addPacket_0 : decode prog_5_method_3_code 0 = .ok (.aload_n 0, 1) := by decide +kernel
theorem d_Flow_addPacket_1 : decode prog_5_method_3_code 1 = .ok (.dup, 1) := by decide +kernel
theorem d_Flow_addPacket_2 : decode prog_5_method_3_code 2 = .ok (.getfield 24, 3) := by decide +kernel
theorem d_Flow_addPacket_5 : decode prog_5_method_3_code 5 = .ok (.iload_n 1, 1) := by decide +kernel
theorem d_Flow_addPacket_6 : decode prog_5_method_3_code 6 = .ok (.iadd, 1) := by decide +kernel
theorem d_Flow_addPacket_7 : decode prog_5_method_3_code 7 = .ok (.putfield 24, 3) := by decide +kernel
theorem d_Flow_addPacket_10 : decode prog_5_method_3_code 10 = .ok (.aload_n 0, 1) := by decide +kernel
theorem d_Flow_addPacket_11 : decode prog_5_method_3_code 11 = .ok (.dup, 1) := by decide +kernel
theorem d_Flow_addPacket_12 : decode prog_5_method_3_code 12 = .ok (.getfield 27, 3) := by decide +kernel
theorem d_Flow_addPacket_15 : decode prog_5_method_3_code 15 = .ok (.iconst 1, 1) := by decide +kernel
theorem d_Flow_addPacket_16 : decode prog_5_method_3_code 16 = .ok (.iadd, 1) := by decide +kernel
theorem d_Flow_addPacket_17 : decode prog_5_method_3_code 17 = .ok (.putfield 27, 3) := by decide +kernel
theorem d_Flow_addPacket_20 : decode prog_5_method_3_code 20 = .ok (.aload_n 0, 1) := by decide +kernel
theorem d_Flow_addPacket_21 : decode prog_5_method_3_code 21 = .ok (.iload_n 2, 1) := by decide +kernel
theorem d_Flow_addPacket_22 : decode prog_5_method_3_code 22 = .ok (.putfield 30, 3) := by decide +kernel
theorem d_Flow_addPacket_25 : decode prog_5_method_3_code 25 = .ok (.return_, 1) := by decide +kernel
theorem q_Flow_addPacket : (⟨"FlowShelf$Flow", "addPacket", "(II)V"⟩ : MethodName).cls ≠ "java/lang/invoke/MethodHandle" ∧ (⟨"FlowShelf$Flow", "addPacket", "(II)V"⟩ : MethodName).cls ≠ "java/lang/invoke/VarHandle" ∧ (parseMethodDescriptor (⟨"FlowShelf$Flow", "addPacket", "(II)V"⟩ : MethodName).desc).map (fun d => d.parameters.length) = some 2 := by decide +kernel
set_option maxHeartbeats 4000000 in
set_option maxRecDepth 100000 in
theorem m_Flow_addPacket (X : fs_X) (l : Launch) (a0 : Nat) (x1 : Int32) (x2 : Int32) {r : Unit} {σ σF : fs_S} (h : (f_Flow_addPacket a0 x1 x2).1 σ = some (r, σF)) : fs_Met X l ⟨"FlowShelf$Flow", "addPacket", "(II)V"⟩ (Cond.code ⟨"FlowShelf$Flow", "addPacket", "(II)V"⟩ prog_5_method_3_code 3 none) 0 0 [.ref a0, .int x1, .int x2] σ (fs_eV r) σF := by
  refine fs_ofW (by decide) ?_
  intro p e s m args below meth c s₁ B hml hT hv
  obtain ⟨rfl, hw0, hG⟩ := hv
  have hx := B.exec
  have hb := B.bytes
  have hr := B.returns
  have hk := B.notSynchronized
  have S : CallFix p m c prog_5_method_3_code 3 s _ fs_ws "FlowShelf$Flow" := ⟨B.exec, B.bytes, hml, findClass_of_methodNamed B.named, fun w hw => atoms_spec (ws := _ :: fs_ws) B.pre w (List.mem_cons_of_mem _ hw)⟩
  have hR := fs_hR (fr := 0) (lo := 0) ((f_Flow_addPacket a0 x1 x2).2 _ _ _ h)
  have hl := lv_entry ([.ref a0, .int x1, .int x2]) (n := 3) (Nat.le_of_ble_eq_true rfl)
  rw [lg_entry_eq]
  generalize (lg_sl ([.ref a0, .int x1, .int x2]) ++ List.replicate (3 - (lg_sl ([.ref a0, .int x1, .int x2])).length) Slot.unset).toArray = ls at hl ⊢
  have hl : lv_has ls 3 [(0, .ref a0), (1, .int x1), (2, .int x2)] := hl
  refine (?_ : fs_J X p l e (fs_rm 0 0 σ σF) s m _ below meth c (fs_Q X below _ s (fs_eV r) σ σF) r σ σF (f_Flow_addPacket a0 x1 x2) (F0 m 0 ls [])) σ s.heap [] 0 0 h hw0 va_S.rf rfl rfl
  clear h hw0
  unfold f_Flow_addPacket
  refine fs_lift (fun _ _ _ _ => lv_aload_n hx hb d_Flow_addPacket_0 rfl (lv_at hl 0 rfl)) ?_
  refine fs_lift (fun _ _ _ _ => lv_dup hx hb d_Flow_addPacket_1 rfl) ?_
  refine fs_Jgi S hG fs_in8 rfl 4 (Nat.le_of_ble_eq_true rfl) tw_3_30 (fun _ h9 => h9) d_Flow_addPacket_2 (fun v1 => ?_)
  refine fs_lift (fun _ _ _ _ => lv_iload_n hx hb d_Flow_addPacket_5 rfl (lv_at hl 1 rfl)) ?_
  refine fs_lift (fun _ _ _ _ => lv_iadd hx hb d_Flow_addPacket_6) ?_
  refine fs_Jput S hG fs_in8 rfl 4 (Nat.le_of_ble_eq_true rfl) tw_3_30 (fun _ h9 => h9) fs_Y8 fs_ty8 fs_nm8 (Or.inl rfl) rfl rfl d_Flow_addPacket_7 ?_
  refine fs_lift (fun _ _ _ _ => lv_aload_n hx hb d_Flow_addPacket_10 rfl (lv_at hl 0 rfl)) ?_
  refine fs_lift (fun _ _ _ _ => lv_dup hx hb d_Flow_addPacket_11 rfl) ?_
  refine fs_Jgi S hG fs_in8 rfl 5 (Nat.le_of_ble_eq_true rfl) tw_3_31 (fun _ h9 => h9) d_Flow_addPacket_12 (fun v2 => ?_)
  refine fs_lift (fun _ _ _ _ => lv_iconst (v := 1) hx hb d_Flow_addPacket_15 (by decide)) ?_
  refine fs_lift (fun _ _ _ _ => lv_iadd hx hb d_Flow_addPacket_16) ?_
  refine fs_Jput S hG fs_in8 rfl 5 (Nat.le_of_ble_eq_true rfl) tw_3_31 (fun _ h9 => h9) fs_Y8 fs_ty8 fs_nm8 (Or.inl rfl) rfl rfl d_Flow_addPacket_17 ?_
  refine fs_lift (fun _ _ _ _ => lv_aload_n hx hb d_Flow_addPacket_20 rfl (lv_at hl 0 rfl)) ?_
  refine fs_lift (fun _ _ _ _ => lv_iload_n hx hb d_Flow_addPacket_21 rfl (lv_at hl 2 rfl)) ?_
  refine fs_Jput S hG fs_in8 rfl 6 (Nat.le_of_ble_eq_true rfl) tw_3_32 (fun _ h9 => h9) fs_Y8 fs_ty8 fs_nm8 (Or.inl rfl) rfl rfl d_Flow_addPacket_22 ?_
  exact fs_Jvret S hr hk rfl d_Flow_addPacket_25

theorem d_Exporter_watch_0 : decode prog_4_method_5_code 0 = .ok (.aload_n 0, 1) := by decide +kernel
theorem d_Exporter_watch_1 : decode prog_4_method_5_code 1 = .ok (.iload_n 1, 1) := by decide +kernel
theorem d_Exporter_watch_2 : decode prog_4_method_5_code 2 = .ok (.iload_n 2, 1) := by decide +kernel
theorem d_Exporter_watch_3 : decode prog_4_method_5_code 3 = .ok (.iload_n 3, 1) := by decide +kernel
theorem d_Exporter_watch_4 : decode prog_4_method_5_code 4 = .ok (.invokevirtual 44, 3) := by decide +kernel
theorem d_Exporter_watch_7 : decode prog_4_method_5_code 7 = .ok (.istore 6, 2) := by decide +kernel
theorem d_Exporter_watch_9 : decode prog_4_method_5_code 9 = .ok (.iload 6, 2) := by decide +kernel
theorem d_Exporter_watch_11 : decode prog_4_method_5_code 11 = .ok (.iconst (-1), 1) := by decide +kernel
theorem d_Exporter_watch_12 : decode prog_4_method_5_code 12 = .ok (.if_icmp .ne 57, 3) := by decide +kernel
theorem d_Exporter_watch_15 : decode prog_4_method_5_code 15 = .ok (.aload_n 0, 1) := by decide +kernel
theorem d_Exporter_watch_16 : decode prog_4_method_5_code 16 = .ok (.getfield 12, 3) := by decide +kernel
theorem d_Exporter_watch_19 : decode prog_4_method_5_code 19 = .ok (.invokevirtual 37, 3) := by decide +kernel
theorem d_Exporter_watch_22 : decode prog_4_method_5_code 22 = .ok (.bipush 6, 2) := by decide +kernel
theorem d_Exporter_watch_24 : decode prog_4_method_5_code 24 = .ok (.if_icmp .lt 12, 3) := by decide +kernel
theorem d_Exporter_watch_27 : decode prog_4_method_5_code 27 = .ok (.aload_n 0, 1) := by decide +kernel
theorem d_Exporter_watch_28 : decode prog_4_method_5_code 28 = .ok (.aload_n 0, 1) := by decide +kernel
theorem d_Exporter_watch_29 : decode prog_4_method_5_code 29 = .ok (.invokevirtual 48, 3) := by decide +kernel
theorem d_Exporter_watch_32 : decode prog_4_method_5_code 32 = .ok (.iconst 4, 1) := by decide +kernel
theorem d_Exporter_watch_33 : decode prog_4_method_5_code 33 = .ok (.invokevirtual 51, 3) := by decide +kernel
theorem d_Exporter_watch_36 : decode prog_4_method_5_code 36 = .ok (.aload_n 0, 1) := by decide +kernel
theorem d_Exporter_watch_37 : decode prog_4_method_5_code 37 = .ok (.getfield 12, 3) := by decide +kernel
theorem d_Exporter_watch_40 : decode prog_4_method_5_code 40 = .ok (.new 55, 3) := by decide +kernel
theorem d_Exporter_watch_43 : decode prog_4_method_5_code 43 = .ok (.dup, 1) := by decide +kernel
theorem d_Exporter_watch_44 : decode prog_4_method_5_code 44 = .ok (.iload_n 1, 1) := by decide +kernel
theorem d_Exporter_watch_45 : decode prog_4_method_5_code 45 = .ok (.iload_n 2, 1) := by decide +kernel
theorem d_Exporter_watch_46 : decode prog_4_method_5_code 46 = .ok (.iload_n 3, 1) := by decide +kernel
theorem d_Exporter_watch_47 : decode prog_4_method_5_code 47 = .ok (.aload_n 0, 1) := by decide +kernel
theorem d_Exporter_watch_48 : decode prog_4_method_5_code 48 = .ok (.getfield 57, 3) := by decide +kernel
theorem d_Exporter_watch_51 : decode prog_4_method_5_code 51 = .ok (.invokespecial 60, 3) := by decide +kernel
theorem d_Exporter_watch_54 : decode prog_4_method_5_code 54 = .ok (.invokevirtual 63, 3) := by decide +kernel
theorem d_Exporter_watch_57 : decode prog_4_method_5_code 57 = .ok (.pop, 1) := by decide +kernel
theorem d_Exporter_watch_58 : decode prog_4_method_5_code 58 = .ok (.aload_n 0, 1) := by decide +kernel
theorem d_Exporter_watch_59 : decode prog_4_method_5_code 59 = .ok (.getfield 12, 3) := by decide +kernel
theorem d_Exporter_watch_62 : decode prog_4_method_5_code 62 = .ok (.invokevirtual 37, 3) := by decide +kernel
theorem d_Exporter_watch_65 : decode prog_4_method_5_code 65 = .ok (.iconst 1, 1) := by decide +kernel
theorem d_Exporter_watch_66 : decode prog_4_method_5_code 66 = .ok (.isub, 1) := by decide +kernel
theorem d_Exporter_watch_67 : decode prog_4_method_5_code 67 = .ok (.istore 6, 2) := by decide +kernel
theorem d_Exporter_watch_69 : decode prog_4_method_5_code 69 = .ok (.aload_n 0, 1) := by decide +kernel
theorem d_Exporter_watch_70 : decode prog_4_method_5_code 70 = .ok (.getfield 12, 3) := by decide +kernel
theorem d_Exporter_watch_73 : decode prog_4_method_5_code 73 = .ok (.iload 6, 2) := by decide +kernel
theorem d_Exporter_watch_75 : decode prog_4_method_5_code 75 = .ok (.invokevirtual 67, 3) := by decide +kernel
theorem d_Exporter_watch_78 : decode prog_4_method_5_code 78 = .ok (.checkcast 55, 3) := by decide +kernel
theorem d_Exporter_watch_81 : decode prog_4_method_5_code 81 = .ok (.iload 4, 2) := by decide +kernel
theorem d_Exporter_watch_83 : decode prog_4_method_5_code 83 = .ok (.aload_n 0, 1) := by decide +kernel
theorem d_Exporter_watch_84 : decode prog_4_method_5_code 84 = .ok (.getfield 57, 3) := by decide +kernel
theorem d_Exporter_watch_87 : decode prog_4_method_5_code 87 = .ok (.invokevirtual 71, 3) := by decide +kernel
theorem d_Exporter_watch_90 : decode prog_4_method_5_code 90 = .ok (.iload 5, 2) := by decide +kernel
theorem d_Exporter_watch_92 : decode prog_4_method_5_code 92 = .ok (.ifCond .eq 10, 3) := by decide +kernel
theorem d_Exporter_watch_95 : decode prog_4_method_5_code 95 = .ok (.aload_n 0, 1) := by decide +kernel
theorem d_Exporter_watch_96 : decode prog_4_method_5_code 96 = .ok (.iload 6, 2) := by decide +kernel
theorem d_Exporter_watch_98 : decode prog_4_method_5_code 98 = .ok (.iconst 3, 1) := by decide +kernel
theorem d_Exporter_watch_99 : decode prog_4_method_5_code 99 = .ok (.invokevirtual 51, 3) := by decide +kernel
theorem d_Exporter_watch_102 : decode prog_4_method_5_code 102 = .ok (.return_, 1) := by decide +kernel
theorem q_Exporter_watch : (⟨"FlowShelf$Exporter", "watch", "(IIIIZ)V"⟩ : MethodName).cls ≠ "java/lang/invoke/MethodHandle" ∧ (⟨"FlowShelf$Exporter", "watch", "(IIIIZ)V"⟩ : MethodName).cls ≠ "java/lang/invoke/VarHandle" ∧ (parseMethodDescriptor (⟨"FlowShelf$Exporter", "watch", "(IIIIZ)V"⟩ : MethodName).desc).map (fun d => d.parameters.length) = some 5 := by decide +kernel
set_option maxHeartbeats 4000000 in
set_option maxRecDepth 100000 in
theorem m_Exporter_watch (X : fs_X) (l : Launch) (a0 : Nat) (x1 : Int32) (x2 : Int32) (x3 : Int32) (x4 : Int32) (x5 : Int32) {r : Unit} {σ σF : fs_S} (h : (f_Exporter_watch a0 x1 x2 x3 x4 x5).1 σ = some (r, σF)) : fs_Met X l ⟨"FlowShelf$Exporter", "watch", "(IIIIZ)V"⟩ (Cond.code ⟨"FlowShelf$Exporter", "watch", "(IIIIZ)V"⟩ prog_4_method_5_code 7 none) 8 214 [.ref a0, .int x1, .int x2, .int x3, .int x4, .int x5] σ (fs_eV r) σF := by
  refine fs_ofW (by decide) ?_
  intro p e s m args below meth c s₁ B hml hT hv
  obtain ⟨rfl, hw0, hG⟩ := hv
  have hx := B.exec
  have hb := B.bytes
  have hr := B.returns
  have hk := B.notSynchronized
  have S : CallFix p m c prog_4_method_5_code 7 s _ fs_ws "FlowShelf$Exporter" := ⟨B.exec, B.bytes, hml, findClass_of_methodNamed B.named, fun w hw => atoms_spec (ws := _ :: fs_ws) B.pre w (List.mem_cons_of_mem _ hw)⟩
  have hR := fs_hR (fr := 8) (lo := 214) ((f_Exporter_watch a0 x1 x2 x3 x4 x5).2 _ _ _ h)
  have hl := lv_entry ([.ref a0, .int x1, .int x2, .int x3, .int x4, .int x5]) (n := 7) (Nat.le_of_ble_eq_true rfl)
  rw [lg_entry_eq]
  generalize (lg_sl ([.ref a0, .int x1, .int x2, .int x3, .int x4, .int x5]) ++ List.replicate (7 - (lg_sl ([.ref a0, .int x1, .int x2, .int x3, .int x4, .int x5])).length) Slot.unset).toArray = ls at hl ⊢
  have hl : lv_has ls 7 [(0, .ref a0), (1, .int x1), (2, .int x2), (3, .int x3), (4, .int x4), (5, .int x5)] := hl
  refine (?_ : fs_J X p l e (fs_rm 8 214 σ σF) s m _ below meth c (fs_Q X below _ s (fs_eV r) σ σF) r σ σF (f_Exporter_watch a0 x1 x2 x3 x4 x5) (F0 m 0 ls [])) σ s.heap [] 0 0 h hw0 va_S.rf rfl rfl
  clear h hw0
  unfold f_Exporter_watch
  refine fs_lift (fun _ _ _ _ => lv_aload_n hx hb d_Exporter_watch_0 rfl (lv_at hl 0 rfl)) ?_
  refine fs_lift (fun _ _ _ _ => lv_iload_n hx hb d_Exporter_watch_1 rfl (lv_at hl 1 rfl)) ?_
  refine fs_lift (fun _ _ _ _ => lv_iload_n hx hb d_Exporter_watch_2 rfl (lv_at hl 2 rfl)) ?_
  refine fs_lift (fun _ _ _ _ => lv_iload_n hx hb d_Exporter_watch_3 rfl (lv_at hl 3 rfl)) ?_
  refine fs_JV S hG hR rfl [.int x1, .int x2, .int x3] (enc := fun r => some (.int r)) (fun zr zs zt zh => m_Exporter_placeInCache X l a0 x1 x2 x3 zh) tw_2_170 tw_2_171 tw_2_172 tw_2_173 tw_1_2 q_Exporter_placeInCache ⟨(Nat.le_of_ble_eq_true rfl), (Nat.le_of_ble_eq_true rfl)⟩ hl.1 rfl (Nat.le_of_ble_eq_true rfl) d_Exporter_watch_4 (fun v1 => ?_)
  refine fs_Jeq (g2 := F0 m 7 ls [.int v1]) rfl ?_
  refine fs_liftL (fun _ _ _ _ => lv_istore (lv' := [(6, .int v1), (0, .ref a0), (1, .int x1), (2, .int x2), (3, .int x3), (4, .int x4), (5, .int x5)]) hx hb d_Exporter_watch_7 hl (Nat.le_of_ble_eq_true rfl) rfl) (fun ls hl => ?_)
  refine fs_lift (fun _ _ _ _ => lv_iload hx hb d_Exporter_watch_9 (lv_at hl 0 rfl)) ?_
  refine fs_lift (fun _ _ _ _ => lv_iconst (v := (-1)) hx hb d_Exporter_watch_11 (by decide)) ?_
  refine fs_Jlet1 (nL := 7) (pj := 69) (I := fun (v12 : Int32) => [(0, .ref a0), (4, .int x4), (5, .int x5), (6, .int v12)]) (st := fun (v12 : Int32) => []) (fun v12 ls hl => ?_) (fun j69 hj69 => ?_)
  · refine fs_lift (fun _ _ _ _ => lv_aload_n hx hb d_Exporter_watch_69 rfl (lv_at hl 0 rfl)) ?_
    refine fs_Jgr S hG fs_in1 rfl 1 (Nat.le_of_ble_eq_true rfl) tw_1_126 (fun _ h9 => h9) d_Exporter_watch_70 (fun r13 => ?_)
    refine fs_lift (fun _ _ _ _ => lv_iload hx hb d_Exporter_watch_73 (lv_at hl 3 rfl)) ?_
    refine fs_JV S hG hR rfl [.int v12] (enc := fun r => some (.ref r)) (fun zr zs zt zh => m_ArrayList_get X l r13 v12 zh) tw_2_174 tw_2_33 tw_2_34 tw_2_35 tw_1_5 q_ArrayList_get ⟨(Nat.le_of_ble_eq_true rfl), (Nat.le_of_ble_eq_true rfl)⟩ hl.1 rfl (Nat.le_of_ble_eq_true rfl) d_Exporter_watch_75 (fun r14 => ?_)
    refine fs_Jeq (g2 := F0 m 78 ls [.ref r14]) rfl ?_
    refine fs_Jck S hG rfl tw_2_175 tb_7_82 d_Exporter_watch_78 ?_
    refine fs_lift (fun _ _ _ _ => lv_iload hx hb d_Exporter_watch_81 (lv_at hl 1 rfl)) ?_
    refine fs_lift (fun _ _ _ _ => lv_aload_n hx hb d_Exporter_watch_83 rfl (lv_at hl 0 rfl)) ?_
    refine fs_Jgi S hG fs_in1 rfl 4 (Nat.le_of_ble_eq_true rfl) tw_1_132 (fun _ h9 => h9) d_Exporter_watch_84 (fun v15 => ?_)
    refine fs_JV S hG hR rfl [.int x4, .int v15] (enc := fun _ => none) (fun zr zs zt zh => m_Flow_addPacket X l r14 x4 v15 zh) tw_3_57 tw_3_58 tw_3_59 tw_3_60 tw_1_23 q_Flow_addPacket ⟨(Nat.le_of_ble_eq_true rfl), (Nat.le_of_ble_eq_true rfl)⟩ hl.1 rfl (Nat.le_of_ble_eq_true rfl) d_Exporter_watch_87 (fun _ => ?_)
    refine fs_Jeq (g2 := F0 m 90 ls []) rfl ?_
    refine fs_lift (fun _ _ _ _ => lv_iload hx hb d_Exporter_watch_90 (lv_at hl 2 rfl)) ?_
    refine fs_if (fun _ _ _ _ => lv_if_eq hx hb d_Exporter_watch_92 rfl) ?_ ?_
    · exact fs_Jvret S hr hk rfl d_Exporter_watch_102
    · refine fs_lift (fun _ _ _ _ => lv_aload_n hx hb d_Exporter_watch_95 rfl (lv_at hl 0 rfl)) ?_
      refine fs_lift (fun _ _ _ _ => lv_iload hx hb d_Exporter_watch_96 (lv_at hl 3 rfl)) ?_
      refine fs_lift (fun _ _ _ _ => lv_iconst (v := 3) hx hb d_Exporter_watch_98 (by decide)) ?_
      refine fs_JV S hG hR rfl [.int v12, .int 3] (enc := fun _ => none) (fun zr zs zt zh => m_Exporter_end X l a0 v12 3 zh) tw_2_184 tw_2_185 tw_2_186 tw_2_187 tw_1_2 q_Exporter_end ⟨(Nat.le_of_ble_eq_true rfl), (Nat.le_of_ble_eq_true rfl)⟩ hl.1 rfl (Nat.le_of_ble_eq_true rfl) d_Exporter_watch_99 (fun _ => ?_)
      refine fs_Jeq (g2 := F0 m 102 ls []) rfl ?_
      exact fs_Jvret S hr hk rfl d_Exporter_watch_102
  · refine fs_ifn (fun _ _ _ _ => lv_icmp_ne hx hb d_Exporter_watch_12 rfl) ?_ ?_
    · refine fs_lift (fun _ _ _ _ => lv_aload_n hx hb d_Exporter_watch_15 rfl (lv_at hl 1 rfl)) ?_
      refine fs_Jgr S hG fs_in1 rfl 1 (Nat.le_of_ble_eq_true rfl) tw_1_126 (fun _ h9 => h9) d_Exporter_watch_16 (fun r2 => ?_)
      refine fs_JV S hG hR rfl [] (enc := fun r => some (.int r)) (fun zr zs zt zh => m_ArrayList_size X l r2 zh) tw_2_145 tw_2_29 tw_2_30 tw_2_31 tw_1_5 q_ArrayList_size ⟨(Nat.le_of_ble_eq_true rfl), (Nat.le_of_ble_eq_true rfl)⟩ hl.1 rfl (Nat.le_of_ble_eq_true rfl) d_Exporter_watch_19 (fun v3 => ?_)
      refine fs_Jeq (g2 := F0 m 22 ls [.int v3]) rfl ?_
      refine fs_lift (fun _ _ _ _ => lv_bipush (v := 6) hx hb d_Exporter_watch_22 (by decide)) ?_
      refine fs_Jlet1 (nL := 7) (pj := 36) (I := fun (_ : Unit) => [(0, .ref a0), (1, .int x1), (2, .int x2), (3, .int x3), (4, .int x4), (5, .int x5)]) (st := fun (_ : Unit) => []) (fun _ ls hl => ?_) (fun j36 hj36 => ?_)
      · refine fs_lift (fun _ _ _ _ => lv_aload_n hx hb d_Exporter_watch_36 rfl (lv_at hl 0 rfl)) ?_
        refine fs_Jgr S hG fs_in1 rfl 1 (Nat.le_of_ble_eq_true rfl) tw_1_126 (fun _ h9 => h9) d_Exporter_watch_37 (fun r5 => ?_)
        refine fs_Jnw S hG hR fs_in8 rfl fs_Y8 fs_ty8 fs_dv8 rfl tw_2_175 tw_3_21 tw_1_23 d_Exporter_watch_40 (fun r6 => ?_)
        refine fs_lift (fun _ _ _ _ => lv_dup hx hb d_Exporter_watch_43 rfl) ?_
        refine fs_lift (fun _ _ _ _ => lv_iload_n hx hb d_Exporter_watch_44 rfl (lv_at hl 1 rfl)) ?_
        refine fs_lift (fun _ _ _ _ => lv_iload_n hx hb d_Exporter_watch_45 rfl (lv_at hl 2 rfl)) ?_
        refine fs_lift (fun _ _ _ _ => lv_iload_n hx hb d_Exporter_watch_46 rfl (lv_at hl 3 rfl)) ?_
        refine fs_lift (fun _ _ _ _ => lv_aload_n hx hb d_Exporter_watch_47 rfl (lv_at hl 0 rfl)) ?_
        refine fs_Jgi S hG fs_in1 rfl 4 (Nat.le_of_ble_eq_true rfl) tw_1_132 (fun _ h9 => h9) d_Exporter_watch_48 (fun v7 => ?_)
        refine fs_JI S hG hR [.int x1, .int x2, .int x3, .int v7] (fun zr zs zt zh => m_Flow_init X l r6 x1 x2 x3 v7 zh) tw_3_22 tw_3_23 tw_3_24 tw_1_23 rfl q_Flow_init ⟨(Nat.le_of_ble_eq_true rfl), (Nat.le_of_ble_eq_true rfl)⟩ hl.1 rfl (Nat.le_of_ble_eq_true rfl) d_Exporter_watch_51 ?_
        refine fs_Jeq (g2 := F0 m 54 ls [.ref r6, .ref r5]) rfl ?_
        refine fs_JV S hG hR rfl [.ref r6] (enc := fun r => some (.int r)) (fun zr zs zt zh => m_ArrayList_add_0 X l r5 r6 zh) tw_2_199 tw_2_200 tw_2_201 tw_2_202 tw_1_5 q_ArrayList_add_0 ⟨(Nat.le_of_ble_eq_true rfl), (Nat.le_of_ble_eq_true rfl)⟩ hl.1 rfl (Nat.le_of_ble_eq_true rfl) d_Exporter_watch_54 (fun v8 => ?_)
        refine fs_Jeq (g2 := F0 m 57 ls [.int v8]) rfl ?_
        refine fs_lift (fun _ _ _ _ => lv_pop hx hb d_Exporter_watch_57 rfl) ?_
        refine fs_lift (fun _ _ _ _ => lv_aload_n hx hb d_Exporter_watch_58 rfl (lv_at hl 0 rfl)) ?_
        refine fs_Jgr S hG fs_in1 rfl 1 (Nat.le_of_ble_eq_true rfl) tw_1_126 (fun _ h9 => h9) d_Exporter_watch_59 (fun r9 => ?_)
        refine fs_JV S hG hR rfl [] (enc := fun r => some (.int r)) (fun zr zs zt zh => m_ArrayList_size X l r9 zh) tw_2_145 tw_2_29 tw_2_30 tw_2_31 tw_1_5 q_ArrayList_size ⟨(Nat.le_of_ble_eq_true rfl), (Nat.le_of_ble_eq_true rfl)⟩ hl.1 rfl (Nat.le_of_ble_eq_true rfl) d_Exporter_watch_62 (fun v10 => ?_)
        refine fs_Jeq (g2 := F0 m 65 ls [.int v10]) rfl ?_
        refine fs_lift (fun _ _ _ _ => lv_iconst (v := 1) hx hb d_Exporter_watch_65 (by decide)) ?_
        refine fs_lift (fun _ _ _ _ => lv_isub hx hb d_Exporter_watch_66) ?_
        refine fs_Jni (fun v11 => ?_)
        refine fs_liftL (fun _ _ _ _ => lv_istore (lv' := [(6, .int v11), (0, .ref a0), (1, .int x1), (2, .int x2), (3, .int x3), (4, .int x4), (5, .int x5)]) hx hb d_Exporter_watch_67 hl (Nat.le_of_ble_eq_true rfl) rfl) (fun ls hl => ?_)
        exact hj69 v11 ls (lv_sub hl [1, 5, 6, 0] rfl)
      · refine fs_if (fun _ _ _ _ => lv_icmp_lt hx hb d_Exporter_watch_24 rfl) ?_ ?_
        · exact hj36 () ls (lv_sub hl [1, 2, 3, 4, 5, 6] rfl)
        · refine fs_lift (fun _ _ _ _ => lv_aload_n hx hb d_Exporter_watch_27 rfl (lv_at hl 1 rfl)) ?_
          refine fs_lift (fun _ _ _ _ => lv_aload_n hx hb d_Exporter_watch_28 rfl (lv_at hl 1 rfl)) ?_
          refine fs_JV S hG hR rfl [] (enc := fun r => some (.int r)) (fun zr zs zt zh => m_Exporter_leastRecent X l a0 zh) tw_2_180 tw_2_181 tw_2_182 tw_2_183 tw_1_2 q_Exporter_leastRecent ⟨(Nat.le_of_ble_eq_true rfl), (Nat.le_of_ble_eq_true rfl)⟩ hl.1 rfl (Nat.le_of_ble_eq_true rfl) d_Exporter_watch_29 (fun v4 => ?_)
          refine fs_Jeq (g2 := F0 m 32 ls [.int v4, .ref a0]) rfl ?_
          refine fs_lift (fun _ _ _ _ => lv_iconst (v := 4) hx hb d_Exporter_watch_32 (by decide)) ?_
          refine fs_JV S hG hR rfl [.int v4, .int 4] (enc := fun _ => none) (fun zr zs zt zh => m_Exporter_end X l a0 v4 4 zh) tw_2_184 tw_2_185 tw_2_186 tw_2_187 tw_1_2 q_Exporter_end ⟨(Nat.le_of_ble_eq_true rfl), (Nat.le_of_ble_eq_true rfl)⟩ hl.1 rfl (Nat.le_of_ble_eq_true rfl) d_Exporter_watch_33 (fun _ => ?_)
          refine fs_Jeq (g2 := F0 m 36 ls []) rfl ?_
          exact hj36 () ls (lv_sub hl [1, 2, 3, 4, 5, 6] rfl)
    · exact hj69 v1 ls (lv_sub hl [1, 5, 6, 0] rfl)

theorem d_Fs_packet_0 : decode prog_1_method_2_code 0 = .ok (.aload_n 0, 1) := by decide +kernel
theorem d_Fs_packet_1 : decode prog_1_method_2_code 1 = .ok (.iload_n 1, 1) := by decide +kernel
theorem d_Fs_packet_2 : decode prog_1_method_2_code 2 = .ok (.invokevirtual 35, 3) := by decide +kernel
theorem d_Fs_packet_5 : decode prog_1_method_2_code 5 = .ok (.astore 7, 2) := by decide +kernel
theorem d_Fs_packet_7 : decode prog_1_method_2_code 7 = .ok (.iload_n 2, 1) := by decide +kernel
theorem d_Fs_packet_8 : decode prog_1_method_2_code 8 = .ok (.invokestatic 39, 3) := by decide +kernel
theorem d_Fs_packet_11 : decode prog_1_method_2_code 11 = .ok (.ifCond .eq 18, 3) := by decide +kernel
theorem d_Fs_packet_14 : decode prog_1_method_2_code 14 = .ok (.iload_n 3, 1) := by decide +kernel
theorem d_Fs_packet_15 : decode prog_1_method_2_code 15 = .ok (.invokestatic 39, 3) := by decide +kernel
theorem d_Fs_packet_18 : decode prog_1_method_2_code 18 = .ok (.ifCond .eq 11, 3) := by decide +kernel
theorem d_Fs_packet_21 : decode prog_1_method_2_code 21 = .ok (.iload 4, 2) := by decide +kernel
theorem d_Fs_packet_23 : decode prog_1_method_2_code 23 = .ok (.invokestatic 39, 3) := by decide +kernel
theorem d_Fs_packet_26 : decode prog_1_method_2_code 26 = .ok (.ifCond .ne 13, 3) := by decide +kernel
theorem d_Fs_packet_29 : decode prog_1_method_2_code 29 = .ok (.new 43, 3) := by decide +kernel
theorem d_Fs_packet_32 : decode prog_1_method_2_code 32 = .ok (.dup, 1) := by decide +kernel
theorem d_Fs_packet_33 : decode prog_1_method_2_code 33 = .ok (.ldc 45, 2) := by decide +kernel
theorem d_Fs_packet_35 : decode prog_1_method_2_code 35 = .ok (.invokespecial 47, 3) := by decide +kernel
theorem d_Fs_packet_38 : decode prog_1_method_2_code 38 = .ok (.athrow, 1) := by decide +kernel
theorem d_Fs_packet_39 : decode prog_1_method_2_code 39 = .ok (.iload 5, 2) := by decide +kernel
theorem d_Fs_packet_41 : decode prog_1_method_2_code 41 = .ok (.ifCond .lt 11, 3) := by decide +kernel
theorem d_Fs_packet_44 : decode prog_1_method_2_code 44 = .ok (.iload 5, 2) := by decide +kernel
theorem d_Fs_packet_46 : decode prog_1_method_2_code 46 = .ok (.sipush 9999, 3) := by decide +kernel
theorem d_Fs_packet_49 : decode prog_1_method_2_code 49 = .ok (.if_icmp .le 13, 3) := by decide +kernel
theorem d_Fs_packet_52 : decode prog_1_method_2_code 52 = .ok (.new 43, 3) := by decide +kernel
theorem d_Fs_packet_55 : decode prog_1_method_2_code 55 = .ok (.dup, 1) := by decide +kernel
theorem d_Fs_packet_56 : decode prog_1_method_2_code 56 = .ok (.ldc 50, 2) := by decide +kernel
theorem d_Fs_packet_58 : decode prog_1_method_2_code 58 = .ok (.invokespecial 47, 3) := by decide +kernel
theorem d_Fs_packet_61 : decode prog_1_method_2_code 61 = .ok (.athrow, 1) := by decide +kernel
theorem d_Fs_packet_62 : decode prog_1_method_2_code 62 = .ok (.aload 7, 2) := by decide +kernel
theorem d_Fs_packet_64 : decode prog_1_method_2_code 64 = .ok (.invokevirtual 52, 3) := by decide +kernel
theorem d_Fs_packet_67 : decode prog_1_method_2_code 67 = .ok (.bipush 20, 2) := by decide +kernel
theorem d_Fs_packet_69 : decode prog_1_method_2_code 69 = .ok (.if_icmp .lt 13, 3) := by decide +kernel
theorem d_Fs_packet_72 : decode prog_1_method_2_code 72 = .ok (.new 56, 3) := by decide +kernel
theorem d_Fs_packet_75 : decode prog_1_method_2_code 75 = .ok (.dup, 1) := by decide +kernel
theorem d_Fs_packet_76 : decode prog_1_method_2_code 76 = .ok (.ldc 58, 2) := by decide +kernel
theorem d_Fs_packet_78 : decode prog_1_method_2_code 78 = .ok (.invokespecial 60, 3) := by decide +kernel
theorem d_Fs_packet_81 : decode prog_1_method_2_code 81 = .ok (.athrow, 1) := by decide +kernel
theorem d_Fs_packet_82 : decode prog_1_method_2_code 82 = .ok (.aload 7, 2) := by decide +kernel
theorem d_Fs_packet_84 : decode prog_1_method_2_code 84 = .ok (.invokevirtual 61, 3) := by decide +kernel
theorem d_Fs_packet_87 : decode prog_1_method_2_code 87 = .ok (.ifCond .ne 5, 3) := by decide +kernel
theorem d_Fs_packet_90 : decode prog_1_method_2_code 90 = .ok (.iconst 0, 1) := by decide +kernel
theorem d_Fs_packet_91 : decode prog_1_method_2_code 91 = .ok (.ireturn, 1) := by decide +kernel
theorem d_Fs_packet_92 : decode prog_1_method_2_code 92 = .ok (.aload 7, 2) := by decide +kernel
theorem d_Fs_packet_94 : decode prog_1_method_2_code 94 = .ok (.iload_n 2, 1) := by decide +kernel
theorem d_Fs_packet_95 : decode prog_1_method_2_code 95 = .ok (.iload_n 3, 1) := by decide +kernel
theorem d_Fs_packet_96 : decode prog_1_method_2_code 96 = .ok (.iload 4, 2) := by decide +kernel
theorem d_Fs_packet_98 : decode prog_1_method_2_code 98 = .ok (.iload 5, 2) := by decide +kernel
theorem d_Fs_packet_100 : decode prog_1_method_2_code 100 = .ok (.iload 6, 2) := by decide +kernel
theorem d_Fs_packet_102 : decode prog_1_method_2_code 102 = .ok (.invokevirtual 65, 3) := by decide +kernel
theorem d_Fs_packet_105 : decode prog_1_method_2_code 105 = .ok (.iconst 1, 1) := by decide +kernel
theorem d_Fs_packet_106 : decode prog_1_method_2_code 106 = .ok (.ireturn, 1) := by decide +kernel
theorem q_Fs_packet : (⟨"FlowShelf", "packet", "(IIIIIZ)Z"⟩ : MethodName).cls ≠ "java/lang/invoke/MethodHandle" ∧ (⟨"FlowShelf", "packet", "(IIIIIZ)Z"⟩ : MethodName).cls ≠ "java/lang/invoke/VarHandle" ∧ (parseMethodDescriptor (⟨"FlowShelf", "packet", "(IIIIIZ)Z"⟩ : MethodName).desc).map (fun d => d.parameters.length) = some 6 := by decide +kernel
set_option maxHeartbeats 4000000 in
set_option maxRecDepth 100000 in
theorem m_Fs_packet (X : fs_X) (l : Launch) (hl0 : l.stackTraces = false) (a0 : Nat) (x1 : Int32) (x2 : Int32) (x3 : Int32) (x4 : Int32) (x5 : Int32) (x6 : Int32) {r : (Int32 ⊕ String)} {σ σF : fs_S} (h : (f_Fs_packet a0 x1 x2 x3 x4 x5 x6).1 σ = some (r, σF)) : fs_Met X l ⟨"FlowShelf", "packet", "(IIIIIZ)Z"⟩ (Cond.code ⟨"FlowShelf", "packet", "(IIIIIZ)Z"⟩ prog_1_method_2_code 8 (some FieldType.boolean)) 9 240 [.ref a0, .int x1, .int x2, .int x3, .int x4, .int x5, .int x6] σ (fs_qI r) σF := by
  refine fs_ofW (by decide) ?_
  intro p e s m args below meth c s₁ B hml hT hv
  obtain ⟨rfl, hw0, hG⟩ := hv
  have hx := B.exec
  have hb := B.bytes
  have hr := B.returns
  have hk := B.notSynchronized
  have S : CallFix p m c prog_1_method_2_code 8 s _ fs_ws "FlowShelf" := ⟨B.exec, B.bytes, hml, findClass_of_methodNamed B.named, fun w hw => atoms_spec (ws := _ :: fs_ws) B.pre w (List.mem_cons_of_mem _ hw)⟩
  have hR := fs_hR (fr := 9) (lo := 240) ((f_Fs_packet a0 x1 x2 x3 x4 x5 x6).2 _ _ _ h)
  have hl := lv_entry ([.ref a0, .int x1, .int x2, .int x3, .int x4, .int x5, .int x6]) (n := 8) (Nat.le_of_ble_eq_true rfl)
  rw [lg_entry_eq]
  generalize (lg_sl ([.ref a0, .int x1, .int x2, .int x3, .int x4, .int x5, .int x6]) ++ List.replicate (8 - (lg_sl ([.ref a0, .int x1, .int x2, .int x3, .int x4, .int x5, .int x6])).length) Slot.unset).toArray = ls at hl ⊢
  have hl : lv_has ls 8 [(0, .ref a0), (1, .int x1), (2, .int x2), (3, .int x3), (4, .int x4), (5, .int x5), (6, .int x6)] := hl
  refine (?_ : fs_J X p l e (fs_rm 9 240 σ σF) s m _ below meth c (fs_Q X below _ s (fs_qI r) σ σF) r σ σF (f_Fs_packet a0 x1 x2 x3 x4 x5 x6) (F0 m 0 ls [])) σ s.heap [] 0 0 h hw0 va_S.rf rfl rfl
  clear h hw0
  unfold f_Fs_packet
  refine fs_lift (fun _ _ _ _ => lv_aload_n hx hb d_Fs_packet_0 rfl (lv_at hl 0 rfl)) ?_
  refine fs_lift (fun _ _ _ _ => lv_iload_n hx hb d_Fs_packet_1 rfl (lv_at hl 1 rfl)) ?_
  refine fs_JVx S hG hR hT hk rfl [.int x1] (fun r => some (.ref r)) (encx := fs_qR) (fun _ => rfl) (fun _ => rfl) (fun zr zs zt zh => m_Fs_exporterOf X l hl0 a0 x1 zh) tw_2_60 tw_2_62 tp_1_1 tw_2_63 tw_1_1 q_Fs_exporterOf ⟨(Nat.le_of_ble_eq_true rfl), (Nat.le_of_ble_eq_true rfl)⟩ hl.1 rfl (Nat.le_of_ble_eq_true rfl) d_Fs_packet_2 (enc := fs_qI) (fun _ => rfl) (fun r1 => ?_)
  refine fs_Jeq (g2 := F0 m 5 ls [.ref r1]) rfl ?_
  refine fs_liftL (fun _ _ _ _ => lv_astore (lv' := [(7, .ref r1), (0, .ref a0), (1, .int x1), (2, .int x2), (3, .int x3), (4, .int x4), (5, .int x5), (6, .int x6)]) hx hb d_Fs_packet_5 hl (Nat.le_of_ble_eq_true rfl) rfl) (fun ls hl => ?_)
  refine fs_lift (fun _ _ _ _ => lv_iload_n hx hb d_Fs_packet_7 rfl (lv_at hl 3 rfl)) ?_
  refine fs_JS S hG hR [.int x2] (enc := fun r => some (.int r)) (fun zr zs zt zh => m_Fs_isByte X l x2 zh) tw_2_136 tw_2_137 tw_2_138 tw_1_1 q_Fs_isByte ⟨(Nat.le_of_ble_eq_true rfl), (Nat.le_of_ble_eq_true rfl)⟩ hl.1 rfl (Nat.le_of_ble_eq_true rfl) d_Fs_packet_8 (fun v2 => ?_)
  refine fs_Jeq (g2 := F0 m 11 ls [.int v2]) rfl ?_
  refine fs_Jlet1 (nL := 8) (pj := 29) (I := fun (_ : Unit) => []) (st := fun (_ : Unit) => []) (fun _ ls hl => ?_) (fun j29 hj29 => ?_)
  · exact fs_Jthrow S hG hR hl0 (names := fs_nms) (len := 2) (.ldc 45) (Or.inl ⟨rfl, rfl⟩) (by decide) fs_fit fs_at1 tw_2_67 tw_1_15 tb_2_139 hl.1 hT hk (Nat.le_of_ble_eq_true rfl) (Nat.le_of_ble_eq_true rfl) d_Fs_packet_29 d_Fs_packet_32 d_Fs_packet_33 d_Fs_packet_35 d_Fs_packet_38 rfl
  · refine fs_if (fun _ _ _ _ => lv_if_eq hx hb d_Fs_packet_11 rfl) ?_ ?_
    · exact hj29 () ls (lv_sub hl [] rfl)
    · refine fs_lift (fun _ _ _ _ => lv_iload_n hx hb d_Fs_packet_14 rfl (lv_at hl 4 rfl)) ?_
      refine fs_JS S hG hR [.int x3] (enc := fun r => some (.int r)) (fun zr zs zt zh => m_Fs_isByte X l x3 zh) tw_2_136 tw_2_137 tw_2_138 tw_1_1 q_Fs_isByte ⟨(Nat.le_of_ble_eq_true rfl), (Nat.le_of_ble_eq_true rfl)⟩ hl.1 rfl (Nat.le_of_ble_eq_true rfl) d_Fs_packet_15 (fun v3 => ?_)
      refine fs_Jeq (g2 := F0 m 18 ls [.int v3]) rfl ?_
      refine fs_if (fun _ _ _ _ => lv_if_eq hx hb d_Fs_packet_18 rfl) ?_ ?_
      · exact hj29 () ls (lv_sub hl [] rfl)
      · refine fs_lift (fun _ _ _ _ => lv_iload hx hb d_Fs_packet_21 (lv_at hl 5 rfl)) ?_
        refine fs_JS S hG hR [.int x4] (enc := fun r => some (.int r)) (fun zr zs zt zh => m_Fs_isByte X l x4 zh) tw_2_136 tw_2_137 tw_2_138 tw_1_1 q_Fs_isByte ⟨(Nat.le_of_ble_eq_true rfl), (Nat.le_of_ble_eq_true rfl)⟩ hl.1 rfl (Nat.le_of_ble_eq_true rfl) d_Fs_packet_23 (fun v4 => ?_)
        refine fs_Jeq (g2 := F0 m 26 ls [.int v4]) rfl ?_
        refine fs_ifn (fun _ _ _ _ => lv_if_ne hx hb d_Fs_packet_26 rfl) ?_ ?_
        · exact hj29 () ls (lv_sub hl [] rfl)
        · refine fs_lift (fun _ _ _ _ => lv_iload hx hb d_Fs_packet_39 (lv_at hl 6 rfl)) ?_
          refine fs_Jlet1 (nL := 8) (pj := 52) (I := fun (_ : Unit) => []) (st := fun (_ : Unit) => []) (fun _ ls hl => ?_) (fun j52 hj52 => ?_)
          · exact fs_Jthrow S hG hR hl0 (names := fs_nms) (len := 2) (.ldc 50) (Or.inl ⟨rfl, rfl⟩) (by decide) fs_fit fs_at1 tw_2_67 tw_1_15 tb_2_140 hl.1 hT hk (Nat.le_of_ble_eq_true rfl) (Nat.le_of_ble_eq_true rfl) d_Fs_packet_52 d_Fs_packet_55 d_Fs_packet_56 d_Fs_packet_58 d_Fs_packet_61 rfl
          · refine fs_if (fun _ _ _ _ => lv_if_lt hx hb d_Fs_packet_41 rfl) ?_ ?_
            · exact hj52 () ls (lv_sub hl [] rfl)
            · refine fs_lift (fun _ _ _ _ => lv_iload hx hb d_Fs_packet_44 (lv_at hl 6 rfl)) ?_
              refine fs_lift (fun _ _ _ _ => lv_sipush (v := 9999) hx hb d_Fs_packet_46 (by decide)) ?_
              refine fs_if (fun _ _ _ _ => lv_icmp_le hx hb d_Fs_packet_49 rfl) ?_ ?_
              · refine fs_lift (fun _ _ _ _ => lv_aload hx hb d_Fs_packet_62 (lv_at hl 0 rfl)) ?_
                refine fs_JV S hG hR rfl [] (enc := fun r => some (.int r)) (fun zr zs zt zh => m_Exporter_flowsHeld X l r1 zh) tw_2_141 tw_2_142 tw_2_143 tw_2_144 tw_1_2 q_Exporter_flowsHeld ⟨(Nat.le_of_ble_eq_true rfl), (Nat.le_of_ble_eq_true rfl)⟩ hl.1 rfl (Nat.le_of_ble_eq_true rfl) d_Fs_packet_64 (fun v5 => ?_)
                refine fs_Jeq (g2 := F0 m 67 ls [.int v5]) rfl ?_
                refine fs_lift (fun _ _ _ _ => lv_bipush (v := 20) hx hb d_Fs_packet_67 (by decide)) ?_
                refine fs_if (fun _ _ _ _ => lv_icmp_lt hx hb d_Fs_packet_69 rfl) ?_ ?_
                · refine fs_lift (fun _ _ _ _ => lv_aload hx hb d_Fs_packet_82 (lv_at hl 0 rfl)) ?_
                  refine fs_JV S hG hR rfl [] (enc := fun r => some (.int r)) (fun zr zs zt zh => m_Exporter_samplesNext X l r1 zh) tw_2_162 tw_2_163 tw_2_164 tw_2_165 tw_1_2 q_Exporter_samplesNext ⟨(Nat.le_of_ble_eq_true rfl), (Nat.le_of_ble_eq_true rfl)⟩ hl.1 rfl (Nat.le_of_ble_eq_true rfl) d_Fs_packet_84 (fun v6 => ?_)
                  refine fs_Jeq (g2 := F0 m 87 ls [.int v6]) rfl ?_
                  refine fs_ifn (fun _ _ _ _ => lv_if_ne hx hb d_Fs_packet_87 rfl) ?_ ?_
                  · refine fs_lift (fun _ _ _ _ => lv_iconst (v := 0) hx hb d_Fs_packet_90 (by decide)) ?_
                    exact fs_Jzret S hr hk rfl d_Fs_packet_91
                  · refine fs_lift (fun _ _ _ _ => lv_aload hx hb d_Fs_packet_92 (lv_at hl 0 rfl)) ?_
                    refine fs_lift (fun _ _ _ _ => lv_iload_n hx hb d_Fs_packet_94 rfl (lv_at hl 3 rfl)) ?_
                    refine fs_lift (fun _ _ _ _ => lv_iload_n hx hb d_Fs_packet_95 rfl (lv_at hl 4 rfl)) ?_
                    refine fs_lift (fun _ _ _ _ => lv_iload hx hb d_Fs_packet_96 (lv_at hl 5 rfl)) ?_
                    refine fs_lift (fun _ _ _ _ => lv_iload hx hb d_Fs_packet_98 (lv_at hl 6 rfl)) ?_
                    refine fs_lift (fun _ _ _ _ => lv_iload hx hb d_Fs_packet_100 (lv_at hl 7 rfl)) ?_
                    refine fs_JV S hG hR rfl [.int x2, .int x3, .int x4, .int x5, .int x6] (enc := fun _ => none) (fun zr zs zt zh => m_Exporter_watch X l r1 x2 x3 x4 x5 x6 zh) tw_2_166 tw_2_167 tw_2_168 tw_2_169 tw_1_2 q_Exporter_watch ⟨(Nat.le_of_ble_eq_true rfl), (Nat.le_of_ble_eq_true rfl)⟩ hl.1 rfl (Nat.le_of_ble_eq_true rfl) d_Fs_packet_102 (fun _ => ?_)
                    refine fs_Jeq (g2 := F0 m 105 ls []) rfl ?_
                    refine fs_lift (fun _ _ _ _ => lv_iconst (v := 1) hx hb d_Fs_packet_105 (by decide)) ?_
                    exact fs_Jzret S hr hk rfl d_Fs_packet_106
                · exact fs_Jthrow S hG hR hl0 (names := fs_nms) (len := 2) (.ldc 58) (Or.inl ⟨rfl, rfl⟩) (by decide) fs_fit fs_at2 tw_2_146 tw_1_16 tb_2_155 hl.1 hT hk (Nat.le_of_ble_eq_true rfl) (Nat.le_of_ble_eq_true rfl) d_Fs_packet_72 d_Fs_packet_75 d_Fs_packet_76 d_Fs_packet_78 d_Fs_packet_81 rfl
              · exact hj52 () ls (lv_sub hl [] rfl)

theorem d_Flow_reasonToEnd_0 : decode prog_5_method_4_code 0 = .ok (.iload_n 1, 1) := by decide +kernel
theorem d_Flow_reasonToEnd_1 : decode prog_5_method_4_code 1 = .ok (.aload_n 0, 1) := by decide +kernel
theorem d_Flow_reasonToEnd_2 : decode prog_5_method_4_code 2 = .ok (.getfield 30, 3) := by decide +kernel
theorem d_Flow_reasonToEnd_5 : decode prog_5_method_4_code 5 = .ok (.isub, 1) := by decide +kernel
theorem d_Flow_reasonToEnd_6 : decode prog_5_method_4_code 6 = .ok (.bipush 15, 2) := by decide +kernel
theorem d_Flow_reasonToEnd_8 : decode prog_5_method_4_code 8 = .ok (.if_icmp .lt 5, 3) := by decide +kernel
theorem d_Flow_reasonToEnd_11 : decode prog_5_method_4_code 11 = .ok (.iconst 1, 1) := by decide +kernel
theorem d_Flow_reasonToEnd_12 : decode prog_5_method_4_code 12 = .ok (.ireturn, 1) := by decide +kernel
theorem d_Flow_reasonToEnd_13 : decode prog_5_method_4_code 13 = .ok (.iload_n 1, 1) := by decide +kernel
theorem d_Flow_reasonToEnd_14 : decode prog_5_method_4_code 14 = .ok (.aload_n 0, 1) := by decide +kernel
theorem d_Flow_reasonToEnd_15 : decode prog_5_method_4_code 15 = .ok (.getfield 21, 3) := by decide +kernel
theorem d_Flow_reasonToEnd_18 : decode prog_5_method_4_code 18 = .ok (.isub, 1) := by decide +kernel
theorem d_Flow_reasonToEnd_19 : decode prog_5_method_4_code 19 = .ok (.bipush 60, 2) := by decide +kernel
theorem d_Flow_reasonToEnd_21 : decode prog_5_method_4_code 21 = .ok (.if_icmp .lt 7, 3) := by decide +kernel
theorem d_Flow_reasonToEnd_24 : decode prog_5_method_4_code 24 = .ok (.iconst 2, 1) := by decide +kernel
theorem d_Flow_reasonToEnd_25 : decode prog_5_method_4_code 25 = .ok (.goto 4, 3) := by decide +kernel
theorem d_Flow_reasonToEnd_28 : decode prog_5_method_4_code 28 = .ok (.iconst 0, 1) := by decide +kernel
theorem d_Flow_reasonToEnd_29 : decode prog_5_method_4_code 29 = .ok (.ireturn, 1) := by decide +kernel
theorem q_Flow_reasonToEnd : (⟨"FlowShelf$Flow", "reasonToEnd", "(I)I"⟩ : MethodName).cls ≠ "java/lang/invoke/MethodHandle" ∧ (⟨"FlowShelf$Flow", "reasonToEnd", "(I)I"⟩ : MethodName).cls ≠ "java/lang/invoke/VarHandle" ∧ (parseMethodDescriptor (⟨"FlowShelf$Flow", "reasonToEnd", "(I)I"⟩ : MethodName).desc).map (fun d => d.parameters.length) = some 1 := by decide +kernel
set_option maxHeartbeats 4000000 in
set_option maxRecDepth 100000 in
theorem m_Flow_reasonToEnd (X : fs_X) (l : Launch) (a0 : Nat) (x1 : Int32) {r : Int32} {σ σF : fs_S} (h : (f_Flow_reasonToEnd a0 x1).1 σ = some (r, σF)) : fs_Met X l ⟨"FlowShelf$Flow", "reasonToEnd", "(I)I"⟩ (Cond.code ⟨"FlowShelf$Flow", "reasonToEnd", "(I)I"⟩ prog_5_method_4_code 2 (some FieldType.int)) 0 0 [.ref a0, .int x1] σ (fs_eI r) σF := by
  refine fs_ofW (by decide) ?_
  intro p e s m args below meth c s₁ B hml hT hv
  obtain ⟨rfl, hw0, hG⟩ := hv
  have hx := B.exec
  have hb := B.bytes
  have hr := B.returns
  have hk := B.notSynchronized
  have S : CallFix p m c prog_5_method_4_code 2 s _ fs_ws "FlowShelf$Flow" := ⟨B.exec, B.bytes, hml, findClass_of_methodNamed B.named, fun w hw => atoms_spec (ws := _ :: fs_ws) B.pre w (List.mem_cons_of_mem _ hw)⟩
  have hR := fs_hR (fr := 0) (lo := 0) ((f_Flow_reasonToEnd a0 x1).2 _ _ _ h)
  have hl := lv_entry ([.ref a0, .int x1]) (n := 2) (Nat.le_of_ble_eq_true rfl)
  rw [lg_entry_eq]
  generalize (lg_sl ([.ref a0, .int x1]) ++ List.replicate (2 - (lg_sl ([.ref a0, .int x1])).length) Slot.unset).toArray = ls at hl ⊢
  have hl : lv_has ls 2 [(0, .ref a0), (1, .int x1)] := hl
  refine (?_ : fs_J X p l e (fs_rm 0 0 σ σF) s m _ below meth c (fs_Q X below _ s (fs_eI r) σ σF) r σ σF (f_Flow_reasonToEnd a0 x1) (F0 m 0 ls [])) σ s.heap [] 0 0 h hw0 va_S.rf rfl rfl
  clear h hw0
  unfold f_Flow_reasonToEnd
  refine fs_lift (fun _ _ _ _ => lv_iload_n hx hb d_Flow_reasonToEnd_0 rfl (lv_at hl 1 rfl)) ?_
  refine fs_lift (fun _ _ _ _ => lv_aload_n hx hb d_Flow_reasonToEnd_1 rfl (lv_at hl 0 rfl)) ?_
  refine fs_Jgi S hG fs_in8 rfl 6 (Nat.le_of_ble_eq_true rfl) tw_3_32 (fun _ h9 => h9) d_Flow_reasonToEnd_2 (fun v1 => ?_)
  refine fs_lift (fun _ _ _ _ => lv_isub hx hb d_Flow_reasonToEnd_5) ?_
  refine fs_lift (fun _ _ _ _ => lv_bipush (v := 15) hx hb d_Flow_reasonToEnd_6 (by decide)) ?_
  refine fs_if (fun _ _ _ _ => lv_icmp_lt hx hb d_Flow_reasonToEnd_8 rfl) ?_ ?_
  · refine fs_lift (fun _ _ _ _ => lv_iload_n hx hb d_Flow_reasonToEnd_13 rfl (lv_at hl 1 rfl)) ?_
    refine fs_lift (fun _ _ _ _ => lv_aload_n hx hb d_Flow_reasonToEnd_14 rfl (lv_at hl 0 rfl)) ?_
    refine fs_Jgi S hG fs_in8 rfl 3 (Nat.le_of_ble_eq_true rfl) tw_3_29 (fun _ h9 => h9) d_Flow_reasonToEnd_15 (fun v2 => ?_)
    refine fs_lift (fun _ _ _ _ => lv_isub hx hb d_Flow_reasonToEnd_18) ?_
    refine fs_lift (fun _ _ _ _ => lv_bipush (v := 60) hx hb d_Flow_reasonToEnd_19 (by decide)) ?_
    refine fs_if (fun _ _ _ _ => lv_icmp_lt hx hb d_Flow_reasonToEnd_21 rfl) ?_ ?_
    · refine fs_lift (fun _ _ _ _ => lv_iconst (v := 0) hx hb d_Flow_reasonToEnd_28 (by decide)) ?_
      exact fs_Jiret S hr hk rfl d_Flow_reasonToEnd_29
    · refine fs_lift (fun _ _ _ _ => lv_iconst (v := 2) hx hb d_Flow_reasonToEnd_24 (by decide)) ?_
      refine fs_lift (fun _ _ _ _ => lv_goto hx hb d_Flow_reasonToEnd_25 rfl) ?_
      exact fs_Jiret S hr hk rfl d_Flow_reasonToEnd_29
  · refine fs_lift (fun _ _ _ _ => lv_iconst (v := 1) hx hb d_Flow_reasonToEnd_11 (by decide)) ?_
    exact fs_Jiret S hr hk rfl d_Flow_reasonToEnd_12

theorem d_Exporter_passTick_0 : decode prog_4_method_9_code 0 = .ok (.aload_n 0, 1) := by decide +kernel
theorem d_Exporter_passTick_1 : decode prog_4_method_9_code 1 = .ok (.dup, 1) := by decide +kernel
theorem d_Exporter_passTick_2 : decode prog_4_method_9_code 2 = .ok (.getfield 57, 3) := by decide +kernel
theorem d_Exporter_passTick_5 : decode prog_4_method_9_code 5 = .ok (.iconst 1, 1) := by decide +kernel
theorem d_Exporter_passTick_6 : decode prog_4_method_9_code 6 = .ok (.iadd, 1) := by decide +kernel
theorem d_Exporter_passTick_7 : decode prog_4_method_9_code 7 = .ok (.putfield 57, 3) := by decide +kernel
theorem d_Exporter_passTick_10 : decode prog_4_method_9_code 10 = .ok (.aload_n 0, 1) := by decide +kernel
theorem d_Exporter_passTick_11 : decode prog_4_method_9_code 11 = .ok (.getfield 12, 3) := by decide +kernel
theorem d_Exporter_passTick_14 : decode prog_4_method_9_code 14 = .ok (.invokevirtual 37, 3) := by decide +kernel
theorem d_Exporter_passTick_17 : decode prog_4_method_9_code 17 = .ok (.istore_n 1, 1) := by decide +kernel
theorem d_Exporter_passTick_18 : decode prog_4_method_9_code 18 = .ok (.iconst 0, 1) := by decide +kernel
theorem d_Exporter_passTick_19 : decode prog_4_method_9_code 19 = .ok (.istore_n 2, 1) := by decide +kernel
theorem d_Exporter_passTick_20 : decode prog_4_method_9_code 20 = .ok (.iconst 0, 1) := by decide +kernel
theorem d_Exporter_passTick_21 : decode prog_4_method_9_code 21 = .ok (.istore_n 3, 1) := by decide +kernel
theorem d_Exporter_passTick_22 : decode prog_4_method_9_code 22 = .ok (.iload_n 3, 1) := by decide +kernel
theorem d_Exporter_passTick_23 : decode prog_4_method_9_code 23 = .ok (.iload_n 1, 1) := by decide +kernel
theorem d_Exporter_passTick_24 : decode prog_4_method_9_code 24 = .ok (.if_icmp .ge 47, 3) := by decide +kernel
theorem d_Exporter_passTick_27 : decode prog_4_method_9_code 27 = .ok (.aload_n 0, 1) := by decide +kernel
theorem d_Exporter_passTick_28 : decode prog_4_method_9_code 28 = .ok (.getfield 12, 3) := by decide +kernel
theorem d_Exporter_passTick_31 : decode prog_4_method_9_code 31 = .ok (.iload_n 2, 1) := by decide +kernel
theorem d_Exporter_passTick_32 : decode prog_4_method_9_code 32 = .ok (.invokevirtual 67, 3) := by decide +kernel
theorem d_Exporter_passTick_35 : decode prog_4_method_9_code 35 = .ok (.checkcast 55, 3) := by decide +kernel
theorem d_Exporter_passTick_38 : decode prog_4_method_9_code 38 = .ok (.aload_n 0, 1) := by decide +kernel
theorem d_Exporter_passTick_39 : decode prog_4_method_9_code 39 = .ok (.getfield 57, 3) := by decide +kernel
theorem d_Exporter_passTick_42 : decode prog_4_method_9_code 42 = .ok (.invokevirtual 90, 3) := by decide +kernel
theorem d_Exporter_passTick_45 : decode prog_4_method_9_code 45 = .ok (.istore 4, 2) := by decide +kernel
theorem d_Exporter_passTick_47 : decode prog_4_method_9_code 47 = .ok (.iload 4, 2) := by decide +kernel
theorem d_Exporter_passTick_49 : decode prog_4_method_9_code 49 = .ok (.ifCond .ne 9, 3) := by decide +kernel
theorem d_Exporter_passTick_52 : decode prog_4_method_9_code 52 = .ok (.iinc 2 1, 3) := by decide +kernel
theorem d_Exporter_passTick_55 : decode prog_4_method_9_code 55 = .ok (.goto 10, 3) := by decide +kernel
theorem d_Exporter_passTick_58 : decode prog_4_method_9_code 58 = .ok (.aload_n 0, 1) := by decide +kernel
theorem d_Exporter_passTick_59 : decode prog_4_method_9_code 59 = .ok (.iload_n 2, 1) := by decide +kernel
theorem d_Exporter_passTick_60 : decode prog_4_method_9_code 60 = .ok (.iload 4, 2) := by decide +kernel
theorem d_Exporter_passTick_62 : decode prog_4_method_9_code 62 = .ok (.invokevirtual 51, 3) := by decide +kernel
theorem d_Exporter_passTick_65 : decode prog_4_method_9_code 65 = .ok (.iinc 3 1, 3) := by decide +kernel
theorem d_Exporter_passTick_68 : decode prog_4_method_9_code 68 = .ok (.goto (-46), 3) := by decide +kernel
theorem d_Exporter_passTick_71 : decode prog_4_method_9_code 71 = .ok (.iload_n 1, 1) := by decide +kernel
theorem d_Exporter_passTick_72 : decode prog_4_method_9_code 72 = .ok (.aload_n 0, 1) := by decide +kernel
theorem d_Exporter_passTick_73 : decode prog_4_method_9_code 73 = .ok (.getfield 12, 3) := by decide +kernel
theorem d_Exporter_passTick_76 : decode prog_4_method_9_code 76 = .ok (.invokevirtual 37, 3) := by decide +kernel
theorem d_Exporter_passTick_79 : decode prog_4_method_9_code 79 = .ok (.isub, 1) := by decide +kernel
theorem d_Exporter_passTick_80 : decode prog_4_method_9_code 80 = .ok (.ireturn, 1) := by decide +kernel
theorem q_Exporter_passTick : (⟨"FlowShelf$Exporter", "passTick", "()I"⟩ : MethodName).cls ≠ "java/lang/invoke/MethodHandle" ∧ (⟨"FlowShelf$Exporter", "passTick", "()I"⟩ : MethodName).cls ≠ "java/lang/invoke/VarHandle" ∧ (parseMethodDescriptor (⟨"FlowShelf$Exporter", "passTick", "()I"⟩ : MethodName).desc).map (fun d => d.parameters.length) = some 0 := by decide +kernel
set_option maxHeartbeats 4000000 in
set_option maxRecDepth 100000 in
theorem m_Exporter_passTick (X : fs_X) (l : Launch) (a0 : Nat) {r : Int32} {σ σF : fs_S} (h : (f_Exporter_passTick a0).1 σ = some (r, σF)) : fs_Met X l ⟨"FlowShelf$Exporter", "passTick", "()I"⟩ (Cond.code ⟨"FlowShelf$Exporter", "passTick", "()I"⟩ prog_4_method_9_code 5 (some FieldType.int)) 8 214 [.ref a0] σ (fs_eI r) σF := by
  refine fs_ofW (by decide) ?_
  intro p e s m args below meth c s₁ B hml hT hv
  obtain ⟨rfl, hw0, hG⟩ := hv
  have hx := B.exec
  have hb := B.bytes
  have hr := B.returns
  have hk := B.notSynchronized
  have S : CallFix p m c prog_4_method_9_code 5 s _ fs_ws "FlowShelf$Exporter" := ⟨B.exec, B.bytes, hml, findClass_of_methodNamed B.named, fun w hw => atoms_spec (ws := _ :: fs_ws) B.pre w (List.mem_cons_of_mem _ hw)⟩
  have hR := fs_hR (fr := 8) (lo := 214) ((f_Exporter_passTick a0).2 _ _ _ h)
  have hl := lv_entry ([.ref a0]) (n := 5) (Nat.le_of_ble_eq_true rfl)
  rw [lg_entry_eq]
  generalize (lg_sl ([.ref a0]) ++ List.replicate (5 - (lg_sl ([.ref a0])).length) Slot.unset).toArray = ls at hl ⊢
  have hl : lv_has ls 5 [(0, .ref a0)] := hl
  refine (?_ : fs_J X p l e (fs_rm 8 214 σ σF) s m _ below meth c (fs_Q X below _ s (fs_eI r) σ σF) r σ σF (f_Exporter_passTick a0) (F0 m 0 ls [])) σ s.heap [] 0 0 h hw0 va_S.rf rfl rfl
  clear h hw0
  unfold f_Exporter_passTick
  refine fs_lift (fun _ _ _ _ => lv_aload_n hx hb d_Exporter_passTick_0 rfl (lv_at hl 0 rfl)) ?_
  refine fs_lift (fun _ _ _ _ => lv_dup hx hb d_Exporter_passTick_1 rfl) ?_
  refine fs_Jgi S hG fs_in1 rfl 4 (Nat.le_of_ble_eq_true rfl) tw_1_132 (fun _ h9 => h9) d_Exporter_passTick_2 (fun v1 => ?_)
  refine fs_lift (fun _ _ _ _ => lv_iconst (v := 1) hx hb d_Exporter_passTick_5 (by decide)) ?_
  refine fs_lift (fun _ _ _ _ => lv_iadd hx hb d_Exporter_passTick_6) ?_
  refine fs_Jput S hG fs_in1 rfl 4 (Nat.le_of_ble_eq_true rfl) tw_1_132 (fun _ h9 => h9) fs_Y1 fs_ty1 fs_nm1 (Or.inl rfl) rfl rfl d_Exporter_passTick_7 ?_
  refine fs_lift (fun _ _ _ _ => lv_aload_n hx hb d_Exporter_passTick_10 rfl (lv_at hl 0 rfl)) ?_
  refine fs_Jgr S hG fs_in1 rfl 1 (Nat.le_of_ble_eq_true rfl) tw_1_126 (fun _ h9 => h9) d_Exporter_passTick_11 (fun r2 => ?_)
  refine fs_JV S hG hR rfl [] (enc := fun r => some (.int r)) (fun zr zs zt zh => m_ArrayList_size X l r2 zh) tw_2_145 tw_2_29 tw_2_30 tw_2_31 tw_1_5 q_ArrayList_size ⟨(Nat.le_of_ble_eq_true rfl), (Nat.le_of_ble_eq_true rfl)⟩ hl.1 rfl (Nat.le_of_ble_eq_true rfl) d_Exporter_passTick_14 (fun v3 => ?_)
  refine fs_Jeq (g2 := F0 m 17 ls [.int v3]) rfl ?_
  refine fs_liftL (fun _ _ _ _ => lv_istore_n (lv' := [(1, .int v3), (0, .ref a0)]) hx hb d_Exporter_passTick_17 rfl hl (Nat.le_of_ble_eq_true rfl) rfl) (fun ls hl => ?_)
  refine fs_lift (fun _ _ _ _ => lv_iconst (v := 0) hx hb d_Exporter_passTick_18 (by decide)) ?_
  refine fs_liftL (fun _ _ _ _ => lv_istore_n (lv' := [(2, .int 0), (1, .int v3), (0, .ref a0)]) hx hb d_Exporter_passTick_19 rfl hl (Nat.le_of_ble_eq_true rfl) rfl) (fun ls hl => ?_)
  refine fs_lift (fun _ _ _ _ => lv_iconst (v := 0) hx hb d_Exporter_passTick_20 (by decide)) ?_
  refine fs_liftL (fun _ _ _ _ => lv_istore_n (lv' := [(3, .int 0), (2, .int 0), (1, .int v3), (0, .ref a0)]) hx hb d_Exporter_passTick_21 rfl hl (Nat.le_of_ble_eq_true rfl) rfl) (fun ls hl => ?_)
  refine fs_Jlp2 (nL := 5) (pc := 22) (rest := []) (I := fun (v4 : Int32) (v5 : Int32) => [(0, .ref a0), (1, .int v3), (2, .int v4), (3, .int v5)]) (fun k22 hk22 v4 v5 ls hl => ?_) _ _ _ _ (lv_sub hl [3, 2, 1, 0] rfl)
  refine fs_lift (fun _ _ _ _ => lv_iload_n hx hb d_Exporter_passTick_22 rfl (lv_at hl 3 rfl)) ?_
  refine fs_lift (fun _ _ _ _ => lv_iload_n hx hb d_Exporter_passTick_23 rfl (lv_at hl 1 rfl)) ?_
  refine fs_if (fun _ _ _ _ => lv_icmp_ge hx hb d_Exporter_passTick_24 rfl) ?_ ?_
  · refine fs_lift (fun _ _ _ _ => lv_iload_n hx hb d_Exporter_passTick_71 rfl (lv_at hl 1 rfl)) ?_
    refine fs_lift (fun _ _ _ _ => lv_aload_n hx hb d_Exporter_passTick_72 rfl (lv_at hl 0 rfl)) ?_
    refine fs_Jgr S hG fs_in1 rfl 1 (Nat.le_of_ble_eq_true rfl) tw_1_126 (fun _ h9 => h9) d_Exporter_passTick_73 (fun r6 => ?_)
    refine fs_JV S hG hR rfl [] (enc := fun r => some (.int r)) (fun zr zs zt zh => m_ArrayList_size X l r6 zh) tw_2_145 tw_2_29 tw_2_30 tw_2_31 tw_1_5 q_ArrayList_size ⟨(Nat.le_of_ble_eq_true rfl), (Nat.le_of_ble_eq_true rfl)⟩ hl.1 rfl (Nat.le_of_ble_eq_true rfl) d_Exporter_passTick_76 (fun v7 => ?_)
    refine fs_Jeq (g2 := F0 m 79 ls [.int v7, .int v3]) rfl ?_
    refine fs_lift (fun _ _ _ _ => lv_isub hx hb d_Exporter_passTick_79) ?_
    exact fs_Jiret S hr hk rfl d_Exporter_passTick_80
  · refine fs_lift (fun _ _ _ _ => lv_aload_n hx hb d_Exporter_passTick_27 rfl (lv_at hl 0 rfl)) ?_
    refine fs_Jgr S hG fs_in1 rfl 1 (Nat.le_of_ble_eq_true rfl) tw_1_126 (fun _ h9 => h9) d_Exporter_passTick_28 (fun r8 => ?_)
    refine fs_lift (fun _ _ _ _ => lv_iload_n hx hb d_Exporter_passTick_31 rfl (lv_at hl 2 rfl)) ?_
    refine fs_JV S hG hR rfl [.int v4] (enc := fun r => some (.ref r)) (fun zr zs zt zh => m_ArrayList_get X l r8 v4 zh) tw_2_174 tw_2_33 tw_2_34 tw_2_35 tw_1_5 q_ArrayList_get ⟨(Nat.le_of_ble_eq_true rfl), (Nat.le_of_ble_eq_true rfl)⟩ hl.1 rfl (Nat.le_of_ble_eq_true rfl) d_Exporter_passTick_32 (fun r9 => ?_)
    refine fs_Jeq (g2 := F0 m 35 ls [.ref r9]) rfl ?_
    refine fs_Jck S hG rfl tw_2_175 tb_7_82 d_Exporter_passTick_35 ?_
    refine fs_lift (fun _ _ _ _ => lv_aload_n hx hb d_Exporter_passTick_38 rfl (lv_at hl 0 rfl)) ?_
    refine fs_Jgi S hG fs_in1 rfl 4 (Nat.le_of_ble_eq_true rfl) tw_1_132 (fun _ h9 => h9) d_Exporter_passTick_39 (fun v10 => ?_)
    refine fs_JV S hG hR rfl [.int v10] (enc := fun r => some (.int r)) (fun zr zs zt zh => m_Flow_reasonToEnd X l r9 v10 zh) tw_3_73 tw_3_74 tw_3_75 tw_3_76 tw_1_23 q_Flow_reasonToEnd ⟨(Nat.le_of_ble_eq_true rfl), (Nat.le_of_ble_eq_true rfl)⟩ hl.1 rfl (Nat.le_of_ble_eq_true rfl) d_Exporter_passTick_42 (fun v11 => ?_)
    refine fs_Jeq (g2 := F0 m 45 ls [.int v11]) rfl ?_
    refine fs_liftL (fun _ _ _ _ => lv_istore (lv' := [(4, .int v11), (0, .ref a0), (1, .int v3), (2, .int v4), (3, .int v5)]) hx hb d_Exporter_passTick_45 hl (Nat.le_of_ble_eq_true rfl) rfl) (fun ls hl => ?_)
    refine fs_lift (fun _ _ _ _ => lv_iload hx hb d_Exporter_passTick_47 (lv_at hl 0 rfl)) ?_
    refine fs_Jlet1 (nL := 5) (pj := 65) (I := fun (v13 : Int32) => [(0, .ref a0), (1, .int v3), (2, .int v13), (3, .int v5)]) (st := fun (v13 : Int32) => []) (fun v13 ls hl => ?_) (fun j65 hj65 => ?_)
    · refine fs_Jnm (fun v14 hv9 => ?_)
      refine fs_liftL (fun _ _ _ _ => lv_iinc (k := 3) (v := v14) (lv' := [(3, .int v14), (0, .ref a0), (1, .int v3), (2, .int v13)]) hx hb d_Exporter_passTick_65 hl rfl (by rw [hv9]; rfl) (Nat.le_of_ble_eq_true rfl) rfl) (fun ls hl => ?_)
      refine fs_lift (fun _ _ _ _ => lv_goto hx hb d_Exporter_passTick_68 rfl) ?_
      exact hk22 v13 v14 ls (lv_sub hl [1, 2, 3, 0] rfl)
    · refine fs_ifn (fun _ _ _ _ => lv_if_ne hx hb d_Exporter_passTick_49 rfl) ?_ ?_
      · refine fs_Jnm (fun v12 hv9 => ?_)
        refine fs_liftL (fun _ _ _ _ => lv_iinc (k := 3) (v := v12) (lv' := [(2, .int v12), (4, .int v11), (0, .ref a0), (1, .int v3), (3, .int v5)]) hx hb d_Exporter_passTick_52 hl rfl (by rw [hv9]; rfl) (Nat.le_of_ble_eq_true rfl) rfl) (fun ls hl => ?_)
        refine fs_lift (fun _ _ _ _ => lv_goto hx hb d_Exporter_passTick_55 rfl) ?_
        exact hj65 v12 ls (lv_sub hl [2, 3, 0, 4] rfl)
      · refine fs_lift (fun _ _ _ _ => lv_aload_n hx hb d_Exporter_passTick_58 rfl (lv_at hl 1 rfl)) ?_
        refine fs_lift (fun _ _ _ _ => lv_iload_n hx hb d_Exporter_passTick_59 rfl (lv_at hl 3 rfl)) ?_
        refine fs_lift (fun _ _ _ _ => lv_iload hx hb d_Exporter_passTick_60 (lv_at hl 0 rfl)) ?_
        refine fs_JV S hG hR rfl [.int v4, .int v11] (enc := fun _ => none) (fun zr zs zt zh => m_Exporter_end X l a0 v4 v11 zh) tw_2_184 tw_2_185 tw_2_186 tw_2_187 tw_1_2 q_Exporter_end ⟨(Nat.le_of_ble_eq_true rfl), (Nat.le_of_ble_eq_true rfl)⟩ hl.1 rfl (Nat.le_of_ble_eq_true rfl) d_Exporter_passTick_62 (fun _ => ?_)
        refine fs_Jeq (g2 := F0 m 65 ls []) rfl ?_
        exact hj65 v4 ls (lv_sub hl [1, 2, 3, 4] rfl)

theorem d_Fs_tick_0 : decode prog_1_method_3_code 0 = .ok (.aload_n 0, 1) := by decide +kernel
theorem d_Fs_tick_1 : decode prog_1_method_3_code 1 = .ok (.iload_n 1, 1) := by decide +kernel
theorem d_Fs_tick_2 : decode prog_1_method_3_code 2 = .ok (.invokevirtual 35, 3) := by decide +kernel
theorem d_Fs_tick_5 : decode prog_1_method_3_code 5 = .ok (.astore_n 3, 1) := by decide +kernel
theorem d_Fs_tick_6 : decode prog_1_method_3_code 6 = .ok (.iload_n 2, 1) := by decide +kernel
theorem d_Fs_tick_7 : decode prog_1_method_3_code 7 = .ok (.iconst 1, 1) := by decide +kernel
theorem d_Fs_tick_8 : decode prog_1_method_3_code 8 = .ok (.if_icmp .lt 9, 3) := by decide +kernel
theorem d_Fs_tick_11 : decode prog_1_method_3_code 11 = .ok (.iload_n 2, 1) := by decide +kernel
theorem d_Fs_tick_12 : decode prog_1_method_3_code 12 = .ok (.bipush 100, 2) := by decide +kernel
theorem d_Fs_tick_14 : decode prog_1_method_3_code 14 = .ok (.if_icmp .le 13, 3) := by decide +kernel
theorem d_Fs_tick_17 : decode prog_1_method_3_code 17 = .ok (.new 43, 3) := by decide +kernel
theorem d_Fs_tick_20 : decode prog_1_method_3_code 20 = .ok (.dup, 1) := by decide +kernel
theorem d_Fs_tick_21 : decode prog_1_method_3_code 21 = .ok (.ldc 69, 2) := by decide +kernel
theorem d_Fs_tick_23 : decode prog_1_method_3_code 23 = .ok (.invokespecial 47, 3) := by decide +kernel
theorem d_Fs_tick_26 : decode prog_1_method_3_code 26 = .ok (.athrow, 1) := by decide +kernel
theorem d_Fs_tick_27 : decode prog_1_method_3_code 27 = .ok (.iconst 0, 1) := by decide +kernel
theorem d_Fs_tick_28 : decode prog_1_method_3_code 28 = .ok (.istore 4, 2) := by decide +kernel
theorem d_Fs_tick_30 : decode prog_1_method_3_code 30 = .ok (.iconst 0, 1) := by decide +kernel
theorem d_Fs_tick_31 : decode prog_1_method_3_code 31 = .ok (.istore 5, 2) := by decide +kernel
theorem d_Fs_tick_33 : decode prog_1_method_3_code 33 = .ok (.iload 5, 2) := by decide +kernel
theorem d_Fs_tick_35 : decode prog_1_method_3_code 35 = .ok (.iload_n 2, 1) := by decide +kernel
theorem d_Fs_tick_36 : decode prog_1_method_3_code 36 = .ok (.if_icmp .ge 18, 3) := by decide +kernel
theorem d_Fs_tick_39 : decode prog_1_method_3_code 39 = .ok (.iload 4, 2) := by decide +kernel
theorem d_Fs_tick_41 : decode prog_1_method_3_code 41 = .ok (.aload_n 3, 1) := by decide +kernel
theorem d_Fs_tick_42 : decode prog_1_method_3_code 42 = .ok (.invokevirtual 71, 3) := by decide +kernel
theorem d_Fs_tick_45 : decode prog_1_method_3_code 45 = .ok (.iadd, 1) := by decide +kernel
theorem d_Fs_tick_46 : decode prog_1_method_3_code 46 = .ok (.istore 4, 2) := by decide +kernel
theorem d_Fs_tick_48 : decode prog_1_method_3_code 48 = .ok (.iinc 5 1, 3) := by decide +kernel
theorem d_Fs_tick_51 : decode prog_1_method_3_code 51 = .ok (.goto (-18), 3) := by decide +kernel
theorem d_Fs_tick_54 : decode prog_1_method_3_code 54 = .ok (.iload 4, 2) := by decide +kernel
theorem d_Fs_tick_56 : decode prog_1_method_3_code 56 = .ok (.ireturn, 1) := by decide +kernel
theorem q_Fs_tick : (⟨"FlowShelf", "tick", "(II)I"⟩ : MethodName).cls ≠ "java/lang/invoke/MethodHandle" ∧ (⟨"FlowShelf", "tick", "(II)I"⟩ : MethodName).cls ≠ "java/lang/invoke/VarHandle" ∧ (parseMethodDescriptor (⟨"FlowShelf", "tick", "(II)I"⟩ : MethodName).desc).map (fun d => d.parameters.length) = some 2 := by decide +kernel
set_option maxHeartbeats 4000000 in
set_option maxRecDepth 100000 in
theorem m_Fs_tick (X : fs_X) (l : Launch) (hl0 : l.stackTraces = false) (a0 : Nat) (x1 : Int32) (x2 : Int32) {r : (Int32 ⊕ String)} {σ σF : fs_S} (h : (f_Fs_tick a0 x1 x2).1 σ = some (r, σF)) : fs_Met X l ⟨"FlowShelf", "tick", "(II)I"⟩ (Cond.code ⟨"FlowShelf", "tick", "(II)I"⟩ prog_1_method_3_code 6 (some FieldType.int)) 9 238 [.ref a0, .int x1, .int x2] σ (fs_qI r) σF := by
  refine fs_ofW (by decide) ?_
  intro p e s m args below meth c s₁ B hml hT hv
  obtain ⟨rfl, hw0, hG⟩ := hv
  have hx := B.exec
  have hb := B.bytes
  have hr := B.returns
  have hk := B.notSynchronized
  have S : CallFix p m c prog_1_method_3_code 6 s _ fs_ws "FlowShelf" := ⟨B.exec, B.bytes, hml, findClass_of_methodNamed B.named, fun w hw => atoms_spec (ws := _ :: fs_ws) B.pre w (List.mem_cons_of_mem _ hw)⟩
  have hR := fs_hR (fr := 9) (lo := 238) ((f_Fs_tick a0 x1 x2).2 _ _ _ h)
  have hl := lv_entry ([.ref a0, .int x1, .int x2]) (n := 6) (Nat.le_of_ble_eq_true rfl)
  rw [lg_entry_eq]
  generalize (lg_sl ([.ref a0, .int x1, .int x2]) ++ List.replicate (6 - (lg_sl ([.ref a0, .int x1, .int x2])).length) Slot.unset).toArray = ls at hl ⊢
  have hl : lv_has ls 6 [(0, .ref a0), (1, .int x1), (2, .int x2)] := hl
  refine (?_ : fs_J X p l e (fs_rm 9 238 σ σF) s m _ below meth c (fs_Q X below _ s (fs_qI r) σ σF) r σ σF (f_Fs_tick a0 x1 x2) (F0 m 0 ls [])) σ s.heap [] 0 0 h hw0 va_S.rf rfl rfl
  clear h hw0
  unfold f_Fs_tick
  refine fs_lift (fun _ _ _ _ => lv_aload_n hx hb d_Fs_tick_0 rfl (lv_at hl 0 rfl)) ?_
  refine fs_lift (fun _ _ _ _ => lv_iload_n hx hb d_Fs_tick_1 rfl (lv_at hl 1 rfl)) ?_
  refine fs_JVx S hG hR hT hk rfl [.int x1] (fun r => some (.ref r)) (encx := fs_qR) (fun _ => rfl) (fun _ => rfl) (fun zr zs zt zh => m_Fs_exporterOf X l hl0 a0 x1 zh) tw_2_60 tw_2_62 tp_1_1 tw_2_63 tw_1_1 q_Fs_exporterOf ⟨(Nat.le_of_ble_eq_true rfl), (Nat.le_of_ble_eq_true rfl)⟩ hl.1 rfl (Nat.le_of_ble_eq_true rfl) d_Fs_tick_2 (enc := fs_qI) (fun _ => rfl) (fun r1 => ?_)
  refine fs_Jeq (g2 := F0 m 5 ls [.ref r1]) rfl ?_
  refine fs_liftL (fun _ _ _ _ => lv_astore_n (lv' := [(3, .ref r1), (0, .ref a0), (1, .int x1), (2, .int x2)]) hx hb d_Fs_tick_5 rfl hl (Nat.le_of_ble_eq_true rfl) rfl) (fun ls hl => ?_)
  refine fs_lift (fun _ _ _ _ => lv_iload_n hx hb d_Fs_tick_6 rfl (lv_at hl 3 rfl)) ?_
  refine fs_lift (fun _ _ _ _ => lv_iconst (v := 1) hx hb d_Fs_tick_7 (by decide)) ?_
  refine fs_Jlet1 (nL := 6) (pj := 17) (I := fun (_ : Unit) => []) (st := fun (_ : Unit) => []) (fun _ ls hl => ?_) (fun j17 hj17 => ?_)
  · exact fs_Jthrow S hG hR hl0 (names := fs_nms) (len := 2) (.ldc 69) (Or.inl ⟨rfl, rfl⟩) (by decide) fs_fit fs_at1 tw_2_67 tw_1_15 tb_3_68 hl.1 hT hk (Nat.le_of_ble_eq_true rfl) (Nat.le_of_ble_eq_true rfl) d_Fs_tick_17 d_Fs_tick_20 d_Fs_tick_21 d_Fs_tick_23 d_Fs_tick_26 rfl
  · refine fs_if (fun _ _ _ _ => lv_icmp_lt hx hb d_Fs_tick_8 rfl) ?_ ?_
    · exact hj17 () ls (lv_sub hl [] rfl)
    · refine fs_lift (fun _ _ _ _ => lv_iload_n hx hb d_Fs_tick_11 rfl (lv_at hl 3 rfl)) ?_
      refine fs_lift (fun _ _ _ _ => lv_bipush (v := 100) hx hb d_Fs_tick_12 (by decide)) ?_
      refine fs_if (fun _ _ _ _ => lv_icmp_le hx hb d_Fs_tick_14 rfl) ?_ ?_
      · refine fs_lift (fun _ _ _ _ => lv_iconst (v := 0) hx hb d_Fs_tick_27 (by decide)) ?_
        refine fs_liftL (fun _ _ _ _ => lv_istore (lv' := [(4, .int 0), (3, .ref r1), (0, .ref a0), (1, .int x1), (2, .int x2)]) hx hb d_Fs_tick_28 hl (Nat.le_of_ble_eq_true rfl) rfl) (fun ls hl => ?_)
        refine fs_lift (fun _ _ _ _ => lv_iconst (v := 0) hx hb d_Fs_tick_30 (by decide)) ?_
        refine fs_liftL (fun _ _ _ _ => lv_istore (lv' := [(5, .int 0), (4, .int 0), (3, .ref r1), (0, .ref a0), (1, .int x1), (2, .int x2)]) hx hb d_Fs_tick_31 hl (Nat.le_of_ble_eq_true rfl) rfl) (fun ls hl => ?_)
        refine fs_Jlp2 (nL := 6) (pc := 33) (rest := []) (I := fun (v2 : Int32) (v3 : Int32) => [(2, .int x2), (3, .ref r1), (4, .int v2), (5, .int v3)]) (fun k33 hk33 v2 v3 ls hl => ?_) _ _ _ _ (lv_sub hl [5, 2, 1, 0] rfl)
        refine fs_lift (fun _ _ _ _ => lv_iload hx hb d_Fs_tick_33 (lv_at hl 3 rfl)) ?_
        refine fs_lift (fun _ _ _ _ => lv_iload_n hx hb d_Fs_tick_35 rfl (lv_at hl 0 rfl)) ?_
        refine fs_if (fun _ _ _ _ => lv_icmp_ge hx hb d_Fs_tick_36 rfl) ?_ ?_
        · refine fs_lift (fun _ _ _ _ => lv_iload hx hb d_Fs_tick_54 (lv_at hl 2 rfl)) ?_
          exact fs_Jiret S hr hk rfl d_Fs_tick_56
        · refine fs_lift (fun _ _ _ _ => lv_iload hx hb d_Fs_tick_39 (lv_at hl 2 rfl)) ?_
          refine fs_lift (fun _ _ _ _ => lv_aload_n hx hb d_Fs_tick_41 rfl (lv_at hl 1 rfl)) ?_
          refine fs_JV S hG hR rfl [] (enc := fun r => some (.int r)) (fun zr zs zt zh => m_Exporter_passTick X l r1 zh) tw_3_69 tw_3_70 tw_3_71 tw_3_72 tw_1_2 q_Exporter_passTick ⟨(Nat.le_of_ble_eq_true rfl), (Nat.le_of_ble_eq_true rfl)⟩ hl.1 rfl (Nat.le_of_ble_eq_true rfl) d_Fs_tick_42 (fun v4 => ?_)
          refine fs_Jeq (g2 := F0 m 45 ls [.int v4, .int v2]) rfl ?_
          refine fs_lift (fun _ _ _ _ => lv_iadd hx hb d_Fs_tick_45) ?_
          refine fs_Jni (fun v5 => ?_)
          refine fs_liftL (fun _ _ _ _ => lv_istore (lv' := [(4, .int v5), (2, .int x2), (3, .ref r1), (5, .int v3)]) hx hb d_Fs_tick_46 hl (Nat.le_of_ble_eq_true rfl) rfl) (fun ls hl => ?_)
          refine fs_Jnm (fun v6 hv9 => ?_)
          refine fs_liftL (fun _ _ _ _ => lv_iinc (k := 3) (v := v6) (lv' := [(5, .int v6), (4, .int v5), (2, .int x2), (3, .ref r1)]) hx hb d_Fs_tick_48 hl rfl (by rw [hv9]; rfl) (Nat.le_of_ble_eq_true rfl) rfl) (fun ls hl => ?_)
          refine fs_lift (fun _ _ _ _ => lv_goto hx hb d_Fs_tick_51 rfl) ?_
          exact hk33 v5 v6 ls (lv_sub hl [2, 3, 1, 0] rfl)
      · exact hj17 () ls (lv_sub hl [] rfl)

theorem d_Exporter_flushCache_0 : decode prog_4_method_10_code 0 = .ok (.aload_n 0, 1) := by decide +kernel
theorem d_Exporter_flushCache_1 : decode prog_4_method_10_code 1 = .ok (.getfield 12, 3) := by decide +kernel
theorem d_Exporter_flushCache_4 : decode prog_4_method_10_code 4 = .ok (.invokevirtual 37, 3) := by decide +kernel
theorem d_Exporter_flushCache_7 : decode prog_4_method_10_code 7 = .ok (.istore_n 1, 1) := by decide +kernel
theorem d_Exporter_flushCache_8 : decode prog_4_method_10_code 8 = .ok (.iconst 0, 1) := by decide +kernel
theorem d_Exporter_flushCache_9 : decode prog_4_method_10_code 9 = .ok (.istore_n 2, 1) := by decide +kernel
theorem d_Exporter_flushCache_10 : decode prog_4_method_10_code 10 = .ok (.iload_n 2, 1) := by decide +kernel
theorem d_Exporter_flushCache_11 : decode prog_4_method_10_code 11 = .ok (.iload_n 1, 1) := by decide +kernel
theorem d_Exporter_flushCache_12 : decode prog_4_method_10_code 12 = .ok (.if_icmp .ge 15, 3) := by decide +kernel
theorem d_Exporter_flushCache_15 : decode prog_4_method_10_code 15 = .ok (.aload_n 0, 1) := by decide +kernel
theorem d_Exporter_flushCache_16 : decode prog_4_method_10_code 16 = .ok (.iconst 0, 1) := by decide +kernel
theorem d_Exporter_flushCache_17 : decode prog_4_method_10_code 17 = .ok (.iconst 5, 1) := by decide +kernel
theorem d_Exporter_flushCache_18 : decode prog_4_method_10_code 18 = .ok (.invokevirtual 51, 3) := by decide +kernel
theorem d_Exporter_flushCache_21 : decode prog_4_method_10_code 21 = .ok (.iinc 2 1, 3) := by decide +kernel
theorem d_Exporter_flushCache_24 : decode prog_4_method_10_code 24 = .ok (.goto (-14), 3) := by decide +kernel
theorem d_Exporter_flushCache_27 : decode prog_4_method_10_code 27 = .ok (.iload_n 1, 1) := by decide +kernel
theorem d_Exporter_flushCache_28 : decode prog_4_method_10_code 28 = .ok (.ireturn, 1) := by decide +kernel
theorem q_Exporter_flushCache : (⟨"FlowShelf$Exporter", "flushCache", "()I"⟩ : MethodName).cls ≠ "java/lang/invoke/MethodHandle" ∧ (⟨"FlowShelf$Exporter", "flushCache", "()I"⟩ : MethodName).cls ≠ "java/lang/invoke/VarHandle" ∧ (parseMethodDescriptor (⟨"FlowShelf$Exporter", "flushCache", "()I"⟩ : MethodName).desc).map (fun d => d.parameters.length) = some 0 := by decide +kernel
set_option maxHeartbeats 4000000 in
set_option maxRecDepth 100000 in
theorem m_Exporter_flushCache (X : fs_X) (l : Launch) (a0 : Nat) {r : Int32} {σ σF : fs_S} (h : (f_Exporter_flushCache a0).1 σ = some (r, σF)) : fs_Met X l ⟨"FlowShelf$Exporter", "flushCache", "()I"⟩ (Cond.code ⟨"FlowShelf$Exporter", "flushCache", "()I"⟩ prog_4_method_10_code 3 (some FieldType.int)) 8 214 [.ref a0] σ (fs_eI r) σF := by
  refine fs_ofW (by decide) ?_
  intro p e s m args below meth c s₁ B hml hT hv
  obtain ⟨rfl, hw0, hG⟩ := hv
  have hx := B.exec
  have hb := B.bytes
  have hr := B.returns
  have hk := B.notSynchronized
  have S : CallFix p m c prog_4_method_10_code 3 s _ fs_ws "FlowShelf$Exporter" := ⟨B.exec, B.bytes, hml, findClass_of_methodNamed B.named, fun w hw => atoms_spec (ws := _ :: fs_ws) B.pre w (List.mem_cons_of_mem _ hw)⟩
  have hR := fs_hR (fr := 8) (lo := 214) ((f_Exporter_flushCache a0).2 _ _ _ h)
  have hl := lv_entry ([.ref a0]) (n := 3) (Nat.le_of_ble_eq_true rfl)
  rw [lg_entry_eq]
  generalize (lg_sl ([.ref a0]) ++ List.replicate (3 - (lg_sl ([.ref a0])).length) Slot.unset).toArray = ls at hl ⊢
  have hl : lv_has ls 3 [(0, .ref a0)] := hl
  refine (?_ : fs_J X p l e (fs_rm 8 214 σ σF) s m _ below meth c (fs_Q X below _ s (fs_eI r) σ σF) r σ σF (f_Exporter_flushCache a0) (F0 m 0 ls [])) σ s.heap [] 0 0 h hw0 va_S.rf rfl rfl
  clear h hw0
  unfold f_Exporter_flushCache
  refine fs_lift (fun _ _ _ _ => lv_aload_n hx hb d_Exporter_flushCache_0 rfl (lv_at hl 0 rfl)) ?_
  refine fs_Jgr S hG fs_in1 rfl 1 (Nat.le_of_ble_eq_true rfl) tw_1_126 (fun _ h9 => h9) d_Exporter_flushCache_1 (fun r1 => ?_)
  refine fs_JV S hG hR rfl [] (enc := fun r => some (.int r)) (fun zr zs zt zh => m_ArrayList_size X l r1 zh) tw_2_145 tw_2_29 tw_2_30 tw_2_31 tw_1_5 q_ArrayList_size ⟨(Nat.le_of_ble_eq_true rfl), (Nat.le_of_ble_eq_true rfl)⟩ hl.1 rfl (Nat.le_of_ble_eq_true rfl) d_Exporter_flushCache_4 (fun v2 => ?_)
  refine fs_Jeq (g2 := F0 m 7 ls [.int v2]) rfl ?_
  refine fs_liftL (fun _ _ _ _ => lv_istore_n (lv' := [(1, .int v2), (0, .ref a0)]) hx hb d_Exporter_flushCache_7 rfl hl (Nat.le_of_ble_eq_true rfl) rfl) (fun ls hl => ?_)
  refine fs_lift (fun _ _ _ _ => lv_iconst (v := 0) hx hb d_Exporter_flushCache_8 (by decide)) ?_
  refine fs_liftL (fun _ _ _ _ => lv_istore_n (lv' := [(2, .int 0), (1, .int v2), (0, .ref a0)]) hx hb d_Exporter_flushCache_9 rfl hl (Nat.le_of_ble_eq_true rfl) rfl) (fun ls hl => ?_)
  refine fs_Jlp1 (nL := 3) (pc := 10) (rest := []) (I := fun (v3 : Int32) => [(0, .ref a0), (1, .int v2), (2, .int v3)]) (fun k10 hk10 v3 ls hl => ?_) _ _ _ (lv_sub hl [2, 1, 0] rfl)
  refine fs_lift (fun _ _ _ _ => lv_iload_n hx hb d_Exporter_flushCache_10 rfl (lv_at hl 2 rfl)) ?_
  refine fs_lift (fun _ _ _ _ => lv_iload_n hx hb d_Exporter_flushCache_11 rfl (lv_at hl 1 rfl)) ?_
  refine fs_if (fun _ _ _ _ => lv_icmp_ge hx hb d_Exporter_flushCache_12 rfl) ?_ ?_
  · refine fs_lift (fun _ _ _ _ => lv_iload_n hx hb d_Exporter_flushCache_27 rfl (lv_at hl 1 rfl)) ?_
    exact fs_Jiret S hr hk rfl d_Exporter_flushCache_28
  · refine fs_lift (fun _ _ _ _ => lv_aload_n hx hb d_Exporter_flushCache_15 rfl (lv_at hl 0 rfl)) ?_
    refine fs_lift (fun _ _ _ _ => lv_iconst (v := 0) hx hb d_Exporter_flushCache_16 (by decide)) ?_
    refine fs_lift (fun _ _ _ _ => lv_iconst (v := 5) hx hb d_Exporter_flushCache_17 (by decide)) ?_
    refine fs_JV S hG hR rfl [.int 0, .int 5] (enc := fun _ => none) (fun zr zs zt zh => m_Exporter_end X l a0 0 5 zh) tw_2_184 tw_2_185 tw_2_186 tw_2_187 tw_1_2 q_Exporter_end ⟨(Nat.le_of_ble_eq_true rfl), (Nat.le_of_ble_eq_true rfl)⟩ hl.1 rfl (Nat.le_of_ble_eq_true rfl) d_Exporter_flushCache_18 (fun _ => ?_)
    refine fs_Jeq (g2 := F0 m 21 ls []) rfl ?_
    refine fs_Jnm (fun v4 hv9 => ?_)
    refine fs_liftL (fun _ _ _ _ => lv_iinc (k := 2) (v := v4) (lv' := [(2, .int v4), (0, .ref a0), (1, .int v2)]) hx hb d_Exporter_flushCache_21 hl rfl (by rw [hv9]; rfl) (Nat.le_of_ble_eq_true rfl) rfl) (fun ls hl => ?_)
    refine fs_lift (fun _ _ _ _ => lv_goto hx hb d_Exporter_flushCache_24 rfl) ?_
    exact hk10 v4 ls (lv_sub hl [1, 2, 0] rfl)

theorem d_Fs_flush_0 : decode prog_1_method_4_code 0 = .ok (.aload_n 0, 1) := by decide +kernel
theorem d_Fs_flush_1 : decode prog_1_method_4_code 1 = .ok (.iload_n 1, 1) := by decide +kernel
theorem d_Fs_flush_2 : decode prog_1_method_4_code 2 = .ok (.invokevirtual 35, 3) := by decide +kernel
theorem d_Fs_flush_5 : decode prog_1_method_4_code 5 = .ok (.invokevirtual 74, 3) := by decide +kernel
theorem d_Fs_flush_8 : decode prog_1_method_4_code 8 = .ok (.ireturn, 1) := by decide +kernel
theorem q_Fs_flush : (⟨"FlowShelf", "flush", "(I)I"⟩ : MethodName).cls ≠ "java/lang/invoke/MethodHandle" ∧ (⟨"FlowShelf", "flush", "(I)I"⟩ : MethodName).cls ≠ "java/lang/invoke/VarHandle" ∧ (parseMethodDescriptor (⟨"FlowShelf", "flush", "(I)I"⟩ : MethodName).desc).map (fun d => d.parameters.length) = some 1 := by decide +kernel
set_option maxHeartbeats 4000000 in
set_option maxRecDepth 100000 in
theorem m_Fs_flush (X : fs_X) (l : Launch) (hl0 : l.stackTraces = false) (a0 : Nat) (x1 : Int32) {r : (Int32 ⊕ String)} {σ σF : fs_S} (h : (f_Fs_flush a0 x1).1 σ = some (r, σF)) : fs_Met X l ⟨"FlowShelf", "flush", "(I)I"⟩ (Cond.code ⟨"FlowShelf", "flush", "(I)I"⟩ prog_1_method_4_code 2 (some FieldType.int)) 9 236 [.ref a0, .int x1] σ (fs_qI r) σF := by
  refine fs_ofW (by decide) ?_
  intro p e s m args below meth c s₁ B hml hT hv
  obtain ⟨rfl, hw0, hG⟩ := hv
  have hx := B.exec
  have hb := B.bytes
  have hr := B.returns
  have hk := B.notSynchronized
  have S : CallFix p m c prog_1_method_4_code 2 s _ fs_ws "FlowShelf" := ⟨B.exec, B.bytes, hml, findClass_of_methodNamed B.named, fun w hw => atoms_spec (ws := _ :: fs_ws) B.pre w (List.mem_cons_of_mem _ hw)⟩
  have hR := fs_hR (fr := 9) (lo := 236) ((f_Fs_flush a0 x1).2 _ _ _ h)
  have hl := lv_entry ([.ref a0, .int x1]) (n := 2) (Nat.le_of_ble_eq_true rfl)
  rw [lg_entry_eq]
  generalize (lg_sl ([.ref a0, .int x1]) ++ List.replicate (2 - (lg_sl ([.ref a0, .int x1])).length) Slot.unset).toArray = ls at hl ⊢
  have hl : lv_has ls 2 [(0, .ref a0), (1, .int x1)] := hl
  refine (?_ : fs_J X p l e (fs_rm 9 236 σ σF) s m _ below meth c (fs_Q X below _ s (fs_qI r) σ σF) r σ σF (f_Fs_flush a0 x1) (F0 m 0 ls [])) σ s.heap [] 0 0 h hw0 va_S.rf rfl rfl
  clear h hw0
  unfold f_Fs_flush
  refine fs_lift (fun _ _ _ _ => lv_aload_n hx hb d_Fs_flush_0 rfl (lv_at hl 0 rfl)) ?_
  refine fs_lift (fun _ _ _ _ => lv_iload_n hx hb d_Fs_flush_1 rfl (lv_at hl 1 rfl)) ?_
  refine fs_JVx S hG hR hT hk rfl [.int x1] (fun r => some (.ref r)) (encx := fs_qR) (fun _ => rfl) (fun _ => rfl) (fun zr zs zt zh => m_Fs_exporterOf X l hl0 a0 x1 zh) tw_2_60 tw_2_62 tp_1_1 tw_2_63 tw_1_1 q_Fs_exporterOf ⟨(Nat.le_of_ble_eq_true rfl), (Nat.le_of_ble_eq_true rfl)⟩ hl.1 rfl (Nat.le_of_ble_eq_true rfl) d_Fs_flush_2 (enc := fs_qI) (fun _ => rfl) (fun r1 => ?_)
  refine fs_Jeq (g2 := F0 m 5 ls [.ref r1]) rfl ?_
  refine fs_JV S hG hR rfl [] (enc := fun r => some (.int r)) (fun zr zs zt zh => m_Exporter_flushCache X l r1 zh) tw_3_84 tw_3_85 tw_3_86 tw_3_87 tw_1_2 q_Exporter_flushCache ⟨(Nat.le_of_ble_eq_true rfl), (Nat.le_of_ble_eq_true rfl)⟩ hl.1 rfl (Nat.le_of_ble_eq_true rfl) d_Fs_flush_5 (fun v2 => ?_)
  refine fs_Jeq (g2 := F0 m 8 ls [.int v2]) rfl ?_
  exact fs_Jiret S hr hk rfl d_Fs_flush_8

theorem d_Exporter_sampleEvery_0 : decode prog_4_method_3_code 0 = .ok (.aload_n 0, 1) := by decide +kernel
theorem d_Exporter_sampleEvery_1 : decode prog_4_method_3_code 1 = .ok (.iload_n 1, 1) := by decide +kernel
theorem d_Exporter_sampleEvery_2 : decode prog_4_method_3_code 2 = .ok (.putfield 27, 3) := by decide +kernel
theorem d_Exporter_sampleEvery_5 : decode prog_4_method_3_code 5 = .ok (.aload_n 0, 1) := by decide +kernel
theorem d_Exporter_sampleEvery_6 : decode prog_4_method_3_code 6 = .ok (.iconst 0, 1) := by decide +kernel
theorem d_Exporter_sampleEvery_7 : decode prog_4_method_3_code 7 = .ok (.putfield 41, 3) := by decide +kernel
theorem d_Exporter_sampleEvery_10 : decode prog_4_method_3_code 10 = .ok (.return_, 1) := by decide +kernel
theorem q_Exporter_sampleEvery : (⟨"FlowShelf$Exporter", "sampleEvery", "(I)V"⟩ : MethodName).cls ≠ "java/lang/invoke/MethodHandle" ∧ (⟨"FlowShelf$Exporter", "sampleEvery", "(I)V"⟩ : MethodName).cls ≠ "java/lang/invoke/VarHandle" ∧ (parseMethodDescriptor (⟨"FlowShelf$Exporter", "sampleEvery", "(I)V"⟩ : MethodName).desc).map (fun d => d.parameters.length) = some 1 := by decide +kernel
set_option maxHeartbeats 4000000 in
set_option maxRecDepth 100000 in
theorem m_Exporter_sampleEvery (X : fs_X) (l : Launch) (a0 : Nat) (x1 : Int32) {r : Unit} {σ σF : fs_S} (h : (f_Exporter_sampleEvery a0 x1).1 σ = some (r, σF)) : fs_Met X l ⟨"FlowShelf$Exporter", "sampleEvery", "(I)V"⟩ (Cond.code ⟨"FlowShelf$Exporter", "sampleEvery", "(I)V"⟩ prog_4_method_3_code 2 none) 0 0 [.ref a0, .int x1] σ (fs_eV r) σF := by
  refine fs_ofW (by decide) ?_
  intro p e s m args below meth c s₁ B hml hT hv
  obtain ⟨rfl, hw0, hG⟩ := hv
  have hx := B.exec
  have hb := B.bytes
  have hr := B.returns
  have hk := B.notSynchronized
  have S : CallFix p m c prog_4_method_3_code 2 s _ fs_ws "FlowShelf$Exporter" := ⟨B.exec, B.bytes, hml, findClass_of_methodNamed B.named, fun w hw => atoms_spec (ws := _ :: fs_ws) B.pre w (List.mem_cons_of_mem _ hw)⟩
  have hR := fs_hR (fr := 0) (lo := 0) ((f_Exporter_sampleEvery a0 x1).2 _ _ _ h)
  have hl := lv_entry ([.ref a0, .int x1]) (n := 2) (Nat.le_of_ble_eq_true rfl)
  rw [lg_entry_eq]
  generalize (lg_sl ([.ref a0, .int x1]) ++ List.replicate (2 - (lg_sl ([.ref a0, .int x1])).length) Slot.unset).toArray = ls at hl ⊢
  have hl : lv_has ls 2 [(0, .ref a0), (1, .int x1)] := hl
  refine (?_ : fs_J X p l e (fs_rm 0 0 σ σF) s m _ below meth c (fs_Q X below _ s (fs_eV r) σ σF) r σ σF (f_Exporter_sampleEvery a0 x1) (F0 m 0 ls [])) σ s.heap [] 0 0 h hw0 va_S.rf rfl rfl
  clear h hw0
  unfold f_Exporter_sampleEvery
  refine fs_lift (fun _ _ _ _ => lv_aload_n hx hb d_Exporter_sampleEvery_0 rfl (lv_at hl 0 rfl)) ?_
  refine fs_lift (fun _ _ _ _ => lv_iload_n hx hb d_Exporter_sampleEvery_1 rfl (lv_at hl 1 rfl)) ?_
  refine fs_Jput S hG fs_in1 rfl 6 (Nat.le_of_ble_eq_true rfl) tw_1_136 (fun _ h9 => h9) fs_Y1 fs_ty1 fs_nm1 (Or.inl rfl) rfl rfl d_Exporter_sampleEvery_2 ?_
  refine fs_lift (fun _ _ _ _ => lv_aload_n hx hb d_Exporter_sampleEvery_5 rfl (lv_at hl 0 rfl)) ?_
  refine fs_lift (fun _ _ _ _ => lv_iconst (v := 0) hx hb d_Exporter_sampleEvery_6 (by decide)) ?_
  refine fs_Jput S hG fs_in1 rfl 7 (Nat.le_of_ble_eq_true rfl) tw_1_137 (fun _ h9 => h9) fs_Y1 fs_ty1 fs_nm1 (Or.inl rfl) rfl rfl d_Exporter_sampleEvery_7 ?_
  exact fs_Jvret S hr hk rfl d_Exporter_sampleEvery_10

theorem d_Fs_sampler_0 : decode prog_1_method_5_code 0 = .ok (.aload_n 0, 1) := by decide +kernel
theorem d_Fs_sampler_1 : decode prog_1_method_5_code 1 = .ok (.iload_n 1, 1) := by decide +kernel
theorem d_Fs_sampler_2 : decode prog_1_method_5_code 2 = .ok (.invokevirtual 35, 3) := by decide +kernel
theorem d_Fs_sampler_5 : decode prog_1_method_5_code 5 = .ok (.astore_n 3, 1) := by decide +kernel
theorem d_Fs_sampler_6 : decode prog_1_method_5_code 6 = .ok (.iload_n 2, 1) := by decide +kernel
theorem d_Fs_sampler_7 : decode prog_1_method_5_code 7 = .ok (.iconst 1, 1) := by decide +kernel
theorem d_Fs_sampler_8 : decode prog_1_method_5_code 8 = .ok (.if_icmp .lt 9, 3) := by decide +kernel
theorem d_Fs_sampler_11 : decode prog_1_method_5_code 11 = .ok (.iload_n 2, 1) := by decide +kernel
theorem d_Fs_sampler_12 : decode prog_1_method_5_code 12 = .ok (.bipush 9, 2) := by decide +kernel
theorem d_Fs_sampler_14 : decode prog_1_method_5_code 14 = .ok (.if_icmp .le 13, 3) := by decide +kernel
theorem d_Fs_sampler_17 : decode prog_1_method_5_code 17 = .ok (.new 43, 3) := by decide +kernel
theorem d_Fs_sampler_20 : decode prog_1_method_5_code 20 = .ok (.dup, 1) := by decide +kernel
theorem d_Fs_sampler_21 : decode prog_1_method_5_code 21 = .ok (.ldc 77, 2) := by decide +kernel
theorem d_Fs_sampler_23 : decode prog_1_method_5_code 23 = .ok (.invokespecial 47, 3) := by decide +kernel
theorem d_Fs_sampler_26 : decode prog_1_method_5_code 26 = .ok (.athrow, 1) := by decide +kernel
theorem d_Fs_sampler_27 : decode prog_1_method_5_code 27 = .ok (.aload_n 3, 1) := by decide +kernel
theorem d_Fs_sampler_28 : decode prog_1_method_5_code 28 = .ok (.iload_n 2, 1) := by decide +kernel
theorem d_Fs_sampler_29 : decode prog_1_method_5_code 29 = .ok (.invokevirtual 79, 3) := by decide +kernel
theorem d_Fs_sampler_32 : decode prog_1_method_5_code 32 = .ok (.return_, 1) := by decide +kernel
theorem q_Fs_sampler : (⟨"FlowShelf", "sampler", "(II)V"⟩ : MethodName).cls ≠ "java/lang/invoke/MethodHandle" ∧ (⟨"FlowShelf", "sampler", "(II)V"⟩ : MethodName).cls ≠ "java/lang/invoke/VarHandle" ∧ (parseMethodDescriptor (⟨"FlowShelf", "sampler", "(II)V"⟩ : MethodName).desc).map (fun d => d.parameters.length) = some 2 := by decide +kernel
set_option maxHeartbeats 4000000 in
set_option maxRecDepth 100000 in
theorem m_Fs_sampler (X : fs_X) (l : Launch) (hl0 : l.stackTraces = false) (a0 : Nat) (x1 : Int32) (x2 : Int32) {r : (Unit ⊕ String)} {σ σF : fs_S} (h : (f_Fs_sampler a0 x1 x2).1 σ = some (r, σF)) : fs_Met X l ⟨"FlowShelf", "sampler", "(II)V"⟩ (Cond.code ⟨"FlowShelf", "sampler", "(II)V"⟩ prog_1_method_5_code 4 none) 7 103 [.ref a0, .int x1, .int x2] σ (fs_qV r) σF := by
  refine fs_ofW (by decide) ?_
  intro p e s m args below meth c s₁ B hml hT hv
  obtain ⟨rfl, hw0, hG⟩ := hv
  have hx := B.exec
  have hb := B.bytes
  have hr := B.returns
  have hk := B.notSynchronized
  have S : CallFix p m c prog_1_method_5_code 4 s _ fs_ws "FlowShelf" := ⟨B.exec, B.bytes, hml, findClass_of_methodNamed B.named, fun w hw => atoms_spec (ws := _ :: fs_ws) B.pre w (List.mem_cons_of_mem _ hw)⟩
  have hR := fs_hR (fr := 7) (lo := 103) ((f_Fs_sampler a0 x1 x2).2 _ _ _ h)
  have hl := lv_entry ([.ref a0, .int x1, .int x2]) (n := 4) (Nat.le_of_ble_eq_true rfl)
  rw [lg_entry_eq]
  generalize (lg_sl ([.ref a0, .int x1, .int x2]) ++ List.replicate (4 - (lg_sl ([.ref a0, .int x1, .int x2])).length) Slot.unset).toArray = ls at hl ⊢
  have hl : lv_has ls 4 [(0, .ref a0), (1, .int x1), (2, .int x2)] := hl
  refine (?_ : fs_J X p l e (fs_rm 7 103 σ σF) s m _ below meth c (fs_Q X below _ s (fs_qV r) σ σF) r σ σF (f_Fs_sampler a0 x1 x2) (F0 m 0 ls [])) σ s.heap [] 0 0 h hw0 va_S.rf rfl rfl
  clear h hw0
  unfold f_Fs_sampler
  refine fs_lift (fun _ _ _ _ => lv_aload_n hx hb d_Fs_sampler_0 rfl (lv_at hl 0 rfl)) ?_
  refine fs_lift (fun _ _ _ _ => lv_iload_n hx hb d_Fs_sampler_1 rfl (lv_at hl 1 rfl)) ?_
  refine fs_JVx S hG hR hT hk rfl [.int x1] (fun r => some (.ref r)) (encx := fs_qR) (fun _ => rfl) (fun _ => rfl) (fun zr zs zt zh => m_Fs_exporterOf X l hl0 a0 x1 zh) tw_2_60 tw_2_62 tp_1_1 tw_2_63 tw_1_1 q_Fs_exporterOf ⟨(Nat.le_of_ble_eq_true rfl), (Nat.le_of_ble_eq_true rfl)⟩ hl.1 rfl (Nat.le_of_ble_eq_true rfl) d_Fs_sampler_2 (enc := fs_qV) (fun _ => rfl) (fun r1 => ?_)
  refine fs_Jeq (g2 := F0 m 5 ls [.ref r1]) rfl ?_
  refine fs_liftL (fun _ _ _ _ => lv_astore_n (lv' := [(3, .ref r1), (0, .ref a0), (1, .int x1), (2, .int x2)]) hx hb d_Fs_sampler_5 rfl hl (Nat.le_of_ble_eq_true rfl) rfl) (fun ls hl => ?_)
  refine fs_lift (fun _ _ _ _ => lv_iload_n hx hb d_Fs_sampler_6 rfl (lv_at hl 3 rfl)) ?_
  refine fs_lift (fun _ _ _ _ => lv_iconst (v := 1) hx hb d_Fs_sampler_7 (by decide)) ?_
  refine fs_Jlet1 (nL := 4) (pj := 17) (I := fun (_ : Unit) => []) (st := fun (_ : Unit) => []) (fun _ ls hl => ?_) (fun j17 hj17 => ?_)
  · exact fs_Jthrow S hG hR hl0 (names := fs_nms) (len := 2) (.ldc 77) (Or.inl ⟨rfl, rfl⟩) (by decide) fs_fit fs_at1 tw_2_67 tw_1_15 tb_3_95 hl.1 hT hk (Nat.le_of_ble_eq_true rfl) (Nat.le_of_ble_eq_true rfl) d_Fs_sampler_17 d_Fs_sampler_20 d_Fs_sampler_21 d_Fs_sampler_23 d_Fs_sampler_26 rfl
  · refine fs_if (fun _ _ _ _ => lv_icmp_lt hx hb d_Fs_sampler_8 rfl) ?_ ?_
    · exact hj17 () ls (lv_sub hl [] rfl)
    · refine fs_lift (fun _ _ _ _ => lv_iload_n hx hb d_Fs_sampler_11 rfl (lv_at hl 3 rfl)) ?_
      refine fs_lift (fun _ _ _ _ => lv_bipush (v := 9) hx hb d_Fs_sampler_12 (by decide)) ?_
      refine fs_if (fun _ _ _ _ => lv_icmp_le hx hb d_Fs_sampler_14 rfl) ?_ ?_
      · refine fs_lift (fun _ _ _ _ => lv_aload_n hx hb d_Fs_sampler_27 rfl (lv_at hl 0 rfl)) ?_
        refine fs_lift (fun _ _ _ _ => lv_iload_n hx hb d_Fs_sampler_28 rfl (lv_at hl 3 rfl)) ?_
        refine fs_JV S hG hR rfl [.int x2] (enc := fun _ => none) (fun zr zs zt zh => m_Exporter_sampleEvery X l r1 x2 zh) tw_3_96 tw_3_97 tw_3_98 tw_3_99 tw_1_2 q_Exporter_sampleEvery ⟨(Nat.le_of_ble_eq_true rfl), (Nat.le_of_ble_eq_true rfl)⟩ hl.1 rfl (Nat.le_of_ble_eq_true rfl) d_Fs_sampler_29 (fun _ => ?_)
        refine fs_Jeq (g2 := F0 m 32 ls []) rfl ?_
        exact fs_Jvret S hr hk rfl d_Fs_sampler_32
      · exact hj17 () ls (lv_sub hl [] rfl)

theorem d_Fs_requireField_0 : decode prog_1_method_25_code 0 = .ok (.iload_n 0, 1) := by decide +kernel
theorem d_Fs_requireField_1 : decode prog_1_method_25_code 1 = .ok (.ifCond .lt 9, 3) := by decide +kernel
theorem d_Fs_requireField_4 : decode prog_1_method_25_code 4 = .ok (.iload_n 0, 1) := by decide +kernel
theorem d_Fs_requireField_5 : decode prog_1_method_25_code 5 = .ok (.bipush 8, 2) := by decide +kernel
theorem d_Fs_requireField_7 : decode prog_1_method_25_code 7 = .ok (.if_icmp .lt 14, 3) := by decide +kernel
theorem d_Fs_requireField_10 : decode prog_1_method_25_code 10 = .ok (.new 43, 3) := by decide +kernel
theorem d_Fs_requireField_13 : decode prog_1_method_25_code 13 = .ok (.dup, 1) := by decide +kernel
theorem d_Fs_requireField_14 : decode prog_1_method_25_code 14 = .ok (.ldc_w 304, 3) := by decide +kernel
theorem d_Fs_requireField_17 : decode prog_1_method_25_code 17 = .ok (.invokespecial 47, 3) := by decide +kernel
theorem d_Fs_requireField_20 : decode prog_1_method_25_code 20 = .ok (.athrow, 1) := by decide +kernel
theorem d_Fs_requireField_21 : decode prog_1_method_25_code 21 = .ok (.return_, 1) := by decide +kernel
theorem q_Fs_requireField : (⟨"FlowShelf", "requireField", "(I)V"⟩ : MethodName).cls ≠ "java/lang/invoke/MethodHandle" ∧ (⟨"FlowShelf", "requireField", "(I)V"⟩ : MethodName).cls ≠ "java/lang/invoke/VarHandle" ∧ (parseMethodDescriptor (⟨"FlowShelf", "requireField", "(I)V"⟩ : MethodName).desc).map (fun d => d.parameters.length) = some 1 := by decide +kernel
set_option maxHeartbeats 4000000 in
set_option maxRecDepth 100000 in
theorem m_Fs_requireField (X : fs_X) (l : Launch) (hl0 : l.stackTraces = false) (x0 : Int32) {r : (Unit ⊕ String)} {σ σF : fs_S} (h : (f_Fs_requireField x0).1 σ = some (r, σF)) : fs_Met X l ⟨"FlowShelf", "requireField", "(I)V"⟩ (Cond.code ⟨"FlowShelf", "requireField", "(I)V"⟩ prog_1_method_25_code 1 none) 6 82 [.int x0] σ (fs_qV r) σF := by
  refine fs_ofW (by decide) ?_
  intro p e s m args below meth c s₁ B hml hT hv
  obtain ⟨rfl, hw0, hG⟩ := hv
  have hx := B.exec
  have hb := B.bytes
  have hr := B.returns
  have hk := B.notSynchronized
  have S : CallFix p m c prog_1_method_25_code 1 s _ fs_ws "FlowShelf" := ⟨B.exec, B.bytes, hml, findClass_of_methodNamed B.named, fun w hw => atoms_spec (ws := _ :: fs_ws) B.pre w (List.mem_cons_of_mem _ hw)⟩
  have hR := fs_hR (fr := 6) (lo := 82) ((f_Fs_requireField x0).2 _ _ _ h)
  have hl := lv_entry ([.int x0]) (n := 1) (Nat.le_of_ble_eq_true rfl)
  rw [lg_entry_eq]
  generalize (lg_sl ([.int x0]) ++ List.replicate (1 - (lg_sl ([.int x0])).length) Slot.unset).toArray = ls at hl ⊢
  have hl : lv_has ls 1 [(0, .int x0)] := hl
  refine (?_ : fs_J X p l e (fs_rm 6 82 σ σF) s m _ below meth c (fs_Q X below _ s (fs_qV r) σ σF) r σ σF (f_Fs_requireField x0) (F0 m 0 ls [])) σ s.heap [] 0 0 h hw0 va_S.rf rfl rfl
  clear h hw0
  unfold f_Fs_requireField
  refine fs_lift (fun _ _ _ _ => lv_iload_n hx hb d_Fs_requireField_0 rfl (lv_at hl 0 rfl)) ?_
  refine fs_Jlet1 (nL := 1) (pj := 10) (I := fun (_ : Unit) => []) (st := fun (_ : Unit) => []) (fun _ ls hl => ?_) (fun j10 hj10 => ?_)
  · exact fs_Jthrow S hG hR hl0 (names := fs_nms) (len := 3) (.ldc_w 304) (Or.inr ⟨rfl, rfl⟩) (by decide) fs_fit fs_at1 tw_2_67 tw_1_15 tb_3_111 hl.1 hT hk (Nat.le_of_ble_eq_true rfl) (Nat.le_of_ble_eq_true rfl) d_Fs_requireField_10 d_Fs_requireField_13 d_Fs_requireField_14 d_Fs_requireField_17 d_Fs_requireField_20 rfl
  · refine fs_if (fun _ _ _ _ => lv_if_lt hx hb d_Fs_requireField_1 rfl) ?_ ?_
    · exact hj10 () ls (lv_sub hl [] rfl)
    · refine fs_lift (fun _ _ _ _ => lv_iload_n hx hb d_Fs_requireField_4 rfl (lv_at hl 0 rfl)) ?_
      refine fs_lift (fun _ _ _ _ => lv_bipush (v := 8) hx hb d_Fs_requireField_5 (by decide)) ?_
      refine fs_if (fun _ _ _ _ => lv_icmp_lt hx hb d_Fs_requireField_7 rfl) ?_ ?_
      · exact fs_Jvret S hr hk rfl d_Fs_requireField_21
      · exact hj10 () ls (lv_sub hl [] rfl)

theorem d_Flow_valueOf_0 : decode prog_5_method_5_code 0 = .ok (.iload_n 1, 1) := by decide +kernel
theorem d_Flow_valueOf_1 : decode prog_5_method_5_code 1 = .ok (.tableswitch 78 0 6 #[43, 48, 53, 58, 63, 68, 73], 43) := by decide +kernel
theorem d_Flow_valueOf_44 : decode prog_5_method_5_code 44 = .ok (.aload_n 0, 1) := by decide +kernel
theorem d_Flow_valueOf_45 : decode prog_5_method_5_code 45 = .ok (.getfield 9, 3) := by decide +kernel
theorem d_Flow_valueOf_48 : decode prog_5_method_5_code 48 = .ok (.ireturn, 1) := by decide +kernel
theorem d_Flow_valueOf_49 : decode prog_5_method_5_code 49 = .ok (.aload_n 0, 1) := by decide +kernel
theorem d_Flow_valueOf_50 : decode prog_5_method_5_code 50 = .ok (.getfield 15, 3) := by decide +kernel
theorem d_Flow_valueOf_53 : decode prog_5_method_5_code 53 = .ok (.ireturn, 1) := by decide +kernel
theorem d_Flow_valueOf_54 : decode prog_5_method_5_code 54 = .ok (.aload_n 0, 1) := by decide +kernel
theorem d_Flow_valueOf_55 : decode prog_5_method_5_code 55 = .ok (.getfield 18, 3) := by decide +kernel
theorem d_Flow_valueOf_58 : decode prog_5_method_5_code 58 = .ok (.ireturn, 1) := by decide +kernel
theorem d_Flow_valueOf_59 : decode prog_5_method_5_code 59 = .ok (.aload_n 0, 1) := by decide +kernel
theorem d_Flow_valueOf_60 : decode prog_5_method_5_code 60 = .ok (.getfield 24, 3) := by decide +kernel
theorem d_Flow_valueOf_63 : decode prog_5_method_5_code 63 = .ok (.ireturn, 1) := by decide +kernel
theorem d_Flow_valueOf_64 : decode prog_5_method_5_code 64 = .ok (.aload_n 0, 1) := by decide +kernel
theorem d_Flow_valueOf_65 : decode prog_5_method_5_code 65 = .ok (.getfield 27, 3) := by decide +kernel
theorem d_Flow_valueOf_68 : decode prog_5_method_5_code 68 = .ok (.ireturn, 1) := by decide +kernel
theorem d_Flow_valueOf_69 : decode prog_5_method_5_code 69 = .ok (.aload_n 0, 1) := by decide +kernel
theorem d_Flow_valueOf_70 : decode prog_5_method_5_code 70 = .ok (.getfield 21, 3) := by decide +kernel
theorem d_Flow_valueOf_73 : decode prog_5_method_5_code 73 = .ok (.ireturn, 1) := by decide +kernel
theorem d_Flow_valueOf_74 : decode prog_5_method_5_code 74 = .ok (.aload_n 0, 1) := by decide +kernel
theorem d_Flow_valueOf_75 : decode prog_5_method_5_code 75 = .ok (.getfield 33, 3) := by decide +kernel
theorem d_Flow_valueOf_78 : decode prog_5_method_5_code 78 = .ok (.ireturn, 1) := by decide +kernel
theorem d_Flow_valueOf_79 : decode prog_5_method_5_code 79 = .ok (.aload_n 0, 1) := by decide +kernel
theorem d_Flow_valueOf_80 : decode prog_5_method_5_code 80 = .ok (.getfield 36, 3) := by decide +kernel
theorem d_Flow_valueOf_83 : decode prog_5_method_5_code 83 = .ok (.ireturn, 1) := by decide +kernel
theorem q_Flow_valueOf : (⟨"FlowShelf$Flow", "valueOf", "(I)I"⟩ : MethodName).cls ≠ "java/lang/invoke/MethodHandle" ∧ (⟨"FlowShelf$Flow", "valueOf", "(I)I"⟩ : MethodName).cls ≠ "java/lang/invoke/VarHandle" ∧ (parseMethodDescriptor (⟨"FlowShelf$Flow", "valueOf", "(I)I"⟩ : MethodName).desc).map (fun d => d.parameters.length) = some 1 := by decide +kernel
set_option maxHeartbeats 4000000 in
set_option maxRecDepth 100000 in
theorem m_Flow_valueOf (X : fs_X) (l : Launch) (a0 : Nat) (x1 : Int32) {r : Int32} {σ σF : fs_S} (h : (f_Flow_valueOf a0 x1).1 σ = some (r, σF)) : fs_Met X l ⟨"FlowShelf$Flow", "valueOf", "(I)I"⟩ (Cond.code ⟨"FlowShelf$Flow", "valueOf", "(I)I"⟩ prog_5_method_5_code 2 (some FieldType.int)) 0 0 [.ref a0, .int x1] σ (fs_eI r) σF := by
  refine fs_ofW (by decide) ?_
  intro p e s m args below meth c s₁ B hml hT hv
  obtain ⟨rfl, hw0, hG⟩ := hv
  have hx := B.exec
  have hb := B.bytes
  have hr := B.returns
  have hk := B.notSynchronized
  have S : CallFix p m c prog_5_method_5_code 2 s _ fs_ws "FlowShelf$Flow" := ⟨B.exec, B.bytes, hml, findClass_of_methodNamed B.named, fun w hw => atoms_spec (ws := _ :: fs_ws) B.pre w (List.mem_cons_of_mem _ hw)⟩
  have hR := fs_hR (fr := 0) (lo := 0) ((f_Flow_valueOf a0 x1).2 _ _ _ h)
  have hl := lv_entry ([.ref a0, .int x1]) (n := 2) (Nat.le_of_ble_eq_true rfl)
  rw [lg_entry_eq]
  generalize (lg_sl ([.ref a0, .int x1]) ++ List.replicate (2 - (lg_sl ([.ref a0, .int x1])).length) Slot.unset).toArray = ls at hl ⊢
  have hl : lv_has ls 2 [(0, .ref a0), (1, .int x1)] := hl
  refine (?_ : fs_J X p l e (fs_rm 0 0 σ σF) s m _ below meth c (fs_Q X below _ s (fs_eI r) σ σF) r σ σF (f_Flow_valueOf a0 x1) (F0 m 0 ls [])) σ s.heap [] 0 0 h hw0 va_S.rf rfl rfl
  clear h hw0
  unfold f_Flow_valueOf
  refine fs_lift (fun _ _ _ _ => lv_iload_n hx hb d_Flow_valueOf_0 rfl (lv_at hl 1 rfl)) ?_
  refine fs_sw (fun q9 => ?_) (fun q100 => ?_)
  · refine fs_lift (fun _ _ _ _ => lv_tableIn (off := 43) (tgt := 44) hx hb d_Flow_valueOf_1 (by rw [q9]; decide) (by rw [q9]; decide) (by rw [q9]; rfl) rfl) ?_
    refine fs_lift (fun _ _ _ _ => lv_aload_n hx hb d_Flow_valueOf_44 rfl (lv_at hl 0 rfl)) ?_
    refine fs_Jgi S hG fs_in8 rfl 0 (Nat.le_of_ble_eq_true rfl) tw_3_26 (fun _ h9 => h9) d_Flow_valueOf_45 (fun v1 => ?_)
    exact fs_Jiret S hr hk rfl d_Flow_valueOf_48
  refine fs_sw (fun q9 => ?_) (fun q101 => ?_)
  · refine fs_lift (fun _ _ _ _ => lv_tableIn (off := 48) (tgt := 49) hx hb d_Flow_valueOf_1 (by rw [q9]; decide) (by rw [q9]; decide) (by rw [q9]; rfl) rfl) ?_
    refine fs_lift (fun _ _ _ _ => lv_aload_n hx hb d_Flow_valueOf_49 rfl (lv_at hl 0 rfl)) ?_
    refine fs_Jgi S hG fs_in8 rfl 1 (Nat.le_of_ble_eq_true rfl) tw_3_27 (fun _ h9 => h9) d_Flow_valueOf_50 (fun v2 => ?_)
    exact fs_Jiret S hr hk rfl d_Flow_valueOf_53
  refine fs_sw (fun q9 => ?_) (fun q102 => ?_)
  · refine fs_lift (fun _ _ _ _ => lv_tableIn (off := 53) (tgt := 54) hx hb d_Flow_valueOf_1 (by rw [q9]; decide) (by rw [q9]; decide) (by rw [q9]; rfl) rfl) ?_
    refine fs_lift (fun _ _ _ _ => lv_aload_n hx hb d_Flow_valueOf_54 rfl (lv_at hl 0 rfl)) ?_
    refine fs_Jgi S hG fs_in8 rfl 2 (Nat.le_of_ble_eq_true rfl) tw_3_28 (fun _ h9 => h9) d_Flow_valueOf_55 (fun v3 => ?_)
    exact fs_Jiret S hr hk rfl d_Flow_valueOf_58
  refine fs_sw (fun q9 => ?_) (fun q103 => ?_)
  · refine fs_lift (fun _ _ _ _ => lv_tableIn (off := 58) (tgt := 59) hx hb d_Flow_valueOf_1 (by rw [q9]; decide) (by rw [q9]; decide) (by rw [q9]; rfl) rfl) ?_
    refine fs_lift (fun _ _ _ _ => lv_aload_n hx hb d_Flow_valueOf_59 rfl (lv_at hl 0 rfl)) ?_
    refine fs_Jgi S hG fs_in8 rfl 4 (Nat.le_of_ble_eq_true rfl) tw_3_30 (fun _ h9 => h9) d_Flow_valueOf_60 (fun v4 => ?_)
    exact fs_Jiret S hr hk rfl d_Flow_valueOf_63
  refine fs_sw (fun q9 => ?_) (fun q104 => ?_)
  · refine fs_lift (fun _ _ _ _ => lv_tableIn (off := 63) (tgt := 64) hx hb d_Flow_valueOf_1 (by rw [q9]; decide) (by rw [q9]; decide) (by rw [q9]; rfl) rfl) ?_
    refine fs_lift (fun _ _ _ _ => lv_aload_n hx hb d_Flow_valueOf_64 rfl (lv_at hl 0 rfl)) ?_
    refine fs_Jgi S hG fs_in8 rfl 5 (Nat.le_of_ble_eq_true rfl) tw_3_31 (fun _ h9 => h9) d_Flow_valueOf_65 (fun v5 => ?_)
    exact fs_Jiret S hr hk rfl d_Flow_valueOf_68
  refine fs_sw (fun q9 => ?_) (fun q105 => ?_)
  · refine fs_lift (fun _ _ _ _ => lv_tableIn (off := 68) (tgt := 69) hx hb d_Flow_valueOf_1 (by rw [q9]; decide) (by rw [q9]; decide) (by rw [q9]; rfl) rfl) ?_
    refine fs_lift (fun _ _ _ _ => lv_aload_n hx hb d_Flow_valueOf_69 rfl (lv_at hl 0 rfl)) ?_
    refine fs_Jgi S hG fs_in8 rfl 3 (Nat.le_of_ble_eq_true rfl) tw_3_29 (fun _ h9 => h9) d_Flow_valueOf_70 (fun v6 => ?_)
    exact fs_Jiret S hr hk rfl d_Flow_valueOf_73
  refine fs_sw (fun q9 => ?_) (fun q106 => ?_)
  · refine fs_lift (fun _ _ _ _ => lv_tableIn (off := 73) (tgt := 74) hx hb d_Flow_valueOf_1 (by rw [q9]; decide) (by rw [q9]; decide) (by rw [q9]; rfl) rfl) ?_
    refine fs_lift (fun _ _ _ _ => lv_aload_n hx hb d_Flow_valueOf_74 rfl (lv_at hl 0 rfl)) ?_
    refine fs_Jgi S hG fs_in8 rfl 7 (Nat.le_of_ble_eq_true rfl) tw_3_34 (fun _ h9 => h9) d_Flow_valueOf_75 (fun v7 => ?_)
    exact fs_Jiret S hr hk rfl d_Flow_valueOf_78
  refine fs_lift (fun _ _ _ _ => lv_tableOut (tgt := 79) hx hb d_Flow_valueOf_1 (fs_tout 6 (fun k hk => match k, hk with | 0, _ => q100 | 1, _ => q101 | 2, _ => q102 | 3, _ => q103 | 4, _ => q104 | 5, _ => q105 | 6, _ => q106 | n + 7, h => absurd h (by omega)) (by decide)) rfl) ?_
  refine fs_lift (fun _ _ _ _ => lv_aload_n hx hb d_Flow_valueOf_79 rfl (lv_at hl 0 rfl)) ?_
  refine fs_Jgi S hG fs_in8 rfl 8 (Nat.le_of_ble_eq_true rfl) tw_3_36 (fun _ h9 => h9) d_Flow_valueOf_80 (fun v8 => ?_)
  exact fs_Jiret S hr hk rfl d_Flow_valueOf_83

theorem d_Fs_ended_0 : decode prog_1_method_6_code 0 = .ok (.aload_n 0, 1) := by decide +kernel
theorem d_Fs_ended_1 : decode prog_1_method_6_code 1 = .ok (.iload_n 1, 1) := by decide +kernel
theorem d_Fs_ended_2 : decode prog_1_method_6_code 2 = .ok (.invokevirtual 35, 3) := by decide +kernel
theorem d_Fs_ended_5 : decode prog_1_method_6_code 5 = .ok (.astore 4, 2) := by decide +kernel
theorem d_Fs_ended_7 : decode prog_1_method_6_code 7 = .ok (.iload_n 3, 1) := by decide +kernel
theorem d_Fs_ended_8 : decode prog_1_method_6_code 8 = .ok (.invokestatic 82, 3) := by decide +kernel
theorem d_Fs_ended_11 : decode prog_1_method_6_code 11 = .ok (.iload_n 2, 1) := by decide +kernel
theorem d_Fs_ended_12 : decode prog_1_method_6_code 12 = .ok (.ifCond .lt 15, 3) := by decide +kernel
theorem d_Fs_ended_15 : decode prog_1_method_6_code 15 = .ok (.iload_n 2, 1) := by decide +kernel
theorem d_Fs_ended_16 : decode prog_1_method_6_code 16 = .ok (.aload 4, 2) := by decide +kernel
theorem d_Fs_ended_18 : decode prog_1_method_6_code 18 = .ok (.getfield 85, 3) := by decide +kernel
theorem d_Fs_ended_21 : decode prog_1_method_6_code 21 = .ok (.invokevirtual 88, 3) := by decide +kernel
theorem d_Fs_ended_24 : decode prog_1_method_6_code 24 = .ok (.if_icmp .lt 13, 3) := by decide +kernel
theorem d_Fs_ended_27 : decode prog_1_method_6_code 27 = .ok (.new 91, 3) := by decide +kernel
theorem d_Fs_ended_30 : decode prog_1_method_6_code 30 = .ok (.dup, 1) := by decide +kernel
theorem d_Fs_ended_31 : decode prog_1_method_6_code 31 = .ok (.ldc 93, 2) := by decide +kernel
theorem d_Fs_ended_33 : decode prog_1_method_6_code 33 = .ok (.invokespecial 95, 3) := by decide +kernel
theorem d_Fs_ended_36 : decode prog_1_method_6_code 36 = .ok (.athrow, 1) := by decide +kernel
theorem d_Fs_ended_37 : decode prog_1_method_6_code 37 = .ok (.aload 4, 2) := by decide +kernel
theorem d_Fs_ended_39 : decode prog_1_method_6_code 39 = .ok (.getfield 85, 3) := by decide +kernel
theorem d_Fs_ended_42 : decode prog_1_method_6_code 42 = .ok (.iload_n 2, 1) := by decide +kernel
theorem d_Fs_ended_43 : decode prog_1_method_6_code 43 = .ok (.invokevirtual 96, 3) := by decide +kernel
theorem d_Fs_ended_46 : decode prog_1_method_6_code 46 = .ok (.checkcast 100, 3) := by decide +kernel
theorem d_Fs_ended_49 : decode prog_1_method_6_code 49 = .ok (.iload_n 3, 1) := by decide +kernel
theorem d_Fs_ended_50 : decode prog_1_method_6_code 50 = .ok (.invokevirtual 102, 3) := by decide +kernel
theorem d_Fs_ended_53 : decode prog_1_method_6_code 53 = .ok (.ireturn, 1) := by decide +kernel
theorem q_Fs_ended : (⟨"FlowShelf", "ended", "(III)I"⟩ : MethodName).cls ≠ "java/lang/invoke/MethodHandle" ∧ (⟨"FlowShelf", "ended", "(III)I"⟩ : MethodName).cls ≠ "java/lang/invoke/VarHandle" ∧ (parseMethodDescriptor (⟨"FlowShelf", "ended", "(III)I"⟩ : MethodName).desc).map (fun d => d.parameters.length) = some 3 := by decide +kernel
set_option maxHeartbeats 4000000 in
set_option maxRecDepth 100000 in
theorem m_Fs_ended (X : fs_X) (l : Launch) (hl0 : l.stackTraces = false) (a0 : Nat) (x1 : Int32) (x2 : Int32) (x3 : Int32) {r : (Int32 ⊕ String)} {σ σF : fs_S} (h : (f_Fs_ended a0 x1 x2 x3).1 σ = some (r, σF)) : fs_Met X l ⟨"FlowShelf", "ended", "(III)I"⟩ (Cond.code ⟨"FlowShelf", "ended", "(III)I"⟩ prog_1_method_6_code 5 (some FieldType.int)) 7 103 [.ref a0, .int x1, .int x2, .int x3] σ (fs_qI r) σF := by
  refine fs_ofW (by decide) ?_
  intro p e s m args below meth c s₁ B hml hT hv
  obtain ⟨rfl, hw0, hG⟩ := hv
  have hx := B.exec
  have hb := B.bytes
  have hr := B.returns
  have hk := B.notSynchronized
  have S : CallFix p m c prog_1_method_6_code 5 s _ fs_ws "FlowShelf" := ⟨B.exec, B.bytes, hml, findClass_of_methodNamed B.named, fun w hw => atoms_spec (ws := _ :: fs_ws) B.pre w (List.mem_cons_of_mem _ hw)⟩
  have hR := fs_hR (fr := 7) (lo := 103) ((f_Fs_ended a0 x1 x2 x3).2 _ _ _ h)
  have hl := lv_entry ([.ref a0, .int x1, .int x2, .int x3]) (n := 5) (Nat.le_of_ble_eq_true rfl)
  rw [lg_entry_eq]
  generalize (lg_sl ([.ref a0, .int x1, .int x2, .int x3]) ++ List.replicate (5 - (lg_sl ([.ref a0, .int x1, .int x2, .int x3])).length) Slot.unset).toArray = ls at hl ⊢
  have hl : lv_has ls 5 [(0, .ref a0), (1, .int x1), (2, .int x2), (3, .int x3)] := hl
  refine (?_ : fs_J X p l e (fs_rm 7 103 σ σF) s m _ below meth c (fs_Q X below _ s (fs_qI r) σ σF) r σ σF (f_Fs_ended a0 x1 x2 x3) (F0 m 0 ls [])) σ s.heap [] 0 0 h hw0 va_S.rf rfl rfl
  clear h hw0
  unfold f_Fs_ended
  refine fs_lift (fun _ _ _ _ => lv_aload_n hx hb d_Fs_ended_0 rfl (lv_at hl 0 rfl)) ?_
  refine fs_lift (fun _ _ _ _ => lv_iload_n hx hb d_Fs_ended_1 rfl (lv_at hl 1 rfl)) ?_
  refine fs_JVx S hG hR hT hk rfl [.int x1] (fun r => some (.ref r)) (encx := fs_qR) (fun _ => rfl) (fun _ => rfl) (fun zr zs zt zh => m_Fs_exporterOf X l hl0 a0 x1 zh) tw_2_60 tw_2_62 tp_1_1 tw_2_63 tw_1_1 q_Fs_exporterOf ⟨(Nat.le_of_ble_eq_true rfl), (Nat.le_of_ble_eq_true rfl)⟩ hl.1 rfl (Nat.le_of_ble_eq_true rfl) d_Fs_ended_2 (enc := fs_qI) (fun _ => rfl) (fun r1 => ?_)
  refine fs_Jeq (g2 := F0 m 5 ls [.ref r1]) rfl ?_
  refine fs_liftL (fun _ _ _ _ => lv_astore (lv' := [(4, .ref r1), (0, .ref a0), (1, .int x1), (2, .int x2), (3, .int x3)]) hx hb d_Fs_ended_5 hl (Nat.le_of_ble_eq_true rfl) rfl) (fun ls hl => ?_)
  refine fs_lift (fun _ _ _ _ => lv_iload_n hx hb d_Fs_ended_7 rfl (lv_at hl 4 rfl)) ?_
  refine fs_JSx S hG hR hT hk [.int x3] (fun _ => none) (encx := fs_qV) (fun _ => rfl) (fun _ => rfl) (fun zr zs zt zh => m_Fs_requireField X l hl0 x3 zh) tw_3_108 tw_3_109 tw_3_110 tw_1_1 q_Fs_requireField ⟨(Nat.le_of_ble_eq_true rfl), (Nat.le_of_ble_eq_true rfl)⟩ hl.1 rfl (Nat.le_of_ble_eq_true rfl) d_Fs_ended_8 (enc := fs_qI) (fun _ => rfl) (fun _ => ?_)
  refine fs_Jeq (g2 := F0 m 11 ls []) rfl ?_
  refine fs_lift (fun _ _ _ _ => lv_iload_n hx hb d_Fs_ended_11 rfl (lv_at hl 3 rfl)) ?_
  refine fs_Jlet1 (nL := 5) (pj := 27) (I := fun (_ : Unit) => []) (st := fun (_ : Unit) => []) (fun _ ls hl => ?_) (fun j27 hj27 => ?_)
  · exact fs_Jthrow S hG hR hl0 (names := fs_nms) (len := 2) (.ldc 93) (Or.inl ⟨rfl, rfl⟩) (by decide) fs_fit fs_at3 tw_3_112 tw_1_24 tb_3_121 hl.1 hT hk (Nat.le_of_ble_eq_true rfl) (Nat.le_of_ble_eq_true rfl) d_Fs_ended_27 d_Fs_ended_30 d_Fs_ended_31 d_Fs_ended_33 d_Fs_ended_36 rfl
  · refine fs_if (fun _ _ _ _ => lv_if_lt hx hb d_Fs_ended_12 rfl) ?_ ?_
    · exact hj27 () ls (lv_sub hl [] rfl)
    · refine fs_lift (fun _ _ _ _ => lv_iload_n hx hb d_Fs_ended_15 rfl (lv_at hl 3 rfl)) ?_
      refine fs_lift (fun _ _ _ _ => lv_aload hx hb d_Fs_ended_16 (lv_at hl 0 rfl)) ?_
      refine fs_Jgr S hG fs_in1 rfl 2 (Nat.le_of_ble_eq_true rfl) tw_1_129 (fun _ h9 => h9) d_Fs_ended_18 (fun r2 => ?_)
      refine fs_JV S hG hR rfl [] (enc := fun r => some (.int r)) (fun zr zs zt zh => m_ArrayList_size X l r2 zh) tw_2_28 tw_2_29 tw_2_30 tw_2_31 tw_1_5 q_ArrayList_size ⟨(Nat.le_of_ble_eq_true rfl), (Nat.le_of_ble_eq_true rfl)⟩ hl.1 rfl (Nat.le_of_ble_eq_true rfl) d_Fs_ended_21 (fun v3 => ?_)
      refine fs_Jeq (g2 := F0 m 24 ls [.int v3, .int x2]) rfl ?_
      refine fs_if (fun _ _ _ _ => lv_icmp_lt hx hb d_Fs_ended_24 rfl) ?_ ?_
      · refine fs_lift (fun _ _ _ _ => lv_aload hx hb d_Fs_ended_37 (lv_at hl 0 rfl)) ?_
        refine fs_Jgr S hG fs_in1 rfl 2 (Nat.le_of_ble_eq_true rfl) tw_1_129 (fun _ h9 => h9) d_Fs_ended_39 (fun r4 => ?_)
        refine fs_lift (fun _ _ _ _ => lv_iload_n hx hb d_Fs_ended_42 rfl (lv_at hl 3 rfl)) ?_
        refine fs_JV S hG hR rfl [.int x2] (enc := fun r => some (.ref r)) (fun zr zs zt zh => m_ArrayList_get X l r4 x2 zh) tw_2_32 tw_2_33 tw_2_34 tw_2_35 tw_1_5 q_ArrayList_get ⟨(Nat.le_of_ble_eq_true rfl), (Nat.le_of_ble_eq_true rfl)⟩ hl.1 rfl (Nat.le_of_ble_eq_true rfl) d_Fs_ended_43 (fun r5 => ?_)
        refine fs_Jeq (g2 := F0 m 46 ls [.ref r5]) rfl ?_
        refine fs_Jck S hG rfl tw_3_128 tb_7_82 d_Fs_ended_46 ?_
        refine fs_lift (fun _ _ _ _ => lv_iload_n hx hb d_Fs_ended_49 rfl (lv_at hl 4 rfl)) ?_
        refine fs_JV S hG hR rfl [.int x3] (enc := fun r => some (.int r)) (fun zr zs zt zh => m_Flow_valueOf X l r5 x3 zh) tw_3_129 tw_3_130 tw_3_131 tw_3_132 tw_1_23 q_Flow_valueOf ⟨(Nat.le_of_ble_eq_true rfl), (Nat.le_of_ble_eq_true rfl)⟩ hl.1 rfl (Nat.le_of_ble_eq_true rfl) d_Fs_ended_50 (fun v6 => ?_)
        refine fs_Jeq (g2 := F0 m 53 ls [.int v6]) rfl ?_
        exact fs_Jiret S hr hk rfl d_Fs_ended_53
      · exact hj27 () ls (lv_sub hl [] rfl)

theorem d_Fs_slotOf_0 : decode prog_1_method_28_code 0 = .ok (.aload_n 0, 1) := by decide +kernel
theorem d_Fs_slotOf_1 : decode prog_1_method_28_code 1 = .ok (.iload_n 1, 1) := by decide +kernel
theorem d_Fs_slotOf_2 : decode prog_1_method_28_code 2 = .ok (.invokevirtual 35, 3) := by decide +kernel
theorem d_Fs_slotOf_5 : decode prog_1_method_28_code 5 = .ok (.astore_n 3, 1) := by decide +kernel
theorem d_Fs_slotOf_6 : decode prog_1_method_28_code 6 = .ok (.iload_n 2, 1) := by decide +kernel
theorem d_Fs_slotOf_7 : decode prog_1_method_28_code 7 = .ok (.ifCond .lt 8, 3) := by decide +kernel
theorem d_Fs_slotOf_10 : decode prog_1_method_28_code 10 = .ok (.iload_n 2, 1) := by decide +kernel
theorem d_Fs_slotOf_11 : decode prog_1_method_28_code 11 = .ok (.iconst 3, 1) := by decide +kernel
theorem d_Fs_slotOf_12 : decode prog_1_method_28_code 12 = .ok (.if_icmp .lt 14, 3) := by decide +kernel
theorem d_Fs_slotOf_15 : decode prog_1_method_28_code 15 = .ok (.new 43, 3) := by decide +kernel
theorem d_Fs_slotOf_18 : decode prog_1_method_28_code 18 = .ok (.dup, 1) := by decide +kernel
theorem d_Fs_slotOf_19 : decode prog_1_method_28_code 19 = .ok (.ldc_w 308, 3) := by decide +kernel
theorem d_Fs_slotOf_22 : decode prog_1_method_28_code 22 = .ok (.invokespecial 47, 3) := by decide +kernel
theorem d_Fs_slotOf_25 : decode prog_1_method_28_code 25 = .ok (.athrow, 1) := by decide +kernel
theorem d_Fs_slotOf_26 : decode prog_1_method_28_code 26 = .ok (.aload_n 3, 1) := by decide +kernel
theorem d_Fs_slotOf_27 : decode prog_1_method_28_code 27 = .ok (.getfield 188, 3) := by decide +kernel
theorem d_Fs_slotOf_30 : decode prog_1_method_28_code 30 = .ok (.iload_n 2, 1) := by decide +kernel
theorem d_Fs_slotOf_31 : decode prog_1_method_28_code 31 = .ok (.aaload, 1) := by decide +kernel
theorem d_Fs_slotOf_32 : decode prog_1_method_28_code 32 = .ok (.areturn, 1) := by decide +kernel
theorem q_Fs_slotOf : (⟨"FlowShelf", "slotOf", "(II)LFlowShelf$Slot;"⟩ : MethodName).cls ≠ "java/lang/invoke/MethodHandle" ∧ (⟨"FlowShelf", "slotOf", "(II)LFlowShelf$Slot;"⟩ : MethodName).cls ≠ "java/lang/invoke/VarHandle" ∧ (parseMethodDescriptor (⟨"FlowShelf", "slotOf", "(II)LFlowShelf$Slot;"⟩ : MethodName).desc).map (fun d => d.parameters.length) = some 2 := by decide +kernel
set_option maxHeartbeats 4000000 in
set_option maxRecDepth 100000 in
theorem m_Fs_slotOf (X : fs_X) (l : Launch) (hl0 : l.stackTraces = false) (a0 : Nat) (x1 : Int32) (x2 : Int32) {r : (Nat ⊕ String)} {σ σF : fs_S} (h : (f_Fs_slotOf a0 x1 x2).1 σ = some (r, σF)) : fs_Met X l ⟨"FlowShelf", "slotOf", "(II)LFlowShelf$Slot;"⟩ (Cond.code ⟨"FlowShelf", "slotOf", "(II)LFlowShelf$Slot;"⟩ prog_1_method_28_code 4 (some (FieldType.object "FlowShelf$Slot"))) 7 103 [.ref a0, .int x1, .int x2] σ (fs_qR r) σF := by
  refine fs_ofW (by decide) ?_
  intro p e s m args below meth c s₁ B hml hT hv
  obtain ⟨rfl, hw0, hG⟩ := hv
  have hx := B.exec
  have hb := B.bytes
  have hr := B.returns
  have hk := B.notSynchronized
  have S : CallFix p m c prog_1_method_28_code 4 s _ fs_ws "FlowShelf" := ⟨B.exec, B.bytes, hml, findClass_of_methodNamed B.named, fun w hw => atoms_spec (ws := _ :: fs_ws) B.pre w (List.mem_cons_of_mem _ hw)⟩
  have hR := fs_hR (fr := 7) (lo := 103) ((f_Fs_slotOf a0 x1 x2).2 _ _ _ h)
  have hl := lv_entry ([.ref a0, .int x1, .int x2]) (n := 4) (Nat.le_of_ble_eq_true rfl)
  rw [lg_entry_eq]
  generalize (lg_sl ([.ref a0, .int x1, .int x2]) ++ List.replicate (4 - (lg_sl ([.ref a0, .int x1, .int x2])).length) Slot.unset).toArray = ls at hl ⊢
  have hl : lv_has ls 4 [(0, .ref a0), (1, .int x1), (2, .int x2)] := hl
  refine (?_ : fs_J X p l e (fs_rm 7 103 σ σF) s m _ below meth c (fs_Q X below _ s (fs_qR r) σ σF) r σ σF (f_Fs_slotOf a0 x1 x2) (F0 m 0 ls [])) σ s.heap [] 0 0 h hw0 va_S.rf rfl rfl
  clear h hw0
  unfold f_Fs_slotOf
  refine fs_lift (fun _ _ _ _ => lv_aload_n hx hb d_Fs_slotOf_0 rfl (lv_at hl 0 rfl)) ?_
  refine fs_lift (fun _ _ _ _ => lv_iload_n hx hb d_Fs_slotOf_1 rfl (lv_at hl 1 rfl)) ?_
  refine fs_JVx S hG hR hT hk rfl [.int x1] (fun r => some (.ref r)) (encx := fs_qR) (fun _ => rfl) (fun _ => rfl) (fun zr zs zt zh => m_Fs_exporterOf X l hl0 a0 x1 zh) tw_2_60 tw_2_62 tp_1_1 tw_2_63 tw_1_1 q_Fs_exporterOf ⟨(Nat.le_of_ble_eq_true rfl), (Nat.le_of_ble_eq_true rfl)⟩ hl.1 rfl (Nat.le_of_ble_eq_true rfl) d_Fs_slotOf_2 (enc := fs_qR) (fun _ => rfl) (fun r1 => ?_)
  refine fs_Jeq (g2 := F0 m 5 ls [.ref r1]) rfl ?_
  refine fs_liftL (fun _ _ _ _ => lv_astore_n (lv' := [(3, .ref r1), (0, .ref a0), (1, .int x1), (2, .int x2)]) hx hb d_Fs_slotOf_5 rfl hl (Nat.le_of_ble_eq_true rfl) rfl) (fun ls hl => ?_)
  refine fs_lift (fun _ _ _ _ => lv_iload_n hx hb d_Fs_slotOf_6 rfl (lv_at hl 3 rfl)) ?_
  refine fs_Jlet1 (nL := 4) (pj := 15) (I := fun (_ : Unit) => []) (st := fun (_ : Unit) => []) (fun _ ls hl => ?_) (fun j15 hj15 => ?_)
  · exact fs_Jthrow S hG hR hl0 (names := fs_nms) (len := 3) (.ldc_w 308) (Or.inr ⟨rfl, rfl⟩) (by decide) fs_fit fs_at1 tw_2_67 tw_1_15 tb_3_144 hl.1 hT hk (Nat.le_of_ble_eq_true rfl) (Nat.le_of_ble_eq_true rfl) d_Fs_slotOf_15 d_Fs_slotOf_18 d_Fs_slotOf_19 d_Fs_slotOf_22 d_Fs_slotOf_25 rfl
  · refine fs_if (fun _ _ _ _ => lv_if_lt hx hb d_Fs_slotOf_7 rfl) ?_ ?_
    · exact hj15 () ls (lv_sub hl [] rfl)
    · refine fs_lift (fun _ _ _ _ => lv_iload_n hx hb d_Fs_slotOf_10 rfl (lv_at hl 3 rfl)) ?_
      refine fs_lift (fun _ _ _ _ => lv_iconst (v := 3) hx hb d_Fs_slotOf_11 (by decide)) ?_
      refine fs_if (fun _ _ _ _ => lv_icmp_lt hx hb d_Fs_slotOf_12 rfl) ?_ ?_
      · refine fs_lift (fun _ _ _ _ => lv_aload_n hx hb d_Fs_slotOf_26 rfl (lv_at hl 0 rfl)) ?_
        refine fs_Jgr S hG fs_in1 rfl 3 (Nat.le_of_ble_eq_true rfl) tw_1_131 (fun _ h9 => h9) d_Fs_slotOf_27 (fun r2 => ?_)
        refine fs_lift (fun _ _ _ _ => lv_iload_n hx hb d_Fs_slotOf_30 rfl (lv_at hl 3 rfl)) ?_
        refine fs_Jar S hG d_Fs_slotOf_31 (fun r3 => ?_)
        exact fs_Jaret S hr (Or.inl ⟨_, rfl⟩) hk rfl d_Fs_slotOf_32
      · exact hj15 () ls (lv_sub hl [] rfl)

theorem d_Layout_has_0 : decode prog_6_method_2_code 0 = .ok (.iconst 0, 1) := by decide +kernel
theorem d_Layout_has_1 : decode prog_6_method_2_code 1 = .ok (.istore_n 2, 1) := by decide +kernel
theorem d_Layout_has_2 : decode prog_6_method_2_code 2 = .ok (.iload_n 2, 1) := by decide +kernel
theorem d_Layout_has_3 : decode prog_6_method_2_code 3 = .ok (.aload_n 0, 1) := by decide +kernel
theorem d_Layout_has_4 : decode prog_6_method_2_code 4 = .ok (.getfield 18, 3) := by decide +kernel
theorem d_Layout_has_7 : decode prog_6_method_2_code 7 = .ok (.if_icmp .ge 21, 3) := by decide +kernel
theorem d_Layout_has_10 : decode prog_6_method_2_code 10 = .ok (.aload_n 0, 1) := by decide +kernel
theorem d_Layout_has_11 : decode prog_6_method_2_code 11 = .ok (.getfield 9, 3) := by decide +kernel
theorem d_Layout_has_14 : decode prog_6_method_2_code 14 = .ok (.iload_n 2, 1) := by decide +kernel
theorem d_Layout_has_15 : decode prog_6_method_2_code 15 = .ok (.iaload, 1) := by decide +kernel
theorem d_Layout_has_16 : decode prog_6_method_2_code 16 = .ok (.iload_n 1, 1) := by decide +kernel
theorem d_Layout_has_17 : decode prog_6_method_2_code 17 = .ok (.if_icmp .ne 5, 3) := by decide +kernel
theorem d_Layout_has_20 : decode prog_6_method_2_code 20 = .ok (.iconst 1, 1) := by decide +kernel
theorem d_Layout_has_21 : decode prog_6_method_2_code 21 = .ok (.ireturn, 1) := by decide +kernel
theorem d_Layout_has_22 : decode prog_6_method_2_code 22 = .ok (.iinc 2 1, 3) := by decide +kernel
theorem d_Layout_has_25 : decode prog_6_method_2_code 25 = .ok (.goto (-23), 3) := by decide +kernel
theorem d_Layout_has_28 : decode prog_6_method_2_code 28 = .ok (.iconst 0, 1) := by decide +kernel
theorem d_Layout_has_29 : decode prog_6_method_2_code 29 = .ok (.ireturn, 1) := by decide +kernel
theorem q_Layout_has : (⟨"FlowShelf$Layout", "has", "(I)Z"⟩ : MethodName).cls ≠ "java/lang/invoke/MethodHandle" ∧ (⟨"FlowShelf$Layout", "has", "(I)Z"⟩ : MethodName).cls ≠ "java/lang/invoke/VarHandle" ∧ (parseMethodDescriptor (⟨"FlowShelf$Layout", "has", "(I)Z"⟩ : MethodName).desc).map (fun d => d.parameters.length) = some 1 := by decide +kernel
set_option maxHeartbeats 4000000 in
set_option maxRecDepth 100000 in
theorem m_Layout_has (X : fs_X) (l : Launch) (a0 : Nat) (x1 : Int32) {r : Int32} {σ σF : fs_S} (h : (f_Layout_has a0 x1).1 σ = some (r, σF)) : fs_Met X l ⟨"FlowShelf$Layout", "has", "(I)Z"⟩ (Cond.code ⟨"FlowShelf$Layout", "has", "(I)Z"⟩ prog_6_method_2_code 3 (some FieldType.boolean)) 0 0 [.ref a0, .int x1] σ (fs_eI r) σF := by
  refine fs_ofW (by decide) ?_
  intro p e s m args below meth c s₁ B hml hT hv
  obtain ⟨rfl, hw0, hG⟩ := hv
  have hx := B.exec
  have hb := B.bytes
  have hr := B.returns
  have hk := B.notSynchronized
  have S : CallFix p m c prog_6_method_2_code 3 s _ fs_ws "FlowShelf$Layout" := ⟨B.exec, B.bytes, hml, findClass_of_methodNamed B.named, fun w hw => atoms_spec (ws := _ :: fs_ws) B.pre w (List.mem_cons_of_mem _ hw)⟩
  have hR := fs_hR (fr := 0) (lo := 0) ((f_Layout_has a0 x1).2 _ _ _ h)
  have hl := lv_entry ([.ref a0, .int x1]) (n := 3) (Nat.le_of_ble_eq_true rfl)
  rw [lg_entry_eq]
  generalize (lg_sl ([.ref a0, .int x1]) ++ List.replicate (3 - (lg_sl ([.ref a0, .int x1])).length) Slot.unset).toArray = ls at hl ⊢
  have hl : lv_has ls 3 [(0, .ref a0), (1, .int x1)] := hl
  refine (?_ : fs_J X p l e (fs_rm 0 0 σ σF) s m _ below meth c (fs_Q X below _ s (fs_eI r) σ σF) r σ σF (f_Layout_has a0 x1) (F0 m 0 ls [])) σ s.heap [] 0 0 h hw0 va_S.rf rfl rfl
  clear h hw0
  unfold f_Layout_has
  refine fs_lift (fun _ _ _ _ => lv_iconst (v := 0) hx hb d_Layout_has_0 (by decide)) ?_
  refine fs_liftL (fun _ _ _ _ => lv_istore_n (lv' := [(2, .int 0), (0, .ref a0), (1, .int x1)]) hx hb d_Layout_has_1 rfl hl (Nat.le_of_ble_eq_true rfl) rfl) (fun ls hl => ?_)
  refine fs_Jlp1 (nL := 3) (pc := 2) (rest := []) (I := fun (v1 : Int32) => [(0, .ref a0), (1, .int x1), (2, .int v1)]) (fun k2 hk2 v1 ls hl => ?_) _ _ _ (lv_sub hl [1, 2, 0] rfl)
  refine fs_lift (fun _ _ _ _ => lv_iload_n hx hb d_Layout_has_2 rfl (lv_at hl 2 rfl)) ?_
  refine fs_lift (fun _ _ _ _ => lv_aload_n hx hb d_Layout_has_3 rfl (lv_at hl 0 rfl)) ?_
  refine fs_Jgi S hG fs_in4 rfl 2 (Nat.le_of_ble_eq_true rfl) tw_1_86 (fun _ h9 => h9) d_Layout_has_4 (fun v2 => ?_)
  refine fs_if (fun _ _ _ _ => lv_icmp_ge hx hb d_Layout_has_7 rfl) ?_ ?_
  · refine fs_lift (fun _ _ _ _ => lv_iconst (v := 0) hx hb d_Layout_has_28 (by decide)) ?_
    exact fs_Jzret S hr hk rfl d_Layout_has_29
  · refine fs_lift (fun _ _ _ _ => lv_aload_n hx hb d_Layout_has_10 rfl (lv_at hl 0 rfl)) ?_
    refine fs_Jgr S hG fs_in4 rfl 0 (Nat.le_of_ble_eq_true rfl) tw_1_82 (fun _ h9 => h9) d_Layout_has_11 (fun r3 => ?_)
    refine fs_lift (fun _ _ _ _ => lv_iload_n hx hb d_Layout_has_14 rfl (lv_at hl 2 rfl)) ?_
    refine fs_Jai S hG d_Layout_has_15 (fun v4 => ?_)
    refine fs_lift (fun _ _ _ _ => lv_iload_n hx hb d_Layout_has_16 rfl (lv_at hl 1 rfl)) ?_
    refine fs_ifn (fun _ _ _ _ => lv_icmp_ne hx hb d_Layout_has_17 rfl) ?_ ?_
    · refine fs_lift (fun _ _ _ _ => lv_iconst (v := 1) hx hb d_Layout_has_20 (by decide)) ?_
      exact fs_Jzret S hr hk rfl d_Layout_has_21
    · refine fs_Jnm (fun v5 hv9 => ?_)
      refine fs_liftL (fun _ _ _ _ => lv_iinc (k := 2) (v := v5) (lv' := [(2, .int v5), (0, .ref a0), (1, .int x1)]) hx hb d_Layout_has_22 hl rfl (by rw [hv9]; rfl) (Nat.le_of_ble_eq_true rfl) rfl) (fun ls hl => ?_)
      refine fs_lift (fun _ _ _ _ => lv_goto hx hb d_Layout_has_25 rfl) ?_
      exact hk2 v5 ls (lv_sub hl [1, 2, 0] rfl)

theorem d_Layout_append_0 : decode prog_6_method_3_code 0 = .ok (.aload_n 0, 1) := by decide +kernel
theorem d_Layout_append_1 : decode prog_6_method_3_code 1 = .ok (.getfield 18, 3) := by decide +kernel
theorem d_Layout_append_4 : decode prog_6_method_3_code 4 = .ok (.bipush 8, 2) := by decide +kernel
theorem d_Layout_append_6 : decode prog_6_method_3_code 6 = .ok (.if_icmp .ge 33, 3) := by decide +kernel
theorem d_Layout_append_9 : decode prog_6_method_3_code 9 = .ok (.aload_n 0, 1) := by decide +kernel
theorem d_Layout_append_10 : decode prog_6_method_3_code 10 = .ok (.getfield 9, 3) := by decide +kernel
theorem d_Layout_append_13 : decode prog_6_method_3_code 13 = .ok (.aload_n 0, 1) := by decide +kernel
theorem d_Layout_append_14 : decode prog_6_method_3_code 14 = .ok (.getfield 18, 3) := by decide +kernel
theorem d_Layout_append_17 : decode prog_6_method_3_code 17 = .ok (.iload_n 1, 1) := by decide +kernel
theorem d_Layout_append_18 : decode prog_6_method_3_code 18 = .ok (.iastore, 1) := by decide +kernel
theorem d_Layout_append_19 : decode prog_6_method_3_code 19 = .ok (.aload_n 0, 1) := by decide +kernel
theorem d_Layout_append_20 : decode prog_6_method_3_code 20 = .ok (.getfield 15, 3) := by decide +kernel
theorem d_Layout_append_23 : decode prog_6_method_3_code 23 = .ok (.aload_n 0, 1) := by decide +kernel
theorem d_Layout_append_24 : decode prog_6_method_3_code 24 = .ok (.getfield 18, 3) := by decide +kernel
theorem d_Layout_append_27 : decode prog_6_method_3_code 27 = .ok (.iload_n 2, 1) := by decide +kernel
theorem d_Layout_append_28 : decode prog_6_method_3_code 28 = .ok (.iastore, 1) := by decide +kernel
theorem d_Layout_append_29 : decode prog_6_method_3_code 29 = .ok (.aload_n 0, 1) := by decide +kernel
theorem d_Layout_append_30 : decode prog_6_method_3_code 30 = .ok (.dup, 1) := by decide +kernel
theorem d_Layout_append_31 : decode prog_6_method_3_code 31 = .ok (.getfield 18, 3) := by decide +kernel
theorem d_Layout_append_34 : decode prog_6_method_3_code 34 = .ok (.iconst 1, 1) := by decide +kernel
theorem d_Layout_append_35 : decode prog_6_method_3_code 35 = .ok (.iadd, 1) := by decide +kernel
theorem d_Layout_append_36 : decode prog_6_method_3_code 36 = .ok (.putfield 18, 3) := by decide +kernel
theorem d_Layout_append_39 : decode prog_6_method_3_code 39 = .ok (.return_, 1) := by decide +kernel
theorem q_Layout_append : (⟨"FlowShelf$Layout", "append", "(II)V"⟩ : MethodName).cls ≠ "java/lang/invoke/MethodHandle" ∧ (⟨"FlowShelf$Layout", "append", "(II)V"⟩ : MethodName).cls ≠ "java/lang/invoke/VarHandle" ∧ (parseMethodDescriptor (⟨"FlowShelf$Layout", "append", "(II)V"⟩ : MethodName).desc).map (fun d => d.parameters.length) = some 2 := by decide +kernel
set_option maxHeartbeats 4000000 in
set_option maxRecDepth 100000 in
theorem m_Layout_append (X : fs_X) (l : Launch) (a0 : Nat) (x1 : Int32) (x2 : Int32) {r : Unit} {σ σF : fs_S} (h : (f_Layout_append a0 x1 x2).1 σ = some (r, σF)) : fs_Met X l ⟨"FlowShelf$Layout", "append", "(II)V"⟩ (Cond.code ⟨"FlowShelf$Layout", "append", "(II)V"⟩ prog_6_method_3_code 3 none) 0 0 [.ref a0, .int x1, .int x2] σ (fs_eV r) σF := by
  refine fs_ofW (by decide) ?_
  intro p e s m args below meth c s₁ B hml hT hv
  obtain ⟨rfl, hw0, hG⟩ := hv
  have hx := B.exec
  have hb := B.bytes
  have hr := B.returns
  have hk := B.notSynchronized
  have S : CallFix p m c prog_6_method_3_code 3 s _ fs_ws "FlowShelf$Layout" := ⟨B.exec, B.bytes, hml, findClass_of_methodNamed B.named, fun w hw => atoms_spec (ws := _ :: fs_ws) B.pre w (List.mem_cons_of_mem _ hw)⟩
  have hR := fs_hR (fr := 0) (lo := 0) ((f_Layout_append a0 x1 x2).2 _ _ _ h)
  have hl := lv_entry ([.ref a0, .int x1, .int x2]) (n := 3) (Nat.le_of_ble_eq_true rfl)
  rw [lg_entry_eq]
  generalize (lg_sl ([.ref a0, .int x1, .int x2]) ++ List.replicate (3 - (lg_sl ([.ref a0, .int x1, .int x2])).length) Slot.unset).toArray = ls at hl ⊢
  have hl : lv_has ls 3 [(0, .ref a0), (1, .int x1), (2, .int x2)] := hl
  refine (?_ : fs_J X p l e (fs_rm 0 0 σ σF) s m _ below meth c (fs_Q X below _ s (fs_eV r) σ σF) r σ σF (f_Layout_append a0 x1 x2) (F0 m 0 ls [])) σ s.heap [] 0 0 h hw0 va_S.rf rfl rfl
  clear h hw0
  unfold f_Layout_append
  refine fs_lift (fun _ _ _ _ => lv_aload_n hx hb d_Layout_append_0 rfl (lv_at hl 0 rfl)) ?_
  refine fs_Jgi S hG fs_in4 rfl 2 (Nat.le_of_ble_eq_true rfl) tw_1_86 (fun _ h9 => h9) d_Layout_append_1 (fun v1 => ?_)
  refine fs_lift (fun _ _ _ _ => lv_bipush (v := 8) hx hb d_Layout_append_4 (by decide)) ?_
  refine fs_if (fun _ _ _ _ => lv_icmp_ge hx hb d_Layout_append_6 rfl) ?_ ?_
  · exact fs_Jvret S hr hk rfl d_Layout_append_39
  · refine fs_lift (fun _ _ _ _ => lv_aload_n hx hb d_Layout_append_9 rfl (lv_at hl 0 rfl)) ?_
    refine fs_Jgr S hG fs_in4 rfl 0 (Nat.le_of_ble_eq_true rfl) tw_1_82 (fun _ h9 => h9) d_Layout_append_10 (fun r2 => ?_)
    refine fs_lift (fun _ _ _ _ => lv_aload_n hx hb d_Layout_append_13 rfl (lv_at hl 0 rfl)) ?_
    refine fs_Jgi S hG fs_in4 rfl 2 (Nat.le_of_ble_eq_true rfl) tw_1_86 (fun _ h9 => h9) d_Layout_append_14 (fun v3 => ?_)
    refine fs_lift (fun _ _ _ _ => lv_iload_n hx hb d_Layout_append_17 rfl (lv_at hl 1 rfl)) ?_
    refine fs_Jsi S hG d_Layout_append_18 ?_
    refine fs_lift (fun _ _ _ _ => lv_aload_n hx hb d_Layout_append_19 rfl (lv_at hl 0 rfl)) ?_
    refine fs_Jgr S hG fs_in4 rfl 1 (Nat.le_of_ble_eq_true rfl) tw_1_84 (fun _ h9 => h9) d_Layout_append_20 (fun r4 => ?_)
    refine fs_lift (fun _ _ _ _ => lv_aload_n hx hb d_Layout_append_23 rfl (lv_at hl 0 rfl)) ?_
    refine fs_Jgi S hG fs_in4 rfl 2 (Nat.le_of_ble_eq_true rfl) tw_1_86 (fun _ h9 => h9) d_Layout_append_24 (fun v5 => ?_)
    refine fs_lift (fun _ _ _ _ => lv_iload_n hx hb d_Layout_append_27 rfl (lv_at hl 2 rfl)) ?_
    refine fs_Jsi S hG d_Layout_append_28 ?_
    refine fs_lift (fun _ _ _ _ => lv_aload_n hx hb d_Layout_append_29 rfl (lv_at hl 0 rfl)) ?_
    refine fs_lift (fun _ _ _ _ => lv_dup hx hb d_Layout_append_30 rfl) ?_
    refine fs_Jgi S hG fs_in4 rfl 2 (Nat.le_of_ble_eq_true rfl) tw_1_86 (fun _ h9 => h9) d_Layout_append_31 (fun v6 => ?_)
    refine fs_lift (fun _ _ _ _ => lv_iconst (v := 1) hx hb d_Layout_append_34 (by decide)) ?_
    refine fs_lift (fun _ _ _ _ => lv_iadd hx hb d_Layout_append_35) ?_
    refine fs_Jput S hG fs_in4 rfl 2 (Nat.le_of_ble_eq_true rfl) tw_1_86 (fun _ h9 => h9) fs_Y4 fs_ty4 fs_nm4 (Or.inl rfl) rfl rfl d_Layout_append_36 ?_
    exact fs_Jvret S hr hk rfl d_Layout_append_39

