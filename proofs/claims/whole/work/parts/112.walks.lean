/-! contracts of methods, walked by program -/
theorem d_Rf_makeRows_0 : decode prog_13_method_37_code 0 = .ok (.aload_n 0, 1) := by decide +kernel
theorem d_Rf_makeRows_1 : decode prog_13_method_37_code 1 = .ok (.iload_n 1, 1) := by decide +kernel
theorem d_Rf_makeRows_2 : decode prog_13_method_37_code 2 = .ok (.iconst 0, 1) := by decide +kernel
theorem d_Rf_makeRows_3 : decode prog_13_method_37_code 3 = .ok (.invokevirtual 221, 3) := by decide +kernel
theorem d_Rf_makeRows_6 : decode prog_13_method_37_code 6 = .ok (.ifCond .ne 5, 3) := by decide +kernel
theorem d_Rf_makeRows_9 : decode prog_13_method_37_code 9 = .ok (.iconst (-1), 1) := by decide +kernel
theorem d_Rf_makeRows_10 : decode prog_13_method_37_code 10 = .ok (.ireturn, 1) := by decide +kernel
theorem d_Rf_makeRows_11 : decode prog_13_method_37_code 11 = .ok (.aload_n 0, 1) := by decide +kernel
theorem d_Rf_makeRows_12 : decode prog_13_method_37_code 12 = .ok (.iload_n 1, 1) := by decide +kernel
theorem d_Rf_makeRows_13 : decode prog_13_method_37_code 13 = .ok (.iconst 1, 1) := by decide +kernel
theorem d_Rf_makeRows_14 : decode prog_13_method_37_code 14 = .ok (.invokevirtual 221, 3) := by decide +kernel
theorem d_Rf_makeRows_17 : decode prog_13_method_37_code 17 = .ok (.istore_n 2, 1) := by decide +kernel
theorem d_Rf_makeRows_18 : decode prog_13_method_37_code 18 = .ok (.aload_n 0, 1) := by decide +kernel
theorem d_Rf_makeRows_19 : decode prog_13_method_37_code 19 = .ok (.dup, 1) := by decide +kernel
theorem d_Rf_makeRows_20 : decode prog_13_method_37_code 20 = .ok (.getfield 214, 3) := by decide +kernel
theorem d_Rf_makeRows_23 : decode prog_13_method_37_code 23 = .ok (.aload_n 0, 1) := by decide +kernel
theorem d_Rf_makeRows_24 : decode prog_13_method_37_code 24 = .ok (.getfield 129, 3) := by decide +kernel
theorem d_Rf_makeRows_27 : decode prog_13_method_37_code 27 = .ok (.iconst 5, 1) := by decide +kernel
theorem d_Rf_makeRows_28 : decode prog_13_method_37_code 28 = .ok (.iaload, 1) := by decide +kernel
theorem d_Rf_makeRows_29 : decode prog_13_method_37_code 29 = .ok (.iadd, 1) := by decide +kernel
theorem d_Rf_makeRows_30 : decode prog_13_method_37_code 30 = .ok (.putfield 214, 3) := by decide +kernel
theorem d_Rf_makeRows_33 : decode prog_13_method_37_code 33 = .ok (.iload_n 2, 1) := by decide +kernel
theorem d_Rf_makeRows_34 : decode prog_13_method_37_code 34 = .ok (.ifCond .eq 12, 3) := by decide +kernel
theorem d_Rf_makeRows_37 : decode prog_13_method_37_code 37 = .ok (.aload_n 0, 1) := by decide +kernel
theorem d_Rf_makeRows_38 : decode prog_13_method_37_code 38 = .ok (.getfield 129, 3) := by decide +kernel
theorem d_Rf_makeRows_41 : decode prog_13_method_37_code 41 = .ok (.iconst 5, 1) := by decide +kernel
theorem d_Rf_makeRows_42 : decode prog_13_method_37_code 42 = .ok (.iaload, 1) := by decide +kernel
theorem d_Rf_makeRows_43 : decode prog_13_method_37_code 43 = .ok (.goto 4, 3) := by decide +kernel
theorem d_Rf_makeRows_46 : decode prog_13_method_37_code 46 = .ok (.iconst (-1), 1) := by decide +kernel
theorem d_Rf_makeRows_47 : decode prog_13_method_37_code 47 = .ok (.ireturn, 1) := by decide +kernel
theorem q_Rf_makeRows : (⟨"FlowShelfModel", "makeRows", "(I)I"⟩ : MethodName).cls ≠ "java/lang/invoke/MethodHandle" ∧ (⟨"FlowShelfModel", "makeRows", "(I)I"⟩ : MethodName).cls ≠ "java/lang/invoke/VarHandle" ∧ (parseMethodDescriptor (⟨"FlowShelfModel", "makeRows", "(I)I"⟩ : MethodName).desc).map (fun d => d.parameters.length) = some 1 := by decide +kernel
set_option maxHeartbeats 4000000 in
set_option maxRecDepth 100000 in
theorem m_Rf_makeRows (X : fs_X) (l : Launch) (a0 : Nat) (x1 : Int32) {r : Int32} {σ σF : fs_S} (h : (f_Rf_makeRows a0 x1).1 σ = some (r, σF)) : fs_Met X l ⟨"FlowShelfModel", "makeRows", "(I)I"⟩ (Cond.code ⟨"FlowShelfModel", "makeRows", "(I)I"⟩ prog_13_method_37_code 3 (some FieldType.int)) 2 51 [.ref a0, .int x1] σ (fs_eI r) σF := by
  refine fs_ofW (by decide) ?_
  intro p e s m args below meth c s₁ B hml hT hv
  obtain ⟨rfl, hw0, hG⟩ := hv
  have hx := B.exec
  have hb := B.bytes
  have hr := B.returns
  have hk := B.notSynchronized
  have S : CallFix p m c prog_13_method_37_code 3 s _ fs_ws "FlowShelfModel" := ⟨B.exec, B.bytes, hml, findClass_of_methodNamed B.named, fun w hw => atoms_spec (ws := _ :: fs_ws) B.pre w (List.mem_cons_of_mem _ hw)⟩
  have hR := fs_hR (fr := 2) (lo := 51) ((f_Rf_makeRows a0 x1).2 _ _ _ h)
  have hl := lv_entry ([.ref a0, .int x1]) (n := 3) (Nat.le_of_ble_eq_true rfl)
  rw [lg_entry_eq]
  generalize (lg_sl ([.ref a0, .int x1]) ++ List.replicate (3 - (lg_sl ([.ref a0, .int x1])).length) Slot.unset).toArray = ls at hl ⊢
  have hl : lv_has ls 3 [(0, .ref a0), (1, .int x1)] := hl
  refine (?_ : fs_J X p l e (fs_rm 2 51 σ σF) s m _ below meth c (fs_Q X below _ s (fs_eI r) σ σF) r σ σF (f_Rf_makeRows a0 x1) (F0 m 0 ls [])) σ s.heap [] 0 0 h hw0 va_S.rf rfl rfl
  clear h hw0
  unfold f_Rf_makeRows
  refine fs_lift (fun _ _ _ _ => lv_aload_n hx hb d_Rf_makeRows_0 rfl (lv_at hl 0 rfl)) ?_
  refine fs_lift (fun _ _ _ _ => lv_iload_n hx hb d_Rf_makeRows_1 rfl (lv_at hl 1 rfl)) ?_
  refine fs_lift (fun _ _ _ _ => lv_iconst (v := 0) hx hb d_Rf_makeRows_2 (by decide)) ?_
  refine fs_JV S hG hR rfl [.int x1, .int 0] (enc := fun r => some (.int r)) (fun zr zs zt zh => m_Rf_read X l a0 x1 0 zh) tw_7_17 tw_7_19 tp_3_2 tw_7_20 tw_1_11 q_Rf_read ⟨(Nat.le_of_ble_eq_true rfl), (Nat.le_of_ble_eq_true rfl)⟩ hl.1 rfl (Nat.le_of_ble_eq_true rfl) d_Rf_makeRows_3 (fun v1 => ?_)
  refine fs_Jeq (g2 := F0 m 6 ls [.int v1]) rfl ?_
  refine fs_ifn (fun _ _ _ _ => lv_if_ne hx hb d_Rf_makeRows_6 rfl) ?_ ?_
  · refine fs_lift (fun _ _ _ _ => lv_iconst (v := (-1)) hx hb d_Rf_makeRows_9 (by decide)) ?_
    exact fs_Jiret S hr hk rfl d_Rf_makeRows_10
  · refine fs_lift (fun _ _ _ _ => lv_aload_n hx hb d_Rf_makeRows_11 rfl (lv_at hl 0 rfl)) ?_
    refine fs_lift (fun _ _ _ _ => lv_iload_n hx hb d_Rf_makeRows_12 rfl (lv_at hl 1 rfl)) ?_
    refine fs_lift (fun _ _ _ _ => lv_iconst (v := 1) hx hb d_Rf_makeRows_13 (by decide)) ?_
    refine fs_JV S hG hR rfl [.int x1, .int 1] (enc := fun r => some (.int r)) (fun zr zs zt zh => m_Rf_read X l a0 x1 1 zh) tw_7_17 tw_7_19 tp_3_2 tw_7_20 tw_1_11 q_Rf_read ⟨(Nat.le_of_ble_eq_true rfl), (Nat.le_of_ble_eq_true rfl)⟩ hl.1 rfl (Nat.le_of_ble_eq_true rfl) d_Rf_makeRows_14 (fun v2 => ?_)
    refine fs_Jeq (g2 := F0 m 17 ls [.int v2]) rfl ?_
    refine fs_liftL (fun _ _ _ _ => lv_istore_n (lv' := [(2, .int v2), (0, .ref a0), (1, .int x1)]) hx hb d_Rf_makeRows_17 rfl hl (Nat.le_of_ble_eq_true rfl) rfl) (fun ls hl => ?_)
    refine fs_lift (fun _ _ _ _ => lv_aload_n hx hb d_Rf_makeRows_18 rfl (lv_at hl 1 rfl)) ?_
    refine fs_lift (fun _ _ _ _ => lv_dup hx hb d_Rf_makeRows_19 rfl) ?_
    refine fs_Jgi S hG fs_in12 rfl 37 (Nat.le_of_ble_eq_true rfl) tw_5_229 (fun _ h9 => h9) d_Rf_makeRows_20 (fun v3 => ?_)
    refine fs_lift (fun _ _ _ _ => lv_aload_n hx hb d_Rf_makeRows_23 rfl (lv_at hl 1 rfl)) ?_
    refine fs_Jgr S hG fs_in12 rfl 46 (Nat.le_of_ble_eq_true rfl) tw_5_238 (fun _ h9 => h9) d_Rf_makeRows_24 (fun r4 => ?_)
    refine fs_lift (fun _ _ _ _ => lv_iconst (v := 5) hx hb d_Rf_makeRows_27 (by decide)) ?_
    refine fs_Jai S hG d_Rf_makeRows_28 (fun v5 => ?_)
    refine fs_lift (fun _ _ _ _ => lv_iadd hx hb d_Rf_makeRows_29) ?_
    refine fs_Jput S hG fs_in12 rfl 37 (Nat.le_of_ble_eq_true rfl) tw_5_229 (fun _ h9 => h9) fs_Y12 fs_ty12 fs_nm12 (Or.inl rfl) rfl rfl d_Rf_makeRows_30 ?_
    refine fs_lift (fun _ _ _ _ => lv_iload_n hx hb d_Rf_makeRows_33 rfl (lv_at hl 0 rfl)) ?_
    refine fs_if (fun _ _ _ _ => lv_if_eq hx hb d_Rf_makeRows_34 rfl) ?_ ?_
    · refine fs_lift (fun _ _ _ _ => lv_iconst (v := (-1)) hx hb d_Rf_makeRows_46 (by decide)) ?_
      exact fs_Jiret S hr hk rfl d_Rf_makeRows_47
    · refine fs_lift (fun _ _ _ _ => lv_aload_n hx hb d_Rf_makeRows_37 rfl (lv_at hl 1 rfl)) ?_
      refine fs_Jgr S hG fs_in12 rfl 46 (Nat.le_of_ble_eq_true rfl) tw_5_238 (fun _ h9 => h9) d_Rf_makeRows_38 (fun r6 => ?_)
      refine fs_lift (fun _ _ _ _ => lv_iconst (v := 5) hx hb d_Rf_makeRows_41 (by decide)) ?_
      refine fs_Jai S hG d_Rf_makeRows_42 (fun v7 => ?_)
      refine fs_lift (fun _ _ _ _ => lv_goto hx hb d_Rf_makeRows_43 rfl) ?_
      exact fs_Jiret S hr hk rfl d_Rf_makeRows_47

theorem d_Rf_unshelve_0 : decode prog_13_method_39_code 0 = .ok (.aload_n 0, 1) := by decide +kernel
theorem d_Rf_unshelve_1 : decode prog_13_method_39_code 1 = .ok (.dup, 1) := by decide +kernel
theorem d_Rf_unshelve_2 : decode prog_13_method_39_code 2 = .ok (.getfield 225, 3) := by decide +kernel
theorem d_Rf_unshelve_5 : decode prog_13_method_39_code 5 = .ok (.iconst 1, 1) := by decide +kernel
theorem d_Rf_unshelve_6 : decode prog_13_method_39_code 6 = .ok (.isub, 1) := by decide +kernel
theorem d_Rf_unshelve_7 : decode prog_13_method_39_code 7 = .ok (.putfield 225, 3) := by decide +kernel
theorem d_Rf_unshelve_10 : decode prog_13_method_39_code 10 = .ok (.iload_n 1, 1) := by decide +kernel
theorem d_Rf_unshelve_11 : decode prog_13_method_39_code 11 = .ok (.istore_n 2, 1) := by decide +kernel
theorem d_Rf_unshelve_12 : decode prog_13_method_39_code 12 = .ok (.iload_n 2, 1) := by decide +kernel
theorem d_Rf_unshelve_13 : decode prog_13_method_39_code 13 = .ok (.aload_n 0, 1) := by decide +kernel
theorem d_Rf_unshelve_14 : decode prog_13_method_39_code 14 = .ok (.getfield 225, 3) := by decide +kernel
theorem d_Rf_unshelve_17 : decode prog_13_method_39_code 17 = .ok (.if_icmp .ge 62, 3) := by decide +kernel
theorem d_Rf_unshelve_20 : decode prog_13_method_39_code 20 = .ok (.aload_n 0, 1) := by decide +kernel
theorem d_Rf_unshelve_21 : decode prog_13_method_39_code 21 = .ok (.getfield 97, 3) := by decide +kernel
theorem d_Rf_unshelve_24 : decode prog_13_method_39_code 24 = .ok (.iload_n 2, 1) := by decide +kernel
theorem d_Rf_unshelve_25 : decode prog_13_method_39_code 25 = .ok (.aload_n 0, 1) := by decide +kernel
theorem d_Rf_unshelve_26 : decode prog_13_method_39_code 26 = .ok (.getfield 97, 3) := by decide +kernel
theorem d_Rf_unshelve_29 : decode prog_13_method_39_code 29 = .ok (.iload_n 2, 1) := by decide +kernel
theorem d_Rf_unshelve_30 : decode prog_13_method_39_code 30 = .ok (.iconst 1, 1) := by decide +kernel
theorem d_Rf_unshelve_31 : decode prog_13_method_39_code 31 = .ok (.iadd, 1) := by decide +kernel
theorem d_Rf_unshelve_32 : decode prog_13_method_39_code 32 = .ok (.iaload, 1) := by decide +kernel
theorem d_Rf_unshelve_33 : decode prog_13_method_39_code 33 = .ok (.iastore, 1) := by decide +kernel
theorem d_Rf_unshelve_34 : decode prog_13_method_39_code 34 = .ok (.iconst 0, 1) := by decide +kernel
theorem d_Rf_unshelve_35 : decode prog_13_method_39_code 35 = .ok (.istore_n 3, 1) := by decide +kernel
theorem d_Rf_unshelve_36 : decode prog_13_method_39_code 36 = .ok (.iload_n 3, 1) := by decide +kernel
theorem d_Rf_unshelve_37 : decode prog_13_method_39_code 37 = .ok (.bipush 64, 2) := by decide +kernel
theorem d_Rf_unshelve_39 : decode prog_13_method_39_code 39 = .ok (.if_icmp .ge 34, 3) := by decide +kernel
theorem d_Rf_unshelve_42 : decode prog_13_method_39_code 42 = .ok (.aload_n 0, 1) := by decide +kernel
theorem d_Rf_unshelve_43 : decode prog_13_method_39_code 43 = .ok (.getfield 100, 3) := by decide +kernel
theorem d_Rf_unshelve_46 : decode prog_13_method_39_code 46 = .ok (.bipush 64, 2) := by decide +kernel
theorem d_Rf_unshelve_48 : decode prog_13_method_39_code 48 = .ok (.iload_n 2, 1) := by decide +kernel
theorem d_Rf_unshelve_49 : decode prog_13_method_39_code 49 = .ok (.imul, 1) := by decide +kernel
theorem d_Rf_unshelve_50 : decode prog_13_method_39_code 50 = .ok (.iload_n 3, 1) := by decide +kernel
theorem d_Rf_unshelve_51 : decode prog_13_method_39_code 51 = .ok (.iadd, 1) := by decide +kernel
theorem d_Rf_unshelve_52 : decode prog_13_method_39_code 52 = .ok (.aload_n 0, 1) := by decide +kernel
theorem d_Rf_unshelve_53 : decode prog_13_method_39_code 53 = .ok (.getfield 100, 3) := by decide +kernel
theorem d_Rf_unshelve_56 : decode prog_13_method_39_code 56 = .ok (.bipush 64, 2) := by decide +kernel
theorem d_Rf_unshelve_58 : decode prog_13_method_39_code 58 = .ok (.iload_n 2, 1) := by decide +kernel
theorem d_Rf_unshelve_59 : decode prog_13_method_39_code 59 = .ok (.imul, 1) := by decide +kernel
theorem d_Rf_unshelve_60 : decode prog_13_method_39_code 60 = .ok (.bipush 64, 2) := by decide +kernel
theorem d_Rf_unshelve_62 : decode prog_13_method_39_code 62 = .ok (.iadd, 1) := by decide +kernel
theorem d_Rf_unshelve_63 : decode prog_13_method_39_code 63 = .ok (.iload_n 3, 1) := by decide +kernel
theorem d_Rf_unshelve_64 : decode prog_13_method_39_code 64 = .ok (.iadd, 1) := by decide +kernel
theorem d_Rf_unshelve_65 : decode prog_13_method_39_code 65 = .ok (.iaload, 1) := by decide +kernel
theorem d_Rf_unshelve_66 : decode prog_13_method_39_code 66 = .ok (.iastore, 1) := by decide +kernel
theorem d_Rf_unshelve_67 : decode prog_13_method_39_code 67 = .ok (.iinc 3 1, 3) := by decide +kernel
theorem d_Rf_unshelve_70 : decode prog_13_method_39_code 70 = .ok (.goto (-34), 3) := by decide +kernel
theorem d_Rf_unshelve_73 : decode prog_13_method_39_code 73 = .ok (.iinc 2 1, 3) := by decide +kernel
theorem d_Rf_unshelve_76 : decode prog_13_method_39_code 76 = .ok (.goto (-64), 3) := by decide +kernel
theorem d_Rf_unshelve_79 : decode prog_13_method_39_code 79 = .ok (.return_, 1) := by decide +kernel
theorem q_Rf_unshelve : (⟨"FlowShelfModel", "unshelve", "(I)V"⟩ : MethodName).cls ≠ "java/lang/invoke/MethodHandle" ∧ (⟨"FlowShelfModel", "unshelve", "(I)V"⟩ : MethodName).cls ≠ "java/lang/invoke/VarHandle" ∧ (parseMethodDescriptor (⟨"FlowShelfModel", "unshelve", "(I)V"⟩ : MethodName).desc).map (fun d => d.parameters.length) = some 1 := by decide +kernel
set_option maxHeartbeats 4000000 in
set_option maxRecDepth 100000 in
theorem m_Rf_unshelve (X : fs_X) (l : Launch) (a0 : Nat) (x1 : Int32) {r : Unit} {σ σF : fs_S} (h : (f_Rf_unshelve a0 x1).1 σ = some (r, σF)) : fs_Met X l ⟨"FlowShelfModel", "unshelve", "(I)V"⟩ (Cond.code ⟨"FlowShelfModel", "unshelve", "(I)V"⟩ prog_13_method_39_code 4 none) 0 0 [.ref a0, .int x1] σ (fs_eV r) σF := by
  refine fs_ofW (by decide) ?_
  intro p e s m args below meth c s₁ B hml hT hv
  obtain ⟨rfl, hw0, hG⟩ := hv
  have hx := B.exec
  have hb := B.bytes
  have hr := B.returns
  have hk := B.notSynchronized
  have S : CallFix p m c prog_13_method_39_code 4 s _ fs_ws "FlowShelfModel" := ⟨B.exec, B.bytes, hml, findClass_of_methodNamed B.named, fun w hw => atoms_spec (ws := _ :: fs_ws) B.pre w (List.mem_cons_of_mem _ hw)⟩
  have hR := fs_hR (fr := 0) (lo := 0) ((f_Rf_unshelve a0 x1).2 _ _ _ h)
  have hl := lv_entry ([.ref a0, .int x1]) (n := 4) (Nat.le_of_ble_eq_true rfl)
  rw [lg_entry_eq]
  generalize (lg_sl ([.ref a0, .int x1]) ++ List.replicate (4 - (lg_sl ([.ref a0, .int x1])).length) Slot.unset).toArray = ls at hl ⊢
  have hl : lv_has ls 4 [(0, .ref a0), (1, .int x1)] := hl
  refine (?_ : fs_J X p l e (fs_rm 0 0 σ σF) s m _ below meth c (fs_Q X below _ s (fs_eV r) σ σF) r σ σF (f_Rf_unshelve a0 x1) (F0 m 0 ls [])) σ s.heap [] 0 0 h hw0 va_S.rf rfl rfl
  clear h hw0
  unfold f_Rf_unshelve
  refine fs_lift (fun _ _ _ _ => lv_aload_n hx hb d_Rf_unshelve_0 rfl (lv_at hl 0 rfl)) ?_
  refine fs_lift (fun _ _ _ _ => lv_dup hx hb d_Rf_unshelve_1 rfl) ?_
  refine fs_Jgi S hG fs_in12 rfl 33 (Nat.le_of_ble_eq_true rfl) tw_5_225 (fun _ h9 => h9) d_Rf_unshelve_2 (fun v1 => ?_)
  refine fs_lift (fun _ _ _ _ => lv_iconst (v := 1) hx hb d_Rf_unshelve_5 (by decide)) ?_
  refine fs_lift (fun _ _ _ _ => lv_isub hx hb d_Rf_unshelve_6) ?_
  refine fs_Jput S hG fs_in12 rfl 33 (Nat.le_of_ble_eq_true rfl) tw_5_225 (fun _ h9 => h9) fs_Y12 fs_ty12 fs_nm12 (Or.inl rfl) rfl rfl d_Rf_unshelve_7 ?_
  refine fs_lift (fun _ _ _ _ => lv_iload_n hx hb d_Rf_unshelve_10 rfl (lv_at hl 1 rfl)) ?_
  refine fs_liftL (fun _ _ _ _ => lv_istore_n (lv' := [(2, .int x1), (0, .ref a0), (1, .int x1)]) hx hb d_Rf_unshelve_11 rfl hl (Nat.le_of_ble_eq_true rfl) rfl) (fun ls hl => ?_)
  refine fs_Jlp1 (nL := 4) (pc := 12) (rest := []) (I := fun (v2 : Int32) => [(0, .ref a0), (2, .int v2)]) (fun k12 hk12 v2 ls hl => ?_) _ _ _ (lv_sub hl [1, 0] rfl)
  refine fs_lift (fun _ _ _ _ => lv_iload_n hx hb d_Rf_unshelve_12 rfl (lv_at hl 1 rfl)) ?_
  refine fs_lift (fun _ _ _ _ => lv_aload_n hx hb d_Rf_unshelve_13 rfl (lv_at hl 0 rfl)) ?_
  refine fs_Jgi S hG fs_in12 rfl 33 (Nat.le_of_ble_eq_true rfl) tw_5_225 (fun _ h9 => h9) d_Rf_unshelve_14 (fun v3 => ?_)
  refine fs_if (fun _ _ _ _ => lv_icmp_ge hx hb d_Rf_unshelve_17 rfl) ?_ ?_
  · exact fs_Jvret S hr hk rfl d_Rf_unshelve_79
  · refine fs_lift (fun _ _ _ _ => lv_aload_n hx hb d_Rf_unshelve_20 rfl (lv_at hl 0 rfl)) ?_
    refine fs_Jgr S hG fs_in12 rfl 34 (Nat.le_of_ble_eq_true rfl) tw_5_226 (fun _ h9 => h9) d_Rf_unshelve_21 (fun r4 => ?_)
    refine fs_lift (fun _ _ _ _ => lv_iload_n hx hb d_Rf_unshelve_24 rfl (lv_at hl 1 rfl)) ?_
    refine fs_lift (fun _ _ _ _ => lv_aload_n hx hb d_Rf_unshelve_25 rfl (lv_at hl 0 rfl)) ?_
    refine fs_Jgr S hG fs_in12 rfl 34 (Nat.le_of_ble_eq_true rfl) tw_5_226 (fun _ h9 => h9) d_Rf_unshelve_26 (fun r5 => ?_)
    refine fs_lift (fun _ _ _ _ => lv_iload_n hx hb d_Rf_unshelve_29 rfl (lv_at hl 1 rfl)) ?_
    refine fs_lift (fun _ _ _ _ => lv_iconst (v := 1) hx hb d_Rf_unshelve_30 (by decide)) ?_
    refine fs_lift (fun _ _ _ _ => lv_iadd hx hb d_Rf_unshelve_31) ?_
    refine fs_Jai S hG d_Rf_unshelve_32 (fun v6 => ?_)
    refine fs_Jsi S hG d_Rf_unshelve_33 ?_
    refine fs_lift (fun _ _ _ _ => lv_iconst (v := 0) hx hb d_Rf_unshelve_34 (by decide)) ?_
    refine fs_liftL (fun _ _ _ _ => lv_istore_n (lv' := [(3, .int 0), (0, .ref a0), (2, .int v2)]) hx hb d_Rf_unshelve_35 rfl hl (Nat.le_of_ble_eq_true rfl) rfl) (fun ls hl => ?_)
    refine fs_Jlp1 (nL := 4) (pc := 36) (rest := []) (I := fun (v7 : Int32) => [(0, .ref a0), (2, .int v2), (3, .int v7)]) (fun k36 hk36 v7 ls hl => ?_) _ _ _ (lv_sub hl [1, 2, 0] rfl)
    refine fs_lift (fun _ _ _ _ => lv_iload_n hx hb d_Rf_unshelve_36 rfl (lv_at hl 2 rfl)) ?_
    refine fs_lift (fun _ _ _ _ => lv_bipush (v := 64) hx hb d_Rf_unshelve_37 (by decide)) ?_
    refine fs_if (fun _ _ _ _ => lv_icmp_ge hx hb d_Rf_unshelve_39 rfl) ?_ ?_
    · refine fs_Jnm (fun v8 hv9 => ?_)
      refine fs_liftL (fun _ _ _ _ => lv_iinc (k := 1) (v := v8) (lv' := [(2, .int v8), (0, .ref a0), (3, .int v7)]) hx hb d_Rf_unshelve_73 hl rfl (by rw [hv9]; rfl) (Nat.le_of_ble_eq_true rfl) rfl) (fun ls hl => ?_)
      refine fs_lift (fun _ _ _ _ => lv_goto hx hb d_Rf_unshelve_76 rfl) ?_
      exact hk12 v8 ls (lv_sub hl [1, 0] rfl)
    · refine fs_lift (fun _ _ _ _ => lv_aload_n hx hb d_Rf_unshelve_42 rfl (lv_at hl 0 rfl)) ?_
      refine fs_Jgr S hG fs_in12 rfl 35 (Nat.le_of_ble_eq_true rfl) tw_5_227 (fun _ h9 => h9) d_Rf_unshelve_43 (fun r9 => ?_)
      refine fs_lift (fun _ _ _ _ => lv_bipush (v := 64) hx hb d_Rf_unshelve_46 (by decide)) ?_
      refine fs_lift (fun _ _ _ _ => lv_iload_n hx hb d_Rf_unshelve_48 rfl (lv_at hl 1 rfl)) ?_
      refine fs_lift (fun _ _ _ _ => lv_imul hx hb d_Rf_unshelve_49) ?_
      refine fs_lift (fun _ _ _ _ => lv_iload_n hx hb d_Rf_unshelve_50 rfl (lv_at hl 2 rfl)) ?_
      refine fs_lift (fun _ _ _ _ => lv_iadd hx hb d_Rf_unshelve_51) ?_
      refine fs_lift (fun _ _ _ _ => lv_aload_n hx hb d_Rf_unshelve_52 rfl (lv_at hl 0 rfl)) ?_
      refine fs_Jgr S hG fs_in12 rfl 35 (Nat.le_of_ble_eq_true rfl) tw_5_227 (fun _ h9 => h9) d_Rf_unshelve_53 (fun r10 => ?_)
      refine fs_lift (fun _ _ _ _ => lv_bipush (v := 64) hx hb d_Rf_unshelve_56 (by decide)) ?_
      refine fs_lift (fun _ _ _ _ => lv_iload_n hx hb d_Rf_unshelve_58 rfl (lv_at hl 1 rfl)) ?_
      refine fs_lift (fun _ _ _ _ => lv_imul hx hb d_Rf_unshelve_59) ?_
      refine fs_lift (fun _ _ _ _ => lv_bipush (v := 64) hx hb d_Rf_unshelve_60 (by decide)) ?_
      refine fs_lift (fun _ _ _ _ => lv_iadd hx hb d_Rf_unshelve_62) ?_
      refine fs_lift (fun _ _ _ _ => lv_iload_n hx hb d_Rf_unshelve_63 rfl (lv_at hl 2 rfl)) ?_
      refine fs_lift (fun _ _ _ _ => lv_iadd hx hb d_Rf_unshelve_64) ?_
      refine fs_Jai S hG d_Rf_unshelve_65 (fun v11 => ?_)
      refine fs_Jsi S hG d_Rf_unshelve_66 ?_
      refine fs_Jnm (fun v12 hv9 => ?_)
      refine fs_liftL (fun _ _ _ _ => lv_iinc (k := 2) (v := v12) (lv' := [(3, .int v12), (0, .ref a0), (2, .int v2)]) hx hb d_Rf_unshelve_67 hl rfl (by rw [hv9]; rfl) (Nat.le_of_ble_eq_true rfl) rfl) (fun ls hl => ?_)
      refine fs_lift (fun _ _ _ _ => lv_goto hx hb d_Rf_unshelve_70 rfl) ?_
      exact hk36 v12 ls (lv_sub hl [1, 2, 0] rfl)

theorem d_Rf_hearTemplate_0 : decode prog_13_method_41_code 0 = .ok (.aload_n 0, 1) := by decide +kernel
theorem d_Rf_hearTemplate_1 : decode prog_13_method_41_code 1 = .ok (.invokevirtual 228, 3) := by decide +kernel
theorem d_Rf_hearTemplate_4 : decode prog_13_method_41_code 4 = .ok (.istore_n 1, 1) := by decide +kernel
theorem d_Rf_hearTemplate_5 : decode prog_13_method_41_code 5 = .ok (.aload_n 0, 1) := by decide +kernel
theorem d_Rf_hearTemplate_6 : decode prog_13_method_41_code 6 = .ok (.iload_n 1, 1) := by decide +kernel
theorem d_Rf_hearTemplate_7 : decode prog_13_method_41_code 7 = .ok (.invokevirtual 232, 3) := by decide +kernel
theorem d_Rf_hearTemplate_10 : decode prog_13_method_41_code 10 = .ok (.ifCond .lt 5, 3) := by decide +kernel
theorem d_Rf_hearTemplate_13 : decode prog_13_method_41_code 13 = .ok (.iconst 0, 1) := by decide +kernel
theorem d_Rf_hearTemplate_14 : decode prog_13_method_41_code 14 = .ok (.ireturn, 1) := by decide +kernel
theorem d_Rf_hearTemplate_15 : decode prog_13_method_41_code 15 = .ok (.aload_n 0, 1) := by decide +kernel
theorem d_Rf_hearTemplate_16 : decode prog_13_method_41_code 16 = .ok (.aload_n 0, 1) := by decide +kernel
theorem d_Rf_hearTemplate_17 : decode prog_13_method_41_code 17 = .ok (.getfield 204, 3) := by decide +kernel
theorem d_Rf_hearTemplate_20 : decode prog_13_method_41_code 20 = .ok (.bipush 20, 2) := by decide +kernel
theorem d_Rf_hearTemplate_22 : decode prog_13_method_41_code 22 = .ok (.if_icmp .eq 18, 3) := by decide +kernel
theorem d_Rf_hearTemplate_25 : decode prog_13_method_41_code 25 = .ok (.aload_n 0, 1) := by decide +kernel
theorem d_Rf_hearTemplate_26 : decode prog_13_method_41_code 26 = .ok (.getfield 214, 3) := by decide +kernel
theorem d_Rf_hearTemplate_29 : decode prog_13_method_41_code 29 = .ok (.aload_n 0, 1) := by decide +kernel
theorem d_Rf_hearTemplate_30 : decode prog_13_method_41_code 30 = .ok (.iload_n 1, 1) := by decide +kernel
theorem d_Rf_hearTemplate_31 : decode prog_13_method_41_code 31 = .ok (.invokevirtual 235, 3) := by decide +kernel
theorem d_Rf_hearTemplate_34 : decode prog_13_method_41_code 34 = .ok (.iadd, 1) := by decide +kernel
theorem d_Rf_hearTemplate_35 : decode prog_13_method_41_code 35 = .ok (.bipush 80, 2) := by decide +kernel
theorem d_Rf_hearTemplate_37 : decode prog_13_method_41_code 37 = .ok (.if_icmp .le 7, 3) := by decide +kernel
theorem d_Rf_hearTemplate_40 : decode prog_13_method_41_code 40 = .ok (.iconst 3, 1) := by decide +kernel
theorem d_Rf_hearTemplate_41 : decode prog_13_method_41_code 41 = .ok (.goto 4, 3) := by decide +kernel
theorem d_Rf_hearTemplate_44 : decode prog_13_method_41_code 44 = .ok (.iconst 0, 1) := by decide +kernel
theorem d_Rf_hearTemplate_45 : decode prog_13_method_41_code 45 = .ok (.putfield 138, 3) := by decide +kernel
theorem d_Rf_hearTemplate_48 : decode prog_13_method_41_code 48 = .ok (.aload_n 0, 1) := by decide +kernel
theorem d_Rf_hearTemplate_49 : decode prog_13_method_41_code 49 = .ok (.getfield 138, 3) := by decide +kernel
theorem d_Rf_hearTemplate_52 : decode prog_13_method_41_code 52 = .ok (.ifCond .eq 5, 3) := by decide +kernel
theorem d_Rf_hearTemplate_55 : decode prog_13_method_41_code 55 = .ok (.iconst 0, 1) := by decide +kernel
theorem d_Rf_hearTemplate_56 : decode prog_13_method_41_code 56 = .ok (.ireturn, 1) := by decide +kernel
theorem d_Rf_hearTemplate_57 : decode prog_13_method_41_code 57 = .ok (.aload_n 0, 1) := by decide +kernel
theorem d_Rf_hearTemplate_58 : decode prog_13_method_41_code 58 = .ok (.getfield 204, 3) := by decide +kernel
theorem d_Rf_hearTemplate_61 : decode prog_13_method_41_code 61 = .ok (.istore_n 2, 1) := by decide +kernel
theorem d_Rf_hearTemplate_62 : decode prog_13_method_41_code 62 = .ok (.aload_n 0, 1) := by decide +kernel
theorem d_Rf_hearTemplate_63 : decode prog_13_method_41_code 63 = .ok (.getfield 85, 3) := by decide +kernel
theorem d_Rf_hearTemplate_66 : decode prog_13_method_41_code 66 = .ok (.iload_n 2, 1) := by decide +kernel
theorem d_Rf_hearTemplate_67 : decode prog_13_method_41_code 67 = .ok (.iload_n 1, 1) := by decide +kernel
theorem d_Rf_hearTemplate_68 : decode prog_13_method_41_code 68 = .ok (.iastore, 1) := by decide +kernel
theorem d_Rf_hearTemplate_69 : decode prog_13_method_41_code 69 = .ok (.aload_n 0, 1) := by decide +kernel
theorem d_Rf_hearTemplate_70 : decode prog_13_method_41_code 70 = .ok (.getfield 88, 3) := by decide +kernel
theorem d_Rf_hearTemplate_73 : decode prog_13_method_41_code 73 = .ok (.iload_n 2, 1) := by decide +kernel
theorem d_Rf_hearTemplate_74 : decode prog_13_method_41_code 74 = .ok (.aload_n 0, 1) := by decide +kernel
theorem d_Rf_hearTemplate_75 : decode prog_13_method_41_code 75 = .ok (.getfield 129, 3) := by decide +kernel
theorem d_Rf_hearTemplate_78 : decode prog_13_method_41_code 78 = .ok (.iconst 5, 1) := by decide +kernel
theorem d_Rf_hearTemplate_79 : decode prog_13_method_41_code 79 = .ok (.iaload, 1) := by decide +kernel
theorem d_Rf_hearTemplate_80 : decode prog_13_method_41_code 80 = .ok (.iastore, 1) := by decide +kernel
theorem d_Rf_hearTemplate_81 : decode prog_13_method_41_code 81 = .ok (.iconst 0, 1) := by decide +kernel
theorem d_Rf_hearTemplate_82 : decode prog_13_method_41_code 82 = .ok (.istore_n 3, 1) := by decide +kernel
theorem d_Rf_hearTemplate_83 : decode prog_13_method_41_code 83 = .ok (.iload_n 3, 1) := by decide +kernel
theorem d_Rf_hearTemplate_84 : decode prog_13_method_41_code 84 = .ok (.aload_n 0, 1) := by decide +kernel
theorem d_Rf_hearTemplate_85 : decode prog_13_method_41_code 85 = .ok (.getfield 129, 3) := by decide +kernel
theorem d_Rf_hearTemplate_88 : decode prog_13_method_41_code 88 = .ok (.iconst 5, 1) := by decide +kernel
theorem d_Rf_hearTemplate_89 : decode prog_13_method_41_code 89 = .ok (.iaload, 1) := by decide +kernel
theorem d_Rf_hearTemplate_90 : decode prog_13_method_41_code 90 = .ok (.if_icmp .ge 53, 3) := by decide +kernel
theorem d_Rf_hearTemplate_93 : decode prog_13_method_41_code 93 = .ok (.aload_n 0, 1) := by decide +kernel
theorem d_Rf_hearTemplate_94 : decode prog_13_method_41_code 94 = .ok (.getfield 91, 3) := by decide +kernel
theorem d_Rf_hearTemplate_97 : decode prog_13_method_41_code 97 = .ok (.bipush 8, 2) := by decide +kernel
theorem d_Rf_hearTemplate_99 : decode prog_13_method_41_code 99 = .ok (.iload_n 2, 1) := by decide +kernel
theorem d_Rf_hearTemplate_100 : decode prog_13_method_41_code 100 = .ok (.imul, 1) := by decide +kernel
theorem d_Rf_hearTemplate_101 : decode prog_13_method_41_code 101 = .ok (.iload_n 3, 1) := by decide +kernel
theorem d_Rf_hearTemplate_102 : decode prog_13_method_41_code 102 = .ok (.iadd, 1) := by decide +kernel
theorem d_Rf_hearTemplate_103 : decode prog_13_method_41_code 103 = .ok (.aload_n 0, 1) := by decide +kernel
theorem d_Rf_hearTemplate_104 : decode prog_13_method_41_code 104 = .ok (.getfield 129, 3) := by decide +kernel
theorem d_Rf_hearTemplate_107 : decode prog_13_method_41_code 107 = .ok (.bipush 6, 2) := by decide +kernel
theorem d_Rf_hearTemplate_109 : decode prog_13_method_41_code 109 = .ok (.iconst 2, 1) := by decide +kernel
theorem d_Rf_hearTemplate_110 : decode prog_13_method_41_code 110 = .ok (.iload_n 3, 1) := by decide +kernel
theorem d_Rf_hearTemplate_111 : decode prog_13_method_41_code 111 = .ok (.imul, 1) := by decide +kernel
theorem d_Rf_hearTemplate_112 : decode prog_13_method_41_code 112 = .ok (.iadd, 1) := by decide +kernel
theorem d_Rf_hearTemplate_113 : decode prog_13_method_41_code 113 = .ok (.iaload, 1) := by decide +kernel
theorem d_Rf_hearTemplate_114 : decode prog_13_method_41_code 114 = .ok (.iastore, 1) := by decide +kernel
theorem d_Rf_hearTemplate_115 : decode prog_13_method_41_code 115 = .ok (.aload_n 0, 1) := by decide +kernel
theorem d_Rf_hearTemplate_116 : decode prog_13_method_41_code 116 = .ok (.getfield 94, 3) := by decide +kernel
theorem d_Rf_hearTemplate_119 : decode prog_13_method_41_code 119 = .ok (.bipush 8, 2) := by decide +kernel
theorem d_Rf_hearTemplate_121 : decode prog_13_method_41_code 121 = .ok (.iload_n 2, 1) := by decide +kernel
theorem d_Rf_hearTemplate_122 : decode prog_13_method_41_code 122 = .ok (.imul, 1) := by decide +kernel
theorem d_Rf_hearTemplate_123 : decode prog_13_method_41_code 123 = .ok (.iload_n 3, 1) := by decide +kernel
theorem d_Rf_hearTemplate_124 : decode prog_13_method_41_code 124 = .ok (.iadd, 1) := by decide +kernel
theorem d_Rf_hearTemplate_125 : decode prog_13_method_41_code 125 = .ok (.aload_n 0, 1) := by decide +kernel
theorem d_Rf_hearTemplate_126 : decode prog_13_method_41_code 126 = .ok (.getfield 129, 3) := by decide +kernel
theorem d_Rf_hearTemplate_129 : decode prog_13_method_41_code 129 = .ok (.bipush 7, 2) := by decide +kernel
theorem d_Rf_hearTemplate_131 : decode prog_13_method_41_code 131 = .ok (.iconst 2, 1) := by decide +kernel
theorem d_Rf_hearTemplate_132 : decode prog_13_method_41_code 132 = .ok (.iload_n 3, 1) := by decide +kernel
theorem d_Rf_hearTemplate_133 : decode prog_13_method_41_code 133 = .ok (.imul, 1) := by decide +kernel
theorem d_Rf_hearTemplate_134 : decode prog_13_method_41_code 134 = .ok (.iadd, 1) := by decide +kernel
theorem d_Rf_hearTemplate_135 : decode prog_13_method_41_code 135 = .ok (.iaload, 1) := by decide +kernel
theorem d_Rf_hearTemplate_136 : decode prog_13_method_41_code 136 = .ok (.iastore, 1) := by decide +kernel
theorem d_Rf_hearTemplate_137 : decode prog_13_method_41_code 137 = .ok (.iinc 3 1, 3) := by decide +kernel
theorem d_Rf_hearTemplate_140 : decode prog_13_method_41_code 140 = .ok (.goto (-57), 3) := by decide +kernel
theorem d_Rf_hearTemplate_143 : decode prog_13_method_41_code 143 = .ok (.aload_n 0, 1) := by decide +kernel
theorem d_Rf_hearTemplate_144 : decode prog_13_method_41_code 144 = .ok (.dup, 1) := by decide +kernel
theorem d_Rf_hearTemplate_145 : decode prog_13_method_41_code 145 = .ok (.getfield 204, 3) := by decide +kernel
theorem d_Rf_hearTemplate_148 : decode prog_13_method_41_code 148 = .ok (.iconst 1, 1) := by decide +kernel
theorem d_Rf_hearTemplate_149 : decode prog_13_method_41_code 149 = .ok (.iadd, 1) := by decide +kernel
theorem d_Rf_hearTemplate_150 : decode prog_13_method_41_code 150 = .ok (.putfield 204, 3) := by decide +kernel
theorem d_Rf_hearTemplate_153 : decode prog_13_method_41_code 153 = .ok (.aload_n 0, 1) := by decide +kernel
theorem d_Rf_hearTemplate_154 : decode prog_13_method_41_code 154 = .ok (.getfield 214, 3) := by decide +kernel
theorem d_Rf_hearTemplate_157 : decode prog_13_method_41_code 157 = .ok (.istore_n 3, 1) := by decide +kernel
theorem d_Rf_hearTemplate_158 : decode prog_13_method_41_code 158 = .ok (.iconst 0, 1) := by decide +kernel
theorem d_Rf_hearTemplate_159 : decode prog_13_method_41_code 159 = .ok (.istore 4, 2) := by decide +kernel
theorem d_Rf_hearTemplate_161 : decode prog_13_method_41_code 161 = .ok (.iload 4, 2) := by decide +kernel
theorem d_Rf_hearTemplate_163 : decode prog_13_method_41_code 163 = .ok (.aload_n 0, 1) := by decide +kernel
theorem d_Rf_hearTemplate_164 : decode prog_13_method_41_code 164 = .ok (.getfield 225, 3) := by decide +kernel
theorem d_Rf_hearTemplate_167 : decode prog_13_method_41_code 167 = .ok (.if_icmp .ge 59, 3) := by decide +kernel
theorem d_Rf_hearTemplate_170 : decode prog_13_method_41_code 170 = .ok (.aload_n 0, 1) := by decide +kernel
theorem d_Rf_hearTemplate_171 : decode prog_13_method_41_code 171 = .ok (.iload 4, 2) := by decide +kernel
theorem d_Rf_hearTemplate_173 : decode prog_13_method_41_code 173 = .ok (.invokevirtual 238, 3) := by decide +kernel
theorem d_Rf_hearTemplate_176 : decode prog_13_method_41_code 176 = .ok (.aload_n 0, 1) := by decide +kernel
theorem d_Rf_hearTemplate_177 : decode prog_13_method_41_code 177 = .ok (.invokevirtual 228, 3) := by decide +kernel
theorem d_Rf_hearTemplate_180 : decode prog_13_method_41_code 180 = .ok (.iload_n 1, 1) := by decide +kernel
theorem d_Rf_hearTemplate_181 : decode prog_13_method_41_code 181 = .ok (.if_icmp .ne 39, 3) := by decide +kernel
theorem d_Rf_hearTemplate_184 : decode prog_13_method_41_code 184 = .ok (.aload_n 0, 1) := by decide +kernel
theorem d_Rf_hearTemplate_185 : decode prog_13_method_41_code 185 = .ok (.getfield 117, 3) := by decide +kernel
theorem d_Rf_hearTemplate_188 : decode prog_13_method_41_code 188 = .ok (.aload_n 0, 1) := by decide +kernel
theorem d_Rf_hearTemplate_189 : decode prog_13_method_41_code 189 = .ok (.getfield 129, 3) := by decide +kernel
theorem d_Rf_hearTemplate_192 : decode prog_13_method_41_code 192 = .ok (.iconst 0, 1) := by decide +kernel
theorem d_Rf_hearTemplate_193 : decode prog_13_method_41_code 193 = .ok (.iaload, 1) := by decide +kernel
theorem d_Rf_hearTemplate_194 : decode prog_13_method_41_code 194 = .ok (.dup2, 1) := by decide +kernel
theorem d_Rf_hearTemplate_195 : decode prog_13_method_41_code 195 = .ok (.iaload, 1) := by decide +kernel
theorem d_Rf_hearTemplate_196 : decode prog_13_method_41_code 196 = .ok (.aload_n 0, 1) := by decide +kernel
theorem d_Rf_hearTemplate_197 : decode prog_13_method_41_code 197 = .ok (.iload_n 2, 1) := by decide +kernel
theorem d_Rf_hearTemplate_198 : decode prog_13_method_41_code 198 = .ok (.invokevirtual 241, 3) := by decide +kernel
theorem d_Rf_hearTemplate_201 : decode prog_13_method_41_code 201 = .ok (.ifCond .ge 7, 3) := by decide +kernel
theorem d_Rf_hearTemplate_204 : decode prog_13_method_41_code 204 = .ok (.iconst 1, 1) := by decide +kernel
theorem d_Rf_hearTemplate_205 : decode prog_13_method_41_code 205 = .ok (.goto 4, 3) := by decide +kernel
theorem d_Rf_hearTemplate_208 : decode prog_13_method_41_code 208 = .ok (.iconst 0, 1) := by decide +kernel
theorem d_Rf_hearTemplate_209 : decode prog_13_method_41_code 209 = .ok (.iadd, 1) := by decide +kernel
theorem d_Rf_hearTemplate_210 : decode prog_13_method_41_code 210 = .ok (.iastore, 1) := by decide +kernel
theorem d_Rf_hearTemplate_211 : decode prog_13_method_41_code 211 = .ok (.aload_n 0, 1) := by decide +kernel
theorem d_Rf_hearTemplate_212 : decode prog_13_method_41_code 212 = .ok (.iload 4, 2) := by decide +kernel
theorem d_Rf_hearTemplate_214 : decode prog_13_method_41_code 214 = .ok (.invokevirtual 244, 3) := by decide +kernel
theorem d_Rf_hearTemplate_217 : decode prog_13_method_41_code 217 = .ok (.goto (-56), 3) := by decide +kernel
theorem d_Rf_hearTemplate_220 : decode prog_13_method_41_code 220 = .ok (.iinc 4 1, 3) := by decide +kernel
theorem d_Rf_hearTemplate_223 : decode prog_13_method_41_code 223 = .ok (.goto (-62), 3) := by decide +kernel
theorem d_Rf_hearTemplate_226 : decode prog_13_method_41_code 226 = .ok (.aload_n 0, 1) := by decide +kernel
theorem d_Rf_hearTemplate_227 : decode prog_13_method_41_code 227 = .ok (.getfield 214, 3) := by decide +kernel
theorem d_Rf_hearTemplate_230 : decode prog_13_method_41_code 230 = .ok (.iload_n 3, 1) := by decide +kernel
theorem d_Rf_hearTemplate_231 : decode prog_13_method_41_code 231 = .ok (.isub, 1) := by decide +kernel
theorem d_Rf_hearTemplate_232 : decode prog_13_method_41_code 232 = .ok (.ireturn, 1) := by decide +kernel
theorem q_Rf_hearTemplate : (⟨"FlowShelfModel", "hearTemplate", "()I"⟩ : MethodName).cls ≠ "java/lang/invoke/MethodHandle" ∧ (⟨"FlowShelfModel", "hearTemplate", "()I"⟩ : MethodName).cls ≠ "java/lang/invoke/VarHandle" ∧ (parseMethodDescriptor (⟨"FlowShelfModel", "hearTemplate", "()I"⟩ : MethodName).desc).map (fun d => d.parameters.length) = some 0 := by decide +kernel
set_option maxHeartbeats 4000000 in
set_option maxRecDepth 100000 in
theorem m_Rf_hearTemplate (X : fs_X) (l : Launch) (a0 : Nat) {r : Int32} {σ σF : fs_S} (h : (f_Rf_hearTemplate a0).1 σ = some (r, σF)) : fs_Met X l ⟨"FlowShelfModel", "hearTemplate", "()I"⟩ (Cond.code ⟨"FlowShelfModel", "hearTemplate", "()I"⟩ prog_13_method_41_code 5 (some FieldType.int)) 3 73 [.ref a0] σ (fs_eI r) σF := by
  refine fs_ofW (by decide) ?_
  intro p e s m args below meth c s₁ B hml hT hv
  obtain ⟨rfl, hw0, hG⟩ := hv
  have hx := B.exec
  have hb := B.bytes
  have hr := B.returns
  have hk := B.notSynchronized
  have S : CallFix p m c prog_13_method_41_code 5 s _ fs_ws "FlowShelfModel" := ⟨B.exec, B.bytes, hml, findClass_of_methodNamed B.named, fun w hw => atoms_spec (ws := _ :: fs_ws) B.pre w (List.mem_cons_of_mem _ hw)⟩
  have hR := fs_hR (fr := 3) (lo := 73) ((f_Rf_hearTemplate a0).2 _ _ _ h)
  have hl := lv_entry ([.ref a0]) (n := 5) (Nat.le_of_ble_eq_true rfl)
  rw [lg_entry_eq]
  generalize (lg_sl ([.ref a0]) ++ List.replicate (5 - (lg_sl ([.ref a0])).length) Slot.unset).toArray = ls at hl ⊢
  have hl : lv_has ls 5 [(0, .ref a0)] := hl
  refine (?_ : fs_J X p l e (fs_rm 3 73 σ σF) s m _ below meth c (fs_Q X below _ s (fs_eI r) σ σF) r σ σF (f_Rf_hearTemplate a0) (F0 m 0 ls [])) σ s.heap [] 0 0 h hw0 va_S.rf rfl rfl
  clear h hw0
  unfold f_Rf_hearTemplate
  refine fs_lift (fun _ _ _ _ => lv_aload_n hx hb d_Rf_hearTemplate_0 rfl (lv_at hl 0 rfl)) ?_
  refine fs_JV S hG hR rfl [] (enc := fun r => some (.int r)) (fun zr zs zt zh => m_Rf_nameOf X l a0 zh) tw_6_237 tw_6_239 tp_2_13 tw_7_0 tw_1_11 q_Rf_nameOf ⟨(Nat.le_of_ble_eq_true rfl), (Nat.le_of_ble_eq_true rfl)⟩ hl.1 rfl (Nat.le_of_ble_eq_true rfl) d_Rf_hearTemplate_1 (fun v1 => ?_)
  refine fs_Jeq (g2 := F0 m 4 ls [.int v1]) rfl ?_
  refine fs_liftL (fun _ _ _ _ => lv_istore_n (lv' := [(1, .int v1), (0, .ref a0)]) hx hb d_Rf_hearTemplate_4 rfl hl (Nat.le_of_ble_eq_true rfl) rfl) (fun ls hl => ?_)
  refine fs_lift (fun _ _ _ _ => lv_aload_n hx hb d_Rf_hearTemplate_5 rfl (lv_at hl 1 rfl)) ?_
  refine fs_lift (fun _ _ _ _ => lv_iload_n hx hb d_Rf_hearTemplate_6 rfl (lv_at hl 0 rfl)) ?_
  refine fs_JV S hG hR rfl [.int v1] (enc := fun r => some (.int r)) (fun zr zs zt zh => m_Rf_find X l a0 v1 zh) tw_7_1 tw_7_3 tp_2_14 tw_7_4 tw_1_11 q_Rf_find ⟨(Nat.le_of_ble_eq_true rfl), (Nat.le_of_ble_eq_true rfl)⟩ hl.1 rfl (Nat.le_of_ble_eq_true rfl) d_Rf_hearTemplate_7 (fun v2 => ?_)
  refine fs_Jeq (g2 := F0 m 10 ls [.int v2]) rfl ?_
  refine fs_if (fun _ _ _ _ => lv_if_lt hx hb d_Rf_hearTemplate_10 rfl) ?_ ?_
  · refine fs_lift (fun _ _ _ _ => lv_aload_n hx hb d_Rf_hearTemplate_15 rfl (lv_at hl 1 rfl)) ?_
    refine fs_lift (fun _ _ _ _ => lv_aload_n hx hb d_Rf_hearTemplate_16 rfl (lv_at hl 1 rfl)) ?_
    refine fs_Jgi S hG fs_in12 rfl 28 (Nat.le_of_ble_eq_true rfl) tw_5_220 (fun _ h9 => h9) d_Rf_hearTemplate_17 (fun v3 => ?_)
    refine fs_lift (fun _ _ _ _ => lv_bipush (v := 20) hx hb d_Rf_hearTemplate_20 (by decide)) ?_
    refine fs_Jlet1 (nL := 5) (pj := 45) (I := fun (v6 : Int32) => [(0, .ref a0), (1, .int v1)]) (st := fun (v6 : Int32) => [.int v6, .ref a0]) (fun v6 ls hl => ?_) (fun j45 hj45 => ?_)
    · refine fs_Jput S hG fs_in12 rfl 0 (Nat.le_of_ble_eq_true rfl) tw_5_192 (fun _ h9 => h9) fs_Y12 fs_ty12 fs_nm12 (Or.inl rfl) rfl rfl d_Rf_hearTemplate_45 ?_
      refine fs_lift (fun _ _ _ _ => lv_aload_n hx hb d_Rf_hearTemplate_48 rfl (lv_at hl 0 rfl)) ?_
      refine fs_Jgi S hG fs_in12 rfl 0 (Nat.le_of_ble_eq_true rfl) tw_5_192 (fun _ h9 => h9) d_Rf_hearTemplate_49 (fun v7 => ?_)
      refine fs_if (fun _ _ _ _ => lv_if_eq hx hb d_Rf_hearTemplate_52 rfl) ?_ ?_
      · refine fs_lift (fun _ _ _ _ => lv_aload_n hx hb d_Rf_hearTemplate_57 rfl (lv_at hl 0 rfl)) ?_
        refine fs_Jgi S hG fs_in12 rfl 28 (Nat.le_of_ble_eq_true rfl) tw_5_220 (fun _ h9 => h9) d_Rf_hearTemplate_58 (fun v8 => ?_)
        refine fs_liftL (fun _ _ _ _ => lv_istore_n (lv' := [(2, .int v8), (0, .ref a0), (1, .int v1)]) hx hb d_Rf_hearTemplate_61 rfl hl (Nat.le_of_ble_eq_true rfl) rfl) (fun ls hl => ?_)
        refine fs_lift (fun _ _ _ _ => lv_aload_n hx hb d_Rf_hearTemplate_62 rfl (lv_at hl 1 rfl)) ?_
        refine fs_Jgr S hG fs_in12 rfl 29 (Nat.le_of_ble_eq_true rfl) tw_5_221 (fun _ h9 => h9) d_Rf_hearTemplate_63 (fun r9 => ?_)
        refine fs_lift (fun _ _ _ _ => lv_iload_n hx hb d_Rf_hearTemplate_66 rfl (lv_at hl 0 rfl)) ?_
        refine fs_lift (fun _ _ _ _ => lv_iload_n hx hb d_Rf_hearTemplate_67 rfl (lv_at hl 2 rfl)) ?_
        refine fs_Jsi S hG d_Rf_hearTemplate_68 ?_
        refine fs_lift (fun _ _ _ _ => lv_aload_n hx hb d_Rf_hearTemplate_69 rfl (lv_at hl 1 rfl)) ?_
        refine fs_Jgr S hG fs_in12 rfl 30 (Nat.le_of_ble_eq_true rfl) tw_5_222 (fun _ h9 => h9) d_Rf_hearTemplate_70 (fun r10 => ?_)
        refine fs_lift (fun _ _ _ _ => lv_iload_n hx hb d_Rf_hearTemplate_73 rfl (lv_at hl 0 rfl)) ?_
        refine fs_lift (fun _ _ _ _ => lv_aload_n hx hb d_Rf_hearTemplate_74 rfl (lv_at hl 1 rfl)) ?_
        refine fs_Jgr S hG fs_in12 rfl 46 (Nat.le_of_ble_eq_true rfl) tw_5_238 (fun _ h9 => h9) d_Rf_hearTemplate_75 (fun r11 => ?_)
        refine fs_lift (fun _ _ _ _ => lv_iconst (v := 5) hx hb d_Rf_hearTemplate_78 (by decide)) ?_
        refine fs_Jai S hG d_Rf_hearTemplate_79 (fun v12 => ?_)
        refine fs_Jsi S hG d_Rf_hearTemplate_80 ?_
        refine fs_lift (fun _ _ _ _ => lv_iconst (v := 0) hx hb d_Rf_hearTemplate_81 (by decide)) ?_
        refine fs_liftL (fun _ _ _ _ => lv_istore_n (lv' := [(3, .int 0), (2, .int v8), (0, .ref a0), (1, .int v1)]) hx hb d_Rf_hearTemplate_82 rfl hl (Nat.le_of_ble_eq_true rfl) rfl) (fun ls hl => ?_)
        refine fs_Jlp1 (nL := 5) (pc := 83) (rest := []) (I := fun (v13 : Int32) => [(0, .ref a0), (1, .int v1), (2, .int v8), (3, .int v13)]) (fun k83 hk83 v13 ls hl => ?_) _ _ _ (lv_sub hl [2, 3, 1, 0] rfl)
        refine fs_lift (fun _ _ _ _ => lv_iload_n hx hb d_Rf_hearTemplate_83 rfl (lv_at hl 3 rfl)) ?_
        refine fs_lift (fun _ _ _ _ => lv_aload_n hx hb d_Rf_hearTemplate_84 rfl (lv_at hl 0 rfl)) ?_
        refine fs_Jgr S hG fs_in12 rfl 46 (Nat.le_of_ble_eq_true rfl) tw_5_238 (fun _ h9 => h9) d_Rf_hearTemplate_85 (fun r14 => ?_)
        refine fs_lift (fun _ _ _ _ => lv_iconst (v := 5) hx hb d_Rf_hearTemplate_88 (by decide)) ?_
        refine fs_Jai S hG d_Rf_hearTemplate_89 (fun v15 => ?_)
        refine fs_if (fun _ _ _ _ => lv_icmp_ge hx hb d_Rf_hearTemplate_90 rfl) ?_ ?_
        · refine fs_lift (fun _ _ _ _ => lv_aload_n hx hb d_Rf_hearTemplate_143 rfl (lv_at hl 0 rfl)) ?_
          refine fs_lift (fun _ _ _ _ => lv_dup hx hb d_Rf_hearTemplate_144 rfl) ?_
          refine fs_Jgi S hG fs_in12 rfl 28 (Nat.le_of_ble_eq_true rfl) tw_5_220 (fun _ h9 => h9) d_Rf_hearTemplate_145 (fun v16 => ?_)
          refine fs_lift (fun _ _ _ _ => lv_iconst (v := 1) hx hb d_Rf_hearTemplate_148 (by decide)) ?_
          refine fs_lift (fun _ _ _ _ => lv_iadd hx hb d_Rf_hearTemplate_149) ?_
          refine fs_Jput S hG fs_in12 rfl 28 (Nat.le_of_ble_eq_true rfl) tw_5_220 (fun _ h9 => h9) fs_Y12 fs_ty12 fs_nm12 (Or.inl rfl) rfl rfl d_Rf_hearTemplate_150 ?_
          refine fs_lift (fun _ _ _ _ => lv_aload_n hx hb d_Rf_hearTemplate_153 rfl (lv_at hl 0 rfl)) ?_
          refine fs_Jgi S hG fs_in12 rfl 37 (Nat.le_of_ble_eq_true rfl) tw_5_229 (fun _ h9 => h9) d_Rf_hearTemplate_154 (fun v17 => ?_)
          refine fs_liftL (fun _ _ _ _ => lv_istore_n (lv' := [(3, .int v17), (0, .ref a0), (1, .int v1), (2, .int v8)]) hx hb d_Rf_hearTemplate_157 rfl hl (Nat.le_of_ble_eq_true rfl) rfl) (fun ls hl => ?_)
          refine fs_lift (fun _ _ _ _ => lv_iconst (v := 0) hx hb d_Rf_hearTemplate_158 (by decide)) ?_
          refine fs_liftL (fun _ _ _ _ => lv_istore (lv' := [(4, .int 0), (3, .int v17), (0, .ref a0), (1, .int v1), (2, .int v8)]) hx hb d_Rf_hearTemplate_159 hl (Nat.le_of_ble_eq_true rfl) rfl) (fun ls hl => ?_)
          refine fs_Jlp1 (nL := 5) (pc := 161) (rest := []) (I := fun (v18 : Int32) => [(0, .ref a0), (1, .int v1), (2, .int v8), (3, .int v17), (4, .int v18)]) (fun k161 hk161 v18 ls hl => ?_) _ _ _ (lv_sub hl [2, 3, 4, 1, 0] rfl)
          refine fs_lift (fun _ _ _ _ => lv_iload hx hb d_Rf_hearTemplate_161 (lv_at hl 4 rfl)) ?_
          refine fs_lift (fun _ _ _ _ => lv_aload_n hx hb d_Rf_hearTemplate_163 rfl (lv_at hl 0 rfl)) ?_
          refine fs_Jgi S hG fs_in12 rfl 33 (Nat.le_of_ble_eq_true rfl) tw_5_225 (fun _ h9 => h9) d_Rf_hearTemplate_164 (fun v19 => ?_)
          refine fs_if (fun _ _ _ _ => lv_icmp_ge hx hb d_Rf_hearTemplate_167 rfl) ?_ ?_
          · refine fs_lift (fun _ _ _ _ => lv_aload_n hx hb d_Rf_hearTemplate_226 rfl (lv_at hl 0 rfl)) ?_
            refine fs_Jgi S hG fs_in12 rfl 37 (Nat.le_of_ble_eq_true rfl) tw_5_229 (fun _ h9 => h9) d_Rf_hearTemplate_227 (fun v20 => ?_)
            refine fs_lift (fun _ _ _ _ => lv_iload_n hx hb d_Rf_hearTemplate_230 rfl (lv_at hl 3 rfl)) ?_
            refine fs_lift (fun _ _ _ _ => lv_isub hx hb d_Rf_hearTemplate_231) ?_
            exact fs_Jiret S hr hk rfl d_Rf_hearTemplate_232
          · refine fs_lift (fun _ _ _ _ => lv_aload_n hx hb d_Rf_hearTemplate_170 rfl (lv_at hl 0 rfl)) ?_
            refine fs_lift (fun _ _ _ _ => lv_iload hx hb d_Rf_hearTemplate_171 (lv_at hl 4 rfl)) ?_
            refine fs_JV S hG hR rfl [.int v18] (enc := fun _ => none) (fun zr zs zt zh => m_Rf_fetch X l a0 v18 zh) tw_7_9 tw_7_11 tp_3_0 tw_7_12 tw_1_11 q_Rf_fetch ⟨(Nat.le_of_ble_eq_true rfl), (Nat.le_of_ble_eq_true rfl)⟩ hl.1 rfl (Nat.le_of_ble_eq_true rfl) d_Rf_hearTemplate_173 (fun _ => ?_)
            refine fs_Jeq (g2 := F0 m 176 ls []) rfl ?_
            refine fs_lift (fun _ _ _ _ => lv_aload_n hx hb d_Rf_hearTemplate_176 rfl (lv_at hl 0 rfl)) ?_
            refine fs_JV S hG hR rfl [] (enc := fun r => some (.int r)) (fun zr zs zt zh => m_Rf_nameOf X l a0 zh) tw_6_237 tw_6_239 tp_2_13 tw_7_0 tw_1_11 q_Rf_nameOf ⟨(Nat.le_of_ble_eq_true rfl), (Nat.le_of_ble_eq_true rfl)⟩ hl.1 rfl (Nat.le_of_ble_eq_true rfl) d_Rf_hearTemplate_177 (fun v21 => ?_)
            refine fs_Jeq (g2 := F0 m 180 ls [.int v21]) rfl ?_
            refine fs_lift (fun _ _ _ _ => lv_iload_n hx hb d_Rf_hearTemplate_180 rfl (lv_at hl 1 rfl)) ?_
            refine fs_ifn (fun _ _ _ _ => lv_icmp_ne hx hb d_Rf_hearTemplate_181 rfl) ?_ ?_
            · refine fs_lift (fun _ _ _ _ => lv_aload_n hx hb d_Rf_hearTemplate_184 rfl (lv_at hl 0 rfl)) ?_
              refine fs_Jgr S hG fs_in12 rfl 41 (Nat.le_of_ble_eq_true rfl) tw_5_233 (fun _ h9 => h9) d_Rf_hearTemplate_185 (fun r23 => ?_)
              refine fs_lift (fun _ _ _ _ => lv_aload_n hx hb d_Rf_hearTemplate_188 rfl (lv_at hl 0 rfl)) ?_
              refine fs_Jgr S hG fs_in12 rfl 46 (Nat.le_of_ble_eq_true rfl) tw_5_238 (fun _ h9 => h9) d_Rf_hearTemplate_189 (fun r24 => ?_)
              refine fs_lift (fun _ _ _ _ => lv_iconst (v := 0) hx hb d_Rf_hearTemplate_192 (by decide)) ?_
              refine fs_Jai S hG d_Rf_hearTemplate_193 (fun v25 => ?_)
              refine fs_lift (fun _ _ _ _ => lv_dup2_11 hx hb d_Rf_hearTemplate_194 rfl rfl) ?_
              refine fs_Jai S hG d_Rf_hearTemplate_195 (fun v26 => ?_)
              refine fs_lift (fun _ _ _ _ => lv_aload_n hx hb d_Rf_hearTemplate_196 rfl (lv_at hl 0 rfl)) ?_
              refine fs_lift (fun _ _ _ _ => lv_iload_n hx hb d_Rf_hearTemplate_197 rfl (lv_at hl 2 rfl)) ?_
              refine fs_JV S hG hR rfl [.int v8] (enc := fun r => some (.int r)) (fun zr zs zt zh => m_Rf_makeRows X l a0 v8 zh) tw_7_13 tw_7_15 tp_3_1 tw_7_16 tw_1_11 q_Rf_makeRows ⟨(Nat.le_of_ble_eq_true rfl), (Nat.le_of_ble_eq_true rfl)⟩ hl.1 rfl (Nat.le_of_ble_eq_true rfl) d_Rf_hearTemplate_198 (fun v27 => ?_)
              refine fs_Jeq (g2 := F0 m 201 ls [.int v27, .int v26, .int v25, .ref r23]) rfl ?_
              refine fs_Jlet1 (nL := 5) (pj := 209) (I := fun (v28 : Int32) => [(0, .ref a0), (1, .int v1), (2, .int v8), (3, .int v17), (4, .int v18)]) (st := fun (v28 : Int32) => [.int v28, .int v26, .int v25, .ref r23]) (fun v28 ls hl => ?_) (fun j209 hj209 => ?_)
              · refine fs_lift (fun _ _ _ _ => lv_iadd hx hb d_Rf_hearTemplate_209) ?_
                refine fs_Jsi S hG d_Rf_hearTemplate_210 ?_
                refine fs_lift (fun _ _ _ _ => lv_aload_n hx hb d_Rf_hearTemplate_211 rfl (lv_at hl 0 rfl)) ?_
                refine fs_lift (fun _ _ _ _ => lv_iload hx hb d_Rf_hearTemplate_212 (lv_at hl 4 rfl)) ?_
                refine fs_JV S hG hR rfl [.int v18] (enc := fun _ => none) (fun zr zs zt zh => m_Rf_unshelve X l a0 v18 zh) tw_7_27 tw_7_29 tp_3_4 tw_7_30 tw_1_11 q_Rf_unshelve ⟨(Nat.le_of_ble_eq_true rfl), (Nat.le_of_ble_eq_true rfl)⟩ hl.1 rfl (Nat.le_of_ble_eq_true rfl) d_Rf_hearTemplate_214 (fun _ => ?_)
                refine fs_Jeq (g2 := F0 m 217 ls []) rfl ?_
                refine fs_lift (fun _ _ _ _ => lv_goto hx hb d_Rf_hearTemplate_217 rfl) ?_
                exact hk161 v18 ls (lv_sub hl [0, 1, 2, 3, 4] rfl)
              · refine fs_if (fun _ _ _ _ => lv_if_ge hx hb d_Rf_hearTemplate_201 rfl) ?_ ?_
                · refine fs_lift (fun _ _ _ _ => lv_iconst (v := 0) hx hb d_Rf_hearTemplate_208 (by decide)) ?_
                  exact hj209 0 ls (lv_sub hl [0, 1, 2, 3, 4] rfl)
                · refine fs_lift (fun _ _ _ _ => lv_iconst (v := 1) hx hb d_Rf_hearTemplate_204 (by decide)) ?_
                  refine fs_lift (fun _ _ _ _ => lv_goto hx hb d_Rf_hearTemplate_205 rfl) ?_
                  exact hj209 1 ls (lv_sub hl [0, 1, 2, 3, 4] rfl)
            · refine fs_Jnm (fun v22 hv9 => ?_)
              refine fs_liftL (fun _ _ _ _ => lv_iinc (k := 4) (v := v22) (lv' := [(4, .int v22), (0, .ref a0), (1, .int v1), (2, .int v8), (3, .int v17)]) hx hb d_Rf_hearTemplate_220 hl rfl (by rw [hv9]; rfl) (Nat.le_of_ble_eq_true rfl) rfl) (fun ls hl => ?_)
              refine fs_lift (fun _ _ _ _ => lv_goto hx hb d_Rf_hearTemplate_223 rfl) ?_
              exact hk161 v22 ls (lv_sub hl [1, 2, 3, 4, 0] rfl)
        · refine fs_lift (fun _ _ _ _ => lv_aload_n hx hb d_Rf_hearTemplate_93 rfl (lv_at hl 0 rfl)) ?_
          refine fs_Jgr S hG fs_in12 rfl 31 (Nat.le_of_ble_eq_true rfl) tw_5_223 (fun _ h9 => h9) d_Rf_hearTemplate_94 (fun r29 => ?_)
          refine fs_lift (fun _ _ _ _ => lv_bipush (v := 8) hx hb d_Rf_hearTemplate_97 (by decide)) ?_
          refine fs_lift (fun _ _ _ _ => lv_iload_n hx hb d_Rf_hearTemplate_99 rfl (lv_at hl 2 rfl)) ?_
          refine fs_lift (fun _ _ _ _ => lv_imul hx hb d_Rf_hearTemplate_100) ?_
          refine fs_lift (fun _ _ _ _ => lv_iload_n hx hb d_Rf_hearTemplate_101 rfl (lv_at hl 3 rfl)) ?_
          refine fs_lift (fun _ _ _ _ => lv_iadd hx hb d_Rf_hearTemplate_102) ?_
          refine fs_lift (fun _ _ _ _ => lv_aload_n hx hb d_Rf_hearTemplate_103 rfl (lv_at hl 0 rfl)) ?_
          refine fs_Jgr S hG fs_in12 rfl 46 (Nat.le_of_ble_eq_true rfl) tw_5_238 (fun _ h9 => h9) d_Rf_hearTemplate_104 (fun r30 => ?_)
          refine fs_lift (fun _ _ _ _ => lv_bipush (v := 6) hx hb d_Rf_hearTemplate_107 (by decide)) ?_
          refine fs_lift (fun _ _ _ _ => lv_iconst (v := 2) hx hb d_Rf_hearTemplate_109 (by decide)) ?_
          refine fs_lift (fun _ _ _ _ => lv_iload_n hx hb d_Rf_hearTemplate_110 rfl (lv_at hl 3 rfl)) ?_
          refine fs_lift (fun _ _ _ _ => lv_imul hx hb d_Rf_hearTemplate_111) ?_
          refine fs_lift (fun _ _ _ _ => lv_iadd hx hb d_Rf_hearTemplate_112) ?_
          refine fs_Jai S hG d_Rf_hearTemplate_113 (fun v31 => ?_)
          refine fs_Jsi S hG d_Rf_hearTemplate_114 ?_
          refine fs_lift (fun _ _ _ _ => lv_aload_n hx hb d_Rf_hearTemplate_115 rfl (lv_at hl 0 rfl)) ?_
          refine fs_Jgr S hG fs_in12 rfl 32 (Nat.le_of_ble_eq_true rfl) tw_5_224 (fun _ h9 => h9) d_Rf_hearTemplate_116 (fun r32 => ?_)
          refine fs_lift (fun _ _ _ _ => lv_bipush (v := 8) hx hb d_Rf_hearTemplate_119 (by decide)) ?_
          refine fs_lift (fun _ _ _ _ => lv_iload_n hx hb d_Rf_hearTemplate_121 rfl (lv_at hl 2 rfl)) ?_
          refine fs_lift (fun _ _ _ _ => lv_imul hx hb d_Rf_hearTemplate_122) ?_
          refine fs_lift (fun _ _ _ _ => lv_iload_n hx hb d_Rf_hearTemplate_123 rfl (lv_at hl 3 rfl)) ?_
          refine fs_lift (fun _ _ _ _ => lv_iadd hx hb d_Rf_hearTemplate_124) ?_
          refine fs_lift (fun _ _ _ _ => lv_aload_n hx hb d_Rf_hearTemplate_125 rfl (lv_at hl 0 rfl)) ?_
          refine fs_Jgr S hG fs_in12 rfl 46 (Nat.le_of_ble_eq_true rfl) tw_5_238 (fun _ h9 => h9) d_Rf_hearTemplate_126 (fun r33 => ?_)
          refine fs_lift (fun _ _ _ _ => lv_bipush (v := 7) hx hb d_Rf_hearTemplate_129 (by decide)) ?_
          refine fs_lift (fun _ _ _ _ => lv_iconst (v := 2) hx hb d_Rf_hearTemplate_131 (by decide)) ?_
          refine fs_lift (fun _ _ _ _ => lv_iload_n hx hb d_Rf_hearTemplate_132 rfl (lv_at hl 3 rfl)) ?_
          refine fs_lift (fun _ _ _ _ => lv_imul hx hb d_Rf_hearTemplate_133) ?_
          refine fs_lift (fun _ _ _ _ => lv_iadd hx hb d_Rf_hearTemplate_134) ?_
          refine fs_Jai S hG d_Rf_hearTemplate_135 (fun v34 => ?_)
          refine fs_Jsi S hG d_Rf_hearTemplate_136 ?_
          refine fs_Jnm (fun v35 hv9 => ?_)
          refine fs_liftL (fun _ _ _ _ => lv_iinc (k := 3) (v := v35) (lv' := [(3, .int v35), (0, .ref a0), (1, .int v1), (2, .int v8)]) hx hb d_Rf_hearTemplate_137 hl rfl (by rw [hv9]; rfl) (Nat.le_of_ble_eq_true rfl) rfl) (fun ls hl => ?_)
          refine fs_lift (fun _ _ _ _ => lv_goto hx hb d_Rf_hearTemplate_140 rfl) ?_
          exact hk83 v35 ls (lv_sub hl [1, 2, 3, 0] rfl)
      · refine fs_lift (fun _ _ _ _ => lv_iconst (v := 0) hx hb d_Rf_hearTemplate_55 (by decide)) ?_
        exact fs_Jiret S hr hk rfl d_Rf_hearTemplate_56
    · refine fs_Jlet1 (nL := 5) (pj := 40) (I := fun (_ : Unit) => [(0, .ref a0), (1, .int v1)]) (st := fun (_ : Unit) => [.ref a0]) (fun _ ls hl => ?_) (fun j40 hj40 => ?_)
      · refine fs_lift (fun _ _ _ _ => lv_iconst (v := 3) hx hb d_Rf_hearTemplate_40 (by decide)) ?_
        refine fs_lift (fun _ _ _ _ => lv_goto hx hb d_Rf_hearTemplate_41 rfl) ?_
        exact hj45 3 ls (lv_sub hl [0, 1] rfl)
      · refine fs_if (fun _ _ _ _ => lv_icmp_eq hx hb d_Rf_hearTemplate_22 rfl) ?_ ?_
        · exact hj40 () ls (lv_sub hl [1, 0] rfl)
        · refine fs_lift (fun _ _ _ _ => lv_aload_n hx hb d_Rf_hearTemplate_25 rfl (lv_at hl 1 rfl)) ?_
          refine fs_Jgi S hG fs_in12 rfl 37 (Nat.le_of_ble_eq_true rfl) tw_5_229 (fun _ h9 => h9) d_Rf_hearTemplate_26 (fun v4 => ?_)
          refine fs_lift (fun _ _ _ _ => lv_aload_n hx hb d_Rf_hearTemplate_29 rfl (lv_at hl 1 rfl)) ?_
          refine fs_lift (fun _ _ _ _ => lv_iload_n hx hb d_Rf_hearTemplate_30 rfl (lv_at hl 0 rfl)) ?_
          refine fs_JV S hG hR rfl [.int v1] (enc := fun r => some (.int r)) (fun zr zs zt zh => m_Rf_waiting X l a0 v1 zh) tw_7_5 tw_7_7 tp_2_15 tw_7_8 tw_1_11 q_Rf_waiting ⟨(Nat.le_of_ble_eq_true rfl), (Nat.le_of_ble_eq_true rfl)⟩ hl.1 rfl (Nat.le_of_ble_eq_true rfl) d_Rf_hearTemplate_31 (fun v5 => ?_)
          refine fs_Jeq (g2 := F0 m 34 ls [.int v5, .int v4, .ref a0]) rfl ?_
          refine fs_lift (fun _ _ _ _ => lv_iadd hx hb d_Rf_hearTemplate_34) ?_
          refine fs_lift (fun _ _ _ _ => lv_bipush (v := 80) hx hb d_Rf_hearTemplate_35 (by decide)) ?_
          refine fs_if (fun _ _ _ _ => lv_icmp_le hx hb d_Rf_hearTemplate_37 rfl) ?_ ?_
          · refine fs_lift (fun _ _ _ _ => lv_iconst (v := 0) hx hb d_Rf_hearTemplate_44 (by decide)) ?_
            exact hj45 0 ls (lv_sub hl [1, 0] rfl)
          · exact hj40 () ls (lv_sub hl [1, 0] rfl)
  · refine fs_lift (fun _ _ _ _ => lv_iconst (v := 0) hx hb d_Rf_hearTemplate_13 (by decide)) ?_
    exact fs_Jiret S hr hk rfl d_Rf_hearTemplate_14

theorem d_Rf_hearRecords_0 : decode prog_13_method_42_code 0 = .ok (.sipush 600, 3) := by decide +kernel
theorem d_Rf_hearRecords_3 : decode prog_13_method_42_code 3 = .ok (.aload_n 0, 1) := by decide +kernel
theorem d_Rf_hearRecords_4 : decode prog_13_method_42_code 4 = .ok (.getfield 129, 3) := by decide +kernel
theorem d_Rf_hearRecords_7 : decode prog_13_method_42_code 7 = .ok (.iconst 0, 1) := by decide +kernel
theorem d_Rf_hearRecords_8 : decode prog_13_method_42_code 8 = .ok (.iaload, 1) := by decide +kernel
theorem d_Rf_hearRecords_9 : decode prog_13_method_42_code 9 = .ok (.imul, 1) := by decide +kernel
theorem d_Rf_hearRecords_10 : decode prog_13_method_42_code 10 = .ok (.bipush 100, 2) := by decide +kernel
theorem d_Rf_hearRecords_12 : decode prog_13_method_42_code 12 = .ok (.aload_n 0, 1) := by decide +kernel
theorem d_Rf_hearRecords_13 : decode prog_13_method_42_code 13 = .ok (.getfield 129, 3) := by decide +kernel
theorem d_Rf_hearRecords_16 : decode prog_13_method_42_code 16 = .ok (.iconst 1, 1) := by decide +kernel
theorem d_Rf_hearRecords_17 : decode prog_13_method_42_code 17 = .ok (.iaload, 1) := by decide +kernel
theorem d_Rf_hearRecords_18 : decode prog_13_method_42_code 18 = .ok (.imul, 1) := by decide +kernel
theorem d_Rf_hearRecords_19 : decode prog_13_method_42_code 19 = .ok (.iadd, 1) := by decide +kernel
theorem d_Rf_hearRecords_20 : decode prog_13_method_42_code 20 = .ok (.aload_n 0, 1) := by decide +kernel
theorem d_Rf_hearRecords_21 : decode prog_13_method_42_code 21 = .ok (.getfield 129, 3) := by decide +kernel
theorem d_Rf_hearRecords_24 : decode prog_13_method_42_code 24 = .ok (.bipush 6, 2) := by decide +kernel
theorem d_Rf_hearRecords_26 : decode prog_13_method_42_code 26 = .ok (.iaload, 1) := by decide +kernel
theorem d_Rf_hearRecords_27 : decode prog_13_method_42_code 27 = .ok (.iadd, 1) := by decide +kernel
theorem d_Rf_hearRecords_28 : decode prog_13_method_42_code 28 = .ok (.istore_n 1, 1) := by decide +kernel
theorem d_Rf_hearRecords_29 : decode prog_13_method_42_code 29 = .ok (.iconst 0, 1) := by decide +kernel
theorem d_Rf_hearRecords_30 : decode prog_13_method_42_code 30 = .ok (.istore_n 2, 1) := by decide +kernel
theorem d_Rf_hearRecords_31 : decode prog_13_method_42_code 31 = .ok (.iload_n 1, 1) := by decide +kernel
theorem d_Rf_hearRecords_32 : decode prog_13_method_42_code 32 = .ok (.istore_n 3, 1) := by decide +kernel
theorem d_Rf_hearRecords_33 : decode prog_13_method_42_code 33 = .ok (.iload_n 3, 1) := by decide +kernel
theorem d_Rf_hearRecords_34 : decode prog_13_method_42_code 34 = .ok (.iload_n 1, 1) := by decide +kernel
theorem d_Rf_hearRecords_35 : decode prog_13_method_42_code 35 = .ok (.aload_n 0, 1) := by decide +kernel
theorem d_Rf_hearRecords_36 : decode prog_13_method_42_code 36 = .ok (.getfield 129, 3) := by decide +kernel
theorem d_Rf_hearRecords_39 : decode prog_13_method_42_code 39 = .ok (.iconst 5, 1) := by decide +kernel
theorem d_Rf_hearRecords_40 : decode prog_13_method_42_code 40 = .ok (.iaload, 1) := by decide +kernel
theorem d_Rf_hearRecords_41 : decode prog_13_method_42_code 41 = .ok (.iadd, 1) := by decide +kernel
theorem d_Rf_hearRecords_42 : decode prog_13_method_42_code 42 = .ok (.if_icmp .ge 28, 3) := by decide +kernel
theorem d_Rf_hearRecords_45 : decode prog_13_method_42_code 45 = .ok (.iload_n 2, 1) := by decide +kernel
theorem d_Rf_hearRecords_46 : decode prog_13_method_42_code 46 = .ok (.ifCond .ne 12, 3) := by decide +kernel
theorem d_Rf_hearRecords_49 : decode prog_13_method_42_code 49 = .ok (.aload_n 0, 1) := by decide +kernel
theorem d_Rf_hearRecords_50 : decode prog_13_method_42_code 50 = .ok (.getfield 103, 3) := by decide +kernel
theorem d_Rf_hearRecords_53 : decode prog_13_method_42_code 53 = .ok (.iload_n 3, 1) := by decide +kernel
theorem d_Rf_hearRecords_54 : decode prog_13_method_42_code 54 = .ok (.baload, 1) := by decide +kernel
theorem d_Rf_hearRecords_55 : decode prog_13_method_42_code 55 = .ok (.ifCond .eq 7, 3) := by decide +kernel
theorem d_Rf_hearRecords_58 : decode prog_13_method_42_code 58 = .ok (.iconst 1, 1) := by decide +kernel
theorem d_Rf_hearRecords_59 : decode prog_13_method_42_code 59 = .ok (.goto 4, 3) := by decide +kernel
theorem d_Rf_hearRecords_62 : decode prog_13_method_42_code 62 = .ok (.iconst 0, 1) := by decide +kernel
theorem d_Rf_hearRecords_63 : decode prog_13_method_42_code 63 = .ok (.istore_n 2, 1) := by decide +kernel
theorem d_Rf_hearRecords_64 : decode prog_13_method_42_code 64 = .ok (.iinc 3 1, 3) := by decide +kernel
theorem d_Rf_hearRecords_67 : decode prog_13_method_42_code 67 = .ok (.goto (-34), 3) := by decide +kernel
theorem d_Rf_hearRecords_70 : decode prog_13_method_42_code 70 = .ok (.iload_n 2, 1) := by decide +kernel
theorem d_Rf_hearRecords_71 : decode prog_13_method_42_code 71 = .ok (.ifCond .eq 5, 3) := by decide +kernel
theorem d_Rf_hearRecords_74 : decode prog_13_method_42_code 74 = .ok (.iconst 0, 1) := by decide +kernel
theorem d_Rf_hearRecords_75 : decode prog_13_method_42_code 75 = .ok (.ireturn, 1) := by decide +kernel
theorem d_Rf_hearRecords_76 : decode prog_13_method_42_code 76 = .ok (.aload_n 0, 1) := by decide +kernel
theorem d_Rf_hearRecords_77 : decode prog_13_method_42_code 77 = .ok (.aload_n 0, 1) := by decide +kernel
theorem d_Rf_hearRecords_78 : decode prog_13_method_42_code 78 = .ok (.invokevirtual 228, 3) := by decide +kernel
theorem d_Rf_hearRecords_81 : decode prog_13_method_42_code 81 = .ok (.invokevirtual 232, 3) := by decide +kernel
theorem d_Rf_hearRecords_84 : decode prog_13_method_42_code 84 = .ok (.istore_n 3, 1) := by decide +kernel
theorem d_Rf_hearRecords_85 : decode prog_13_method_42_code 85 = .ok (.aload_n 0, 1) := by decide +kernel
theorem d_Rf_hearRecords_86 : decode prog_13_method_42_code 86 = .ok (.getfield 129, 3) := by decide +kernel
theorem d_Rf_hearRecords_89 : decode prog_13_method_42_code 89 = .ok (.iconst 5, 1) := by decide +kernel
theorem d_Rf_hearRecords_90 : decode prog_13_method_42_code 90 = .ok (.iaload, 1) := by decide +kernel
theorem d_Rf_hearRecords_91 : decode prog_13_method_42_code 91 = .ok (.istore 4, 2) := by decide +kernel
theorem d_Rf_hearRecords_93 : decode prog_13_method_42_code 93 = .ok (.iconst 0, 1) := by decide +kernel
theorem d_Rf_hearRecords_94 : decode prog_13_method_42_code 94 = .ok (.istore 5, 2) := by decide +kernel
theorem d_Rf_hearRecords_96 : decode prog_13_method_42_code 96 = .ok (.iload_n 3, 1) := by decide +kernel
theorem d_Rf_hearRecords_97 : decode prog_13_method_42_code 97 = .ok (.ifCond .lt 56, 3) := by decide +kernel
theorem d_Rf_hearRecords_100 : decode prog_13_method_42_code 100 = .ok (.aload_n 0, 1) := by decide +kernel
theorem d_Rf_hearRecords_101 : decode prog_13_method_42_code 101 = .ok (.aload_n 0, 1) := by decide +kernel
theorem d_Rf_hearRecords_102 : decode prog_13_method_42_code 102 = .ok (.iload_n 3, 1) := by decide +kernel
theorem d_Rf_hearRecords_103 : decode prog_13_method_42_code 103 = .ok (.iconst 0, 1) := by decide +kernel
theorem d_Rf_hearRecords_104 : decode prog_13_method_42_code 104 = .ok (.invokevirtual 221, 3) := by decide +kernel
theorem d_Rf_hearRecords_107 : decode prog_13_method_42_code 107 = .ok (.ifCond .ne 7, 3) := by decide +kernel
theorem d_Rf_hearRecords_110 : decode prog_13_method_42_code 110 = .ok (.iconst 2, 1) := by decide +kernel
theorem d_Rf_hearRecords_111 : decode prog_13_method_42_code 111 = .ok (.goto 20, 3) := by decide +kernel
theorem d_Rf_hearRecords_114 : decode prog_13_method_42_code 114 = .ok (.aload_n 0, 1) := by decide +kernel
theorem d_Rf_hearRecords_115 : decode prog_13_method_42_code 115 = .ok (.getfield 214, 3) := by decide +kernel
theorem d_Rf_hearRecords_118 : decode prog_13_method_42_code 118 = .ok (.iload 4, 2) := by decide +kernel
theorem d_Rf_hearRecords_120 : decode prog_13_method_42_code 120 = .ok (.iadd, 1) := by decide +kernel
theorem d_Rf_hearRecords_121 : decode prog_13_method_42_code 121 = .ok (.bipush 80, 2) := by decide +kernel
theorem d_Rf_hearRecords_123 : decode prog_13_method_42_code 123 = .ok (.if_icmp .le 7, 3) := by decide +kernel
theorem d_Rf_hearRecords_126 : decode prog_13_method_42_code 126 = .ok (.iconst 3, 1) := by decide +kernel
theorem d_Rf_hearRecords_127 : decode prog_13_method_42_code 127 = .ok (.goto 4, 3) := by decide +kernel
theorem d_Rf_hearRecords_130 : decode prog_13_method_42_code 130 = .ok (.iconst 0, 1) := by decide +kernel
theorem d_Rf_hearRecords_131 : decode prog_13_method_42_code 131 = .ok (.putfield 138, 3) := by decide +kernel
theorem d_Rf_hearRecords_134 : decode prog_13_method_42_code 134 = .ok (.aload_n 0, 1) := by decide +kernel
theorem d_Rf_hearRecords_135 : decode prog_13_method_42_code 135 = .ok (.getfield 138, 3) := by decide +kernel
theorem d_Rf_hearRecords_138 : decode prog_13_method_42_code 138 = .ok (.ifCond .eq 5, 3) := by decide +kernel
theorem d_Rf_hearRecords_141 : decode prog_13_method_42_code 141 = .ok (.iconst 0, 1) := by decide +kernel
theorem d_Rf_hearRecords_142 : decode prog_13_method_42_code 142 = .ok (.ireturn, 1) := by decide +kernel
theorem d_Rf_hearRecords_143 : decode prog_13_method_42_code 143 = .ok (.aload_n 0, 1) := by decide +kernel
theorem d_Rf_hearRecords_144 : decode prog_13_method_42_code 144 = .ok (.iload_n 3, 1) := by decide +kernel
theorem d_Rf_hearRecords_145 : decode prog_13_method_42_code 145 = .ok (.invokevirtual 241, 3) := by decide +kernel
theorem d_Rf_hearRecords_148 : decode prog_13_method_42_code 148 = .ok (.istore 5, 2) := by decide +kernel
theorem d_Rf_hearRecords_150 : decode prog_13_method_42_code 150 = .ok (.goto 94, 3) := by decide +kernel
theorem d_Rf_hearRecords_153 : decode prog_13_method_42_code 153 = .ok (.aload_n 0, 1) := by decide +kernel
theorem d_Rf_hearRecords_154 : decode prog_13_method_42_code 154 = .ok (.getfield 225, 3) := by decide +kernel
theorem d_Rf_hearRecords_157 : decode prog_13_method_42_code 157 = .ok (.iconst 5, 1) := by decide +kernel
theorem d_Rf_hearRecords_158 : decode prog_13_method_42_code 158 = .ok (.if_icmp .ne 23, 3) := by decide +kernel
theorem d_Rf_hearRecords_161 : decode prog_13_method_42_code 161 = .ok (.aload_n 0, 1) := by decide +kernel
theorem d_Rf_hearRecords_162 : decode prog_13_method_42_code 162 = .ok (.getfield 114, 3) := by decide +kernel
theorem d_Rf_hearRecords_165 : decode prog_13_method_42_code 165 = .ok (.aload_n 0, 1) := by decide +kernel
theorem d_Rf_hearRecords_166 : decode prog_13_method_42_code 166 = .ok (.getfield 100, 3) := by decide +kernel
theorem d_Rf_hearRecords_169 : decode prog_13_method_42_code 169 = .ok (.iconst 0, 1) := by decide +kernel
theorem d_Rf_hearRecords_170 : decode prog_13_method_42_code 170 = .ok (.iaload, 1) := by decide +kernel
theorem d_Rf_hearRecords_171 : decode prog_13_method_42_code 171 = .ok (.dup2, 1) := by decide +kernel
theorem d_Rf_hearRecords_172 : decode prog_13_method_42_code 172 = .ok (.iaload, 1) := by decide +kernel
theorem d_Rf_hearRecords_173 : decode prog_13_method_42_code 173 = .ok (.iconst 1, 1) := by decide +kernel
theorem d_Rf_hearRecords_174 : decode prog_13_method_42_code 174 = .ok (.iadd, 1) := by decide +kernel
theorem d_Rf_hearRecords_175 : decode prog_13_method_42_code 175 = .ok (.iastore, 1) := by decide +kernel
theorem d_Rf_hearRecords_176 : decode prog_13_method_42_code 176 = .ok (.aload_n 0, 1) := by decide +kernel
theorem d_Rf_hearRecords_177 : decode prog_13_method_42_code 177 = .ok (.iconst 0, 1) := by decide +kernel
theorem d_Rf_hearRecords_178 : decode prog_13_method_42_code 178 = .ok (.invokevirtual 244, 3) := by decide +kernel
theorem d_Rf_hearRecords_181 : decode prog_13_method_42_code 181 = .ok (.aload_n 0, 1) := by decide +kernel
theorem d_Rf_hearRecords_182 : decode prog_13_method_42_code 182 = .ok (.getfield 97, 3) := by decide +kernel
theorem d_Rf_hearRecords_185 : decode prog_13_method_42_code 185 = .ok (.aload_n 0, 1) := by decide +kernel
theorem d_Rf_hearRecords_186 : decode prog_13_method_42_code 186 = .ok (.getfield 225, 3) := by decide +kernel
theorem d_Rf_hearRecords_189 : decode prog_13_method_42_code 189 = .ok (.aload_n 0, 1) := by decide +kernel
theorem d_Rf_hearRecords_190 : decode prog_13_method_42_code 190 = .ok (.getfield 197, 3) := by decide +kernel
theorem d_Rf_hearRecords_193 : decode prog_13_method_42_code 193 = .ok (.iastore, 1) := by decide +kernel
theorem d_Rf_hearRecords_194 : decode prog_13_method_42_code 194 = .ok (.iconst 0, 1) := by decide +kernel
theorem d_Rf_hearRecords_195 : decode prog_13_method_42_code 195 = .ok (.istore 6, 2) := by decide +kernel
theorem d_Rf_hearRecords_197 : decode prog_13_method_42_code 197 = .ok (.iload 6, 2) := by decide +kernel
theorem d_Rf_hearRecords_199 : decode prog_13_method_42_code 199 = .ok (.aload_n 0, 1) := by decide +kernel
theorem d_Rf_hearRecords_200 : decode prog_13_method_42_code 200 = .ok (.getfield 197, 3) := by decide +kernel
theorem d_Rf_hearRecords_203 : decode prog_13_method_42_code 203 = .ok (.if_icmp .ge 31, 3) := by decide +kernel
theorem d_Rf_hearRecords_206 : decode prog_13_method_42_code 206 = .ok (.aload_n 0, 1) := by decide +kernel
theorem d_Rf_hearRecords_207 : decode prog_13_method_42_code 207 = .ok (.getfield 100, 3) := by decide +kernel
theorem d_Rf_hearRecords_210 : decode prog_13_method_42_code 210 = .ok (.bipush 64, 2) := by decide +kernel
theorem d_Rf_hearRecords_212 : decode prog_13_method_42_code 212 = .ok (.aload_n 0, 1) := by decide +kernel
theorem d_Rf_hearRecords_213 : decode prog_13_method_42_code 213 = .ok (.getfield 225, 3) := by decide +kernel
theorem d_Rf_hearRecords_216 : decode prog_13_method_42_code 216 = .ok (.imul, 1) := by decide +kernel
theorem d_Rf_hearRecords_217 : decode prog_13_method_42_code 217 = .ok (.iload 6, 2) := by decide +kernel
theorem d_Rf_hearRecords_219 : decode prog_13_method_42_code 219 = .ok (.iadd, 1) := by decide +kernel
theorem d_Rf_hearRecords_220 : decode prog_13_method_42_code 220 = .ok (.aload_n 0, 1) := by decide +kernel
theorem d_Rf_hearRecords_221 : decode prog_13_method_42_code 221 = .ok (.getfield 129, 3) := by decide +kernel
theorem d_Rf_hearRecords_224 : decode prog_13_method_42_code 224 = .ok (.iload 6, 2) := by decide +kernel
theorem d_Rf_hearRecords_226 : decode prog_13_method_42_code 226 = .ok (.iaload, 1) := by decide +kernel
theorem d_Rf_hearRecords_227 : decode prog_13_method_42_code 227 = .ok (.iastore, 1) := by decide +kernel
theorem d_Rf_hearRecords_228 : decode prog_13_method_42_code 228 = .ok (.iinc 6 1, 3) := by decide +kernel
theorem d_Rf_hearRecords_231 : decode prog_13_method_42_code 231 = .ok (.goto (-34), 3) := by decide +kernel
theorem d_Rf_hearRecords_234 : decode prog_13_method_42_code 234 = .ok (.aload_n 0, 1) := by decide +kernel
theorem d_Rf_hearRecords_235 : decode prog_13_method_42_code 235 = .ok (.dup, 1) := by decide +kernel
theorem d_Rf_hearRecords_236 : decode prog_13_method_42_code 236 = .ok (.getfield 225, 3) := by decide +kernel
theorem d_Rf_hearRecords_239 : decode prog_13_method_42_code 239 = .ok (.iconst 1, 1) := by decide +kernel
theorem d_Rf_hearRecords_240 : decode prog_13_method_42_code 240 = .ok (.iadd, 1) := by decide +kernel
theorem d_Rf_hearRecords_241 : decode prog_13_method_42_code 241 = .ok (.putfield 225, 3) := by decide +kernel
theorem d_Rf_hearRecords_244 : decode prog_13_method_42_code 244 = .ok (.iload_n 1, 1) := by decide +kernel
theorem d_Rf_hearRecords_245 : decode prog_13_method_42_code 245 = .ok (.istore 6, 2) := by decide +kernel
theorem d_Rf_hearRecords_247 : decode prog_13_method_42_code 247 = .ok (.iload 6, 2) := by decide +kernel
theorem d_Rf_hearRecords_249 : decode prog_13_method_42_code 249 = .ok (.iload_n 1, 1) := by decide +kernel
theorem d_Rf_hearRecords_250 : decode prog_13_method_42_code 250 = .ok (.iload 4, 2) := by decide +kernel
theorem d_Rf_hearRecords_252 : decode prog_13_method_42_code 252 = .ok (.iadd, 1) := by decide +kernel
theorem d_Rf_hearRecords_253 : decode prog_13_method_42_code 253 = .ok (.if_icmp .ge 17, 3) := by decide +kernel
theorem d_Rf_hearRecords_256 : decode prog_13_method_42_code 256 = .ok (.aload_n 0, 1) := by decide +kernel
theorem d_Rf_hearRecords_257 : decode prog_13_method_42_code 257 = .ok (.getfield 103, 3) := by decide +kernel
theorem d_Rf_hearRecords_260 : decode prog_13_method_42_code 260 = .ok (.iload 6, 2) := by decide +kernel
theorem d_Rf_hearRecords_262 : decode prog_13_method_42_code 262 = .ok (.iconst 1, 1) := by decide +kernel
theorem d_Rf_hearRecords_263 : decode prog_13_method_42_code 263 = .ok (.bastore, 1) := by decide +kernel
theorem d_Rf_hearRecords_264 : decode prog_13_method_42_code 264 = .ok (.iinc 6 1, 3) := by decide +kernel
theorem d_Rf_hearRecords_267 : decode prog_13_method_42_code 267 = .ok (.goto (-20), 3) := by decide +kernel
theorem d_Rf_hearRecords_270 : decode prog_13_method_42_code 270 = .ok (.iload 5, 2) := by decide +kernel
theorem d_Rf_hearRecords_272 : decode prog_13_method_42_code 272 = .ok (.ireturn, 1) := by decide +kernel
theorem q_Rf_hearRecords : (⟨"FlowShelfModel", "hearRecords", "()I"⟩ : MethodName).cls ≠ "java/lang/invoke/MethodHandle" ∧ (⟨"FlowShelfModel", "hearRecords", "()I"⟩ : MethodName).cls ≠ "java/lang/invoke/VarHandle" ∧ (parseMethodDescriptor (⟨"FlowShelfModel", "hearRecords", "()I"⟩ : MethodName).desc).map (fun d => d.parameters.length) = some 0 := by decide +kernel
set_option maxHeartbeats 4000000 in
set_option maxRecDepth 100000 in
theorem m_Rf_hearRecords (X : fs_X) (l : Launch) (a0 : Nat) {r : Int32} {σ σF : fs_S} (h : (f_Rf_hearRecords a0).1 σ = some (r, σF)) : fs_Met X l ⟨"FlowShelfModel", "hearRecords", "()I"⟩ (Cond.code ⟨"FlowShelfModel", "hearRecords", "()I"⟩ prog_13_method_42_code 7 (some FieldType.int)) 3 73 [.ref a0] σ (fs_eI r) σF := by
  refine fs_ofW (by decide) ?_
  intro p e s m args below meth c s₁ B hml hT hv
  obtain ⟨rfl, hw0, hG⟩ := hv
  have hx := B.exec
  have hb := B.bytes
  have hr := B.returns
  have hk := B.notSynchronized
  have S : CallFix p m c prog_13_method_42_code 7 s _ fs_ws "FlowShelfModel" := ⟨B.exec, B.bytes, hml, findClass_of_methodNamed B.named, fun w hw => atoms_spec (ws := _ :: fs_ws) B.pre w (List.mem_cons_of_mem _ hw)⟩
  have hR := fs_hR (fr := 3) (lo := 73) ((f_Rf_hearRecords a0).2 _ _ _ h)
  have hl := lv_entry ([.ref a0]) (n := 7) (Nat.le_of_ble_eq_true rfl)
  rw [lg_entry_eq]
  generalize (lg_sl ([.ref a0]) ++ List.replicate (7 - (lg_sl ([.ref a0])).length) Slot.unset).toArray = ls at hl ⊢
  have hl : lv_has ls 7 [(0, .ref a0)] := hl
  refine (?_ : fs_J X p l e (fs_rm 3 73 σ σF) s m _ below meth c (fs_Q X below _ s (fs_eI r) σ σF) r σ σF (f_Rf_hearRecords a0) (F0 m 0 ls [])) σ s.heap [] 0 0 h hw0 va_S.rf rfl rfl
  clear h hw0
  unfold f_Rf_hearRecords
  refine fs_lift (fun _ _ _ _ => lv_sipush (v := 600) hx hb d_Rf_hearRecords_0 (by decide)) ?_
  refine fs_lift (fun _ _ _ _ => lv_aload_n hx hb d_Rf_hearRecords_3 rfl (lv_at hl 0 rfl)) ?_
  refine fs_Jgr S hG fs_in12 rfl 46 (Nat.le_of_ble_eq_true rfl) tw_5_238 (fun _ h9 => h9) d_Rf_hearRecords_4 (fun r1 => ?_)
  refine fs_lift (fun _ _ _ _ => lv_iconst (v := 0) hx hb d_Rf_hearRecords_7 (by decide)) ?_
  refine fs_Jai S hG d_Rf_hearRecords_8 (fun v2 => ?_)
  refine fs_lift (fun _ _ _ _ => lv_imul hx hb d_Rf_hearRecords_9) ?_
  refine fs_lift (fun _ _ _ _ => lv_bipush (v := 100) hx hb d_Rf_hearRecords_10 (by decide)) ?_
  refine fs_lift (fun _ _ _ _ => lv_aload_n hx hb d_Rf_hearRecords_12 rfl (lv_at hl 0 rfl)) ?_
  refine fs_Jgr S hG fs_in12 rfl 46 (Nat.le_of_ble_eq_true rfl) tw_5_238 (fun _ h9 => h9) d_Rf_hearRecords_13 (fun r3 => ?_)
  refine fs_lift (fun _ _ _ _ => lv_iconst (v := 1) hx hb d_Rf_hearRecords_16 (by decide)) ?_
  refine fs_Jai S hG d_Rf_hearRecords_17 (fun v4 => ?_)
  refine fs_lift (fun _ _ _ _ => lv_imul hx hb d_Rf_hearRecords_18) ?_
  refine fs_lift (fun _ _ _ _ => lv_iadd hx hb d_Rf_hearRecords_19) ?_
  refine fs_lift (fun _ _ _ _ => lv_aload_n hx hb d_Rf_hearRecords_20 rfl (lv_at hl 0 rfl)) ?_
  refine fs_Jgr S hG fs_in12 rfl 46 (Nat.le_of_ble_eq_true rfl) tw_5_238 (fun _ h9 => h9) d_Rf_hearRecords_21 (fun r5 => ?_)
  refine fs_lift (fun _ _ _ _ => lv_bipush (v := 6) hx hb d_Rf_hearRecords_24 (by decide)) ?_
  refine fs_Jai S hG d_Rf_hearRecords_26 (fun v6 => ?_)
  refine fs_lift (fun _ _ _ _ => lv_iadd hx hb d_Rf_hearRecords_27) ?_
  refine fs_Jni (fun v7 => ?_)
  refine fs_liftL (fun _ _ _ _ => lv_istore_n (lv' := [(1, .int v7), (0, .ref a0)]) hx hb d_Rf_hearRecords_28 rfl hl (Nat.le_of_ble_eq_true rfl) rfl) (fun ls hl => ?_)
  refine fs_lift (fun _ _ _ _ => lv_iconst (v := 0) hx hb d_Rf_hearRecords_29 (by decide)) ?_
  refine fs_liftL (fun _ _ _ _ => lv_istore_n (lv' := [(2, .int 0), (1, .int v7), (0, .ref a0)]) hx hb d_Rf_hearRecords_30 rfl hl (Nat.le_of_ble_eq_true rfl) rfl) (fun ls hl => ?_)
  refine fs_lift (fun _ _ _ _ => lv_iload_n hx hb d_Rf_hearRecords_31 rfl (lv_at hl 1 rfl)) ?_
  refine fs_liftL (fun _ _ _ _ => lv_istore_n (lv' := [(3, .int v7), (2, .int 0), (1, .int v7), (0, .ref a0)]) hx hb d_Rf_hearRecords_32 rfl hl (Nat.le_of_ble_eq_true rfl) rfl) (fun ls hl => ?_)
  refine fs_Jlp2 (nL := 7) (pc := 33) (rest := []) (I := fun (v8 : Int32) (v9 : Int32) => [(0, .ref a0), (1, .int v7), (2, .int v8), (3, .int v9)]) (fun k33 hk33 v8 v9 ls hl => ?_) _ _ _ _ (lv_sub hl [3, 2, 1, 0] rfl)
  refine fs_lift (fun _ _ _ _ => lv_iload_n hx hb d_Rf_hearRecords_33 rfl (lv_at hl 3 rfl)) ?_
  refine fs_lift (fun _ _ _ _ => lv_iload_n hx hb d_Rf_hearRecords_34 rfl (lv_at hl 1 rfl)) ?_
  refine fs_lift (fun _ _ _ _ => lv_aload_n hx hb d_Rf_hearRecords_35 rfl (lv_at hl 0 rfl)) ?_
  refine fs_Jgr S hG fs_in12 rfl 46 (Nat.le_of_ble_eq_true rfl) tw_5_238 (fun _ h9 => h9) d_Rf_hearRecords_36 (fun r10 => ?_)
  refine fs_lift (fun _ _ _ _ => lv_iconst (v := 5) hx hb d_Rf_hearRecords_39 (by decide)) ?_
  refine fs_Jai S hG d_Rf_hearRecords_40 (fun v11 => ?_)
  refine fs_lift (fun _ _ _ _ => lv_iadd hx hb d_Rf_hearRecords_41) ?_
  refine fs_if (fun _ _ _ _ => lv_icmp_ge hx hb d_Rf_hearRecords_42 rfl) ?_ ?_
  · refine fs_lift (fun _ _ _ _ => lv_iload_n hx hb d_Rf_hearRecords_70 rfl (lv_at hl 2 rfl)) ?_
    refine fs_if (fun _ _ _ _ => lv_if_eq hx hb d_Rf_hearRecords_71 rfl) ?_ ?_
    · refine fs_lift (fun _ _ _ _ => lv_aload_n hx hb d_Rf_hearRecords_76 rfl (lv_at hl 0 rfl)) ?_
      refine fs_lift (fun _ _ _ _ => lv_aload_n hx hb d_Rf_hearRecords_77 rfl (lv_at hl 0 rfl)) ?_
      refine fs_JV S hG hR rfl [] (enc := fun r => some (.int r)) (fun zr zs zt zh => m_Rf_nameOf X l a0 zh) tw_6_237 tw_6_239 tp_2_13 tw_7_0 tw_1_11 q_Rf_nameOf ⟨(Nat.le_of_ble_eq_true rfl), (Nat.le_of_ble_eq_true rfl)⟩ hl.1 rfl (Nat.le_of_ble_eq_true rfl) d_Rf_hearRecords_78 (fun v12 => ?_)
      refine fs_Jeq (g2 := F0 m 81 ls [.int v12, .ref a0]) rfl ?_
      refine fs_JV S hG hR rfl [.int v12] (enc := fun r => some (.int r)) (fun zr zs zt zh => m_Rf_find X l a0 v12 zh) tw_7_1 tw_7_3 tp_2_14 tw_7_4 tw_1_11 q_Rf_find ⟨(Nat.le_of_ble_eq_true rfl), (Nat.le_of_ble_eq_true rfl)⟩ hl.1 rfl (Nat.le_of_ble_eq_true rfl) d_Rf_hearRecords_81 (fun v13 => ?_)
      refine fs_Jeq (g2 := F0 m 84 ls [.int v13]) rfl ?_
      refine fs_liftL (fun _ _ _ _ => lv_istore_n (lv' := [(3, .int v13), (0, .ref a0), (1, .int v7), (2, .int v8)]) hx hb d_Rf_hearRecords_84 rfl hl (Nat.le_of_ble_eq_true rfl) rfl) (fun ls hl => ?_)
      refine fs_lift (fun _ _ _ _ => lv_aload_n hx hb d_Rf_hearRecords_85 rfl (lv_at hl 1 rfl)) ?_
      refine fs_Jgr S hG fs_in12 rfl 46 (Nat.le_of_ble_eq_true rfl) tw_5_238 (fun _ h9 => h9) d_Rf_hearRecords_86 (fun r14 => ?_)
      refine fs_lift (fun _ _ _ _ => lv_iconst (v := 5) hx hb d_Rf_hearRecords_89 (by decide)) ?_
      refine fs_Jai S hG d_Rf_hearRecords_90 (fun v15 => ?_)
      refine fs_liftL (fun _ _ _ _ => lv_istore (lv' := [(4, .int v15), (3, .int v13), (0, .ref a0), (1, .int v7), (2, .int v8)]) hx hb d_Rf_hearRecords_91 hl (Nat.le_of_ble_eq_true rfl) rfl) (fun ls hl => ?_)
      refine fs_lift (fun _ _ _ _ => lv_iconst (v := 0) hx hb d_Rf_hearRecords_93 (by decide)) ?_
      refine fs_liftL (fun _ _ _ _ => lv_istore (lv' := [(5, .int 0), (4, .int v15), (3, .int v13), (0, .ref a0), (1, .int v7), (2, .int v8)]) hx hb d_Rf_hearRecords_94 hl (Nat.le_of_ble_eq_true rfl) rfl) (fun ls hl => ?_)
      refine fs_lift (fun _ _ _ _ => lv_iload_n hx hb d_Rf_hearRecords_96 rfl (lv_at hl 2 rfl)) ?_
      refine fs_Jlet1 (nL := 7) (pj := 244) (I := fun (v37 : Int32) => [(0, .ref a0), (1, .int v7), (4, .int v15), (5, .int v37)]) (st := fun (v37 : Int32) => []) (fun v37 ls hl => ?_) (fun j244 hj244 => ?_)
      · refine fs_lift (fun _ _ _ _ => lv_iload_n hx hb d_Rf_hearRecords_244 rfl (lv_at hl 1 rfl)) ?_
        refine fs_liftL (fun _ _ _ _ => lv_istore (lv' := [(6, .int v7), (0, .ref a0), (1, .int v7), (4, .int v15), (5, .int v37)]) hx hb d_Rf_hearRecords_245 hl (Nat.le_of_ble_eq_true rfl) rfl) (fun ls hl => ?_)
        refine fs_Jlp1 (nL := 7) (pc := 247) (rest := []) (I := fun (v38 : Int32) => [(0, .ref a0), (1, .int v7), (4, .int v15), (5, .int v37), (6, .int v38)]) (fun k247 hk247 v38 ls hl => ?_) _ _ _ (lv_sub hl [1, 2, 3, 4, 0] rfl)
        refine fs_lift (fun _ _ _ _ => lv_iload hx hb d_Rf_hearRecords_247 (lv_at hl 4 rfl)) ?_
        refine fs_lift (fun _ _ _ _ => lv_iload_n hx hb d_Rf_hearRecords_249 rfl (lv_at hl 1 rfl)) ?_
        refine fs_lift (fun _ _ _ _ => lv_iload hx hb d_Rf_hearRecords_250 (lv_at hl 2 rfl)) ?_
        refine fs_lift (fun _ _ _ _ => lv_iadd hx hb d_Rf_hearRecords_252) ?_
        refine fs_if (fun _ _ _ _ => lv_icmp_ge hx hb d_Rf_hearRecords_253 rfl) ?_ ?_
        · refine fs_lift (fun _ _ _ _ => lv_iload hx hb d_Rf_hearRecords_270 (lv_at hl 3 rfl)) ?_
          exact fs_Jiret S hr hk rfl d_Rf_hearRecords_272
        · refine fs_lift (fun _ _ _ _ => lv_aload_n hx hb d_Rf_hearRecords_256 rfl (lv_at hl 0 rfl)) ?_
          refine fs_Jgr S hG fs_in12 rfl 36 (Nat.le_of_ble_eq_true rfl) tw_5_228 (fun _ h9 => h9) d_Rf_hearRecords_257 (fun r39 => ?_)
          refine fs_lift (fun _ _ _ _ => lv_iload hx hb d_Rf_hearRecords_260 (lv_at hl 4 rfl)) ?_
          refine fs_lift (fun _ _ _ _ => lv_iconst (v := 1) hx hb d_Rf_hearRecords_262 (by decide)) ?_
          refine fs_Jsz S hG d_Rf_hearRecords_263 ?_
          refine fs_Jnm (fun v40 hv9 => ?_)
          refine fs_liftL (fun _ _ _ _ => lv_iinc (k := 4) (v := v40) (lv' := [(6, .int v40), (0, .ref a0), (1, .int v7), (4, .int v15), (5, .int v37)]) hx hb d_Rf_hearRecords_264 hl rfl (by rw [hv9]; rfl) (Nat.le_of_ble_eq_true rfl) rfl) (fun ls hl => ?_)
          refine fs_lift (fun _ _ _ _ => lv_goto hx hb d_Rf_hearRecords_267 rfl) ?_
          exact hk247 v40 ls (lv_sub hl [1, 2, 3, 4, 0] rfl)
      · refine fs_if (fun _ _ _ _ => lv_if_lt hx hb d_Rf_hearRecords_97 rfl) ?_ ?_
        · refine fs_lift (fun _ _ _ _ => lv_aload_n hx hb d_Rf_hearRecords_153 rfl (lv_at hl 3 rfl)) ?_
          refine fs_Jgi S hG fs_in12 rfl 33 (Nat.le_of_ble_eq_true rfl) tw_5_225 (fun _ h9 => h9) d_Rf_hearRecords_154 (fun v16 => ?_)
          refine fs_lift (fun _ _ _ _ => lv_iconst (v := 5) hx hb d_Rf_hearRecords_157 (by decide)) ?_
          refine fs_Jlet1 (nL := 7) (pj := 181) (I := fun (_ : Unit) => [(0, .ref a0), (1, .int v7), (4, .int v15), (5, .int 0)]) (st := fun (_ : Unit) => []) (fun _ ls hl => ?_) (fun j181 hj181 => ?_)
          · refine fs_lift (fun _ _ _ _ => lv_aload_n hx hb d_Rf_hearRecords_181 rfl (lv_at hl 0 rfl)) ?_
            refine fs_Jgr S hG fs_in12 rfl 34 (Nat.le_of_ble_eq_true rfl) tw_5_226 (fun _ h9 => h9) d_Rf_hearRecords_182 (fun r21 => ?_)
            refine fs_lift (fun _ _ _ _ => lv_aload_n hx hb d_Rf_hearRecords_185 rfl (lv_at hl 0 rfl)) ?_
            refine fs_Jgi S hG fs_in12 rfl 33 (Nat.le_of_ble_eq_true rfl) tw_5_225 (fun _ h9 => h9) d_Rf_hearRecords_186 (fun v22 => ?_)
            refine fs_lift (fun _ _ _ _ => lv_aload_n hx hb d_Rf_hearRecords_189 rfl (lv_at hl 0 rfl)) ?_
            refine fs_Jgi S hG fs_in12 rfl 45 (Nat.le_of_ble_eq_true rfl) tw_5_237 (fun _ h9 => h9) d_Rf_hearRecords_190 (fun v23 => ?_)
            refine fs_Jsi S hG d_Rf_hearRecords_193 ?_
            refine fs_lift (fun _ _ _ _ => lv_iconst (v := 0) hx hb d_Rf_hearRecords_194 (by decide)) ?_
            refine fs_liftL (fun _ _ _ _ => lv_istore (lv' := [(6, .int 0), (0, .ref a0), (1, .int v7), (4, .int v15), (5, .int 0)]) hx hb d_Rf_hearRecords_195 hl (Nat.le_of_ble_eq_true rfl) rfl) (fun ls hl => ?_)
            refine fs_Jlp1 (nL := 7) (pc := 197) (rest := []) (I := fun (v24 : Int32) => [(0, .ref a0), (1, .int v7), (4, .int v15), (5, .int 0), (6, .int v24)]) (fun k197 hk197 v24 ls hl => ?_) _ _ _ (lv_sub hl [1, 2, 3, 4, 0] rfl)
            refine fs_lift (fun _ _ _ _ => lv_iload hx hb d_Rf_hearRecords_197 (lv_at hl 4 rfl)) ?_
            refine fs_lift (fun _ _ _ _ => lv_aload_n hx hb d_Rf_hearRecords_199 rfl (lv_at hl 0 rfl)) ?_
            refine fs_Jgi S hG fs_in12 rfl 45 (Nat.le_of_ble_eq_true rfl) tw_5_237 (fun _ h9 => h9) d_Rf_hearRecords_200 (fun v25 => ?_)
            refine fs_if (fun _ _ _ _ => lv_icmp_ge hx hb d_Rf_hearRecords_203 rfl) ?_ ?_
            · refine fs_lift (fun _ _ _ _ => lv_aload_n hx hb d_Rf_hearRecords_234 rfl (lv_at hl 0 rfl)) ?_
              refine fs_lift (fun _ _ _ _ => lv_dup hx hb d_Rf_hearRecords_235 rfl) ?_
              refine fs_Jgi S hG fs_in12 rfl 33 (Nat.le_of_ble_eq_true rfl) tw_5_225 (fun _ h9 => h9) d_Rf_hearRecords_236 (fun v26 => ?_)
              refine fs_lift (fun _ _ _ _ => lv_iconst (v := 1) hx hb d_Rf_hearRecords_239 (by decide)) ?_
              refine fs_lift (fun _ _ _ _ => lv_iadd hx hb d_Rf_hearRecords_240) ?_
              refine fs_Jput S hG fs_in12 rfl 33 (Nat.le_of_ble_eq_true rfl) tw_5_225 (fun _ h9 => h9) fs_Y12 fs_ty12 fs_nm12 (Or.inl rfl) rfl rfl d_Rf_hearRecords_241 ?_
              exact hj244 0 ls (lv_sub hl [0, 1, 2, 3] rfl)
            · refine fs_lift (fun _ _ _ _ => lv_aload_n hx hb d_Rf_hearRecords_206 rfl (lv_at hl 0 rfl)) ?_
              refine fs_Jgr S hG fs_in12 rfl 35 (Nat.le_of_ble_eq_true rfl) tw_5_227 (fun _ h9 => h9) d_Rf_hearRecords_207 (fun r27 => ?_)
              refine fs_lift (fun _ _ _ _ => lv_bipush (v := 64) hx hb d_Rf_hearRecords_210 (by decide)) ?_
              refine fs_lift (fun _ _ _ _ => lv_aload_n hx hb d_Rf_hearRecords_212 rfl (lv_at hl 0 rfl)) ?_
              refine fs_Jgi S hG fs_in12 rfl 33 (Nat.le_of_ble_eq_true rfl) tw_5_225 (fun _ h9 => h9) d_Rf_hearRecords_213 (fun v28 => ?_)
              refine fs_lift (fun _ _ _ _ => lv_imul hx hb d_Rf_hearRecords_216) ?_
              refine fs_lift (fun _ _ _ _ => lv_iload hx hb d_Rf_hearRecords_217 (lv_at hl 4 rfl)) ?_
              refine fs_lift (fun _ _ _ _ => lv_iadd hx hb d_Rf_hearRecords_219) ?_
              refine fs_lift (fun _ _ _ _ => lv_aload_n hx hb d_Rf_hearRecords_220 rfl (lv_at hl 0 rfl)) ?_
              refine fs_Jgr S hG fs_in12 rfl 46 (Nat.le_of_ble_eq_true rfl) tw_5_238 (fun _ h9 => h9) d_Rf_hearRecords_221 (fun r29 => ?_)
              refine fs_lift (fun _ _ _ _ => lv_iload hx hb d_Rf_hearRecords_224 (lv_at hl 4 rfl)) ?_
              refine fs_Jai S hG d_Rf_hearRecords_226 (fun v30 => ?_)
              refine fs_Jsi S hG d_Rf_hearRecords_227 ?_
              refine fs_Jnm (fun v31 hv9 => ?_)
              refine fs_liftL (fun _ _ _ _ => lv_iinc (k := 4) (v := v31) (lv' := [(6, .int v31), (0, .ref a0), (1, .int v7), (4, .int v15), (5, .int 0)]) hx hb d_Rf_hearRecords_228 hl rfl (by rw [hv9]; rfl) (Nat.le_of_ble_eq_true rfl) rfl) (fun ls hl => ?_)
              refine fs_lift (fun _ _ _ _ => lv_goto hx hb d_Rf_hearRecords_231 rfl) ?_
              exact hk197 v31 ls (lv_sub hl [1, 2, 3, 4, 0] rfl)
          · refine fs_ifn (fun _ _ _ _ => lv_icmp_ne hx hb d_Rf_hearRecords_158 rfl) ?_ ?_
            · refine fs_lift (fun _ _ _ _ => lv_aload_n hx hb d_Rf_hearRecords_161 rfl (lv_at hl 3 rfl)) ?_
              refine fs_Jgr S hG fs_in12 rfl 40 (Nat.le_of_ble_eq_true rfl) tw_5_232 (fun _ h9 => h9) d_Rf_hearRecords_162 (fun r17 => ?_)
              refine fs_lift (fun _ _ _ _ => lv_aload_n hx hb d_Rf_hearRecords_165 rfl (lv_at hl 3 rfl)) ?_
              refine fs_Jgr S hG fs_in12 rfl 35 (Nat.le_of_ble_eq_true rfl) tw_5_227 (fun _ h9 => h9) d_Rf_hearRecords_166 (fun r18 => ?_)
              refine fs_lift (fun _ _ _ _ => lv_iconst (v := 0) hx hb d_Rf_hearRecords_169 (by decide)) ?_
              refine fs_Jai S hG d_Rf_hearRecords_170 (fun v19 => ?_)
              refine fs_lift (fun _ _ _ _ => lv_dup2_11 hx hb d_Rf_hearRecords_171 rfl rfl) ?_
              refine fs_Jai S hG d_Rf_hearRecords_172 (fun v20 => ?_)
              refine fs_lift (fun _ _ _ _ => lv_iconst (v := 1) hx hb d_Rf_hearRecords_173 (by decide)) ?_
              refine fs_lift (fun _ _ _ _ => lv_iadd hx hb d_Rf_hearRecords_174) ?_
              refine fs_Jsi S hG d_Rf_hearRecords_175 ?_
              refine fs_lift (fun _ _ _ _ => lv_aload_n hx hb d_Rf_hearRecords_176 rfl (lv_at hl 3 rfl)) ?_
              refine fs_lift (fun _ _ _ _ => lv_iconst (v := 0) hx hb d_Rf_hearRecords_177 (by decide)) ?_
              refine fs_JV S hG hR rfl [.int 0] (enc := fun _ => none) (fun zr zs zt zh => m_Rf_unshelve X l a0 0 zh) tw_7_27 tw_7_29 tp_3_4 tw_7_30 tw_1_11 q_Rf_unshelve ⟨(Nat.le_of_ble_eq_true rfl), (Nat.le_of_ble_eq_true rfl)⟩ hl.1 rfl (Nat.le_of_ble_eq_true rfl) d_Rf_hearRecords_178 (fun _ => ?_)
              refine fs_Jeq (g2 := F0 m 181 ls []) rfl ?_
              exact hj181 () ls (lv_sub hl [3, 4, 1, 0] rfl)
            · exact hj181 () ls (lv_sub hl [3, 4, 1, 0] rfl)
        · refine fs_lift (fun _ _ _ _ => lv_aload_n hx hb d_Rf_hearRecords_100 rfl (lv_at hl 3 rfl)) ?_
          refine fs_lift (fun _ _ _ _ => lv_aload_n hx hb d_Rf_hearRecords_101 rfl (lv_at hl 3 rfl)) ?_
          refine fs_lift (fun _ _ _ _ => lv_iload_n hx hb d_Rf_hearRecords_102 rfl (lv_at hl 2 rfl)) ?_
          refine fs_lift (fun _ _ _ _ => lv_iconst (v := 0) hx hb d_Rf_hearRecords_103 (by decide)) ?_
          refine fs_JV S hG hR rfl [.int v13, .int 0] (enc := fun r => some (.int r)) (fun zr zs zt zh => m_Rf_read X l a0 v13 0 zh) tw_7_17 tw_7_19 tp_3_2 tw_7_20 tw_1_11 q_Rf_read ⟨(Nat.le_of_ble_eq_true rfl), (Nat.le_of_ble_eq_true rfl)⟩ hl.1 rfl (Nat.le_of_ble_eq_true rfl) d_Rf_hearRecords_104 (fun v32 => ?_)
          refine fs_Jeq (g2 := F0 m 107 ls [.int v32, .ref a0]) rfl ?_
          refine fs_Jlet1 (nL := 7) (pj := 131) (I := fun (v34 : Int32) => [(0, .ref a0), (1, .int v7), (3, .int v13), (4, .int v15)]) (st := fun (v34 : Int32) => [.int v34, .ref a0]) (fun v34 ls hl => ?_) (fun j131 hj131 => ?_)
          · refine fs_Jput S hG fs_in12 rfl 0 (Nat.le_of_ble_eq_true rfl) tw_5_192 (fun _ h9 => h9) fs_Y12 fs_ty12 fs_nm12 (Or.inl rfl) rfl rfl d_Rf_hearRecords_131 ?_
            refine fs_lift (fun _ _ _ _ => lv_aload_n hx hb d_Rf_hearRecords_134 rfl (lv_at hl 0 rfl)) ?_
            refine fs_Jgi S hG fs_in12 rfl 0 (Nat.le_of_ble_eq_true rfl) tw_5_192 (fun _ h9 => h9) d_Rf_hearRecords_135 (fun v35 => ?_)
            refine fs_if (fun _ _ _ _ => lv_if_eq hx hb d_Rf_hearRecords_138 rfl) ?_ ?_
            · refine fs_lift (fun _ _ _ _ => lv_aload_n hx hb d_Rf_hearRecords_143 rfl (lv_at hl 0 rfl)) ?_
              refine fs_lift (fun _ _ _ _ => lv_iload_n hx hb d_Rf_hearRecords_144 rfl (lv_at hl 2 rfl)) ?_
              refine fs_JV S hG hR rfl [.int v13] (enc := fun r => some (.int r)) (fun zr zs zt zh => m_Rf_makeRows X l a0 v13 zh) tw_7_13 tw_7_15 tp_3_1 tw_7_16 tw_1_11 q_Rf_makeRows ⟨(Nat.le_of_ble_eq_true rfl), (Nat.le_of_ble_eq_true rfl)⟩ hl.1 rfl (Nat.le_of_ble_eq_true rfl) d_Rf_hearRecords_145 (fun v36 => ?_)
              refine fs_Jeq (g2 := F0 m 148 ls [.int v36]) rfl ?_
              refine fs_liftL (fun _ _ _ _ => lv_istore (lv' := [(5, .int v36), (0, .ref a0), (1, .int v7), (3, .int v13), (4, .int v15)]) hx hb d_Rf_hearRecords_148 hl (Nat.le_of_ble_eq_true rfl) rfl) (fun ls hl => ?_)
              refine fs_lift (fun _ _ _ _ => lv_goto hx hb d_Rf_hearRecords_150 rfl) ?_
              exact hj244 v36 ls (lv_sub hl [1, 2, 4, 0] rfl)
            · refine fs_lift (fun _ _ _ _ => lv_iconst (v := 0) hx hb d_Rf_hearRecords_141 (by decide)) ?_
              exact fs_Jiret S hr hk rfl d_Rf_hearRecords_142
          · refine fs_ifn (fun _ _ _ _ => lv_if_ne hx hb d_Rf_hearRecords_107 rfl) ?_ ?_
            · refine fs_lift (fun _ _ _ _ => lv_iconst (v := 2) hx hb d_Rf_hearRecords_110 (by decide)) ?_
              refine fs_lift (fun _ _ _ _ => lv_goto hx hb d_Rf_hearRecords_111 rfl) ?_
              exact hj131 2 ls (lv_sub hl [3, 4, 2, 1] rfl)
            · refine fs_lift (fun _ _ _ _ => lv_aload_n hx hb d_Rf_hearRecords_114 rfl (lv_at hl 3 rfl)) ?_
              refine fs_Jgi S hG fs_in12 rfl 37 (Nat.le_of_ble_eq_true rfl) tw_5_229 (fun _ h9 => h9) d_Rf_hearRecords_115 (fun v33 => ?_)
              refine fs_lift (fun _ _ _ _ => lv_iload hx hb d_Rf_hearRecords_118 (lv_at hl 1 rfl)) ?_
              refine fs_lift (fun _ _ _ _ => lv_iadd hx hb d_Rf_hearRecords_120) ?_
              refine fs_lift (fun _ _ _ _ => lv_bipush (v := 80) hx hb d_Rf_hearRecords_121 (by decide)) ?_
              refine fs_if (fun _ _ _ _ => lv_icmp_le hx hb d_Rf_hearRecords_123 rfl) ?_ ?_
              · refine fs_lift (fun _ _ _ _ => lv_iconst (v := 0) hx hb d_Rf_hearRecords_130 (by decide)) ?_
                exact hj131 0 ls (lv_sub hl [3, 4, 2, 1] rfl)
              · refine fs_lift (fun _ _ _ _ => lv_iconst (v := 3) hx hb d_Rf_hearRecords_126 (by decide)) ?_
                refine fs_lift (fun _ _ _ _ => lv_goto hx hb d_Rf_hearRecords_127 rfl) ?_
                exact hj131 3 ls (lv_sub hl [3, 4, 2, 1] rfl)
    · refine fs_lift (fun _ _ _ _ => lv_iconst (v := 0) hx hb d_Rf_hearRecords_74 (by decide)) ?_
      exact fs_Jiret S hr hk rfl d_Rf_hearRecords_75
  · refine fs_lift (fun _ _ _ _ => lv_iload_n hx hb d_Rf_hearRecords_45 rfl (lv_at hl 2 rfl)) ?_
    refine fs_Jlet1 (nL := 7) (pj := 63) (I := fun (v43 : Int32) => [(0, .ref a0), (1, .int v7), (3, .int v9)]) (st := fun (v43 : Int32) => [.int v43]) (fun v43 ls hl => ?_) (fun j63 hj63 => ?_)
    · refine fs_liftL (fun _ _ _ _ => lv_istore_n (lv' := [(2, .int v43), (0, .ref a0), (1, .int v7), (3, .int v9)]) hx hb d_Rf_hearRecords_63 rfl hl (Nat.le_of_ble_eq_true rfl) rfl) (fun ls hl => ?_)
      refine fs_Jnm (fun v44 hv9 => ?_)
      refine fs_liftL (fun _ _ _ _ => lv_iinc (k := 3) (v := v44) (lv' := [(3, .int v44), (2, .int v43), (0, .ref a0), (1, .int v7)]) hx hb d_Rf_hearRecords_64 hl rfl (by rw [hv9]; rfl) (Nat.le_of_ble_eq_true rfl) rfl) (fun ls hl => ?_)
      refine fs_lift (fun _ _ _ _ => lv_goto hx hb d_Rf_hearRecords_67 rfl) ?_
      exact hk33 v43 v44 ls (lv_sub hl [2, 3, 1, 0] rfl)
    · refine fs_Jlet1 (nL := 7) (pj := 58) (I := fun (_ : Unit) => [(0, .ref a0), (1, .int v7), (3, .int v9)]) (st := fun (_ : Unit) => []) (fun _ ls hl => ?_) (fun j58 hj58 => ?_)
      · refine fs_lift (fun _ _ _ _ => lv_iconst (v := 1) hx hb d_Rf_hearRecords_58 (by decide)) ?_
        refine fs_lift (fun _ _ _ _ => lv_goto hx hb d_Rf_hearRecords_59 rfl) ?_
        exact hj63 1 ls (lv_sub hl [0, 1, 2] rfl)
      · refine fs_ifn (fun _ _ _ _ => lv_if_ne hx hb d_Rf_hearRecords_46 rfl) ?_ ?_
        · refine fs_lift (fun _ _ _ _ => lv_aload_n hx hb d_Rf_hearRecords_49 rfl (lv_at hl 0 rfl)) ?_
          refine fs_Jgr S hG fs_in12 rfl 36 (Nat.le_of_ble_eq_true rfl) tw_5_228 (fun _ h9 => h9) d_Rf_hearRecords_50 (fun r41 => ?_)
          refine fs_lift (fun _ _ _ _ => lv_iload_n hx hb d_Rf_hearRecords_53 rfl (lv_at hl 3 rfl)) ?_
          refine fs_Jaz S hG d_Rf_hearRecords_54 (fun v42 => ?_)
          refine fs_if (fun _ _ _ _ => lv_if_eq hx hb d_Rf_hearRecords_55 rfl) ?_ ?_
          · refine fs_lift (fun _ _ _ _ => lv_iconst (v := 0) hx hb d_Rf_hearRecords_62 (by decide)) ?_
            exact hj63 0 ls (lv_sub hl [0, 1, 3] rfl)
          · exact hj58 () ls (lv_sub hl [0, 1, 3] rfl)
        · exact hj58 () ls (lv_sub hl [0, 1, 3] rfl)

theorem d_Rf_hear_0 : decode prog_13_method_43_code 0 = .ok (.aload_n 0, 1) := by decide +kernel
theorem d_Rf_hear_1 : decode prog_13_method_43_code 1 = .ok (.aload_n 0, 1) := by decide +kernel
theorem d_Rf_hear_2 : decode prog_13_method_43_code 2 = .ok (.iload_n 1, 1) := by decide +kernel
theorem d_Rf_hear_3 : decode prog_13_method_43_code 3 = .ok (.invokevirtual 194, 3) := by decide +kernel
theorem d_Rf_hear_6 : decode prog_13_method_43_code 6 = .ok (.ifCond .eq 7, 3) := by decide +kernel
theorem d_Rf_hear_9 : decode prog_13_method_43_code 9 = .ok (.iconst 1, 1) := by decide +kernel
theorem d_Rf_hear_10 : decode prog_13_method_43_code 10 = .ok (.goto 4, 3) := by decide +kernel
theorem d_Rf_hear_13 : decode prog_13_method_43_code 13 = .ok (.iconst 0, 1) := by decide +kernel
theorem d_Rf_hear_14 : decode prog_13_method_43_code 14 = .ok (.putfield 138, 3) := by decide +kernel
theorem d_Rf_hear_17 : decode prog_13_method_43_code 17 = .ok (.aload_n 0, 1) := by decide +kernel
theorem d_Rf_hear_18 : decode prog_13_method_43_code 18 = .ok (.getfield 138, 3) := by decide +kernel
theorem d_Rf_hear_21 : decode prog_13_method_43_code 21 = .ok (.ifCond .eq 5, 3) := by decide +kernel
theorem d_Rf_hear_24 : decode prog_13_method_43_code 24 = .ok (.iconst 0, 1) := by decide +kernel
theorem d_Rf_hear_25 : decode prog_13_method_43_code 25 = .ok (.ireturn, 1) := by decide +kernel
theorem d_Rf_hear_26 : decode prog_13_method_43_code 26 = .ok (.aload_n 0, 1) := by decide +kernel
theorem d_Rf_hear_27 : decode prog_13_method_43_code 27 = .ok (.aload_n 0, 1) := by decide +kernel
theorem d_Rf_hear_28 : decode prog_13_method_43_code 28 = .ok (.getfield 79, 3) := by decide +kernel
theorem d_Rf_hear_31 : decode prog_13_method_43_code 31 = .ok (.iload_n 1, 1) := by decide +kernel
theorem d_Rf_hear_32 : decode prog_13_method_43_code 32 = .ok (.iaload, 1) := by decide +kernel
theorem d_Rf_hear_33 : decode prog_13_method_43_code 33 = .ok (.putfield 197, 3) := by decide +kernel
theorem d_Rf_hear_36 : decode prog_13_method_43_code 36 = .ok (.iconst 0, 1) := by decide +kernel
theorem d_Rf_hear_37 : decode prog_13_method_43_code 37 = .ok (.istore_n 2, 1) := by decide +kernel
theorem d_Rf_hear_38 : decode prog_13_method_43_code 38 = .ok (.iload_n 2, 1) := by decide +kernel
theorem d_Rf_hear_39 : decode prog_13_method_43_code 39 = .ok (.aload_n 0, 1) := by decide +kernel
theorem d_Rf_hear_40 : decode prog_13_method_43_code 40 = .ok (.getfield 197, 3) := by decide +kernel
theorem d_Rf_hear_43 : decode prog_13_method_43_code 43 = .ok (.if_icmp .ge 26, 3) := by decide +kernel
theorem d_Rf_hear_46 : decode prog_13_method_43_code 46 = .ok (.aload_n 0, 1) := by decide +kernel
theorem d_Rf_hear_47 : decode prog_13_method_43_code 47 = .ok (.getfield 129, 3) := by decide +kernel
theorem d_Rf_hear_50 : decode prog_13_method_43_code 50 = .ok (.iload_n 2, 1) := by decide +kernel
theorem d_Rf_hear_51 : decode prog_13_method_43_code 51 = .ok (.aload_n 0, 1) := by decide +kernel
theorem d_Rf_hear_52 : decode prog_13_method_43_code 52 = .ok (.getfield 82, 3) := by decide +kernel
theorem d_Rf_hear_55 : decode prog_13_method_43_code 55 = .ok (.bipush 64, 2) := by decide +kernel
theorem d_Rf_hear_57 : decode prog_13_method_43_code 57 = .ok (.iload_n 1, 1) := by decide +kernel
theorem d_Rf_hear_58 : decode prog_13_method_43_code 58 = .ok (.imul, 1) := by decide +kernel
theorem d_Rf_hear_59 : decode prog_13_method_43_code 59 = .ok (.iload_n 2, 1) := by decide +kernel
theorem d_Rf_hear_60 : decode prog_13_method_43_code 60 = .ok (.iadd, 1) := by decide +kernel
theorem d_Rf_hear_61 : decode prog_13_method_43_code 61 = .ok (.iaload, 1) := by decide +kernel
theorem d_Rf_hear_62 : decode prog_13_method_43_code 62 = .ok (.iastore, 1) := by decide +kernel
theorem d_Rf_hear_63 : decode prog_13_method_43_code 63 = .ok (.iinc 2 1, 3) := by decide +kernel
theorem d_Rf_hear_66 : decode prog_13_method_43_code 66 = .ok (.goto (-28), 3) := by decide +kernel
theorem d_Rf_hear_69 : decode prog_13_method_43_code 69 = .ok (.aload_n 0, 1) := by decide +kernel
theorem d_Rf_hear_70 : decode prog_13_method_43_code 70 = .ok (.invokevirtual 247, 3) := by decide +kernel
theorem d_Rf_hear_73 : decode prog_13_method_43_code 73 = .ok (.ifCond .eq 10, 3) := by decide +kernel
theorem d_Rf_hear_76 : decode prog_13_method_43_code 76 = .ok (.aload_n 0, 1) := by decide +kernel
theorem d_Rf_hear_77 : decode prog_13_method_43_code 77 = .ok (.iconst 2, 1) := by decide +kernel
theorem d_Rf_hear_78 : decode prog_13_method_43_code 78 = .ok (.putfield 138, 3) := by decide +kernel
theorem d_Rf_hear_81 : decode prog_13_method_43_code 81 = .ok (.iconst 0, 1) := by decide +kernel
theorem d_Rf_hear_82 : decode prog_13_method_43_code 82 = .ok (.ireturn, 1) := by decide +kernel
theorem d_Rf_hear_83 : decode prog_13_method_43_code 83 = .ok (.aload_n 0, 1) := by decide +kernel
theorem d_Rf_hear_84 : decode prog_13_method_43_code 84 = .ok (.getfield 129, 3) := by decide +kernel
theorem d_Rf_hear_87 : decode prog_13_method_43_code 87 = .ok (.iconst 2, 1) := by decide +kernel
theorem d_Rf_hear_88 : decode prog_13_method_43_code 88 = .ok (.iaload, 1) := by decide +kernel
theorem d_Rf_hear_89 : decode prog_13_method_43_code 89 = .ok (.ifCond .ne 8, 3) := by decide +kernel
theorem d_Rf_hear_92 : decode prog_13_method_43_code 92 = .ok (.aload_n 0, 1) := by decide +kernel
theorem d_Rf_hear_93 : decode prog_13_method_43_code 93 = .ok (.invokevirtual 250, 3) := by decide +kernel
theorem d_Rf_hear_96 : decode prog_13_method_43_code 96 = .ok (.ireturn, 1) := by decide +kernel
theorem d_Rf_hear_97 : decode prog_13_method_43_code 97 = .ok (.aload_n 0, 1) := by decide +kernel
theorem d_Rf_hear_98 : decode prog_13_method_43_code 98 = .ok (.getfield 129, 3) := by decide +kernel
theorem d_Rf_hear_101 : decode prog_13_method_43_code 101 = .ok (.iconst 2, 1) := by decide +kernel
theorem d_Rf_hear_102 : decode prog_13_method_43_code 102 = .ok (.iaload, 1) := by decide +kernel
theorem d_Rf_hear_103 : decode prog_13_method_43_code 103 = .ok (.iconst 1, 1) := by decide +kernel
theorem d_Rf_hear_104 : decode prog_13_method_43_code 104 = .ok (.if_icmp .ne 8, 3) := by decide +kernel
theorem d_Rf_hear_107 : decode prog_13_method_43_code 107 = .ok (.aload_n 0, 1) := by decide +kernel
theorem d_Rf_hear_108 : decode prog_13_method_43_code 108 = .ok (.invokevirtual 253, 3) := by decide +kernel
theorem d_Rf_hear_111 : decode prog_13_method_43_code 111 = .ok (.ireturn, 1) := by decide +kernel
theorem d_Rf_hear_112 : decode prog_13_method_43_code 112 = .ok (.aload_n 0, 1) := by decide +kernel
theorem d_Rf_hear_113 : decode prog_13_method_43_code 113 = .ok (.getfield 129, 3) := by decide +kernel
theorem d_Rf_hear_116 : decode prog_13_method_43_code 116 = .ok (.iconst 0, 1) := by decide +kernel
theorem d_Rf_hear_117 : decode prog_13_method_43_code 117 = .ok (.iaload, 1) := by decide +kernel
theorem d_Rf_hear_118 : decode prog_13_method_43_code 118 = .ok (.istore_n 2, 1) := by decide +kernel
theorem d_Rf_hear_119 : decode prog_13_method_43_code 119 = .ok (.aload_n 0, 1) := by decide +kernel
theorem d_Rf_hear_120 : decode prog_13_method_43_code 120 = .ok (.getfield 120, 3) := by decide +kernel
theorem d_Rf_hear_123 : decode prog_13_method_43_code 123 = .ok (.iload_n 2, 1) := by decide +kernel
theorem d_Rf_hear_124 : decode prog_13_method_43_code 124 = .ok (.iaload, 1) := by decide +kernel
theorem d_Rf_hear_125 : decode prog_13_method_43_code 125 = .ok (.ifCond .eq 48, 3) := by decide +kernel
theorem d_Rf_hear_128 : decode prog_13_method_43_code 128 = .ok (.aload_n 0, 1) := by decide +kernel
theorem d_Rf_hear_129 : decode prog_13_method_43_code 129 = .ok (.getfield 129, 3) := by decide +kernel
theorem d_Rf_hear_132 : decode prog_13_method_43_code 132 = .ok (.iconst 1, 1) := by decide +kernel
theorem d_Rf_hear_133 : decode prog_13_method_43_code 133 = .ok (.iaload, 1) := by decide +kernel
theorem d_Rf_hear_134 : decode prog_13_method_43_code 134 = .ok (.aload_n 0, 1) := by decide +kernel
theorem d_Rf_hear_135 : decode prog_13_method_43_code 135 = .ok (.getfield 123, 3) := by decide +kernel
theorem d_Rf_hear_138 : decode prog_13_method_43_code 138 = .ok (.iload_n 2, 1) := by decide +kernel
theorem d_Rf_hear_139 : decode prog_13_method_43_code 139 = .ok (.iaload, 1) := by decide +kernel
theorem d_Rf_hear_140 : decode prog_13_method_43_code 140 = .ok (.if_icmp .gt 33, 3) := by decide +kernel
theorem d_Rf_hear_143 : decode prog_13_method_43_code 143 = .ok (.aload_n 0, 1) := by decide +kernel
theorem d_Rf_hear_144 : decode prog_13_method_43_code 144 = .ok (.getfield 129, 3) := by decide +kernel
theorem d_Rf_hear_147 : decode prog_13_method_43_code 147 = .ok (.iconst 1, 1) := by decide +kernel
theorem d_Rf_hear_148 : decode prog_13_method_43_code 148 = .ok (.iaload, 1) := by decide +kernel
theorem d_Rf_hear_149 : decode prog_13_method_43_code 149 = .ok (.aload_n 0, 1) := by decide +kernel
theorem d_Rf_hear_150 : decode prog_13_method_43_code 150 = .ok (.getfield 123, 3) := by decide +kernel
theorem d_Rf_hear_153 : decode prog_13_method_43_code 153 = .ok (.iload_n 2, 1) := by decide +kernel
theorem d_Rf_hear_154 : decode prog_13_method_43_code 154 = .ok (.iaload, 1) := by decide +kernel
theorem d_Rf_hear_155 : decode prog_13_method_43_code 155 = .ok (.if_icmp .ne 22, 3) := by decide +kernel
theorem d_Rf_hear_158 : decode prog_13_method_43_code 158 = .ok (.aload_n 0, 1) := by decide +kernel
theorem d_Rf_hear_159 : decode prog_13_method_43_code 159 = .ok (.getfield 129, 3) := by decide +kernel
theorem d_Rf_hear_162 : decode prog_13_method_43_code 162 = .ok (.iconst 3, 1) := by decide +kernel
theorem d_Rf_hear_163 : decode prog_13_method_43_code 163 = .ok (.iaload, 1) := by decide +kernel
theorem d_Rf_hear_164 : decode prog_13_method_43_code 164 = .ok (.aload_n 0, 1) := by decide +kernel
theorem d_Rf_hear_165 : decode prog_13_method_43_code 165 = .ok (.getfield 126, 3) := by decide +kernel
theorem d_Rf_hear_168 : decode prog_13_method_43_code 168 = .ok (.iload_n 2, 1) := by decide +kernel
theorem d_Rf_hear_169 : decode prog_13_method_43_code 169 = .ok (.iaload, 1) := by decide +kernel
theorem d_Rf_hear_170 : decode prog_13_method_43_code 170 = .ok (.if_icmp .le 7, 3) := by decide +kernel
theorem d_Rf_hear_173 : decode prog_13_method_43_code 173 = .ok (.iconst 1, 1) := by decide +kernel
theorem d_Rf_hear_174 : decode prog_13_method_43_code 174 = .ok (.goto 4, 3) := by decide +kernel
theorem d_Rf_hear_177 : decode prog_13_method_43_code 177 = .ok (.iconst 0, 1) := by decide +kernel
theorem d_Rf_hear_178 : decode prog_13_method_43_code 178 = .ok (.istore_n 3, 1) := by decide +kernel
theorem d_Rf_hear_179 : decode prog_13_method_43_code 179 = .ok (.iload_n 3, 1) := by decide +kernel
theorem d_Rf_hear_180 : decode prog_13_method_43_code 180 = .ok (.ifCond .eq 39, 3) := by decide +kernel
theorem d_Rf_hear_183 : decode prog_13_method_43_code 183 = .ok (.aload_n 0, 1) := by decide +kernel
theorem d_Rf_hear_184 : decode prog_13_method_43_code 184 = .ok (.getfield 120, 3) := by decide +kernel
theorem d_Rf_hear_187 : decode prog_13_method_43_code 187 = .ok (.iload_n 2, 1) := by decide +kernel
theorem d_Rf_hear_188 : decode prog_13_method_43_code 188 = .ok (.aload_n 0, 1) := by decide +kernel
theorem d_Rf_hear_189 : decode prog_13_method_43_code 189 = .ok (.getfield 129, 3) := by decide +kernel
theorem d_Rf_hear_192 : decode prog_13_method_43_code 192 = .ok (.iconst 4, 1) := by decide +kernel
theorem d_Rf_hear_193 : decode prog_13_method_43_code 193 = .ok (.iaload, 1) := by decide +kernel
theorem d_Rf_hear_194 : decode prog_13_method_43_code 194 = .ok (.iastore, 1) := by decide +kernel
theorem d_Rf_hear_195 : decode prog_13_method_43_code 195 = .ok (.aload_n 0, 1) := by decide +kernel
theorem d_Rf_hear_196 : decode prog_13_method_43_code 196 = .ok (.getfield 123, 3) := by decide +kernel
theorem d_Rf_hear_199 : decode prog_13_method_43_code 199 = .ok (.iload_n 2, 1) := by decide +kernel
theorem d_Rf_hear_200 : decode prog_13_method_43_code 200 = .ok (.aload_n 0, 1) := by decide +kernel
theorem d_Rf_hear_201 : decode prog_13_method_43_code 201 = .ok (.getfield 129, 3) := by decide +kernel
theorem d_Rf_hear_204 : decode prog_13_method_43_code 204 = .ok (.iconst 1, 1) := by decide +kernel
theorem d_Rf_hear_205 : decode prog_13_method_43_code 205 = .ok (.iaload, 1) := by decide +kernel
theorem d_Rf_hear_206 : decode prog_13_method_43_code 206 = .ok (.iastore, 1) := by decide +kernel
theorem d_Rf_hear_207 : decode prog_13_method_43_code 207 = .ok (.aload_n 0, 1) := by decide +kernel
theorem d_Rf_hear_208 : decode prog_13_method_43_code 208 = .ok (.getfield 126, 3) := by decide +kernel
theorem d_Rf_hear_211 : decode prog_13_method_43_code 211 = .ok (.iload_n 2, 1) := by decide +kernel
theorem d_Rf_hear_212 : decode prog_13_method_43_code 212 = .ok (.aload_n 0, 1) := by decide +kernel
theorem d_Rf_hear_213 : decode prog_13_method_43_code 213 = .ok (.getfield 129, 3) := by decide +kernel
theorem d_Rf_hear_216 : decode prog_13_method_43_code 216 = .ok (.iconst 3, 1) := by decide +kernel
theorem d_Rf_hear_217 : decode prog_13_method_43_code 217 = .ok (.iaload, 1) := by decide +kernel
theorem d_Rf_hear_218 : decode prog_13_method_43_code 218 = .ok (.iastore, 1) := by decide +kernel
theorem d_Rf_hear_219 : decode prog_13_method_43_code 219 = .ok (.iconst 0, 1) := by decide +kernel
theorem d_Rf_hear_220 : decode prog_13_method_43_code 220 = .ok (.ireturn, 1) := by decide +kernel
theorem q_Rf_hear : (⟨"FlowShelfModel", "hear", "(I)I"⟩ : MethodName).cls ≠ "java/lang/invoke/MethodHandle" ∧ (⟨"FlowShelfModel", "hear", "(I)I"⟩ : MethodName).cls ≠ "java/lang/invoke/VarHandle" ∧ (parseMethodDescriptor (⟨"FlowShelfModel", "hear", "(I)I"⟩ : MethodName).desc).map (fun d => d.parameters.length) = some 1 := by decide +kernel
set_option maxHeartbeats 4000000 in
set_option maxRecDepth 100000 in
theorem m_Rf_hear (X : fs_X) (l : Launch) (a0 : Nat) (x1 : Int32) {r : Int32} {σ σF : fs_S} (h : (f_Rf_hear a0 x1).1 σ = some (r, σF)) : fs_Met X l ⟨"FlowShelfModel", "hear", "(I)I"⟩ (Cond.code ⟨"FlowShelfModel", "hear", "(I)I"⟩ prog_13_method_43_code 4 (some FieldType.int)) 4 99 [.ref a0, .int x1] σ (fs_eI r) σF := by
  refine fs_ofW (by decide) ?_
  intro p e s m args below meth c s₁ B hml hT hv
  obtain ⟨rfl, hw0, hG⟩ := hv
  have hx := B.exec
  have hb := B.bytes
  have hr := B.returns
  have hk := B.notSynchronized
  have S : CallFix p m c prog_13_method_43_code 4 s _ fs_ws "FlowShelfModel" := ⟨B.exec, B.bytes, hml, findClass_of_methodNamed B.named, fun w hw => atoms_spec (ws := _ :: fs_ws) B.pre w (List.mem_cons_of_mem _ hw)⟩
  have hR := fs_hR (fr := 4) (lo := 99) ((f_Rf_hear a0 x1).2 _ _ _ h)
  have hl := lv_entry ([.ref a0, .int x1]) (n := 4) (Nat.le_of_ble_eq_true rfl)
  rw [lg_entry_eq]
  generalize (lg_sl ([.ref a0, .int x1]) ++ List.replicate (4 - (lg_sl ([.ref a0, .int x1])).length) Slot.unset).toArray = ls at hl ⊢
  have hl : lv_has ls 4 [(0, .ref a0), (1, .int x1)] := hl
  refine (?_ : fs_J X p l e (fs_rm 4 99 σ σF) s m _ below meth c (fs_Q X below _ s (fs_eI r) σ σF) r σ σF (f_Rf_hear a0 x1) (F0 m 0 ls [])) σ s.heap [] 0 0 h hw0 va_S.rf rfl rfl
  clear h hw0
  unfold f_Rf_hear
  refine fs_lift (fun _ _ _ _ => lv_aload_n hx hb d_Rf_hear_0 rfl (lv_at hl 0 rfl)) ?_
  refine fs_lift (fun _ _ _ _ => lv_aload_n hx hb d_Rf_hear_1 rfl (lv_at hl 0 rfl)) ?_
  refine fs_lift (fun _ _ _ _ => lv_iload_n hx hb d_Rf_hear_2 rfl (lv_at hl 1 rfl)) ?_
  refine fs_JV S hG hR rfl [.int x1] (enc := fun r => some (.int r)) (fun zr zs zt zh => m_Rf_noReport X l a0 x1 zh) tw_6_209 tw_6_211 tp_2_9 tw_6_212 tw_1_11 q_Rf_noReport ⟨(Nat.le_of_ble_eq_true rfl), (Nat.le_of_ble_eq_true rfl)⟩ hl.1 rfl (Nat.le_of_ble_eq_true rfl) d_Rf_hear_3 (fun v1 => ?_)
  refine fs_Jeq (g2 := F0 m 6 ls [.int v1, .ref a0]) rfl ?_
  refine fs_Jlet1 (nL := 4) (pj := 14) (I := fun (v2 : Int32) => [(0, .ref a0), (1, .int x1)]) (st := fun (v2 : Int32) => [.int v2, .ref a0]) (fun v2 ls hl => ?_) (fun j14 hj14 => ?_)
  · refine fs_Jput S hG fs_in12 rfl 0 (Nat.le_of_ble_eq_true rfl) tw_5_192 (fun _ h9 => h9) fs_Y12 fs_ty12 fs_nm12 (Or.inl rfl) rfl rfl d_Rf_hear_14 ?_
    refine fs_lift (fun _ _ _ _ => lv_aload_n hx hb d_Rf_hear_17 rfl (lv_at hl 0 rfl)) ?_
    refine fs_Jgi S hG fs_in12 rfl 0 (Nat.le_of_ble_eq_true rfl) tw_5_192 (fun _ h9 => h9) d_Rf_hear_18 (fun v3 => ?_)
    refine fs_if (fun _ _ _ _ => lv_if_eq hx hb d_Rf_hear_21 rfl) ?_ ?_
    · refine fs_lift (fun _ _ _ _ => lv_aload_n hx hb d_Rf_hear_26 rfl (lv_at hl 0 rfl)) ?_
      refine fs_lift (fun _ _ _ _ => lv_aload_n hx hb d_Rf_hear_27 rfl (lv_at hl 0 rfl)) ?_
      refine fs_Jgr S hG fs_in12 rfl 26 (Nat.le_of_ble_eq_true rfl) tw_5_218 (fun _ h9 => h9) d_Rf_hear_28 (fun r4 => ?_)
      refine fs_lift (fun _ _ _ _ => lv_iload_n hx hb d_Rf_hear_31 rfl (lv_at hl 1 rfl)) ?_
      refine fs_Jai S hG d_Rf_hear_32 (fun v5 => ?_)
      refine fs_Jput S hG fs_in12 rfl 45 (Nat.le_of_ble_eq_true rfl) tw_5_237 (fun _ h9 => h9) fs_Y12 fs_ty12 fs_nm12 (Or.inl rfl) rfl rfl d_Rf_hear_33 ?_
      refine fs_lift (fun _ _ _ _ => lv_iconst (v := 0) hx hb d_Rf_hear_36 (by decide)) ?_
      refine fs_liftL (fun _ _ _ _ => lv_istore_n (lv' := [(2, .int 0), (0, .ref a0), (1, .int x1)]) hx hb d_Rf_hear_37 rfl hl (Nat.le_of_ble_eq_true rfl) rfl) (fun ls hl => ?_)
      refine fs_Jlp1 (nL := 4) (pc := 38) (rest := []) (I := fun (v6 : Int32) => [(0, .ref a0), (1, .int x1), (2, .int v6)]) (fun k38 hk38 v6 ls hl => ?_) _ _ _ (lv_sub hl [1, 2, 0] rfl)
      refine fs_lift (fun _ _ _ _ => lv_iload_n hx hb d_Rf_hear_38 rfl (lv_at hl 2 rfl)) ?_
      refine fs_lift (fun _ _ _ _ => lv_aload_n hx hb d_Rf_hear_39 rfl (lv_at hl 0 rfl)) ?_
      refine fs_Jgi S hG fs_in12 rfl 45 (Nat.le_of_ble_eq_true rfl) tw_5_237 (fun _ h9 => h9) d_Rf_hear_40 (fun v7 => ?_)
      refine fs_if (fun _ _ _ _ => lv_icmp_ge hx hb d_Rf_hear_43 rfl) ?_ ?_
      · refine fs_lift (fun _ _ _ _ => lv_aload_n hx hb d_Rf_hear_69 rfl (lv_at hl 0 rfl)) ?_
        refine fs_JV S hG hR rfl [] (enc := fun r => some (.int r)) (fun zr zs zt zh => m_Rf_isBad X l a0 zh) tw_6_225 tw_6_227 tp_2_10 tw_6_228 tw_1_11 q_Rf_isBad ⟨(Nat.le_of_ble_eq_true rfl), (Nat.le_of_ble_eq_true rfl)⟩ hl.1 rfl (Nat.le_of_ble_eq_true rfl) d_Rf_hear_70 (fun v8 => ?_)
        refine fs_Jeq (g2 := F0 m 73 ls [.int v8]) rfl ?_
        refine fs_if (fun _ _ _ _ => lv_if_eq hx hb d_Rf_hear_73 rfl) ?_ ?_
        · refine fs_lift (fun _ _ _ _ => lv_aload_n hx hb d_Rf_hear_83 rfl (lv_at hl 0 rfl)) ?_
          refine fs_Jgr S hG fs_in12 rfl 46 (Nat.le_of_ble_eq_true rfl) tw_5_238 (fun _ h9 => h9) d_Rf_hear_84 (fun r9 => ?_)
          refine fs_lift (fun _ _ _ _ => lv_iconst (v := 2) hx hb d_Rf_hear_87 (by decide)) ?_
          refine fs_Jai S hG d_Rf_hear_88 (fun v10 => ?_)
          refine fs_ifn (fun _ _ _ _ => lv_if_ne hx hb d_Rf_hear_89 rfl) ?_ ?_
          · refine fs_lift (fun _ _ _ _ => lv_aload_n hx hb d_Rf_hear_92 rfl (lv_at hl 0 rfl)) ?_
            refine fs_JV S hG hR rfl [] (enc := fun r => some (.int r)) (fun zr zs zt zh => m_Rf_hearTemplate X l a0 zh) tw_6_233 tw_6_235 tp_2_12 tw_6_236 tw_1_11 q_Rf_hearTemplate ⟨(Nat.le_of_ble_eq_true rfl), (Nat.le_of_ble_eq_true rfl)⟩ hl.1 rfl (Nat.le_of_ble_eq_true rfl) d_Rf_hear_93 (fun v40 => ?_)
            refine fs_Jeq (g2 := F0 m 96 ls [.int v40]) rfl ?_
            exact fs_Jiret S hr hk rfl d_Rf_hear_96
          · refine fs_lift (fun _ _ _ _ => lv_aload_n hx hb d_Rf_hear_97 rfl (lv_at hl 0 rfl)) ?_
            refine fs_Jgr S hG fs_in12 rfl 46 (Nat.le_of_ble_eq_true rfl) tw_5_238 (fun _ h9 => h9) d_Rf_hear_98 (fun r11 => ?_)
            refine fs_lift (fun _ _ _ _ => lv_iconst (v := 2) hx hb d_Rf_hear_101 (by decide)) ?_
            refine fs_Jai S hG d_Rf_hear_102 (fun v12 => ?_)
            refine fs_lift (fun _ _ _ _ => lv_iconst (v := 1) hx hb d_Rf_hear_103 (by decide)) ?_
            refine fs_ifn (fun _ _ _ _ => lv_icmp_ne hx hb d_Rf_hear_104 rfl) ?_ ?_
            · refine fs_lift (fun _ _ _ _ => lv_aload_n hx hb d_Rf_hear_107 rfl (lv_at hl 0 rfl)) ?_
              refine fs_JV S hG hR rfl [] (enc := fun r => some (.int r)) (fun zr zs zt zh => m_Rf_hearRecords X l a0 zh) tw_7_31 tw_7_33 tp_3_5 tw_7_34 tw_1_11 q_Rf_hearRecords ⟨(Nat.le_of_ble_eq_true rfl), (Nat.le_of_ble_eq_true rfl)⟩ hl.1 rfl (Nat.le_of_ble_eq_true rfl) d_Rf_hear_108 (fun v39 => ?_)
              refine fs_Jeq (g2 := F0 m 111 ls [.int v39]) rfl ?_
              exact fs_Jiret S hr hk rfl d_Rf_hear_111
            · refine fs_lift (fun _ _ _ _ => lv_aload_n hx hb d_Rf_hear_112 rfl (lv_at hl 0 rfl)) ?_
              refine fs_Jgr S hG fs_in12 rfl 46 (Nat.le_of_ble_eq_true rfl) tw_5_238 (fun _ h9 => h9) d_Rf_hear_113 (fun r13 => ?_)
              refine fs_lift (fun _ _ _ _ => lv_iconst (v := 0) hx hb d_Rf_hear_116 (by decide)) ?_
              refine fs_Jai S hG d_Rf_hear_117 (fun v14 => ?_)
              refine fs_liftL (fun _ _ _ _ => lv_istore_n (lv' := [(2, .int v14), (0, .ref a0), (1, .int x1)]) hx hb d_Rf_hear_118 rfl hl (Nat.le_of_ble_eq_true rfl) rfl) (fun ls hl => ?_)
              refine fs_lift (fun _ _ _ _ => lv_aload_n hx hb d_Rf_hear_119 rfl (lv_at hl 1 rfl)) ?_
              refine fs_Jgr S hG fs_in12 rfl 42 (Nat.le_of_ble_eq_true rfl) tw_5_234 (fun _ h9 => h9) d_Rf_hear_120 (fun r15 => ?_)
              refine fs_lift (fun _ _ _ _ => lv_iload_n hx hb d_Rf_hear_123 rfl (lv_at hl 0 rfl)) ?_
              refine fs_Jai S hG d_Rf_hear_124 (fun v16 => ?_)
              refine fs_Jlet1 (nL := 4) (pj := 178) (I := fun (v29 : Int32) => [(0, .ref a0), (2, .int v14)]) (st := fun (v29 : Int32) => [.int v29]) (fun v29 ls hl => ?_) (fun j178 hj178 => ?_)
              · refine fs_liftL (fun _ _ _ _ => lv_istore_n (lv' := [(3, .int v29), (0, .ref a0), (2, .int v14)]) hx hb d_Rf_hear_178 rfl hl (Nat.le_of_ble_eq_true rfl) rfl) (fun ls hl => ?_)
                refine fs_lift (fun _ _ _ _ => lv_iload_n hx hb d_Rf_hear_179 rfl (lv_at hl 0 rfl)) ?_
                refine fs_if (fun _ _ _ _ => lv_if_eq hx hb d_Rf_hear_180 rfl) ?_ ?_
                · refine fs_lift (fun _ _ _ _ => lv_iconst (v := 0) hx hb d_Rf_hear_219 (by decide)) ?_
                  exact fs_Jiret S hr hk rfl d_Rf_hear_220
                · refine fs_lift (fun _ _ _ _ => lv_aload_n hx hb d_Rf_hear_183 rfl (lv_at hl 1 rfl)) ?_
                  refine fs_Jgr S hG fs_in12 rfl 42 (Nat.le_of_ble_eq_true rfl) tw_5_234 (fun _ h9 => h9) d_Rf_hear_184 (fun r30 => ?_)
                  refine fs_lift (fun _ _ _ _ => lv_iload_n hx hb d_Rf_hear_187 rfl (lv_at hl 2 rfl)) ?_
                  refine fs_lift (fun _ _ _ _ => lv_aload_n hx hb d_Rf_hear_188 rfl (lv_at hl 1 rfl)) ?_
                  refine fs_Jgr S hG fs_in12 rfl 46 (Nat.le_of_ble_eq_true rfl) tw_5_238 (fun _ h9 => h9) d_Rf_hear_189 (fun r31 => ?_)
                  refine fs_lift (fun _ _ _ _ => lv_iconst (v := 4) hx hb d_Rf_hear_192 (by decide)) ?_
                  refine fs_Jai S hG d_Rf_hear_193 (fun v32 => ?_)
                  refine fs_Jsi S hG d_Rf_hear_194 ?_
                  refine fs_lift (fun _ _ _ _ => lv_aload_n hx hb d_Rf_hear_195 rfl (lv_at hl 1 rfl)) ?_
                  refine fs_Jgr S hG fs_in12 rfl 43 (Nat.le_of_ble_eq_true rfl) tw_5_235 (fun _ h9 => h9) d_Rf_hear_196 (fun r33 => ?_)
                  refine fs_lift (fun _ _ _ _ => lv_iload_n hx hb d_Rf_hear_199 rfl (lv_at hl 2 rfl)) ?_
                  refine fs_lift (fun _ _ _ _ => lv_aload_n hx hb d_Rf_hear_200 rfl (lv_at hl 1 rfl)) ?_
                  refine fs_Jgr S hG fs_in12 rfl 46 (Nat.le_of_ble_eq_true rfl) tw_5_238 (fun _ h9 => h9) d_Rf_hear_201 (fun r34 => ?_)
                  refine fs_lift (fun _ _ _ _ => lv_iconst (v := 1) hx hb d_Rf_hear_204 (by decide)) ?_
                  refine fs_Jai S hG d_Rf_hear_205 (fun v35 => ?_)
                  refine fs_Jsi S hG d_Rf_hear_206 ?_
                  refine fs_lift (fun _ _ _ _ => lv_aload_n hx hb d_Rf_hear_207 rfl (lv_at hl 1 rfl)) ?_
                  refine fs_Jgr S hG fs_in12 rfl 44 (Nat.le_of_ble_eq_true rfl) tw_5_236 (fun _ h9 => h9) d_Rf_hear_208 (fun r36 => ?_)
                  refine fs_lift (fun _ _ _ _ => lv_iload_n hx hb d_Rf_hear_211 rfl (lv_at hl 2 rfl)) ?_
                  refine fs_lift (fun _ _ _ _ => lv_aload_n hx hb d_Rf_hear_212 rfl (lv_at hl 1 rfl)) ?_
                  refine fs_Jgr S hG fs_in12 rfl 46 (Nat.le_of_ble_eq_true rfl) tw_5_238 (fun _ h9 => h9) d_Rf_hear_213 (fun r37 => ?_)
                  refine fs_lift (fun _ _ _ _ => lv_iconst (v := 3) hx hb d_Rf_hear_216 (by decide)) ?_
                  refine fs_Jai S hG d_Rf_hear_217 (fun v38 => ?_)
                  refine fs_Jsi S hG d_Rf_hear_218 ?_
                  refine fs_lift (fun _ _ _ _ => lv_iconst (v := 0) hx hb d_Rf_hear_219 (by decide)) ?_
                  exact fs_Jiret S hr hk rfl d_Rf_hear_220
              · refine fs_Jlet1 (nL := 4) (pj := 173) (I := fun (_ : Unit) => [(0, .ref a0), (2, .int v14)]) (st := fun (_ : Unit) => []) (fun _ ls hl => ?_) (fun j173 hj173 => ?_)
                · refine fs_lift (fun _ _ _ _ => lv_iconst (v := 1) hx hb d_Rf_hear_173 (by decide)) ?_
                  refine fs_lift (fun _ _ _ _ => lv_goto hx hb d_Rf_hear_174 rfl) ?_
                  exact hj178 1 ls (lv_sub hl [0, 1] rfl)
                · refine fs_if (fun _ _ _ _ => lv_if_eq hx hb d_Rf_hear_125 rfl) ?_ ?_
                  · exact hj173 () ls (lv_sub hl [1, 0] rfl)
                  · refine fs_lift (fun _ _ _ _ => lv_aload_n hx hb d_Rf_hear_128 rfl (lv_at hl 1 rfl)) ?_
                    refine fs_Jgr S hG fs_in12 rfl 46 (Nat.le_of_ble_eq_true rfl) tw_5_238 (fun _ h9 => h9) d_Rf_hear_129 (fun r17 => ?_)
                    refine fs_lift (fun _ _ _ _ => lv_iconst (v := 1) hx hb d_Rf_hear_132 (by decide)) ?_
                    refine fs_Jai S hG d_Rf_hear_133 (fun v18 => ?_)
                    refine fs_lift (fun _ _ _ _ => lv_aload_n hx hb d_Rf_hear_134 rfl (lv_at hl 1 rfl)) ?_
                    refine fs_Jgr S hG fs_in12 rfl 43 (Nat.le_of_ble_eq_true rfl) tw_5_235 (fun _ h9 => h9) d_Rf_hear_135 (fun r19 => ?_)
                    refine fs_lift (fun _ _ _ _ => lv_iload_n hx hb d_Rf_hear_138 rfl (lv_at hl 0 rfl)) ?_
                    refine fs_Jai S hG d_Rf_hear_139 (fun v20 => ?_)
                    refine fs_if (fun _ _ _ _ => lv_icmp_gt hx hb d_Rf_hear_140 rfl) ?_ ?_
                    · exact hj173 () ls (lv_sub hl [1, 0] rfl)
                    · refine fs_lift (fun _ _ _ _ => lv_aload_n hx hb d_Rf_hear_143 rfl (lv_at hl 1 rfl)) ?_
                      refine fs_Jgr S hG fs_in12 rfl 46 (Nat.le_of_ble_eq_true rfl) tw_5_238 (fun _ h9 => h9) d_Rf_hear_144 (fun r21 => ?_)
                      refine fs_lift (fun _ _ _ _ => lv_iconst (v := 1) hx hb d_Rf_hear_147 (by decide)) ?_
                      refine fs_Jai S hG d_Rf_hear_148 (fun v22 => ?_)
                      refine fs_lift (fun _ _ _ _ => lv_aload_n hx hb d_Rf_hear_149 rfl (lv_at hl 1 rfl)) ?_
                      refine fs_Jgr S hG fs_in12 rfl 43 (Nat.le_of_ble_eq_true rfl) tw_5_235 (fun _ h9 => h9) d_Rf_hear_150 (fun r23 => ?_)
                      refine fs_lift (fun _ _ _ _ => lv_iload_n hx hb d_Rf_hear_153 rfl (lv_at hl 0 rfl)) ?_
                      refine fs_Jai S hG d_Rf_hear_154 (fun v24 => ?_)
                      refine fs_Jlet1 (nL := 4) (pj := 177) (I := fun (_ : Unit) => [(0, .ref a0), (2, .int v14)]) (st := fun (_ : Unit) => []) (fun _ ls hl => ?_) (fun j177 hj177 => ?_)
                      · refine fs_lift (fun _ _ _ _ => lv_iconst (v := 0) hx hb d_Rf_hear_177 (by decide)) ?_
                        exact hj178 0 ls (lv_sub hl [0, 1] rfl)
                      · refine fs_ifn (fun _ _ _ _ => lv_icmp_ne hx hb d_Rf_hear_155 rfl) ?_ ?_
                        · refine fs_lift (fun _ _ _ _ => lv_aload_n hx hb d_Rf_hear_158 rfl (lv_at hl 1 rfl)) ?_
                          refine fs_Jgr S hG fs_in12 rfl 46 (Nat.le_of_ble_eq_true rfl) tw_5_238 (fun _ h9 => h9) d_Rf_hear_159 (fun r25 => ?_)
                          refine fs_lift (fun _ _ _ _ => lv_iconst (v := 3) hx hb d_Rf_hear_162 (by decide)) ?_
                          refine fs_Jai S hG d_Rf_hear_163 (fun v26 => ?_)
                          refine fs_lift (fun _ _ _ _ => lv_aload_n hx hb d_Rf_hear_164 rfl (lv_at hl 1 rfl)) ?_
                          refine fs_Jgr S hG fs_in12 rfl 44 (Nat.le_of_ble_eq_true rfl) tw_5_236 (fun _ h9 => h9) d_Rf_hear_165 (fun r27 => ?_)
                          refine fs_lift (fun _ _ _ _ => lv_iload_n hx hb d_Rf_hear_168 rfl (lv_at hl 0 rfl)) ?_
                          refine fs_Jai S hG d_Rf_hear_169 (fun v28 => ?_)
                          refine fs_if (fun _ _ _ _ => lv_icmp_le hx hb d_Rf_hear_170 rfl) ?_ ?_
                          · exact hj177 () ls (lv_sub hl [1, 0] rfl)
                          · exact hj173 () ls (lv_sub hl [1, 0] rfl)
                        · exact hj177 () ls (lv_sub hl [1, 0] rfl)
        · refine fs_lift (fun _ _ _ _ => lv_aload_n hx hb d_Rf_hear_76 rfl (lv_at hl 0 rfl)) ?_
          refine fs_lift (fun _ _ _ _ => lv_iconst (v := 2) hx hb d_Rf_hear_77 (by decide)) ?_
          refine fs_Jput S hG fs_in12 rfl 0 (Nat.le_of_ble_eq_true rfl) tw_5_192 (fun _ h9 => h9) fs_Y12 fs_ty12 fs_nm12 (Or.inl rfl) rfl rfl d_Rf_hear_78 ?_
          refine fs_lift (fun _ _ _ _ => lv_iconst (v := 0) hx hb d_Rf_hear_81 (by decide)) ?_
          exact fs_Jiret S hr hk rfl d_Rf_hear_82
      · refine fs_lift (fun _ _ _ _ => lv_aload_n hx hb d_Rf_hear_46 rfl (lv_at hl 0 rfl)) ?_
        refine fs_Jgr S hG fs_in12 rfl 46 (Nat.le_of_ble_eq_true rfl) tw_5_238 (fun _ h9 => h9) d_Rf_hear_47 (fun r41 => ?_)
        refine fs_lift (fun _ _ _ _ => lv_iload_n hx hb d_Rf_hear_50 rfl (lv_at hl 2 rfl)) ?_
        refine fs_lift (fun _ _ _ _ => lv_aload_n hx hb d_Rf_hear_51 rfl (lv_at hl 0 rfl)) ?_
        refine fs_Jgr S hG fs_in12 rfl 27 (Nat.le_of_ble_eq_true rfl) tw_5_219 (fun _ h9 => h9) d_Rf_hear_52 (fun r42 => ?_)
        refine fs_lift (fun _ _ _ _ => lv_bipush (v := 64) hx hb d_Rf_hear_55 (by decide)) ?_
        refine fs_lift (fun _ _ _ _ => lv_iload_n hx hb d_Rf_hear_57 rfl (lv_at hl 1 rfl)) ?_
        refine fs_lift (fun _ _ _ _ => lv_imul hx hb d_Rf_hear_58) ?_
        refine fs_lift (fun _ _ _ _ => lv_iload_n hx hb d_Rf_hear_59 rfl (lv_at hl 2 rfl)) ?_
        refine fs_lift (fun _ _ _ _ => lv_iadd hx hb d_Rf_hear_60) ?_
        refine fs_Jai S hG d_Rf_hear_61 (fun v43 => ?_)
        refine fs_Jsi S hG d_Rf_hear_62 ?_
        refine fs_Jnm (fun v44 hv9 => ?_)
        refine fs_liftL (fun _ _ _ _ => lv_iinc (k := 2) (v := v44) (lv' := [(2, .int v44), (0, .ref a0), (1, .int x1)]) hx hb d_Rf_hear_63 hl rfl (by rw [hv9]; rfl) (Nat.le_of_ble_eq_true rfl) rfl) (fun ls hl => ?_)
        refine fs_lift (fun _ _ _ _ => lv_goto hx hb d_Rf_hear_66 rfl) ?_
        exact hk38 v44 ls (lv_sub hl [1, 2, 0] rfl)
    · refine fs_lift (fun _ _ _ _ => lv_iconst (v := 0) hx hb d_Rf_hear_24 (by decide)) ?_
      exact fs_Jiret S hr hk rfl d_Rf_hear_25
  · refine fs_if (fun _ _ _ _ => lv_if_eq hx hb d_Rf_hear_6 rfl) ?_ ?_
    · refine fs_lift (fun _ _ _ _ => lv_iconst (v := 0) hx hb d_Rf_hear_13 (by decide)) ?_
      exact hj14 0 ls (lv_sub hl [0, 1] rfl)
    · refine fs_lift (fun _ _ _ _ => lv_iconst (v := 1) hx hb d_Rf_hear_9 (by decide)) ?_
      refine fs_lift (fun _ _ _ _ => lv_goto hx hb d_Rf_hear_10 rfl) ?_
      exact hj14 1 ls (lv_sub hl [0, 1] rfl)

