/-! contracts of methods, walked by program -/
theorem d_Lw_poke_0 : decode method_16_code 0 = .ok (.aload_n 0, 1) := by decide +kernel
theorem d_Lw_poke_1 : decode method_16_code 1 = .ok (.iload_n 1, 1) := by decide +kernel
theorem d_Lw_poke_2 : decode method_16_code 2 = .ok (.iload_n 2, 1) := by decide +kernel
theorem d_Lw_poke_3 : decode method_16_code 3 = .ok (.iload_n 3, 1) := by decide +kernel
theorem d_Lw_poke_4 : decode method_16_code 4 = .ok (.invokevirtual 60, 3) := by decide +kernel
theorem d_Lw_poke_7 : decode method_16_code 7 = .ok (.goto 11, 3) := by decide +kernel
theorem d_Lw_poke_10 : decode method_16_code 10 = .ok (.astore 4, 2) := by decide +kernel
theorem d_Lw_poke_12 : decode method_16_code 12 = .ok (.iconst 1, 1) := by decide +kernel
theorem d_Lw_poke_13 : decode method_16_code 13 = .ok (.ireturn, 1) := by decide +kernel
theorem d_Lw_poke_14 : decode method_16_code 14 = .ok (.astore 4, 2) := by decide +kernel
theorem d_Lw_poke_16 : decode method_16_code 16 = .ok (.iconst 2, 1) := by decide +kernel
theorem d_Lw_poke_17 : decode method_16_code 17 = .ok (.ireturn, 1) := by decide +kernel
theorem d_Lw_poke_18 : decode method_16_code 18 = .ok (.iconst 0, 1) := by decide +kernel
theorem d_Lw_poke_19 : decode method_16_code 19 = .ok (.ireturn, 1) := by decide +kernel
theorem q_Lw_poke : (⟨"FlowShelfLaw", "poke", "(LFlowShelf;III)I"⟩ : MethodName).cls ≠ "java/lang/invoke/MethodHandle" ∧ (⟨"FlowShelfLaw", "poke", "(LFlowShelf;III)I"⟩ : MethodName).cls ≠ "java/lang/invoke/VarHandle" ∧ (parseMethodDescriptor (⟨"FlowShelfLaw", "poke", "(LFlowShelf;III)I"⟩ : MethodName).desc).map (fun d => d.parameters.length) = some 4 := by decide +kernel
set_option maxHeartbeats 4000000 in
set_option maxRecDepth 100000 in
theorem m_Lw_poke (X : fs_X) (l : Launch) (hl0 : l.stackTraces = false) (a0 : Nat) (x1 : Int32) (x2 : Int32) (x3 : Int32) {r : Int32} {σ σF : fs_S} (h : (f_Lw_poke a0 x1 x2 x3).1 σ = some (r, σF)) : fs_Met X l ⟨"FlowShelfLaw", "poke", "(LFlowShelf;III)I"⟩ (Cond.codeWith ⟨"FlowShelfLaw", "poke", "(LFlowShelf;III)I"⟩ method_16_code 5 (some FieldType.int) [(0, 7, 10, 33), (0, 7, 14, 13)]) 9 150 [.ref a0, .int x1, .int x2, .int x3] σ (fs_eI r) σF := by
  refine fs_ofWH (by decide) ?_
  intro p e s m args below meth c s₁ B hml hT hv
  obtain ⟨rfl, hw0, hG⟩ := hv
  have hx := B.exec
  have hb := B.bytes
  have hpl : e.platform.magicAccessors = ({} : Platform).magicAccessors := by rw [B.admits.platform]
  have hr := B.returns
  have hk := B.notSynchronized
  have S : CallFix p m c method_16_code 5 s _ fs_ws "FlowShelfLaw" := ⟨B.exec, B.bytes, hml, findClass_of_methodNamed B.named, fun w hw => atoms_spec (ws := _ :: fs_ws) B.pre w (List.mem_cons_of_mem _ hw)⟩
  have hR := fs_hR (fr := 9) (lo := 150) ((f_Lw_poke a0 x1 x2 x3).2 _ _ _ h)
  have hl := lv_entry ([.ref a0, .int x1, .int x2, .int x3]) (n := 5) (Nat.le_of_ble_eq_true rfl)
  rw [lg_entry_eq]
  generalize (lg_sl ([.ref a0, .int x1, .int x2, .int x3]) ++ List.replicate (5 - (lg_sl ([.ref a0, .int x1, .int x2, .int x3])).length) Slot.unset).toArray = ls at hl ⊢
  have hl : lv_has ls 5 [(0, .ref a0), (1, .int x1), (2, .int x2), (3, .int x3)] := hl
  refine (?_ : fs_J X p l e (fs_rm 9 150 σ σF) s m _ below meth c (fs_Q X below _ s (fs_eI r) σ σF) r σ σF (f_Lw_poke a0 x1 x2 x3) (F0 m 0 ls [])) σ s.heap [] 0 0 h hw0 va_S.rf rfl rfl
  clear h hw0
  unfold f_Lw_poke
  refine fs_lift (fun _ _ _ _ => lv_aload_n hx hb d_Lw_poke_0 rfl (lv_at hl 0 rfl)) ?_
  refine fs_lift (fun _ _ _ _ => lv_iload_n hx hb d_Lw_poke_1 rfl (lv_at hl 1 rfl)) ?_
  refine fs_lift (fun _ _ _ _ => lv_iload_n hx hb d_Lw_poke_2 rfl (lv_at hl 2 rfl)) ?_
  refine fs_lift (fun _ _ _ _ => lv_iload_n hx hb d_Lw_poke_3 rfl (lv_at hl 3 rfl)) ?_
  refine fs_JVt S hG hR rfl [.int x1, .int x2, .int x3] (fun _ => none) (encx := fs_qV) (fun _ => rfl) (fun _ => rfl) (fun zr zs zt zh => m_Fs_poke X l hl0 a0 x1 x2 x3 zh) tw_4_81 tw_4_82 tw_4_83 tw_4_84 tw_1_1 q_Fs_poke ⟨(Nat.le_of_ble_eq_true rfl), (Nat.le_of_ble_eq_true rfl)⟩ hl.1 rfl (Nat.le_of_ble_eq_true rfl) d_Lw_poke_4 (fun _ => ?_) (fun e9 => ?_)
  · refine fs_Jeq (g2 := F0 m 7 ls []) rfl ?_
    refine fs_lift (fun _ _ _ _ => lv_goto hx hb d_Lw_poke_7 rfl) ?_
    refine fs_lift (fun _ _ _ _ => lv_iconst (v := 0) hx hb d_Lw_poke_18 (by decide)) ?_
    exact fs_Jiret S hr hk rfl d_Lw_poke_19
  · refine fs_Hif 10 (fun a9 ce9 c9 n9 => ?_) (fun q9 => ?_) ?_
    · rw [hT]; exact fs_F.take hpl S.2.2.2.1 rfl (by decide) (S.2.2.2.2 _ tw_3_103) c9 n9 (va_Nw.use rfl (hG.castable tb_3_114))
    · refine fs_liftL (fun _ _ _ _ => lv_astore (lv' := [(4, .ref q9), (0, .ref a0), (1, .int x1), (2, .int x2), (3, .int x3)]) hx hb d_Lw_poke_10 hl (Nat.le_of_ble_eq_true rfl) rfl) (fun ls hl => ?_)
      refine fs_lift (fun _ _ _ _ => lv_iconst (v := 1) hx hb d_Lw_poke_12 (by decide)) ?_
      exact fs_Jiret S hr hk rfl d_Lw_poke_13
    refine fs_Hif 14 (fun a9 ce9 c9 n9 => ?_) (fun q9 => ?_) ?_
    · rw [hT]; exact fs_F.pass hpl S.2.2.2.1 rfl (by decide) (S.2.2.2.2 _ tw_3_103) c9 n9 (fs_nc3 hG) (fs_F.take hpl S.2.2.2.1 rfl (by decide) (S.2.2.2.2 _ tw_2_54) c9 n9 (va_Nw.use rfl (hG.castable tb_2_69)))
    · refine fs_liftL (fun _ _ _ _ => lv_astore (lv' := [(4, .ref q9), (0, .ref a0), (1, .int x1), (2, .int x2), (3, .int x3)]) hx hb d_Lw_poke_14 hl (Nat.le_of_ble_eq_true rfl) rfl) (fun ls hl => ?_)
      refine fs_lift (fun _ _ _ _ => lv_iconst (v := 2) hx hb d_Lw_poke_16 (by decide)) ?_
      exact fs_Jiret S hr hk rfl d_Lw_poke_17
    exact fs_Hfail

theorem d_Lw_hear_0 : decode method_17_code 0 = .ok (.aload_n 2, 1) := by decide +kernel
theorem d_Lw_hear_1 : decode method_17_code 1 = .ok (.iconst 0, 1) := by decide +kernel
theorem d_Lw_hear_2 : decode method_17_code 2 = .ok (.aload_n 0, 1) := by decide +kernel
theorem d_Lw_hear_3 : decode method_17_code 3 = .ok (.iload_n 1, 1) := by decide +kernel
theorem d_Lw_hear_4 : decode method_17_code 4 = .ok (.invokevirtual 64, 3) := by decide +kernel
theorem d_Lw_hear_7 : decode method_17_code 7 = .ok (.i2l, 1) := by decide +kernel
theorem d_Lw_hear_8 : decode method_17_code 8 = .ok (.lastore, 1) := by decide +kernel
theorem d_Lw_hear_9 : decode method_17_code 9 = .ok (.goto 12, 3) := by decide +kernel
theorem d_Lw_hear_12 : decode method_17_code 12 = .ok (.astore_n 3, 1) := by decide +kernel
theorem d_Lw_hear_13 : decode method_17_code 13 = .ok (.iconst 1, 1) := by decide +kernel
theorem d_Lw_hear_14 : decode method_17_code 14 = .ok (.ireturn, 1) := by decide +kernel
theorem d_Lw_hear_15 : decode method_17_code 15 = .ok (.astore_n 3, 1) := by decide +kernel
theorem d_Lw_hear_16 : decode method_17_code 16 = .ok (.iconst 2, 1) := by decide +kernel
theorem d_Lw_hear_17 : decode method_17_code 17 = .ok (.ireturn, 1) := by decide +kernel
theorem d_Lw_hear_18 : decode method_17_code 18 = .ok (.astore_n 3, 1) := by decide +kernel
theorem d_Lw_hear_19 : decode method_17_code 19 = .ok (.iconst 3, 1) := by decide +kernel
theorem d_Lw_hear_20 : decode method_17_code 20 = .ok (.ireturn, 1) := by decide +kernel
theorem d_Lw_hear_21 : decode method_17_code 21 = .ok (.iconst 0, 1) := by decide +kernel
theorem d_Lw_hear_22 : decode method_17_code 22 = .ok (.ireturn, 1) := by decide +kernel
theorem q_Lw_hear : (⟨"FlowShelfLaw", "hear", "(LFlowShelf;I[J)I"⟩ : MethodName).cls ≠ "java/lang/invoke/MethodHandle" ∧ (⟨"FlowShelfLaw", "hear", "(LFlowShelf;I[J)I"⟩ : MethodName).cls ≠ "java/lang/invoke/VarHandle" ∧ (parseMethodDescriptor (⟨"FlowShelfLaw", "hear", "(LFlowShelf;I[J)I"⟩ : MethodName).desc).map (fun d => d.parameters.length) = some 3 := by decide +kernel
set_option maxHeartbeats 4000000 in
set_option maxRecDepth 100000 in
theorem m_Lw_hear (X : fs_X) (l : Launch) (hl0 : l.stackTraces = false) (a0 : Nat) (x1 : Int32) (a2 : Nat) {r : Int32} {σ σF : fs_S} (h : (f_Lw_hear a0 x1 a2).1 σ = some (r, σF)) : fs_Met X l ⟨"FlowShelfLaw", "hear", "(LFlowShelf;I[J)I"⟩ (Cond.codeWith ⟨"FlowShelfLaw", "hear", "(LFlowShelf;I[J)I"⟩ method_17_code 4 (some FieldType.int) [(0, 9, 12, 33), (0, 9, 15, 13), (0, 9, 18, 67)]) 13 328 [.ref a0, .int x1, .ref a2] σ (fs_eI r) σF := by
  refine fs_ofWH (by decide) ?_
  intro p e s m args below meth c s₁ B hml hT hv
  obtain ⟨rfl, hw0, hG⟩ := hv
  have hx := B.exec
  have hb := B.bytes
  have hpl : e.platform.magicAccessors = ({} : Platform).magicAccessors := by rw [B.admits.platform]
  have hr := B.returns
  have hk := B.notSynchronized
  have S : CallFix p m c method_17_code 4 s _ fs_ws "FlowShelfLaw" := ⟨B.exec, B.bytes, hml, findClass_of_methodNamed B.named, fun w hw => atoms_spec (ws := _ :: fs_ws) B.pre w (List.mem_cons_of_mem _ hw)⟩
  have hR := fs_hR (fr := 13) (lo := 328) ((f_Lw_hear a0 x1 a2).2 _ _ _ h)
  have hl := lv_entry ([.ref a0, .int x1, .ref a2]) (n := 4) (Nat.le_of_ble_eq_true rfl)
  rw [lg_entry_eq]
  generalize (lg_sl ([.ref a0, .int x1, .ref a2]) ++ List.replicate (4 - (lg_sl ([.ref a0, .int x1, .ref a2])).length) Slot.unset).toArray = ls at hl ⊢
  have hl : lv_has ls 4 [(0, .ref a0), (1, .int x1), (2, .ref a2)] := hl
  refine (?_ : fs_J X p l e (fs_rm 13 328 σ σF) s m _ below meth c (fs_Q X below _ s (fs_eI r) σ σF) r σ σF (f_Lw_hear a0 x1 a2) (F0 m 0 ls [])) σ s.heap [] 0 0 h hw0 va_S.rf rfl rfl
  clear h hw0
  unfold f_Lw_hear
  refine fs_lift (fun _ _ _ _ => lv_aload_n hx hb d_Lw_hear_0 rfl (lv_at hl 2 rfl)) ?_
  refine fs_lift (fun _ _ _ _ => lv_iconst (v := 0) hx hb d_Lw_hear_1 (by decide)) ?_
  refine fs_lift (fun _ _ _ _ => lv_aload_n hx hb d_Lw_hear_2 rfl (lv_at hl 0 rfl)) ?_
  refine fs_lift (fun _ _ _ _ => lv_iload_n hx hb d_Lw_hear_3 rfl (lv_at hl 1 rfl)) ?_
  refine fs_JVt S hG hR rfl [.int x1] (fun r => some (.int r)) (encx := fs_qI) (fun _ => rfl) (fun _ => rfl) (fun zr zs zt zh => m_Fs_hear X l hl0 a0 x1 zh) tw_4_90 tw_4_91 tw_4_92 tw_4_93 tw_1_1 q_Fs_hear ⟨(Nat.le_of_ble_eq_true rfl), (Nat.le_of_ble_eq_true rfl)⟩ hl.1 rfl (Nat.le_of_ble_eq_true rfl) d_Lw_hear_4 (fun v1 => ?_) (fun e9 => ?_)
  · refine fs_Jeq (g2 := F0 m 7 ls [.int v1, .int 0, .ref a2]) rfl ?_
    refine fs_lift (fun _ _ _ _ => lv_i2l hx hb d_Lw_hear_7 rfl) ?_
    refine fs_Jsj S hG d_Lw_hear_8 ?_
    refine fs_lift (fun _ _ _ _ => lv_goto hx hb d_Lw_hear_9 rfl) ?_
    refine fs_lift (fun _ _ _ _ => lv_iconst (v := 0) hx hb d_Lw_hear_21 (by decide)) ?_
    exact fs_Jiret S hr hk rfl d_Lw_hear_22
  · refine fs_Hif 12 (fun a9 ce9 c9 n9 => ?_) (fun q9 => ?_) ?_
    · rw [hT]; exact fs_F.take hpl S.2.2.2.1 rfl (by decide) (S.2.2.2.2 _ tw_3_103) c9 n9 (va_Nw.use rfl (hG.castable tb_3_114))
    · refine fs_liftL (fun _ _ _ _ => lv_astore_n (lv' := [(3, .ref q9), (0, .ref a0), (1, .int x1), (2, .ref a2)]) hx hb d_Lw_hear_12 rfl hl (Nat.le_of_ble_eq_true rfl) rfl) (fun ls hl => ?_)
      refine fs_lift (fun _ _ _ _ => lv_iconst (v := 1) hx hb d_Lw_hear_13 (by decide)) ?_
      exact fs_Jiret S hr hk rfl d_Lw_hear_14
    refine fs_Hif 15 (fun a9 ce9 c9 n9 => ?_) (fun q9 => ?_) ?_
    · rw [hT]; exact fs_F.pass hpl S.2.2.2.1 rfl (by decide) (S.2.2.2.2 _ tw_3_103) c9 n9 (fs_nc3 hG) (fs_F.take hpl S.2.2.2.1 rfl (by decide) (S.2.2.2.2 _ tw_2_54) c9 n9 (va_Nw.use rfl (hG.castable tb_2_69)))
    · refine fs_liftL (fun _ _ _ _ => lv_astore_n (lv' := [(3, .ref q9), (0, .ref a0), (1, .int x1), (2, .ref a2)]) hx hb d_Lw_hear_15 rfl hl (Nat.le_of_ble_eq_true rfl) rfl) (fun ls hl => ?_)
      refine fs_lift (fun _ _ _ _ => lv_iconst (v := 2) hx hb d_Lw_hear_16 (by decide)) ?_
      exact fs_Jiret S hr hk rfl d_Lw_hear_17
    refine fs_Hif 18 (fun a9 ce9 c9 n9 => ?_) (fun q9 => ?_) ?_
    · rw [hT]; exact fs_F.pass hpl S.2.2.2.1 rfl (by decide) (S.2.2.2.2 _ tw_3_103) c9 n9 (fs_nc4 hG) (fs_F.pass hpl S.2.2.2.1 rfl (by decide) (S.2.2.2.2 _ tw_2_54) c9 n9 (fs_nc5 hG) (fs_F.take hpl S.2.2.2.1 rfl (by decide) (S.2.2.2.2 _ tw_4_89) c9 n9 (va_Nw.use rfl (hG.castable tb_4_166))))
    · refine fs_liftL (fun _ _ _ _ => lv_astore_n (lv' := [(3, .ref q9), (0, .ref a0), (1, .int x1), (2, .ref a2)]) hx hb d_Lw_hear_18 rfl hl (Nat.le_of_ble_eq_true rfl) rfl) (fun ls hl => ?_)
      refine fs_lift (fun _ _ _ _ => lv_iconst (v := 3) hx hb d_Lw_hear_19 (by decide)) ?_
      exact fs_Jiret S hr hk rfl d_Lw_hear_20
    exact fs_Hfail

theorem d_Lw_row_0 : decode method_18_code 0 = .ok (.aload_n 3, 1) := by decide +kernel
theorem d_Lw_row_1 : decode method_18_code 1 = .ok (.iconst 0, 1) := by decide +kernel
theorem d_Lw_row_2 : decode method_18_code 2 = .ok (.aload_n 0, 1) := by decide +kernel
theorem d_Lw_row_3 : decode method_18_code 3 = .ok (.iload_n 1, 1) := by decide +kernel
theorem d_Lw_row_4 : decode method_18_code 4 = .ok (.iload_n 2, 1) := by decide +kernel
theorem d_Lw_row_5 : decode method_18_code 5 = .ok (.invokevirtual 69, 3) := by decide +kernel
theorem d_Lw_row_8 : decode method_18_code 8 = .ok (.lastore, 1) := by decide +kernel
theorem d_Lw_row_9 : decode method_18_code 9 = .ok (.goto 11, 3) := by decide +kernel
theorem d_Lw_row_12 : decode method_18_code 12 = .ok (.astore 4, 2) := by decide +kernel
theorem d_Lw_row_14 : decode method_18_code 14 = .ok (.iconst 1, 1) := by decide +kernel
theorem d_Lw_row_15 : decode method_18_code 15 = .ok (.ireturn, 1) := by decide +kernel
theorem d_Lw_row_16 : decode method_18_code 16 = .ok (.astore 4, 2) := by decide +kernel
theorem d_Lw_row_18 : decode method_18_code 18 = .ok (.iconst 2, 1) := by decide +kernel
theorem d_Lw_row_19 : decode method_18_code 19 = .ok (.ireturn, 1) := by decide +kernel
theorem d_Lw_row_20 : decode method_18_code 20 = .ok (.iconst 0, 1) := by decide +kernel
theorem d_Lw_row_21 : decode method_18_code 21 = .ok (.ireturn, 1) := by decide +kernel
theorem q_Lw_row : (⟨"FlowShelfLaw", "row", "(LFlowShelf;II[J)I"⟩ : MethodName).cls ≠ "java/lang/invoke/MethodHandle" ∧ (⟨"FlowShelfLaw", "row", "(LFlowShelf;II[J)I"⟩ : MethodName).cls ≠ "java/lang/invoke/VarHandle" ∧ (parseMethodDescriptor (⟨"FlowShelfLaw", "row", "(LFlowShelf;II[J)I"⟩ : MethodName).desc).map (fun d => d.parameters.length) = some 4 := by decide +kernel
set_option maxHeartbeats 4000000 in
set_option maxRecDepth 100000 in
theorem m_Lw_row (X : fs_X) (l : Launch) (hl0 : l.stackTraces = false) (a0 : Nat) (x1 : Int32) (x2 : Int32) (a3 : Nat) {r : Int32} {σ σF : fs_S} (h : (f_Lw_row a0 x1 x2 a3).1 σ = some (r, σF)) : fs_Met X l ⟨"FlowShelfLaw", "row", "(LFlowShelf;II[J)I"⟩ (Cond.codeWith ⟨"FlowShelfLaw", "row", "(LFlowShelf;II[J)I"⟩ method_18_code 5 (some FieldType.int) [(0, 9, 12, 33), (0, 9, 16, 13)]) 8 126 [.ref a0, .int x1, .int x2, .ref a3] σ (fs_eI r) σF := by
  refine fs_ofWH (by decide) ?_
  intro p e s m args below meth c s₁ B hml hT hv
  obtain ⟨rfl, hw0, hG⟩ := hv
  have hx := B.exec
  have hb := B.bytes
  have hpl : e.platform.magicAccessors = ({} : Platform).magicAccessors := by rw [B.admits.platform]
  have hr := B.returns
  have hk := B.notSynchronized
  have S : CallFix p m c method_18_code 5 s _ fs_ws "FlowShelfLaw" := ⟨B.exec, B.bytes, hml, findClass_of_methodNamed B.named, fun w hw => atoms_spec (ws := _ :: fs_ws) B.pre w (List.mem_cons_of_mem _ hw)⟩
  have hR := fs_hR (fr := 8) (lo := 126) ((f_Lw_row a0 x1 x2 a3).2 _ _ _ h)
  have hl := lv_entry ([.ref a0, .int x1, .int x2, .ref a3]) (n := 5) (Nat.le_of_ble_eq_true rfl)
  rw [lg_entry_eq]
  generalize (lg_sl ([.ref a0, .int x1, .int x2, .ref a3]) ++ List.replicate (5 - (lg_sl ([.ref a0, .int x1, .int x2, .ref a3])).length) Slot.unset).toArray = ls at hl ⊢
  have hl : lv_has ls 5 [(0, .ref a0), (1, .int x1), (2, .int x2), (3, .ref a3)] := hl
  refine (?_ : fs_J X p l e (fs_rm 8 126 σ σF) s m _ below meth c (fs_Q X below _ s (fs_eI r) σ σF) r σ σF (f_Lw_row a0 x1 x2 a3) (F0 m 0 ls [])) σ s.heap [] 0 0 h hw0 va_S.rf rfl rfl
  clear h hw0
  unfold f_Lw_row
  refine fs_lift (fun _ _ _ _ => lv_aload_n hx hb d_Lw_row_0 rfl (lv_at hl 3 rfl)) ?_
  refine fs_lift (fun _ _ _ _ => lv_iconst (v := 0) hx hb d_Lw_row_1 (by decide)) ?_
  refine fs_lift (fun _ _ _ _ => lv_aload_n hx hb d_Lw_row_2 rfl (lv_at hl 0 rfl)) ?_
  refine fs_lift (fun _ _ _ _ => lv_iload_n hx hb d_Lw_row_3 rfl (lv_at hl 1 rfl)) ?_
  refine fs_lift (fun _ _ _ _ => lv_iload_n hx hb d_Lw_row_4 rfl (lv_at hl 2 rfl)) ?_
  refine fs_JVt S hG hR rfl [.int x1, .int x2] (fun r => some (.long r)) (encx := fs_qJ) (fun _ => rfl) (fun _ => rfl) (fun zr zs zt zh => m_Fs_row X l hl0 a0 x1 x2 zh) tw_5_92 tw_5_93 tw_5_94 tw_5_95 tw_1_1 q_Fs_row ⟨(Nat.le_of_ble_eq_true rfl), (Nat.le_of_ble_eq_true rfl)⟩ hl.1 rfl (Nat.le_of_ble_eq_true rfl) d_Lw_row_5 (fun v1 => ?_) (fun e9 => ?_)
  · refine fs_Jeq (g2 := F0 m 8 ls [.long v1, .int 0, .ref a3]) rfl ?_
    refine fs_Jsj S hG d_Lw_row_8 ?_
    refine fs_lift (fun _ _ _ _ => lv_goto hx hb d_Lw_row_9 rfl) ?_
    refine fs_lift (fun _ _ _ _ => lv_iconst (v := 0) hx hb d_Lw_row_20 (by decide)) ?_
    exact fs_Jiret S hr hk rfl d_Lw_row_21
  · refine fs_Hif 12 (fun a9 ce9 c9 n9 => ?_) (fun q9 => ?_) ?_
    · rw [hT]; exact fs_F.take hpl S.2.2.2.1 rfl (by decide) (S.2.2.2.2 _ tw_3_103) c9 n9 (va_Nw.use rfl (hG.castable tb_3_114))
    · refine fs_liftL (fun _ _ _ _ => lv_astore (lv' := [(4, .ref q9), (0, .ref a0), (1, .int x1), (2, .int x2), (3, .ref a3)]) hx hb d_Lw_row_12 hl (Nat.le_of_ble_eq_true rfl) rfl) (fun ls hl => ?_)
      refine fs_lift (fun _ _ _ _ => lv_iconst (v := 1) hx hb d_Lw_row_14 (by decide)) ?_
      exact fs_Jiret S hr hk rfl d_Lw_row_15
    refine fs_Hif 16 (fun a9 ce9 c9 n9 => ?_) (fun q9 => ?_) ?_
    · rw [hT]; exact fs_F.pass hpl S.2.2.2.1 rfl (by decide) (S.2.2.2.2 _ tw_3_103) c9 n9 (fs_nc3 hG) (fs_F.take hpl S.2.2.2.1 rfl (by decide) (S.2.2.2.2 _ tw_2_54) c9 n9 (va_Nw.use rfl (hG.castable tb_2_69)))
    · refine fs_liftL (fun _ _ _ _ => lv_astore (lv' := [(4, .ref q9), (0, .ref a0), (1, .int x1), (2, .int x2), (3, .ref a3)]) hx hb d_Lw_row_16 hl (Nat.le_of_ble_eq_true rfl) rfl) (fun ls hl => ?_)
      refine fs_lift (fun _ _ _ _ => lv_iconst (v := 2) hx hb d_Lw_row_18 (by decide)) ?_
      exact fs_Jiret S hr hk rfl d_Lw_row_19
    exact fs_Hfail

theorem d_Lw_total_0 : decode method_19_code 0 = .ok (.aload 6, 2) := by decide +kernel
theorem d_Lw_total_2 : decode method_19_code 2 = .ok (.iconst 0, 1) := by decide +kernel
theorem d_Lw_total_3 : decode method_19_code 3 = .ok (.aload_n 0, 1) := by decide +kernel
theorem d_Lw_total_4 : decode method_19_code 4 = .ok (.iload_n 1, 1) := by decide +kernel
theorem d_Lw_total_5 : decode method_19_code 5 = .ok (.iload_n 2, 1) := by decide +kernel
theorem d_Lw_total_6 : decode method_19_code 6 = .ok (.lload_n 3, 1) := by decide +kernel
theorem d_Lw_total_7 : decode method_19_code 7 = .ok (.iload 5, 2) := by decide +kernel
theorem d_Lw_total_9 : decode method_19_code 9 = .ok (.invokevirtual 73, 3) := by decide +kernel
theorem d_Lw_total_12 : decode method_19_code 12 = .ok (.lastore, 1) := by decide +kernel
theorem d_Lw_total_13 : decode method_19_code 13 = .ok (.goto 7, 3) := by decide +kernel
theorem d_Lw_total_16 : decode method_19_code 16 = .ok (.astore 7, 2) := by decide +kernel
theorem d_Lw_total_18 : decode method_19_code 18 = .ok (.iconst 1, 1) := by decide +kernel
theorem d_Lw_total_19 : decode method_19_code 19 = .ok (.ireturn, 1) := by decide +kernel
theorem d_Lw_total_20 : decode method_19_code 20 = .ok (.iconst 0, 1) := by decide +kernel
theorem d_Lw_total_21 : decode method_19_code 21 = .ok (.ireturn, 1) := by decide +kernel
theorem q_Lw_total : (⟨"FlowShelfLaw", "total", "(LFlowShelf;IIJI[J)I"⟩ : MethodName).cls ≠ "java/lang/invoke/MethodHandle" ∧ (⟨"FlowShelfLaw", "total", "(LFlowShelf;IIJI[J)I"⟩ : MethodName).cls ≠ "java/lang/invoke/VarHandle" ∧ (parseMethodDescriptor (⟨"FlowShelfLaw", "total", "(LFlowShelf;IIJI[J)I"⟩ : MethodName).desc).map (fun d => d.parameters.length) = some 6 := by decide +kernel
set_option maxHeartbeats 4000000 in
set_option maxRecDepth 100000 in
theorem m_Lw_total (X : fs_X) (l : Launch) (hl0 : l.stackTraces = false) (a0 : Nat) (x1 : Int32) (x2 : Int32) (x3 : Int64) (x4 : Int32) (a5 : Nat) {r : Int32} {σ σF : fs_S} (h : (f_Lw_total a0 x1 x2 x3 x4 a5).1 σ = some (r, σF)) : fs_Met X l ⟨"FlowShelfLaw", "total", "(LFlowShelf;IIJI[J)I"⟩ (Cond.codeWith ⟨"FlowShelfLaw", "total", "(LFlowShelf;IIJI[J)I"⟩ method_19_code 8 (some FieldType.int) [(0, 13, 16, 13)]) 8 127 [.ref a0, .int x1, .int x2, .long x3, .int x4, .ref a5] σ (fs_eI r) σF := by
  refine fs_ofWH (by decide) ?_
  intro p e s m args below meth c s₁ B hml hT hv
  obtain ⟨rfl, hw0, hG⟩ := hv
  have hx := B.exec
  have hb := B.bytes
  have hpl : e.platform.magicAccessors = ({} : Platform).magicAccessors := by rw [B.admits.platform]
  have hr := B.returns
  have hk := B.notSynchronized
  have S : CallFix p m c method_19_code 8 s _ fs_ws "FlowShelfLaw" := ⟨B.exec, B.bytes, hml, findClass_of_methodNamed B.named, fun w hw => atoms_spec (ws := _ :: fs_ws) B.pre w (List.mem_cons_of_mem _ hw)⟩
  have hR := fs_hR (fr := 8) (lo := 127) ((f_Lw_total a0 x1 x2 x3 x4 a5).2 _ _ _ h)
  have hl := lv_entry ([.ref a0, .int x1, .int x2, .long x3, .int x4, .ref a5]) (n := 8) (Nat.le_of_ble_eq_true rfl)
  rw [lg_entry_eq]
  generalize (lg_sl ([.ref a0, .int x1, .int x2, .long x3, .int x4, .ref a5]) ++ List.replicate (8 - (lg_sl ([.ref a0, .int x1, .int x2, .long x3, .int x4, .ref a5])).length) Slot.unset).toArray = ls at hl ⊢
  have hl : lv_has ls 8 [(0, .ref a0), (1, .int x1), (2, .int x2), (3, .long x3), (5, .int x4), (6, .ref a5)] := hl
  refine (?_ : fs_J X p l e (fs_rm 8 127 σ σF) s m _ below meth c (fs_Q X below _ s (fs_eI r) σ σF) r σ σF (f_Lw_total a0 x1 x2 x3 x4 a5) (F0 m 0 ls [])) σ s.heap [] 0 0 h hw0 va_S.rf rfl rfl
  clear h hw0
  unfold f_Lw_total
  refine fs_lift (fun _ _ _ _ => lv_aload hx hb d_Lw_total_0 (lv_at hl 5 rfl)) ?_
  refine fs_lift (fun _ _ _ _ => lv_iconst (v := 0) hx hb d_Lw_total_2 (by decide)) ?_
  refine fs_lift (fun _ _ _ _ => lv_aload_n hx hb d_Lw_total_3 rfl (lv_at hl 0 rfl)) ?_
  refine fs_lift (fun _ _ _ _ => lv_iload_n hx hb d_Lw_total_4 rfl (lv_at hl 1 rfl)) ?_
  refine fs_lift (fun _ _ _ _ => lv_iload_n hx hb d_Lw_total_5 rfl (lv_at hl 2 rfl)) ?_
  refine fs_lift (fun _ _ _ _ => lv_lload_n hx hb d_Lw_total_6 rfl (lv_at hl 3 rfl)) ?_
  refine fs_lift (fun _ _ _ _ => lv_iload hx hb d_Lw_total_7 (lv_at hl 4 rfl)) ?_
  refine fs_JVt S hG hR rfl [.int x1, .int x2, .long x3, .int x4] (fun r => some (.long r)) (encx := fs_qJ) (fun _ => rfl) (fun _ => rfl) (fun zr zs zt zh => m_Fs_total X l hl0 a0 x1 x2 x3 x4 zh) tw_5_106 tw_5_107 tw_5_108 tw_5_109 tw_1_1 q_Fs_total ⟨(Nat.le_of_ble_eq_true rfl), (Nat.le_of_ble_eq_true rfl)⟩ hl.1 rfl (Nat.le_of_ble_eq_true rfl) d_Lw_total_9 (fun v1 => ?_) (fun e9 => ?_)
  · refine fs_Jeq (g2 := F0 m 12 ls [.long v1, .int 0, .ref a5]) rfl ?_
    refine fs_Jsj S hG d_Lw_total_12 ?_
    refine fs_lift (fun _ _ _ _ => lv_goto hx hb d_Lw_total_13 rfl) ?_
    refine fs_lift (fun _ _ _ _ => lv_iconst (v := 0) hx hb d_Lw_total_20 (by decide)) ?_
    exact fs_Jiret S hr hk rfl d_Lw_total_21
  · refine fs_Hif 16 (fun a9 ce9 c9 n9 => ?_) (fun q9 => ?_) ?_
    · rw [hT]; exact fs_F.take hpl S.2.2.2.1 rfl (by decide) (S.2.2.2.2 _ tw_2_54) c9 n9 (va_Nw.use rfl (hG.castable tb_2_69))
    · refine fs_liftL (fun _ _ _ _ => lv_astore (lv' := [(7, .ref q9), (0, .ref a0), (1, .int x1), (2, .int x2), (3, .long x3), (5, .int x4), (6, .ref a5)]) hx hb d_Lw_total_16 hl (Nat.le_of_ble_eq_true rfl) rfl) (fun ls hl => ?_)
      refine fs_lift (fun _ _ _ _ => lv_iconst (v := 1) hx hb d_Lw_total_18 (by decide)) ?_
      exact fs_Jiret S hr hk rfl d_Lw_total_19
    exact fs_Hfail

theorem d_Lw_other_0 : decode method_20_code 0 = .ok (.aload_n 2, 1) := by decide +kernel
theorem d_Lw_other_1 : decode method_20_code 1 = .ok (.iconst 0, 1) := by decide +kernel
theorem d_Lw_other_2 : decode method_20_code 2 = .ok (.aload_n 0, 1) := by decide +kernel
theorem d_Lw_other_3 : decode method_20_code 3 = .ok (.iload_n 1, 1) := by decide +kernel
theorem d_Lw_other_4 : decode method_20_code 4 = .ok (.invokevirtual 77, 3) := by decide +kernel
theorem d_Lw_other_7 : decode method_20_code 7 = .ok (.i2l, 1) := by decide +kernel
theorem d_Lw_other_8 : decode method_20_code 8 = .ok (.lastore, 1) := by decide +kernel
theorem d_Lw_other_9 : decode method_20_code 9 = .ok (.goto 6, 3) := by decide +kernel
theorem d_Lw_other_12 : decode method_20_code 12 = .ok (.astore_n 3, 1) := by decide +kernel
theorem d_Lw_other_13 : decode method_20_code 13 = .ok (.iconst 1, 1) := by decide +kernel
theorem d_Lw_other_14 : decode method_20_code 14 = .ok (.ireturn, 1) := by decide +kernel
theorem d_Lw_other_15 : decode method_20_code 15 = .ok (.iconst 0, 1) := by decide +kernel
theorem d_Lw_other_16 : decode method_20_code 16 = .ok (.ireturn, 1) := by decide +kernel
theorem q_Lw_other : (⟨"FlowShelfLaw", "other", "(LFlowShelf;I[J)I"⟩ : MethodName).cls ≠ "java/lang/invoke/MethodHandle" ∧ (⟨"FlowShelfLaw", "other", "(LFlowShelf;I[J)I"⟩ : MethodName).cls ≠ "java/lang/invoke/VarHandle" ∧ (parseMethodDescriptor (⟨"FlowShelfLaw", "other", "(LFlowShelf;I[J)I"⟩ : MethodName).desc).map (fun d => d.parameters.length) = some 3 := by decide +kernel
set_option maxHeartbeats 4000000 in
set_option maxRecDepth 100000 in
theorem m_Lw_other (X : fs_X) (l : Launch) (hl0 : l.stackTraces = false) (a0 : Nat) (x1 : Int32) (a2 : Nat) {r : Int32} {σ σF : fs_S} (h : (f_Lw_other a0 x1 a2).1 σ = some (r, σF)) : fs_Met X l ⟨"FlowShelfLaw", "other", "(LFlowShelf;I[J)I"⟩ (Cond.codeWith ⟨"FlowShelfLaw", "other", "(LFlowShelf;I[J)I"⟩ method_20_code 4 (some FieldType.int) [(0, 9, 12, 33)]) 8 172 [.ref a0, .int x1, .ref a2] σ (fs_eI r) σF := by
  refine fs_ofWH (by decide) ?_
  intro p e s m args below meth c s₁ B hml hT hv
  obtain ⟨rfl, hw0, hG⟩ := hv
  have hx := B.exec
  have hb := B.bytes
  have hpl : e.platform.magicAccessors = ({} : Platform).magicAccessors := by rw [B.admits.platform]
  have hr := B.returns
  have hk := B.notSynchronized
  have S : CallFix p m c method_20_code 4 s _ fs_ws "FlowShelfLaw" := ⟨B.exec, B.bytes, hml, findClass_of_methodNamed B.named, fun w hw => atoms_spec (ws := _ :: fs_ws) B.pre w (List.mem_cons_of_mem _ hw)⟩
  have hR := fs_hR (fr := 8) (lo := 172) ((f_Lw_other a0 x1 a2).2 _ _ _ h)
  have hl := lv_entry ([.ref a0, .int x1, .ref a2]) (n := 4) (Nat.le_of_ble_eq_true rfl)
  rw [lg_entry_eq]
  generalize (lg_sl ([.ref a0, .int x1, .ref a2]) ++ List.replicate (4 - (lg_sl ([.ref a0, .int x1, .ref a2])).length) Slot.unset).toArray = ls at hl ⊢
  have hl : lv_has ls 4 [(0, .ref a0), (1, .int x1), (2, .ref a2)] := hl
  refine (?_ : fs_J X p l e (fs_rm 8 172 σ σF) s m _ below meth c (fs_Q X below _ s (fs_eI r) σ σF) r σ σF (f_Lw_other a0 x1 a2) (F0 m 0 ls [])) σ s.heap [] 0 0 h hw0 va_S.rf rfl rfl
  clear h hw0
  unfold f_Lw_other
  refine fs_lift (fun _ _ _ _ => lv_aload_n hx hb d_Lw_other_0 rfl (lv_at hl 2 rfl)) ?_
  refine fs_lift (fun _ _ _ _ => lv_iconst (v := 0) hx hb d_Lw_other_1 (by decide)) ?_
  refine fs_lift (fun _ _ _ _ => lv_aload_n hx hb d_Lw_other_2 rfl (lv_at hl 0 rfl)) ?_
  refine fs_lift (fun _ _ _ _ => lv_iload_n hx hb d_Lw_other_3 rfl (lv_at hl 1 rfl)) ?_
  refine fs_JVt S hG hR rfl [.int x1] (fun r => some (.int r)) (encx := fs_qI) (fun _ => rfl) (fun _ => rfl) (fun zr zs zt zh => m_Fs_other X l hl0 a0 x1 zh) tw_5_123 tw_5_124 tw_5_125 tw_5_126 tw_1_1 q_Fs_other ⟨(Nat.le_of_ble_eq_true rfl), (Nat.le_of_ble_eq_true rfl)⟩ hl.1 rfl (Nat.le_of_ble_eq_true rfl) d_Lw_other_4 (fun v1 => ?_) (fun e9 => ?_)
  · refine fs_Jeq (g2 := F0 m 7 ls [.int v1, .int 0, .ref a2]) rfl ?_
    refine fs_lift (fun _ _ _ _ => lv_i2l hx hb d_Lw_other_7 rfl) ?_
    refine fs_Jsj S hG d_Lw_other_8 ?_
    refine fs_lift (fun _ _ _ _ => lv_goto hx hb d_Lw_other_9 rfl) ?_
    refine fs_lift (fun _ _ _ _ => lv_iconst (v := 0) hx hb d_Lw_other_15 (by decide)) ?_
    exact fs_Jiret S hr hk rfl d_Lw_other_16
  · refine fs_Hif 12 (fun a9 ce9 c9 n9 => ?_) (fun q9 => ?_) ?_
    · rw [hT]; exact fs_F.take hpl S.2.2.2.1 rfl (by decide) (S.2.2.2.2 _ tw_3_103) c9 n9 (va_Nw.use rfl (hG.castable tb_3_114))
    · refine fs_liftL (fun _ _ _ _ => lv_astore_n (lv' := [(3, .ref q9), (0, .ref a0), (1, .int x1), (2, .ref a2)]) hx hb d_Lw_other_12 rfl hl (Nat.le_of_ble_eq_true rfl) rfl) (fun ls hl => ?_)
      refine fs_lift (fun _ _ _ _ => lv_iconst (v := 1) hx hb d_Lw_other_13 (by decide)) ?_
      exact fs_Jiret S hr hk rfl d_Lw_other_14
    exact fs_Hfail

theorem d_Lw_count_0 : decode method_21_code 0 = .ok (.aload_n 3, 1) := by decide +kernel
theorem d_Lw_count_1 : decode method_21_code 1 = .ok (.iconst 0, 1) := by decide +kernel
theorem d_Lw_count_2 : decode method_21_code 2 = .ok (.aload_n 0, 1) := by decide +kernel
theorem d_Lw_count_3 : decode method_21_code 3 = .ok (.iload_n 1, 1) := by decide +kernel
theorem d_Lw_count_4 : decode method_21_code 4 = .ok (.iload_n 2, 1) := by decide +kernel
theorem d_Lw_count_5 : decode method_21_code 5 = .ok (.invokevirtual 80, 3) := by decide +kernel
theorem d_Lw_count_8 : decode method_21_code 8 = .ok (.i2l, 1) := by decide +kernel
theorem d_Lw_count_9 : decode method_21_code 9 = .ok (.lastore, 1) := by decide +kernel
theorem d_Lw_count_10 : decode method_21_code 10 = .ok (.goto 7, 3) := by decide +kernel
theorem d_Lw_count_13 : decode method_21_code 13 = .ok (.astore 4, 2) := by decide +kernel
theorem d_Lw_count_15 : decode method_21_code 15 = .ok (.iconst 1, 1) := by decide +kernel
theorem d_Lw_count_16 : decode method_21_code 16 = .ok (.ireturn, 1) := by decide +kernel
theorem d_Lw_count_17 : decode method_21_code 17 = .ok (.iconst 0, 1) := by decide +kernel
theorem d_Lw_count_18 : decode method_21_code 18 = .ok (.ireturn, 1) := by decide +kernel
theorem q_Lw_count : (⟨"FlowShelfLaw", "count", "(LFlowShelf;II[J)I"⟩ : MethodName).cls ≠ "java/lang/invoke/MethodHandle" ∧ (⟨"FlowShelfLaw", "count", "(LFlowShelf;II[J)I"⟩ : MethodName).cls ≠ "java/lang/invoke/VarHandle" ∧ (parseMethodDescriptor (⟨"FlowShelfLaw", "count", "(LFlowShelf;II[J)I"⟩ : MethodName).desc).map (fun d => d.parameters.length) = some 4 := by decide +kernel
set_option maxHeartbeats 4000000 in
set_option maxRecDepth 100000 in
theorem m_Lw_count (X : fs_X) (l : Launch) (hl0 : l.stackTraces = false) (a0 : Nat) (x1 : Int32) (x2 : Int32) (a3 : Nat) {r : Int32} {σ σF : fs_S} (h : (f_Lw_count a0 x1 x2 a3).1 σ = some (r, σF)) : fs_Met X l ⟨"FlowShelfLaw", "count", "(LFlowShelf;II[J)I"⟩ (Cond.codeWith ⟨"FlowShelfLaw", "count", "(LFlowShelf;II[J)I"⟩ method_21_code 5 (some FieldType.int) [(0, 10, 13, 13)]) 8 127 [.ref a0, .int x1, .int x2, .ref a3] σ (fs_eI r) σF := by
  refine fs_ofWH (by decide) ?_
  intro p e s m args below meth c s₁ B hml hT hv
  obtain ⟨rfl, hw0, hG⟩ := hv
  have hx := B.exec
  have hb := B.bytes
  have hpl : e.platform.magicAccessors = ({} : Platform).magicAccessors := by rw [B.admits.platform]
  have hr := B.returns
  have hk := B.notSynchronized
  have S : CallFix p m c method_21_code 5 s _ fs_ws "FlowShelfLaw" := ⟨B.exec, B.bytes, hml, findClass_of_methodNamed B.named, fun w hw => atoms_spec (ws := _ :: fs_ws) B.pre w (List.mem_cons_of_mem _ hw)⟩
  have hR := fs_hR (fr := 8) (lo := 127) ((f_Lw_count a0 x1 x2 a3).2 _ _ _ h)
  have hl := lv_entry ([.ref a0, .int x1, .int x2, .ref a3]) (n := 5) (Nat.le_of_ble_eq_true rfl)
  rw [lg_entry_eq]
  generalize (lg_sl ([.ref a0, .int x1, .int x2, .ref a3]) ++ List.replicate (5 - (lg_sl ([.ref a0, .int x1, .int x2, .ref a3])).length) Slot.unset).toArray = ls at hl ⊢
  have hl : lv_has ls 5 [(0, .ref a0), (1, .int x1), (2, .int x2), (3, .ref a3)] := hl
  refine (?_ : fs_J X p l e (fs_rm 8 127 σ σF) s m _ below meth c (fs_Q X below _ s (fs_eI r) σ σF) r σ σF (f_Lw_count a0 x1 x2 a3) (F0 m 0 ls [])) σ s.heap [] 0 0 h hw0 va_S.rf rfl rfl
  clear h hw0
  unfold f_Lw_count
  refine fs_lift (fun _ _ _ _ => lv_aload_n hx hb d_Lw_count_0 rfl (lv_at hl 3 rfl)) ?_
  refine fs_lift (fun _ _ _ _ => lv_iconst (v := 0) hx hb d_Lw_count_1 (by decide)) ?_
  refine fs_lift (fun _ _ _ _ => lv_aload_n hx hb d_Lw_count_2 rfl (lv_at hl 0 rfl)) ?_
  refine fs_lift (fun _ _ _ _ => lv_iload_n hx hb d_Lw_count_3 rfl (lv_at hl 1 rfl)) ?_
  refine fs_lift (fun _ _ _ _ => lv_iload_n hx hb d_Lw_count_4 rfl (lv_at hl 2 rfl)) ?_
  refine fs_JVt S hG hR rfl [.int x1, .int x2] (fun r => some (.int r)) (encx := fs_qI) (fun _ => rfl) (fun _ => rfl) (fun zr zs zt zh => m_Fs_count X l hl0 a0 x1 x2 zh) tw_5_169 tw_5_170 tw_5_171 tw_5_172 tw_1_1 q_Fs_count ⟨(Nat.le_of_ble_eq_true rfl), (Nat.le_of_ble_eq_true rfl)⟩ hl.1 rfl (Nat.le_of_ble_eq_true rfl) d_Lw_count_5 (fun v1 => ?_) (fun e9 => ?_)
  · refine fs_Jeq (g2 := F0 m 8 ls [.int v1, .int 0, .ref a3]) rfl ?_
    refine fs_lift (fun _ _ _ _ => lv_i2l hx hb d_Lw_count_8 rfl) ?_
    refine fs_Jsj S hG d_Lw_count_9 ?_
    refine fs_lift (fun _ _ _ _ => lv_goto hx hb d_Lw_count_10 rfl) ?_
    refine fs_lift (fun _ _ _ _ => lv_iconst (v := 0) hx hb d_Lw_count_17 (by decide)) ?_
    exact fs_Jiret S hr hk rfl d_Lw_count_18
  · refine fs_Hif 13 (fun a9 ce9 c9 n9 => ?_) (fun q9 => ?_) ?_
    · rw [hT]; exact fs_F.take hpl S.2.2.2.1 rfl (by decide) (S.2.2.2.2 _ tw_2_54) c9 n9 (va_Nw.use rfl (hG.castable tb_2_69))
    · refine fs_liftL (fun _ _ _ _ => lv_astore (lv' := [(4, .ref q9), (0, .ref a0), (1, .int x1), (2, .int x2), (3, .ref a3)]) hx hb d_Lw_count_13 hl (Nat.le_of_ble_eq_true rfl) rfl) (fun ls hl => ?_)
      refine fs_lift (fun _ _ _ _ => lv_iconst (v := 1) hx hb d_Lw_count_15 (by decide)) ?_
      exact fs_Jiret S hr hk rfl d_Lw_count_16
    exact fs_Hfail

theorem d_Rf_init_0 : decode prog_13_method_1_code 0 = .ok (.aload_n 0, 1) := by decide +kernel
theorem d_Rf_init_1 : decode prog_13_method_1_code 1 = .ok (.invokespecial 1, 3) := by decide +kernel
theorem d_Rf_init_4 : decode prog_13_method_1_code 4 = .ok (.aload_n 0, 1) := by decide +kernel
theorem d_Rf_init_5 : decode prog_13_method_1_code 5 = .ok (.iconst 2, 1) := by decide +kernel
theorem d_Rf_init_6 : decode prog_13_method_1_code 6 = .ok (.newarray .int, 2) := by decide +kernel
theorem d_Rf_init_8 : decode prog_13_method_1_code 8 = .ok (.putfield 7, 3) := by decide +kernel
theorem d_Rf_init_11 : decode prog_13_method_1_code 11 = .ok (.aload_n 0, 1) := by decide +kernel
theorem d_Rf_init_12 : decode prog_13_method_1_code 12 = .ok (.iconst 2, 1) := by decide +kernel
theorem d_Rf_init_13 : decode prog_13_method_1_code 13 = .ok (.newarray .int, 2) := by decide +kernel
theorem d_Rf_init_15 : decode prog_13_method_1_code 15 = .ok (.putfield 13, 3) := by decide +kernel
theorem d_Rf_init_18 : decode prog_13_method_1_code 18 = .ok (.aload_n 0, 1) := by decide +kernel
theorem d_Rf_init_19 : decode prog_13_method_1_code 19 = .ok (.iconst 2, 1) := by decide +kernel
theorem d_Rf_init_20 : decode prog_13_method_1_code 20 = .ok (.newarray .int, 2) := by decide +kernel
theorem d_Rf_init_22 : decode prog_13_method_1_code 22 = .ok (.putfield 16, 3) := by decide +kernel
theorem d_Rf_init_25 : decode prog_13_method_1_code 25 = .ok (.aload_n 0, 1) := by decide +kernel
theorem d_Rf_init_26 : decode prog_13_method_1_code 26 = .ok (.iconst 2, 1) := by decide +kernel
theorem d_Rf_init_27 : decode prog_13_method_1_code 27 = .ok (.newarray .int, 2) := by decide +kernel
theorem d_Rf_init_29 : decode prog_13_method_1_code 29 = .ok (.putfield 19, 3) := by decide +kernel
theorem d_Rf_init_32 : decode prog_13_method_1_code 32 = .ok (.aload_n 0, 1) := by decide +kernel
theorem d_Rf_init_33 : decode prog_13_method_1_code 33 = .ok (.iconst 2, 1) := by decide +kernel
theorem d_Rf_init_34 : decode prog_13_method_1_code 34 = .ok (.newarray .int, 2) := by decide +kernel
theorem d_Rf_init_36 : decode prog_13_method_1_code 36 = .ok (.putfield 22, 3) := by decide +kernel
theorem d_Rf_init_39 : decode prog_13_method_1_code 39 = .ok (.aload_n 0, 1) := by decide +kernel
theorem d_Rf_init_40 : decode prog_13_method_1_code 40 = .ok (.iconst 2, 1) := by decide +kernel
theorem d_Rf_init_41 : decode prog_13_method_1_code 41 = .ok (.newarray .int, 2) := by decide +kernel
theorem d_Rf_init_43 : decode prog_13_method_1_code 43 = .ok (.putfield 25, 3) := by decide +kernel
theorem d_Rf_init_46 : decode prog_13_method_1_code 46 = .ok (.aload_n 0, 1) := by decide +kernel
theorem d_Rf_init_47 : decode prog_13_method_1_code 47 = .ok (.iconst 2, 1) := by decide +kernel
theorem d_Rf_init_48 : decode prog_13_method_1_code 48 = .ok (.newarray .int, 2) := by decide +kernel
theorem d_Rf_init_50 : decode prog_13_method_1_code 50 = .ok (.putfield 28, 3) := by decide +kernel
theorem d_Rf_init_53 : decode prog_13_method_1_code 53 = .ok (.aload_n 0, 1) := by decide +kernel
theorem d_Rf_init_54 : decode prog_13_method_1_code 54 = .ok (.bipush 12, 2) := by decide +kernel
theorem d_Rf_init_56 : decode prog_13_method_1_code 56 = .ok (.newarray .int, 2) := by decide +kernel
theorem d_Rf_init_58 : decode prog_13_method_1_code 58 = .ok (.putfield 31, 3) := by decide +kernel
theorem d_Rf_init_61 : decode prog_13_method_1_code 61 = .ok (.aload_n 0, 1) := by decide +kernel
theorem d_Rf_init_62 : decode prog_13_method_1_code 62 = .ok (.bipush 12, 2) := by decide +kernel
theorem d_Rf_init_64 : decode prog_13_method_1_code 64 = .ok (.newarray .int, 2) := by decide +kernel
theorem d_Rf_init_66 : decode prog_13_method_1_code 66 = .ok (.putfield 34, 3) := by decide +kernel
theorem d_Rf_init_69 : decode prog_13_method_1_code 69 = .ok (.aload_n 0, 1) := by decide +kernel
theorem d_Rf_init_70 : decode prog_13_method_1_code 70 = .ok (.bipush 12, 2) := by decide +kernel
theorem d_Rf_init_72 : decode prog_13_method_1_code 72 = .ok (.newarray .int, 2) := by decide +kernel
theorem d_Rf_init_74 : decode prog_13_method_1_code 74 = .ok (.putfield 37, 3) := by decide +kernel
theorem d_Rf_init_77 : decode prog_13_method_1_code 77 = .ok (.aload_n 0, 1) := by decide +kernel
theorem d_Rf_init_78 : decode prog_13_method_1_code 78 = .ok (.bipush 12, 2) := by decide +kernel
theorem d_Rf_init_80 : decode prog_13_method_1_code 80 = .ok (.newarray .int, 2) := by decide +kernel
theorem d_Rf_init_82 : decode prog_13_method_1_code 82 = .ok (.putfield 40, 3) := by decide +kernel
theorem d_Rf_init_85 : decode prog_13_method_1_code 85 = .ok (.aload_n 0, 1) := by decide +kernel
theorem d_Rf_init_86 : decode prog_13_method_1_code 86 = .ok (.bipush 12, 2) := by decide +kernel
theorem d_Rf_init_88 : decode prog_13_method_1_code 88 = .ok (.newarray .int, 2) := by decide +kernel
theorem d_Rf_init_90 : decode prog_13_method_1_code 90 = .ok (.putfield 43, 3) := by decide +kernel
theorem d_Rf_init_93 : decode prog_13_method_1_code 93 = .ok (.aload_n 0, 1) := by decide +kernel
theorem d_Rf_init_94 : decode prog_13_method_1_code 94 = .ok (.iconst 2, 1) := by decide +kernel
theorem d_Rf_init_95 : decode prog_13_method_1_code 95 = .ok (.newarray .int, 2) := by decide +kernel
theorem d_Rf_init_97 : decode prog_13_method_1_code 97 = .ok (.putfield 46, 3) := by decide +kernel
theorem d_Rf_init_100 : decode prog_13_method_1_code 100 = .ok (.aload_n 0, 1) := by decide +kernel
theorem d_Rf_init_101 : decode prog_13_method_1_code 101 = .ok (.sipush 336, 3) := by decide +kernel
theorem d_Rf_init_104 : decode prog_13_method_1_code 104 = .ok (.newarray .int, 2) := by decide +kernel
theorem d_Rf_init_106 : decode prog_13_method_1_code 106 = .ok (.putfield 49, 3) := by decide +kernel
theorem d_Rf_init_109 : decode prog_13_method_1_code 109 = .ok (.aload_n 0, 1) := by decide +kernel
theorem d_Rf_init_110 : decode prog_13_method_1_code 110 = .ok (.bipush 6, 2) := by decide +kernel
theorem d_Rf_init_112 : decode prog_13_method_1_code 112 = .ok (.newarray .int, 2) := by decide +kernel
theorem d_Rf_init_114 : decode prog_13_method_1_code 114 = .ok (.putfield 52, 3) := by decide +kernel
theorem d_Rf_init_117 : decode prog_13_method_1_code 117 = .ok (.aload_n 0, 1) := by decide +kernel
theorem d_Rf_init_118 : decode prog_13_method_1_code 118 = .ok (.bipush 48, 2) := by decide +kernel
theorem d_Rf_init_120 : decode prog_13_method_1_code 120 = .ok (.newarray .int, 2) := by decide +kernel
theorem d_Rf_init_122 : decode prog_13_method_1_code 122 = .ok (.putfield 55, 3) := by decide +kernel
theorem d_Rf_init_125 : decode prog_13_method_1_code 125 = .ok (.aload_n 0, 1) := by decide +kernel
theorem d_Rf_init_126 : decode prog_13_method_1_code 126 = .ok (.bipush 48, 2) := by decide +kernel
theorem d_Rf_init_128 : decode prog_13_method_1_code 128 = .ok (.newarray .int, 2) := by decide +kernel
theorem d_Rf_init_130 : decode prog_13_method_1_code 130 = .ok (.putfield 58, 3) := by decide +kernel
theorem d_Rf_init_133 : decode prog_13_method_1_code 133 = .ok (.aload_n 0, 1) := by decide +kernel
theorem d_Rf_init_134 : decode prog_13_method_1_code 134 = .ok (.bipush 6, 2) := by decide +kernel
theorem d_Rf_init_136 : decode prog_13_method_1_code 136 = .ok (.newarray .int, 2) := by decide +kernel
theorem d_Rf_init_138 : decode prog_13_method_1_code 138 = .ok (.putfield 61, 3) := by decide +kernel
theorem d_Rf_init_141 : decode prog_13_method_1_code 141 = .ok (.aload_n 0, 1) := by decide +kernel
theorem d_Rf_init_142 : decode prog_13_method_1_code 142 = .ok (.bipush 6, 2) := by decide +kernel
theorem d_Rf_init_144 : decode prog_13_method_1_code 144 = .ok (.newarray .int, 2) := by decide +kernel
theorem d_Rf_init_146 : decode prog_13_method_1_code 146 = .ok (.putfield 64, 3) := by decide +kernel
theorem d_Rf_init_149 : decode prog_13_method_1_code 149 = .ok (.aload_n 0, 1) := by decide +kernel
theorem d_Rf_init_150 : decode prog_13_method_1_code 150 = .ok (.bipush 6, 2) := by decide +kernel
theorem d_Rf_init_152 : decode prog_13_method_1_code 152 = .ok (.newarray .int, 2) := by decide +kernel
theorem d_Rf_init_154 : decode prog_13_method_1_code 154 = .ok (.putfield 67, 3) := by decide +kernel
theorem d_Rf_init_157 : decode prog_13_method_1_code 157 = .ok (.aload_n 0, 1) := by decide +kernel
theorem d_Rf_init_158 : decode prog_13_method_1_code 158 = .ok (.bipush 48, 2) := by decide +kernel
theorem d_Rf_init_160 : decode prog_13_method_1_code 160 = .ok (.newarray .int, 2) := by decide +kernel
theorem d_Rf_init_162 : decode prog_13_method_1_code 162 = .ok (.putfield 70, 3) := by decide +kernel
theorem d_Rf_init_165 : decode prog_13_method_1_code 165 = .ok (.aload_n 0, 1) := by decide +kernel
theorem d_Rf_init_166 : decode prog_13_method_1_code 166 = .ok (.bipush 48, 2) := by decide +kernel
theorem d_Rf_init_168 : decode prog_13_method_1_code 168 = .ok (.newarray .int, 2) := by decide +kernel
theorem d_Rf_init_170 : decode prog_13_method_1_code 170 = .ok (.putfield 73, 3) := by decide +kernel
theorem d_Rf_init_173 : decode prog_13_method_1_code 173 = .ok (.aload_n 0, 1) := by decide +kernel
theorem d_Rf_init_174 : decode prog_13_method_1_code 174 = .ok (.bipush 6, 2) := by decide +kernel
theorem d_Rf_init_176 : decode prog_13_method_1_code 176 = .ok (.newarray .int, 2) := by decide +kernel
theorem d_Rf_init_178 : decode prog_13_method_1_code 178 = .ok (.putfield 76, 3) := by decide +kernel
theorem d_Rf_init_181 : decode prog_13_method_1_code 181 = .ok (.aload_n 0, 1) := by decide +kernel
theorem d_Rf_init_182 : decode prog_13_method_1_code 182 = .ok (.bipush 30, 2) := by decide +kernel
theorem d_Rf_init_184 : decode prog_13_method_1_code 184 = .ok (.newarray .int, 2) := by decide +kernel
theorem d_Rf_init_186 : decode prog_13_method_1_code 186 = .ok (.putfield 79, 3) := by decide +kernel
theorem d_Rf_init_189 : decode prog_13_method_1_code 189 = .ok (.aload_n 0, 1) := by decide +kernel
theorem d_Rf_init_190 : decode prog_13_method_1_code 190 = .ok (.sipush 1920, 3) := by decide +kernel
theorem d_Rf_init_193 : decode prog_13_method_1_code 193 = .ok (.newarray .int, 2) := by decide +kernel
theorem d_Rf_init_195 : decode prog_13_method_1_code 195 = .ok (.putfield 82, 3) := by decide +kernel
theorem d_Rf_init_198 : decode prog_13_method_1_code 198 = .ok (.aload_n 0, 1) := by decide +kernel
theorem d_Rf_init_199 : decode prog_13_method_1_code 199 = .ok (.bipush 20, 2) := by decide +kernel
theorem d_Rf_init_201 : decode prog_13_method_1_code 201 = .ok (.newarray .int, 2) := by decide +kernel
theorem d_Rf_init_203 : decode prog_13_method_1_code 203 = .ok (.putfield 85, 3) := by decide +kernel
theorem d_Rf_init_206 : decode prog_13_method_1_code 206 = .ok (.aload_n 0, 1) := by decide +kernel
theorem d_Rf_init_207 : decode prog_13_method_1_code 207 = .ok (.bipush 20, 2) := by decide +kernel
theorem d_Rf_init_209 : decode prog_13_method_1_code 209 = .ok (.newarray .int, 2) := by decide +kernel
theorem d_Rf_init_211 : decode prog_13_method_1_code 211 = .ok (.putfield 88, 3) := by decide +kernel
theorem d_Rf_init_214 : decode prog_13_method_1_code 214 = .ok (.aload_n 0, 1) := by decide +kernel
theorem d_Rf_init_215 : decode prog_13_method_1_code 215 = .ok (.sipush 160, 3) := by decide +kernel
theorem d_Rf_init_218 : decode prog_13_method_1_code 218 = .ok (.newarray .int, 2) := by decide +kernel
theorem d_Rf_init_220 : decode prog_13_method_1_code 220 = .ok (.putfield 91, 3) := by decide +kernel
theorem d_Rf_init_223 : decode prog_13_method_1_code 223 = .ok (.aload_n 0, 1) := by decide +kernel
theorem d_Rf_init_224 : decode prog_13_method_1_code 224 = .ok (.sipush 160, 3) := by decide +kernel
theorem d_Rf_init_227 : decode prog_13_method_1_code 227 = .ok (.newarray .int, 2) := by decide +kernel
theorem d_Rf_init_229 : decode prog_13_method_1_code 229 = .ok (.putfield 94, 3) := by decide +kernel
theorem d_Rf_init_232 : decode prog_13_method_1_code 232 = .ok (.aload_n 0, 1) := by decide +kernel
theorem d_Rf_init_233 : decode prog_13_method_1_code 233 = .ok (.bipush 6, 2) := by decide +kernel
theorem d_Rf_init_235 : decode prog_13_method_1_code 235 = .ok (.newarray .int, 2) := by decide +kernel
theorem d_Rf_init_237 : decode prog_13_method_1_code 237 = .ok (.putfield 97, 3) := by decide +kernel
theorem d_Rf_init_240 : decode prog_13_method_1_code 240 = .ok (.aload_n 0, 1) := by decide +kernel
theorem d_Rf_init_241 : decode prog_13_method_1_code 241 = .ok (.sipush 384, 3) := by decide +kernel
theorem d_Rf_init_244 : decode prog_13_method_1_code 244 = .ok (.newarray .int, 2) := by decide +kernel
theorem d_Rf_init_246 : decode prog_13_method_1_code 246 = .ok (.putfield 100, 3) := by decide +kernel
theorem d_Rf_init_249 : decode prog_13_method_1_code 249 = .ok (.aload_n 0, 1) := by decide +kernel
theorem d_Rf_init_250 : decode prog_13_method_1_code 250 = .ok (.sipush 1200, 3) := by decide +kernel
theorem d_Rf_init_253 : decode prog_13_method_1_code 253 = .ok (.newarray .boolean, 2) := by decide +kernel
theorem d_Rf_init_255 : decode prog_13_method_1_code 255 = .ok (.putfield 103, 3) := by decide +kernel
theorem d_Rf_init_258 : decode prog_13_method_1_code 258 = .ok (.aload_n 0, 1) := by decide +kernel
theorem d_Rf_init_259 : decode prog_13_method_1_code 259 = .ok (.bipush 80, 2) := by decide +kernel
theorem d_Rf_init_261 : decode prog_13_method_1_code 261 = .ok (.newarray .int, 2) := by decide +kernel
theorem d_Rf_init_263 : decode prog_13_method_1_code 263 = .ok (.putfield 107, 3) := by decide +kernel
theorem d_Rf_init_266 : decode prog_13_method_1_code 266 = .ok (.aload_n 0, 1) := by decide +kernel
theorem d_Rf_init_267 : decode prog_13_method_1_code 267 = .ok (.sipush 640, 3) := by decide +kernel
theorem d_Rf_init_270 : decode prog_13_method_1_code 270 = .ok (.newarray .long, 2) := by decide +kernel
theorem d_Rf_init_272 : decode prog_13_method_1_code 272 = .ok (.putfield 110, 3) := by decide +kernel
theorem d_Rf_init_275 : decode prog_13_method_1_code 275 = .ok (.aload_n 0, 1) := by decide +kernel
theorem d_Rf_init_276 : decode prog_13_method_1_code 276 = .ok (.iconst 2, 1) := by decide +kernel
theorem d_Rf_init_277 : decode prog_13_method_1_code 277 = .ok (.newarray .int, 2) := by decide +kernel
theorem d_Rf_init_279 : decode prog_13_method_1_code 279 = .ok (.putfield 114, 3) := by decide +kernel
theorem d_Rf_init_282 : decode prog_13_method_1_code 282 = .ok (.aload_n 0, 1) := by decide +kernel
theorem d_Rf_init_283 : decode prog_13_method_1_code 283 = .ok (.iconst 2, 1) := by decide +kernel
theorem d_Rf_init_284 : decode prog_13_method_1_code 284 = .ok (.newarray .int, 2) := by decide +kernel
theorem d_Rf_init_286 : decode prog_13_method_1_code 286 = .ok (.putfield 117, 3) := by decide +kernel
theorem d_Rf_init_289 : decode prog_13_method_1_code 289 = .ok (.aload_n 0, 1) := by decide +kernel
theorem d_Rf_init_290 : decode prog_13_method_1_code 290 = .ok (.iconst 2, 1) := by decide +kernel
theorem d_Rf_init_291 : decode prog_13_method_1_code 291 = .ok (.newarray .int, 2) := by decide +kernel
theorem d_Rf_init_293 : decode prog_13_method_1_code 293 = .ok (.putfield 120, 3) := by decide +kernel
theorem d_Rf_init_296 : decode prog_13_method_1_code 296 = .ok (.aload_n 0, 1) := by decide +kernel
theorem d_Rf_init_297 : decode prog_13_method_1_code 297 = .ok (.iconst 2, 1) := by decide +kernel
theorem d_Rf_init_298 : decode prog_13_method_1_code 298 = .ok (.newarray .int, 2) := by decide +kernel
theorem d_Rf_init_300 : decode prog_13_method_1_code 300 = .ok (.putfield 123, 3) := by decide +kernel
theorem d_Rf_init_303 : decode prog_13_method_1_code 303 = .ok (.aload_n 0, 1) := by decide +kernel
theorem d_Rf_init_304 : decode prog_13_method_1_code 304 = .ok (.iconst 2, 1) := by decide +kernel
theorem d_Rf_init_305 : decode prog_13_method_1_code 305 = .ok (.newarray .int, 2) := by decide +kernel
theorem d_Rf_init_307 : decode prog_13_method_1_code 307 = .ok (.putfield 126, 3) := by decide +kernel
theorem d_Rf_init_310 : decode prog_13_method_1_code 310 = .ok (.aload_n 0, 1) := by decide +kernel
theorem d_Rf_init_311 : decode prog_13_method_1_code 311 = .ok (.bipush 64, 2) := by decide +kernel
theorem d_Rf_init_313 : decode prog_13_method_1_code 313 = .ok (.newarray .int, 2) := by decide +kernel
theorem d_Rf_init_315 : decode prog_13_method_1_code 315 = .ok (.putfield 129, 3) := by decide +kernel
theorem d_Rf_init_318 : decode prog_13_method_1_code 318 = .ok (.aload_n 0, 1) := by decide +kernel
theorem d_Rf_init_319 : decode prog_13_method_1_code 319 = .ok (.bipush 80, 2) := by decide +kernel
theorem d_Rf_init_321 : decode prog_13_method_1_code 321 = .ok (.newarray .int, 2) := by decide +kernel
theorem d_Rf_init_323 : decode prog_13_method_1_code 323 = .ok (.putfield 132, 3) := by decide +kernel
theorem d_Rf_init_326 : decode prog_13_method_1_code 326 = .ok (.aload_n 0, 1) := by decide +kernel
theorem d_Rf_init_327 : decode prog_13_method_1_code 327 = .ok (.bipush 80, 2) := by decide +kernel
theorem d_Rf_init_329 : decode prog_13_method_1_code 329 = .ok (.newarray .boolean, 2) := by decide +kernel
theorem d_Rf_init_331 : decode prog_13_method_1_code 331 = .ok (.putfield 135, 3) := by decide +kernel
theorem d_Rf_init_334 : decode prog_13_method_1_code 334 = .ok (.aload_n 0, 1) := by decide +kernel
theorem d_Rf_init_335 : decode prog_13_method_1_code 335 = .ok (.getfield 16, 3) := by decide +kernel
theorem d_Rf_init_338 : decode prog_13_method_1_code 338 = .ok (.iconst 0, 1) := by decide +kernel
theorem d_Rf_init_339 : decode prog_13_method_1_code 339 = .ok (.iconst 1, 1) := by decide +kernel
theorem d_Rf_init_340 : decode prog_13_method_1_code 340 = .ok (.iastore, 1) := by decide +kernel
theorem d_Rf_init_341 : decode prog_13_method_1_code 341 = .ok (.aload_n 0, 1) := by decide +kernel
theorem d_Rf_init_342 : decode prog_13_method_1_code 342 = .ok (.getfield 16, 3) := by decide +kernel
theorem d_Rf_init_345 : decode prog_13_method_1_code 345 = .ok (.iconst 1, 1) := by decide +kernel
theorem d_Rf_init_346 : decode prog_13_method_1_code 346 = .ok (.iconst 1, 1) := by decide +kernel
theorem d_Rf_init_347 : decode prog_13_method_1_code 347 = .ok (.iastore, 1) := by decide +kernel
theorem d_Rf_init_348 : decode prog_13_method_1_code 348 = .ok (.return_, 1) := by decide +kernel
theorem q_Rf_init : (⟨"FlowShelfModel", "<init>", "()V"⟩ : MethodName).cls ≠ "java/lang/invoke/MethodHandle" ∧ (⟨"FlowShelfModel", "<init>", "()V"⟩ : MethodName).cls ≠ "java/lang/invoke/VarHandle" ∧ (parseMethodDescriptor (⟨"FlowShelfModel", "<init>", "()V"⟩ : MethodName).desc).map (fun d => d.parameters.length) = some 0 := by decide +kernel
set_option maxHeartbeats 4000000 in
set_option maxRecDepth 100000 in
theorem m_Rf_init (X : fs_X) (l : Launch) (a0 : Nat) {r : Unit} {σ σF : fs_S} (h : (f_Rf_init a0).1 σ = some (r, σF)) : fs_Met X l ⟨"FlowShelfModel", "<init>", "()V"⟩ (Cond.code ⟨"FlowShelfModel", "<init>", "()V"⟩ prog_13_method_1_code 1 none) 1 12 [.ref a0] σ (fs_eV r) σF := by
  refine fs_ofW (by decide) ?_
  intro p e s m args below meth c s₁ B hml hT hv
  obtain ⟨rfl, hw0, hG⟩ := hv
  have hx := B.exec
  have hb := B.bytes
  have hr := B.returns
  have hk := B.notSynchronized
  have hin : meth.name = "<init>" := (name_of_methodNamed B.named B.method).1
  have S : CallFix p m c prog_13_method_1_code 1 s _ fs_ws "FlowShelfModel" := ⟨B.exec, B.bytes, hml, findClass_of_methodNamed B.named, fun w hw => atoms_spec (ws := _ :: fs_ws) B.pre w (List.mem_cons_of_mem _ hw)⟩
  have hR := fs_hR (fr := 1) (lo := 12) ((f_Rf_init a0).2 _ _ _ h)
  have hl := lv_entry ([.ref a0]) (n := 1) (Nat.le_of_ble_eq_true rfl)
  rw [lg_entry_eq]
  generalize (lg_sl ([.ref a0]) ++ List.replicate (1 - (lg_sl ([.ref a0])).length) Slot.unset).toArray = ls at hl ⊢
  have hl : lv_has ls 1 [(0, .ref a0)] := hl
  refine (?_ : fs_J X p l e (fs_rm 1 12 σ σF) s m _ below meth c (fs_Q X below _ s (fs_eV r) σ σF) r σ σF (f_Rf_init a0) (F0 m 0 ls [])) σ s.heap [] 0 0 h hw0 va_S.rf rfl rfl
  clear h hw0
  unfold f_Rf_init
  refine fs_lift (fun _ _ _ _ => lv_aload_n hx hb d_Rf_init_0 rfl (lv_at hl 0 rfl)) ?_
  refine fs_JO S tw_5_191 tw_1_35 tw_1_36 hl.1 (Nat.le_of_ble_eq_true rfl) (Nat.le_of_ble_eq_true rfl) d_Rf_init_1 ?_
  refine fs_Jeq (g2 := F0 m 4 ls []) rfl ?_
  refine fs_lift (fun _ _ _ _ => lv_aload_n hx hb d_Rf_init_4 rfl (lv_at hl 0 rfl)) ?_
  refine fs_lift (fun _ _ _ _ => lv_iconst (v := 2) hx hb d_Rf_init_5 (by decide)) ?_
  refine fs_Jwi S hG hR rfl tw_1_97 d_Rf_init_6 (fun r1 => ?_)
  refine fs_Jput S hG fs_in12 rfl 1 (Nat.le_of_ble_eq_true rfl) tw_5_193 (fun _ h9 => h9) fs_Y12 fs_ty12 fs_nm12 (Or.inl rfl) rfl rfl d_Rf_init_8 ?_
  refine fs_lift (fun _ _ _ _ => lv_aload_n hx hb d_Rf_init_11 rfl (lv_at hl 0 rfl)) ?_
  refine fs_lift (fun _ _ _ _ => lv_iconst (v := 2) hx hb d_Rf_init_12 (by decide)) ?_
  refine fs_Jwi S hG hR rfl tw_1_97 d_Rf_init_13 (fun r2 => ?_)
  refine fs_Jput S hG fs_in12 rfl 2 (Nat.le_of_ble_eq_true rfl) tw_5_194 (fun _ h9 => h9) fs_Y12 fs_ty12 fs_nm12 (Or.inl rfl) rfl rfl d_Rf_init_15 ?_
  refine fs_lift (fun _ _ _ _ => lv_aload_n hx hb d_Rf_init_18 rfl (lv_at hl 0 rfl)) ?_
  refine fs_lift (fun _ _ _ _ => lv_iconst (v := 2) hx hb d_Rf_init_19 (by decide)) ?_
  refine fs_Jwi S hG hR rfl tw_1_97 d_Rf_init_20 (fun r3 => ?_)
  refine fs_Jput S hG fs_in12 rfl 3 (Nat.le_of_ble_eq_true rfl) tw_5_195 (fun _ h9 => h9) fs_Y12 fs_ty12 fs_nm12 (Or.inl rfl) rfl rfl d_Rf_init_22 ?_
  refine fs_lift (fun _ _ _ _ => lv_aload_n hx hb d_Rf_init_25 rfl (lv_at hl 0 rfl)) ?_
  refine fs_lift (fun _ _ _ _ => lv_iconst (v := 2) hx hb d_Rf_init_26 (by decide)) ?_
  refine fs_Jwi S hG hR rfl tw_1_97 d_Rf_init_27 (fun r4 => ?_)
  refine fs_Jput S hG fs_in12 rfl 4 (Nat.le_of_ble_eq_true rfl) tw_5_196 (fun _ h9 => h9) fs_Y12 fs_ty12 fs_nm12 (Or.inl rfl) rfl rfl d_Rf_init_29 ?_
  refine fs_lift (fun _ _ _ _ => lv_aload_n hx hb d_Rf_init_32 rfl (lv_at hl 0 rfl)) ?_
  refine fs_lift (fun _ _ _ _ => lv_iconst (v := 2) hx hb d_Rf_init_33 (by decide)) ?_
  refine fs_Jwi S hG hR rfl tw_1_97 d_Rf_init_34 (fun r5 => ?_)
  refine fs_Jput S hG fs_in12 rfl 5 (Nat.le_of_ble_eq_true rfl) tw_5_197 (fun _ h9 => h9) fs_Y12 fs_ty12 fs_nm12 (Or.inl rfl) rfl rfl d_Rf_init_36 ?_
  refine fs_lift (fun _ _ _ _ => lv_aload_n hx hb d_Rf_init_39 rfl (lv_at hl 0 rfl)) ?_
  refine fs_lift (fun _ _ _ _ => lv_iconst (v := 2) hx hb d_Rf_init_40 (by decide)) ?_
  refine fs_Jwi S hG hR rfl tw_1_97 d_Rf_init_41 (fun r6 => ?_)
  refine fs_Jput S hG fs_in12 rfl 6 (Nat.le_of_ble_eq_true rfl) tw_5_198 (fun _ h9 => h9) fs_Y12 fs_ty12 fs_nm12 (Or.inl rfl) rfl rfl d_Rf_init_43 ?_
  refine fs_lift (fun _ _ _ _ => lv_aload_n hx hb d_Rf_init_46 rfl (lv_at hl 0 rfl)) ?_
  refine fs_lift (fun _ _ _ _ => lv_iconst (v := 2) hx hb d_Rf_init_47 (by decide)) ?_
  refine fs_Jwi S hG hR rfl tw_1_97 d_Rf_init_48 (fun r7 => ?_)
  refine fs_Jput S hG fs_in12 rfl 7 (Nat.le_of_ble_eq_true rfl) tw_5_199 (fun _ h9 => h9) fs_Y12 fs_ty12 fs_nm12 (Or.inl rfl) rfl rfl d_Rf_init_50 ?_
  refine fs_lift (fun _ _ _ _ => lv_aload_n hx hb d_Rf_init_53 rfl (lv_at hl 0 rfl)) ?_
  refine fs_lift (fun _ _ _ _ => lv_bipush (v := 12) hx hb d_Rf_init_54 (by decide)) ?_
  refine fs_Jwi S hG hR rfl tw_1_97 d_Rf_init_56 (fun r8 => ?_)
  refine fs_Jput S hG fs_in12 rfl 8 (Nat.le_of_ble_eq_true rfl) tw_5_200 (fun _ h9 => h9) fs_Y12 fs_ty12 fs_nm12 (Or.inl rfl) rfl rfl d_Rf_init_58 ?_
  refine fs_lift (fun _ _ _ _ => lv_aload_n hx hb d_Rf_init_61 rfl (lv_at hl 0 rfl)) ?_
  refine fs_lift (fun _ _ _ _ => lv_bipush (v := 12) hx hb d_Rf_init_62 (by decide)) ?_
  refine fs_Jwi S hG hR rfl tw_1_97 d_Rf_init_64 (fun r9 => ?_)
  refine fs_Jput S hG fs_in12 rfl 9 (Nat.le_of_ble_eq_true rfl) tw_5_201 (fun _ h9 => h9) fs_Y12 fs_ty12 fs_nm12 (Or.inl rfl) rfl rfl d_Rf_init_66 ?_
  refine fs_lift (fun _ _ _ _ => lv_aload_n hx hb d_Rf_init_69 rfl (lv_at hl 0 rfl)) ?_
  refine fs_lift (fun _ _ _ _ => lv_bipush (v := 12) hx hb d_Rf_init_70 (by decide)) ?_
  refine fs_Jwi S hG hR rfl tw_1_97 d_Rf_init_72 (fun r10 => ?_)
  refine fs_Jput S hG fs_in12 rfl 10 (Nat.le_of_ble_eq_true rfl) tw_5_202 (fun _ h9 => h9) fs_Y12 fs_ty12 fs_nm12 (Or.inl rfl) rfl rfl d_Rf_init_74 ?_
  refine fs_lift (fun _ _ _ _ => lv_aload_n hx hb d_Rf_init_77 rfl (lv_at hl 0 rfl)) ?_
  refine fs_lift (fun _ _ _ _ => lv_bipush (v := 12) hx hb d_Rf_init_78 (by decide)) ?_
  refine fs_Jwi S hG hR rfl tw_1_97 d_Rf_init_80 (fun r11 => ?_)
  refine fs_Jput S hG fs_in12 rfl 11 (Nat.le_of_ble_eq_true rfl) tw_5_203 (fun _ h9 => h9) fs_Y12 fs_ty12 fs_nm12 (Or.inl rfl) rfl rfl d_Rf_init_82 ?_
  refine fs_lift (fun _ _ _ _ => lv_aload_n hx hb d_Rf_init_85 rfl (lv_at hl 0 rfl)) ?_
  refine fs_lift (fun _ _ _ _ => lv_bipush (v := 12) hx hb d_Rf_init_86 (by decide)) ?_
  refine fs_Jwi S hG hR rfl tw_1_97 d_Rf_init_88 (fun r12 => ?_)
  refine fs_Jput S hG fs_in12 rfl 12 (Nat.le_of_ble_eq_true rfl) tw_5_204 (fun _ h9 => h9) fs_Y12 fs_ty12 fs_nm12 (Or.inl rfl) rfl rfl d_Rf_init_90 ?_
  refine fs_lift (fun _ _ _ _ => lv_aload_n hx hb d_Rf_init_93 rfl (lv_at hl 0 rfl)) ?_
  refine fs_lift (fun _ _ _ _ => lv_iconst (v := 2) hx hb d_Rf_init_94 (by decide)) ?_
  refine fs_Jwi S hG hR rfl tw_1_97 d_Rf_init_95 (fun r13 => ?_)
  refine fs_Jput S hG fs_in12 rfl 13 (Nat.le_of_ble_eq_true rfl) tw_5_205 (fun _ h9 => h9) fs_Y12 fs_ty12 fs_nm12 (Or.inl rfl) rfl rfl d_Rf_init_97 ?_
  refine fs_lift (fun _ _ _ _ => lv_aload_n hx hb d_Rf_init_100 rfl (lv_at hl 0 rfl)) ?_
  refine fs_lift (fun _ _ _ _ => lv_sipush (v := 336) hx hb d_Rf_init_101 (by decide)) ?_
  refine fs_Jwi S hG hR rfl tw_1_97 d_Rf_init_104 (fun r14 => ?_)
  refine fs_Jput S hG fs_in12 rfl 14 (Nat.le_of_ble_eq_true rfl) tw_5_206 (fun _ h9 => h9) fs_Y12 fs_ty12 fs_nm12 (Or.inl rfl) rfl rfl d_Rf_init_106 ?_
  refine fs_lift (fun _ _ _ _ => lv_aload_n hx hb d_Rf_init_109 rfl (lv_at hl 0 rfl)) ?_
  refine fs_lift (fun _ _ _ _ => lv_bipush (v := 6) hx hb d_Rf_init_110 (by decide)) ?_
  refine fs_Jwi S hG hR rfl tw_1_97 d_Rf_init_112 (fun r15 => ?_)
  refine fs_Jput S hG fs_in12 rfl 15 (Nat.le_of_ble_eq_true rfl) tw_5_207 (fun _ h9 => h9) fs_Y12 fs_ty12 fs_nm12 (Or.inl rfl) rfl rfl d_Rf_init_114 ?_
  refine fs_lift (fun _ _ _ _ => lv_aload_n hx hb d_Rf_init_117 rfl (lv_at hl 0 rfl)) ?_
  refine fs_lift (fun _ _ _ _ => lv_bipush (v := 48) hx hb d_Rf_init_118 (by decide)) ?_
  refine fs_Jwi S hG hR rfl tw_1_97 d_Rf_init_120 (fun r16 => ?_)
  refine fs_Jput S hG fs_in12 rfl 16 (Nat.le_of_ble_eq_true rfl) tw_5_208 (fun _ h9 => h9) fs_Y12 fs_ty12 fs_nm12 (Or.inl rfl) rfl rfl d_Rf_init_122 ?_
  refine fs_lift (fun _ _ _ _ => lv_aload_n hx hb d_Rf_init_125 rfl (lv_at hl 0 rfl)) ?_
  refine fs_lift (fun _ _ _ _ => lv_bipush (v := 48) hx hb d_Rf_init_126 (by decide)) ?_
  refine fs_Jwi S hG hR rfl tw_1_97 d_Rf_init_128 (fun r17 => ?_)
  refine fs_Jput S hG fs_in12 rfl 17 (Nat.le_of_ble_eq_true rfl) tw_5_209 (fun _ h9 => h9) fs_Y12 fs_ty12 fs_nm12 (Or.inl rfl) rfl rfl d_Rf_init_130 ?_
  refine fs_lift (fun _ _ _ _ => lv_aload_n hx hb d_Rf_init_133 rfl (lv_at hl 0 rfl)) ?_
  refine fs_lift (fun _ _ _ _ => lv_bipush (v := 6) hx hb d_Rf_init_134 (by decide)) ?_
  refine fs_Jwi S hG hR rfl tw_1_97 d_Rf_init_136 (fun r18 => ?_)
  refine fs_Jput S hG fs_in12 rfl 18 (Nat.le_of_ble_eq_true rfl) tw_5_210 (fun _ h9 => h9) fs_Y12 fs_ty12 fs_nm12 (Or.inl rfl) rfl rfl d_Rf_init_138 ?_
  refine fs_lift (fun _ _ _ _ => lv_aload_n hx hb d_Rf_init_141 rfl (lv_at hl 0 rfl)) ?_
  refine fs_lift (fun _ _ _ _ => lv_bipush (v := 6) hx hb d_Rf_init_142 (by decide)) ?_
  refine fs_Jwi S hG hR rfl tw_1_97 d_Rf_init_144 (fun r19 => ?_)
  refine fs_Jput S hG fs_in12 rfl 19 (Nat.le_of_ble_eq_true rfl) tw_5_211 (fun _ h9 => h9) fs_Y12 fs_ty12 fs_nm12 (Or.inl rfl) rfl rfl d_Rf_init_146 ?_
  refine fs_lift (fun _ _ _ _ => lv_aload_n hx hb d_Rf_init_149 rfl (lv_at hl 0 rfl)) ?_
  refine fs_lift (fun _ _ _ _ => lv_bipush (v := 6) hx hb d_Rf_init_150 (by decide)) ?_
  refine fs_Jwi S hG hR rfl tw_1_97 d_Rf_init_152 (fun r20 => ?_)
  refine fs_Jput S hG fs_in12 rfl 20 (Nat.le_of_ble_eq_true rfl) tw_5_212 (fun _ h9 => h9) fs_Y12 fs_ty12 fs_nm12 (Or.inl rfl) rfl rfl d_Rf_init_154 ?_
  refine fs_lift (fun _ _ _ _ => lv_aload_n hx hb d_Rf_init_157 rfl (lv_at hl 0 rfl)) ?_
  refine fs_lift (fun _ _ _ _ => lv_bipush (v := 48) hx hb d_Rf_init_158 (by decide)) ?_
  refine fs_Jwi S hG hR rfl tw_1_97 d_Rf_init_160 (fun r21 => ?_)
  refine fs_Jput S hG fs_in12 rfl 21 (Nat.le_of_ble_eq_true rfl) tw_5_213 (fun _ h9 => h9) fs_Y12 fs_ty12 fs_nm12 (Or.inl rfl) rfl rfl d_Rf_init_162 ?_
  refine fs_lift (fun _ _ _ _ => lv_aload_n hx hb d_Rf_init_165 rfl (lv_at hl 0 rfl)) ?_
  refine fs_lift (fun _ _ _ _ => lv_bipush (v := 48) hx hb d_Rf_init_166 (by decide)) ?_
  refine fs_Jwi S hG hR rfl tw_1_97 d_Rf_init_168 (fun r22 => ?_)
  refine fs_Jput S hG fs_in12 rfl 22 (Nat.le_of_ble_eq_true rfl) tw_5_214 (fun _ h9 => h9) fs_Y12 fs_ty12 fs_nm12 (Or.inl rfl) rfl rfl d_Rf_init_170 ?_
  refine fs_lift (fun _ _ _ _ => lv_aload_n hx hb d_Rf_init_173 rfl (lv_at hl 0 rfl)) ?_
  refine fs_lift (fun _ _ _ _ => lv_bipush (v := 6) hx hb d_Rf_init_174 (by decide)) ?_
  refine fs_Jwi S hG hR rfl tw_1_97 d_Rf_init_176 (fun r23 => ?_)
  refine fs_Jput S hG fs_in12 rfl 23 (Nat.le_of_ble_eq_true rfl) tw_5_215 (fun _ h9 => h9) fs_Y12 fs_ty12 fs_nm12 (Or.inl rfl) rfl rfl d_Rf_init_178 ?_
  refine fs_lift (fun _ _ _ _ => lv_aload_n hx hb d_Rf_init_181 rfl (lv_at hl 0 rfl)) ?_
  refine fs_lift (fun _ _ _ _ => lv_bipush (v := 30) hx hb d_Rf_init_182 (by decide)) ?_
  refine fs_Jwi S hG hR rfl tw_1_97 d_Rf_init_184 (fun r24 => ?_)
  refine fs_Jput S hG fs_in12 rfl 26 (Nat.le_of_ble_eq_true rfl) tw_5_218 (fun _ h9 => h9) fs_Y12 fs_ty12 fs_nm12 (Or.inl rfl) rfl rfl d_Rf_init_186 ?_
  refine fs_lift (fun _ _ _ _ => lv_aload_n hx hb d_Rf_init_189 rfl (lv_at hl 0 rfl)) ?_
  refine fs_lift (fun _ _ _ _ => lv_sipush (v := 1920) hx hb d_Rf_init_190 (by decide)) ?_
  refine fs_Jwi S hG hR rfl tw_1_97 d_Rf_init_193 (fun r25 => ?_)
  refine fs_Jput S hG fs_in12 rfl 27 (Nat.le_of_ble_eq_true rfl) tw_5_219 (fun _ h9 => h9) fs_Y12 fs_ty12 fs_nm12 (Or.inl rfl) rfl rfl d_Rf_init_195 ?_
  refine fs_lift (fun _ _ _ _ => lv_aload_n hx hb d_Rf_init_198 rfl (lv_at hl 0 rfl)) ?_
  refine fs_lift (fun _ _ _ _ => lv_bipush (v := 20) hx hb d_Rf_init_199 (by decide)) ?_
  refine fs_Jwi S hG hR rfl tw_1_97 d_Rf_init_201 (fun r26 => ?_)
  refine fs_Jput S hG fs_in12 rfl 29 (Nat.le_of_ble_eq_true rfl) tw_5_221 (fun _ h9 => h9) fs_Y12 fs_ty12 fs_nm12 (Or.inl rfl) rfl rfl d_Rf_init_203 ?_
  refine fs_lift (fun _ _ _ _ => lv_aload_n hx hb d_Rf_init_206 rfl (lv_at hl 0 rfl)) ?_
  refine fs_lift (fun _ _ _ _ => lv_bipush (v := 20) hx hb d_Rf_init_207 (by decide)) ?_
  refine fs_Jwi S hG hR rfl tw_1_97 d_Rf_init_209 (fun r27 => ?_)
  refine fs_Jput S hG fs_in12 rfl 30 (Nat.le_of_ble_eq_true rfl) tw_5_222 (fun _ h9 => h9) fs_Y12 fs_ty12 fs_nm12 (Or.inl rfl) rfl rfl d_Rf_init_211 ?_
  refine fs_lift (fun _ _ _ _ => lv_aload_n hx hb d_Rf_init_214 rfl (lv_at hl 0 rfl)) ?_
  refine fs_lift (fun _ _ _ _ => lv_sipush (v := 160) hx hb d_Rf_init_215 (by decide)) ?_
  refine fs_Jwi S hG hR rfl tw_1_97 d_Rf_init_218 (fun r28 => ?_)
  refine fs_Jput S hG fs_in12 rfl 31 (Nat.le_of_ble_eq_true rfl) tw_5_223 (fun _ h9 => h9) fs_Y12 fs_ty12 fs_nm12 (Or.inl rfl) rfl rfl d_Rf_init_220 ?_
  refine fs_lift (fun _ _ _ _ => lv_aload_n hx hb d_Rf_init_223 rfl (lv_at hl 0 rfl)) ?_
  refine fs_lift (fun _ _ _ _ => lv_sipush (v := 160) hx hb d_Rf_init_224 (by decide)) ?_
  refine fs_Jwi S hG hR rfl tw_1_97 d_Rf_init_227 (fun r29 => ?_)
  refine fs_Jput S hG fs_in12 rfl 32 (Nat.le_of_ble_eq_true rfl) tw_5_224 (fun _ h9 => h9) fs_Y12 fs_ty12 fs_nm12 (Or.inl rfl) rfl rfl d_Rf_init_229 ?_
  refine fs_lift (fun _ _ _ _ => lv_aload_n hx hb d_Rf_init_232 rfl (lv_at hl 0 rfl)) ?_
  refine fs_lift (fun _ _ _ _ => lv_bipush (v := 6) hx hb d_Rf_init_233 (by decide)) ?_
  refine fs_Jwi S hG hR rfl tw_1_97 d_Rf_init_235 (fun r30 => ?_)
  refine fs_Jput S hG fs_in12 rfl 34 (Nat.le_of_ble_eq_true rfl) tw_5_226 (fun _ h9 => h9) fs_Y12 fs_ty12 fs_nm12 (Or.inl rfl) rfl rfl d_Rf_init_237 ?_
  refine fs_lift (fun _ _ _ _ => lv_aload_n hx hb d_Rf_init_240 rfl (lv_at hl 0 rfl)) ?_
  refine fs_lift (fun _ _ _ _ => lv_sipush (v := 384) hx hb d_Rf_init_241 (by decide)) ?_
  refine fs_Jwi S hG hR rfl tw_1_97 d_Rf_init_244 (fun r31 => ?_)
  refine fs_Jput S hG fs_in12 rfl 35 (Nat.le_of_ble_eq_true rfl) tw_5_227 (fun _ h9 => h9) fs_Y12 fs_ty12 fs_nm12 (Or.inl rfl) rfl rfl d_Rf_init_246 ?_
  refine fs_lift (fun _ _ _ _ => lv_aload_n hx hb d_Rf_init_249 rfl (lv_at hl 0 rfl)) ?_
  refine fs_lift (fun _ _ _ _ => lv_sipush (v := 1200) hx hb d_Rf_init_250 (by decide)) ?_
  refine fs_Jwz S hG hR rfl tw_1_229 d_Rf_init_253 (fun r32 => ?_)
  refine fs_Jput S hG fs_in12 rfl 36 (Nat.le_of_ble_eq_true rfl) tw_5_228 (fun _ h9 => h9) fs_Y12 fs_ty12 fs_nm12 (Or.inl rfl) rfl rfl d_Rf_init_255 ?_
  refine fs_lift (fun _ _ _ _ => lv_aload_n hx hb d_Rf_init_258 rfl (lv_at hl 0 rfl)) ?_
  refine fs_lift (fun _ _ _ _ => lv_bipush (v := 80) hx hb d_Rf_init_259 (by decide)) ?_
  refine fs_Jwi S hG hR rfl tw_1_97 d_Rf_init_261 (fun r33 => ?_)
  refine fs_Jput S hG fs_in12 rfl 38 (Nat.le_of_ble_eq_true rfl) tw_5_230 (fun _ h9 => h9) fs_Y12 fs_ty12 fs_nm12 (Or.inl rfl) rfl rfl d_Rf_init_263 ?_
  refine fs_lift (fun _ _ _ _ => lv_aload_n hx hb d_Rf_init_266 rfl (lv_at hl 0 rfl)) ?_
  refine fs_lift (fun _ _ _ _ => lv_sipush (v := 640) hx hb d_Rf_init_267 (by decide)) ?_
  refine fs_Jwj S hG hR rfl tw_5_40 d_Rf_init_270 (fun r34 => ?_)
  refine fs_Jput S hG fs_in12 rfl 39 (Nat.le_of_ble_eq_true rfl) tw_5_231 (fun _ h9 => h9) fs_Y12 fs_ty12 fs_nm12 (Or.inl rfl) rfl rfl d_Rf_init_272 ?_
  refine fs_lift (fun _ _ _ _ => lv_aload_n hx hb d_Rf_init_275 rfl (lv_at hl 0 rfl)) ?_
  refine fs_lift (fun _ _ _ _ => lv_iconst (v := 2) hx hb d_Rf_init_276 (by decide)) ?_
  refine fs_Jwi S hG hR rfl tw_1_97 d_Rf_init_277 (fun r35 => ?_)
  refine fs_Jput S hG fs_in12 rfl 40 (Nat.le_of_ble_eq_true rfl) tw_5_232 (fun _ h9 => h9) fs_Y12 fs_ty12 fs_nm12 (Or.inl rfl) rfl rfl d_Rf_init_279 ?_
  refine fs_lift (fun _ _ _ _ => lv_aload_n hx hb d_Rf_init_282 rfl (lv_at hl 0 rfl)) ?_
  refine fs_lift (fun _ _ _ _ => lv_iconst (v := 2) hx hb d_Rf_init_283 (by decide)) ?_
  refine fs_Jwi S hG hR rfl tw_1_97 d_Rf_init_284 (fun r36 => ?_)
  refine fs_Jput S hG fs_in12 rfl 41 (Nat.le_of_ble_eq_true rfl) tw_5_233 (fun _ h9 => h9) fs_Y12 fs_ty12 fs_nm12 (Or.inl rfl) rfl rfl d_Rf_init_286 ?_
  refine fs_lift (fun _ _ _ _ => lv_aload_n hx hb d_Rf_init_289 rfl (lv_at hl 0 rfl)) ?_
  refine fs_lift (fun _ _ _ _ => lv_iconst (v := 2) hx hb d_Rf_init_290 (by decide)) ?_
  refine fs_Jwi S hG hR rfl tw_1_97 d_Rf_init_291 (fun r37 => ?_)
  refine fs_Jput S hG fs_in12 rfl 42 (Nat.le_of_ble_eq_true rfl) tw_5_234 (fun _ h9 => h9) fs_Y12 fs_ty12 fs_nm12 (Or.inl rfl) rfl rfl d_Rf_init_293 ?_
  refine fs_lift (fun _ _ _ _ => lv_aload_n hx hb d_Rf_init_296 rfl (lv_at hl 0 rfl)) ?_
  refine fs_lift (fun _ _ _ _ => lv_iconst (v := 2) hx hb d_Rf_init_297 (by decide)) ?_
  refine fs_Jwi S hG hR rfl tw_1_97 d_Rf_init_298 (fun r38 => ?_)
  refine fs_Jput S hG fs_in12 rfl 43 (Nat.le_of_ble_eq_true rfl) tw_5_235 (fun _ h9 => h9) fs_Y12 fs_ty12 fs_nm12 (Or.inl rfl) rfl rfl d_Rf_init_300 ?_
  refine fs_lift (fun _ _ _ _ => lv_aload_n hx hb d_Rf_init_303 rfl (lv_at hl 0 rfl)) ?_
  refine fs_lift (fun _ _ _ _ => lv_iconst (v := 2) hx hb d_Rf_init_304 (by decide)) ?_
  refine fs_Jwi S hG hR rfl tw_1_97 d_Rf_init_305 (fun r39 => ?_)
  refine fs_Jput S hG fs_in12 rfl 44 (Nat.le_of_ble_eq_true rfl) tw_5_236 (fun _ h9 => h9) fs_Y12 fs_ty12 fs_nm12 (Or.inl rfl) rfl rfl d_Rf_init_307 ?_
  refine fs_lift (fun _ _ _ _ => lv_aload_n hx hb d_Rf_init_310 rfl (lv_at hl 0 rfl)) ?_
  refine fs_lift (fun _ _ _ _ => lv_bipush (v := 64) hx hb d_Rf_init_311 (by decide)) ?_
  refine fs_Jwi S hG hR rfl tw_1_97 d_Rf_init_313 (fun r40 => ?_)
  refine fs_Jput S hG fs_in12 rfl 46 (Nat.le_of_ble_eq_true rfl) tw_5_238 (fun _ h9 => h9) fs_Y12 fs_ty12 fs_nm12 (Or.inl rfl) rfl rfl d_Rf_init_315 ?_
  refine fs_lift (fun _ _ _ _ => lv_aload_n hx hb d_Rf_init_318 rfl (lv_at hl 0 rfl)) ?_
  refine fs_lift (fun _ _ _ _ => lv_bipush (v := 80) hx hb d_Rf_init_319 (by decide)) ?_
  refine fs_Jwi S hG hR rfl tw_1_97 d_Rf_init_321 (fun r41 => ?_)
  refine fs_Jput S hG fs_in12 rfl 48 (Nat.le_of_ble_eq_true rfl) tw_6_0 (fun _ h9 => h9) fs_Y12 fs_ty12 fs_nm12 (Or.inl rfl) rfl rfl d_Rf_init_323 ?_
  refine fs_lift (fun _ _ _ _ => lv_aload_n hx hb d_Rf_init_326 rfl (lv_at hl 0 rfl)) ?_
  refine fs_lift (fun _ _ _ _ => lv_bipush (v := 80) hx hb d_Rf_init_327 (by decide)) ?_
  refine fs_Jwz S hG hR rfl tw_1_229 d_Rf_init_329 (fun r42 => ?_)
  refine fs_Jput S hG fs_in12 rfl 49 (Nat.le_of_ble_eq_true rfl) tw_6_1 (fun _ h9 => h9) fs_Y12 fs_ty12 fs_nm12 (Or.inl rfl) rfl rfl d_Rf_init_331 ?_
  refine fs_lift (fun _ _ _ _ => lv_aload_n hx hb d_Rf_init_334 rfl (lv_at hl 0 rfl)) ?_
  refine fs_Jgr S hG fs_in12 rfl 3 (Nat.le_of_ble_eq_true rfl) tw_5_195 (fun _ h9 => h9) d_Rf_init_335 (fun r43 => ?_)
  refine fs_lift (fun _ _ _ _ => lv_iconst (v := 0) hx hb d_Rf_init_338 (by decide)) ?_
  refine fs_lift (fun _ _ _ _ => lv_iconst (v := 1) hx hb d_Rf_init_339 (by decide)) ?_
  refine fs_Jsi S hG d_Rf_init_340 ?_
  refine fs_lift (fun _ _ _ _ => lv_aload_n hx hb d_Rf_init_341 rfl (lv_at hl 0 rfl)) ?_
  refine fs_Jgr S hG fs_in12 rfl 3 (Nat.le_of_ble_eq_true rfl) tw_5_195 (fun _ h9 => h9) d_Rf_init_342 (fun r44 => ?_)
  refine fs_lift (fun _ _ _ _ => lv_iconst (v := 1) hx hb d_Rf_init_345 (by decide)) ?_
  refine fs_lift (fun _ _ _ _ => lv_iconst (v := 1) hx hb d_Rf_init_346 (by decide)) ?_
  refine fs_Jsi S hG d_Rf_init_347 ?_
  exact fs_Jvret S hr hk rfl d_Rf_init_348

theorem d_Rf_thrown_0 : decode prog_13_method_2_code 0 = .ok (.aload_n 0, 1) := by decide +kernel
theorem d_Rf_thrown_1 : decode prog_13_method_2_code 1 = .ok (.getfield 138, 3) := by decide +kernel
theorem d_Rf_thrown_4 : decode prog_13_method_2_code 4 = .ok (.ireturn, 1) := by decide +kernel
theorem q_Rf_thrown : (⟨"FlowShelfModel", "thrown", "()I"⟩ : MethodName).cls ≠ "java/lang/invoke/MethodHandle" ∧ (⟨"FlowShelfModel", "thrown", "()I"⟩ : MethodName).cls ≠ "java/lang/invoke/VarHandle" ∧ (parseMethodDescriptor (⟨"FlowShelfModel", "thrown", "()I"⟩ : MethodName).desc).map (fun d => d.parameters.length) = some 0 := by decide +kernel
set_option maxHeartbeats 4000000 in
set_option maxRecDepth 100000 in
theorem m_Rf_thrown (X : fs_X) (l : Launch) (a0 : Nat) {r : Int32} {σ σF : fs_S} (h : (f_Rf_thrown a0).1 σ = some (r, σF)) : fs_Met X l ⟨"FlowShelfModel", "thrown", "()I"⟩ (Cond.code ⟨"FlowShelfModel", "thrown", "()I"⟩ prog_13_method_2_code 1 (some FieldType.int)) 0 0 [.ref a0] σ (fs_eI r) σF := by
  refine fs_ofW (by decide) ?_
  intro p e s m args below meth c s₁ B hml hT hv
  obtain ⟨rfl, hw0, hG⟩ := hv
  have hx := B.exec
  have hb := B.bytes
  have hr := B.returns
  have hk := B.notSynchronized
  have S : CallFix p m c prog_13_method_2_code 1 s _ fs_ws "FlowShelfModel" := ⟨B.exec, B.bytes, hml, findClass_of_methodNamed B.named, fun w hw => atoms_spec (ws := _ :: fs_ws) B.pre w (List.mem_cons_of_mem _ hw)⟩
  have hR := fs_hR (fr := 0) (lo := 0) ((f_Rf_thrown a0).2 _ _ _ h)
  have hl := lv_entry ([.ref a0]) (n := 1) (Nat.le_of_ble_eq_true rfl)
  rw [lg_entry_eq]
  generalize (lg_sl ([.ref a0]) ++ List.replicate (1 - (lg_sl ([.ref a0])).length) Slot.unset).toArray = ls at hl ⊢
  have hl : lv_has ls 1 [(0, .ref a0)] := hl
  refine (?_ : fs_J X p l e (fs_rm 0 0 σ σF) s m _ below meth c (fs_Q X below _ s (fs_eI r) σ σF) r σ σF (f_Rf_thrown a0) (F0 m 0 ls [])) σ s.heap [] 0 0 h hw0 va_S.rf rfl rfl
  clear h hw0
  unfold f_Rf_thrown
  refine fs_lift (fun _ _ _ _ => lv_aload_n hx hb d_Rf_thrown_0 rfl (lv_at hl 0 rfl)) ?_
  refine fs_Jgi S hG fs_in12 rfl 0 (Nat.le_of_ble_eq_true rfl) tw_5_192 (fun _ h9 => h9) d_Rf_thrown_1 (fun v1 => ?_)
  exact fs_Jiret S hr hk rfl d_Rf_thrown_4

theorem d_Rf_noExporter_0 : decode prog_13_method_3_code 0 = .ok (.iload_n 1, 1) := by decide +kernel
theorem d_Rf_noExporter_1 : decode prog_13_method_3_code 1 = .ok (.ifCond .lt 8, 3) := by decide +kernel
theorem d_Rf_noExporter_4 : decode prog_13_method_3_code 4 = .ok (.iload_n 1, 1) := by decide +kernel
theorem d_Rf_noExporter_5 : decode prog_13_method_3_code 5 = .ok (.iconst 1, 1) := by decide +kernel
theorem d_Rf_noExporter_6 : decode prog_13_method_3_code 6 = .ok (.if_icmp .le 7, 3) := by decide +kernel
theorem d_Rf_noExporter_9 : decode prog_13_method_3_code 9 = .ok (.iconst 1, 1) := by decide +kernel
theorem d_Rf_noExporter_10 : decode prog_13_method_3_code 10 = .ok (.goto 4, 3) := by decide +kernel
theorem d_Rf_noExporter_13 : decode prog_13_method_3_code 13 = .ok (.iconst 0, 1) := by decide +kernel
theorem d_Rf_noExporter_14 : decode prog_13_method_3_code 14 = .ok (.ireturn, 1) := by decide +kernel
theorem q_Rf_noExporter : (⟨"FlowShelfModel", "noExporter", "(I)Z"⟩ : MethodName).cls ≠ "java/lang/invoke/MethodHandle" ∧ (⟨"FlowShelfModel", "noExporter", "(I)Z"⟩ : MethodName).cls ≠ "java/lang/invoke/VarHandle" ∧ (parseMethodDescriptor (⟨"FlowShelfModel", "noExporter", "(I)Z"⟩ : MethodName).desc).map (fun d => d.parameters.length) = some 1 := by decide +kernel
set_option maxHeartbeats 4000000 in
set_option maxRecDepth 100000 in
theorem m_Rf_noExporter (X : fs_X) (l : Launch) (a0 : Nat) (x1 : Int32) {r : Int32} {σ σF : fs_S} (h : (f_Rf_noExporter a0 x1).1 σ = some (r, σF)) : fs_Met X l ⟨"FlowShelfModel", "noExporter", "(I)Z"⟩ (Cond.code ⟨"FlowShelfModel", "noExporter", "(I)Z"⟩ prog_13_method_3_code 2 (some FieldType.boolean)) 0 0 [.ref a0, .int x1] σ (fs_eI r) σF := by
  refine fs_ofW (by decide) ?_
  intro p e s m args below meth c s₁ B hml hT hv
  obtain ⟨rfl, hw0, hG⟩ := hv
  have hx := B.exec
  have hb := B.bytes
  have hr := B.returns
  have hk := B.notSynchronized
  have S : CallFix p m c prog_13_method_3_code 2 s _ fs_ws "FlowShelfModel" := ⟨B.exec, B.bytes, hml, findClass_of_methodNamed B.named, fun w hw => atoms_spec (ws := _ :: fs_ws) B.pre w (List.mem_cons_of_mem _ hw)⟩
  have hR := fs_hR (fr := 0) (lo := 0) ((f_Rf_noExporter a0 x1).2 _ _ _ h)
  have hl := lv_entry ([.ref a0, .int x1]) (n := 2) (Nat.le_of_ble_eq_true rfl)
  rw [lg_entry_eq]
  generalize (lg_sl ([.ref a0, .int x1]) ++ List.replicate (2 - (lg_sl ([.ref a0, .int x1])).length) Slot.unset).toArray = ls at hl ⊢
  have hl : lv_has ls 2 [(0, .ref a0), (1, .int x1)] := hl
  refine (?_ : fs_J X p l e (fs_rm 0 0 σ σF) s m _ below meth c (fs_Q X below _ s (fs_eI r) σ σF) r σ σF (f_Rf_noExporter a0 x1) (F0 m 0 ls [])) σ s.heap [] 0 0 h hw0 va_S.rf rfl rfl
  clear h hw0
  unfold f_Rf_noExporter
  refine fs_lift (fun _ _ _ _ => lv_iload_n hx hb d_Rf_noExporter_0 rfl (lv_at hl 1 rfl)) ?_
  refine fs_if (fun _ _ _ _ => lv_if_lt hx hb d_Rf_noExporter_1 rfl) ?_ ?_
  · refine fs_lift (fun _ _ _ _ => lv_iconst (v := 1) hx hb d_Rf_noExporter_9 (by decide)) ?_
    refine fs_lift (fun _ _ _ _ => lv_goto hx hb d_Rf_noExporter_10 rfl) ?_
    exact fs_Jzret S hr hk rfl d_Rf_noExporter_14
  · refine fs_lift (fun _ _ _ _ => lv_iload_n hx hb d_Rf_noExporter_4 rfl (lv_at hl 1 rfl)) ?_
    refine fs_lift (fun _ _ _ _ => lv_iconst (v := 1) hx hb d_Rf_noExporter_5 (by decide)) ?_
    refine fs_if (fun _ _ _ _ => lv_icmp_le hx hb d_Rf_noExporter_6 rfl) ?_ ?_
    · refine fs_lift (fun _ _ _ _ => lv_iconst (v := 0) hx hb d_Rf_noExporter_13 (by decide)) ?_
      exact fs_Jzret S hr hk rfl d_Rf_noExporter_14
    · refine fs_lift (fun _ _ _ _ => lv_iconst (v := 1) hx hb d_Rf_noExporter_9 (by decide)) ?_
      refine fs_lift (fun _ _ _ _ => lv_goto hx hb d_Rf_noExporter_10 rfl) ?_
      exact fs_Jzret S hr hk rfl d_Rf_noExporter_14

theorem d_Rf_noByte_0 : decode prog_13_method_4_code 0 = .ok (.iload_n 1, 1) := by decide +kernel
theorem d_Rf_noByte_1 : decode prog_13_method_4_code 1 = .ok (.ifCond .lt 10, 3) := by decide +kernel
theorem d_Rf_noByte_4 : decode prog_13_method_4_code 4 = .ok (.iload_n 1, 1) := by decide +kernel
theorem d_Rf_noByte_5 : decode prog_13_method_4_code 5 = .ok (.sipush 255, 3) := by decide +kernel
theorem d_Rf_noByte_8 : decode prog_13_method_4_code 8 = .ok (.if_icmp .le 7, 3) := by decide +kernel
theorem d_Rf_noByte_11 : decode prog_13_method_4_code 11 = .ok (.iconst 1, 1) := by decide +kernel
theorem d_Rf_noByte_12 : decode prog_13_method_4_code 12 = .ok (.goto 4, 3) := by decide +kernel
theorem d_Rf_noByte_15 : decode prog_13_method_4_code 15 = .ok (.iconst 0, 1) := by decide +kernel
theorem d_Rf_noByte_16 : decode prog_13_method_4_code 16 = .ok (.ireturn, 1) := by decide +kernel
theorem q_Rf_noByte : (⟨"FlowShelfModel", "noByte", "(I)Z"⟩ : MethodName).cls ≠ "java/lang/invoke/MethodHandle" ∧ (⟨"FlowShelfModel", "noByte", "(I)Z"⟩ : MethodName).cls ≠ "java/lang/invoke/VarHandle" ∧ (parseMethodDescriptor (⟨"FlowShelfModel", "noByte", "(I)Z"⟩ : MethodName).desc).map (fun d => d.parameters.length) = some 1 := by decide +kernel
set_option maxHeartbeats 4000000 in
set_option maxRecDepth 100000 in
theorem m_Rf_noByte (X : fs_X) (l : Launch) (a0 : Nat) (x1 : Int32) {r : Int32} {σ σF : fs_S} (h : (f_Rf_noByte a0 x1).1 σ = some (r, σF)) : fs_Met X l ⟨"FlowShelfModel", "noByte", "(I)Z"⟩ (Cond.code ⟨"FlowShelfModel", "noByte", "(I)Z"⟩ prog_13_method_4_code 2 (some FieldType.boolean)) 0 0 [.ref a0, .int x1] σ (fs_eI r) σF := by
  refine fs_ofW (by decide) ?_
  intro p e s m args below meth c s₁ B hml hT hv
  obtain ⟨rfl, hw0, hG⟩ := hv
  have hx := B.exec
  have hb := B.bytes
  have hr := B.returns
  have hk := B.notSynchronized
  have S : CallFix p m c prog_13_method_4_code 2 s _ fs_ws "FlowShelfModel" := ⟨B.exec, B.bytes, hml, findClass_of_methodNamed B.named, fun w hw => atoms_spec (ws := _ :: fs_ws) B.pre w (List.mem_cons_of_mem _ hw)⟩
  have hR := fs_hR (fr := 0) (lo := 0) ((f_Rf_noByte a0 x1).2 _ _ _ h)
  have hl := lv_entry ([.ref a0, .int x1]) (n := 2) (Nat.le_of_ble_eq_true rfl)
  rw [lg_entry_eq]
  generalize (lg_sl ([.ref a0, .int x1]) ++ List.replicate (2 - (lg_sl ([.ref a0, .int x1])).length) Slot.unset).toArray = ls at hl ⊢
  have hl : lv_has ls 2 [(0, .ref a0), (1, .int x1)] := hl
  refine (?_ : fs_J X p l e (fs_rm 0 0 σ σF) s m _ below meth c (fs_Q X below _ s (fs_eI r) σ σF) r σ σF (f_Rf_noByte a0 x1) (F0 m 0 ls [])) σ s.heap [] 0 0 h hw0 va_S.rf rfl rfl
  clear h hw0
  unfold f_Rf_noByte
  refine fs_lift (fun _ _ _ _ => lv_iload_n hx hb d_Rf_noByte_0 rfl (lv_at hl 1 rfl)) ?_
  refine fs_if (fun _ _ _ _ => lv_if_lt hx hb d_Rf_noByte_1 rfl) ?_ ?_
  · refine fs_lift (fun _ _ _ _ => lv_iconst (v := 1) hx hb d_Rf_noByte_11 (by decide)) ?_
    refine fs_lift (fun _ _ _ _ => lv_goto hx hb d_Rf_noByte_12 rfl) ?_
    exact fs_Jzret S hr hk rfl d_Rf_noByte_16
  · refine fs_lift (fun _ _ _ _ => lv_iload_n hx hb d_Rf_noByte_4 rfl (lv_at hl 1 rfl)) ?_
    refine fs_lift (fun _ _ _ _ => lv_sipush (v := 255) hx hb d_Rf_noByte_5 (by decide)) ?_
    refine fs_if (fun _ _ _ _ => lv_icmp_le hx hb d_Rf_noByte_8 rfl) ?_ ?_
    · refine fs_lift (fun _ _ _ _ => lv_iconst (v := 0) hx hb d_Rf_noByte_15 (by decide)) ?_
      exact fs_Jzret S hr hk rfl d_Rf_noByte_16
    · refine fs_lift (fun _ _ _ _ => lv_iconst (v := 1) hx hb d_Rf_noByte_11 (by decide)) ?_
      refine fs_lift (fun _ _ _ _ => lv_goto hx hb d_Rf_noByte_12 rfl) ?_
      exact fs_Jzret S hr hk rfl d_Rf_noByte_16

theorem d_Rf_end_0 : decode prog_13_method_5_code 0 = .ok (.bipush 6, 2) := by decide +kernel
theorem d_Rf_end_2 : decode prog_13_method_5_code 2 = .ok (.iload_n 1, 1) := by decide +kernel
theorem d_Rf_end_3 : decode prog_13_method_5_code 3 = .ok (.imul, 1) := by decide +kernel
theorem d_Rf_end_4 : decode prog_13_method_5_code 4 = .ok (.iload_n 2, 1) := by decide +kernel
theorem d_Rf_end_5 : decode prog_13_method_5_code 5 = .ok (.iadd, 1) := by decide +kernel
theorem d_Rf_end_6 : decode prog_13_method_5_code 6 = .ok (.istore 4, 2) := by decide +kernel
theorem d_Rf_end_8 : decode prog_13_method_5_code 8 = .ok (.bipush 8, 2) := by decide +kernel
theorem d_Rf_end_10 : decode prog_13_method_5_code 10 = .ok (.bipush 21, 2) := by decide +kernel
theorem d_Rf_end_12 : decode prog_13_method_5_code 12 = .ok (.iload_n 1, 1) := by decide +kernel
theorem d_Rf_end_13 : decode prog_13_method_5_code 13 = .ok (.imul, 1) := by decide +kernel
theorem d_Rf_end_14 : decode prog_13_method_5_code 14 = .ok (.aload_n 0, 1) := by decide +kernel
theorem d_Rf_end_15 : decode prog_13_method_5_code 15 = .ok (.getfield 46, 3) := by decide +kernel
theorem d_Rf_end_18 : decode prog_13_method_5_code 18 = .ok (.iload_n 1, 1) := by decide +kernel
theorem d_Rf_end_19 : decode prog_13_method_5_code 19 = .ok (.iaload, 1) := by decide +kernel
theorem d_Rf_end_20 : decode prog_13_method_5_code 20 = .ok (.iadd, 1) := by decide +kernel
theorem d_Rf_end_21 : decode prog_13_method_5_code 21 = .ok (.imul, 1) := by decide +kernel
theorem d_Rf_end_22 : decode prog_13_method_5_code 22 = .ok (.istore 5, 2) := by decide +kernel
theorem d_Rf_end_24 : decode prog_13_method_5_code 24 = .ok (.aload_n 0, 1) := by decide +kernel
theorem d_Rf_end_25 : decode prog_13_method_5_code 25 = .ok (.getfield 49, 3) := by decide +kernel
theorem d_Rf_end_28 : decode prog_13_method_5_code 28 = .ok (.iload 5, 2) := by decide +kernel
theorem d_Rf_end_30 : decode prog_13_method_5_code 30 = .ok (.aload_n 0, 1) := by decide +kernel
theorem d_Rf_end_31 : decode prog_13_method_5_code 31 = .ok (.getfield 31, 3) := by decide +kernel
theorem d_Rf_end_34 : decode prog_13_method_5_code 34 = .ok (.iload 4, 2) := by decide +kernel
theorem d_Rf_end_36 : decode prog_13_method_5_code 36 = .ok (.iaload, 1) := by decide +kernel
theorem d_Rf_end_37 : decode prog_13_method_5_code 37 = .ok (.bipush 16, 2) := by decide +kernel
theorem d_Rf_end_39 : decode prog_13_method_5_code 39 = .ok (.ishr, 1) := by decide +kernel
theorem d_Rf_end_40 : decode prog_13_method_5_code 40 = .ok (.iastore, 1) := by decide +kernel
theorem d_Rf_end_41 : decode prog_13_method_5_code 41 = .ok (.aload_n 0, 1) := by decide +kernel
theorem d_Rf_end_42 : decode prog_13_method_5_code 42 = .ok (.getfield 49, 3) := by decide +kernel
theorem d_Rf_end_45 : decode prog_13_method_5_code 45 = .ok (.iload 5, 2) := by decide +kernel
theorem d_Rf_end_47 : decode prog_13_method_5_code 47 = .ok (.iconst 1, 1) := by decide +kernel
theorem d_Rf_end_48 : decode prog_13_method_5_code 48 = .ok (.iadd, 1) := by decide +kernel
theorem d_Rf_end_49 : decode prog_13_method_5_code 49 = .ok (.aload_n 0, 1) := by decide +kernel
theorem d_Rf_end_50 : decode prog_13_method_5_code 50 = .ok (.getfield 31, 3) := by decide +kernel
theorem d_Rf_end_53 : decode prog_13_method_5_code 53 = .ok (.iload 4, 2) := by decide +kernel
theorem d_Rf_end_55 : decode prog_13_method_5_code 55 = .ok (.iaload, 1) := by decide +kernel
theorem d_Rf_end_56 : decode prog_13_method_5_code 56 = .ok (.bipush 8, 2) := by decide +kernel
theorem d_Rf_end_58 : decode prog_13_method_5_code 58 = .ok (.ishr, 1) := by decide +kernel
theorem d_Rf_end_59 : decode prog_13_method_5_code 59 = .ok (.sipush 255, 3) := by decide +kernel
theorem d_Rf_end_62 : decode prog_13_method_5_code 62 = .ok (.iand, 1) := by decide +kernel
theorem d_Rf_end_63 : decode prog_13_method_5_code 63 = .ok (.iastore, 1) := by decide +kernel
theorem d_Rf_end_64 : decode prog_13_method_5_code 64 = .ok (.aload_n 0, 1) := by decide +kernel
theorem d_Rf_end_65 : decode prog_13_method_5_code 65 = .ok (.getfield 49, 3) := by decide +kernel
theorem d_Rf_end_68 : decode prog_13_method_5_code 68 = .ok (.iload 5, 2) := by decide +kernel
theorem d_Rf_end_70 : decode prog_13_method_5_code 70 = .ok (.iconst 2, 1) := by decide +kernel
theorem d_Rf_end_71 : decode prog_13_method_5_code 71 = .ok (.iadd, 1) := by decide +kernel
theorem d_Rf_end_72 : decode prog_13_method_5_code 72 = .ok (.aload_n 0, 1) := by decide +kernel
theorem d_Rf_end_73 : decode prog_13_method_5_code 73 = .ok (.getfield 31, 3) := by decide +kernel
theorem d_Rf_end_76 : decode prog_13_method_5_code 76 = .ok (.iload 4, 2) := by decide +kernel
theorem d_Rf_end_78 : decode prog_13_method_5_code 78 = .ok (.iaload, 1) := by decide +kernel
theorem d_Rf_end_79 : decode prog_13_method_5_code 79 = .ok (.sipush 255, 3) := by decide +kernel
theorem d_Rf_end_82 : decode prog_13_method_5_code 82 = .ok (.iand, 1) := by decide +kernel
theorem d_Rf_end_83 : decode prog_13_method_5_code 83 = .ok (.iastore, 1) := by decide +kernel
theorem d_Rf_end_84 : decode prog_13_method_5_code 84 = .ok (.aload_n 0, 1) := by decide +kernel
theorem d_Rf_end_85 : decode prog_13_method_5_code 85 = .ok (.getfield 49, 3) := by decide +kernel
theorem d_Rf_end_88 : decode prog_13_method_5_code 88 = .ok (.iload 5, 2) := by decide +kernel
theorem d_Rf_end_90 : decode prog_13_method_5_code 90 = .ok (.iconst 3, 1) := by decide +kernel
theorem d_Rf_end_91 : decode prog_13_method_5_code 91 = .ok (.iadd, 1) := by decide +kernel
theorem d_Rf_end_92 : decode prog_13_method_5_code 92 = .ok (.aload_n 0, 1) := by decide +kernel
theorem d_Rf_end_93 : decode prog_13_method_5_code 93 = .ok (.getfield 34, 3) := by decide +kernel
theorem d_Rf_end_96 : decode prog_13_method_5_code 96 = .ok (.iload 4, 2) := by decide +kernel
theorem d_Rf_end_98 : decode prog_13_method_5_code 98 = .ok (.iaload, 1) := by decide +kernel
theorem d_Rf_end_99 : decode prog_13_method_5_code 99 = .ok (.iastore, 1) := by decide +kernel
theorem d_Rf_end_100 : decode prog_13_method_5_code 100 = .ok (.aload_n 0, 1) := by decide +kernel
theorem d_Rf_end_101 : decode prog_13_method_5_code 101 = .ok (.getfield 49, 3) := by decide +kernel
theorem d_Rf_end_104 : decode prog_13_method_5_code 104 = .ok (.iload 5, 2) := by decide +kernel
theorem d_Rf_end_106 : decode prog_13_method_5_code 106 = .ok (.iconst 4, 1) := by decide +kernel
theorem d_Rf_end_107 : decode prog_13_method_5_code 107 = .ok (.iadd, 1) := by decide +kernel
theorem d_Rf_end_108 : decode prog_13_method_5_code 108 = .ok (.aload_n 0, 1) := by decide +kernel
theorem d_Rf_end_109 : decode prog_13_method_5_code 109 = .ok (.getfield 37, 3) := by decide +kernel
theorem d_Rf_end_112 : decode prog_13_method_5_code 112 = .ok (.iload 4, 2) := by decide +kernel
theorem d_Rf_end_114 : decode prog_13_method_5_code 114 = .ok (.iaload, 1) := by decide +kernel
theorem d_Rf_end_115 : decode prog_13_method_5_code 115 = .ok (.iastore, 1) := by decide +kernel
theorem d_Rf_end_116 : decode prog_13_method_5_code 116 = .ok (.aload_n 0, 1) := by decide +kernel
theorem d_Rf_end_117 : decode prog_13_method_5_code 117 = .ok (.getfield 49, 3) := by decide +kernel
theorem d_Rf_end_120 : decode prog_13_method_5_code 120 = .ok (.iload 5, 2) := by decide +kernel
theorem d_Rf_end_122 : decode prog_13_method_5_code 122 = .ok (.iconst 5, 1) := by decide +kernel
theorem d_Rf_end_123 : decode prog_13_method_5_code 123 = .ok (.iadd, 1) := by decide +kernel
theorem d_Rf_end_124 : decode prog_13_method_5_code 124 = .ok (.aload_n 0, 1) := by decide +kernel
theorem d_Rf_end_125 : decode prog_13_method_5_code 125 = .ok (.getfield 40, 3) := by decide +kernel
theorem d_Rf_end_128 : decode prog_13_method_5_code 128 = .ok (.iload 4, 2) := by decide +kernel
theorem d_Rf_end_130 : decode prog_13_method_5_code 130 = .ok (.iaload, 1) := by decide +kernel
theorem d_Rf_end_131 : decode prog_13_method_5_code 131 = .ok (.iastore, 1) := by decide +kernel
theorem d_Rf_end_132 : decode prog_13_method_5_code 132 = .ok (.aload_n 0, 1) := by decide +kernel
theorem d_Rf_end_133 : decode prog_13_method_5_code 133 = .ok (.getfield 49, 3) := by decide +kernel
theorem d_Rf_end_136 : decode prog_13_method_5_code 136 = .ok (.iload 5, 2) := by decide +kernel
theorem d_Rf_end_138 : decode prog_13_method_5_code 138 = .ok (.bipush 6, 2) := by decide +kernel
theorem d_Rf_end_140 : decode prog_13_method_5_code 140 = .ok (.iadd, 1) := by decide +kernel
theorem d_Rf_end_141 : decode prog_13_method_5_code 141 = .ok (.aload_n 0, 1) := by decide +kernel
theorem d_Rf_end_142 : decode prog_13_method_5_code 142 = .ok (.getfield 7, 3) := by decide +kernel
theorem d_Rf_end_145 : decode prog_13_method_5_code 145 = .ok (.iload_n 1, 1) := by decide +kernel
theorem d_Rf_end_146 : decode prog_13_method_5_code 146 = .ok (.iaload, 1) := by decide +kernel
theorem d_Rf_end_147 : decode prog_13_method_5_code 147 = .ok (.iastore, 1) := by decide +kernel
theorem d_Rf_end_148 : decode prog_13_method_5_code 148 = .ok (.aload_n 0, 1) := by decide +kernel
theorem d_Rf_end_149 : decode prog_13_method_5_code 149 = .ok (.getfield 49, 3) := by decide +kernel
theorem d_Rf_end_152 : decode prog_13_method_5_code 152 = .ok (.iload 5, 2) := by decide +kernel
theorem d_Rf_end_154 : decode prog_13_method_5_code 154 = .ok (.bipush 7, 2) := by decide +kernel
theorem d_Rf_end_156 : decode prog_13_method_5_code 156 = .ok (.iadd, 1) := by decide +kernel
theorem d_Rf_end_157 : decode prog_13_method_5_code 157 = .ok (.iload_n 3, 1) := by decide +kernel
theorem d_Rf_end_158 : decode prog_13_method_5_code 158 = .ok (.iastore, 1) := by decide +kernel
theorem d_Rf_end_159 : decode prog_13_method_5_code 159 = .ok (.aload_n 0, 1) := by decide +kernel
theorem d_Rf_end_160 : decode prog_13_method_5_code 160 = .ok (.getfield 46, 3) := by decide +kernel
theorem d_Rf_end_163 : decode prog_13_method_5_code 163 = .ok (.iload_n 1, 1) := by decide +kernel
theorem d_Rf_end_164 : decode prog_13_method_5_code 164 = .ok (.dup2, 1) := by decide +kernel
theorem d_Rf_end_165 : decode prog_13_method_5_code 165 = .ok (.iaload, 1) := by decide +kernel
theorem d_Rf_end_166 : decode prog_13_method_5_code 166 = .ok (.iconst 1, 1) := by decide +kernel
theorem d_Rf_end_167 : decode prog_13_method_5_code 167 = .ok (.iadd, 1) := by decide +kernel
theorem d_Rf_end_168 : decode prog_13_method_5_code 168 = .ok (.iastore, 1) := by decide +kernel
theorem d_Rf_end_169 : decode prog_13_method_5_code 169 = .ok (.aload_n 0, 1) := by decide +kernel
theorem d_Rf_end_170 : decode prog_13_method_5_code 170 = .ok (.getfield 28, 3) := by decide +kernel
theorem d_Rf_end_173 : decode prog_13_method_5_code 173 = .ok (.iload_n 1, 1) := by decide +kernel
theorem d_Rf_end_174 : decode prog_13_method_5_code 174 = .ok (.dup2, 1) := by decide +kernel
theorem d_Rf_end_175 : decode prog_13_method_5_code 175 = .ok (.iaload, 1) := by decide +kernel
theorem d_Rf_end_176 : decode prog_13_method_5_code 176 = .ok (.iconst 1, 1) := by decide +kernel
theorem d_Rf_end_177 : decode prog_13_method_5_code 177 = .ok (.isub, 1) := by decide +kernel
theorem d_Rf_end_178 : decode prog_13_method_5_code 178 = .ok (.iastore, 1) := by decide +kernel
theorem d_Rf_end_179 : decode prog_13_method_5_code 179 = .ok (.iload 4, 2) := by decide +kernel
theorem d_Rf_end_181 : decode prog_13_method_5_code 181 = .ok (.istore 6, 2) := by decide +kernel
theorem d_Rf_end_183 : decode prog_13_method_5_code 183 = .ok (.iload 6, 2) := by decide +kernel
theorem d_Rf_end_185 : decode prog_13_method_5_code 185 = .ok (.bipush 6, 2) := by decide +kernel
theorem d_Rf_end_187 : decode prog_13_method_5_code 187 = .ok (.iload_n 1, 1) := by decide +kernel
theorem d_Rf_end_188 : decode prog_13_method_5_code 188 = .ok (.imul, 1) := by decide +kernel
theorem d_Rf_end_189 : decode prog_13_method_5_code 189 = .ok (.aload_n 0, 1) := by decide +kernel
theorem d_Rf_end_190 : decode prog_13_method_5_code 190 = .ok (.getfield 28, 3) := by decide +kernel
theorem d_Rf_end_193 : decode prog_13_method_5_code 193 = .ok (.iload_n 1, 1) := by decide +kernel
theorem d_Rf_end_194 : decode prog_13_method_5_code 194 = .ok (.iaload, 1) := by decide +kernel
theorem d_Rf_end_195 : decode prog_13_method_5_code 195 = .ok (.iadd, 1) := by decide +kernel
theorem d_Rf_end_196 : decode prog_13_method_5_code 196 = .ok (.if_icmp .ge 89, 3) := by decide +kernel
theorem d_Rf_end_199 : decode prog_13_method_5_code 199 = .ok (.aload_n 0, 1) := by decide +kernel
theorem d_Rf_end_200 : decode prog_13_method_5_code 200 = .ok (.getfield 31, 3) := by decide +kernel
theorem d_Rf_end_203 : decode prog_13_method_5_code 203 = .ok (.iload 6, 2) := by decide +kernel
theorem d_Rf_end_205 : decode prog_13_method_5_code 205 = .ok (.aload_n 0, 1) := by decide +kernel
theorem d_Rf_end_206 : decode prog_13_method_5_code 206 = .ok (.getfield 31, 3) := by decide +kernel
theorem d_Rf_end_209 : decode prog_13_method_5_code 209 = .ok (.iload 6, 2) := by decide +kernel
theorem d_Rf_end_211 : decode prog_13_method_5_code 211 = .ok (.iconst 1, 1) := by decide +kernel
theorem d_Rf_end_212 : decode prog_13_method_5_code 212 = .ok (.iadd, 1) := by decide +kernel
theorem d_Rf_end_213 : decode prog_13_method_5_code 213 = .ok (.iaload, 1) := by decide +kernel
theorem d_Rf_end_214 : decode prog_13_method_5_code 214 = .ok (.iastore, 1) := by decide +kernel
theorem d_Rf_end_215 : decode prog_13_method_5_code 215 = .ok (.aload_n 0, 1) := by decide +kernel
theorem d_Rf_end_216 : decode prog_13_method_5_code 216 = .ok (.getfield 34, 3) := by decide +kernel
theorem d_Rf_end_219 : decode prog_13_method_5_code 219 = .ok (.iload 6, 2) := by decide +kernel
theorem d_Rf_end_221 : decode prog_13_method_5_code 221 = .ok (.aload_n 0, 1) := by decide +kernel
theorem d_Rf_end_222 : decode prog_13_method_5_code 222 = .ok (.getfield 34, 3) := by decide +kernel
theorem d_Rf_end_225 : decode prog_13_method_5_code 225 = .ok (.iload 6, 2) := by decide +kernel
theorem d_Rf_end_227 : decode prog_13_method_5_code 227 = .ok (.iconst 1, 1) := by decide +kernel
theorem d_Rf_end_228 : decode prog_13_method_5_code 228 = .ok (.iadd, 1) := by decide +kernel
theorem d_Rf_end_229 : decode prog_13_method_5_code 229 = .ok (.iaload, 1) := by decide +kernel
theorem d_Rf_end_230 : decode prog_13_method_5_code 230 = .ok (.iastore, 1) := by decide +kernel
theorem d_Rf_end_231 : decode prog_13_method_5_code 231 = .ok (.aload_n 0, 1) := by decide +kernel
theorem d_Rf_end_232 : decode prog_13_method_5_code 232 = .ok (.getfield 37, 3) := by decide +kernel
theorem d_Rf_end_235 : decode prog_13_method_5_code 235 = .ok (.iload 6, 2) := by decide +kernel
theorem d_Rf_end_237 : decode prog_13_method_5_code 237 = .ok (.aload_n 0, 1) := by decide +kernel
theorem d_Rf_end_238 : decode prog_13_method_5_code 238 = .ok (.getfield 37, 3) := by decide +kernel
theorem d_Rf_end_241 : decode prog_13_method_5_code 241 = .ok (.iload 6, 2) := by decide +kernel
theorem d_Rf_end_243 : decode prog_13_method_5_code 243 = .ok (.iconst 1, 1) := by decide +kernel
theorem d_Rf_end_244 : decode prog_13_method_5_code 244 = .ok (.iadd, 1) := by decide +kernel
theorem d_Rf_end_245 : decode prog_13_method_5_code 245 = .ok (.iaload, 1) := by decide +kernel
theorem d_Rf_end_246 : decode prog_13_method_5_code 246 = .ok (.iastore, 1) := by decide +kernel
theorem d_Rf_end_247 : decode prog_13_method_5_code 247 = .ok (.aload_n 0, 1) := by decide +kernel
theorem d_Rf_end_248 : decode prog_13_method_5_code 248 = .ok (.getfield 40, 3) := by decide +kernel
theorem d_Rf_end_251 : decode prog_13_method_5_code 251 = .ok (.iload 6, 2) := by decide +kernel
theorem d_Rf_end_253 : decode prog_13_method_5_code 253 = .ok (.aload_n 0, 1) := by decide +kernel
theorem d_Rf_end_254 : decode prog_13_method_5_code 254 = .ok (.getfield 40, 3) := by decide +kernel
theorem d_Rf_end_257 : decode prog_13_method_5_code 257 = .ok (.iload 6, 2) := by decide +kernel
theorem d_Rf_end_259 : decode prog_13_method_5_code 259 = .ok (.iconst 1, 1) := by decide +kernel
theorem d_Rf_end_260 : decode prog_13_method_5_code 260 = .ok (.iadd, 1) := by decide +kernel
theorem d_Rf_end_261 : decode prog_13_method_5_code 261 = .ok (.iaload, 1) := by decide +kernel
theorem d_Rf_end_262 : decode prog_13_method_5_code 262 = .ok (.iastore, 1) := by decide +kernel
theorem d_Rf_end_263 : decode prog_13_method_5_code 263 = .ok (.aload_n 0, 1) := by decide +kernel
theorem d_Rf_end_264 : decode prog_13_method_5_code 264 = .ok (.getfield 43, 3) := by decide +kernel
theorem d_Rf_end_267 : decode prog_13_method_5_code 267 = .ok (.iload 6, 2) := by decide +kernel
theorem d_Rf_end_269 : decode prog_13_method_5_code 269 = .ok (.aload_n 0, 1) := by decide +kernel
theorem d_Rf_end_270 : decode prog_13_method_5_code 270 = .ok (.getfield 43, 3) := by decide +kernel
theorem d_Rf_end_273 : decode prog_13_method_5_code 273 = .ok (.iload 6, 2) := by decide +kernel
theorem d_Rf_end_275 : decode prog_13_method_5_code 275 = .ok (.iconst 1, 1) := by decide +kernel
theorem d_Rf_end_276 : decode prog_13_method_5_code 276 = .ok (.iadd, 1) := by decide +kernel
theorem d_Rf_end_277 : decode prog_13_method_5_code 277 = .ok (.iaload, 1) := by decide +kernel
theorem d_Rf_end_278 : decode prog_13_method_5_code 278 = .ok (.iastore, 1) := by decide +kernel
theorem d_Rf_end_279 : decode prog_13_method_5_code 279 = .ok (.iinc 6 1, 3) := by decide +kernel
theorem d_Rf_end_282 : decode prog_13_method_5_code 282 = .ok (.goto (-99), 3) := by decide +kernel
theorem d_Rf_end_285 : decode prog_13_method_5_code 285 = .ok (.return_, 1) := by decide +kernel
theorem q_Rf_end : (⟨"FlowShelfModel", "end", "(III)V"⟩ : MethodName).cls ≠ "java/lang/invoke/MethodHandle" ∧ (⟨"FlowShelfModel", "end", "(III)V"⟩ : MethodName).cls ≠ "java/lang/invoke/VarHandle" ∧ (parseMethodDescriptor (⟨"FlowShelfModel", "end", "(III)V"⟩ : MethodName).desc).map (fun d => d.parameters.length) = some 3 := by decide +kernel
set_option maxHeartbeats 4000000 in
set_option maxRecDepth 100000 in
theorem m_Rf_end (X : fs_X) (l : Launch) (a0 : Nat) (x1 : Int32) (x2 : Int32) (x3 : Int32) {r : Unit} {σ σF : fs_S} (h : (f_Rf_end a0 x1 x2 x3).1 σ = some (r, σF)) : fs_Met X l ⟨"FlowShelfModel", "end", "(III)V"⟩ (Cond.code ⟨"FlowShelfModel", "end", "(III)V"⟩ prog_13_method_5_code 7 none) 0 0 [.ref a0, .int x1, .int x2, .int x3] σ (fs_eV r) σF := by
  refine fs_ofW (by decide) ?_
  intro p e s m args below meth c s₁ B hml hT hv
  obtain ⟨rfl, hw0, hG⟩ := hv
  have hx := B.exec
  have hb := B.bytes
  have hr := B.returns
  have hk := B.notSynchronized
  have S : CallFix p m c prog_13_method_5_code 7 s _ fs_ws "FlowShelfModel" := ⟨B.exec, B.bytes, hml, findClass_of_methodNamed B.named, fun w hw => atoms_spec (ws := _ :: fs_ws) B.pre w (List.mem_cons_of_mem _ hw)⟩
  have hR := fs_hR (fr := 0) (lo := 0) ((f_Rf_end a0 x1 x2 x3).2 _ _ _ h)
  have hl := lv_entry ([.ref a0, .int x1, .int x2, .int x3]) (n := 7) (Nat.le_of_ble_eq_true rfl)
  rw [lg_entry_eq]
  generalize (lg_sl ([.ref a0, .int x1, .int x2, .int x3]) ++ List.replicate (7 - (lg_sl ([.ref a0, .int x1, .int x2, .int x3])).length) Slot.unset).toArray = ls at hl ⊢
  have hl : lv_has ls 7 [(0, .ref a0), (1, .int x1), (2, .int x2), (3, .int x3)] := hl
  refine (?_ : fs_J X p l e (fs_rm 0 0 σ σF) s m _ below meth c (fs_Q X below _ s (fs_eV r) σ σF) r σ σF (f_Rf_end a0 x1 x2 x3) (F0 m 0 ls [])) σ s.heap [] 0 0 h hw0 va_S.rf rfl rfl
  clear h hw0
  unfold f_Rf_end
  refine fs_lift (fun _ _ _ _ => lv_bipush (v := 6) hx hb d_Rf_end_0 (by decide)) ?_
  refine fs_lift (fun _ _ _ _ => lv_iload_n hx hb d_Rf_end_2 rfl (lv_at hl 1 rfl)) ?_
  refine fs_lift (fun _ _ _ _ => lv_imul hx hb d_Rf_end_3) ?_
  refine fs_lift (fun _ _ _ _ => lv_iload_n hx hb d_Rf_end_4 rfl (lv_at hl 2 rfl)) ?_
  refine fs_lift (fun _ _ _ _ => lv_iadd hx hb d_Rf_end_5) ?_
  refine fs_Jni (fun v1 => ?_)
  refine fs_liftL (fun _ _ _ _ => lv_istore (lv' := [(4, .int v1), (0, .ref a0), (1, .int x1), (2, .int x2), (3, .int x3)]) hx hb d_Rf_end_6 hl (Nat.le_of_ble_eq_true rfl) rfl) (fun ls hl => ?_)
  refine fs_lift (fun _ _ _ _ => lv_bipush (v := 8) hx hb d_Rf_end_8 (by decide)) ?_
  refine fs_lift (fun _ _ _ _ => lv_bipush (v := 21) hx hb d_Rf_end_10 (by decide)) ?_
  refine fs_lift (fun _ _ _ _ => lv_iload_n hx hb d_Rf_end_12 rfl (lv_at hl 2 rfl)) ?_
  refine fs_lift (fun _ _ _ _ => lv_imul hx hb d_Rf_end_13) ?_
  refine fs_lift (fun _ _ _ _ => lv_aload_n hx hb d_Rf_end_14 rfl (lv_at hl 1 rfl)) ?_
  refine fs_Jgr S hG fs_in12 rfl 13 (Nat.le_of_ble_eq_true rfl) tw_5_205 (fun _ h9 => h9) d_Rf_end_15 (fun r2 => ?_)
  refine fs_lift (fun _ _ _ _ => lv_iload_n hx hb d_Rf_end_18 rfl (lv_at hl 2 rfl)) ?_
  refine fs_Jai S hG d_Rf_end_19 (fun v3 => ?_)
  refine fs_lift (fun _ _ _ _ => lv_iadd hx hb d_Rf_end_20) ?_
  refine fs_lift (fun _ _ _ _ => lv_imul hx hb d_Rf_end_21) ?_
  refine fs_Jni (fun v4 => ?_)
  refine fs_liftL (fun _ _ _ _ => lv_istore (lv' := [(5, .int v4), (4, .int v1), (0, .ref a0), (1, .int x1), (2, .int x2), (3, .int x3)]) hx hb d_Rf_end_22 hl (Nat.le_of_ble_eq_true rfl) rfl) (fun ls hl => ?_)
  refine fs_lift (fun _ _ _ _ => lv_aload_n hx hb d_Rf_end_24 rfl (lv_at hl 2 rfl)) ?_
  refine fs_Jgr S hG fs_in12 rfl 14 (Nat.le_of_ble_eq_true rfl) tw_5_206 (fun _ h9 => h9) d_Rf_end_25 (fun r5 => ?_)
  refine fs_lift (fun _ _ _ _ => lv_iload hx hb d_Rf_end_28 (lv_at hl 0 rfl)) ?_
  refine fs_lift (fun _ _ _ _ => lv_aload_n hx hb d_Rf_end_30 rfl (lv_at hl 2 rfl)) ?_
  refine fs_Jgr S hG fs_in12 rfl 8 (Nat.le_of_ble_eq_true rfl) tw_5_200 (fun _ h9 => h9) d_Rf_end_31 (fun r6 => ?_)
  refine fs_lift (fun _ _ _ _ => lv_iload hx hb d_Rf_end_34 (lv_at hl 1 rfl)) ?_
  refine fs_Jai S hG d_Rf_end_36 (fun v7 => ?_)
  refine fs_lift (fun _ _ _ _ => lv_bipush (v := 16) hx hb d_Rf_end_37 (by decide)) ?_
  refine fs_lift (fun _ _ _ _ => lv_ishr hx hb d_Rf_end_39) ?_
  refine fs_Jsi S hG d_Rf_end_40 ?_
  refine fs_lift (fun _ _ _ _ => lv_aload_n hx hb d_Rf_end_41 rfl (lv_at hl 2 rfl)) ?_
  refine fs_Jgr S hG fs_in12 rfl 14 (Nat.le_of_ble_eq_true rfl) tw_5_206 (fun _ h9 => h9) d_Rf_end_42 (fun r8 => ?_)
  refine fs_lift (fun _ _ _ _ => lv_iload hx hb d_Rf_end_45 (lv_at hl 0 rfl)) ?_
  refine fs_lift (fun _ _ _ _ => lv_iconst (v := 1) hx hb d_Rf_end_47 (by decide)) ?_
  refine fs_lift (fun _ _ _ _ => lv_iadd hx hb d_Rf_end_48) ?_
  refine fs_lift (fun _ _ _ _ => lv_aload_n hx hb d_Rf_end_49 rfl (lv_at hl 2 rfl)) ?_
  refine fs_Jgr S hG fs_in12 rfl 8 (Nat.le_of_ble_eq_true rfl) tw_5_200 (fun _ h9 => h9) d_Rf_end_50 (fun r9 => ?_)
  refine fs_lift (fun _ _ _ _ => lv_iload hx hb d_Rf_end_53 (lv_at hl 1 rfl)) ?_
  refine fs_Jai S hG d_Rf_end_55 (fun v10 => ?_)
  refine fs_lift (fun _ _ _ _ => lv_bipush (v := 8) hx hb d_Rf_end_56 (by decide)) ?_
  refine fs_lift (fun _ _ _ _ => lv_ishr hx hb d_Rf_end_58) ?_
  refine fs_lift (fun _ _ _ _ => lv_sipush (v := 255) hx hb d_Rf_end_59 (by decide)) ?_
  refine fs_lift (fun _ _ _ _ => lv_iand hx hb d_Rf_end_62) ?_
  refine fs_Jsi S hG d_Rf_end_63 ?_
  refine fs_lift (fun _ _ _ _ => lv_aload_n hx hb d_Rf_end_64 rfl (lv_at hl 2 rfl)) ?_
  refine fs_Jgr S hG fs_in12 rfl 14 (Nat.le_of_ble_eq_true rfl) tw_5_206 (fun _ h9 => h9) d_Rf_end_65 (fun r11 => ?_)
  refine fs_lift (fun _ _ _ _ => lv_iload hx hb d_Rf_end_68 (lv_at hl 0 rfl)) ?_
  refine fs_lift (fun _ _ _ _ => lv_iconst (v := 2) hx hb d_Rf_end_70 (by decide)) ?_
  refine fs_lift (fun _ _ _ _ => lv_iadd hx hb d_Rf_end_71) ?_
  refine fs_lift (fun _ _ _ _ => lv_aload_n hx hb d_Rf_end_72 rfl (lv_at hl 2 rfl)) ?_
  refine fs_Jgr S hG fs_in12 rfl 8 (Nat.le_of_ble_eq_true rfl) tw_5_200 (fun _ h9 => h9) d_Rf_end_73 (fun r12 => ?_)
  refine fs_lift (fun _ _ _ _ => lv_iload hx hb d_Rf_end_76 (lv_at hl 1 rfl)) ?_
  refine fs_Jai S hG d_Rf_end_78 (fun v13 => ?_)
  refine fs_lift (fun _ _ _ _ => lv_sipush (v := 255) hx hb d_Rf_end_79 (by decide)) ?_
  refine fs_lift (fun _ _ _ _ => lv_iand hx hb d_Rf_end_82) ?_
  refine fs_Jsi S hG d_Rf_end_83 ?_
  refine fs_lift (fun _ _ _ _ => lv_aload_n hx hb d_Rf_end_84 rfl (lv_at hl 2 rfl)) ?_
  refine fs_Jgr S hG fs_in12 rfl 14 (Nat.le_of_ble_eq_true rfl) tw_5_206 (fun _ h9 => h9) d_Rf_end_85 (fun r14 => ?_)
  refine fs_lift (fun _ _ _ _ => lv_iload hx hb d_Rf_end_88 (lv_at hl 0 rfl)) ?_
  refine fs_lift (fun _ _ _ _ => lv_iconst (v := 3) hx hb d_Rf_end_90 (by decide)) ?_
  refine fs_lift (fun _ _ _ _ => lv_iadd hx hb d_Rf_end_91) ?_
  refine fs_lift (fun _ _ _ _ => lv_aload_n hx hb d_Rf_end_92 rfl (lv_at hl 2 rfl)) ?_
  refine fs_Jgr S hG fs_in12 rfl 9 (Nat.le_of_ble_eq_true rfl) tw_5_201 (fun _ h9 => h9) d_Rf_end_93 (fun r15 => ?_)
  refine fs_lift (fun _ _ _ _ => lv_iload hx hb d_Rf_end_96 (lv_at hl 1 rfl)) ?_
  refine fs_Jai S hG d_Rf_end_98 (fun v16 => ?_)
  refine fs_Jsi S hG d_Rf_end_99 ?_
  refine fs_lift (fun _ _ _ _ => lv_aload_n hx hb d_Rf_end_100 rfl (lv_at hl 2 rfl)) ?_
  refine fs_Jgr S hG fs_in12 rfl 14 (Nat.le_of_ble_eq_true rfl) tw_5_206 (fun _ h9 => h9) d_Rf_end_101 (fun r17 => ?_)
  refine fs_lift (fun _ _ _ _ => lv_iload hx hb d_Rf_end_104 (lv_at hl 0 rfl)) ?_
  refine fs_lift (fun _ _ _ _ => lv_iconst (v := 4) hx hb d_Rf_end_106 (by decide)) ?_
  refine fs_lift (fun _ _ _ _ => lv_iadd hx hb d_Rf_end_107) ?_
  refine fs_lift (fun _ _ _ _ => lv_aload_n hx hb d_Rf_end_108 rfl (lv_at hl 2 rfl)) ?_
  refine fs_Jgr S hG fs_in12 rfl 10 (Nat.le_of_ble_eq_true rfl) tw_5_202 (fun _ h9 => h9) d_Rf_end_109 (fun r18 => ?_)
  refine fs_lift (fun _ _ _ _ => lv_iload hx hb d_Rf_end_112 (lv_at hl 1 rfl)) ?_
  refine fs_Jai S hG d_Rf_end_114 (fun v19 => ?_)
  refine fs_Jsi S hG d_Rf_end_115 ?_
  refine fs_lift (fun _ _ _ _ => lv_aload_n hx hb d_Rf_end_116 rfl (lv_at hl 2 rfl)) ?_
  refine fs_Jgr S hG fs_in12 rfl 14 (Nat.le_of_ble_eq_true rfl) tw_5_206 (fun _ h9 => h9) d_Rf_end_117 (fun r20 => ?_)
  refine fs_lift (fun _ _ _ _ => lv_iload hx hb d_Rf_end_120 (lv_at hl 0 rfl)) ?_
  refine fs_lift (fun _ _ _ _ => lv_iconst (v := 5) hx hb d_Rf_end_122 (by decide)) ?_
  refine fs_lift (fun _ _ _ _ => lv_iadd hx hb d_Rf_end_123) ?_
  refine fs_lift (fun _ _ _ _ => lv_aload_n hx hb d_Rf_end_124 rfl (lv_at hl 2 rfl)) ?_
  refine fs_Jgr S hG fs_in12 rfl 11 (Nat.le_of_ble_eq_true rfl) tw_5_203 (fun _ h9 => h9) d_Rf_end_125 (fun r21 => ?_)
  refine fs_lift (fun _ _ _ _ => lv_iload hx hb d_Rf_end_128 (lv_at hl 1 rfl)) ?_
  refine fs_Jai S hG d_Rf_end_130 (fun v22 => ?_)
  refine fs_Jsi S hG d_Rf_end_131 ?_
  refine fs_lift (fun _ _ _ _ => lv_aload_n hx hb d_Rf_end_132 rfl (lv_at hl 2 rfl)) ?_
  refine fs_Jgr S hG fs_in12 rfl 14 (Nat.le_of_ble_eq_true rfl) tw_5_206 (fun _ h9 => h9) d_Rf_end_133 (fun r23 => ?_)
  refine fs_lift (fun _ _ _ _ => lv_iload hx hb d_Rf_end_136 (lv_at hl 0 rfl)) ?_
  refine fs_lift (fun _ _ _ _ => lv_bipush (v := 6) hx hb d_Rf_end_138 (by decide)) ?_
  refine fs_lift (fun _ _ _ _ => lv_iadd hx hb d_Rf_end_140) ?_
  refine fs_lift (fun _ _ _ _ => lv_aload_n hx hb d_Rf_end_141 rfl (lv_at hl 2 rfl)) ?_
  refine fs_Jgr S hG fs_in12 rfl 1 (Nat.le_of_ble_eq_true rfl) tw_5_193 (fun _ h9 => h9) d_Rf_end_142 (fun r24 => ?_)
  refine fs_lift (fun _ _ _ _ => lv_iload_n hx hb d_Rf_end_145 rfl (lv_at hl 3 rfl)) ?_
  refine fs_Jai S hG d_Rf_end_146 (fun v25 => ?_)
  refine fs_Jsi S hG d_Rf_end_147 ?_
  refine fs_lift (fun _ _ _ _ => lv_aload_n hx hb d_Rf_end_148 rfl (lv_at hl 2 rfl)) ?_
  refine fs_Jgr S hG fs_in12 rfl 14 (Nat.le_of_ble_eq_true rfl) tw_5_206 (fun _ h9 => h9) d_Rf_end_149 (fun r26 => ?_)
  refine fs_lift (fun _ _ _ _ => lv_iload hx hb d_Rf_end_152 (lv_at hl 0 rfl)) ?_
  refine fs_lift (fun _ _ _ _ => lv_bipush (v := 7) hx hb d_Rf_end_154 (by decide)) ?_
  refine fs_lift (fun _ _ _ _ => lv_iadd hx hb d_Rf_end_156) ?_
  refine fs_lift (fun _ _ _ _ => lv_iload_n hx hb d_Rf_end_157 rfl (lv_at hl 5 rfl)) ?_
  refine fs_Jsi S hG d_Rf_end_158 ?_
  refine fs_lift (fun _ _ _ _ => lv_aload_n hx hb d_Rf_end_159 rfl (lv_at hl 2 rfl)) ?_
  refine fs_Jgr S hG fs_in12 rfl 13 (Nat.le_of_ble_eq_true rfl) tw_5_205 (fun _ h9 => h9) d_Rf_end_160 (fun r27 => ?_)
  refine fs_lift (fun _ _ _ _ => lv_iload_n hx hb d_Rf_end_163 rfl (lv_at hl 3 rfl)) ?_
  refine fs_lift (fun _ _ _ _ => lv_dup2_11 hx hb d_Rf_end_164 rfl rfl) ?_
  refine fs_Jai S hG d_Rf_end_165 (fun v28 => ?_)
  refine fs_lift (fun _ _ _ _ => lv_iconst (v := 1) hx hb d_Rf_end_166 (by decide)) ?_
  refine fs_lift (fun _ _ _ _ => lv_iadd hx hb d_Rf_end_167) ?_
  refine fs_Jsi S hG d_Rf_end_168 ?_
  refine fs_lift (fun _ _ _ _ => lv_aload_n hx hb d_Rf_end_169 rfl (lv_at hl 2 rfl)) ?_
  refine fs_Jgr S hG fs_in12 rfl 7 (Nat.le_of_ble_eq_true rfl) tw_5_199 (fun _ h9 => h9) d_Rf_end_170 (fun r29 => ?_)
  refine fs_lift (fun _ _ _ _ => lv_iload_n hx hb d_Rf_end_173 rfl (lv_at hl 3 rfl)) ?_
  refine fs_lift (fun _ _ _ _ => lv_dup2_11 hx hb d_Rf_end_174 rfl rfl) ?_
  refine fs_Jai S hG d_Rf_end_175 (fun v30 => ?_)
  refine fs_lift (fun _ _ _ _ => lv_iconst (v := 1) hx hb d_Rf_end_176 (by decide)) ?_
  refine fs_lift (fun _ _ _ _ => lv_isub hx hb d_Rf_end_177) ?_
  refine fs_Jsi S hG d_Rf_end_178 ?_
  refine fs_lift (fun _ _ _ _ => lv_iload hx hb d_Rf_end_179 (lv_at hl 1 rfl)) ?_
  refine fs_liftL (fun _ _ _ _ => lv_istore (lv' := [(6, .int v1), (5, .int v4), (4, .int v1), (0, .ref a0), (1, .int x1), (2, .int x2), (3, .int x3)]) hx hb d_Rf_end_181 hl (Nat.le_of_ble_eq_true rfl) rfl) (fun ls hl => ?_)
  refine fs_Jlp1 (nL := 7) (pc := 183) (rest := []) (I := fun (v31 : Int32) => [(0, .ref a0), (1, .int x1), (6, .int v31)]) (fun k183 hk183 v31 ls hl => ?_) _ _ _ (lv_sub hl [3, 4, 0] rfl)
  refine fs_lift (fun _ _ _ _ => lv_iload hx hb d_Rf_end_183 (lv_at hl 2 rfl)) ?_
  refine fs_lift (fun _ _ _ _ => lv_bipush (v := 6) hx hb d_Rf_end_185 (by decide)) ?_
  refine fs_lift (fun _ _ _ _ => lv_iload_n hx hb d_Rf_end_187 rfl (lv_at hl 1 rfl)) ?_
  refine fs_lift (fun _ _ _ _ => lv_imul hx hb d_Rf_end_188) ?_
  refine fs_lift (fun _ _ _ _ => lv_aload_n hx hb d_Rf_end_189 rfl (lv_at hl 0 rfl)) ?_
  refine fs_Jgr S hG fs_in12 rfl 7 (Nat.le_of_ble_eq_true rfl) tw_5_199 (fun _ h9 => h9) d_Rf_end_190 (fun r32 => ?_)
  refine fs_lift (fun _ _ _ _ => lv_iload_n hx hb d_Rf_end_193 rfl (lv_at hl 1 rfl)) ?_
  refine fs_Jai S hG d_Rf_end_194 (fun v33 => ?_)
  refine fs_lift (fun _ _ _ _ => lv_iadd hx hb d_Rf_end_195) ?_
  refine fs_if (fun _ _ _ _ => lv_icmp_ge hx hb d_Rf_end_196 rfl) ?_ ?_
  · exact fs_Jvret S hr hk rfl d_Rf_end_285
  · refine fs_lift (fun _ _ _ _ => lv_aload_n hx hb d_Rf_end_199 rfl (lv_at hl 0 rfl)) ?_
    refine fs_Jgr S hG fs_in12 rfl 8 (Nat.le_of_ble_eq_true rfl) tw_5_200 (fun _ h9 => h9) d_Rf_end_200 (fun r34 => ?_)
    refine fs_lift (fun _ _ _ _ => lv_iload hx hb d_Rf_end_203 (lv_at hl 2 rfl)) ?_
    refine fs_lift (fun _ _ _ _ => lv_aload_n hx hb d_Rf_end_205 rfl (lv_at hl 0 rfl)) ?_
    refine fs_Jgr S hG fs_in12 rfl 8 (Nat.le_of_ble_eq_true rfl) tw_5_200 (fun _ h9 => h9) d_Rf_end_206 (fun r35 => ?_)
    refine fs_lift (fun _ _ _ _ => lv_iload hx hb d_Rf_end_209 (lv_at hl 2 rfl)) ?_
    refine fs_lift (fun _ _ _ _ => lv_iconst (v := 1) hx hb d_Rf_end_211 (by decide)) ?_
    refine fs_lift (fun _ _ _ _ => lv_iadd hx hb d_Rf_end_212) ?_
    refine fs_Jai S hG d_Rf_end_213 (fun v36 => ?_)
    refine fs_Jsi S hG d_Rf_end_214 ?_
    refine fs_lift (fun _ _ _ _ => lv_aload_n hx hb d_Rf_end_215 rfl (lv_at hl 0 rfl)) ?_
    refine fs_Jgr S hG fs_in12 rfl 9 (Nat.le_of_ble_eq_true rfl) tw_5_201 (fun _ h9 => h9) d_Rf_end_216 (fun r37 => ?_)
    refine fs_lift (fun _ _ _ _ => lv_iload hx hb d_Rf_end_219 (lv_at hl 2 rfl)) ?_
    refine fs_lift (fun _ _ _ _ => lv_aload_n hx hb d_Rf_end_221 rfl (lv_at hl 0 rfl)) ?_
    refine fs_Jgr S hG fs_in12 rfl 9 (Nat.le_of_ble_eq_true rfl) tw_5_201 (fun _ h9 => h9) d_Rf_end_222 (fun r38 => ?_)
    refine fs_lift (fun _ _ _ _ => lv_iload hx hb d_Rf_end_225 (lv_at hl 2 rfl)) ?_
    refine fs_lift (fun _ _ _ _ => lv_iconst (v := 1) hx hb d_Rf_end_227 (by decide)) ?_
    refine fs_lift (fun _ _ _ _ => lv_iadd hx hb d_Rf_end_228) ?_
    refine fs_Jai S hG d_Rf_end_229 (fun v39 => ?_)
    refine fs_Jsi S hG d_Rf_end_230 ?_
    refine fs_lift (fun _ _ _ _ => lv_aload_n hx hb d_Rf_end_231 rfl (lv_at hl 0 rfl)) ?_
    refine fs_Jgr S hG fs_in12 rfl 10 (Nat.le_of_ble_eq_true rfl) tw_5_202 (fun _ h9 => h9) d_Rf_end_232 (fun r40 => ?_)
    refine fs_lift (fun _ _ _ _ => lv_iload hx hb d_Rf_end_235 (lv_at hl 2 rfl)) ?_
    refine fs_lift (fun _ _ _ _ => lv_aload_n hx hb d_Rf_end_237 rfl (lv_at hl 0 rfl)) ?_
    refine fs_Jgr S hG fs_in12 rfl 10 (Nat.le_of_ble_eq_true rfl) tw_5_202 (fun _ h9 => h9) d_Rf_end_238 (fun r41 => ?_)
    refine fs_lift (fun _ _ _ _ => lv_iload hx hb d_Rf_end_241 (lv_at hl 2 rfl)) ?_
    refine fs_lift (fun _ _ _ _ => lv_iconst (v := 1) hx hb d_Rf_end_243 (by decide)) ?_
    refine fs_lift (fun _ _ _ _ => lv_iadd hx hb d_Rf_end_244) ?_
    refine fs_Jai S hG d_Rf_end_245 (fun v42 => ?_)
    refine fs_Jsi S hG d_Rf_end_246 ?_
    refine fs_lift (fun _ _ _ _ => lv_aload_n hx hb d_Rf_end_247 rfl (lv_at hl 0 rfl)) ?_
    refine fs_Jgr S hG fs_in12 rfl 11 (Nat.le_of_ble_eq_true rfl) tw_5_203 (fun _ h9 => h9) d_Rf_end_248 (fun r43 => ?_)
    refine fs_lift (fun _ _ _ _ => lv_iload hx hb d_Rf_end_251 (lv_at hl 2 rfl)) ?_
    refine fs_lift (fun _ _ _ _ => lv_aload_n hx hb d_Rf_end_253 rfl (lv_at hl 0 rfl)) ?_
    refine fs_Jgr S hG fs_in12 rfl 11 (Nat.le_of_ble_eq_true rfl) tw_5_203 (fun _ h9 => h9) d_Rf_end_254 (fun r44 => ?_)
    refine fs_lift (fun _ _ _ _ => lv_iload hx hb d_Rf_end_257 (lv_at hl 2 rfl)) ?_
    refine fs_lift (fun _ _ _ _ => lv_iconst (v := 1) hx hb d_Rf_end_259 (by decide)) ?_
    refine fs_lift (fun _ _ _ _ => lv_iadd hx hb d_Rf_end_260) ?_
    refine fs_Jai S hG d_Rf_end_261 (fun v45 => ?_)
    refine fs_Jsi S hG d_Rf_end_262 ?_
    refine fs_lift (fun _ _ _ _ => lv_aload_n hx hb d_Rf_end_263 rfl (lv_at hl 0 rfl)) ?_
    refine fs_Jgr S hG fs_in12 rfl 12 (Nat.le_of_ble_eq_true rfl) tw_5_204 (fun _ h9 => h9) d_Rf_end_264 (fun r46 => ?_)
    refine fs_lift (fun _ _ _ _ => lv_iload hx hb d_Rf_end_267 (lv_at hl 2 rfl)) ?_
    refine fs_lift (fun _ _ _ _ => lv_aload_n hx hb d_Rf_end_269 rfl (lv_at hl 0 rfl)) ?_
    refine fs_Jgr S hG fs_in12 rfl 12 (Nat.le_of_ble_eq_true rfl) tw_5_204 (fun _ h9 => h9) d_Rf_end_270 (fun r47 => ?_)
    refine fs_lift (fun _ _ _ _ => lv_iload hx hb d_Rf_end_273 (lv_at hl 2 rfl)) ?_
    refine fs_lift (fun _ _ _ _ => lv_iconst (v := 1) hx hb d_Rf_end_275 (by decide)) ?_
    refine fs_lift (fun _ _ _ _ => lv_iadd hx hb d_Rf_end_276) ?_
    refine fs_Jai S hG d_Rf_end_277 (fun v48 => ?_)
    refine fs_Jsi S hG d_Rf_end_278 ?_
    refine fs_Jnm (fun v49 hv9 => ?_)
    refine fs_liftL (fun _ _ _ _ => lv_iinc (k := 2) (v := v49) (lv' := [(6, .int v49), (0, .ref a0), (1, .int x1)]) hx hb d_Rf_end_279 hl rfl (by rw [hv9]; rfl) (Nat.le_of_ble_eq_true rfl) rfl) (fun ls hl => ?_)
    refine fs_lift (fun _ _ _ _ => lv_goto hx hb d_Rf_end_282 rfl) ?_
    exact hk183 v49 ls (lv_sub hl [1, 2, 0] rfl)

