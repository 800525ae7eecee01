/-! contracts of methods, walked by program -/
theorem d_Fs_field_0 : decode prog_1_method_7_code 0 = .ok (.aload_n 0, 1) := by decide +kernel
theorem d_Fs_field_1 : decode prog_1_method_7_code 1 = .ok (.iload_n 1, 1) := by decide +kernel
theorem d_Fs_field_2 : decode prog_1_method_7_code 2 = .ok (.iload_n 2, 1) := by decide +kernel
theorem d_Fs_field_3 : decode prog_1_method_7_code 3 = .ok (.invokevirtual 106, 3) := by decide +kernel
theorem d_Fs_field_6 : decode prog_1_method_7_code 6 = .ok (.astore 5, 2) := by decide +kernel
theorem d_Fs_field_8 : decode prog_1_method_7_code 8 = .ok (.iload_n 3, 1) := by decide +kernel
theorem d_Fs_field_9 : decode prog_1_method_7_code 9 = .ok (.invokestatic 82, 3) := by decide +kernel
theorem d_Fs_field_12 : decode prog_1_method_7_code 12 = .ok (.iload 4, 2) := by decide +kernel
theorem d_Fs_field_14 : decode prog_1_method_7_code 14 = .ok (.ifCond .lt 9, 3) := by decide +kernel
theorem d_Fs_field_17 : decode prog_1_method_7_code 17 = .ok (.iload 4, 2) := by decide +kernel
theorem d_Fs_field_19 : decode prog_1_method_7_code 19 = .ok (.iconst 4, 1) := by decide +kernel
theorem d_Fs_field_20 : decode prog_1_method_7_code 20 = .ok (.if_icmp .le 13, 3) := by decide +kernel
theorem d_Fs_field_23 : decode prog_1_method_7_code 23 = .ok (.new 43, 3) := by decide +kernel
theorem d_Fs_field_26 : decode prog_1_method_7_code 26 = .ok (.dup, 1) := by decide +kernel
theorem d_Fs_field_27 : decode prog_1_method_7_code 27 = .ok (.ldc 110, 2) := by decide +kernel
theorem d_Fs_field_29 : decode prog_1_method_7_code 29 = .ok (.invokespecial 47, 3) := by decide +kernel
theorem d_Fs_field_32 : decode prog_1_method_7_code 32 = .ok (.athrow, 1) := by decide +kernel
theorem d_Fs_field_33 : decode prog_1_method_7_code 33 = .ok (.iload 4, 2) := by decide +kernel
theorem d_Fs_field_35 : decode prog_1_method_7_code 35 = .ok (.ifCond .eq 23, 3) := by decide +kernel
theorem d_Fs_field_38 : decode prog_1_method_7_code 38 = .ok (.iload 4, 2) := by decide +kernel
theorem d_Fs_field_40 : decode prog_1_method_7_code 40 = .ok (.getstatic 112, 3) := by decide +kernel
theorem d_Fs_field_43 : decode prog_1_method_7_code 43 = .ok (.iload_n 3, 1) := by decide +kernel
theorem d_Fs_field_44 : decode prog_1_method_7_code 44 = .ok (.iaload, 1) := by decide +kernel
theorem d_Fs_field_45 : decode prog_1_method_7_code 45 = .ok (.if_icmp .ge 13, 3) := by decide +kernel
theorem d_Fs_field_48 : decode prog_1_method_7_code 48 = .ok (.new 43, 3) := by decide +kernel
theorem d_Fs_field_51 : decode prog_1_method_7_code 51 = .ok (.dup, 1) := by decide +kernel
theorem d_Fs_field_52 : decode prog_1_method_7_code 52 = .ok (.ldc 116, 2) := by decide +kernel
theorem d_Fs_field_54 : decode prog_1_method_7_code 54 = .ok (.invokespecial 47, 3) := by decide +kernel
theorem d_Fs_field_57 : decode prog_1_method_7_code 57 = .ok (.athrow, 1) := by decide +kernel
theorem d_Fs_field_58 : decode prog_1_method_7_code 58 = .ok (.aload 5, 2) := by decide +kernel
theorem d_Fs_field_60 : decode prog_1_method_7_code 60 = .ok (.getfield 118, 3) := by decide +kernel
theorem d_Fs_field_63 : decode prog_1_method_7_code 63 = .ok (.iload_n 3, 1) := by decide +kernel
theorem d_Fs_field_64 : decode prog_1_method_7_code 64 = .ok (.invokevirtual 124, 3) := by decide +kernel
theorem d_Fs_field_67 : decode prog_1_method_7_code 67 = .ok (.ifCond .eq 13, 3) := by decide +kernel
theorem d_Fs_field_70 : decode prog_1_method_7_code 70 = .ok (.new 56, 3) := by decide +kernel
theorem d_Fs_field_73 : decode prog_1_method_7_code 73 = .ok (.dup, 1) := by decide +kernel
theorem d_Fs_field_74 : decode prog_1_method_7_code 74 = .ok (.ldc 129, 2) := by decide +kernel
theorem d_Fs_field_76 : decode prog_1_method_7_code 76 = .ok (.invokespecial 60, 3) := by decide +kernel
theorem d_Fs_field_79 : decode prog_1_method_7_code 79 = .ok (.athrow, 1) := by decide +kernel
theorem d_Fs_field_80 : decode prog_1_method_7_code 80 = .ok (.aload 5, 2) := by decide +kernel
theorem d_Fs_field_82 : decode prog_1_method_7_code 82 = .ok (.getfield 118, 3) := by decide +kernel
theorem d_Fs_field_85 : decode prog_1_method_7_code 85 = .ok (.iload_n 3, 1) := by decide +kernel
theorem d_Fs_field_86 : decode prog_1_method_7_code 86 = .ok (.iload 4, 2) := by decide +kernel
theorem d_Fs_field_88 : decode prog_1_method_7_code 88 = .ok (.invokevirtual 131, 3) := by decide +kernel
theorem d_Fs_field_91 : decode prog_1_method_7_code 91 = .ok (.aload 5, 2) := by decide +kernel
theorem d_Fs_field_93 : decode prog_1_method_7_code 93 = .ok (.getfield 118, 3) := by decide +kernel
theorem d_Fs_field_96 : decode prog_1_method_7_code 96 = .ok (.getfield 135, 3) := by decide +kernel
theorem d_Fs_field_99 : decode prog_1_method_7_code 99 = .ok (.ireturn, 1) := by decide +kernel
theorem q_Fs_field : (⟨"FlowShelf", "field", "(IIII)I"⟩ : MethodName).cls ≠ "java/lang/invoke/MethodHandle" ∧ (⟨"FlowShelf", "field", "(IIII)I"⟩ : MethodName).cls ≠ "java/lang/invoke/VarHandle" ∧ (parseMethodDescriptor (⟨"FlowShelf", "field", "(IIII)I"⟩ : MethodName).desc).map (fun d => d.parameters.length) = some 4 := by decide +kernel
set_option maxHeartbeats 4000000 in
set_option maxRecDepth 100000 in
theorem m_Fs_field (X : fs_X) (l : Launch) (hl0 : l.stackTraces = false) (a0 : Nat) (x1 : Int32) (x2 : Int32) (x3 : Int32) (x4 : Int32) {r : (Int32 ⊕ String)} {σ σF : fs_S} (h : (f_Fs_field a0 x1 x2 x3 x4).1 σ = some (r, σF)) : fs_Met X l ⟨"FlowShelf", "field", "(IIII)I"⟩ (Cond.code ⟨"FlowShelf", "field", "(IIII)I"⟩ prog_1_method_7_code 6 (some FieldType.int)) 8 126 [.ref a0, .int x1, .int x2, .int x3, .int x4] σ (fs_qI r) σF := by
  refine fs_ofW (by decide) ?_
  intro p e s m args below meth c s₁ B hml hT hv
  obtain ⟨rfl, hw0, hG⟩ := hv
  have hx := B.exec
  have hb := B.bytes
  have hr := B.returns
  have hk := B.notSynchronized
  have S : CallFix p m c prog_1_method_7_code 6 s _ fs_ws "FlowShelf" := ⟨B.exec, B.bytes, hml, findClass_of_methodNamed B.named, fun w hw => atoms_spec (ws := _ :: fs_ws) B.pre w (List.mem_cons_of_mem _ hw)⟩
  have hR := fs_hR (fr := 8) (lo := 126) ((f_Fs_field a0 x1 x2 x3 x4).2 _ _ _ h)
  have hl := lv_entry ([.ref a0, .int x1, .int x2, .int x3, .int x4]) (n := 6) (Nat.le_of_ble_eq_true rfl)
  rw [lg_entry_eq]
  generalize (lg_sl ([.ref a0, .int x1, .int x2, .int x3, .int x4]) ++ List.replicate (6 - (lg_sl ([.ref a0, .int x1, .int x2, .int x3, .int x4])).length) Slot.unset).toArray = ls at hl ⊢
  have hl : lv_has ls 6 [(0, .ref a0), (1, .int x1), (2, .int x2), (3, .int x3), (4, .int x4)] := hl
  refine (?_ : fs_J X p l e (fs_rm 8 126 σ σF) s m _ below meth c (fs_Q X below _ s (fs_qI r) σ σF) r σ σF (f_Fs_field a0 x1 x2 x3 x4) (F0 m 0 ls [])) σ s.heap [] 0 0 h hw0 va_S.rf rfl rfl
  clear h hw0
  unfold f_Fs_field
  refine fs_lift (fun _ _ _ _ => lv_aload_n hx hb d_Fs_field_0 rfl (lv_at hl 0 rfl)) ?_
  refine fs_lift (fun _ _ _ _ => lv_iload_n hx hb d_Fs_field_1 rfl (lv_at hl 1 rfl)) ?_
  refine fs_lift (fun _ _ _ _ => lv_iload_n hx hb d_Fs_field_2 rfl (lv_at hl 2 rfl)) ?_
  refine fs_JVx S hG hR hT hk rfl [.int x1, .int x2] (fun r => some (.ref r)) (encx := fs_qR) (fun _ => rfl) (fun _ => rfl) (fun zr zs zt zh => m_Fs_slotOf X l hl0 a0 x1 x2 zh) tw_3_140 tw_3_142 tp_1_7 tw_3_143 tw_1_1 q_Fs_slotOf ⟨(Nat.le_of_ble_eq_true rfl), (Nat.le_of_ble_eq_true rfl)⟩ hl.1 rfl (Nat.le_of_ble_eq_true rfl) d_Fs_field_3 (enc := fs_qI) (fun _ => rfl) (fun r1 => ?_)
  refine fs_Jeq (g2 := F0 m 6 ls [.ref r1]) rfl ?_
  refine fs_liftL (fun _ _ _ _ => lv_astore (lv' := [(5, .ref r1), (0, .ref a0), (1, .int x1), (2, .int x2), (3, .int x3), (4, .int x4)]) hx hb d_Fs_field_6 hl (Nat.le_of_ble_eq_true rfl) rfl) (fun ls hl => ?_)
  refine fs_lift (fun _ _ _ _ => lv_iload_n hx hb d_Fs_field_8 rfl (lv_at hl 4 rfl)) ?_
  refine fs_JSx S hG hR hT hk [.int x3] (fun _ => none) (encx := fs_qV) (fun _ => rfl) (fun _ => rfl) (fun zr zs zt zh => m_Fs_requireField X l hl0 x3 zh) tw_3_108 tw_3_109 tw_3_110 tw_1_1 q_Fs_requireField ⟨(Nat.le_of_ble_eq_true rfl), (Nat.le_of_ble_eq_true rfl)⟩ hl.1 rfl (Nat.le_of_ble_eq_true rfl) d_Fs_field_9 (enc := fs_qI) (fun _ => rfl) (fun _ => ?_)
  refine fs_Jeq (g2 := F0 m 12 ls []) rfl ?_
  refine fs_lift (fun _ _ _ _ => lv_iload hx hb d_Fs_field_12 (lv_at hl 5 rfl)) ?_
  refine fs_Jlet1 (nL := 6) (pj := 23) (I := fun (_ : Unit) => []) (st := fun (_ : Unit) => []) (fun _ ls hl => ?_) (fun j23 hj23 => ?_)
  · exact fs_Jthrow S hG hR hl0 (names := fs_nms) (len := 2) (.ldc 110) (Or.inl ⟨rfl, rfl⟩) (by decide) fs_fit fs_at1 tw_2_67 tw_1_15 tb_3_145 hl.1 hT hk (Nat.le_of_ble_eq_true rfl) (Nat.le_of_ble_eq_true rfl) d_Fs_field_23 d_Fs_field_26 d_Fs_field_27 d_Fs_field_29 d_Fs_field_32 rfl
  · refine fs_if (fun _ _ _ _ => lv_if_lt hx hb d_Fs_field_14 rfl) ?_ ?_
    · exact hj23 () ls (lv_sub hl [] rfl)
    · refine fs_lift (fun _ _ _ _ => lv_iload hx hb d_Fs_field_17 (lv_at hl 5 rfl)) ?_
      refine fs_lift (fun _ _ _ _ => lv_iconst (v := 4) hx hb d_Fs_field_19 (by decide)) ?_
      refine fs_if (fun _ _ _ _ => lv_icmp_le hx hb d_Fs_field_20 rfl) ?_ ?_
      · refine fs_lift (fun _ _ _ _ => lv_iload hx hb d_Fs_field_33 (lv_at hl 5 rfl)) ?_
        refine fs_Jlet1 (nL := 6) (pj := 58) (I := fun (_ : Unit) => [(3, .int x3), (4, .int x4), (5, .ref r1)]) (st := fun (_ : Unit) => []) (fun _ ls hl => ?_) (fun j58 hj58 => ?_)
        · refine fs_lift (fun _ _ _ _ => lv_aload hx hb d_Fs_field_58 (lv_at hl 2 rfl)) ?_
          refine fs_Jgr S hG fs_in3 rfl 1 (Nat.le_of_ble_eq_true rfl) tw_1_101 (fun _ h9 => h9) d_Fs_field_60 (fun r4 => ?_)
          refine fs_lift (fun _ _ _ _ => lv_iload_n hx hb d_Fs_field_63 rfl (lv_at hl 0 rfl)) ?_
          refine fs_JV S hG hR rfl [.int x3] (enc := fun r => some (.int r)) (fun zr zs zt zh => m_Layout_has X l r4 x3 zh) tw_3_149 tw_3_150 tw_3_151 tw_3_152 tw_1_7 q_Layout_has ⟨(Nat.le_of_ble_eq_true rfl), (Nat.le_of_ble_eq_true rfl)⟩ hl.1 rfl (Nat.le_of_ble_eq_true rfl) d_Fs_field_64 (fun v5 => ?_)
          refine fs_Jeq (g2 := F0 m 67 ls [.int v5]) rfl ?_
          refine fs_if (fun _ _ _ _ => lv_if_eq hx hb d_Fs_field_67 rfl) ?_ ?_
          · refine fs_lift (fun _ _ _ _ => lv_aload hx hb d_Fs_field_80 (lv_at hl 2 rfl)) ?_
            refine fs_Jgr S hG fs_in3 rfl 1 (Nat.le_of_ble_eq_true rfl) tw_1_101 (fun _ h9 => h9) d_Fs_field_82 (fun r6 => ?_)
            refine fs_lift (fun _ _ _ _ => lv_iload_n hx hb d_Fs_field_85 rfl (lv_at hl 0 rfl)) ?_
            refine fs_lift (fun _ _ _ _ => lv_iload hx hb d_Fs_field_86 (lv_at hl 1 rfl)) ?_
            refine fs_JV S hG hR rfl [.int x3, .int x4] (enc := fun _ => none) (fun zr zs zt zh => m_Layout_append X l r6 x3 x4 zh) tw_3_154 tw_3_155 tw_3_156 tw_3_157 tw_1_7 q_Layout_append ⟨(Nat.le_of_ble_eq_true rfl), (Nat.le_of_ble_eq_true rfl)⟩ hl.1 rfl (Nat.le_of_ble_eq_true rfl) d_Fs_field_88 (fun _ => ?_)
            refine fs_Jeq (g2 := F0 m 91 ls []) rfl ?_
            refine fs_lift (fun _ _ _ _ => lv_aload hx hb d_Fs_field_91 (lv_at hl 2 rfl)) ?_
            refine fs_Jgr S hG fs_in3 rfl 1 (Nat.le_of_ble_eq_true rfl) tw_1_101 (fun _ h9 => h9) d_Fs_field_93 (fun r7 => ?_)
            refine fs_Jgi S hG fs_in4 rfl 2 (Nat.le_of_ble_eq_true rfl) tw_1_88 (fun _ h9 => h9) d_Fs_field_96 (fun v8 => ?_)
            exact fs_Jiret S hr hk rfl d_Fs_field_99
          · exact fs_Jthrow S hG hR hl0 (names := fs_nms) (len := 2) (.ldc 129) (Or.inl ⟨rfl, rfl⟩) (by decide) fs_fit fs_at2 tw_2_146 tw_1_16 tb_3_153 hl.1 hT hk (Nat.le_of_ble_eq_true rfl) (Nat.le_of_ble_eq_true rfl) d_Fs_field_70 d_Fs_field_73 d_Fs_field_74 d_Fs_field_76 d_Fs_field_79 rfl
        · refine fs_if (fun _ _ _ _ => lv_if_eq hx hb d_Fs_field_35 rfl) ?_ ?_
          · exact hj58 () ls (lv_sub hl [4, 5, 0] rfl)
          · refine fs_lift (fun _ _ _ _ => lv_iload hx hb d_Fs_field_38 (lv_at hl 5 rfl)) ?_
            refine fs_Jgs0 S hG tw_3_146 d_Fs_field_40 (fun r2 => ?_)
            refine fs_lift (fun _ _ _ _ => lv_iload_n hx hb d_Fs_field_43 rfl (lv_at hl 4 rfl)) ?_
            refine fs_Jai S hG d_Fs_field_44 (fun v3 => ?_)
            refine fs_if (fun _ _ _ _ => lv_icmp_ge hx hb d_Fs_field_45 rfl) ?_ ?_
            · exact hj58 () ls (lv_sub hl [4, 5, 0] rfl)
            · exact fs_Jthrow S hG hR hl0 (names := fs_nms) (len := 2) (.ldc 116) (Or.inl ⟨rfl, rfl⟩) (by decide) fs_fit fs_at1 tw_2_67 tw_1_15 tb_3_148 hl.1 hT hk (Nat.le_of_ble_eq_true rfl) (Nat.le_of_ble_eq_true rfl) d_Fs_field_48 d_Fs_field_51 d_Fs_field_52 d_Fs_field_54 d_Fs_field_57 rfl
      · exact hj23 () ls (lv_sub hl [] rfl)

theorem d_Exporter_nextSeal_0 : decode prog_4_method_11_code 0 = .ok (.aload_n 0, 1) := by decide +kernel
theorem d_Exporter_nextSeal_1 : decode prog_4_method_11_code 1 = .ok (.dup, 1) := by decide +kernel
theorem d_Exporter_nextSeal_2 : decode prog_4_method_11_code 2 = .ok (.getfield 94, 3) := by decide +kernel
theorem d_Exporter_nextSeal_5 : decode prog_4_method_11_code 5 = .ok (.iconst 1, 1) := by decide +kernel
theorem d_Exporter_nextSeal_6 : decode prog_4_method_11_code 6 = .ok (.iadd, 1) := by decide +kernel
theorem d_Exporter_nextSeal_7 : decode prog_4_method_11_code 7 = .ok (.putfield 94, 3) := by decide +kernel
theorem d_Exporter_nextSeal_10 : decode prog_4_method_11_code 10 = .ok (.aload_n 0, 1) := by decide +kernel
theorem d_Exporter_nextSeal_11 : decode prog_4_method_11_code 11 = .ok (.getfield 94, 3) := by decide +kernel
theorem d_Exporter_nextSeal_14 : decode prog_4_method_11_code 14 = .ok (.ireturn, 1) := by decide +kernel
theorem q_Exporter_nextSeal : (⟨"FlowShelf$Exporter", "nextSeal", "()I"⟩ : MethodName).cls ≠ "java/lang/invoke/MethodHandle" ∧ (⟨"FlowShelf$Exporter", "nextSeal", "()I"⟩ : MethodName).cls ≠ "java/lang/invoke/VarHandle" ∧ (parseMethodDescriptor (⟨"FlowShelf$Exporter", "nextSeal", "()I"⟩ : MethodName).desc).map (fun d => d.parameters.length) = some 0 := by decide +kernel
set_option maxHeartbeats 4000000 in
set_option maxRecDepth 100000 in
theorem m_Exporter_nextSeal (X : fs_X) (l : Launch) (a0 : Nat) {r : Int32} {σ σF : fs_S} (h : (f_Exporter_nextSeal a0).1 σ = some (r, σF)) : fs_Met X l ⟨"FlowShelf$Exporter", "nextSeal", "()I"⟩ (Cond.code ⟨"FlowShelf$Exporter", "nextSeal", "()I"⟩ prog_4_method_11_code 1 (some FieldType.int)) 0 0 [.ref a0] σ (fs_eI r) σF := by
  refine fs_ofW (by decide) ?_
  intro p e s m args below meth c s₁ B hml hT hv
  obtain ⟨rfl, hw0, hG⟩ := hv
  have hx := B.exec
  have hb := B.bytes
  have hr := B.returns
  have hk := B.notSynchronized
  have S : CallFix p m c prog_4_method_11_code 1 s _ fs_ws "FlowShelf$Exporter" := ⟨B.exec, B.bytes, hml, findClass_of_methodNamed B.named, fun w hw => atoms_spec (ws := _ :: fs_ws) B.pre w (List.mem_cons_of_mem _ hw)⟩
  have hR := fs_hR (fr := 0) (lo := 0) ((f_Exporter_nextSeal a0).2 _ _ _ h)
  have hl := lv_entry ([.ref a0]) (n := 1) (Nat.le_of_ble_eq_true rfl)
  rw [lg_entry_eq]
  generalize (lg_sl ([.ref a0]) ++ List.replicate (1 - (lg_sl ([.ref a0])).length) Slot.unset).toArray = ls at hl ⊢
  have hl : lv_has ls 1 [(0, .ref a0)] := hl
  refine (?_ : fs_J X p l e (fs_rm 0 0 σ σF) s m _ below meth c (fs_Q X below _ s (fs_eI r) σ σF) r σ σF (f_Exporter_nextSeal a0) (F0 m 0 ls [])) σ s.heap [] 0 0 h hw0 va_S.rf rfl rfl
  clear h hw0
  unfold f_Exporter_nextSeal
  refine fs_lift (fun _ _ _ _ => lv_aload_n hx hb d_Exporter_nextSeal_0 rfl (lv_at hl 0 rfl)) ?_
  refine fs_lift (fun _ _ _ _ => lv_dup hx hb d_Exporter_nextSeal_1 rfl) ?_
  refine fs_Jgi S hG fs_in1 rfl 8 (Nat.le_of_ble_eq_true rfl) tw_1_138 (fun _ h9 => h9) d_Exporter_nextSeal_2 (fun v1 => ?_)
  refine fs_lift (fun _ _ _ _ => lv_iconst (v := 1) hx hb d_Exporter_nextSeal_5 (by decide)) ?_
  refine fs_lift (fun _ _ _ _ => lv_iadd hx hb d_Exporter_nextSeal_6) ?_
  refine fs_Jput S hG fs_in1 rfl 8 (Nat.le_of_ble_eq_true rfl) tw_1_138 (fun _ h9 => h9) fs_Y1 fs_ty1 fs_nm1 (Or.inl rfl) rfl rfl d_Exporter_nextSeal_7 ?_
  refine fs_lift (fun _ _ _ _ => lv_aload_n hx hb d_Exporter_nextSeal_10 rfl (lv_at hl 0 rfl)) ?_
  refine fs_Jgi S hG fs_in1 rfl 8 (Nat.le_of_ble_eq_true rfl) tw_1_138 (fun _ h9 => h9) d_Exporter_nextSeal_11 (fun v2 => ?_)
  exact fs_Jiret S hr hk rfl d_Exporter_nextSeal_14

theorem d_Slot_putInForce_0 : decode prog_10_method_2_code 0 = .ok (.aload_n 0, 1) := by decide +kernel
theorem d_Slot_putInForce_1 : decode prog_10_method_2_code 1 = .ok (.getfield 16, 3) := by decide +kernel
theorem d_Slot_putInForce_4 : decode prog_10_method_2_code 4 = .ok (.astore_n 2, 1) := by decide +kernel
theorem d_Slot_putInForce_5 : decode prog_10_method_2_code 5 = .ok (.aload_n 0, 1) := by decide +kernel
theorem d_Slot_putInForce_6 : decode prog_10_method_2_code 6 = .ok (.aload_n 0, 1) := by decide +kernel
theorem d_Slot_putInForce_7 : decode prog_10_method_2_code 7 = .ok (.getfield 10, 3) := by decide +kernel
theorem d_Slot_putInForce_10 : decode prog_10_method_2_code 10 = .ok (.putfield 16, 3) := by decide +kernel
theorem d_Slot_putInForce_13 : decode prog_10_method_2_code 13 = .ok (.aload_n 0, 1) := by decide +kernel
theorem d_Slot_putInForce_14 : decode prog_10_method_2_code 14 = .ok (.aload_n 2, 1) := by decide +kernel
theorem d_Slot_putInForce_15 : decode prog_10_method_2_code 15 = .ok (.putfield 10, 3) := by decide +kernel
theorem d_Slot_putInForce_18 : decode prog_10_method_2_code 18 = .ok (.aload_n 0, 1) := by decide +kernel
theorem d_Slot_putInForce_19 : decode prog_10_method_2_code 19 = .ok (.getfield 10, 3) := by decide +kernel
theorem d_Slot_putInForce_22 : decode prog_10_method_2_code 22 = .ok (.iconst 0, 1) := by decide +kernel
theorem d_Slot_putInForce_23 : decode prog_10_method_2_code 23 = .ok (.putfield 23, 3) := by decide +kernel
theorem d_Slot_putInForce_26 : decode prog_10_method_2_code 26 = .ok (.aload_n 0, 1) := by decide +kernel
theorem d_Slot_putInForce_27 : decode prog_10_method_2_code 27 = .ok (.iconst 1, 1) := by decide +kernel
theorem d_Slot_putInForce_28 : decode prog_10_method_2_code 28 = .ok (.putfield 26, 3) := by decide +kernel
theorem d_Slot_putInForce_31 : decode prog_10_method_2_code 31 = .ok (.aload_n 0, 1) := by decide +kernel
theorem d_Slot_putInForce_32 : decode prog_10_method_2_code 32 = .ok (.dup, 1) := by decide +kernel
theorem d_Slot_putInForce_33 : decode prog_10_method_2_code 33 = .ok (.getfield 30, 3) := by decide +kernel
theorem d_Slot_putInForce_36 : decode prog_10_method_2_code 36 = .ok (.iconst 1, 1) := by decide +kernel
theorem d_Slot_putInForce_37 : decode prog_10_method_2_code 37 = .ok (.iadd, 1) := by decide +kernel
theorem d_Slot_putInForce_38 : decode prog_10_method_2_code 38 = .ok (.putfield 30, 3) := by decide +kernel
theorem d_Slot_putInForce_41 : decode prog_10_method_2_code 41 = .ok (.aload_n 0, 1) := by decide +kernel
theorem d_Slot_putInForce_42 : decode prog_10_method_2_code 42 = .ok (.iload_n 1, 1) := by decide +kernel
theorem d_Slot_putInForce_43 : decode prog_10_method_2_code 43 = .ok (.putfield 33, 3) := by decide +kernel
theorem d_Slot_putInForce_46 : decode prog_10_method_2_code 46 = .ok (.return_, 1) := by decide +kernel
theorem q_Slot_putInForce : (⟨"FlowShelf$Slot", "putInForce", "(I)V"⟩ : MethodName).cls ≠ "java/lang/invoke/MethodHandle" ∧ (⟨"FlowShelf$Slot", "putInForce", "(I)V"⟩ : MethodName).cls ≠ "java/lang/invoke/VarHandle" ∧ (parseMethodDescriptor (⟨"FlowShelf$Slot", "putInForce", "(I)V"⟩ : MethodName).desc).map (fun d => d.parameters.length) = some 1 := by decide +kernel
set_option maxHeartbeats 4000000 in
set_option maxRecDepth 100000 in
theorem m_Slot_putInForce (X : fs_X) (l : Launch) (a0 : Nat) (x1 : Int32) {r : Unit} {σ σF : fs_S} (h : (f_Slot_putInForce a0 x1).1 σ = some (r, σF)) : fs_Met X l ⟨"FlowShelf$Slot", "putInForce", "(I)V"⟩ (Cond.code ⟨"FlowShelf$Slot", "putInForce", "(I)V"⟩ prog_10_method_2_code 3 none) 0 0 [.ref a0, .int x1] σ (fs_eV r) σF := by
  refine fs_ofW (by decide) ?_
  intro p e s m args below meth c s₁ B hml hT hv
  obtain ⟨rfl, hw0, hG⟩ := hv
  have hx := B.exec
  have hb := B.bytes
  have hr := B.returns
  have hk := B.notSynchronized
  have S : CallFix p m c prog_10_method_2_code 3 s _ fs_ws "FlowShelf$Slot" := ⟨B.exec, B.bytes, hml, findClass_of_methodNamed B.named, fun w hw => atoms_spec (ws := _ :: fs_ws) B.pre w (List.mem_cons_of_mem _ hw)⟩
  have hR := fs_hR (fr := 0) (lo := 0) ((f_Slot_putInForce a0 x1).2 _ _ _ h)
  have hl := lv_entry ([.ref a0, .int x1]) (n := 3) (Nat.le_of_ble_eq_true rfl)
  rw [lg_entry_eq]
  generalize (lg_sl ([.ref a0, .int x1]) ++ List.replicate (3 - (lg_sl ([.ref a0, .int x1])).length) Slot.unset).toArray = ls at hl ⊢
  have hl : lv_has ls 3 [(0, .ref a0), (1, .int x1)] := hl
  refine (?_ : fs_J X p l e (fs_rm 0 0 σ σF) s m _ below meth c (fs_Q X below _ s (fs_eV r) σ σF) r σ σF (f_Slot_putInForce a0 x1) (F0 m 0 ls [])) σ s.heap [] 0 0 h hw0 va_S.rf rfl rfl
  clear h hw0
  unfold f_Slot_putInForce
  refine fs_lift (fun _ _ _ _ => lv_aload_n hx hb d_Slot_putInForce_0 rfl (lv_at hl 0 rfl)) ?_
  refine fs_Jgr S hG fs_in3 rfl 2 (Nat.le_of_ble_eq_true rfl) tw_1_102 (fun _ h9 => h9) d_Slot_putInForce_1 (fun r1 => ?_)
  refine fs_liftL (fun _ _ _ _ => lv_astore_n (lv' := [(2, .ref r1), (0, .ref a0), (1, .int x1)]) hx hb d_Slot_putInForce_4 rfl hl (Nat.le_of_ble_eq_true rfl) rfl) (fun ls hl => ?_)
  refine fs_lift (fun _ _ _ _ => lv_aload_n hx hb d_Slot_putInForce_5 rfl (lv_at hl 1 rfl)) ?_
  refine fs_lift (fun _ _ _ _ => lv_aload_n hx hb d_Slot_putInForce_6 rfl (lv_at hl 1 rfl)) ?_
  refine fs_Jgr S hG fs_in3 rfl 1 (Nat.le_of_ble_eq_true rfl) tw_1_100 (fun _ h9 => h9) d_Slot_putInForce_7 (fun r2 => ?_)
  refine fs_Jput S hG fs_in3 rfl 2 (Nat.le_of_ble_eq_true rfl) tw_1_102 (fun _ h9 => h9) fs_Y3 fs_ty3 fs_nm3 (Or.inl rfl) rfl rfl d_Slot_putInForce_10 ?_
  refine fs_lift (fun _ _ _ _ => lv_aload_n hx hb d_Slot_putInForce_13 rfl (lv_at hl 1 rfl)) ?_
  refine fs_lift (fun _ _ _ _ => lv_aload_n hx hb d_Slot_putInForce_14 rfl (lv_at hl 0 rfl)) ?_
  refine fs_Jput S hG fs_in3 rfl 1 (Nat.le_of_ble_eq_true rfl) tw_1_100 (fun _ h9 => h9) fs_Y3 fs_ty3 fs_nm3 (Or.inl rfl) rfl rfl d_Slot_putInForce_15 ?_
  refine fs_lift (fun _ _ _ _ => lv_aload_n hx hb d_Slot_putInForce_18 rfl (lv_at hl 1 rfl)) ?_
  refine fs_Jgr S hG fs_in3 rfl 1 (Nat.le_of_ble_eq_true rfl) tw_1_100 (fun _ h9 => h9) d_Slot_putInForce_19 (fun r3 => ?_)
  refine fs_lift (fun _ _ _ _ => lv_iconst (v := 0) hx hb d_Slot_putInForce_22 (by decide)) ?_
  refine fs_Jput S hG fs_in4 rfl 2 (Nat.le_of_ble_eq_true rfl) tw_1_87 (fun _ h9 => h9) fs_Y4 fs_ty4 fs_nm4 (Or.inl rfl) rfl rfl d_Slot_putInForce_23 ?_
  refine fs_lift (fun _ _ _ _ => lv_aload_n hx hb d_Slot_putInForce_26 rfl (lv_at hl 1 rfl)) ?_
  refine fs_lift (fun _ _ _ _ => lv_iconst (v := 1) hx hb d_Slot_putInForce_27 (by decide)) ?_
  refine fs_Jpz (fun hz9 => ?_)
  refine fs_Jput S hG fs_in3 rfl 3 (Nat.le_of_ble_eq_true rfl) tw_1_104 (fun _ h9 => h9) fs_Y3 fs_ty3 fs_nm3 (Or.inl rfl) (fs_nar hz9) rfl d_Slot_putInForce_28 ?_
  refine fs_lift (fun _ _ _ _ => lv_aload_n hx hb d_Slot_putInForce_31 rfl (lv_at hl 1 rfl)) ?_
  refine fs_lift (fun _ _ _ _ => lv_dup hx hb d_Slot_putInForce_32 rfl) ?_
  refine fs_Jgi S hG fs_in3 rfl 4 (Nat.le_of_ble_eq_true rfl) tw_1_107 (fun _ h9 => h9) d_Slot_putInForce_33 (fun v4 => ?_)
  refine fs_lift (fun _ _ _ _ => lv_iconst (v := 1) hx hb d_Slot_putInForce_36 (by decide)) ?_
  refine fs_lift (fun _ _ _ _ => lv_iadd hx hb d_Slot_putInForce_37) ?_
  refine fs_Jput S hG fs_in3 rfl 4 (Nat.le_of_ble_eq_true rfl) tw_1_107 (fun _ h9 => h9) fs_Y3 fs_ty3 fs_nm3 (Or.inl rfl) rfl rfl d_Slot_putInForce_38 ?_
  refine fs_lift (fun _ _ _ _ => lv_aload_n hx hb d_Slot_putInForce_41 rfl (lv_at hl 1 rfl)) ?_
  refine fs_lift (fun _ _ _ _ => lv_iload_n hx hb d_Slot_putInForce_42 rfl (lv_at hl 2 rfl)) ?_
  refine fs_Jput S hG fs_in3 rfl 5 (Nat.le_of_ble_eq_true rfl) tw_1_110 (fun _ h9 => h9) fs_Y3 fs_ty3 fs_nm3 (Or.inl rfl) rfl rfl d_Slot_putInForce_43 ?_
  exact fs_Jvret S hr hk rfl d_Slot_putInForce_46

theorem d_Fs_seal_0 : decode prog_1_method_8_code 0 = .ok (.aload_n 0, 1) := by decide +kernel
theorem d_Fs_seal_1 : decode prog_1_method_8_code 1 = .ok (.iload_n 1, 1) := by decide +kernel
theorem d_Fs_seal_2 : decode prog_1_method_8_code 2 = .ok (.iload_n 2, 1) := by decide +kernel
theorem d_Fs_seal_3 : decode prog_1_method_8_code 3 = .ok (.invokevirtual 106, 3) := by decide +kernel
theorem d_Fs_seal_6 : decode prog_1_method_8_code 6 = .ok (.astore_n 3, 1) := by decide +kernel
theorem d_Fs_seal_7 : decode prog_1_method_8_code 7 = .ok (.aload_n 3, 1) := by decide +kernel
theorem d_Fs_seal_8 : decode prog_1_method_8_code 8 = .ok (.getfield 118, 3) := by decide +kernel
theorem d_Fs_seal_11 : decode prog_1_method_8_code 11 = .ok (.getfield 135, 3) := by decide +kernel
theorem d_Fs_seal_14 : decode prog_1_method_8_code 14 = .ok (.ifCond .eq 10, 3) := by decide +kernel
theorem d_Fs_seal_17 : decode prog_1_method_8_code 17 = .ok (.aload_n 3, 1) := by decide +kernel
theorem d_Fs_seal_18 : decode prog_1_method_8_code 18 = .ok (.getfield 139, 3) := by decide +kernel
theorem d_Fs_seal_21 : decode prog_1_method_8_code 21 = .ok (.ifCond .eq 13, 3) := by decide +kernel
theorem d_Fs_seal_24 : decode prog_1_method_8_code 24 = .ok (.new 56, 3) := by decide +kernel
theorem d_Fs_seal_27 : decode prog_1_method_8_code 27 = .ok (.dup, 1) := by decide +kernel
theorem d_Fs_seal_28 : decode prog_1_method_8_code 28 = .ok (.ldc 143, 2) := by decide +kernel
theorem d_Fs_seal_30 : decode prog_1_method_8_code 30 = .ok (.invokespecial 60, 3) := by decide +kernel
theorem d_Fs_seal_33 : decode prog_1_method_8_code 33 = .ok (.athrow, 1) := by decide +kernel
theorem d_Fs_seal_34 : decode prog_1_method_8_code 34 = .ok (.aload_n 3, 1) := by decide +kernel
theorem d_Fs_seal_35 : decode prog_1_method_8_code 35 = .ok (.aload_n 0, 1) := by decide +kernel
theorem d_Fs_seal_36 : decode prog_1_method_8_code 36 = .ok (.iload_n 1, 1) := by decide +kernel
theorem d_Fs_seal_37 : decode prog_1_method_8_code 37 = .ok (.invokevirtual 35, 3) := by decide +kernel
theorem d_Fs_seal_40 : decode prog_1_method_8_code 40 = .ok (.invokevirtual 145, 3) := by decide +kernel
theorem d_Fs_seal_43 : decode prog_1_method_8_code 43 = .ok (.invokevirtual 148, 3) := by decide +kernel
theorem d_Fs_seal_46 : decode prog_1_method_8_code 46 = .ok (.aload_n 3, 1) := by decide +kernel
theorem d_Fs_seal_47 : decode prog_1_method_8_code 47 = .ok (.getfield 151, 3) := by decide +kernel
theorem d_Fs_seal_50 : decode prog_1_method_8_code 50 = .ok (.ireturn, 1) := by decide +kernel
theorem q_Fs_seal : (⟨"FlowShelf", "seal", "(II)I"⟩ : MethodName).cls ≠ "java/lang/invoke/MethodHandle" ∧ (⟨"FlowShelf", "seal", "(II)I"⟩ : MethodName).cls ≠ "java/lang/invoke/VarHandle" ∧ (parseMethodDescriptor (⟨"FlowShelf", "seal", "(II)I"⟩ : MethodName).desc).map (fun d => d.parameters.length) = some 2 := by decide +kernel
set_option maxHeartbeats 4000000 in
set_option maxRecDepth 100000 in
theorem m_Fs_seal (X : fs_X) (l : Launch) (hl0 : l.stackTraces = false) (a0 : Nat) (x1 : Int32) (x2 : Int32) {r : (Int32 ⊕ String)} {σ σF : fs_S} (h : (f_Fs_seal a0 x1 x2).1 σ = some (r, σF)) : fs_Met X l ⟨"FlowShelf", "seal", "(II)I"⟩ (Cond.code ⟨"FlowShelf", "seal", "(II)I"⟩ prog_1_method_8_code 4 (some FieldType.int)) 8 126 [.ref a0, .int x1, .int x2] σ (fs_qI r) σF := by
  refine fs_ofW (by decide) ?_
  intro p e s m args below meth c s₁ B hml hT hv
  obtain ⟨rfl, hw0, hG⟩ := hv
  have hx := B.exec
  have hb := B.bytes
  have hr := B.returns
  have hk := B.notSynchronized
  have S : CallFix p m c prog_1_method_8_code 4 s _ fs_ws "FlowShelf" := ⟨B.exec, B.bytes, hml, findClass_of_methodNamed B.named, fun w hw => atoms_spec (ws := _ :: fs_ws) B.pre w (List.mem_cons_of_mem _ hw)⟩
  have hR := fs_hR (fr := 8) (lo := 126) ((f_Fs_seal a0 x1 x2).2 _ _ _ h)
  have hl := lv_entry ([.ref a0, .int x1, .int x2]) (n := 4) (Nat.le_of_ble_eq_true rfl)
  rw [lg_entry_eq]
  generalize (lg_sl ([.ref a0, .int x1, .int x2]) ++ List.replicate (4 - (lg_sl ([.ref a0, .int x1, .int x2])).length) Slot.unset).toArray = ls at hl ⊢
  have hl : lv_has ls 4 [(0, .ref a0), (1, .int x1), (2, .int x2)] := hl
  refine (?_ : fs_J X p l e (fs_rm 8 126 σ σF) s m _ below meth c (fs_Q X below _ s (fs_qI r) σ σF) r σ σF (f_Fs_seal a0 x1 x2) (F0 m 0 ls [])) σ s.heap [] 0 0 h hw0 va_S.rf rfl rfl
  clear h hw0
  unfold f_Fs_seal
  refine fs_lift (fun _ _ _ _ => lv_aload_n hx hb d_Fs_seal_0 rfl (lv_at hl 0 rfl)) ?_
  refine fs_lift (fun _ _ _ _ => lv_iload_n hx hb d_Fs_seal_1 rfl (lv_at hl 1 rfl)) ?_
  refine fs_lift (fun _ _ _ _ => lv_iload_n hx hb d_Fs_seal_2 rfl (lv_at hl 2 rfl)) ?_
  refine fs_JVx S hG hR hT hk rfl [.int x1, .int x2] (fun r => some (.ref r)) (encx := fs_qR) (fun _ => rfl) (fun _ => rfl) (fun zr zs zt zh => m_Fs_slotOf X l hl0 a0 x1 x2 zh) tw_3_140 tw_3_142 tp_1_7 tw_3_143 tw_1_1 q_Fs_slotOf ⟨(Nat.le_of_ble_eq_true rfl), (Nat.le_of_ble_eq_true rfl)⟩ hl.1 rfl (Nat.le_of_ble_eq_true rfl) d_Fs_seal_3 (enc := fs_qI) (fun _ => rfl) (fun r1 => ?_)
  refine fs_Jeq (g2 := F0 m 6 ls [.ref r1]) rfl ?_
  refine fs_liftL (fun _ _ _ _ => lv_astore_n (lv' := [(3, .ref r1), (0, .ref a0), (1, .int x1), (2, .int x2)]) hx hb d_Fs_seal_6 rfl hl (Nat.le_of_ble_eq_true rfl) rfl) (fun ls hl => ?_)
  refine fs_lift (fun _ _ _ _ => lv_aload_n hx hb d_Fs_seal_7 rfl (lv_at hl 0 rfl)) ?_
  refine fs_Jgr S hG fs_in3 rfl 1 (Nat.le_of_ble_eq_true rfl) tw_1_101 (fun _ h9 => h9) d_Fs_seal_8 (fun r2 => ?_)
  refine fs_Jgi S hG fs_in4 rfl 2 (Nat.le_of_ble_eq_true rfl) tw_1_88 (fun _ h9 => h9) d_Fs_seal_11 (fun v3 => ?_)
  refine fs_Jlet1 (nL := 4) (pj := 24) (I := fun (_ : Unit) => []) (st := fun (_ : Unit) => []) (fun _ ls hl => ?_) (fun j24 hj24 => ?_)
  · exact fs_Jthrow S hG hR hl0 (names := fs_nms) (len := 2) (.ldc 143) (Or.inl ⟨rfl, rfl⟩) (by decide) fs_fit fs_at2 tw_2_146 tw_1_16 tb_3_165 hl.1 hT hk (Nat.le_of_ble_eq_true rfl) (Nat.le_of_ble_eq_true rfl) d_Fs_seal_24 d_Fs_seal_27 d_Fs_seal_28 d_Fs_seal_30 d_Fs_seal_33 rfl
  · refine fs_if (fun _ _ _ _ => lv_if_eq hx hb d_Fs_seal_14 rfl) ?_ ?_
    · exact hj24 () ls (lv_sub hl [] rfl)
    · refine fs_lift (fun _ _ _ _ => lv_aload_n hx hb d_Fs_seal_17 rfl (lv_at hl 0 rfl)) ?_
      refine fs_Jgi S hG fs_in3 rfl 3 (Nat.le_of_ble_eq_true rfl) tw_1_105 (fun _ h9 => h9) d_Fs_seal_18 (fun v4 => ?_)
      refine fs_if (fun _ _ _ _ => lv_if_eq hx hb d_Fs_seal_21 rfl) ?_ ?_
      · refine fs_lift (fun _ _ _ _ => lv_aload_n hx hb d_Fs_seal_34 rfl (lv_at hl 0 rfl)) ?_
        refine fs_lift (fun _ _ _ _ => lv_aload_n hx hb d_Fs_seal_35 rfl (lv_at hl 1 rfl)) ?_
        refine fs_lift (fun _ _ _ _ => lv_iload_n hx hb d_Fs_seal_36 rfl (lv_at hl 2 rfl)) ?_
        refine fs_JVx S hG hR hT hk rfl [.int x1] (fun r => some (.ref r)) (encx := fs_qR) (fun _ => rfl) (fun _ => rfl) (fun zr zs zt zh => m_Fs_exporterOf X l hl0 a0 x1 zh) tw_2_60 tw_2_62 tp_1_1 tw_2_63 tw_1_1 q_Fs_exporterOf ⟨(Nat.le_of_ble_eq_true rfl), (Nat.le_of_ble_eq_true rfl)⟩ hl.1 rfl (Nat.le_of_ble_eq_true rfl) d_Fs_seal_37 (enc := fs_qI) (fun _ => rfl) (fun r5 => ?_)
        refine fs_Jeq (g2 := F0 m 40 ls [.ref r5, .ref r1]) rfl ?_
        refine fs_JV S hG hR rfl [] (enc := fun r => some (.int r)) (fun zr zs zt zh => m_Exporter_nextSeal X l r5 zh) tw_3_166 tw_3_167 tw_3_168 tw_3_169 tw_1_2 q_Exporter_nextSeal ⟨(Nat.le_of_ble_eq_true rfl), (Nat.le_of_ble_eq_true rfl)⟩ hl.1 rfl (Nat.le_of_ble_eq_true rfl) d_Fs_seal_40 (fun v6 => ?_)
        refine fs_Jeq (g2 := F0 m 43 ls [.int v6, .ref r1]) rfl ?_
        refine fs_JV S hG hR rfl [.int v6] (enc := fun _ => none) (fun zr zs zt zh => m_Slot_putInForce X l r1 v6 zh) tw_3_170 tw_3_171 tw_3_172 tw_3_173 tw_1_6 q_Slot_putInForce ⟨(Nat.le_of_ble_eq_true rfl), (Nat.le_of_ble_eq_true rfl)⟩ hl.1 rfl (Nat.le_of_ble_eq_true rfl) d_Fs_seal_43 (fun _ => ?_)
        refine fs_Jeq (g2 := F0 m 46 ls []) rfl ?_
        refine fs_lift (fun _ _ _ _ => lv_aload_n hx hb d_Fs_seal_46 rfl (lv_at hl 0 rfl)) ?_
        refine fs_Jgi S hG fs_in3 rfl 4 (Nat.le_of_ble_eq_true rfl) tw_1_108 (fun _ h9 => h9) d_Fs_seal_47 (fun v7 => ?_)
        exact fs_Jiret S hr hk rfl d_Fs_seal_50
      · exact hj24 () ls (lv_sub hl [] rfl)

theorem d_Fs_withdraw_0 : decode prog_1_method_9_code 0 = .ok (.aload_n 0, 1) := by decide +kernel
theorem d_Fs_withdraw_1 : decode prog_1_method_9_code 1 = .ok (.iload_n 1, 1) := by decide +kernel
theorem d_Fs_withdraw_2 : decode prog_1_method_9_code 2 = .ok (.iload_n 2, 1) := by decide +kernel
theorem d_Fs_withdraw_3 : decode prog_1_method_9_code 3 = .ok (.invokevirtual 106, 3) := by decide +kernel
theorem d_Fs_withdraw_6 : decode prog_1_method_9_code 6 = .ok (.astore_n 3, 1) := by decide +kernel
theorem d_Fs_withdraw_7 : decode prog_1_method_9_code 7 = .ok (.aload_n 3, 1) := by decide +kernel
theorem d_Fs_withdraw_8 : decode prog_1_method_9_code 8 = .ok (.getfield 139, 3) := by decide +kernel
theorem d_Fs_withdraw_11 : decode prog_1_method_9_code 11 = .ok (.ifCond .ne 13, 3) := by decide +kernel
theorem d_Fs_withdraw_14 : decode prog_1_method_9_code 14 = .ok (.new 56, 3) := by decide +kernel
theorem d_Fs_withdraw_17 : decode prog_1_method_9_code 17 = .ok (.dup, 1) := by decide +kernel
theorem d_Fs_withdraw_18 : decode prog_1_method_9_code 18 = .ok (.ldc 154, 2) := by decide +kernel
theorem d_Fs_withdraw_20 : decode prog_1_method_9_code 20 = .ok (.invokespecial 60, 3) := by decide +kernel
theorem d_Fs_withdraw_23 : decode prog_1_method_9_code 23 = .ok (.athrow, 1) := by decide +kernel
theorem d_Fs_withdraw_24 : decode prog_1_method_9_code 24 = .ok (.aload_n 3, 1) := by decide +kernel
theorem d_Fs_withdraw_25 : decode prog_1_method_9_code 25 = .ok (.iconst 0, 1) := by decide +kernel
theorem d_Fs_withdraw_26 : decode prog_1_method_9_code 26 = .ok (.putfield 139, 3) := by decide +kernel
theorem d_Fs_withdraw_29 : decode prog_1_method_9_code 29 = .ok (.return_, 1) := by decide +kernel
theorem q_Fs_withdraw : (⟨"FlowShelf", "withdraw", "(II)V"⟩ : MethodName).cls ≠ "java/lang/invoke/MethodHandle" ∧ (⟨"FlowShelf", "withdraw", "(II)V"⟩ : MethodName).cls ≠ "java/lang/invoke/VarHandle" ∧ (parseMethodDescriptor (⟨"FlowShelf", "withdraw", "(II)V"⟩ : MethodName).desc).map (fun d => d.parameters.length) = some 2 := by decide +kernel
set_option maxHeartbeats 4000000 in
set_option maxRecDepth 100000 in
theorem m_Fs_withdraw (X : fs_X) (l : Launch) (hl0 : l.stackTraces = false) (a0 : Nat) (x1 : Int32) (x2 : Int32) {r : (Unit ⊕ String)} {σ σF : fs_S} (h : (f_Fs_withdraw a0 x1 x2).1 σ = some (r, σF)) : fs_Met X l ⟨"FlowShelf", "withdraw", "(II)V"⟩ (Cond.code ⟨"FlowShelf", "withdraw", "(II)V"⟩ prog_1_method_9_code 4 none) 8 126 [.ref a0, .int x1, .int x2] σ (fs_qV r) σF := by
  refine fs_ofW (by decide) ?_
  intro p e s m args below meth c s₁ B hml hT hv
  obtain ⟨rfl, hw0, hG⟩ := hv
  have hx := B.exec
  have hb := B.bytes
  have hr := B.returns
  have hk := B.notSynchronized
  have S : CallFix p m c prog_1_method_9_code 4 s _ fs_ws "FlowShelf" := ⟨B.exec, B.bytes, hml, findClass_of_methodNamed B.named, fun w hw => atoms_spec (ws := _ :: fs_ws) B.pre w (List.mem_cons_of_mem _ hw)⟩
  have hR := fs_hR (fr := 8) (lo := 126) ((f_Fs_withdraw a0 x1 x2).2 _ _ _ h)
  have hl := lv_entry ([.ref a0, .int x1, .int x2]) (n := 4) (Nat.le_of_ble_eq_true rfl)
  rw [lg_entry_eq]
  generalize (lg_sl ([.ref a0, .int x1, .int x2]) ++ List.replicate (4 - (lg_sl ([.ref a0, .int x1, .int x2])).length) Slot.unset).toArray = ls at hl ⊢
  have hl : lv_has ls 4 [(0, .ref a0), (1, .int x1), (2, .int x2)] := hl
  refine (?_ : fs_J X p l e (fs_rm 8 126 σ σF) s m _ below meth c (fs_Q X below _ s (fs_qV r) σ σF) r σ σF (f_Fs_withdraw a0 x1 x2) (F0 m 0 ls [])) σ s.heap [] 0 0 h hw0 va_S.rf rfl rfl
  clear h hw0
  unfold f_Fs_withdraw
  refine fs_lift (fun _ _ _ _ => lv_aload_n hx hb d_Fs_withdraw_0 rfl (lv_at hl 0 rfl)) ?_
  refine fs_lift (fun _ _ _ _ => lv_iload_n hx hb d_Fs_withdraw_1 rfl (lv_at hl 1 rfl)) ?_
  refine fs_lift (fun _ _ _ _ => lv_iload_n hx hb d_Fs_withdraw_2 rfl (lv_at hl 2 rfl)) ?_
  refine fs_JVx S hG hR hT hk rfl [.int x1, .int x2] (fun r => some (.ref r)) (encx := fs_qR) (fun _ => rfl) (fun _ => rfl) (fun zr zs zt zh => m_Fs_slotOf X l hl0 a0 x1 x2 zh) tw_3_140 tw_3_142 tp_1_7 tw_3_143 tw_1_1 q_Fs_slotOf ⟨(Nat.le_of_ble_eq_true rfl), (Nat.le_of_ble_eq_true rfl)⟩ hl.1 rfl (Nat.le_of_ble_eq_true rfl) d_Fs_withdraw_3 (enc := fs_qV) (fun _ => rfl) (fun r1 => ?_)
  refine fs_Jeq (g2 := F0 m 6 ls [.ref r1]) rfl ?_
  refine fs_liftL (fun _ _ _ _ => lv_astore_n (lv' := [(3, .ref r1), (0, .ref a0), (1, .int x1), (2, .int x2)]) hx hb d_Fs_withdraw_6 rfl hl (Nat.le_of_ble_eq_true rfl) rfl) (fun ls hl => ?_)
  refine fs_lift (fun _ _ _ _ => lv_aload_n hx hb d_Fs_withdraw_7 rfl (lv_at hl 0 rfl)) ?_
  refine fs_Jgi S hG fs_in3 rfl 3 (Nat.le_of_ble_eq_true rfl) tw_1_105 (fun _ h9 => h9) d_Fs_withdraw_8 (fun v2 => ?_)
  refine fs_ifn (fun _ _ _ _ => lv_if_ne hx hb d_Fs_withdraw_11 rfl) ?_ ?_
  · exact fs_Jthrow S hG hR hl0 (names := fs_nms) (len := 2) (.ldc 154) (Or.inl ⟨rfl, rfl⟩) (by decide) fs_fit fs_at2 tw_2_146 tw_1_16 tb_3_181 hl.1 hT hk (Nat.le_of_ble_eq_true rfl) (Nat.le_of_ble_eq_true rfl) d_Fs_withdraw_14 d_Fs_withdraw_17 d_Fs_withdraw_18 d_Fs_withdraw_20 d_Fs_withdraw_23 rfl
  · refine fs_lift (fun _ _ _ _ => lv_aload_n hx hb d_Fs_withdraw_24 rfl (lv_at hl 0 rfl)) ?_
    refine fs_lift (fun _ _ _ _ => lv_iconst (v := 0) hx hb d_Fs_withdraw_25 (by decide)) ?_
    refine fs_Jpz (fun hz9 => ?_)
    refine fs_Jput S hG fs_in3 rfl 3 (Nat.le_of_ble_eq_true rfl) tw_1_105 (fun _ h9 => h9) fs_Y3 fs_ty3 fs_nm3 (Or.inl rfl) (fs_nar hz9) rfl d_Fs_withdraw_26 ?_
    exact fs_Jvret S hr hk rfl d_Fs_withdraw_29

theorem d_ArrayList_clear_0 : decode prog_29_method_40_code 0 = .ok (.aload_n 0, 1) := by decide +kernel
theorem d_ArrayList_clear_1 : decode prog_29_method_40_code 1 = .ok (.dup, 1) := by decide +kernel
theorem d_ArrayList_clear_2 : decode prog_29_method_40_code 2 = .ok (.getfield 63, 3) := by decide +kernel
theorem d_ArrayList_clear_5 : decode prog_29_method_40_code 5 = .ok (.iconst 1, 1) := by decide +kernel
theorem d_ArrayList_clear_6 : decode prog_29_method_40_code 6 = .ok (.iadd, 1) := by decide +kernel
theorem d_ArrayList_clear_7 : decode prog_29_method_40_code 7 = .ok (.putfield 63, 3) := by decide +kernel
theorem d_ArrayList_clear_10 : decode prog_29_method_40_code 10 = .ok (.aload_n 0, 1) := by decide +kernel
theorem d_ArrayList_clear_11 : decode prog_29_method_40_code 11 = .ok (.getfield 9, 3) := by decide +kernel
theorem d_ArrayList_clear_14 : decode prog_29_method_40_code 14 = .ok (.astore_n 1, 1) := by decide +kernel
theorem d_ArrayList_clear_15 : decode prog_29_method_40_code 15 = .ok (.aload_n 0, 1) := by decide +kernel
theorem d_ArrayList_clear_16 : decode prog_29_method_40_code 16 = .ok (.getfield 48, 3) := by decide +kernel
theorem d_ArrayList_clear_19 : decode prog_29_method_40_code 19 = .ok (.istore_n 2, 1) := by decide +kernel
theorem d_ArrayList_clear_20 : decode prog_29_method_40_code 20 = .ok (.aload_n 0, 1) := by decide +kernel
theorem d_ArrayList_clear_21 : decode prog_29_method_40_code 21 = .ok (.iconst 0, 1) := by decide +kernel
theorem d_ArrayList_clear_22 : decode prog_29_method_40_code 22 = .ok (.dup_x1, 1) := by decide +kernel
theorem d_ArrayList_clear_23 : decode prog_29_method_40_code 23 = .ok (.putfield 48, 3) := by decide +kernel
theorem d_ArrayList_clear_26 : decode prog_29_method_40_code 26 = .ok (.istore_n 3, 1) := by decide +kernel
theorem d_ArrayList_clear_27 : decode prog_29_method_40_code 27 = .ok (.iload_n 3, 1) := by decide +kernel
theorem d_ArrayList_clear_28 : decode prog_29_method_40_code 28 = .ok (.iload_n 2, 1) := by decide +kernel
theorem d_ArrayList_clear_29 : decode prog_29_method_40_code 29 = .ok (.if_icmp .ge 13, 3) := by decide +kernel
theorem d_ArrayList_clear_32 : decode prog_29_method_40_code 32 = .ok (.aload_n 1, 1) := by decide +kernel
theorem d_ArrayList_clear_33 : decode prog_29_method_40_code 33 = .ok (.iload_n 3, 1) := by decide +kernel
theorem d_ArrayList_clear_34 : decode prog_29_method_40_code 34 = .ok (.aconst_null, 1) := by decide +kernel
theorem d_ArrayList_clear_35 : decode prog_29_method_40_code 35 = .ok (.aastore, 1) := by decide +kernel
theorem d_ArrayList_clear_36 : decode prog_29_method_40_code 36 = .ok (.iinc 3 1, 3) := by decide +kernel
theorem d_ArrayList_clear_39 : decode prog_29_method_40_code 39 = .ok (.goto (-12), 3) := by decide +kernel
theorem d_ArrayList_clear_42 : decode prog_29_method_40_code 42 = .ok (.return_, 1) := by decide +kernel
theorem q_ArrayList_clear : (⟨"java/util/ArrayList", "clear", "()V"⟩ : MethodName).cls ≠ "java/lang/invoke/MethodHandle" ∧ (⟨"java/util/ArrayList", "clear", "()V"⟩ : MethodName).cls ≠ "java/lang/invoke/VarHandle" ∧ (parseMethodDescriptor (⟨"java/util/ArrayList", "clear", "()V"⟩ : MethodName).desc).map (fun d => d.parameters.length) = some 0 := by decide +kernel
set_option maxHeartbeats 4000000 in
set_option maxRecDepth 100000 in
theorem m_ArrayList_clear (X : fs_X) (l : Launch) (a0 : Nat) {r : Unit} {σ σF : fs_S} (h : (f_ArrayList_clear a0).1 σ = some (r, σF)) : fs_Met X l ⟨"java/util/ArrayList", "clear", "()V"⟩ (Cond.code ⟨"java/util/ArrayList", "clear", "()V"⟩ prog_29_method_40_code 4 none) 0 0 [.ref a0] σ (fs_eV r) σF := by
  refine fs_ofW (by decide) ?_
  intro p e s m args below meth c s₁ B hml hT hv
  obtain ⟨rfl, hw0, hG⟩ := hv
  have hx := B.exec
  have hb := B.bytes
  have hr := B.returns
  have hk := B.notSynchronized
  have S : CallFix p m c prog_29_method_40_code 4 s _ fs_ws "java/util/ArrayList" := ⟨B.exec, B.bytes, hml, findClass_of_methodNamed B.named, fun w hw => atoms_spec (ws := _ :: fs_ws) B.pre w (List.mem_cons_of_mem _ hw)⟩
  have hR := fs_hR (fr := 0) (lo := 0) ((f_ArrayList_clear a0).2 _ _ _ h)
  have hl := lv_entry ([.ref a0]) (n := 4) (Nat.le_of_ble_eq_true rfl)
  rw [lg_entry_eq]
  generalize (lg_sl ([.ref a0]) ++ List.replicate (4 - (lg_sl ([.ref a0])).length) Slot.unset).toArray = ls at hl ⊢
  have hl : lv_has ls 4 [(0, .ref a0)] := hl
  refine (?_ : fs_J X p l e (fs_rm 0 0 σ σF) s m _ below meth c (fs_Q X below _ s (fs_eV r) σ σF) r σ σF (f_ArrayList_clear a0) (F0 m 0 ls [])) σ s.heap [] 0 0 h hw0 va_S.rf rfl rfl
  clear h hw0
  unfold f_ArrayList_clear
  refine fs_lift (fun _ _ _ _ => lv_aload_n hx hb d_ArrayList_clear_0 rfl (lv_at hl 0 rfl)) ?_
  refine fs_lift (fun _ _ _ _ => lv_dup hx hb d_ArrayList_clear_1 rfl) ?_
  refine fs_Jgi S hG fs_in2 rfl 2 (Nat.le_of_ble_eq_true rfl) tw_1_60 (fun x9 h9 => u_same (S.2.2.2.2 _ tw_1_61) x9 h9) d_ArrayList_clear_2 (fun v1 => ?_)
  refine fs_lift (fun _ _ _ _ => lv_iconst (v := 1) hx hb d_ArrayList_clear_5 (by decide)) ?_
  refine fs_lift (fun _ _ _ _ => lv_iadd hx hb d_ArrayList_clear_6) ?_
  refine fs_Jput S hG fs_in2 rfl 2 (Nat.le_of_ble_eq_true rfl) tw_1_60 (fun x9 h9 => u_same (S.2.2.2.2 _ tw_1_61) x9 h9) fs_Y2 fs_ty2 fs_nm2 (Or.inl rfl) rfl rfl d_ArrayList_clear_7 ?_
  refine fs_lift (fun _ _ _ _ => lv_aload_n hx hb d_ArrayList_clear_10 rfl (lv_at hl 0 rfl)) ?_
  refine fs_Jgr S hG fs_in2 rfl 0 (Nat.le_of_ble_eq_true rfl) tw_1_57 (fun _ h9 => h9) d_ArrayList_clear_11 (fun r2 => ?_)
  refine fs_liftL (fun _ _ _ _ => lv_astore_n (lv' := [(1, .ref r2), (0, .ref a0)]) hx hb d_ArrayList_clear_14 rfl hl (Nat.le_of_ble_eq_true rfl) rfl) (fun ls hl => ?_)
  refine fs_lift (fun _ _ _ _ => lv_aload_n hx hb d_ArrayList_clear_15 rfl (lv_at hl 1 rfl)) ?_
  refine fs_Jgi S hG fs_in2 rfl 1 (Nat.le_of_ble_eq_true rfl) tw_1_58 (fun _ h9 => h9) d_ArrayList_clear_16 (fun v3 => ?_)
  refine fs_liftL (fun _ _ _ _ => lv_istore_n (lv' := [(2, .int v3), (1, .ref r2), (0, .ref a0)]) hx hb d_ArrayList_clear_19 rfl hl (Nat.le_of_ble_eq_true rfl) rfl) (fun ls hl => ?_)
  refine fs_lift (fun _ _ _ _ => lv_aload_n hx hb d_ArrayList_clear_20 rfl (lv_at hl 2 rfl)) ?_
  refine fs_lift (fun _ _ _ _ => lv_iconst (v := 0) hx hb d_ArrayList_clear_21 (by decide)) ?_
  refine fs_lift (fun _ _ _ _ => lv_dup_x1 hx hb d_ArrayList_clear_22 rfl rfl) ?_
  refine fs_Jput S hG fs_in2 rfl 1 (Nat.le_of_ble_eq_true rfl) tw_1_58 (fun _ h9 => h9) fs_Y2 fs_ty2 fs_nm2 (Or.inl rfl) rfl rfl d_ArrayList_clear_23 ?_
  refine fs_liftL (fun _ _ _ _ => lv_istore_n (lv' := [(3, .int 0), (2, .int v3), (1, .ref r2), (0, .ref a0)]) hx hb d_ArrayList_clear_26 rfl hl (Nat.le_of_ble_eq_true rfl) rfl) (fun ls hl => ?_)
  refine fs_Jlp1 (nL := 4) (pc := 27) (rest := []) (I := fun (v4 : Int32) => [(1, .ref r2), (2, .int v3), (3, .int v4)]) (fun k27 hk27 v4 ls hl => ?_) _ _ _ (lv_sub hl [2, 1, 0] rfl)
  refine fs_lift (fun _ _ _ _ => lv_iload_n hx hb d_ArrayList_clear_27 rfl (lv_at hl 2 rfl)) ?_
  refine fs_lift (fun _ _ _ _ => lv_iload_n hx hb d_ArrayList_clear_28 rfl (lv_at hl 1 rfl)) ?_
  refine fs_if (fun _ _ _ _ => lv_icmp_ge hx hb d_ArrayList_clear_29 rfl) ?_ ?_
  · exact fs_Jvret S hr hk rfl d_ArrayList_clear_42
  · refine fs_lift (fun _ _ _ _ => lv_aload_n hx hb d_ArrayList_clear_32 rfl (lv_at hl 0 rfl)) ?_
    refine fs_lift (fun _ _ _ _ => lv_iload_n hx hb d_ArrayList_clear_33 rfl (lv_at hl 2 rfl)) ?_
    refine fs_lift (fun _ _ _ _ => lv_null hx hb d_ArrayList_clear_34) ?_
    refine fs_Js0 S hG d_ArrayList_clear_35 ?_
    refine fs_Jnm (fun v5 hv9 => ?_)
    refine fs_liftL (fun _ _ _ _ => lv_iinc (k := 2) (v := v5) (lv' := [(3, .int v5), (1, .ref r2), (2, .int v3)]) hx hb d_ArrayList_clear_36 hl rfl (by rw [hv9]; rfl) (Nat.le_of_ble_eq_true rfl) rfl) (fun ls hl => ?_)
    refine fs_lift (fun _ _ _ _ => lv_goto hx hb d_ArrayList_clear_39 rfl) ?_
    exact hk27 v5 ls (lv_sub hl [1, 2, 0] rfl)

theorem d_Slot_forget_0 : decode prog_10_method_3_code 0 = .ok (.aload_n 0, 1) := by decide +kernel
theorem d_Slot_forget_1 : decode prog_10_method_3_code 1 = .ok (.getfield 10, 3) := by decide +kernel
theorem d_Slot_forget_4 : decode prog_10_method_3_code 4 = .ok (.iconst 0, 1) := by decide +kernel
theorem d_Slot_forget_5 : decode prog_10_method_3_code 5 = .ok (.putfield 23, 3) := by decide +kernel
theorem d_Slot_forget_8 : decode prog_10_method_3_code 8 = .ok (.aload_n 0, 1) := by decide +kernel
theorem d_Slot_forget_9 : decode prog_10_method_3_code 9 = .ok (.iconst 0, 1) := by decide +kernel
theorem d_Slot_forget_10 : decode prog_10_method_3_code 10 = .ok (.putfield 26, 3) := by decide +kernel
theorem d_Slot_forget_13 : decode prog_10_method_3_code 13 = .ok (.aload_n 0, 1) := by decide +kernel
theorem d_Slot_forget_14 : decode prog_10_method_3_code 14 = .ok (.iconst 0, 1) := by decide +kernel
theorem d_Slot_forget_15 : decode prog_10_method_3_code 15 = .ok (.putfield 30, 3) := by decide +kernel
theorem d_Slot_forget_18 : decode prog_10_method_3_code 18 = .ok (.return_, 1) := by decide +kernel
theorem q_Slot_forget : (⟨"FlowShelf$Slot", "forget", "()V"⟩ : MethodName).cls ≠ "java/lang/invoke/MethodHandle" ∧ (⟨"FlowShelf$Slot", "forget", "()V"⟩ : MethodName).cls ≠ "java/lang/invoke/VarHandle" ∧ (parseMethodDescriptor (⟨"FlowShelf$Slot", "forget", "()V"⟩ : MethodName).desc).map (fun d => d.parameters.length) = some 0 := by decide +kernel
set_option maxHeartbeats 4000000 in
set_option maxRecDepth 100000 in
theorem m_Slot_forget (X : fs_X) (l : Launch) (a0 : Nat) {r : Unit} {σ σF : fs_S} (h : (f_Slot_forget a0).1 σ = some (r, σF)) : fs_Met X l ⟨"FlowShelf$Slot", "forget", "()V"⟩ (Cond.code ⟨"FlowShelf$Slot", "forget", "()V"⟩ prog_10_method_3_code 1 none) 0 0 [.ref a0] σ (fs_eV r) σF := by
  refine fs_ofW (by decide) ?_
  intro p e s m args below meth c s₁ B hml hT hv
  obtain ⟨rfl, hw0, hG⟩ := hv
  have hx := B.exec
  have hb := B.bytes
  have hr := B.returns
  have hk := B.notSynchronized
  have S : CallFix p m c prog_10_method_3_code 1 s _ fs_ws "FlowShelf$Slot" := ⟨B.exec, B.bytes, hml, findClass_of_methodNamed B.named, fun w hw => atoms_spec (ws := _ :: fs_ws) B.pre w (List.mem_cons_of_mem _ hw)⟩
  have hR := fs_hR (fr := 0) (lo := 0) ((f_Slot_forget a0).2 _ _ _ h)
  have hl := lv_entry ([.ref a0]) (n := 1) (Nat.le_of_ble_eq_true rfl)
  rw [lg_entry_eq]
  generalize (lg_sl ([.ref a0]) ++ List.replicate (1 - (lg_sl ([.ref a0])).length) Slot.unset).toArray = ls at hl ⊢
  have hl : lv_has ls 1 [(0, .ref a0)] := hl
  refine (?_ : fs_J X p l e (fs_rm 0 0 σ σF) s m _ below meth c (fs_Q X below _ s (fs_eV r) σ σF) r σ σF (f_Slot_forget a0) (F0 m 0 ls [])) σ s.heap [] 0 0 h hw0 va_S.rf rfl rfl
  clear h hw0
  unfold f_Slot_forget
  refine fs_lift (fun _ _ _ _ => lv_aload_n hx hb d_Slot_forget_0 rfl (lv_at hl 0 rfl)) ?_
  refine fs_Jgr S hG fs_in3 rfl 1 (Nat.le_of_ble_eq_true rfl) tw_1_100 (fun _ h9 => h9) d_Slot_forget_1 (fun r1 => ?_)
  refine fs_lift (fun _ _ _ _ => lv_iconst (v := 0) hx hb d_Slot_forget_4 (by decide)) ?_
  refine fs_Jput S hG fs_in4 rfl 2 (Nat.le_of_ble_eq_true rfl) tw_1_87 (fun _ h9 => h9) fs_Y4 fs_ty4 fs_nm4 (Or.inl rfl) rfl rfl d_Slot_forget_5 ?_
  refine fs_lift (fun _ _ _ _ => lv_aload_n hx hb d_Slot_forget_8 rfl (lv_at hl 0 rfl)) ?_
  refine fs_lift (fun _ _ _ _ => lv_iconst (v := 0) hx hb d_Slot_forget_9 (by decide)) ?_
  refine fs_Jpz (fun hz9 => ?_)
  refine fs_Jput S hG fs_in3 rfl 3 (Nat.le_of_ble_eq_true rfl) tw_1_104 (fun _ h9 => h9) fs_Y3 fs_ty3 fs_nm3 (Or.inl rfl) (fs_nar hz9) rfl d_Slot_forget_10 ?_
  refine fs_lift (fun _ _ _ _ => lv_aload_n hx hb d_Slot_forget_13 rfl (lv_at hl 0 rfl)) ?_
  refine fs_lift (fun _ _ _ _ => lv_iconst (v := 0) hx hb d_Slot_forget_14 (by decide)) ?_
  refine fs_Jput S hG fs_in3 rfl 4 (Nat.le_of_ble_eq_true rfl) tw_1_107 (fun _ h9 => h9) fs_Y3 fs_ty3 fs_nm3 (Or.inl rfl) rfl rfl d_Slot_forget_15 ?_
  exact fs_Jvret S hr hk rfl d_Slot_forget_18

theorem d_Exporter_beginNextEpoch_0 : decode prog_4_method_13_code 0 = .ok (.aload_n 0, 1) := by decide +kernel
theorem d_Exporter_beginNextEpoch_1 : decode prog_4_method_13_code 1 = .ok (.dup, 1) := by decide +kernel
theorem d_Exporter_beginNextEpoch_2 : decode prog_4_method_13_code 2 = .ok (.getfield 104, 3) := by decide +kernel
theorem d_Exporter_beginNextEpoch_5 : decode prog_4_method_13_code 5 = .ok (.iconst 1, 1) := by decide +kernel
theorem d_Exporter_beginNextEpoch_6 : decode prog_4_method_13_code 6 = .ok (.iadd, 1) := by decide +kernel
theorem d_Exporter_beginNextEpoch_7 : decode prog_4_method_13_code 7 = .ok (.putfield 104, 3) := by decide +kernel
theorem d_Exporter_beginNextEpoch_10 : decode prog_4_method_13_code 10 = .ok (.aload_n 0, 1) := by decide +kernel
theorem d_Exporter_beginNextEpoch_11 : decode prog_4_method_13_code 11 = .ok (.getfield 12, 3) := by decide +kernel
theorem d_Exporter_beginNextEpoch_14 : decode prog_4_method_13_code 14 = .ok (.invokevirtual 107, 3) := by decide +kernel
theorem d_Exporter_beginNextEpoch_17 : decode prog_4_method_13_code 17 = .ok (.aload_n 0, 1) := by decide +kernel
theorem d_Exporter_beginNextEpoch_18 : decode prog_4_method_13_code 18 = .ok (.getfield 18, 3) := by decide +kernel
theorem d_Exporter_beginNextEpoch_21 : decode prog_4_method_13_code 21 = .ok (.invokevirtual 107, 3) := by decide +kernel
theorem d_Exporter_beginNextEpoch_24 : decode prog_4_method_13_code 24 = .ok (.iconst 0, 1) := by decide +kernel
theorem d_Exporter_beginNextEpoch_25 : decode prog_4_method_13_code 25 = .ok (.istore_n 1, 1) := by decide +kernel
theorem d_Exporter_beginNextEpoch_26 : decode prog_4_method_13_code 26 = .ok (.iload_n 1, 1) := by decide +kernel
theorem d_Exporter_beginNextEpoch_27 : decode prog_4_method_13_code 27 = .ok (.iconst 3, 1) := by decide +kernel
theorem d_Exporter_beginNextEpoch_28 : decode prog_4_method_13_code 28 = .ok (.if_icmp .ge 18, 3) := by decide +kernel
theorem d_Exporter_beginNextEpoch_31 : decode prog_4_method_13_code 31 = .ok (.aload_n 0, 1) := by decide +kernel
theorem d_Exporter_beginNextEpoch_32 : decode prog_4_method_13_code 32 = .ok (.getfield 23, 3) := by decide +kernel
theorem d_Exporter_beginNextEpoch_35 : decode prog_4_method_13_code 35 = .ok (.iload_n 1, 1) := by decide +kernel
theorem d_Exporter_beginNextEpoch_36 : decode prog_4_method_13_code 36 = .ok (.aaload, 1) := by decide +kernel
theorem d_Exporter_beginNextEpoch_37 : decode prog_4_method_13_code 37 = .ok (.invokevirtual 110, 3) := by decide +kernel
theorem d_Exporter_beginNextEpoch_40 : decode prog_4_method_13_code 40 = .ok (.iinc 1 1, 3) := by decide +kernel
theorem d_Exporter_beginNextEpoch_43 : decode prog_4_method_13_code 43 = .ok (.goto (-17), 3) := by decide +kernel
theorem d_Exporter_beginNextEpoch_46 : decode prog_4_method_13_code 46 = .ok (.aload_n 0, 1) := by decide +kernel
theorem d_Exporter_beginNextEpoch_47 : decode prog_4_method_13_code 47 = .ok (.iconst 1, 1) := by decide +kernel
theorem d_Exporter_beginNextEpoch_48 : decode prog_4_method_13_code 48 = .ok (.invokevirtual 113, 3) := by decide +kernel
theorem d_Exporter_beginNextEpoch_51 : decode prog_4_method_13_code 51 = .ok (.aload_n 0, 1) := by decide +kernel
theorem d_Exporter_beginNextEpoch_52 : decode prog_4_method_13_code 52 = .ok (.iconst 0, 1) := by decide +kernel
theorem d_Exporter_beginNextEpoch_53 : decode prog_4_method_13_code 53 = .ok (.putfield 116, 3) := by decide +kernel
theorem d_Exporter_beginNextEpoch_56 : decode prog_4_method_13_code 56 = .ok (.aload_n 0, 1) := by decide +kernel
theorem d_Exporter_beginNextEpoch_57 : decode prog_4_method_13_code 57 = .ok (.iconst 0, 1) := by decide +kernel
theorem d_Exporter_beginNextEpoch_58 : decode prog_4_method_13_code 58 = .ok (.putfield 119, 3) := by decide +kernel
theorem d_Exporter_beginNextEpoch_61 : decode prog_4_method_13_code 61 = .ok (.return_, 1) := by decide +kernel
theorem q_Exporter_beginNextEpoch : (⟨"FlowShelf$Exporter", "beginNextEpoch", "()V"⟩ : MethodName).cls ≠ "java/lang/invoke/MethodHandle" ∧ (⟨"FlowShelf$Exporter", "beginNextEpoch", "()V"⟩ : MethodName).cls ≠ "java/lang/invoke/VarHandle" ∧ (parseMethodDescriptor (⟨"FlowShelf$Exporter", "beginNextEpoch", "()V"⟩ : MethodName).desc).map (fun d => d.parameters.length) = some 0 := by decide +kernel
set_option maxHeartbeats 4000000 in
set_option maxRecDepth 100000 in
theorem m_Exporter_beginNextEpoch (X : fs_X) (l : Launch) (a0 : Nat) {r : Unit} {σ σF : fs_S} (h : (f_Exporter_beginNextEpoch a0).1 σ = some (r, σF)) : fs_Met X l ⟨"FlowShelf$Exporter", "beginNextEpoch", "()V"⟩ (Cond.code ⟨"FlowShelf$Exporter", "beginNextEpoch", "()V"⟩ prog_4_method_13_code 2 none) 1 23 [.ref a0] σ (fs_eV r) σF := by
  refine fs_ofW (by decide) ?_
  intro p e s m args below meth c s₁ B hml hT hv
  obtain ⟨rfl, hw0, hG⟩ := hv
  have hx := B.exec
  have hb := B.bytes
  have hr := B.returns
  have hk := B.notSynchronized
  have S : CallFix p m c prog_4_method_13_code 2 s _ fs_ws "FlowShelf$Exporter" := ⟨B.exec, B.bytes, hml, findClass_of_methodNamed B.named, fun w hw => atoms_spec (ws := _ :: fs_ws) B.pre w (List.mem_cons_of_mem _ hw)⟩
  have hR := fs_hR (fr := 1) (lo := 23) ((f_Exporter_beginNextEpoch a0).2 _ _ _ h)
  have hl := lv_entry ([.ref a0]) (n := 2) (Nat.le_of_ble_eq_true rfl)
  rw [lg_entry_eq]
  generalize (lg_sl ([.ref a0]) ++ List.replicate (2 - (lg_sl ([.ref a0])).length) Slot.unset).toArray = ls at hl ⊢
  have hl : lv_has ls 2 [(0, .ref a0)] := hl
  refine (?_ : fs_J X p l e (fs_rm 1 23 σ σF) s m _ below meth c (fs_Q X below _ s (fs_eV r) σ σF) r σ σF (f_Exporter_beginNextEpoch a0) (F0 m 0 ls [])) σ s.heap [] 0 0 h hw0 va_S.rf rfl rfl
  clear h hw0
  unfold f_Exporter_beginNextEpoch
  refine fs_lift (fun _ _ _ _ => lv_aload_n hx hb d_Exporter_beginNextEpoch_0 rfl (lv_at hl 0 rfl)) ?_
  refine fs_lift (fun _ _ _ _ => lv_dup hx hb d_Exporter_beginNextEpoch_1 rfl) ?_
  refine fs_Jgi S hG fs_in1 rfl 5 (Nat.le_of_ble_eq_true rfl) tw_1_135 (fun _ h9 => h9) d_Exporter_beginNextEpoch_2 (fun v1 => ?_)
  refine fs_lift (fun _ _ _ _ => lv_iconst (v := 1) hx hb d_Exporter_beginNextEpoch_5 (by decide)) ?_
  refine fs_lift (fun _ _ _ _ => lv_iadd hx hb d_Exporter_beginNextEpoch_6) ?_
  refine fs_Jput S hG fs_in1 rfl 5 (Nat.le_of_ble_eq_true rfl) tw_1_135 (fun _ h9 => h9) fs_Y1 fs_ty1 fs_nm1 (Or.inl rfl) rfl rfl d_Exporter_beginNextEpoch_7 ?_
  refine fs_lift (fun _ _ _ _ => lv_aload_n hx hb d_Exporter_beginNextEpoch_10 rfl (lv_at hl 0 rfl)) ?_
  refine fs_Jgr S hG fs_in1 rfl 1 (Nat.le_of_ble_eq_true rfl) tw_1_126 (fun _ h9 => h9) d_Exporter_beginNextEpoch_11 (fun r2 => ?_)
  refine fs_JV S hG hR rfl [] (enc := fun _ => none) (fun zr zs zt zh => m_ArrayList_clear X l r2 zh) tw_3_194 tw_3_195 tw_3_196 tw_3_197 tw_1_5 q_ArrayList_clear ⟨(Nat.le_of_ble_eq_true rfl), (Nat.le_of_ble_eq_true rfl)⟩ hl.1 rfl (Nat.le_of_ble_eq_true rfl) d_Exporter_beginNextEpoch_14 (fun _ => ?_)
  refine fs_Jeq (g2 := F0 m 17 ls []) rfl ?_
  refine fs_lift (fun _ _ _ _ => lv_aload_n hx hb d_Exporter_beginNextEpoch_17 rfl (lv_at hl 0 rfl)) ?_
  refine fs_Jgr S hG fs_in1 rfl 2 (Nat.le_of_ble_eq_true rfl) tw_1_128 (fun _ h9 => h9) d_Exporter_beginNextEpoch_18 (fun r3 => ?_)
  refine fs_JV S hG hR rfl [] (enc := fun _ => none) (fun zr zs zt zh => m_ArrayList_clear X l r3 zh) tw_3_194 tw_3_195 tw_3_196 tw_3_197 tw_1_5 q_ArrayList_clear ⟨(Nat.le_of_ble_eq_true rfl), (Nat.le_of_ble_eq_true rfl)⟩ hl.1 rfl (Nat.le_of_ble_eq_true rfl) d_Exporter_beginNextEpoch_21 (fun _ => ?_)
  refine fs_Jeq (g2 := F0 m 24 ls []) rfl ?_
  refine fs_lift (fun _ _ _ _ => lv_iconst (v := 0) hx hb d_Exporter_beginNextEpoch_24 (by decide)) ?_
  refine fs_liftL (fun _ _ _ _ => lv_istore_n (lv' := [(1, .int 0), (0, .ref a0)]) hx hb d_Exporter_beginNextEpoch_25 rfl hl (Nat.le_of_ble_eq_true rfl) rfl) (fun ls hl => ?_)
  refine fs_Jlp1 (nL := 2) (pc := 26) (rest := []) (I := fun (v4 : Int32) => [(0, .ref a0), (1, .int v4)]) (fun k26 hk26 v4 ls hl => ?_) _ _ _ (lv_sub hl [1, 0] rfl)
  refine fs_lift (fun _ _ _ _ => lv_iload_n hx hb d_Exporter_beginNextEpoch_26 rfl (lv_at hl 1 rfl)) ?_
  refine fs_lift (fun _ _ _ _ => lv_iconst (v := 3) hx hb d_Exporter_beginNextEpoch_27 (by decide)) ?_
  refine fs_if (fun _ _ _ _ => lv_icmp_ge hx hb d_Exporter_beginNextEpoch_28 rfl) ?_ ?_
  · refine fs_lift (fun _ _ _ _ => lv_aload_n hx hb d_Exporter_beginNextEpoch_46 rfl (lv_at hl 0 rfl)) ?_
    refine fs_lift (fun _ _ _ _ => lv_iconst (v := 1) hx hb d_Exporter_beginNextEpoch_47 (by decide)) ?_
    refine fs_JV S hG hR rfl [.int 1] (enc := fun _ => none) (fun zr zs zt zh => m_Exporter_sampleEvery X l a0 1 zh) tw_3_202 tw_3_97 tw_3_98 tw_3_99 tw_1_2 q_Exporter_sampleEvery ⟨(Nat.le_of_ble_eq_true rfl), (Nat.le_of_ble_eq_true rfl)⟩ hl.1 rfl (Nat.le_of_ble_eq_true rfl) d_Exporter_beginNextEpoch_48 (fun _ => ?_)
    refine fs_Jeq (g2 := F0 m 51 ls []) rfl ?_
    refine fs_lift (fun _ _ _ _ => lv_aload_n hx hb d_Exporter_beginNextEpoch_51 rfl (lv_at hl 0 rfl)) ?_
    refine fs_lift (fun _ _ _ _ => lv_iconst (v := 0) hx hb d_Exporter_beginNextEpoch_52 (by decide)) ?_
    refine fs_Jput S hG fs_in1 rfl 9 (Nat.le_of_ble_eq_true rfl) tw_1_140 (fun _ h9 => h9) fs_Y1 fs_ty1 fs_nm1 (Or.inl rfl) rfl rfl d_Exporter_beginNextEpoch_53 ?_
    refine fs_lift (fun _ _ _ _ => lv_aload_n hx hb d_Exporter_beginNextEpoch_56 rfl (lv_at hl 0 rfl)) ?_
    refine fs_lift (fun _ _ _ _ => lv_iconst (v := 0) hx hb d_Exporter_beginNextEpoch_57 (by decide)) ?_
    refine fs_Jput S hG fs_in1 rfl 10 (Nat.le_of_ble_eq_true rfl) tw_1_141 (fun _ h9 => h9) fs_Y1 fs_ty1 fs_nm1 (Or.inl rfl) rfl rfl d_Exporter_beginNextEpoch_58 ?_
    exact fs_Jvret S hr hk rfl d_Exporter_beginNextEpoch_61
  · refine fs_lift (fun _ _ _ _ => lv_aload_n hx hb d_Exporter_beginNextEpoch_31 rfl (lv_at hl 0 rfl)) ?_
    refine fs_Jgr S hG fs_in1 rfl 3 (Nat.le_of_ble_eq_true rfl) tw_1_130 (fun _ h9 => h9) d_Exporter_beginNextEpoch_32 (fun r5 => ?_)
    refine fs_lift (fun _ _ _ _ => lv_iload_n hx hb d_Exporter_beginNextEpoch_35 rfl (lv_at hl 1 rfl)) ?_
    refine fs_Jar S hG d_Exporter_beginNextEpoch_36 (fun r6 => ?_)
    refine fs_JV S hG hR rfl [] (enc := fun _ => none) (fun zr zs zt zh => m_Slot_forget X l r6 zh) tw_3_198 tw_3_199 tw_3_200 tw_3_201 tw_1_6 q_Slot_forget ⟨(Nat.le_of_ble_eq_true rfl), (Nat.le_of_ble_eq_true rfl)⟩ hl.1 rfl (Nat.le_of_ble_eq_true rfl) d_Exporter_beginNextEpoch_37 (fun _ => ?_)
    refine fs_Jeq (g2 := F0 m 40 ls []) rfl ?_
    refine fs_Jnm (fun v7 hv9 => ?_)
    refine fs_liftL (fun _ _ _ _ => lv_iinc (k := 1) (v := v7) (lv' := [(1, .int v7), (0, .ref a0)]) hx hb d_Exporter_beginNextEpoch_40 hl rfl (by rw [hv9]; rfl) (Nat.le_of_ble_eq_true rfl) rfl) (fun ls hl => ?_)
    refine fs_lift (fun _ _ _ _ => lv_goto hx hb d_Exporter_beginNextEpoch_43 rfl) ?_
    exact hk26 v7 ls (lv_sub hl [1, 0] rfl)

theorem d_Fs_restart_0 : decode prog_1_method_10_code 0 = .ok (.aload_n 0, 1) := by decide +kernel
theorem d_Fs_restart_1 : decode prog_1_method_10_code 1 = .ok (.iload_n 1, 1) := by decide +kernel
theorem d_Fs_restart_2 : decode prog_1_method_10_code 2 = .ok (.invokevirtual 35, 3) := by decide +kernel
theorem d_Fs_restart_5 : decode prog_1_method_10_code 5 = .ok (.astore_n 2, 1) := by decide +kernel
theorem d_Fs_restart_6 : decode prog_1_method_10_code 6 = .ok (.aload_n 2, 1) := by decide +kernel
theorem d_Fs_restart_7 : decode prog_1_method_10_code 7 = .ok (.getfield 156, 3) := by decide +kernel
theorem d_Fs_restart_10 : decode prog_1_method_10_code 10 = .ok (.iconst 5, 1) := by decide +kernel
theorem d_Fs_restart_11 : decode prog_1_method_10_code 11 = .ok (.if_icmp .lt 13, 3) := by decide +kernel
theorem d_Fs_restart_14 : decode prog_1_method_10_code 14 = .ok (.new 56, 3) := by decide +kernel
theorem d_Fs_restart_17 : decode prog_1_method_10_code 17 = .ok (.dup, 1) := by decide +kernel
theorem d_Fs_restart_18 : decode prog_1_method_10_code 18 = .ok (.ldc 159, 2) := by decide +kernel
theorem d_Fs_restart_20 : decode prog_1_method_10_code 20 = .ok (.invokespecial 60, 3) := by decide +kernel
theorem d_Fs_restart_23 : decode prog_1_method_10_code 23 = .ok (.athrow, 1) := by decide +kernel
theorem d_Fs_restart_24 : decode prog_1_method_10_code 24 = .ok (.aload_n 2, 1) := by decide +kernel
theorem d_Fs_restart_25 : decode prog_1_method_10_code 25 = .ok (.invokevirtual 161, 3) := by decide +kernel
theorem d_Fs_restart_28 : decode prog_1_method_10_code 28 = .ok (.aload_n 2, 1) := by decide +kernel
theorem d_Fs_restart_29 : decode prog_1_method_10_code 29 = .ok (.getfield 156, 3) := by decide +kernel
theorem d_Fs_restart_32 : decode prog_1_method_10_code 32 = .ok (.ireturn, 1) := by decide +kernel
theorem q_Fs_restart : (⟨"FlowShelf", "restart", "(I)I"⟩ : MethodName).cls ≠ "java/lang/invoke/MethodHandle" ∧ (⟨"FlowShelf", "restart", "(I)I"⟩ : MethodName).cls ≠ "java/lang/invoke/VarHandle" ∧ (parseMethodDescriptor (⟨"FlowShelf", "restart", "(I)I"⟩ : MethodName).desc).map (fun d => d.parameters.length) = some 1 := by decide +kernel
set_option maxHeartbeats 4000000 in
set_option maxRecDepth 100000 in
theorem m_Fs_restart (X : fs_X) (l : Launch) (hl0 : l.stackTraces = false) (a0 : Nat) (x1 : Int32) {r : (Int32 ⊕ String)} {σ σF : fs_S} (h : (f_Fs_restart a0 x1).1 σ = some (r, σF)) : fs_Met X l ⟨"FlowShelf", "restart", "(I)I"⟩ (Cond.code ⟨"FlowShelf", "restart", "(I)I"⟩ prog_1_method_10_code 3 (some FieldType.int)) 7 103 [.ref a0, .int x1] σ (fs_qI r) σF := by
  refine fs_ofW (by decide) ?_
  intro p e s m args below meth c s₁ B hml hT hv
  obtain ⟨rfl, hw0, hG⟩ := hv
  have hx := B.exec
  have hb := B.bytes
  have hr := B.returns
  have hk := B.notSynchronized
  have S : CallFix p m c prog_1_method_10_code 3 s _ fs_ws "FlowShelf" := ⟨B.exec, B.bytes, hml, findClass_of_methodNamed B.named, fun w hw => atoms_spec (ws := _ :: fs_ws) B.pre w (List.mem_cons_of_mem _ hw)⟩
  have hR := fs_hR (fr := 7) (lo := 103) ((f_Fs_restart a0 x1).2 _ _ _ h)
  have hl := lv_entry ([.ref a0, .int x1]) (n := 3) (Nat.le_of_ble_eq_true rfl)
  rw [lg_entry_eq]
  generalize (lg_sl ([.ref a0, .int x1]) ++ List.replicate (3 - (lg_sl ([.ref a0, .int x1])).length) Slot.unset).toArray = ls at hl ⊢
  have hl : lv_has ls 3 [(0, .ref a0), (1, .int x1)] := hl
  refine (?_ : fs_J X p l e (fs_rm 7 103 σ σF) s m _ below meth c (fs_Q X below _ s (fs_qI r) σ σF) r σ σF (f_Fs_restart a0 x1) (F0 m 0 ls [])) σ s.heap [] 0 0 h hw0 va_S.rf rfl rfl
  clear h hw0
  unfold f_Fs_restart
  refine fs_lift (fun _ _ _ _ => lv_aload_n hx hb d_Fs_restart_0 rfl (lv_at hl 0 rfl)) ?_
  refine fs_lift (fun _ _ _ _ => lv_iload_n hx hb d_Fs_restart_1 rfl (lv_at hl 1 rfl)) ?_
  refine fs_JVx S hG hR hT hk rfl [.int x1] (fun r => some (.ref r)) (encx := fs_qR) (fun _ => rfl) (fun _ => rfl) (fun zr zs zt zh => m_Fs_exporterOf X l hl0 a0 x1 zh) tw_2_60 tw_2_62 tp_1_1 tw_2_63 tw_1_1 q_Fs_exporterOf ⟨(Nat.le_of_ble_eq_true rfl), (Nat.le_of_ble_eq_true rfl)⟩ hl.1 rfl (Nat.le_of_ble_eq_true rfl) d_Fs_restart_2 (enc := fs_qI) (fun _ => rfl) (fun r1 => ?_)
  refine fs_Jeq (g2 := F0 m 5 ls [.ref r1]) rfl ?_
  refine fs_liftL (fun _ _ _ _ => lv_astore_n (lv' := [(2, .ref r1), (0, .ref a0), (1, .int x1)]) hx hb d_Fs_restart_5 rfl hl (Nat.le_of_ble_eq_true rfl) rfl) (fun ls hl => ?_)
  refine fs_lift (fun _ _ _ _ => lv_aload_n hx hb d_Fs_restart_6 rfl (lv_at hl 0 rfl)) ?_
  refine fs_Jgi S hG fs_in1 rfl 5 (Nat.le_of_ble_eq_true rfl) tw_1_134 (fun _ h9 => h9) d_Fs_restart_7 (fun v2 => ?_)
  refine fs_lift (fun _ _ _ _ => lv_iconst (v := 5) hx hb d_Fs_restart_10 (by decide)) ?_
  refine fs_if (fun _ _ _ _ => lv_icmp_lt hx hb d_Fs_restart_11 rfl) ?_ ?_
  · refine fs_lift (fun _ _ _ _ => lv_aload_n hx hb d_Fs_restart_24 rfl (lv_at hl 0 rfl)) ?_
    refine fs_JV S hG hR rfl [] (enc := fun _ => none) (fun zr zs zt zh => m_Exporter_beginNextEpoch X l r1 zh) tw_3_190 tw_3_191 tw_3_192 tw_3_193 tw_1_2 q_Exporter_beginNextEpoch ⟨(Nat.le_of_ble_eq_true rfl), (Nat.le_of_ble_eq_true rfl)⟩ hl.1 rfl (Nat.le_of_ble_eq_true rfl) d_Fs_restart_25 (fun _ => ?_)
    refine fs_Jeq (g2 := F0 m 28 ls []) rfl ?_
    refine fs_lift (fun _ _ _ _ => lv_aload_n hx hb d_Fs_restart_28 rfl (lv_at hl 0 rfl)) ?_
    refine fs_Jgi S hG fs_in1 rfl 5 (Nat.le_of_ble_eq_true rfl) tw_1_134 (fun _ h9 => h9) d_Fs_restart_29 (fun v3 => ?_)
    exact fs_Jiret S hr hk rfl d_Fs_restart_32
  · exact fs_Jthrow S hG hR hl0 (names := fs_nms) (len := 2) (.ldc 159) (Or.inl ⟨rfl, rfl⟩) (by decide) fs_fit fs_at2 tw_2_146 tw_1_16 tb_3_189 hl.1 hT hk (Nat.le_of_ble_eq_true rfl) (Nat.le_of_ble_eq_true rfl) d_Fs_restart_14 d_Fs_restart_17 d_Fs_restart_18 d_Fs_restart_20 d_Fs_restart_23 rfl

theorem d_Fs_hasNoRoomForReport_0 : decode prog_1_method_32_code 0 = .ok (.aload_n 0, 1) := by decide +kernel
theorem d_Fs_hasNoRoomForReport_1 : decode prog_1_method_32_code 1 = .ok (.getfield 24, 3) := by decide +kernel
theorem d_Fs_hasNoRoomForReport_4 : decode prog_1_method_32_code 4 = .ok (.invokevirtual 88, 3) := by decide +kernel
theorem d_Fs_hasNoRoomForReport_7 : decode prog_1_method_32_code 7 = .ok (.bipush 30, 2) := by decide +kernel
theorem d_Fs_hasNoRoomForReport_9 : decode prog_1_method_32_code 9 = .ok (.if_icmp .lt 7, 3) := by decide +kernel
theorem d_Fs_hasNoRoomForReport_12 : decode prog_1_method_32_code 12 = .ok (.iconst 1, 1) := by decide +kernel
theorem d_Fs_hasNoRoomForReport_13 : decode prog_1_method_32_code 13 = .ok (.goto 4, 3) := by decide +kernel
theorem d_Fs_hasNoRoomForReport_16 : decode prog_1_method_32_code 16 = .ok (.iconst 0, 1) := by decide +kernel
theorem d_Fs_hasNoRoomForReport_17 : decode prog_1_method_32_code 17 = .ok (.ireturn, 1) := by decide +kernel
theorem q_Fs_hasNoRoomForReport : (⟨"FlowShelf", "hasNoRoomForReport", "()Z"⟩ : MethodName).cls ≠ "java/lang/invoke/MethodHandle" ∧ (⟨"FlowShelf", "hasNoRoomForReport", "()Z"⟩ : MethodName).cls ≠ "java/lang/invoke/VarHandle" ∧ (parseMethodDescriptor (⟨"FlowShelf", "hasNoRoomForReport", "()Z"⟩ : MethodName).desc).map (fun d => d.parameters.length) = some 0 := by decide +kernel
set_option maxHeartbeats 4000000 in
set_option maxRecDepth 100000 in
theorem m_Fs_hasNoRoomForReport (X : fs_X) (l : Launch) (a0 : Nat) {r : Int32} {σ σF : fs_S} (h : (f_Fs_hasNoRoomForReport a0).1 σ = some (r, σF)) : fs_Met X l ⟨"FlowShelf", "hasNoRoomForReport", "()Z"⟩ (Cond.code ⟨"FlowShelf", "hasNoRoomForReport", "()Z"⟩ prog_1_method_32_code 1 (some FieldType.boolean)) 1 20 [.ref a0] σ (fs_eI r) σF := by
  refine fs_ofW (by decide) ?_
  intro p e s m args below meth c s₁ B hml hT hv
  obtain ⟨rfl, hw0, hG⟩ := hv
  have hx := B.exec
  have hb := B.bytes
  have hr := B.returns
  have hk := B.notSynchronized
  have S : CallFix p m c prog_1_method_32_code 1 s _ fs_ws "FlowShelf" := ⟨B.exec, B.bytes, hml, findClass_of_methodNamed B.named, fun w hw => atoms_spec (ws := _ :: fs_ws) B.pre w (List.mem_cons_of_mem _ hw)⟩
  have hR := fs_hR (fr := 1) (lo := 20) ((f_Fs_hasNoRoomForReport a0).2 _ _ _ h)
  have hl := lv_entry ([.ref a0]) (n := 1) (Nat.le_of_ble_eq_true rfl)
  rw [lg_entry_eq]
  generalize (lg_sl ([.ref a0]) ++ List.replicate (1 - (lg_sl ([.ref a0])).length) Slot.unset).toArray = ls at hl ⊢
  have hl : lv_has ls 1 [(0, .ref a0)] := hl
  refine (?_ : fs_J X p l e (fs_rm 1 20 σ σF) s m _ below meth c (fs_Q X below _ s (fs_eI r) σ σF) r σ σF (f_Fs_hasNoRoomForReport a0) (F0 m 0 ls [])) σ s.heap [] 0 0 h hw0 va_S.rf rfl rfl
  clear h hw0
  unfold f_Fs_hasNoRoomForReport
  refine fs_lift (fun _ _ _ _ => lv_aload_n hx hb d_Fs_hasNoRoomForReport_0 rfl (lv_at hl 0 rfl)) ?_
  refine fs_Jgr S hG fs_in0 rfl 2 (Nat.le_of_ble_eq_true rfl) tw_2_9 (fun _ h9 => h9) d_Fs_hasNoRoomForReport_1 (fun r1 => ?_)
  refine fs_JV S hG hR rfl [] (enc := fun r => some (.int r)) (fun zr zs zt zh => m_ArrayList_size X l r1 zh) tw_2_28 tw_2_29 tw_2_30 tw_2_31 tw_1_5 q_ArrayList_size ⟨(Nat.le_of_ble_eq_true rfl), (Nat.le_of_ble_eq_true rfl)⟩ hl.1 rfl (Nat.le_of_ble_eq_true rfl) d_Fs_hasNoRoomForReport_4 (fun v2 => ?_)
  refine fs_Jeq (g2 := F0 m 7 ls [.int v2]) rfl ?_
  refine fs_lift (fun _ _ _ _ => lv_bipush (v := 30) hx hb d_Fs_hasNoRoomForReport_7 (by decide)) ?_
  refine fs_if (fun _ _ _ _ => lv_icmp_lt hx hb d_Fs_hasNoRoomForReport_9 rfl) ?_ ?_
  · refine fs_lift (fun _ _ _ _ => lv_iconst (v := 0) hx hb d_Fs_hasNoRoomForReport_16 (by decide)) ?_
    exact fs_Jzret S hr hk rfl d_Fs_hasNoRoomForReport_17
  · refine fs_lift (fun _ _ _ _ => lv_iconst (v := 1) hx hb d_Fs_hasNoRoomForReport_12 (by decide)) ?_
    refine fs_lift (fun _ _ _ _ => lv_goto hx hb d_Fs_hasNoRoomForReport_13 rfl) ?_
    exact fs_Jzret S hr hk rfl d_Fs_hasNoRoomForReport_17

theorem d_Report_init_0_0 : decode prog_8_method_1_code 0 = .ok (.aload_n 0, 1) := by decide +kernel
theorem d_Report_init_0_1 : decode prog_8_method_1_code 1 = .ok (.invokespecial 3, 3) := by decide +kernel
theorem d_Report_init_0_4 : decode prog_8_method_1_code 4 = .ok (.aload_n 0, 1) := by decide +kernel
theorem d_Report_init_0_5 : decode prog_8_method_1_code 5 = .ok (.bipush 64, 2) := by decide +kernel
theorem d_Report_init_0_7 : decode prog_8_method_1_code 7 = .ok (.newarray .int, 2) := by decide +kernel
theorem d_Report_init_0_9 : decode prog_8_method_1_code 9 = .ok (.putfield 9, 3) := by decide +kernel
theorem d_Report_init_0_12 : decode prog_8_method_1_code 12 = .ok (.aload_n 0, 1) := by decide +kernel
theorem d_Report_init_0_13 : decode prog_8_method_1_code 13 = .ok (.getfield 9, 3) := by decide +kernel
theorem d_Report_init_0_16 : decode prog_8_method_1_code 16 = .ok (.iconst 0, 1) := by decide +kernel
theorem d_Report_init_0_17 : decode prog_8_method_1_code 17 = .ok (.iload_n 1, 1) := by decide +kernel
theorem d_Report_init_0_18 : decode prog_8_method_1_code 18 = .ok (.iastore, 1) := by decide +kernel
theorem d_Report_init_0_19 : decode prog_8_method_1_code 19 = .ok (.aload_n 0, 1) := by decide +kernel
theorem d_Report_init_0_20 : decode prog_8_method_1_code 20 = .ok (.getfield 9, 3) := by decide +kernel
theorem d_Report_init_0_23 : decode prog_8_method_1_code 23 = .ok (.iconst 1, 1) := by decide +kernel
theorem d_Report_init_0_24 : decode prog_8_method_1_code 24 = .ok (.iload_n 2, 1) := by decide +kernel
theorem d_Report_init_0_25 : decode prog_8_method_1_code 25 = .ok (.iastore, 1) := by decide +kernel
theorem d_Report_init_0_26 : decode prog_8_method_1_code 26 = .ok (.aload_n 0, 1) := by decide +kernel
theorem d_Report_init_0_27 : decode prog_8_method_1_code 27 = .ok (.getfield 9, 3) := by decide +kernel
theorem d_Report_init_0_30 : decode prog_8_method_1_code 30 = .ok (.iconst 2, 1) := by decide +kernel
theorem d_Report_init_0_31 : decode prog_8_method_1_code 31 = .ok (.iload_n 3, 1) := by decide +kernel
theorem d_Report_init_0_32 : decode prog_8_method_1_code 32 = .ok (.iastore, 1) := by decide +kernel
theorem d_Report_init_0_33 : decode prog_8_method_1_code 33 = .ok (.aload_n 0, 1) := by decide +kernel
theorem d_Report_init_0_34 : decode prog_8_method_1_code 34 = .ok (.iconst 3, 1) := by decide +kernel
theorem d_Report_init_0_35 : decode prog_8_method_1_code 35 = .ok (.putfield 15, 3) := by decide +kernel
theorem d_Report_init_0_38 : decode prog_8_method_1_code 38 = .ok (.return_, 1) := by decide +kernel
theorem q_Report_init_0 : (⟨"FlowShelf$Report", "<init>", "(III)V"⟩ : MethodName).cls ≠ "java/lang/invoke/MethodHandle" ∧ (⟨"FlowShelf$Report", "<init>", "(III)V"⟩ : MethodName).cls ≠ "java/lang/invoke/VarHandle" ∧ (parseMethodDescriptor (⟨"FlowShelf$Report", "<init>", "(III)V"⟩ : MethodName).desc).map (fun d => d.parameters.length) = some 3 := by decide +kernel
set_option maxHeartbeats 4000000 in
set_option maxRecDepth 100000 in
theorem m_Report_init_0 (X : fs_X) (l : Launch) (a0 : Nat) (x1 : Int32) (x2 : Int32) (x3 : Int32) {r : Unit} {σ σF : fs_S} (h : (f_Report_init_0 a0 x1 x2 x3).1 σ = some (r, σF)) : fs_Met X l ⟨"FlowShelf$Report", "<init>", "(III)V"⟩ (Cond.code ⟨"FlowShelf$Report", "<init>", "(III)V"⟩ prog_8_method_1_code 4 none) 1 12 [.ref a0, .int x1, .int x2, .int x3] σ (fs_eV r) σF := by
  refine fs_ofW (by decide) ?_
  intro p e s m args below meth c s₁ B hml hT hv
  obtain ⟨rfl, hw0, hG⟩ := hv
  have hx := B.exec
  have hb := B.bytes
  have hr := B.returns
  have hk := B.notSynchronized
  have hin : meth.name = "<init>" := (name_of_methodNamed B.named B.method).1
  have S : CallFix p m c prog_8_method_1_code 4 s _ fs_ws "FlowShelf$Report" := ⟨B.exec, B.bytes, hml, findClass_of_methodNamed B.named, fun w hw => atoms_spec (ws := _ :: fs_ws) B.pre w (List.mem_cons_of_mem _ hw)⟩
  have hR := fs_hR (fr := 1) (lo := 12) ((f_Report_init_0 a0 x1 x2 x3).2 _ _ _ h)
  have hl := lv_entry ([.ref a0, .int x1, .int x2, .int x3]) (n := 4) (Nat.le_of_ble_eq_true rfl)
  rw [lg_entry_eq]
  generalize (lg_sl ([.ref a0, .int x1, .int x2, .int x3]) ++ List.replicate (4 - (lg_sl ([.ref a0, .int x1, .int x2, .int x3])).length) Slot.unset).toArray = ls at hl ⊢
  have hl : lv_has ls 4 [(0, .ref a0), (1, .int x1), (2, .int x2), (3, .int x3)] := hl
  refine (?_ : fs_J X p l e (fs_rm 1 12 σ σF) s m _ below meth c (fs_Q X below _ s (fs_eV r) σ σF) r σ σF (f_Report_init_0 a0 x1 x2 x3) (F0 m 0 ls [])) σ s.heap [] 0 0 h hw0 va_S.rf rfl rfl
  clear h hw0
  unfold f_Report_init_0
  refine fs_lift (fun _ _ _ _ => lv_aload_n hx hb d_Report_init_0_0 rfl (lv_at hl 0 rfl)) ?_
  refine fs_JO S tw_3_224 tw_1_35 tw_1_36 hl.1 (Nat.le_of_ble_eq_true rfl) (Nat.le_of_ble_eq_true rfl) d_Report_init_0_1 ?_
  refine fs_Jeq (g2 := F0 m 4 ls []) rfl ?_
  refine fs_lift (fun _ _ _ _ => lv_aload_n hx hb d_Report_init_0_4 rfl (lv_at hl 0 rfl)) ?_
  refine fs_lift (fun _ _ _ _ => lv_bipush (v := 64) hx hb d_Report_init_0_5 (by decide)) ?_
  refine fs_Jwi S hG hR rfl tw_1_97 d_Report_init_0_7 (fun r1 => ?_)
  refine fs_Jput S hG fs_in9 rfl 0 (Nat.le_of_ble_eq_true rfl) tw_3_225 (fun _ h9 => h9) fs_Y9 fs_ty9 fs_nm9 (Or.inr ⟨rfl, hin, rfl⟩) rfl rfl d_Report_init_0_9 ?_
  refine fs_lift (fun _ _ _ _ => lv_aload_n hx hb d_Report_init_0_12 rfl (lv_at hl 0 rfl)) ?_
  refine fs_Jgr S hG fs_in9 rfl 0 (Nat.le_of_ble_eq_true rfl) tw_3_225 (fun _ h9 => h9) d_Report_init_0_13 (fun r2 => ?_)
  refine fs_lift (fun _ _ _ _ => lv_iconst (v := 0) hx hb d_Report_init_0_16 (by decide)) ?_
  refine fs_lift (fun _ _ _ _ => lv_iload_n hx hb d_Report_init_0_17 rfl (lv_at hl 1 rfl)) ?_
  refine fs_Jsi S hG d_Report_init_0_18 ?_
  refine fs_lift (fun _ _ _ _ => lv_aload_n hx hb d_Report_init_0_19 rfl (lv_at hl 0 rfl)) ?_
  refine fs_Jgr S hG fs_in9 rfl 0 (Nat.le_of_ble_eq_true rfl) tw_3_225 (fun _ h9 => h9) d_Report_init_0_20 (fun r3 => ?_)
  refine fs_lift (fun _ _ _ _ => lv_iconst (v := 1) hx hb d_Report_init_0_23 (by decide)) ?_
  refine fs_lift (fun _ _ _ _ => lv_iload_n hx hb d_Report_init_0_24 rfl (lv_at hl 2 rfl)) ?_
  refine fs_Jsi S hG d_Report_init_0_25 ?_
  refine fs_lift (fun _ _ _ _ => lv_aload_n hx hb d_Report_init_0_26 rfl (lv_at hl 0 rfl)) ?_
  refine fs_Jgr S hG fs_in9 rfl 0 (Nat.le_of_ble_eq_true rfl) tw_3_225 (fun _ h9 => h9) d_Report_init_0_27 (fun r4 => ?_)
  refine fs_lift (fun _ _ _ _ => lv_iconst (v := 2) hx hb d_Report_init_0_30 (by decide)) ?_
  refine fs_lift (fun _ _ _ _ => lv_iload_n hx hb d_Report_init_0_31 rfl (lv_at hl 3 rfl)) ?_
  refine fs_Jsi S hG d_Report_init_0_32 ?_
  refine fs_lift (fun _ _ _ _ => lv_aload_n hx hb d_Report_init_0_33 rfl (lv_at hl 0 rfl)) ?_
  refine fs_lift (fun _ _ _ _ => lv_iconst (v := 3) hx hb d_Report_init_0_34 (by decide)) ?_
  refine fs_Jput S hG fs_in9 rfl 1 (Nat.le_of_ble_eq_true rfl) tw_3_228 (fun _ h9 => h9) fs_Y9 fs_ty9 fs_nm9 (Or.inl rfl) rfl rfl d_Report_init_0_35 ?_
  exact fs_Jvret S hr hk rfl d_Report_init_0_38

theorem d_Report_append_0 : decode prog_8_method_3_code 0 = .ok (.aload_n 0, 1) := by decide +kernel
theorem d_Report_append_1 : decode prog_8_method_3_code 1 = .ok (.getfield 15, 3) := by decide +kernel
theorem d_Report_append_4 : decode prog_8_method_3_code 4 = .ok (.bipush 64, 2) := by decide +kernel
theorem d_Report_append_6 : decode prog_8_method_3_code 6 = .ok (.if_icmp .ge 27, 3) := by decide +kernel
theorem d_Report_append_9 : decode prog_8_method_3_code 9 = .ok (.aload_n 0, 1) := by decide +kernel
theorem d_Report_append_10 : decode prog_8_method_3_code 10 = .ok (.getfield 9, 3) := by decide +kernel
theorem d_Report_append_13 : decode prog_8_method_3_code 13 = .ok (.aload_n 0, 1) := by decide +kernel
theorem d_Report_append_14 : decode prog_8_method_3_code 14 = .ok (.getfield 15, 3) := by decide +kernel
theorem d_Report_append_17 : decode prog_8_method_3_code 17 = .ok (.iload_n 1, 1) := by decide +kernel
theorem d_Report_append_18 : decode prog_8_method_3_code 18 = .ok (.sipush 255, 3) := by decide +kernel
theorem d_Report_append_21 : decode prog_8_method_3_code 21 = .ok (.iand, 1) := by decide +kernel
theorem d_Report_append_22 : decode prog_8_method_3_code 22 = .ok (.iastore, 1) := by decide +kernel
theorem d_Report_append_23 : decode prog_8_method_3_code 23 = .ok (.aload_n 0, 1) := by decide +kernel
theorem d_Report_append_24 : decode prog_8_method_3_code 24 = .ok (.dup, 1) := by decide +kernel
theorem d_Report_append_25 : decode prog_8_method_3_code 25 = .ok (.getfield 15, 3) := by decide +kernel
theorem d_Report_append_28 : decode prog_8_method_3_code 28 = .ok (.iconst 1, 1) := by decide +kernel
theorem d_Report_append_29 : decode prog_8_method_3_code 29 = .ok (.iadd, 1) := by decide +kernel
theorem d_Report_append_30 : decode prog_8_method_3_code 30 = .ok (.putfield 15, 3) := by decide +kernel
theorem d_Report_append_33 : decode prog_8_method_3_code 33 = .ok (.return_, 1) := by decide +kernel
theorem q_Report_append : (⟨"FlowShelf$Report", "append", "(I)V"⟩ : MethodName).cls ≠ "java/lang/invoke/MethodHandle" ∧ (⟨"FlowShelf$Report", "append", "(I)V"⟩ : MethodName).cls ≠ "java/lang/invoke/VarHandle" ∧ (parseMethodDescriptor (⟨"FlowShelf$Report", "append", "(I)V"⟩ : MethodName).desc).map (fun d => d.parameters.length) = some 1 := by decide +kernel
set_option maxHeartbeats 4000000 in
set_option maxRecDepth 100000 in
theorem m_Report_append (X : fs_X) (l : Launch) (a0 : Nat) (x1 : Int32) {r : Unit} {σ σF : fs_S} (h : (f_Report_append a0 x1).1 σ = some (r, σF)) : fs_Met X l ⟨"FlowShelf$Report", "append", "(I)V"⟩ (Cond.code ⟨"FlowShelf$Report", "append", "(I)V"⟩ prog_8_method_3_code 2 none) 0 0 [.ref a0, .int x1] σ (fs_eV r) σF := by
  refine fs_ofW (by decide) ?_
  intro p e s m args below meth c s₁ B hml hT hv
  obtain ⟨rfl, hw0, hG⟩ := hv
  have hx := B.exec
  have hb := B.bytes
  have hr := B.returns
  have hk := B.notSynchronized
  have S : CallFix p m c prog_8_method_3_code 2 s _ fs_ws "FlowShelf$Report" := ⟨B.exec, B.bytes, hml, findClass_of_methodNamed B.named, fun w hw => atoms_spec (ws := _ :: fs_ws) B.pre w (List.mem_cons_of_mem _ hw)⟩
  have hR := fs_hR (fr := 0) (lo := 0) ((f_Report_append a0 x1).2 _ _ _ h)
  have hl := lv_entry ([.ref a0, .int x1]) (n := 2) (Nat.le_of_ble_eq_true rfl)
  rw [lg_entry_eq]
  generalize (lg_sl ([.ref a0, .int x1]) ++ List.replicate (2 - (lg_sl ([.ref a0, .int x1])).length) Slot.unset).toArray = ls at hl ⊢
  have hl : lv_has ls 2 [(0, .ref a0), (1, .int x1)] := hl
  refine (?_ : fs_J X p l e (fs_rm 0 0 σ σF) s m _ below meth c (fs_Q X below _ s (fs_eV r) σ σF) r σ σF (f_Report_append a0 x1) (F0 m 0 ls [])) σ s.heap [] 0 0 h hw0 va_S.rf rfl rfl
  clear h hw0
  unfold f_Report_append
  refine fs_lift (fun _ _ _ _ => lv_aload_n hx hb d_Report_append_0 rfl (lv_at hl 0 rfl)) ?_
  refine fs_Jgi S hG fs_in9 rfl 1 (Nat.le_of_ble_eq_true rfl) tw_3_228 (fun _ h9 => h9) d_Report_append_1 (fun v1 => ?_)
  refine fs_lift (fun _ _ _ _ => lv_bipush (v := 64) hx hb d_Report_append_4 (by decide)) ?_
  refine fs_if (fun _ _ _ _ => lv_icmp_ge hx hb d_Report_append_6 rfl) ?_ ?_
  · exact fs_Jvret S hr hk rfl d_Report_append_33
  · refine fs_lift (fun _ _ _ _ => lv_aload_n hx hb d_Report_append_9 rfl (lv_at hl 0 rfl)) ?_
    refine fs_Jgr S hG fs_in9 rfl 0 (Nat.le_of_ble_eq_true rfl) tw_3_225 (fun _ h9 => h9) d_Report_append_10 (fun r2 => ?_)
    refine fs_lift (fun _ _ _ _ => lv_aload_n hx hb d_Report_append_13 rfl (lv_at hl 0 rfl)) ?_
    refine fs_Jgi S hG fs_in9 rfl 1 (Nat.le_of_ble_eq_true rfl) tw_3_228 (fun _ h9 => h9) d_Report_append_14 (fun v3 => ?_)
    refine fs_lift (fun _ _ _ _ => lv_iload_n hx hb d_Report_append_17 rfl (lv_at hl 1 rfl)) ?_
    refine fs_lift (fun _ _ _ _ => lv_sipush (v := 255) hx hb d_Report_append_18 (by decide)) ?_
    refine fs_lift (fun _ _ _ _ => lv_iand hx hb d_Report_append_21) ?_
    refine fs_Jsi S hG d_Report_append_22 ?_
    refine fs_lift (fun _ _ _ _ => lv_aload_n hx hb d_Report_append_23 rfl (lv_at hl 0 rfl)) ?_
    refine fs_lift (fun _ _ _ _ => lv_dup hx hb d_Report_append_24 rfl) ?_
    refine fs_Jgi S hG fs_in9 rfl 1 (Nat.le_of_ble_eq_true rfl) tw_3_228 (fun _ h9 => h9) d_Report_append_25 (fun v4 => ?_)
    refine fs_lift (fun _ _ _ _ => lv_iconst (v := 1) hx hb d_Report_append_28 (by decide)) ?_
    refine fs_lift (fun _ _ _ _ => lv_iadd hx hb d_Report_append_29) ?_
    refine fs_Jput S hG fs_in9 rfl 1 (Nat.le_of_ble_eq_true rfl) tw_3_228 (fun _ h9 => h9) fs_Y9 fs_ty9 fs_nm9 (Or.inl rfl) rfl rfl d_Report_append_30 ?_
    exact fs_Jvret S hr hk rfl d_Report_append_33

theorem d_Exporter_writeTemplate_0 : decode prog_4_method_14_code 0 = .ok (.new 122, 3) := by decide +kernel
theorem d_Exporter_writeTemplate_3 : decode prog_4_method_14_code 3 = .ok (.dup, 1) := by decide +kernel
theorem d_Exporter_writeTemplate_4 : decode prog_4_method_14_code 4 = .ok (.aload_n 0, 1) := by decide +kernel
theorem d_Exporter_writeTemplate_5 : decode prog_4_method_14_code 5 = .ok (.getfield 31, 3) := by decide +kernel
theorem d_Exporter_writeTemplate_8 : decode prog_4_method_14_code 8 = .ok (.aload_n 0, 1) := by decide +kernel
theorem d_Exporter_writeTemplate_9 : decode prog_4_method_14_code 9 = .ok (.getfield 104, 3) := by decide +kernel
theorem d_Exporter_writeTemplate_12 : decode prog_4_method_14_code 12 = .ok (.iconst 0, 1) := by decide +kernel
theorem d_Exporter_writeTemplate_13 : decode prog_4_method_14_code 13 = .ok (.invokespecial 124, 3) := by decide +kernel
theorem d_Exporter_writeTemplate_16 : decode prog_4_method_14_code 16 = .ok (.astore_n 2, 1) := by decide +kernel
theorem d_Exporter_writeTemplate_17 : decode prog_4_method_14_code 17 = .ok (.aload_n 2, 1) := by decide +kernel
theorem d_Exporter_writeTemplate_18 : decode prog_4_method_14_code 18 = .ok (.aload_n 1, 1) := by decide +kernel
theorem d_Exporter_writeTemplate_19 : decode prog_4_method_14_code 19 = .ok (.getfield 127, 3) := by decide +kernel
theorem d_Exporter_writeTemplate_22 : decode prog_4_method_14_code 22 = .ok (.invokevirtual 128, 3) := by decide +kernel
theorem d_Exporter_writeTemplate_25 : decode prog_4_method_14_code 25 = .ok (.aload_n 2, 1) := by decide +kernel
theorem d_Exporter_writeTemplate_26 : decode prog_4_method_14_code 26 = .ok (.aload_n 1, 1) := by decide +kernel
theorem d_Exporter_writeTemplate_27 : decode prog_4_method_14_code 27 = .ok (.getfield 131, 3) := by decide +kernel
theorem d_Exporter_writeTemplate_30 : decode prog_4_method_14_code 30 = .ok (.invokevirtual 128, 3) := by decide +kernel
theorem d_Exporter_writeTemplate_33 : decode prog_4_method_14_code 33 = .ok (.aload_n 2, 1) := by decide +kernel
theorem d_Exporter_writeTemplate_34 : decode prog_4_method_14_code 34 = .ok (.aload_n 1, 1) := by decide +kernel
theorem d_Exporter_writeTemplate_35 : decode prog_4_method_14_code 35 = .ok (.getfield 134, 3) := by decide +kernel
theorem d_Exporter_writeTemplate_38 : decode prog_4_method_14_code 38 = .ok (.getfield 138, 3) := by decide +kernel
theorem d_Exporter_writeTemplate_41 : decode prog_4_method_14_code 41 = .ok (.invokevirtual 128, 3) := by decide +kernel
theorem d_Exporter_writeTemplate_44 : decode prog_4_method_14_code 44 = .ok (.iconst 0, 1) := by decide +kernel
theorem d_Exporter_writeTemplate_45 : decode prog_4_method_14_code 45 = .ok (.istore_n 3, 1) := by decide +kernel
theorem d_Exporter_writeTemplate_46 : decode prog_4_method_14_code 46 = .ok (.iload_n 3, 1) := by decide +kernel
theorem d_Exporter_writeTemplate_47 : decode prog_4_method_14_code 47 = .ok (.aload_n 1, 1) := by decide +kernel
theorem d_Exporter_writeTemplate_48 : decode prog_4_method_14_code 48 = .ok (.getfield 134, 3) := by decide +kernel
theorem d_Exporter_writeTemplate_51 : decode prog_4_method_14_code 51 = .ok (.getfield 138, 3) := by decide +kernel
theorem d_Exporter_writeTemplate_54 : decode prog_4_method_14_code 54 = .ok (.if_icmp .ge 35, 3) := by decide +kernel
theorem d_Exporter_writeTemplate_57 : decode prog_4_method_14_code 57 = .ok (.aload_n 2, 1) := by decide +kernel
theorem d_Exporter_writeTemplate_58 : decode prog_4_method_14_code 58 = .ok (.aload_n 1, 1) := by decide +kernel
theorem d_Exporter_writeTemplate_59 : decode prog_4_method_14_code 59 = .ok (.getfield 134, 3) := by decide +kernel
theorem d_Exporter_writeTemplate_62 : decode prog_4_method_14_code 62 = .ok (.getfield 143, 3) := by decide +kernel
theorem d_Exporter_writeTemplate_65 : decode prog_4_method_14_code 65 = .ok (.iload_n 3, 1) := by decide +kernel
theorem d_Exporter_writeTemplate_66 : decode prog_4_method_14_code 66 = .ok (.iaload, 1) := by decide +kernel
theorem d_Exporter_writeTemplate_67 : decode prog_4_method_14_code 67 = .ok (.invokevirtual 128, 3) := by decide +kernel
theorem d_Exporter_writeTemplate_70 : decode prog_4_method_14_code 70 = .ok (.aload_n 2, 1) := by decide +kernel
theorem d_Exporter_writeTemplate_71 : decode prog_4_method_14_code 71 = .ok (.aload_n 1, 1) := by decide +kernel
theorem d_Exporter_writeTemplate_72 : decode prog_4_method_14_code 72 = .ok (.getfield 134, 3) := by decide +kernel
theorem d_Exporter_writeTemplate_75 : decode prog_4_method_14_code 75 = .ok (.getfield 147, 3) := by decide +kernel
theorem d_Exporter_writeTemplate_78 : decode prog_4_method_14_code 78 = .ok (.iload_n 3, 1) := by decide +kernel
theorem d_Exporter_writeTemplate_79 : decode prog_4_method_14_code 79 = .ok (.iaload, 1) := by decide +kernel
theorem d_Exporter_writeTemplate_80 : decode prog_4_method_14_code 80 = .ok (.invokevirtual 128, 3) := by decide +kernel
theorem d_Exporter_writeTemplate_83 : decode prog_4_method_14_code 83 = .ok (.iinc 3 1, 3) := by decide +kernel
theorem d_Exporter_writeTemplate_86 : decode prog_4_method_14_code 86 = .ok (.goto (-40), 3) := by decide +kernel
theorem d_Exporter_writeTemplate_89 : decode prog_4_method_14_code 89 = .ok (.aload_n 2, 1) := by decide +kernel
theorem d_Exporter_writeTemplate_90 : decode prog_4_method_14_code 90 = .ok (.areturn, 1) := by decide +kernel
theorem q_Exporter_writeTemplate : (⟨"FlowShelf$Exporter", "writeTemplate", "(LFlowShelf$Slot;)LFlowShelf$Report;"⟩ : MethodName).cls ≠ "java/lang/invoke/MethodHandle" ∧ (⟨"FlowShelf$Exporter", "writeTemplate", "(LFlowShelf$Slot;)LFlowShelf$Report;"⟩ : MethodName).cls ≠ "java/lang/invoke/VarHandle" ∧ (parseMethodDescriptor (⟨"FlowShelf$Exporter", "writeTemplate", "(LFlowShelf$Slot;)LFlowShelf$Report;"⟩ : MethodName).desc).map (fun d => d.parameters.length) = some 1 := by decide +kernel
set_option maxHeartbeats 4000000 in
set_option maxRecDepth 100000 in
theorem m_Exporter_writeTemplate (X : fs_X) (l : Launch) (a0 : Nat) (a1 : Nat) {r : Nat} {σ σF : fs_S} (h : (f_Exporter_writeTemplate a0 a1).1 σ = some (r, σF)) : fs_Met X l ⟨"FlowShelf$Exporter", "writeTemplate", "(LFlowShelf$Slot;)LFlowShelf$Report;"⟩ (Cond.code ⟨"FlowShelf$Exporter", "writeTemplate", "(LFlowShelf$Slot;)LFlowShelf$Report;"⟩ prog_4_method_14_code 4 (some (FieldType.object "FlowShelf$Report"))) 2 35 [.ref a0, .ref a1] σ (fs_eR r) σF := by
  refine fs_ofW (by decide) ?_
  intro p e s m args below meth c s₁ B hml hT hv
  obtain ⟨rfl, hw0, hG⟩ := hv
  have hx := B.exec
  have hb := B.bytes
  have hr := B.returns
  have hk := B.notSynchronized
  have S : CallFix p m c prog_4_method_14_code 4 s _ fs_ws "FlowShelf$Exporter" := ⟨B.exec, B.bytes, hml, findClass_of_methodNamed B.named, fun w hw => atoms_spec (ws := _ :: fs_ws) B.pre w (List.mem_cons_of_mem _ hw)⟩
  have hR := fs_hR (fr := 2) (lo := 35) ((f_Exporter_writeTemplate a0 a1).2 _ _ _ h)
  have hl := lv_entry ([.ref a0, .ref a1]) (n := 4) (Nat.le_of_ble_eq_true rfl)
  rw [lg_entry_eq]
  generalize (lg_sl ([.ref a0, .ref a1]) ++ List.replicate (4 - (lg_sl ([.ref a0, .ref a1])).length) Slot.unset).toArray = ls at hl ⊢
  have hl : lv_has ls 4 [(0, .ref a0), (1, .ref a1)] := hl
  refine (?_ : fs_J X p l e (fs_rm 2 35 σ σF) s m _ below meth c (fs_Q X below _ s (fs_eR r) σ σF) r σ σF (f_Exporter_writeTemplate a0 a1) (F0 m 0 ls [])) σ s.heap [] 0 0 h hw0 va_S.rf rfl rfl
  clear h hw0
  unfold f_Exporter_writeTemplate
  refine fs_Jnw S hG hR fs_in9 rfl fs_Y9 fs_ty9 fs_dv9 rfl tw_3_219 tw_3_220 tw_1_25 d_Exporter_writeTemplate_0 (fun r1 => ?_)
  refine fs_lift (fun _ _ _ _ => lv_dup hx hb d_Exporter_writeTemplate_3 rfl) ?_
  refine fs_lift (fun _ _ _ _ => lv_aload_n hx hb d_Exporter_writeTemplate_4 rfl (lv_at hl 0 rfl)) ?_
  refine fs_Jgi S hG fs_in1 rfl 0 (Nat.le_of_ble_eq_true rfl) tw_1_125 (fun _ h9 => h9) d_Exporter_writeTemplate_5 (fun v2 => ?_)
  refine fs_lift (fun _ _ _ _ => lv_aload_n hx hb d_Exporter_writeTemplate_8 rfl (lv_at hl 0 rfl)) ?_
  refine fs_Jgi S hG fs_in1 rfl 5 (Nat.le_of_ble_eq_true rfl) tw_1_135 (fun _ h9 => h9) d_Exporter_writeTemplate_9 (fun v3 => ?_)
  refine fs_lift (fun _ _ _ _ => lv_iconst (v := 0) hx hb d_Exporter_writeTemplate_12 (by decide)) ?_
  refine fs_JI S hG hR [.int v2, .int v3, .int 0] (fun zr zs zt zh => m_Report_init_0 X l r1 v2 v3 0 zh) tw_3_221 tw_3_222 tw_3_223 tw_1_25 rfl q_Report_init_0 ⟨(Nat.le_of_ble_eq_true rfl), (Nat.le_of_ble_eq_true rfl)⟩ hl.1 rfl (Nat.le_of_ble_eq_true rfl) d_Exporter_writeTemplate_13 ?_
  refine fs_Jeq (g2 := F0 m 16 ls [.ref r1]) rfl ?_
  refine fs_liftL (fun _ _ _ _ => lv_astore_n (lv' := [(2, .ref r1), (0, .ref a0), (1, .ref a1)]) hx hb d_Exporter_writeTemplate_16 rfl hl (Nat.le_of_ble_eq_true rfl) rfl) (fun ls hl => ?_)
  refine fs_lift (fun _ _ _ _ => lv_aload_n hx hb d_Exporter_writeTemplate_17 rfl (lv_at hl 0 rfl)) ?_
  refine fs_lift (fun _ _ _ _ => lv_aload_n hx hb d_Exporter_writeTemplate_18 rfl (lv_at hl 2 rfl)) ?_
  refine fs_Jgi S hG fs_in3 rfl 0 (Nat.le_of_ble_eq_true rfl) tw_1_99 (fun _ h9 => h9) d_Exporter_writeTemplate_19 (fun v4 => ?_)
  refine fs_JV S hG hR rfl [.int v4] (enc := fun _ => none) (fun zr zs zt zh => m_Report_append X l r1 v4 zh) tw_3_236 tw_3_237 tw_3_238 tw_3_239 tw_1_25 q_Report_append ⟨(Nat.le_of_ble_eq_true rfl), (Nat.le_of_ble_eq_true rfl)⟩ hl.1 rfl (Nat.le_of_ble_eq_true rfl) d_Exporter_writeTemplate_22 (fun _ => ?_)
  refine fs_Jeq (g2 := F0 m 25 ls []) rfl ?_
  refine fs_lift (fun _ _ _ _ => lv_aload_n hx hb d_Exporter_writeTemplate_25 rfl (lv_at hl 0 rfl)) ?_
  refine fs_lift (fun _ _ _ _ => lv_aload_n hx hb d_Exporter_writeTemplate_26 rfl (lv_at hl 2 rfl)) ?_
  refine fs_Jgi S hG fs_in3 rfl 4 (Nat.le_of_ble_eq_true rfl) tw_1_109 (fun _ h9 => h9) d_Exporter_writeTemplate_27 (fun v5 => ?_)
  refine fs_JV S hG hR rfl [.int v5] (enc := fun _ => none) (fun zr zs zt zh => m_Report_append X l r1 v5 zh) tw_3_236 tw_3_237 tw_3_238 tw_3_239 tw_1_25 q_Report_append ⟨(Nat.le_of_ble_eq_true rfl), (Nat.le_of_ble_eq_true rfl)⟩ hl.1 rfl (Nat.le_of_ble_eq_true rfl) d_Exporter_writeTemplate_30 (fun _ => ?_)
  refine fs_Jeq (g2 := F0 m 33 ls []) rfl ?_
  refine fs_lift (fun _ _ _ _ => lv_aload_n hx hb d_Exporter_writeTemplate_33 rfl (lv_at hl 0 rfl)) ?_
  refine fs_lift (fun _ _ _ _ => lv_aload_n hx hb d_Exporter_writeTemplate_34 rfl (lv_at hl 2 rfl)) ?_
  refine fs_Jgr S hG fs_in3 rfl 2 (Nat.le_of_ble_eq_true rfl) tw_1_103 (fun _ h9 => h9) d_Exporter_writeTemplate_35 (fun r6 => ?_)
  refine fs_Jgi S hG fs_in4 rfl 2 (Nat.le_of_ble_eq_true rfl) tw_1_89 (fun _ h9 => h9) d_Exporter_writeTemplate_38 (fun v7 => ?_)
  refine fs_JV S hG hR rfl [.int v7] (enc := fun _ => none) (fun zr zs zt zh => m_Report_append X l r1 v7 zh) tw_3_236 tw_3_237 tw_3_238 tw_3_239 tw_1_25 q_Report_append ⟨(Nat.le_of_ble_eq_true rfl), (Nat.le_of_ble_eq_true rfl)⟩ hl.1 rfl (Nat.le_of_ble_eq_true rfl) d_Exporter_writeTemplate_41 (fun _ => ?_)
  refine fs_Jeq (g2 := F0 m 44 ls []) rfl ?_
  refine fs_lift (fun _ _ _ _ => lv_iconst (v := 0) hx hb d_Exporter_writeTemplate_44 (by decide)) ?_
  refine fs_liftL (fun _ _ _ _ => lv_istore_n (lv' := [(3, .int 0), (2, .ref r1), (0, .ref a0), (1, .ref a1)]) hx hb d_Exporter_writeTemplate_45 rfl hl (Nat.le_of_ble_eq_true rfl) rfl) (fun ls hl => ?_)
  refine fs_Jlp1 (nL := 4) (pc := 46) (rest := []) (I := fun (v8 : Int32) => [(1, .ref a1), (2, .ref r1), (3, .int v8)]) (fun k46 hk46 v8 ls hl => ?_) _ _ _ (lv_sub hl [3, 1, 0] rfl)
  refine fs_lift (fun _ _ _ _ => lv_iload_n hx hb d_Exporter_writeTemplate_46 rfl (lv_at hl 2 rfl)) ?_
  refine fs_lift (fun _ _ _ _ => lv_aload_n hx hb d_Exporter_writeTemplate_47 rfl (lv_at hl 0 rfl)) ?_
  refine fs_Jgr S hG fs_in3 rfl 2 (Nat.le_of_ble_eq_true rfl) tw_1_103 (fun _ h9 => h9) d_Exporter_writeTemplate_48 (fun r9 => ?_)
  refine fs_Jgi S hG fs_in4 rfl 2 (Nat.le_of_ble_eq_true rfl) tw_1_89 (fun _ h9 => h9) d_Exporter_writeTemplate_51 (fun v10 => ?_)
  refine fs_if (fun _ _ _ _ => lv_icmp_ge hx hb d_Exporter_writeTemplate_54 rfl) ?_ ?_
  · refine fs_lift (fun _ _ _ _ => lv_aload_n hx hb d_Exporter_writeTemplate_89 rfl (lv_at hl 1 rfl)) ?_
    exact fs_Jaret S hr (Or.inl ⟨_, rfl⟩) hk rfl d_Exporter_writeTemplate_90
  · refine fs_lift (fun _ _ _ _ => lv_aload_n hx hb d_Exporter_writeTemplate_57 rfl (lv_at hl 1 rfl)) ?_
    refine fs_lift (fun _ _ _ _ => lv_aload_n hx hb d_Exporter_writeTemplate_58 rfl (lv_at hl 0 rfl)) ?_
    refine fs_Jgr S hG fs_in3 rfl 2 (Nat.le_of_ble_eq_true rfl) tw_1_103 (fun _ h9 => h9) d_Exporter_writeTemplate_59 (fun r11 => ?_)
    refine fs_Jgr S hG fs_in4 rfl 0 (Nat.le_of_ble_eq_true rfl) tw_1_83 (fun _ h9 => h9) d_Exporter_writeTemplate_62 (fun r12 => ?_)
    refine fs_lift (fun _ _ _ _ => lv_iload_n hx hb d_Exporter_writeTemplate_65 rfl (lv_at hl 2 rfl)) ?_
    refine fs_Jai S hG d_Exporter_writeTemplate_66 (fun v13 => ?_)
    refine fs_JV S hG hR rfl [.int v13] (enc := fun _ => none) (fun zr zs zt zh => m_Report_append X l r1 v13 zh) tw_3_236 tw_3_237 tw_3_238 tw_3_239 tw_1_25 q_Report_append ⟨(Nat.le_of_ble_eq_true rfl), (Nat.le_of_ble_eq_true rfl)⟩ hl.1 rfl (Nat.le_of_ble_eq_true rfl) d_Exporter_writeTemplate_67 (fun _ => ?_)
    refine fs_Jeq (g2 := F0 m 70 ls []) rfl ?_
    refine fs_lift (fun _ _ _ _ => lv_aload_n hx hb d_Exporter_writeTemplate_70 rfl (lv_at hl 1 rfl)) ?_
    refine fs_lift (fun _ _ _ _ => lv_aload_n hx hb d_Exporter_writeTemplate_71 rfl (lv_at hl 0 rfl)) ?_
    refine fs_Jgr S hG fs_in3 rfl 2 (Nat.le_of_ble_eq_true rfl) tw_1_103 (fun _ h9 => h9) d_Exporter_writeTemplate_72 (fun r14 => ?_)
    refine fs_Jgr S hG fs_in4 rfl 1 (Nat.le_of_ble_eq_true rfl) tw_1_85 (fun _ h9 => h9) d_Exporter_writeTemplate_75 (fun r15 => ?_)
    refine fs_lift (fun _ _ _ _ => lv_iload_n hx hb d_Exporter_writeTemplate_78 rfl (lv_at hl 2 rfl)) ?_
    refine fs_Jai S hG d_Exporter_writeTemplate_79 (fun v16 => ?_)
    refine fs_JV S hG hR rfl [.int v16] (enc := fun _ => none) (fun zr zs zt zh => m_Report_append X l r1 v16 zh) tw_3_236 tw_3_237 tw_3_238 tw_3_239 tw_1_25 q_Report_append ⟨(Nat.le_of_ble_eq_true rfl), (Nat.le_of_ble_eq_true rfl)⟩ hl.1 rfl (Nat.le_of_ble_eq_true rfl) d_Exporter_writeTemplate_80 (fun _ => ?_)
    refine fs_Jeq (g2 := F0 m 83 ls []) rfl ?_
    refine fs_Jnm (fun v17 hv9 => ?_)
    refine fs_liftL (fun _ _ _ _ => lv_iinc (k := 2) (v := v17) (lv' := [(3, .int v17), (1, .ref a1), (2, .ref r1)]) hx hb d_Exporter_writeTemplate_83 hl rfl (by rw [hv9]; rfl) (Nat.le_of_ble_eq_true rfl) rfl) (fun ls hl => ?_)
    refine fs_lift (fun _ _ _ _ => lv_goto hx hb d_Exporter_writeTemplate_86 rfl) ?_
    exact hk46 v17 ls (lv_sub hl [1, 2, 0] rfl)

theorem d_Fs_keep_0 : decode prog_1_method_33_code 0 = .ok (.aload_n 0, 1) := by decide +kernel
theorem d_Fs_keep_1 : decode prog_1_method_33_code 1 = .ok (.getfield 24, 3) := by decide +kernel
theorem d_Fs_keep_4 : decode prog_1_method_33_code 4 = .ok (.aload_n 1, 1) := by decide +kernel
theorem d_Fs_keep_5 : decode prog_1_method_33_code 5 = .ok (.invokevirtual 314, 3) := by decide +kernel
theorem d_Fs_keep_8 : decode prog_1_method_33_code 8 = .ok (.pop, 1) := by decide +kernel
theorem d_Fs_keep_9 : decode prog_1_method_33_code 9 = .ok (.aload_n 0, 1) := by decide +kernel
theorem d_Fs_keep_10 : decode prog_1_method_33_code 10 = .ok (.getfield 24, 3) := by decide +kernel
theorem d_Fs_keep_13 : decode prog_1_method_33_code 13 = .ok (.invokevirtual 88, 3) := by decide +kernel
theorem d_Fs_keep_16 : decode prog_1_method_33_code 16 = .ok (.iconst 1, 1) := by decide +kernel
theorem d_Fs_keep_17 : decode prog_1_method_33_code 17 = .ok (.isub, 1) := by decide +kernel
theorem d_Fs_keep_18 : decode prog_1_method_33_code 18 = .ok (.ireturn, 1) := by decide +kernel
theorem q_Fs_keep : (⟨"FlowShelf", "keep", "(LFlowShelf$Report;)I"⟩ : MethodName).cls ≠ "java/lang/invoke/MethodHandle" ∧ (⟨"FlowShelf", "keep", "(LFlowShelf$Report;)I"⟩ : MethodName).cls ≠ "java/lang/invoke/VarHandle" ∧ (parseMethodDescriptor (⟨"FlowShelf", "keep", "(LFlowShelf$Report;)I"⟩ : MethodName).desc).map (fun d => d.parameters.length) = some 1 := by decide +kernel
set_option maxHeartbeats 4000000 in
set_option maxRecDepth 100000 in
theorem m_Fs_keep (X : fs_X) (l : Launch) (a0 : Nat) (a1 : Nat) {r : Int32} {σ σF : fs_S} (h : (f_Fs_keep a0 a1).1 σ = some (r, σF)) : fs_Met X l ⟨"FlowShelf", "keep", "(LFlowShelf$Report;)I"⟩ (Cond.code ⟨"FlowShelf", "keep", "(LFlowShelf$Report;)I"⟩ prog_1_method_33_code 2 (some FieldType.int)) 7 191 [.ref a0, .ref a1] σ (fs_eI r) σF := by
  refine fs_ofW (by decide) ?_
  intro p e s m args below meth c s₁ B hml hT hv
  obtain ⟨rfl, hw0, hG⟩ := hv
  have hx := B.exec
  have hb := B.bytes
  have hr := B.returns
  have hk := B.notSynchronized
  have S : CallFix p m c prog_1_method_33_code 2 s _ fs_ws "FlowShelf" := ⟨B.exec, B.bytes, hml, findClass_of_methodNamed B.named, fun w hw => atoms_spec (ws := _ :: fs_ws) B.pre w (List.mem_cons_of_mem _ hw)⟩
  have hR := fs_hR (fr := 7) (lo := 191) ((f_Fs_keep a0 a1).2 _ _ _ h)
  have hl := lv_entry ([.ref a0, .ref a1]) (n := 2) (Nat.le_of_ble_eq_true rfl)
  rw [lg_entry_eq]
  generalize (lg_sl ([.ref a0, .ref a1]) ++ List.replicate (2 - (lg_sl ([.ref a0, .ref a1])).length) Slot.unset).toArray = ls at hl ⊢
  have hl : lv_has ls 2 [(0, .ref a0), (1, .ref a1)] := hl
  refine (?_ : fs_J X p l e (fs_rm 7 191 σ σF) s m _ below meth c (fs_Q X below _ s (fs_eI r) σ σF) r σ σF (f_Fs_keep a0 a1) (F0 m 0 ls [])) σ s.heap [] 0 0 h hw0 va_S.rf rfl rfl
  clear h hw0
  unfold f_Fs_keep
  refine fs_lift (fun _ _ _ _ => lv_aload_n hx hb d_Fs_keep_0 rfl (lv_at hl 0 rfl)) ?_
  refine fs_Jgr S hG fs_in0 rfl 2 (Nat.le_of_ble_eq_true rfl) tw_2_9 (fun _ h9 => h9) d_Fs_keep_1 (fun r1 => ?_)
  refine fs_lift (fun _ _ _ _ => lv_aload_n hx hb d_Fs_keep_4 rfl (lv_at hl 1 rfl)) ?_
  refine fs_JV S hG hR rfl [.ref a1] (enc := fun r => some (.int r)) (fun zr zs zt zh => m_ArrayList_add_0 X l r1 a1 zh) tw_4_4 tw_2_200 tw_2_201 tw_2_202 tw_1_5 q_ArrayList_add_0 ⟨(Nat.le_of_ble_eq_true rfl), (Nat.le_of_ble_eq_true rfl)⟩ hl.1 rfl (Nat.le_of_ble_eq_true rfl) d_Fs_keep_5 (fun v2 => ?_)
  refine fs_Jeq (g2 := F0 m 8 ls [.int v2]) rfl ?_
  refine fs_lift (fun _ _ _ _ => lv_pop hx hb d_Fs_keep_8 rfl) ?_
  refine fs_lift (fun _ _ _ _ => lv_aload_n hx hb d_Fs_keep_9 rfl (lv_at hl 0 rfl)) ?_
  refine fs_Jgr S hG fs_in0 rfl 2 (Nat.le_of_ble_eq_true rfl) tw_2_9 (fun _ h9 => h9) d_Fs_keep_10 (fun r3 => ?_)
  refine fs_JV S hG hR rfl [] (enc := fun r => some (.int r)) (fun zr zs zt zh => m_ArrayList_size X l r3 zh) tw_2_28 tw_2_29 tw_2_30 tw_2_31 tw_1_5 q_ArrayList_size ⟨(Nat.le_of_ble_eq_true rfl), (Nat.le_of_ble_eq_true rfl)⟩ hl.1 rfl (Nat.le_of_ble_eq_true rfl) d_Fs_keep_13 (fun v4 => ?_)
  refine fs_Jeq (g2 := F0 m 16 ls [.int v4]) rfl ?_
  refine fs_lift (fun _ _ _ _ => lv_iconst (v := 1) hx hb d_Fs_keep_16 (by decide)) ?_
  refine fs_lift (fun _ _ _ _ => lv_isub hx hb d_Fs_keep_17) ?_
  exact fs_Jiret S hr hk rfl d_Fs_keep_18

theorem d_Fs_announce_0 : decode prog_1_method_11_code 0 = .ok (.aload_n 0, 1) := by decide +kernel
theorem d_Fs_announce_1 : decode prog_1_method_11_code 1 = .ok (.iload_n 1, 1) := by decide +kernel
theorem d_Fs_announce_2 : decode prog_1_method_11_code 2 = .ok (.iload_n 2, 1) := by decide +kernel
theorem d_Fs_announce_3 : decode prog_1_method_11_code 3 = .ok (.invokevirtual 106, 3) := by decide +kernel
theorem d_Fs_announce_6 : decode prog_1_method_11_code 6 = .ok (.astore_n 3, 1) := by decide +kernel
theorem d_Fs_announce_7 : decode prog_1_method_11_code 7 = .ok (.aload_n 3, 1) := by decide +kernel
theorem d_Fs_announce_8 : decode prog_1_method_11_code 8 = .ok (.getfield 139, 3) := by decide +kernel
theorem d_Fs_announce_11 : decode prog_1_method_11_code 11 = .ok (.ifCond .eq 10, 3) := by decide +kernel
theorem d_Fs_announce_14 : decode prog_1_method_11_code 14 = .ok (.aload_n 0, 1) := by decide +kernel
theorem d_Fs_announce_15 : decode prog_1_method_11_code 15 = .ok (.invokevirtual 164, 3) := by decide +kernel
theorem d_Fs_announce_18 : decode prog_1_method_11_code 18 = .ok (.ifCond .eq 13, 3) := by decide +kernel
theorem d_Fs_announce_21 : decode prog_1_method_11_code 21 = .ok (.new 56, 3) := by decide +kernel
theorem d_Fs_announce_24 : decode prog_1_method_11_code 24 = .ok (.dup, 1) := by decide +kernel
theorem d_Fs_announce_25 : decode prog_1_method_11_code 25 = .ok (.ldc 167, 2) := by decide +kernel
theorem d_Fs_announce_27 : decode prog_1_method_11_code 27 = .ok (.invokespecial 60, 3) := by decide +kernel
theorem d_Fs_announce_30 : decode prog_1_method_11_code 30 = .ok (.athrow, 1) := by decide +kernel
theorem d_Fs_announce_31 : decode prog_1_method_11_code 31 = .ok (.aload_n 0, 1) := by decide +kernel
theorem d_Fs_announce_32 : decode prog_1_method_11_code 32 = .ok (.aload_n 0, 1) := by decide +kernel
theorem d_Fs_announce_33 : decode prog_1_method_11_code 33 = .ok (.iload_n 1, 1) := by decide +kernel
theorem d_Fs_announce_34 : decode prog_1_method_11_code 34 = .ok (.invokevirtual 35, 3) := by decide +kernel
theorem d_Fs_announce_37 : decode prog_1_method_11_code 37 = .ok (.aload_n 3, 1) := by decide +kernel
theorem d_Fs_announce_38 : decode prog_1_method_11_code 38 = .ok (.invokevirtual 169, 3) := by decide +kernel
theorem d_Fs_announce_41 : decode prog_1_method_11_code 41 = .ok (.invokevirtual 173, 3) := by decide +kernel
theorem d_Fs_announce_44 : decode prog_1_method_11_code 44 = .ok (.ireturn, 1) := by decide +kernel
theorem q_Fs_announce : (⟨"FlowShelf", "announce", "(II)I"⟩ : MethodName).cls ≠ "java/lang/invoke/MethodHandle" ∧ (⟨"FlowShelf", "announce", "(II)I"⟩ : MethodName).cls ≠ "java/lang/invoke/VarHandle" ∧ (parseMethodDescriptor (⟨"FlowShelf", "announce", "(II)I"⟩ : MethodName).desc).map (fun d => d.parameters.length) = some 2 := by decide +kernel
set_option maxHeartbeats 4000000 in
set_option maxRecDepth 100000 in
theorem m_Fs_announce (X : fs_X) (l : Launch) (hl0 : l.stackTraces = false) (a0 : Nat) (x1 : Int32) (x2 : Int32) {r : (Int32 ⊕ String)} {σ σF : fs_S} (h : (f_Fs_announce a0 x1 x2).1 σ = some (r, σF)) : fs_Met X l ⟨"FlowShelf", "announce", "(II)I"⟩ (Cond.code ⟨"FlowShelf", "announce", "(II)I"⟩ prog_1_method_11_code 4 (some FieldType.int)) 8 212 [.ref a0, .int x1, .int x2] σ (fs_qI r) σF := by
  refine fs_ofW (by decide) ?_
  intro p e s m args below meth c s₁ B hml hT hv
  obtain ⟨rfl, hw0, hG⟩ := hv
  have hx := B.exec
  have hb := B.bytes
  have hr := B.returns
  have hk := B.notSynchronized
  have S : CallFix p m c prog_1_method_11_code 4 s _ fs_ws "FlowShelf" := ⟨B.exec, B.bytes, hml, findClass_of_methodNamed B.named, fun w hw => atoms_spec (ws := _ :: fs_ws) B.pre w (List.mem_cons_of_mem _ hw)⟩
  have hR := fs_hR (fr := 8) (lo := 212) ((f_Fs_announce a0 x1 x2).2 _ _ _ h)
  have hl := lv_entry ([.ref a0, .int x1, .int x2]) (n := 4) (Nat.le_of_ble_eq_true rfl)
  rw [lg_entry_eq]
  generalize (lg_sl ([.ref a0, .int x1, .int x2]) ++ List.replicate (4 - (lg_sl ([.ref a0, .int x1, .int x2])).length) Slot.unset).toArray = ls at hl ⊢
  have hl : lv_has ls 4 [(0, .ref a0), (1, .int x1), (2, .int x2)] := hl
  refine (?_ : fs_J X p l e (fs_rm 8 212 σ σF) s m _ below meth c (fs_Q X below _ s (fs_qI r) σ σF) r σ σF (f_Fs_announce a0 x1 x2) (F0 m 0 ls [])) σ s.heap [] 0 0 h hw0 va_S.rf rfl rfl
  clear h hw0
  unfold f_Fs_announce
  refine fs_lift (fun _ _ _ _ => lv_aload_n hx hb d_Fs_announce_0 rfl (lv_at hl 0 rfl)) ?_
  refine fs_lift (fun _ _ _ _ => lv_iload_n hx hb d_Fs_announce_1 rfl (lv_at hl 1 rfl)) ?_
  refine fs_lift (fun _ _ _ _ => lv_iload_n hx hb d_Fs_announce_2 rfl (lv_at hl 2 rfl)) ?_
  refine fs_JVx S hG hR hT hk rfl [.int x1, .int x2] (fun r => some (.ref r)) (encx := fs_qR) (fun _ => rfl) (fun _ => rfl) (fun zr zs zt zh => m_Fs_slotOf X l hl0 a0 x1 x2 zh) tw_3_140 tw_3_142 tp_1_7 tw_3_143 tw_1_1 q_Fs_slotOf ⟨(Nat.le_of_ble_eq_true rfl), (Nat.le_of_ble_eq_true rfl)⟩ hl.1 rfl (Nat.le_of_ble_eq_true rfl) d_Fs_announce_3 (enc := fs_qI) (fun _ => rfl) (fun r1 => ?_)
  refine fs_Jeq (g2 := F0 m 6 ls [.ref r1]) rfl ?_
  refine fs_liftL (fun _ _ _ _ => lv_astore_n (lv' := [(3, .ref r1), (0, .ref a0), (1, .int x1), (2, .int x2)]) hx hb d_Fs_announce_6 rfl hl (Nat.le_of_ble_eq_true rfl) rfl) (fun ls hl => ?_)
  refine fs_lift (fun _ _ _ _ => lv_aload_n hx hb d_Fs_announce_7 rfl (lv_at hl 0 rfl)) ?_
  refine fs_Jgi S hG fs_in3 rfl 3 (Nat.le_of_ble_eq_true rfl) tw_1_105 (fun _ h9 => h9) d_Fs_announce_8 (fun v2 => ?_)
  refine fs_Jlet1 (nL := 4) (pj := 21) (I := fun (_ : Unit) => []) (st := fun (_ : Unit) => []) (fun _ ls hl => ?_) (fun j21 hj21 => ?_)
  · exact fs_Jthrow S hG hR hl0 (names := fs_nms) (len := 2) (.ldc 167) (Or.inl ⟨rfl, rfl⟩) (by decide) fs_fit fs_at2 tw_2_146 tw_1_16 tb_3_214 hl.1 hT hk (Nat.le_of_ble_eq_true rfl) (Nat.le_of_ble_eq_true rfl) d_Fs_announce_21 d_Fs_announce_24 d_Fs_announce_25 d_Fs_announce_27 d_Fs_announce_30 rfl
  · refine fs_if (fun _ _ _ _ => lv_if_eq hx hb d_Fs_announce_11 rfl) ?_ ?_
    · exact hj21 () ls (lv_sub hl [] rfl)
    · refine fs_lift (fun _ _ _ _ => lv_aload_n hx hb d_Fs_announce_14 rfl (lv_at hl 1 rfl)) ?_
      refine fs_JV S hG hR rfl [] (enc := fun r => some (.int r)) (fun zr zs zt zh => m_Fs_hasNoRoomForReport X l a0 zh) tw_3_210 tw_3_212 tp_1_8 tw_3_213 tw_1_1 q_Fs_hasNoRoomForReport ⟨(Nat.le_of_ble_eq_true rfl), (Nat.le_of_ble_eq_true rfl)⟩ hl.1 rfl (Nat.le_of_ble_eq_true rfl) d_Fs_announce_15 (fun v3 => ?_)
      refine fs_Jeq (g2 := F0 m 18 ls [.int v3]) rfl ?_
      refine fs_if (fun _ _ _ _ => lv_if_eq hx hb d_Fs_announce_18 rfl) ?_ ?_
      · refine fs_lift (fun _ _ _ _ => lv_aload_n hx hb d_Fs_announce_31 rfl (lv_at hl 1 rfl)) ?_
        refine fs_lift (fun _ _ _ _ => lv_aload_n hx hb d_Fs_announce_32 rfl (lv_at hl 1 rfl)) ?_
        refine fs_lift (fun _ _ _ _ => lv_iload_n hx hb d_Fs_announce_33 rfl (lv_at hl 2 rfl)) ?_
        refine fs_JVx S hG hR hT hk rfl [.int x1] (fun r => some (.ref r)) (encx := fs_qR) (fun _ => rfl) (fun _ => rfl) (fun zr zs zt zh => m_Fs_exporterOf X l hl0 a0 x1 zh) tw_2_60 tw_2_62 tp_1_1 tw_2_63 tw_1_1 q_Fs_exporterOf ⟨(Nat.le_of_ble_eq_true rfl), (Nat.le_of_ble_eq_true rfl)⟩ hl.1 rfl (Nat.le_of_ble_eq_true rfl) d_Fs_announce_34 (enc := fs_qI) (fun _ => rfl) (fun r4 => ?_)
        refine fs_Jeq (g2 := F0 m 37 ls [.ref r4, .ref a0]) rfl ?_
        refine fs_lift (fun _ _ _ _ => lv_aload_n hx hb d_Fs_announce_37 rfl (lv_at hl 0 rfl)) ?_
        refine fs_JV S hG hR rfl [.ref r1] (enc := fun r => some (.ref r)) (fun zr zs zt zh => m_Exporter_writeTemplate X l r4 r1 zh) tw_3_215 tw_3_216 tw_3_217 tw_3_218 tw_1_2 q_Exporter_writeTemplate ⟨(Nat.le_of_ble_eq_true rfl), (Nat.le_of_ble_eq_true rfl)⟩ hl.1 rfl (Nat.le_of_ble_eq_true rfl) d_Fs_announce_38 (fun r5 => ?_)
        refine fs_Jeq (g2 := F0 m 41 ls [.ref r5, .ref a0]) rfl ?_
        refine fs_JV S hG hR rfl [.ref r5] (enc := fun r => some (.int r)) (fun zr zs zt zh => m_Fs_keep X l a0 r5 zh) tw_4_0 tw_4_2 tp_1_9 tw_4_3 tw_1_1 q_Fs_keep ⟨(Nat.le_of_ble_eq_true rfl), (Nat.le_of_ble_eq_true rfl)⟩ hl.1 rfl (Nat.le_of_ble_eq_true rfl) d_Fs_announce_41 (fun v6 => ?_)
        refine fs_Jeq (g2 := F0 m 44 ls [.int v6]) rfl ?_
        exact fs_Jiret S hr hk rfl d_Fs_announce_44
      · exact hj21 () ls (lv_sub hl [] rfl)

theorem d_Exporter_numberSealedLast_0 : decode prog_4_method_12_code 0 = .ok (.iconst (-1), 1) := by decide +kernel
theorem d_Exporter_numberSealedLast_1 : decode prog_4_method_12_code 1 = .ok (.istore_n 1, 1) := by decide +kernel
theorem d_Exporter_numberSealedLast_2 : decode prog_4_method_12_code 2 = .ok (.iconst 0, 1) := by decide +kernel
theorem d_Exporter_numberSealedLast_3 : decode prog_4_method_12_code 3 = .ok (.istore_n 2, 1) := by decide +kernel
theorem d_Exporter_numberSealedLast_4 : decode prog_4_method_12_code 4 = .ok (.iload_n 2, 1) := by decide +kernel
theorem d_Exporter_numberSealedLast_5 : decode prog_4_method_12_code 5 = .ok (.iconst 3, 1) := by decide +kernel
theorem d_Exporter_numberSealedLast_6 : decode prog_4_method_12_code 6 = .ok (.if_icmp .ge 49, 3) := by decide +kernel
theorem d_Exporter_numberSealedLast_9 : decode prog_4_method_12_code 9 = .ok (.aload_n 0, 1) := by decide +kernel
theorem d_Exporter_numberSealedLast_10 : decode prog_4_method_12_code 10 = .ok (.getfield 23, 3) := by decide +kernel
theorem d_Exporter_numberSealedLast_13 : decode prog_4_method_12_code 13 = .ok (.iload_n 2, 1) := by decide +kernel
theorem d_Exporter_numberSealedLast_14 : decode prog_4_method_12_code 14 = .ok (.aaload, 1) := by decide +kernel
theorem d_Exporter_numberSealedLast_15 : decode prog_4_method_12_code 15 = .ok (.getfield 97, 3) := by decide +kernel
theorem d_Exporter_numberSealedLast_18 : decode prog_4_method_12_code 18 = .ok (.ifCond .eq 31, 3) := by decide +kernel
theorem d_Exporter_numberSealedLast_21 : decode prog_4_method_12_code 21 = .ok (.iload_n 1, 1) := by decide +kernel
theorem d_Exporter_numberSealedLast_22 : decode prog_4_method_12_code 22 = .ok (.iconst (-1), 1) := by decide +kernel
theorem d_Exporter_numberSealedLast_23 : decode prog_4_method_12_code 23 = .ok (.if_icmp .eq 24, 3) := by decide +kernel
theorem d_Exporter_numberSealedLast_26 : decode prog_4_method_12_code 26 = .ok (.aload_n 0, 1) := by decide +kernel
theorem d_Exporter_numberSealedLast_27 : decode prog_4_method_12_code 27 = .ok (.getfield 23, 3) := by decide +kernel
theorem d_Exporter_numberSealedLast_30 : decode prog_4_method_12_code 30 = .ok (.iload_n 2, 1) := by decide +kernel
theorem d_Exporter_numberSealedLast_31 : decode prog_4_method_12_code 31 = .ok (.aaload, 1) := by decide +kernel
theorem d_Exporter_numberSealedLast_32 : decode prog_4_method_12_code 32 = .ok (.getfield 101, 3) := by decide +kernel
theorem d_Exporter_numberSealedLast_35 : decode prog_4_method_12_code 35 = .ok (.aload_n 0, 1) := by decide +kernel
theorem d_Exporter_numberSealedLast_36 : decode prog_4_method_12_code 36 = .ok (.getfield 23, 3) := by decide +kernel
theorem d_Exporter_numberSealedLast_39 : decode prog_4_method_12_code 39 = .ok (.iload_n 1, 1) := by decide +kernel
theorem d_Exporter_numberSealedLast_40 : decode prog_4_method_12_code 40 = .ok (.aaload, 1) := by decide +kernel
theorem d_Exporter_numberSealedLast_41 : decode prog_4_method_12_code 41 = .ok (.getfield 101, 3) := by decide +kernel
theorem d_Exporter_numberSealedLast_44 : decode prog_4_method_12_code 44 = .ok (.if_icmp .le 5, 3) := by decide +kernel
theorem d_Exporter_numberSealedLast_47 : decode prog_4_method_12_code 47 = .ok (.iload_n 2, 1) := by decide +kernel
theorem d_Exporter_numberSealedLast_48 : decode prog_4_method_12_code 48 = .ok (.istore_n 1, 1) := by decide +kernel
theorem d_Exporter_numberSealedLast_49 : decode prog_4_method_12_code 49 = .ok (.iinc 2 1, 3) := by decide +kernel
theorem d_Exporter_numberSealedLast_52 : decode prog_4_method_12_code 52 = .ok (.goto (-48), 3) := by decide +kernel
theorem d_Exporter_numberSealedLast_55 : decode prog_4_method_12_code 55 = .ok (.iload_n 1, 1) := by decide +kernel
theorem d_Exporter_numberSealedLast_56 : decode prog_4_method_12_code 56 = .ok (.ireturn, 1) := by decide +kernel
theorem q_Exporter_numberSealedLast : (⟨"FlowShelf$Exporter", "numberSealedLast", "()I"⟩ : MethodName).cls ≠ "java/lang/invoke/MethodHandle" ∧ (⟨"FlowShelf$Exporter", "numberSealedLast", "()I"⟩ : MethodName).cls ≠ "java/lang/invoke/VarHandle" ∧ (parseMethodDescriptor (⟨"FlowShelf$Exporter", "numberSealedLast", "()I"⟩ : MethodName).desc).map (fun d => d.parameters.length) = some 0 := by decide +kernel
set_option maxHeartbeats 4000000 in
set_option maxRecDepth 100000 in
theorem m_Exporter_numberSealedLast (X : fs_X) (l : Launch) (a0 : Nat) {r : Int32} {σ σF : fs_S} (h : (f_Exporter_numberSealedLast a0).1 σ = some (r, σF)) : fs_Met X l ⟨"FlowShelf$Exporter", "numberSealedLast", "()I"⟩ (Cond.code ⟨"FlowShelf$Exporter", "numberSealedLast", "()I"⟩ prog_4_method_12_code 3 (some FieldType.int)) 0 0 [.ref a0] σ (fs_eI r) σF := by
  refine fs_ofW (by decide) ?_
  intro p e s m args below meth c s₁ B hml hT hv
  obtain ⟨rfl, hw0, hG⟩ := hv
  have hx := B.exec
  have hb := B.bytes
  have hr := B.returns
  have hk := B.notSynchronized
  have S : CallFix p m c prog_4_method_12_code 3 s _ fs_ws "FlowShelf$Exporter" := ⟨B.exec, B.bytes, hml, findClass_of_methodNamed B.named, fun w hw => atoms_spec (ws := _ :: fs_ws) B.pre w (List.mem_cons_of_mem _ hw)⟩
  have hR := fs_hR (fr := 0) (lo := 0) ((f_Exporter_numberSealedLast a0).2 _ _ _ h)
  have hl := lv_entry ([.ref a0]) (n := 3) (Nat.le_of_ble_eq_true rfl)
  rw [lg_entry_eq]
  generalize (lg_sl ([.ref a0]) ++ List.replicate (3 - (lg_sl ([.ref a0])).length) Slot.unset).toArray = ls at hl ⊢
  have hl : lv_has ls 3 [(0, .ref a0)] := hl
  refine (?_ : fs_J X p l e (fs_rm 0 0 σ σF) s m _ below meth c (fs_Q X below _ s (fs_eI r) σ σF) r σ σF (f_Exporter_numberSealedLast a0) (F0 m 0 ls [])) σ s.heap [] 0 0 h hw0 va_S.rf rfl rfl
  clear h hw0
  unfold f_Exporter_numberSealedLast
  refine fs_lift (fun _ _ _ _ => lv_iconst (v := (-1)) hx hb d_Exporter_numberSealedLast_0 (by decide)) ?_
  refine fs_liftL (fun _ _ _ _ => lv_istore_n (lv' := [(1, .int (-1)), (0, .ref a0)]) hx hb d_Exporter_numberSealedLast_1 rfl hl (Nat.le_of_ble_eq_true rfl) rfl) (fun ls hl => ?_)
  refine fs_lift (fun _ _ _ _ => lv_iconst (v := 0) hx hb d_Exporter_numberSealedLast_2 (by decide)) ?_
  refine fs_liftL (fun _ _ _ _ => lv_istore_n (lv' := [(2, .int 0), (1, .int (-1)), (0, .ref a0)]) hx hb d_Exporter_numberSealedLast_3 rfl hl (Nat.le_of_ble_eq_true rfl) rfl) (fun ls hl => ?_)
  refine fs_Jlp2 (nL := 3) (pc := 4) (rest := []) (I := fun (v1 : Int32) (v2 : Int32) => [(0, .ref a0), (1, .int v1), (2, .int v2)]) (fun k4 hk4 v1 v2 ls hl => ?_) _ _ _ _ (lv_sub hl [2, 1, 0] rfl)
  refine fs_lift (fun _ _ _ _ => lv_iload_n hx hb d_Exporter_numberSealedLast_4 rfl (lv_at hl 2 rfl)) ?_
  refine fs_lift (fun _ _ _ _ => lv_iconst (v := 3) hx hb d_Exporter_numberSealedLast_5 (by decide)) ?_
  refine fs_if (fun _ _ _ _ => lv_icmp_ge hx hb d_Exporter_numberSealedLast_6 rfl) ?_ ?_
  · refine fs_lift (fun _ _ _ _ => lv_iload_n hx hb d_Exporter_numberSealedLast_55 rfl (lv_at hl 1 rfl)) ?_
    exact fs_Jiret S hr hk rfl d_Exporter_numberSealedLast_56
  · refine fs_lift (fun _ _ _ _ => lv_aload_n hx hb d_Exporter_numberSealedLast_9 rfl (lv_at hl 0 rfl)) ?_
    refine fs_Jgr S hG fs_in1 rfl 3 (Nat.le_of_ble_eq_true rfl) tw_1_130 (fun _ h9 => h9) d_Exporter_numberSealedLast_10 (fun r3 => ?_)
    refine fs_lift (fun _ _ _ _ => lv_iload_n hx hb d_Exporter_numberSealedLast_13 rfl (lv_at hl 2 rfl)) ?_
    refine fs_Jar S hG d_Exporter_numberSealedLast_14 (fun r4 => ?_)
    refine fs_Jgi S hG fs_in3 rfl 3 (Nat.le_of_ble_eq_true rfl) tw_1_106 (fun _ h9 => h9) d_Exporter_numberSealedLast_15 (fun v5 => ?_)
    refine fs_Jlet1 (nL := 3) (pj := 49) (I := fun (v12 : Int32) => [(0, .ref a0), (1, .int v12), (2, .int v2)]) (st := fun (v12 : Int32) => []) (fun v12 ls hl => ?_) (fun j49 hj49 => ?_)
    · refine fs_Jnm (fun v13 hv9 => ?_)
      refine fs_liftL (fun _ _ _ _ => lv_iinc (k := 2) (v := v13) (lv' := [(2, .int v13), (0, .ref a0), (1, .int v12)]) hx hb d_Exporter_numberSealedLast_49 hl rfl (by rw [hv9]; rfl) (Nat.le_of_ble_eq_true rfl) rfl) (fun ls hl => ?_)
      refine fs_lift (fun _ _ _ _ => lv_goto hx hb d_Exporter_numberSealedLast_52 rfl) ?_
      exact hk4 v12 v13 ls (lv_sub hl [1, 2, 0] rfl)
    · refine fs_if (fun _ _ _ _ => lv_if_eq hx hb d_Exporter_numberSealedLast_18 rfl) ?_ ?_
      · exact hj49 v1 ls (lv_sub hl [0, 1, 2] rfl)
      · refine fs_lift (fun _ _ _ _ => lv_iload_n hx hb d_Exporter_numberSealedLast_21 rfl (lv_at hl 1 rfl)) ?_
        refine fs_lift (fun _ _ _ _ => lv_iconst (v := (-1)) hx hb d_Exporter_numberSealedLast_22 (by decide)) ?_
        refine fs_Jlet1 (nL := 3) (pj := 47) (I := fun (_ : Unit) => [(0, .ref a0), (2, .int v2)]) (st := fun (_ : Unit) => []) (fun _ ls hl => ?_) (fun j47 hj47 => ?_)
        · refine fs_lift (fun _ _ _ _ => lv_iload_n hx hb d_Exporter_numberSealedLast_47 rfl (lv_at hl 1 rfl)) ?_
          refine fs_liftL (fun _ _ _ _ => lv_istore_n (lv' := [(1, .int v2), (0, .ref a0), (2, .int v2)]) hx hb d_Exporter_numberSealedLast_48 rfl hl (Nat.le_of_ble_eq_true rfl) rfl) (fun ls hl => ?_)
          exact hj49 v2 ls (lv_sub hl [1, 0, 2] rfl)
        · refine fs_if (fun _ _ _ _ => lv_icmp_eq hx hb d_Exporter_numberSealedLast_23 rfl) ?_ ?_
          · exact hj47 () ls (lv_sub hl [0, 2] rfl)
          · refine fs_lift (fun _ _ _ _ => lv_aload_n hx hb d_Exporter_numberSealedLast_26 rfl (lv_at hl 0 rfl)) ?_
            refine fs_Jgr S hG fs_in1 rfl 3 (Nat.le_of_ble_eq_true rfl) tw_1_130 (fun _ h9 => h9) d_Exporter_numberSealedLast_27 (fun r6 => ?_)
            refine fs_lift (fun _ _ _ _ => lv_iload_n hx hb d_Exporter_numberSealedLast_30 rfl (lv_at hl 2 rfl)) ?_
            refine fs_Jar S hG d_Exporter_numberSealedLast_31 (fun r7 => ?_)
            refine fs_Jgi S hG fs_in3 rfl 5 (Nat.le_of_ble_eq_true rfl) tw_1_111 (fun _ h9 => h9) d_Exporter_numberSealedLast_32 (fun v8 => ?_)
            refine fs_lift (fun _ _ _ _ => lv_aload_n hx hb d_Exporter_numberSealedLast_35 rfl (lv_at hl 0 rfl)) ?_
            refine fs_Jgr S hG fs_in1 rfl 3 (Nat.le_of_ble_eq_true rfl) tw_1_130 (fun _ h9 => h9) d_Exporter_numberSealedLast_36 (fun r9 => ?_)
            refine fs_lift (fun _ _ _ _ => lv_iload_n hx hb d_Exporter_numberSealedLast_39 rfl (lv_at hl 1 rfl)) ?_
            refine fs_Jar S hG d_Exporter_numberSealedLast_40 (fun r10 => ?_)
            refine fs_Jgi S hG fs_in3 rfl 5 (Nat.le_of_ble_eq_true rfl) tw_1_111 (fun _ h9 => h9) d_Exporter_numberSealedLast_41 (fun v11 => ?_)
            refine fs_if (fun _ _ _ _ => lv_icmp_le hx hb d_Exporter_numberSealedLast_44 rfl) ?_ ?_
            · exact hj49 v1 ls (lv_sub hl [0, 1, 2] rfl)
            · exact hj47 () ls (lv_sub hl [0, 2] rfl)

theorem d_ArrayList_isEmpty_0 : decode prog_29_method_9_code 0 = .ok (.aload_n 0, 1) := by decide +kernel
theorem d_ArrayList_isEmpty_1 : decode prog_29_method_9_code 1 = .ok (.getfield 48, 3) := by decide +kernel
theorem d_ArrayList_isEmpty_4 : decode prog_29_method_9_code 4 = .ok (.ifCond .ne 7, 3) := by decide +kernel
theorem d_ArrayList_isEmpty_7 : decode prog_29_method_9_code 7 = .ok (.iconst 1, 1) := by decide +kernel
theorem d_ArrayList_isEmpty_8 : decode prog_29_method_9_code 8 = .ok (.goto 4, 3) := by decide +kernel
theorem d_ArrayList_isEmpty_11 : decode prog_29_method_9_code 11 = .ok (.iconst 0, 1) := by decide +kernel
theorem d_ArrayList_isEmpty_12 : decode prog_29_method_9_code 12 = .ok (.ireturn, 1) := by decide +kernel
theorem q_ArrayList_isEmpty : (⟨"java/util/ArrayList", "isEmpty", "()Z"⟩ : MethodName).cls ≠ "java/lang/invoke/MethodHandle" ∧ (⟨"java/util/ArrayList", "isEmpty", "()Z"⟩ : MethodName).cls ≠ "java/lang/invoke/VarHandle" ∧ (parseMethodDescriptor (⟨"java/util/ArrayList", "isEmpty", "()Z"⟩ : MethodName).desc).map (fun d => d.parameters.length) = some 0 := by decide +kernel
set_option maxHeartbeats 4000000 in
set_option maxRecDepth 100000 in
theorem m_ArrayList_isEmpty (X : fs_X) (l : Launch) (a0 : Nat) {r : Int32} {σ σF : fs_S} (h : (f_ArrayList_isEmpty a0).1 σ = some (r, σF)) : fs_Met X l ⟨"java/util/ArrayList", "isEmpty", "()Z"⟩ (Cond.code ⟨"java/util/ArrayList", "isEmpty", "()Z"⟩ prog_29_method_9_code 1 (some FieldType.boolean)) 0 0 [.ref a0] σ (fs_eI r) σF := by
  refine fs_ofW (by decide) ?_
  intro p e s m args below meth c s₁ B hml hT hv
  obtain ⟨rfl, hw0, hG⟩ := hv
  have hx := B.exec
  have hb := B.bytes
  have hr := B.returns
  have hk := B.notSynchronized
  have S : CallFix p m c prog_29_method_9_code 1 s _ fs_ws "java/util/ArrayList" := ⟨B.exec, B.bytes, hml, findClass_of_methodNamed B.named, fun w hw => atoms_spec (ws := _ :: fs_ws) B.pre w (List.mem_cons_of_mem _ hw)⟩
  have hR := fs_hR (fr := 0) (lo := 0) ((f_ArrayList_isEmpty a0).2 _ _ _ h)
  have hl := lv_entry ([.ref a0]) (n := 1) (Nat.le_of_ble_eq_true rfl)
  rw [lg_entry_eq]
  generalize (lg_sl ([.ref a0]) ++ List.replicate (1 - (lg_sl ([.ref a0])).length) Slot.unset).toArray = ls at hl ⊢
  have hl : lv_has ls 1 [(0, .ref a0)] := hl
  refine (?_ : fs_J X p l e (fs_rm 0 0 σ σF) s m _ below meth c (fs_Q X below _ s (fs_eI r) σ σF) r σ σF (f_ArrayList_isEmpty a0) (F0 m 0 ls [])) σ s.heap [] 0 0 h hw0 va_S.rf rfl rfl
  clear h hw0
  unfold f_ArrayList_isEmpty
  refine fs_lift (fun _ _ _ _ => lv_aload_n hx hb d_ArrayList_isEmpty_0 rfl (lv_at hl 0 rfl)) ?_
  refine fs_Jgi S hG fs_in2 rfl 1 (Nat.le_of_ble_eq_true rfl) tw_1_58 (fun _ h9 => h9) d_ArrayList_isEmpty_1 (fun v1 => ?_)
  refine fs_ifn (fun _ _ _ _ => lv_if_ne hx hb d_ArrayList_isEmpty_4 rfl) ?_ ?_
  · refine fs_lift (fun _ _ _ _ => lv_iconst (v := 1) hx hb d_ArrayList_isEmpty_7 (by decide)) ?_
    refine fs_lift (fun _ _ _ _ => lv_goto hx hb d_ArrayList_isEmpty_8 rfl) ?_
    exact fs_Jzret S hr hk rfl d_ArrayList_isEmpty_12
  · refine fs_lift (fun _ _ _ _ => lv_iconst (v := 0) hx hb d_ArrayList_isEmpty_11 (by decide)) ?_
    exact fs_Jzret S hr hk rfl d_ArrayList_isEmpty_12

theorem d_Layout_fewestBytes_0 : decode prog_6_method_6_code 0 = .ok (.iconst 1, 1) := by decide +kernel
theorem d_Layout_fewestBytes_1 : decode prog_6_method_6_code 1 = .ok (.istore_n 1, 1) := by decide +kernel
theorem d_Layout_fewestBytes_2 : decode prog_6_method_6_code 2 = .ok (.iload_n 0, 1) := by decide +kernel
theorem d_Layout_fewestBytes_3 : decode prog_6_method_6_code 3 = .ok (.bipush 8, 2) := by decide +kernel
theorem d_Layout_fewestBytes_5 : decode prog_6_method_6_code 5 = .ok (.iushr, 1) := by decide +kernel
theorem d_Layout_fewestBytes_6 : decode prog_6_method_6_code 6 = .ok (.istore_n 2, 1) := by decide +kernel
theorem d_Layout_fewestBytes_7 : decode prog_6_method_6_code 7 = .ok (.iload_n 2, 1) := by decide +kernel
theorem d_Layout_fewestBytes_8 : decode prog_6_method_6_code 8 = .ok (.ifCond .eq 19, 3) := by decide +kernel
theorem d_Layout_fewestBytes_11 : decode prog_6_method_6_code 11 = .ok (.iload_n 1, 1) := by decide +kernel
theorem d_Layout_fewestBytes_12 : decode prog_6_method_6_code 12 = .ok (.iconst 4, 1) := by decide +kernel
theorem d_Layout_fewestBytes_13 : decode prog_6_method_6_code 13 = .ok (.if_icmp .ge 14, 3) := by decide +kernel
theorem d_Layout_fewestBytes_16 : decode prog_6_method_6_code 16 = .ok (.iinc 1 1, 3) := by decide +kernel
theorem d_Layout_fewestBytes_19 : decode prog_6_method_6_code 19 = .ok (.iload_n 2, 1) := by decide +kernel
theorem d_Layout_fewestBytes_20 : decode prog_6_method_6_code 20 = .ok (.bipush 8, 2) := by decide +kernel
theorem d_Layout_fewestBytes_22 : decode prog_6_method_6_code 22 = .ok (.iushr, 1) := by decide +kernel
theorem d_Layout_fewestBytes_23 : decode prog_6_method_6_code 23 = .ok (.istore_n 2, 1) := by decide +kernel
theorem d_Layout_fewestBytes_24 : decode prog_6_method_6_code 24 = .ok (.goto (-17), 3) := by decide +kernel
theorem d_Layout_fewestBytes_27 : decode prog_6_method_6_code 27 = .ok (.iload_n 1, 1) := by decide +kernel
theorem d_Layout_fewestBytes_28 : decode prog_6_method_6_code 28 = .ok (.ireturn, 1) := by decide +kernel
theorem q_Layout_fewestBytes : (⟨"FlowShelf$Layout", "fewestBytes", "(I)I"⟩ : MethodName).cls ≠ "java/lang/invoke/MethodHandle" ∧ (⟨"FlowShelf$Layout", "fewestBytes", "(I)I"⟩ : MethodName).cls ≠ "java/lang/invoke/VarHandle" ∧ (parseMethodDescriptor (⟨"FlowShelf$Layout", "fewestBytes", "(I)I"⟩ : MethodName).desc).map (fun d => d.parameters.length) = some 1 := by decide +kernel
set_option maxHeartbeats 4000000 in
set_option maxRecDepth 100000 in
theorem m_Layout_fewestBytes (X : fs_X) (l : Launch) (x0 : Int32) {r : Int32} {σ σF : fs_S} (h : (f_Layout_fewestBytes x0).1 σ = some (r, σF)) : fs_Met X l ⟨"FlowShelf$Layout", "fewestBytes", "(I)I"⟩ (Cond.code ⟨"FlowShelf$Layout", "fewestBytes", "(I)I"⟩ prog_6_method_6_code 3 (some FieldType.int)) 0 0 [.int x0] σ (fs_eI r) σF := by
  refine fs_ofW (by decide) ?_
  intro p e s m args below meth c s₁ B hml hT hv
  obtain ⟨rfl, hw0, hG⟩ := hv
  have hx := B.exec
  have hb := B.bytes
  have hr := B.returns
  have hk := B.notSynchronized
  have S : CallFix p m c prog_6_method_6_code 3 s _ fs_ws "FlowShelf$Layout" := ⟨B.exec, B.bytes, hml, findClass_of_methodNamed B.named, fun w hw => atoms_spec (ws := _ :: fs_ws) B.pre w (List.mem_cons_of_mem _ hw)⟩
  have hR := fs_hR (fr := 0) (lo := 0) ((f_Layout_fewestBytes x0).2 _ _ _ h)
  have hl := lv_entry ([.int x0]) (n := 3) (Nat.le_of_ble_eq_true rfl)
  rw [lg_entry_eq]
  generalize (lg_sl ([.int x0]) ++ List.replicate (3 - (lg_sl ([.int x0])).length) Slot.unset).toArray = ls at hl ⊢
  have hl : lv_has ls 3 [(0, .int x0)] := hl
  refine (?_ : fs_J X p l e (fs_rm 0 0 σ σF) s m _ below meth c (fs_Q X below _ s (fs_eI r) σ σF) r σ σF (f_Layout_fewestBytes x0) (F0 m 0 ls [])) σ s.heap [] 0 0 h hw0 va_S.rf rfl rfl
  clear h hw0
  unfold f_Layout_fewestBytes
  refine fs_lift (fun _ _ _ _ => lv_iconst (v := 1) hx hb d_Layout_fewestBytes_0 (by decide)) ?_
  refine fs_liftL (fun _ _ _ _ => lv_istore_n (lv' := [(1, .int 1), (0, .int x0)]) hx hb d_Layout_fewestBytes_1 rfl hl (Nat.le_of_ble_eq_true rfl) rfl) (fun ls hl => ?_)
  refine fs_lift (fun _ _ _ _ => lv_iload_n hx hb d_Layout_fewestBytes_2 rfl (lv_at hl 1 rfl)) ?_
  refine fs_lift (fun _ _ _ _ => lv_bipush (v := 8) hx hb d_Layout_fewestBytes_3 (by decide)) ?_
  refine fs_lift (fun _ _ _ _ => lv_iushr (v := (fs_ushr x0 8)) hx hb d_Layout_fewestBytes_5 rfl) ?_
  refine fs_Jni (fun v1 => ?_)
  refine fs_liftL (fun _ _ _ _ => lv_istore_n (lv' := [(2, .int v1), (1, .int 1), (0, .int x0)]) hx hb d_Layout_fewestBytes_6 rfl hl (Nat.le_of_ble_eq_true rfl) rfl) (fun ls hl => ?_)
  refine fs_Jlp2 (nL := 3) (pc := 7) (rest := []) (I := fun (v2 : Int32) (v3 : Int32) => [(1, .int v2), (2, .int v3)]) (fun k7 hk7 v2 v3 ls hl => ?_) _ _ _ _ (lv_sub hl [1, 0] rfl)
  refine fs_lift (fun _ _ _ _ => lv_iload_n hx hb d_Layout_fewestBytes_7 rfl (lv_at hl 1 rfl)) ?_
  refine fs_Jlet1 (nL := 3) (pj := 27) (I := fun (_ : Unit) => [(1, .int v2)]) (st := fun (_ : Unit) => []) (fun _ ls hl => ?_) (fun j27 hj27 => ?_)
  · refine fs_lift (fun _ _ _ _ => lv_iload_n hx hb d_Layout_fewestBytes_27 rfl (lv_at hl 0 rfl)) ?_
    exact fs_Jiret S hr hk rfl d_Layout_fewestBytes_28
  · refine fs_if (fun _ _ _ _ => lv_if_eq hx hb d_Layout_fewestBytes_8 rfl) ?_ ?_
    · exact hj27 () ls (lv_sub hl [0] rfl)
    · refine fs_lift (fun _ _ _ _ => lv_iload_n hx hb d_Layout_fewestBytes_11 rfl (lv_at hl 0 rfl)) ?_
      refine fs_lift (fun _ _ _ _ => lv_iconst (v := 4) hx hb d_Layout_fewestBytes_12 (by decide)) ?_
      refine fs_if (fun _ _ _ _ => lv_icmp_ge hx hb d_Layout_fewestBytes_13 rfl) ?_ ?_
      · exact hj27 () ls (lv_sub hl [0] rfl)
      · refine fs_Jnm (fun v4 hv9 => ?_)
        refine fs_liftL (fun _ _ _ _ => lv_iinc (k := 0) (v := v4) (lv' := [(1, .int v4), (2, .int v3)]) hx hb d_Layout_fewestBytes_16 hl rfl (by rw [hv9]; rfl) (Nat.le_of_ble_eq_true rfl) rfl) (fun ls hl => ?_)
        refine fs_lift (fun _ _ _ _ => lv_iload_n hx hb d_Layout_fewestBytes_19 rfl (lv_at hl 1 rfl)) ?_
        refine fs_lift (fun _ _ _ _ => lv_bipush (v := 8) hx hb d_Layout_fewestBytes_20 (by decide)) ?_
        refine fs_lift (fun _ _ _ _ => lv_iushr (v := (fs_ushr v3 8)) hx hb d_Layout_fewestBytes_22 rfl) ?_
        refine fs_Jni (fun v5 => ?_)
        refine fs_liftL (fun _ _ _ _ => lv_istore_n (lv' := [(2, .int v5), (1, .int v4)]) hx hb d_Layout_fewestBytes_23 rfl hl (Nat.le_of_ble_eq_true rfl) rfl) (fun ls hl => ?_)
        refine fs_lift (fun _ _ _ _ => lv_goto hx hb d_Layout_fewestBytes_24 rfl) ?_
        exact hk7 v4 v5 ls (lv_sub hl [1, 0] rfl)

theorem d_Layout_bytesFor_0 : decode prog_6_method_4_code 0 = .ok (.iconst 0, 1) := by decide +kernel
theorem d_Layout_bytesFor_1 : decode prog_6_method_4_code 1 = .ok (.istore_n 2, 1) := by decide +kernel
theorem d_Layout_bytesFor_2 : decode prog_6_method_4_code 2 = .ok (.iconst 0, 1) := by decide +kernel
theorem d_Layout_bytesFor_3 : decode prog_6_method_4_code 3 = .ok (.istore_n 3, 1) := by decide +kernel
theorem d_Layout_bytesFor_4 : decode prog_6_method_4_code 4 = .ok (.iload_n 3, 1) := by decide +kernel
theorem d_Layout_bytesFor_5 : decode prog_6_method_4_code 5 = .ok (.aload_n 0, 1) := by decide +kernel
theorem d_Layout_bytesFor_6 : decode prog_6_method_4_code 6 = .ok (.getfield 18, 3) := by decide +kernel
theorem d_Layout_bytesFor_9 : decode prog_6_method_4_code 9 = .ok (.if_icmp .ge 45, 3) := by decide +kernel
theorem d_Layout_bytesFor_12 : decode prog_6_method_4_code 12 = .ok (.iload_n 2, 1) := by decide +kernel
theorem d_Layout_bytesFor_13 : decode prog_6_method_4_code 13 = .ok (.aload_n 0, 1) := by decide +kernel
theorem d_Layout_bytesFor_14 : decode prog_6_method_4_code 14 = .ok (.getfield 15, 3) := by decide +kernel
theorem d_Layout_bytesFor_17 : decode prog_6_method_4_code 17 = .ok (.iload_n 3, 1) := by decide +kernel
theorem d_Layout_bytesFor_18 : decode prog_6_method_4_code 18 = .ok (.iaload, 1) := by decide +kernel
theorem d_Layout_bytesFor_19 : decode prog_6_method_4_code 19 = .ok (.ifCond .ne 21, 3) := by decide +kernel
theorem d_Layout_bytesFor_22 : decode prog_6_method_4_code 22 = .ok (.iconst 1, 1) := by decide +kernel
theorem d_Layout_bytesFor_23 : decode prog_6_method_4_code 23 = .ok (.aload_n 1, 1) := by decide +kernel
theorem d_Layout_bytesFor_24 : decode prog_6_method_4_code 24 = .ok (.aload_n 0, 1) := by decide +kernel
theorem d_Layout_bytesFor_25 : decode prog_6_method_4_code 25 = .ok (.getfield 9, 3) := by decide +kernel
theorem d_Layout_bytesFor_28 : decode prog_6_method_4_code 28 = .ok (.iload_n 3, 1) := by decide +kernel
theorem d_Layout_bytesFor_29 : decode prog_6_method_4_code 29 = .ok (.iaload, 1) := by decide +kernel
theorem d_Layout_bytesFor_30 : decode prog_6_method_4_code 30 = .ok (.invokevirtual 22, 3) := by decide +kernel
theorem d_Layout_bytesFor_33 : decode prog_6_method_4_code 33 = .ok (.invokestatic 28, 3) := by decide +kernel
theorem d_Layout_bytesFor_36 : decode prog_6_method_4_code 36 = .ok (.iadd, 1) := by decide +kernel
theorem d_Layout_bytesFor_37 : decode prog_6_method_4_code 37 = .ok (.goto 9, 3) := by decide +kernel
theorem d_Layout_bytesFor_40 : decode prog_6_method_4_code 40 = .ok (.aload_n 0, 1) := by decide +kernel
theorem d_Layout_bytesFor_41 : decode prog_6_method_4_code 41 = .ok (.getfield 15, 3) := by decide +kernel
theorem d_Layout_bytesFor_44 : decode prog_6_method_4_code 44 = .ok (.iload_n 3, 1) := by decide +kernel
theorem d_Layout_bytesFor_45 : decode prog_6_method_4_code 45 = .ok (.iaload, 1) := by decide +kernel
theorem d_Layout_bytesFor_46 : decode prog_6_method_4_code 46 = .ok (.iadd, 1) := by decide +kernel
theorem d_Layout_bytesFor_47 : decode prog_6_method_4_code 47 = .ok (.istore_n 2, 1) := by decide +kernel
theorem d_Layout_bytesFor_48 : decode prog_6_method_4_code 48 = .ok (.iinc 3 1, 3) := by decide +kernel
theorem d_Layout_bytesFor_51 : decode prog_6_method_4_code 51 = .ok (.goto (-47), 3) := by decide +kernel
theorem d_Layout_bytesFor_54 : decode prog_6_method_4_code 54 = .ok (.iload_n 2, 1) := by decide +kernel
theorem d_Layout_bytesFor_55 : decode prog_6_method_4_code 55 = .ok (.ireturn, 1) := by decide +kernel
theorem q_Layout_bytesFor : (⟨"FlowShelf$Layout", "bytesFor", "(LFlowShelf$Flow;)I"⟩ : MethodName).cls ≠ "java/lang/invoke/MethodHandle" ∧ (⟨"FlowShelf$Layout", "bytesFor", "(LFlowShelf$Flow;)I"⟩ : MethodName).cls ≠ "java/lang/invoke/VarHandle" ∧ (parseMethodDescriptor (⟨"FlowShelf$Layout", "bytesFor", "(LFlowShelf$Flow;)I"⟩ : MethodName).desc).map (fun d => d.parameters.length) = some 1 := by decide +kernel
set_option maxHeartbeats 4000000 in
set_option maxRecDepth 100000 in
theorem m_Layout_bytesFor (X : fs_X) (l : Launch) (a0 : Nat) (a1 : Nat) {r : Int32} {σ σF : fs_S} (h : (f_Layout_bytesFor a0 a1).1 σ = some (r, σF)) : fs_Met X l ⟨"FlowShelf$Layout", "bytesFor", "(LFlowShelf$Flow;)I"⟩ (Cond.code ⟨"FlowShelf$Layout", "bytesFor", "(LFlowShelf$Flow;)I"⟩ prog_6_method_4_code 4 (some FieldType.int)) 1 22 [.ref a0, .ref a1] σ (fs_eI r) σF := by
  refine fs_ofW (by decide) ?_
  intro p e s m args below meth c s₁ B hml hT hv
  obtain ⟨rfl, hw0, hG⟩ := hv
  have hx := B.exec
  have hb := B.bytes
  have hr := B.returns
  have hk := B.notSynchronized
  have S : CallFix p m c prog_6_method_4_code 4 s _ fs_ws "FlowShelf$Layout" := ⟨B.exec, B.bytes, hml, findClass_of_methodNamed B.named, fun w hw => atoms_spec (ws := _ :: fs_ws) B.pre w (List.mem_cons_of_mem _ hw)⟩
  have hR := fs_hR (fr := 1) (lo := 22) ((f_Layout_bytesFor a0 a1).2 _ _ _ h)
  have hl := lv_entry ([.ref a0, .ref a1]) (n := 4) (Nat.le_of_ble_eq_true rfl)
  rw [lg_entry_eq]
  generalize (lg_sl ([.ref a0, .ref a1]) ++ List.replicate (4 - (lg_sl ([.ref a0, .ref a1])).length) Slot.unset).toArray = ls at hl ⊢
  have hl : lv_has ls 4 [(0, .ref a0), (1, .ref a1)] := hl
  refine (?_ : fs_J X p l e (fs_rm 1 22 σ σF) s m _ below meth c (fs_Q X below _ s (fs_eI r) σ σF) r σ σF (f_Layout_bytesFor a0 a1) (F0 m 0 ls [])) σ s.heap [] 0 0 h hw0 va_S.rf rfl rfl
  clear h hw0
  unfold f_Layout_bytesFor
  refine fs_lift (fun _ _ _ _ => lv_iconst (v := 0) hx hb d_Layout_bytesFor_0 (by decide)) ?_
  refine fs_liftL (fun _ _ _ _ => lv_istore_n (lv' := [(2, .int 0), (0, .ref a0), (1, .ref a1)]) hx hb d_Layout_bytesFor_1 rfl hl (Nat.le_of_ble_eq_true rfl) rfl) (fun ls hl => ?_)
  refine fs_lift (fun _ _ _ _ => lv_iconst (v := 0) hx hb d_Layout_bytesFor_2 (by decide)) ?_
  refine fs_liftL (fun _ _ _ _ => lv_istore_n (lv' := [(3, .int 0), (2, .int 0), (0, .ref a0), (1, .ref a1)]) hx hb d_Layout_bytesFor_3 rfl hl (Nat.le_of_ble_eq_true rfl) rfl) (fun ls hl => ?_)
  refine fs_Jlp2 (nL := 4) (pc := 4) (rest := []) (I := fun (v1 : Int32) (v2 : Int32) => [(0, .ref a0), (1, .ref a1), (2, .int v1), (3, .int v2)]) (fun k4 hk4 v1 v2 ls hl => ?_) _ _ _ _ (lv_sub hl [2, 3, 1, 0] rfl)
  refine fs_lift (fun _ _ _ _ => lv_iload_n hx hb d_Layout_bytesFor_4 rfl (lv_at hl 3 rfl)) ?_
  refine fs_lift (fun _ _ _ _ => lv_aload_n hx hb d_Layout_bytesFor_5 rfl (lv_at hl 0 rfl)) ?_
  refine fs_Jgi S hG fs_in4 rfl 2 (Nat.le_of_ble_eq_true rfl) tw_1_86 (fun _ h9 => h9) d_Layout_bytesFor_6 (fun v3 => ?_)
  refine fs_if (fun _ _ _ _ => lv_icmp_ge hx hb d_Layout_bytesFor_9 rfl) ?_ ?_
  · refine fs_lift (fun _ _ _ _ => lv_iload_n hx hb d_Layout_bytesFor_54 rfl (lv_at hl 2 rfl)) ?_
    exact fs_Jiret S hr hk rfl d_Layout_bytesFor_55
  · refine fs_lift (fun _ _ _ _ => lv_iload_n hx hb d_Layout_bytesFor_12 rfl (lv_at hl 2 rfl)) ?_
    refine fs_lift (fun _ _ _ _ => lv_aload_n hx hb d_Layout_bytesFor_13 rfl (lv_at hl 0 rfl)) ?_
    refine fs_Jgr S hG fs_in4 rfl 1 (Nat.le_of_ble_eq_true rfl) tw_1_84 (fun _ h9 => h9) d_Layout_bytesFor_14 (fun r4 => ?_)
    refine fs_lift (fun _ _ _ _ => lv_iload_n hx hb d_Layout_bytesFor_17 rfl (lv_at hl 3 rfl)) ?_
    refine fs_Jai S hG d_Layout_bytesFor_18 (fun v5 => ?_)
    refine fs_Jlet1 (nL := 4) (pj := 46) (I := fun (v12 : Int32) => [(0, .ref a0), (1, .ref a1), (3, .int v2)]) (st := fun (v12 : Int32) => [.int v12, .int v1]) (fun v12 ls hl => ?_) (fun j46 hj46 => ?_)
    · refine fs_lift (fun _ _ _ _ => lv_iadd hx hb d_Layout_bytesFor_46) ?_
      refine fs_Jni (fun v13 => ?_)
      refine fs_liftL (fun _ _ _ _ => lv_istore_n (lv' := [(2, .int v13), (0, .ref a0), (1, .ref a1), (3, .int v2)]) hx hb d_Layout_bytesFor_47 rfl hl (Nat.le_of_ble_eq_true rfl) rfl) (fun ls hl => ?_)
      refine fs_Jnm (fun v14 hv9 => ?_)
      refine fs_liftL (fun _ _ _ _ => lv_iinc (k := 3) (v := v14) (lv' := [(3, .int v14), (2, .int v13), (0, .ref a0), (1, .ref a1)]) hx hb d_Layout_bytesFor_48 hl rfl (by rw [hv9]; rfl) (Nat.le_of_ble_eq_true rfl) rfl) (fun ls hl => ?_)
      refine fs_lift (fun _ _ _ _ => lv_goto hx hb d_Layout_bytesFor_51 rfl) ?_
      exact hk4 v13 v14 ls (lv_sub hl [2, 3, 1, 0] rfl)
    · refine fs_ifn (fun _ _ _ _ => lv_if_ne hx hb d_Layout_bytesFor_19 rfl) ?_ ?_
      · refine fs_lift (fun _ _ _ _ => lv_iconst (v := 1) hx hb d_Layout_bytesFor_22 (by decide)) ?_
        refine fs_lift (fun _ _ _ _ => lv_aload_n hx hb d_Layout_bytesFor_23 rfl (lv_at hl 1 rfl)) ?_
        refine fs_lift (fun _ _ _ _ => lv_aload_n hx hb d_Layout_bytesFor_24 rfl (lv_at hl 0 rfl)) ?_
        refine fs_Jgr S hG fs_in4 rfl 0 (Nat.le_of_ble_eq_true rfl) tw_1_82 (fun _ h9 => h9) d_Layout_bytesFor_25 (fun r8 => ?_)
        refine fs_lift (fun _ _ _ _ => lv_iload_n hx hb d_Layout_bytesFor_28 rfl (lv_at hl 3 rfl)) ?_
        refine fs_Jai S hG d_Layout_bytesFor_29 (fun v9 => ?_)
        refine fs_JV S hG hR rfl [.int v9] (enc := fun r => some (.int r)) (fun zr zs zt zh => m_Flow_valueOf X l a1 v9 zh) tw_4_34 tw_3_130 tw_3_131 tw_3_132 tw_1_23 q_Flow_valueOf ⟨(Nat.le_of_ble_eq_true rfl), (Nat.le_of_ble_eq_true rfl)⟩ hl.1 rfl (Nat.le_of_ble_eq_true rfl) d_Layout_bytesFor_30 (fun v10 => ?_)
        refine fs_Jeq (g2 := F0 m 33 ls [.int v10, .int 1, .int v1]) rfl ?_
        refine fs_JS S hG hR [.int v10] (enc := fun r => some (.int r)) (fun zr zs zt zh => m_Layout_fewestBytes X l v10 zh) tw_4_35 tw_4_36 tw_4_37 tw_1_7 q_Layout_fewestBytes ⟨(Nat.le_of_ble_eq_true rfl), (Nat.le_of_ble_eq_true rfl)⟩ hl.1 rfl (Nat.le_of_ble_eq_true rfl) d_Layout_bytesFor_33 (fun v11 => ?_)
        refine fs_Jeq (g2 := F0 m 36 ls [.int v11, .int 1, .int v1]) rfl ?_
        refine fs_lift (fun _ _ _ _ => lv_iadd hx hb d_Layout_bytesFor_36) ?_
        refine fs_lift (fun _ _ _ _ => lv_goto hx hb d_Layout_bytesFor_37 rfl) ?_
        exact hj46 (1 + v11) ls (lv_sub hl [0, 1, 3] rfl)
      · refine fs_lift (fun _ _ _ _ => lv_aload_n hx hb d_Layout_bytesFor_40 rfl (lv_at hl 0 rfl)) ?_
        refine fs_Jgr S hG fs_in4 rfl 1 (Nat.le_of_ble_eq_true rfl) tw_1_84 (fun _ h9 => h9) d_Layout_bytesFor_41 (fun r6 => ?_)
        refine fs_lift (fun _ _ _ _ => lv_iload_n hx hb d_Layout_bytesFor_44 rfl (lv_at hl 3 rfl)) ?_
        refine fs_Jai S hG d_Layout_bytesFor_45 (fun v7 => ?_)
        exact hj46 v7 ls (lv_sub hl [0, 1, 3] rfl)

theorem d_Exporter_recordsThatFit_0 : decode prog_4_method_16_code 0 = .ok (.aload_n 0, 1) := by decide +kernel
theorem d_Exporter_recordsThatFit_1 : decode prog_4_method_16_code 1 = .ok (.getfield 18, 3) := by decide +kernel
theorem d_Exporter_recordsThatFit_4 : decode prog_4_method_16_code 4 = .ok (.invokevirtual 37, 3) := by decide +kernel
theorem d_Exporter_recordsThatFit_7 : decode prog_4_method_16_code 7 = .ok (.bipush 100, 2) := by decide +kernel
theorem d_Exporter_recordsThatFit_9 : decode prog_4_method_16_code 9 = .ok (.aload_n 0, 1) := by decide +kernel
theorem d_Exporter_recordsThatFit_10 : decode prog_4_method_16_code 10 = .ok (.getfield 116, 3) := by decide +kernel
theorem d_Exporter_recordsThatFit_13 : decode prog_4_method_16_code 13 = .ok (.isub, 1) := by decide +kernel
theorem d_Exporter_recordsThatFit_14 : decode prog_4_method_16_code 14 = .ok (.invokestatic 162, 3) := by decide +kernel
theorem d_Exporter_recordsThatFit_17 : decode prog_4_method_16_code 17 = .ok (.istore_n 2, 1) := by decide +kernel
theorem d_Exporter_recordsThatFit_18 : decode prog_4_method_16_code 18 = .ok (.bipush 7, 2) := by decide +kernel
theorem d_Exporter_recordsThatFit_20 : decode prog_4_method_16_code 20 = .ok (.istore_n 3, 1) := by decide +kernel
theorem d_Exporter_recordsThatFit_21 : decode prog_4_method_16_code 21 = .ok (.iconst 0, 1) := by decide +kernel
theorem d_Exporter_recordsThatFit_22 : decode prog_4_method_16_code 22 = .ok (.istore 4, 2) := by decide +kernel
theorem d_Exporter_recordsThatFit_24 : decode prog_4_method_16_code 24 = .ok (.iload 4, 2) := by decide +kernel
theorem d_Exporter_recordsThatFit_26 : decode prog_4_method_16_code 26 = .ok (.iload_n 2, 1) := by decide +kernel
theorem d_Exporter_recordsThatFit_27 : decode prog_4_method_16_code 27 = .ok (.if_icmp .ge 37, 3) := by decide +kernel
theorem d_Exporter_recordsThatFit_30 : decode prog_4_method_16_code 30 = .ok (.iload_n 3, 1) := by decide +kernel
theorem d_Exporter_recordsThatFit_31 : decode prog_4_method_16_code 31 = .ok (.aload_n 1, 1) := by decide +kernel
theorem d_Exporter_recordsThatFit_32 : decode prog_4_method_16_code 32 = .ok (.aload_n 0, 1) := by decide +kernel
theorem d_Exporter_recordsThatFit_33 : decode prog_4_method_16_code 33 = .ok (.getfield 18, 3) := by decide +kernel
theorem d_Exporter_recordsThatFit_36 : decode prog_4_method_16_code 36 = .ok (.iload 4, 2) := by decide +kernel
theorem d_Exporter_recordsThatFit_38 : decode prog_4_method_16_code 38 = .ok (.invokevirtual 67, 3) := by decide +kernel
theorem d_Exporter_recordsThatFit_41 : decode prog_4_method_16_code 41 = .ok (.checkcast 55, 3) := by decide +kernel
theorem d_Exporter_recordsThatFit_44 : decode prog_4_method_16_code 44 = .ok (.invokevirtual 168, 3) := by decide +kernel
theorem d_Exporter_recordsThatFit_47 : decode prog_4_method_16_code 47 = .ok (.iadd, 1) := by decide +kernel
theorem d_Exporter_recordsThatFit_48 : decode prog_4_method_16_code 48 = .ok (.istore_n 3, 1) := by decide +kernel
theorem d_Exporter_recordsThatFit_49 : decode prog_4_method_16_code 49 = .ok (.iload_n 3, 1) := by decide +kernel
theorem d_Exporter_recordsThatFit_50 : decode prog_4_method_16_code 50 = .ok (.bipush 64, 2) := by decide +kernel
theorem d_Exporter_recordsThatFit_52 : decode prog_4_method_16_code 52 = .ok (.if_icmp .le 6, 3) := by decide +kernel
theorem d_Exporter_recordsThatFit_55 : decode prog_4_method_16_code 55 = .ok (.iload 4, 2) := by decide +kernel
theorem d_Exporter_recordsThatFit_57 : decode prog_4_method_16_code 57 = .ok (.ireturn, 1) := by decide +kernel
theorem d_Exporter_recordsThatFit_58 : decode prog_4_method_16_code 58 = .ok (.iinc 4 1, 3) := by decide +kernel
theorem d_Exporter_recordsThatFit_61 : decode prog_4_method_16_code 61 = .ok (.goto (-37), 3) := by decide +kernel
theorem d_Exporter_recordsThatFit_64 : decode prog_4_method_16_code 64 = .ok (.iload_n 2, 1) := by decide +kernel
theorem d_Exporter_recordsThatFit_65 : decode prog_4_method_16_code 65 = .ok (.ireturn, 1) := by decide +kernel
theorem q_Exporter_recordsThatFit : (⟨"FlowShelf$Exporter", "recordsThatFit", "(LFlowShelf$Layout;)I"⟩ : MethodName).cls ≠ "java/lang/invoke/MethodHandle" ∧ (⟨"FlowShelf$Exporter", "recordsThatFit", "(LFlowShelf$Layout;)I"⟩ : MethodName).cls ≠ "java/lang/invoke/VarHandle" ∧ (parseMethodDescriptor (⟨"FlowShelf$Exporter", "recordsThatFit", "(LFlowShelf$Layout;)I"⟩ : MethodName).desc).map (fun d => d.parameters.length) = some 1 := by decide +kernel
set_option maxHeartbeats 4000000 in
set_option maxRecDepth 100000 in
theorem m_Exporter_recordsThatFit (X : fs_X) (l : Launch) (a0 : Nat) (a1 : Nat) {r : Int32} {σ σF : fs_S} (h : (f_Exporter_recordsThatFit a0 a1).1 σ = some (r, σF)) : fs_Met X l ⟨"FlowShelf$Exporter", "recordsThatFit", "(LFlowShelf$Layout;)I"⟩ (Cond.code ⟨"FlowShelf$Exporter", "recordsThatFit", "(LFlowShelf$Layout;)I"⟩ prog_4_method_16_code 5 (some FieldType.int)) 3 64 [.ref a0, .ref a1] σ (fs_eI r) σF := by
  refine fs_ofW (by decide) ?_
  intro p e s m args below meth c s₁ B hml hT hv
  obtain ⟨rfl, hw0, hG⟩ := hv
  have hx := B.exec
  have hb := B.bytes
  have hr := B.returns
  have hk := B.notSynchronized
  have S : CallFix p m c prog_4_method_16_code 5 s _ fs_ws "FlowShelf$Exporter" := ⟨B.exec, B.bytes, hml, findClass_of_methodNamed B.named, fun w hw => atoms_spec (ws := _ :: fs_ws) B.pre w (List.mem_cons_of_mem _ hw)⟩
  have hR := fs_hR (fr := 3) (lo := 64) ((f_Exporter_recordsThatFit a0 a1).2 _ _ _ h)
  have hl := lv_entry ([.ref a0, .ref a1]) (n := 5) (Nat.le_of_ble_eq_true rfl)
  rw [lg_entry_eq]
  generalize (lg_sl ([.ref a0, .ref a1]) ++ List.replicate (5 - (lg_sl ([.ref a0, .ref a1])).length) Slot.unset).toArray = ls at hl ⊢
  have hl : lv_has ls 5 [(0, .ref a0), (1, .ref a1)] := hl
  refine (?_ : fs_J X p l e (fs_rm 3 64 σ σF) s m _ below meth c (fs_Q X below _ s (fs_eI r) σ σF) r σ σF (f_Exporter_recordsThatFit a0 a1) (F0 m 0 ls [])) σ s.heap [] 0 0 h hw0 va_S.rf rfl rfl
  clear h hw0
  unfold f_Exporter_recordsThatFit
  refine fs_lift (fun _ _ _ _ => lv_aload_n hx hb d_Exporter_recordsThatFit_0 rfl (lv_at hl 0 rfl)) ?_
  refine fs_Jgr S hG fs_in1 rfl 2 (Nat.le_of_ble_eq_true rfl) tw_1_128 (fun _ h9 => h9) d_Exporter_recordsThatFit_1 (fun r1 => ?_)
  refine fs_JV S hG hR rfl [] (enc := fun r => some (.int r)) (fun zr zs zt zh => m_ArrayList_size X l r1 zh) tw_2_145 tw_2_29 tw_2_30 tw_2_31 tw_1_5 q_ArrayList_size ⟨(Nat.le_of_ble_eq_true rfl), (Nat.le_of_ble_eq_true rfl)⟩ hl.1 rfl (Nat.le_of_ble_eq_true rfl) d_Exporter_recordsThatFit_4 (fun v2 => ?_)
  refine fs_Jeq (g2 := F0 m 7 ls [.int v2]) rfl ?_
  refine fs_lift (fun _ _ _ _ => lv_bipush (v := 100) hx hb d_Exporter_recordsThatFit_7 (by decide)) ?_
  refine fs_lift (fun _ _ _ _ => lv_aload_n hx hb d_Exporter_recordsThatFit_9 rfl (lv_at hl 0 rfl)) ?_
  refine fs_Jgi S hG fs_in1 rfl 9 (Nat.le_of_ble_eq_true rfl) tw_1_140 (fun _ h9 => h9) d_Exporter_recordsThatFit_10 (fun v3 => ?_)
  refine fs_lift (fun _ _ _ _ => lv_isub hx hb d_Exporter_recordsThatFit_13) ?_
  refine fs_Jmin S hR hl.1 tw_4_29 tw_3_16 tw_3_17 (Nat.le_of_ble_eq_true rfl) (Nat.le_of_ble_eq_true rfl) d_Exporter_recordsThatFit_14 ?_
  refine fs_Jeq (g2 := F0 m 17 ls [.int (fs_min v2 (100 - v3))]) rfl ?_
  refine fs_Jni (fun v4 => ?_)
  refine fs_liftL (fun _ _ _ _ => lv_istore_n (lv' := [(2, .int v4), (0, .ref a0), (1, .ref a1)]) hx hb d_Exporter_recordsThatFit_17 rfl hl (Nat.le_of_ble_eq_true rfl) rfl) (fun ls hl => ?_)
  refine fs_lift (fun _ _ _ _ => lv_bipush (v := 7) hx hb d_Exporter_recordsThatFit_18 (by decide)) ?_
  refine fs_liftL (fun _ _ _ _ => lv_istore_n (lv' := [(3, .int 7), (2, .int v4), (0, .ref a0), (1, .ref a1)]) hx hb d_Exporter_recordsThatFit_20 rfl hl (Nat.le_of_ble_eq_true rfl) rfl) (fun ls hl => ?_)
  refine fs_lift (fun _ _ _ _ => lv_iconst (v := 0) hx hb d_Exporter_recordsThatFit_21 (by decide)) ?_
  refine fs_liftL (fun _ _ _ _ => lv_istore (lv' := [(4, .int 0), (3, .int 7), (2, .int v4), (0, .ref a0), (1, .ref a1)]) hx hb d_Exporter_recordsThatFit_22 hl (Nat.le_of_ble_eq_true rfl) rfl) (fun ls hl => ?_)
  refine fs_Jlp2 (nL := 5) (pc := 24) (rest := []) (I := fun (v5 : Int32) (v6 : Int32) => [(0, .ref a0), (1, .ref a1), (2, .int v4), (3, .int v5), (4, .int v6)]) (fun k24 hk24 v5 v6 ls hl => ?_) _ _ _ _ (lv_sub hl [3, 4, 2, 1, 0] rfl)
  refine fs_lift (fun _ _ _ _ => lv_iload hx hb d_Exporter_recordsThatFit_24 (lv_at hl 4 rfl)) ?_
  refine fs_lift (fun _ _ _ _ => lv_iload_n hx hb d_Exporter_recordsThatFit_26 rfl (lv_at hl 2 rfl)) ?_
  refine fs_if (fun _ _ _ _ => lv_icmp_ge hx hb d_Exporter_recordsThatFit_27 rfl) ?_ ?_
  · refine fs_lift (fun _ _ _ _ => lv_iload_n hx hb d_Exporter_recordsThatFit_64 rfl (lv_at hl 2 rfl)) ?_
    exact fs_Jiret S hr hk rfl d_Exporter_recordsThatFit_65
  · refine fs_lift (fun _ _ _ _ => lv_iload_n hx hb d_Exporter_recordsThatFit_30 rfl (lv_at hl 3 rfl)) ?_
    refine fs_lift (fun _ _ _ _ => lv_aload_n hx hb d_Exporter_recordsThatFit_31 rfl (lv_at hl 1 rfl)) ?_
    refine fs_lift (fun _ _ _ _ => lv_aload_n hx hb d_Exporter_recordsThatFit_32 rfl (lv_at hl 0 rfl)) ?_
    refine fs_Jgr S hG fs_in1 rfl 2 (Nat.le_of_ble_eq_true rfl) tw_1_128 (fun _ h9 => h9) d_Exporter_recordsThatFit_33 (fun r7 => ?_)
    refine fs_lift (fun _ _ _ _ => lv_iload hx hb d_Exporter_recordsThatFit_36 (lv_at hl 4 rfl)) ?_
    refine fs_JV S hG hR rfl [.int v6] (enc := fun r => some (.ref r)) (fun zr zs zt zh => m_ArrayList_get X l r7 v6 zh) tw_2_174 tw_2_33 tw_2_34 tw_2_35 tw_1_5 q_ArrayList_get ⟨(Nat.le_of_ble_eq_true rfl), (Nat.le_of_ble_eq_true rfl)⟩ hl.1 rfl (Nat.le_of_ble_eq_true rfl) d_Exporter_recordsThatFit_38 (fun r8 => ?_)
    refine fs_Jeq (g2 := F0 m 41 ls [.ref r8, .ref a1, .int v5]) rfl ?_
    refine fs_Jck S hG rfl tw_2_175 tb_7_82 d_Exporter_recordsThatFit_41 ?_
    refine fs_JV S hG hR rfl [.ref r8] (enc := fun r => some (.int r)) (fun zr zs zt zh => m_Layout_bytesFor X l a1 r8 zh) tw_4_30 tw_4_31 tw_4_32 tw_4_33 tw_1_7 q_Layout_bytesFor ⟨(Nat.le_of_ble_eq_true rfl), (Nat.le_of_ble_eq_true rfl)⟩ hl.1 rfl (Nat.le_of_ble_eq_true rfl) d_Exporter_recordsThatFit_44 (fun v9 => ?_)
    refine fs_Jeq (g2 := F0 m 47 ls [.int v9, .int v5]) rfl ?_
    refine fs_lift (fun _ _ _ _ => lv_iadd hx hb d_Exporter_recordsThatFit_47) ?_
    refine fs_Jni (fun v10 => ?_)
    refine fs_liftL (fun _ _ _ _ => lv_istore_n (lv' := [(3, .int v10), (0, .ref a0), (1, .ref a1), (2, .int v4), (4, .int v6)]) hx hb d_Exporter_recordsThatFit_48 rfl hl (Nat.le_of_ble_eq_true rfl) rfl) (fun ls hl => ?_)
    refine fs_lift (fun _ _ _ _ => lv_iload_n hx hb d_Exporter_recordsThatFit_49 rfl (lv_at hl 0 rfl)) ?_
    refine fs_lift (fun _ _ _ _ => lv_bipush (v := 64) hx hb d_Exporter_recordsThatFit_50 (by decide)) ?_
    refine fs_if (fun _ _ _ _ => lv_icmp_le hx hb d_Exporter_recordsThatFit_52 rfl) ?_ ?_
    · refine fs_Jnm (fun v11 hv9 => ?_)
      refine fs_liftL (fun _ _ _ _ => lv_iinc (k := 4) (v := v11) (lv' := [(4, .int v11), (3, .int v10), (0, .ref a0), (1, .ref a1), (2, .int v4)]) hx hb d_Exporter_recordsThatFit_58 hl rfl (by rw [hv9]; rfl) (Nat.le_of_ble_eq_true rfl) rfl) (fun ls hl => ?_)
      refine fs_lift (fun _ _ _ _ => lv_goto hx hb d_Exporter_recordsThatFit_61 rfl) ?_
      exact hk24 v10 v11 ls (lv_sub hl [2, 3, 4, 1, 0] rfl)
    · refine fs_lift (fun _ _ _ _ => lv_iload hx hb d_Exporter_recordsThatFit_55 (lv_at hl 4 rfl)) ?_
      exact fs_Jiret S hr hk rfl d_Exporter_recordsThatFit_57

