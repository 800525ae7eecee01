/-! contracts of methods, walked by program -/
theorem d_Rf_noTemplate_0 : decode prog_13_method_12_code 0 = .ok (.aload_n 0, 1) := by decide +kernel
theorem d_Rf_noTemplate_1 : decode prog_13_method_12_code 1 = .ok (.iload_n 1, 1) := by decide +kernel
theorem d_Rf_noTemplate_2 : decode prog_13_method_12_code 2 = .ok (.invokevirtual 146, 3) := by decide +kernel
theorem d_Rf_noTemplate_5 : decode prog_13_method_12_code 5 = .ok (.ifCond .ne 12, 3) := by decide +kernel
theorem d_Rf_noTemplate_8 : decode prog_13_method_12_code 8 = .ok (.iload_n 2, 1) := by decide +kernel
theorem d_Rf_noTemplate_9 : decode prog_13_method_12_code 9 = .ok (.ifCond .lt 8, 3) := by decide +kernel
theorem d_Rf_noTemplate_12 : decode prog_13_method_12_code 12 = .ok (.iload_n 2, 1) := by decide +kernel
theorem d_Rf_noTemplate_13 : decode prog_13_method_12_code 13 = .ok (.iconst 2, 1) := by decide +kernel
theorem d_Rf_noTemplate_14 : decode prog_13_method_12_code 14 = .ok (.if_icmp .le 7, 3) := by decide +kernel
theorem d_Rf_noTemplate_17 : decode prog_13_method_12_code 17 = .ok (.iconst 1, 1) := by decide +kernel
theorem d_Rf_noTemplate_18 : decode prog_13_method_12_code 18 = .ok (.goto 4, 3) := by decide +kernel
theorem d_Rf_noTemplate_21 : decode prog_13_method_12_code 21 = .ok (.iconst 0, 1) := by decide +kernel
theorem d_Rf_noTemplate_22 : decode prog_13_method_12_code 22 = .ok (.ireturn, 1) := by decide +kernel
theorem q_Rf_noTemplate : (⟨"FlowShelfModel", "noTemplate", "(II)Z"⟩ : MethodName).cls ≠ "java/lang/invoke/MethodHandle" ∧ (⟨"FlowShelfModel", "noTemplate", "(II)Z"⟩ : MethodName).cls ≠ "java/lang/invoke/VarHandle" ∧ (parseMethodDescriptor (⟨"FlowShelfModel", "noTemplate", "(II)Z"⟩ : MethodName).desc).map (fun d => d.parameters.length) = some 2 := by decide +kernel
set_option maxHeartbeats 4000000 in
set_option maxRecDepth 100000 in
theorem m_Rf_noTemplate (X : fs_X) (l : Launch) (a0 : Nat) (x1 : Int32) (x2 : Int32) {r : Int32} {σ σF : fs_S} (h : (f_Rf_noTemplate a0 x1 x2).1 σ = some (r, σF)) : fs_Met X l ⟨"FlowShelfModel", "noTemplate", "(II)Z"⟩ (Cond.code ⟨"FlowShelfModel", "noTemplate", "(II)Z"⟩ prog_13_method_12_code 3 (some FieldType.boolean)) 1 21 [.ref a0, .int x1, .int x2] σ (fs_eI r) σF := by
  refine fs_ofW (by decide) ?_
  intro p e s m args below meth c s₁ B hml hT hv
  obtain ⟨rfl, hw0, hG⟩ := hv
  have hx := B.exec
  have hb := B.bytes
  have hr := B.returns
  have hk := B.notSynchronized
  have S : CallFix p m c prog_13_method_12_code 3 s _ fs_ws "FlowShelfModel" := ⟨B.exec, B.bytes, hml, findClass_of_methodNamed B.named, fun w hw => atoms_spec (ws := _ :: fs_ws) B.pre w (List.mem_cons_of_mem _ hw)⟩
  have hR := fs_hR (fr := 1) (lo := 21) ((f_Rf_noTemplate a0 x1 x2).2 _ _ _ h)
  have hl := lv_entry ([.ref a0, .int x1, .int x2]) (n := 3) (Nat.le_of_ble_eq_true rfl)
  rw [lg_entry_eq]
  generalize (lg_sl ([.ref a0, .int x1, .int x2]) ++ List.replicate (3 - (lg_sl ([.ref a0, .int x1, .int x2])).length) Slot.unset).toArray = ls at hl ⊢
  have hl : lv_has ls 3 [(0, .ref a0), (1, .int x1), (2, .int x2)] := hl
  refine (?_ : fs_J X p l e (fs_rm 1 21 σ σF) s m _ below meth c (fs_Q X below _ s (fs_eI r) σ σF) r σ σF (f_Rf_noTemplate a0 x1 x2) (F0 m 0 ls [])) σ s.heap [] 0 0 h hw0 va_S.rf rfl rfl
  clear h hw0
  unfold f_Rf_noTemplate
  refine fs_lift (fun _ _ _ _ => lv_aload_n hx hb d_Rf_noTemplate_0 rfl (lv_at hl 0 rfl)) ?_
  refine fs_lift (fun _ _ _ _ => lv_iload_n hx hb d_Rf_noTemplate_1 rfl (lv_at hl 1 rfl)) ?_
  refine fs_JV S hG hR rfl [.int x1] (enc := fun r => some (.int r)) (fun zr zs zt zh => m_Rf_noExporter X l a0 x1 zh) tw_6_111 tw_6_113 tp_1_13 tw_6_114 tw_1_11 q_Rf_noExporter ⟨(Nat.le_of_ble_eq_true rfl), (Nat.le_of_ble_eq_true rfl)⟩ hl.1 rfl (Nat.le_of_ble_eq_true rfl) d_Rf_noTemplate_2 (fun v1 => ?_)
  refine fs_Jeq (g2 := F0 m 5 ls [.int v1]) rfl ?_
  refine fs_ifn (fun _ _ _ _ => lv_if_ne hx hb d_Rf_noTemplate_5 rfl) ?_ ?_
  · refine fs_lift (fun _ _ _ _ => lv_iload_n hx hb d_Rf_noTemplate_8 rfl (lv_at hl 2 rfl)) ?_
    refine fs_if (fun _ _ _ _ => lv_if_lt hx hb d_Rf_noTemplate_9 rfl) ?_ ?_
    · refine fs_lift (fun _ _ _ _ => lv_iconst (v := 1) hx hb d_Rf_noTemplate_17 (by decide)) ?_
      refine fs_lift (fun _ _ _ _ => lv_goto hx hb d_Rf_noTemplate_18 rfl) ?_
      exact fs_Jzret S hr hk rfl d_Rf_noTemplate_22
    · refine fs_lift (fun _ _ _ _ => lv_iload_n hx hb d_Rf_noTemplate_12 rfl (lv_at hl 2 rfl)) ?_
      refine fs_lift (fun _ _ _ _ => lv_iconst (v := 2) hx hb d_Rf_noTemplate_13 (by decide)) ?_
      refine fs_if (fun _ _ _ _ => lv_icmp_le hx hb d_Rf_noTemplate_14 rfl) ?_ ?_
      · refine fs_lift (fun _ _ _ _ => lv_iconst (v := 0) hx hb d_Rf_noTemplate_21 (by decide)) ?_
        exact fs_Jzret S hr hk rfl d_Rf_noTemplate_22
      · refine fs_lift (fun _ _ _ _ => lv_iconst (v := 1) hx hb d_Rf_noTemplate_17 (by decide)) ?_
        refine fs_lift (fun _ _ _ _ => lv_goto hx hb d_Rf_noTemplate_18 rfl) ?_
        exact fs_Jzret S hr hk rfl d_Rf_noTemplate_22
  · refine fs_lift (fun _ _ _ _ => lv_iconst (v := 1) hx hb d_Rf_noTemplate_17 (by decide)) ?_
    refine fs_lift (fun _ _ _ _ => lv_goto hx hb d_Rf_noTemplate_18 rfl) ?_
    exact fs_Jzret S hr hk rfl d_Rf_noTemplate_22

theorem d_Rf_leastOf_0 : decode prog_13_method_13_code 0 = .ok (.iload_n 1, 1) := by decide +kernel
theorem d_Rf_leastOf_1 : decode prog_13_method_13_code 1 = .ok (.iconst 3, 1) := by decide +kernel
theorem d_Rf_leastOf_2 : decode prog_13_method_13_code 2 = .ok (.if_icmp .ne 7, 3) := by decide +kernel
theorem d_Rf_leastOf_5 : decode prog_13_method_13_code 5 = .ok (.iconst 3, 1) := by decide +kernel
theorem d_Rf_leastOf_6 : decode prog_13_method_13_code 6 = .ok (.goto 19, 3) := by decide +kernel
theorem d_Rf_leastOf_9 : decode prog_13_method_13_code 9 = .ok (.iload_n 1, 1) := by decide +kernel
theorem d_Rf_leastOf_10 : decode prog_13_method_13_code 10 = .ok (.iconst 3, 1) := by decide +kernel
theorem d_Rf_leastOf_11 : decode prog_13_method_13_code 11 = .ok (.if_icmp .le 13, 3) := by decide +kernel
theorem d_Rf_leastOf_14 : decode prog_13_method_13_code 14 = .ok (.iload_n 1, 1) := by decide +kernel
theorem d_Rf_leastOf_15 : decode prog_13_method_13_code 15 = .ok (.bipush 7, 2) := by decide +kernel
theorem d_Rf_leastOf_17 : decode prog_13_method_13_code 17 = .ok (.if_icmp .ge 7, 3) := by decide +kernel
theorem d_Rf_leastOf_20 : decode prog_13_method_13_code 20 = .ok (.iconst 2, 1) := by decide +kernel
theorem d_Rf_leastOf_21 : decode prog_13_method_13_code 21 = .ok (.goto 4, 3) := by decide +kernel
theorem d_Rf_leastOf_24 : decode prog_13_method_13_code 24 = .ok (.iconst 1, 1) := by decide +kernel
theorem d_Rf_leastOf_25 : decode prog_13_method_13_code 25 = .ok (.ireturn, 1) := by decide +kernel
theorem q_Rf_leastOf : (⟨"FlowShelfModel", "leastOf", "(I)I"⟩ : MethodName).cls ≠ "java/lang/invoke/MethodHandle" ∧ (⟨"FlowShelfModel", "leastOf", "(I)I"⟩ : MethodName).cls ≠ "java/lang/invoke/VarHandle" ∧ (parseMethodDescriptor (⟨"FlowShelfModel", "leastOf", "(I)I"⟩ : MethodName).desc).map (fun d => d.parameters.length) = some 1 := by decide +kernel
set_option maxHeartbeats 4000000 in
set_option maxRecDepth 100000 in
theorem m_Rf_leastOf (X : fs_X) (l : Launch) (a0 : Nat) (x1 : Int32) {r : Int32} {σ σF : fs_S} (h : (f_Rf_leastOf a0 x1).1 σ = some (r, σF)) : fs_Met X l ⟨"FlowShelfModel", "leastOf", "(I)I"⟩ (Cond.code ⟨"FlowShelfModel", "leastOf", "(I)I"⟩ prog_13_method_13_code 2 (some FieldType.int)) 0 0 [.ref a0, .int x1] σ (fs_eI r) σF := by
  refine fs_ofW (by decide) ?_
  intro p e s m args below meth c s₁ B hml hT hv
  obtain ⟨rfl, hw0, hG⟩ := hv
  have hx := B.exec
  have hb := B.bytes
  have hr := B.returns
  have hk := B.notSynchronized
  have S : CallFix p m c prog_13_method_13_code 2 s _ fs_ws "FlowShelfModel" := ⟨B.exec, B.bytes, hml, findClass_of_methodNamed B.named, fun w hw => atoms_spec (ws := _ :: fs_ws) B.pre w (List.mem_cons_of_mem _ hw)⟩
  have hR := fs_hR (fr := 0) (lo := 0) ((f_Rf_leastOf a0 x1).2 _ _ _ h)
  have hl := lv_entry ([.ref a0, .int x1]) (n := 2) (Nat.le_of_ble_eq_true rfl)
  rw [lg_entry_eq]
  generalize (lg_sl ([.ref a0, .int x1]) ++ List.replicate (2 - (lg_sl ([.ref a0, .int x1])).length) Slot.unset).toArray = ls at hl ⊢
  have hl : lv_has ls 2 [(0, .ref a0), (1, .int x1)] := hl
  refine (?_ : fs_J X p l e (fs_rm 0 0 σ σF) s m _ below meth c (fs_Q X below _ s (fs_eI r) σ σF) r σ σF (f_Rf_leastOf a0 x1) (F0 m 0 ls [])) σ s.heap [] 0 0 h hw0 va_S.rf rfl rfl
  clear h hw0
  unfold f_Rf_leastOf
  refine fs_lift (fun _ _ _ _ => lv_iload_n hx hb d_Rf_leastOf_0 rfl (lv_at hl 1 rfl)) ?_
  refine fs_lift (fun _ _ _ _ => lv_iconst (v := 3) hx hb d_Rf_leastOf_1 (by decide)) ?_
  refine fs_ifn (fun _ _ _ _ => lv_icmp_ne hx hb d_Rf_leastOf_2 rfl) ?_ ?_
  · refine fs_lift (fun _ _ _ _ => lv_iconst (v := 3) hx hb d_Rf_leastOf_5 (by decide)) ?_
    refine fs_lift (fun _ _ _ _ => lv_goto hx hb d_Rf_leastOf_6 rfl) ?_
    exact fs_Jiret S hr hk rfl d_Rf_leastOf_25
  · refine fs_lift (fun _ _ _ _ => lv_iload_n hx hb d_Rf_leastOf_9 rfl (lv_at hl 1 rfl)) ?_
    refine fs_lift (fun _ _ _ _ => lv_iconst (v := 3) hx hb d_Rf_leastOf_10 (by decide)) ?_
    refine fs_if (fun _ _ _ _ => lv_icmp_le hx hb d_Rf_leastOf_11 rfl) ?_ ?_
    · refine fs_lift (fun _ _ _ _ => lv_iconst (v := 1) hx hb d_Rf_leastOf_24 (by decide)) ?_
      exact fs_Jiret S hr hk rfl d_Rf_leastOf_25
    · refine fs_lift (fun _ _ _ _ => lv_iload_n hx hb d_Rf_leastOf_14 rfl (lv_at hl 1 rfl)) ?_
      refine fs_lift (fun _ _ _ _ => lv_bipush (v := 7) hx hb d_Rf_leastOf_15 (by decide)) ?_
      refine fs_if (fun _ _ _ _ => lv_icmp_ge hx hb d_Rf_leastOf_17 rfl) ?_ ?_
      · refine fs_lift (fun _ _ _ _ => lv_iconst (v := 1) hx hb d_Rf_leastOf_24 (by decide)) ?_
        exact fs_Jiret S hr hk rfl d_Rf_leastOf_25
      · refine fs_lift (fun _ _ _ _ => lv_iconst (v := 2) hx hb d_Rf_leastOf_20 (by decide)) ?_
        refine fs_lift (fun _ _ _ _ => lv_goto hx hb d_Rf_leastOf_21 rfl) ?_
        exact fs_Jiret S hr hk rfl d_Rf_leastOf_25

theorem d_Rf_field_0 : decode prog_13_method_14_code 0 = .ok (.aload_n 0, 1) := by decide +kernel
theorem d_Rf_field_1 : decode prog_13_method_14_code 1 = .ok (.iload_n 1, 1) := by decide +kernel
theorem d_Rf_field_2 : decode prog_13_method_14_code 2 = .ok (.iload_n 2, 1) := by decide +kernel
theorem d_Rf_field_3 : decode prog_13_method_14_code 3 = .ok (.invokevirtual 157, 3) := by decide +kernel
theorem d_Rf_field_6 : decode prog_13_method_14_code 6 = .ok (.ifCond .ne 39, 3) := by decide +kernel
theorem d_Rf_field_9 : decode prog_13_method_14_code 9 = .ok (.iload_n 3, 1) := by decide +kernel
theorem d_Rf_field_10 : decode prog_13_method_14_code 10 = .ok (.ifCond .lt 35, 3) := by decide +kernel
theorem d_Rf_field_13 : decode prog_13_method_14_code 13 = .ok (.iload_n 3, 1) := by decide +kernel
theorem d_Rf_field_14 : decode prog_13_method_14_code 14 = .ok (.bipush 7, 2) := by decide +kernel
theorem d_Rf_field_16 : decode prog_13_method_14_code 16 = .ok (.if_icmp .gt 29, 3) := by decide +kernel
theorem d_Rf_field_19 : decode prog_13_method_14_code 19 = .ok (.iload 4, 2) := by decide +kernel
theorem d_Rf_field_21 : decode prog_13_method_14_code 21 = .ok (.ifCond .lt 24, 3) := by decide +kernel
theorem d_Rf_field_24 : decode prog_13_method_14_code 24 = .ok (.iload 4, 2) := by decide +kernel
theorem d_Rf_field_26 : decode prog_13_method_14_code 26 = .ok (.iconst 4, 1) := by decide +kernel
theorem d_Rf_field_27 : decode prog_13_method_14_code 27 = .ok (.if_icmp .gt 18, 3) := by decide +kernel
theorem d_Rf_field_30 : decode prog_13_method_14_code 30 = .ok (.iload 4, 2) := by decide +kernel
theorem d_Rf_field_32 : decode prog_13_method_14_code 32 = .ok (.ifCond .le 17, 3) := by decide +kernel
theorem d_Rf_field_35 : decode prog_13_method_14_code 35 = .ok (.iload 4, 2) := by decide +kernel
theorem d_Rf_field_37 : decode prog_13_method_14_code 37 = .ok (.aload_n 0, 1) := by decide +kernel
theorem d_Rf_field_38 : decode prog_13_method_14_code 38 = .ok (.iload_n 3, 1) := by decide +kernel
theorem d_Rf_field_39 : decode prog_13_method_14_code 39 = .ok (.invokevirtual 161, 3) := by decide +kernel
theorem d_Rf_field_42 : decode prog_13_method_14_code 42 = .ok (.if_icmp .ge 7, 3) := by decide +kernel
theorem d_Rf_field_45 : decode prog_13_method_14_code 45 = .ok (.iconst 1, 1) := by decide +kernel
theorem d_Rf_field_46 : decode prog_13_method_14_code 46 = .ok (.goto 4, 3) := by decide +kernel
theorem d_Rf_field_49 : decode prog_13_method_14_code 49 = .ok (.iconst 0, 1) := by decide +kernel
theorem d_Rf_field_50 : decode prog_13_method_14_code 50 = .ok (.istore 5, 2) := by decide +kernel
theorem d_Rf_field_52 : decode prog_13_method_14_code 52 = .ok (.aload_n 0, 1) := by decide +kernel
theorem d_Rf_field_53 : decode prog_13_method_14_code 53 = .ok (.iload 5, 2) := by decide +kernel
theorem d_Rf_field_55 : decode prog_13_method_14_code 55 = .ok (.ifCond .eq 7, 3) := by decide +kernel
theorem d_Rf_field_58 : decode prog_13_method_14_code 58 = .ok (.iconst 1, 1) := by decide +kernel
theorem d_Rf_field_59 : decode prog_13_method_14_code 59 = .ok (.goto 4, 3) := by decide +kernel
theorem d_Rf_field_62 : decode prog_13_method_14_code 62 = .ok (.iconst 0, 1) := by decide +kernel
theorem d_Rf_field_63 : decode prog_13_method_14_code 63 = .ok (.putfield 138, 3) := by decide +kernel
theorem d_Rf_field_66 : decode prog_13_method_14_code 66 = .ok (.iload 5, 2) := by decide +kernel
theorem d_Rf_field_68 : decode prog_13_method_14_code 68 = .ok (.ifCond .eq 5, 3) := by decide +kernel
theorem d_Rf_field_71 : decode prog_13_method_14_code 71 = .ok (.iconst 0, 1) := by decide +kernel
theorem d_Rf_field_72 : decode prog_13_method_14_code 72 = .ok (.ireturn, 1) := by decide +kernel
theorem d_Rf_field_73 : decode prog_13_method_14_code 73 = .ok (.iconst 3, 1) := by decide +kernel
theorem d_Rf_field_74 : decode prog_13_method_14_code 74 = .ok (.iload_n 1, 1) := by decide +kernel
theorem d_Rf_field_75 : decode prog_13_method_14_code 75 = .ok (.imul, 1) := by decide +kernel
theorem d_Rf_field_76 : decode prog_13_method_14_code 76 = .ok (.iload_n 2, 1) := by decide +kernel
theorem d_Rf_field_77 : decode prog_13_method_14_code 77 = .ok (.iadd, 1) := by decide +kernel
theorem d_Rf_field_78 : decode prog_13_method_14_code 78 = .ok (.istore 6, 2) := by decide +kernel
theorem d_Rf_field_80 : decode prog_13_method_14_code 80 = .ok (.iconst 0, 1) := by decide +kernel
theorem d_Rf_field_81 : decode prog_13_method_14_code 81 = .ok (.istore 7, 2) := by decide +kernel
theorem d_Rf_field_83 : decode prog_13_method_14_code 83 = .ok (.iload 7, 2) := by decide +kernel
theorem d_Rf_field_85 : decode prog_13_method_14_code 85 = .ok (.aload_n 0, 1) := by decide +kernel
theorem d_Rf_field_86 : decode prog_13_method_14_code 86 = .ok (.getfield 52, 3) := by decide +kernel
theorem d_Rf_field_89 : decode prog_13_method_14_code 89 = .ok (.iload 6, 2) := by decide +kernel
theorem d_Rf_field_91 : decode prog_13_method_14_code 91 = .ok (.iaload, 1) := by decide +kernel
theorem d_Rf_field_92 : decode prog_13_method_14_code 92 = .ok (.if_icmp .ge 38, 3) := by decide +kernel
theorem d_Rf_field_95 : decode prog_13_method_14_code 95 = .ok (.aload_n 0, 1) := by decide +kernel
theorem d_Rf_field_96 : decode prog_13_method_14_code 96 = .ok (.aload_n 0, 1) := by decide +kernel
theorem d_Rf_field_97 : decode prog_13_method_14_code 97 = .ok (.getfield 55, 3) := by decide +kernel
theorem d_Rf_field_100 : decode prog_13_method_14_code 100 = .ok (.bipush 8, 2) := by decide +kernel
theorem d_Rf_field_102 : decode prog_13_method_14_code 102 = .ok (.iload 6, 2) := by decide +kernel
theorem d_Rf_field_104 : decode prog_13_method_14_code 104 = .ok (.imul, 1) := by decide +kernel
theorem d_Rf_field_105 : decode prog_13_method_14_code 105 = .ok (.iload 7, 2) := by decide +kernel
theorem d_Rf_field_107 : decode prog_13_method_14_code 107 = .ok (.iadd, 1) := by decide +kernel
theorem d_Rf_field_108 : decode prog_13_method_14_code 108 = .ok (.iaload, 1) := by decide +kernel
theorem d_Rf_field_109 : decode prog_13_method_14_code 109 = .ok (.iload_n 3, 1) := by decide +kernel
theorem d_Rf_field_110 : decode prog_13_method_14_code 110 = .ok (.if_icmp .ne 7, 3) := by decide +kernel
theorem d_Rf_field_113 : decode prog_13_method_14_code 113 = .ok (.iconst 2, 1) := by decide +kernel
theorem d_Rf_field_114 : decode prog_13_method_14_code 114 = .ok (.goto 7, 3) := by decide +kernel
theorem d_Rf_field_117 : decode prog_13_method_14_code 117 = .ok (.aload_n 0, 1) := by decide +kernel
theorem d_Rf_field_118 : decode prog_13_method_14_code 118 = .ok (.getfield 138, 3) := by decide +kernel
theorem d_Rf_field_121 : decode prog_13_method_14_code 121 = .ok (.putfield 138, 3) := by decide +kernel
theorem d_Rf_field_124 : decode prog_13_method_14_code 124 = .ok (.iinc 7 1, 3) := by decide +kernel
theorem d_Rf_field_127 : decode prog_13_method_14_code 127 = .ok (.goto (-44), 3) := by decide +kernel
theorem d_Rf_field_130 : decode prog_13_method_14_code 130 = .ok (.aload_n 0, 1) := by decide +kernel
theorem d_Rf_field_131 : decode prog_13_method_14_code 131 = .ok (.getfield 138, 3) := by decide +kernel
theorem d_Rf_field_134 : decode prog_13_method_14_code 134 = .ok (.ifCond .eq 5, 3) := by decide +kernel
theorem d_Rf_field_137 : decode prog_13_method_14_code 137 = .ok (.iconst 0, 1) := by decide +kernel
theorem d_Rf_field_138 : decode prog_13_method_14_code 138 = .ok (.ireturn, 1) := by decide +kernel
theorem d_Rf_field_139 : decode prog_13_method_14_code 139 = .ok (.aload_n 0, 1) := by decide +kernel
theorem d_Rf_field_140 : decode prog_13_method_14_code 140 = .ok (.getfield 55, 3) := by decide +kernel
theorem d_Rf_field_143 : decode prog_13_method_14_code 143 = .ok (.bipush 8, 2) := by decide +kernel
theorem d_Rf_field_145 : decode prog_13_method_14_code 145 = .ok (.iload 6, 2) := by decide +kernel
theorem d_Rf_field_147 : decode prog_13_method_14_code 147 = .ok (.imul, 1) := by decide +kernel
theorem d_Rf_field_148 : decode prog_13_method_14_code 148 = .ok (.aload_n 0, 1) := by decide +kernel
theorem d_Rf_field_149 : decode prog_13_method_14_code 149 = .ok (.getfield 52, 3) := by decide +kernel
theorem d_Rf_field_152 : decode prog_13_method_14_code 152 = .ok (.iload 6, 2) := by decide +kernel
theorem d_Rf_field_154 : decode prog_13_method_14_code 154 = .ok (.iaload, 1) := by decide +kernel
theorem d_Rf_field_155 : decode prog_13_method_14_code 155 = .ok (.iadd, 1) := by decide +kernel
theorem d_Rf_field_156 : decode prog_13_method_14_code 156 = .ok (.iload_n 3, 1) := by decide +kernel
theorem d_Rf_field_157 : decode prog_13_method_14_code 157 = .ok (.iastore, 1) := by decide +kernel
theorem d_Rf_field_158 : decode prog_13_method_14_code 158 = .ok (.aload_n 0, 1) := by decide +kernel
theorem d_Rf_field_159 : decode prog_13_method_14_code 159 = .ok (.getfield 58, 3) := by decide +kernel
theorem d_Rf_field_162 : decode prog_13_method_14_code 162 = .ok (.bipush 8, 2) := by decide +kernel
theorem d_Rf_field_164 : decode prog_13_method_14_code 164 = .ok (.iload 6, 2) := by decide +kernel
theorem d_Rf_field_166 : decode prog_13_method_14_code 166 = .ok (.imul, 1) := by decide +kernel
theorem d_Rf_field_167 : decode prog_13_method_14_code 167 = .ok (.aload_n 0, 1) := by decide +kernel
theorem d_Rf_field_168 : decode prog_13_method_14_code 168 = .ok (.getfield 52, 3) := by decide +kernel
theorem d_Rf_field_171 : decode prog_13_method_14_code 171 = .ok (.iload 6, 2) := by decide +kernel
theorem d_Rf_field_173 : decode prog_13_method_14_code 173 = .ok (.iaload, 1) := by decide +kernel
theorem d_Rf_field_174 : decode prog_13_method_14_code 174 = .ok (.iadd, 1) := by decide +kernel
theorem d_Rf_field_175 : decode prog_13_method_14_code 175 = .ok (.iload 4, 2) := by decide +kernel
theorem d_Rf_field_177 : decode prog_13_method_14_code 177 = .ok (.iastore, 1) := by decide +kernel
theorem d_Rf_field_178 : decode prog_13_method_14_code 178 = .ok (.aload_n 0, 1) := by decide +kernel
theorem d_Rf_field_179 : decode prog_13_method_14_code 179 = .ok (.getfield 52, 3) := by decide +kernel
theorem d_Rf_field_182 : decode prog_13_method_14_code 182 = .ok (.iload 6, 2) := by decide +kernel
theorem d_Rf_field_184 : decode prog_13_method_14_code 184 = .ok (.dup2, 1) := by decide +kernel
theorem d_Rf_field_185 : decode prog_13_method_14_code 185 = .ok (.iaload, 1) := by decide +kernel
theorem d_Rf_field_186 : decode prog_13_method_14_code 186 = .ok (.iconst 1, 1) := by decide +kernel
theorem d_Rf_field_187 : decode prog_13_method_14_code 187 = .ok (.iadd, 1) := by decide +kernel
theorem d_Rf_field_188 : decode prog_13_method_14_code 188 = .ok (.iastore, 1) := by decide +kernel
theorem d_Rf_field_189 : decode prog_13_method_14_code 189 = .ok (.aload_n 0, 1) := by decide +kernel
theorem d_Rf_field_190 : decode prog_13_method_14_code 190 = .ok (.getfield 52, 3) := by decide +kernel
theorem d_Rf_field_193 : decode prog_13_method_14_code 193 = .ok (.iload 6, 2) := by decide +kernel
theorem d_Rf_field_195 : decode prog_13_method_14_code 195 = .ok (.iaload, 1) := by decide +kernel
theorem d_Rf_field_196 : decode prog_13_method_14_code 196 = .ok (.ireturn, 1) := by decide +kernel
theorem q_Rf_field : (⟨"FlowShelfModel", "field", "(IIII)I"⟩ : MethodName).cls ≠ "java/lang/invoke/MethodHandle" ∧ (⟨"FlowShelfModel", "field", "(IIII)I"⟩ : MethodName).cls ≠ "java/lang/invoke/VarHandle" ∧ (parseMethodDescriptor (⟨"FlowShelfModel", "field", "(IIII)I"⟩ : MethodName).desc).map (fun d => d.parameters.length) = some 4 := by decide +kernel
set_option maxHeartbeats 4000000 in
set_option maxRecDepth 100000 in
theorem m_Rf_field (X : fs_X) (l : Launch) (a0 : Nat) (x1 : Int32) (x2 : Int32) (x3 : Int32) (x4 : Int32) {r : Int32} {σ σF : fs_S} (h : (f_Rf_field a0 x1 x2 x3 x4).1 σ = some (r, σF)) : fs_Met X l ⟨"FlowShelfModel", "field", "(IIII)I"⟩ (Cond.code ⟨"FlowShelfModel", "field", "(IIII)I"⟩ prog_13_method_14_code 8 (some FieldType.int)) 2 43 [.ref a0, .int x1, .int x2, .int x3, .int x4] σ (fs_eI r) σF := by
  refine fs_ofW (by decide) ?_
  intro p e s m args below meth c s₁ B hml hT hv
  obtain ⟨rfl, hw0, hG⟩ := hv
  have hx := B.exec
  have hb := B.bytes
  have hr := B.returns
  have hk := B.notSynchronized
  have S : CallFix p m c prog_13_method_14_code 8 s _ fs_ws "FlowShelfModel" := ⟨B.exec, B.bytes, hml, findClass_of_methodNamed B.named, fun w hw => atoms_spec (ws := _ :: fs_ws) B.pre w (List.mem_cons_of_mem _ hw)⟩
  have hR := fs_hR (fr := 2) (lo := 43) ((f_Rf_field a0 x1 x2 x3 x4).2 _ _ _ h)
  have hl := lv_entry ([.ref a0, .int x1, .int x2, .int x3, .int x4]) (n := 8) (Nat.le_of_ble_eq_true rfl)
  rw [lg_entry_eq]
  generalize (lg_sl ([.ref a0, .int x1, .int x2, .int x3, .int x4]) ++ List.replicate (8 - (lg_sl ([.ref a0, .int x1, .int x2, .int x3, .int x4])).length) Slot.unset).toArray = ls at hl ⊢
  have hl : lv_has ls 8 [(0, .ref a0), (1, .int x1), (2, .int x2), (3, .int x3), (4, .int x4)] := hl
  refine (?_ : fs_J X p l e (fs_rm 2 43 σ σF) s m _ below meth c (fs_Q X below _ s (fs_eI r) σ σF) r σ σF (f_Rf_field a0 x1 x2 x3 x4) (F0 m 0 ls [])) σ s.heap [] 0 0 h hw0 va_S.rf rfl rfl
  clear h hw0
  unfold f_Rf_field
  refine fs_lift (fun _ _ _ _ => lv_aload_n hx hb d_Rf_field_0 rfl (lv_at hl 0 rfl)) ?_
  refine fs_lift (fun _ _ _ _ => lv_iload_n hx hb d_Rf_field_1 rfl (lv_at hl 1 rfl)) ?_
  refine fs_lift (fun _ _ _ _ => lv_iload_n hx hb d_Rf_field_2 rfl (lv_at hl 2 rfl)) ?_
  refine fs_JV S hG hR rfl [.int x1, .int x2] (enc := fun r => some (.int r)) (fun zr zs zt zh => m_Rf_noTemplate X l a0 x1 x2 zh) tw_6_147 tw_6_149 tp_2_1 tw_6_150 tw_1_11 q_Rf_noTemplate ⟨(Nat.le_of_ble_eq_true rfl), (Nat.le_of_ble_eq_true rfl)⟩ hl.1 rfl (Nat.le_of_ble_eq_true rfl) d_Rf_field_3 (fun v1 => ?_)
  refine fs_Jeq (g2 := F0 m 6 ls [.int v1]) rfl ?_
  refine fs_Jlet1 (nL := 8) (pj := 50) (I := fun (v3 : Int32) => [(0, .ref a0), (1, .int x1), (2, .int x2), (3, .int x3), (4, .int x4)]) (st := fun (v3 : Int32) => [.int v3]) (fun v3 ls hl => ?_) (fun j50 hj50 => ?_)
  · refine fs_liftL (fun _ _ _ _ => lv_istore (lv' := [(5, .int v3), (0, .ref a0), (1, .int x1), (2, .int x2), (3, .int x3), (4, .int x4)]) hx hb d_Rf_field_50 hl (Nat.le_of_ble_eq_true rfl) rfl) (fun ls hl => ?_)
    refine fs_lift (fun _ _ _ _ => lv_aload_n hx hb d_Rf_field_52 rfl (lv_at hl 1 rfl)) ?_
    refine fs_lift (fun _ _ _ _ => lv_iload hx hb d_Rf_field_53 (lv_at hl 0 rfl)) ?_
    refine fs_Jlet1 (nL := 8) (pj := 63) (I := fun (v4 : Int32) => [(0, .ref a0), (1, .int x1), (2, .int x2), (3, .int x3), (4, .int x4), (5, .int v3)]) (st := fun (v4 : Int32) => [.int v4, .ref a0]) (fun v4 ls hl => ?_) (fun j63 hj63 => ?_)
    · refine fs_Jput S hG fs_in12 rfl 0 (Nat.le_of_ble_eq_true rfl) tw_5_192 (fun _ h9 => h9) fs_Y12 fs_ty12 fs_nm12 (Or.inl rfl) rfl rfl d_Rf_field_63 ?_
      refine fs_lift (fun _ _ _ _ => lv_iload hx hb d_Rf_field_66 (lv_at hl 5 rfl)) ?_
      refine fs_if (fun _ _ _ _ => lv_if_eq hx hb d_Rf_field_68 rfl) ?_ ?_
      · refine fs_lift (fun _ _ _ _ => lv_iconst (v := 3) hx hb d_Rf_field_73 (by decide)) ?_
        refine fs_lift (fun _ _ _ _ => lv_iload_n hx hb d_Rf_field_74 rfl (lv_at hl 1 rfl)) ?_
        refine fs_lift (fun _ _ _ _ => lv_imul hx hb d_Rf_field_75) ?_
        refine fs_lift (fun _ _ _ _ => lv_iload_n hx hb d_Rf_field_76 rfl (lv_at hl 2 rfl)) ?_
        refine fs_lift (fun _ _ _ _ => lv_iadd hx hb d_Rf_field_77) ?_
        refine fs_Jni (fun v5 => ?_)
        refine fs_liftL (fun _ _ _ _ => lv_istore (lv' := [(6, .int v5), (0, .ref a0), (1, .int x1), (2, .int x2), (3, .int x3), (4, .int x4), (5, .int v3)]) hx hb d_Rf_field_78 hl (Nat.le_of_ble_eq_true rfl) rfl) (fun ls hl => ?_)
        refine fs_lift (fun _ _ _ _ => lv_iconst (v := 0) hx hb d_Rf_field_80 (by decide)) ?_
        refine fs_liftL (fun _ _ _ _ => lv_istore (lv' := [(7, .int 0), (6, .int v5), (0, .ref a0), (1, .int x1), (2, .int x2), (3, .int x3), (4, .int x4), (5, .int v3)]) hx hb d_Rf_field_81 hl (Nat.le_of_ble_eq_true rfl) rfl) (fun ls hl => ?_)
        refine fs_Jlp1 (nL := 8) (pc := 83) (rest := []) (I := fun (v6 : Int32) => [(0, .ref a0), (3, .int x3), (4, .int x4), (6, .int v5), (7, .int v6)]) (fun k83 hk83 v6 ls hl => ?_) _ _ _ (lv_sub hl [2, 5, 6, 1, 0] rfl)
        refine fs_lift (fun _ _ _ _ => lv_iload hx hb d_Rf_field_83 (lv_at hl 4 rfl)) ?_
        refine fs_lift (fun _ _ _ _ => lv_aload_n hx hb d_Rf_field_85 rfl (lv_at hl 0 rfl)) ?_
        refine fs_Jgr S hG fs_in12 rfl 15 (Nat.le_of_ble_eq_true rfl) tw_5_207 (fun _ h9 => h9) d_Rf_field_86 (fun r7 => ?_)
        refine fs_lift (fun _ _ _ _ => lv_iload hx hb d_Rf_field_89 (lv_at hl 3 rfl)) ?_
        refine fs_Jai S hG d_Rf_field_91 (fun v8 => ?_)
        refine fs_if (fun _ _ _ _ => lv_icmp_ge hx hb d_Rf_field_92 rfl) ?_ ?_
        · refine fs_lift (fun _ _ _ _ => lv_aload_n hx hb d_Rf_field_130 rfl (lv_at hl 0 rfl)) ?_
          refine fs_Jgi S hG fs_in12 rfl 0 (Nat.le_of_ble_eq_true rfl) tw_5_192 (fun _ h9 => h9) d_Rf_field_131 (fun v9 => ?_)
          refine fs_if (fun _ _ _ _ => lv_if_eq hx hb d_Rf_field_134 rfl) ?_ ?_
          · refine fs_lift (fun _ _ _ _ => lv_aload_n hx hb d_Rf_field_139 rfl (lv_at hl 0 rfl)) ?_
            refine fs_Jgr S hG fs_in12 rfl 16 (Nat.le_of_ble_eq_true rfl) tw_5_208 (fun _ h9 => h9) d_Rf_field_140 (fun r10 => ?_)
            refine fs_lift (fun _ _ _ _ => lv_bipush (v := 8) hx hb d_Rf_field_143 (by decide)) ?_
            refine fs_lift (fun _ _ _ _ => lv_iload hx hb d_Rf_field_145 (lv_at hl 3 rfl)) ?_
            refine fs_lift (fun _ _ _ _ => lv_imul hx hb d_Rf_field_147) ?_
            refine fs_lift (fun _ _ _ _ => lv_aload_n hx hb d_Rf_field_148 rfl (lv_at hl 0 rfl)) ?_
            refine fs_Jgr S hG fs_in12 rfl 15 (Nat.le_of_ble_eq_true rfl) tw_5_207 (fun _ h9 => h9) d_Rf_field_149 (fun r11 => ?_)
            refine fs_lift (fun _ _ _ _ => lv_iload hx hb d_Rf_field_152 (lv_at hl 3 rfl)) ?_
            refine fs_Jai S hG d_Rf_field_154 (fun v12 => ?_)
            refine fs_lift (fun _ _ _ _ => lv_iadd hx hb d_Rf_field_155) ?_
            refine fs_lift (fun _ _ _ _ => lv_iload_n hx hb d_Rf_field_156 rfl (lv_at hl 1 rfl)) ?_
            refine fs_Jsi S hG d_Rf_field_157 ?_
            refine fs_lift (fun _ _ _ _ => lv_aload_n hx hb d_Rf_field_158 rfl (lv_at hl 0 rfl)) ?_
            refine fs_Jgr S hG fs_in12 rfl 17 (Nat.le_of_ble_eq_true rfl) tw_5_209 (fun _ h9 => h9) d_Rf_field_159 (fun r13 => ?_)
            refine fs_lift (fun _ _ _ _ => lv_bipush (v := 8) hx hb d_Rf_field_162 (by decide)) ?_
            refine fs_lift (fun _ _ _ _ => lv_iload hx hb d_Rf_field_164 (lv_at hl 3 rfl)) ?_
            refine fs_lift (fun _ _ _ _ => lv_imul hx hb d_Rf_field_166) ?_
            refine fs_lift (fun _ _ _ _ => lv_aload_n hx hb d_Rf_field_167 rfl (lv_at hl 0 rfl)) ?_
            refine fs_Jgr S hG fs_in12 rfl 15 (Nat.le_of_ble_eq_true rfl) tw_5_207 (fun _ h9 => h9) d_Rf_field_168 (fun r14 => ?_)
            refine fs_lift (fun _ _ _ _ => lv_iload hx hb d_Rf_field_171 (lv_at hl 3 rfl)) ?_
            refine fs_Jai S hG d_Rf_field_173 (fun v15 => ?_)
            refine fs_lift (fun _ _ _ _ => lv_iadd hx hb d_Rf_field_174) ?_
            refine fs_lift (fun _ _ _ _ => lv_iload hx hb d_Rf_field_175 (lv_at hl 2 rfl)) ?_
            refine fs_Jsi S hG d_Rf_field_177 ?_
            refine fs_lift (fun _ _ _ _ => lv_aload_n hx hb d_Rf_field_178 rfl (lv_at hl 0 rfl)) ?_
            refine fs_Jgr S hG fs_in12 rfl 15 (Nat.le_of_ble_eq_true rfl) tw_5_207 (fun _ h9 => h9) d_Rf_field_179 (fun r16 => ?_)
            refine fs_lift (fun _ _ _ _ => lv_iload hx hb d_Rf_field_182 (lv_at hl 3 rfl)) ?_
            refine fs_lift (fun _ _ _ _ => lv_dup2_11 hx hb d_Rf_field_184 rfl rfl) ?_
            refine fs_Jai S hG d_Rf_field_185 (fun v17 => ?_)
            refine fs_lift (fun _ _ _ _ => lv_iconst (v := 1) hx hb d_Rf_field_186 (by decide)) ?_
            refine fs_lift (fun _ _ _ _ => lv_iadd hx hb d_Rf_field_187) ?_
            refine fs_Jsi S hG d_Rf_field_188 ?_
            refine fs_lift (fun _ _ _ _ => lv_aload_n hx hb d_Rf_field_189 rfl (lv_at hl 0 rfl)) ?_
            refine fs_Jgr S hG fs_in12 rfl 15 (Nat.le_of_ble_eq_true rfl) tw_5_207 (fun _ h9 => h9) d_Rf_field_190 (fun r18 => ?_)
            refine fs_lift (fun _ _ _ _ => lv_iload hx hb d_Rf_field_193 (lv_at hl 3 rfl)) ?_
            refine fs_Jai S hG d_Rf_field_195 (fun v19 => ?_)
            exact fs_Jiret S hr hk rfl d_Rf_field_196
          · refine fs_lift (fun _ _ _ _ => lv_iconst (v := 0) hx hb d_Rf_field_137 (by decide)) ?_
            exact fs_Jiret S hr hk rfl d_Rf_field_138
        · refine fs_lift (fun _ _ _ _ => lv_aload_n hx hb d_Rf_field_95 rfl (lv_at hl 0 rfl)) ?_
          refine fs_lift (fun _ _ _ _ => lv_aload_n hx hb d_Rf_field_96 rfl (lv_at hl 0 rfl)) ?_
          refine fs_Jgr S hG fs_in12 rfl 16 (Nat.le_of_ble_eq_true rfl) tw_5_208 (fun _ h9 => h9) d_Rf_field_97 (fun r20 => ?_)
          refine fs_lift (fun _ _ _ _ => lv_bipush (v := 8) hx hb d_Rf_field_100 (by decide)) ?_
          refine fs_lift (fun _ _ _ _ => lv_iload hx hb d_Rf_field_102 (lv_at hl 3 rfl)) ?_
          refine fs_lift (fun _ _ _ _ => lv_imul hx hb d_Rf_field_104) ?_
          refine fs_lift (fun _ _ _ _ => lv_iload hx hb d_Rf_field_105 (lv_at hl 4 rfl)) ?_
          refine fs_lift (fun _ _ _ _ => lv_iadd hx hb d_Rf_field_107) ?_
          refine fs_Jai S hG d_Rf_field_108 (fun v21 => ?_)
          refine fs_lift (fun _ _ _ _ => lv_iload_n hx hb d_Rf_field_109 rfl (lv_at hl 1 rfl)) ?_
          refine fs_Jlet1 (nL := 8) (pj := 121) (I := fun (v23 : Int32) => [(0, .ref a0), (3, .int x3), (4, .int x4), (6, .int v5), (7, .int v6)]) (st := fun (v23 : Int32) => [.int v23, .ref a0]) (fun v23 ls hl => ?_) (fun j121 hj121 => ?_)
          · refine fs_Jput S hG fs_in12 rfl 0 (Nat.le_of_ble_eq_true rfl) tw_5_192 (fun _ h9 => h9) fs_Y12 fs_ty12 fs_nm12 (Or.inl rfl) rfl rfl d_Rf_field_121 ?_
            refine fs_Jnm (fun v24 hv9 => ?_)
            refine fs_liftL (fun _ _ _ _ => lv_iinc (k := 4) (v := v24) (lv' := [(7, .int v24), (0, .ref a0), (3, .int x3), (4, .int x4), (6, .int v5)]) hx hb d_Rf_field_124 hl rfl (by rw [hv9]; rfl) (Nat.le_of_ble_eq_true rfl) rfl) (fun ls hl => ?_)
            refine fs_lift (fun _ _ _ _ => lv_goto hx hb d_Rf_field_127 rfl) ?_
            exact hk83 v24 ls (lv_sub hl [1, 2, 3, 4, 0] rfl)
          · refine fs_ifn (fun _ _ _ _ => lv_icmp_ne hx hb d_Rf_field_110 rfl) ?_ ?_
            · refine fs_lift (fun _ _ _ _ => lv_iconst (v := 2) hx hb d_Rf_field_113 (by decide)) ?_
              refine fs_lift (fun _ _ _ _ => lv_goto hx hb d_Rf_field_114 rfl) ?_
              exact hj121 2 ls (lv_sub hl [0, 1, 2, 3, 4] rfl)
            · refine fs_lift (fun _ _ _ _ => lv_aload_n hx hb d_Rf_field_117 rfl (lv_at hl 0 rfl)) ?_
              refine fs_Jgi S hG fs_in12 rfl 0 (Nat.le_of_ble_eq_true rfl) tw_5_192 (fun _ h9 => h9) d_Rf_field_118 (fun v22 => ?_)
              exact hj121 v22 ls (lv_sub hl [0, 1, 2, 3, 4] rfl)
      · refine fs_lift (fun _ _ _ _ => lv_iconst (v := 0) hx hb d_Rf_field_71 (by decide)) ?_
        exact fs_Jiret S hr hk rfl d_Rf_field_72
    · refine fs_if (fun _ _ _ _ => lv_if_eq hx hb d_Rf_field_55 rfl) ?_ ?_
      · refine fs_lift (fun _ _ _ _ => lv_iconst (v := 0) hx hb d_Rf_field_62 (by decide)) ?_
        exact hj63 0 ls (lv_sub hl [1, 2, 3, 4, 5, 0] rfl)
      · refine fs_lift (fun _ _ _ _ => lv_iconst (v := 1) hx hb d_Rf_field_58 (by decide)) ?_
        refine fs_lift (fun _ _ _ _ => lv_goto hx hb d_Rf_field_59 rfl) ?_
        exact hj63 1 ls (lv_sub hl [1, 2, 3, 4, 5, 0] rfl)
  · refine fs_Jlet1 (nL := 8) (pj := 45) (I := fun (_ : Unit) => [(0, .ref a0), (1, .int x1), (2, .int x2), (3, .int x3), (4, .int x4)]) (st := fun (_ : Unit) => []) (fun _ ls hl => ?_) (fun j45 hj45 => ?_)
    · refine fs_lift (fun _ _ _ _ => lv_iconst (v := 1) hx hb d_Rf_field_45 (by decide)) ?_
      refine fs_lift (fun _ _ _ _ => lv_goto hx hb d_Rf_field_46 rfl) ?_
      exact hj50 1 ls (lv_sub hl [0, 1, 2, 3, 4] rfl)
    · refine fs_ifn (fun _ _ _ _ => lv_if_ne hx hb d_Rf_field_6 rfl) ?_ ?_
      · refine fs_lift (fun _ _ _ _ => lv_iload_n hx hb d_Rf_field_9 rfl (lv_at hl 3 rfl)) ?_
        refine fs_if (fun _ _ _ _ => lv_if_lt hx hb d_Rf_field_10 rfl) ?_ ?_
        · exact hj45 () ls (lv_sub hl [0, 1, 2, 3, 4] rfl)
        · refine fs_lift (fun _ _ _ _ => lv_iload_n hx hb d_Rf_field_13 rfl (lv_at hl 3 rfl)) ?_
          refine fs_lift (fun _ _ _ _ => lv_bipush (v := 7) hx hb d_Rf_field_14 (by decide)) ?_
          refine fs_if (fun _ _ _ _ => lv_icmp_gt hx hb d_Rf_field_16 rfl) ?_ ?_
          · exact hj45 () ls (lv_sub hl [0, 1, 2, 3, 4] rfl)
          · refine fs_lift (fun _ _ _ _ => lv_iload hx hb d_Rf_field_19 (lv_at hl 4 rfl)) ?_
            refine fs_if (fun _ _ _ _ => lv_if_lt hx hb d_Rf_field_21 rfl) ?_ ?_
            · exact hj45 () ls (lv_sub hl [0, 1, 2, 3, 4] rfl)
            · refine fs_lift (fun _ _ _ _ => lv_iload hx hb d_Rf_field_24 (lv_at hl 4 rfl)) ?_
              refine fs_lift (fun _ _ _ _ => lv_iconst (v := 4) hx hb d_Rf_field_26 (by decide)) ?_
              refine fs_if (fun _ _ _ _ => lv_icmp_gt hx hb d_Rf_field_27 rfl) ?_ ?_
              · exact hj45 () ls (lv_sub hl [0, 1, 2, 3, 4] rfl)
              · refine fs_lift (fun _ _ _ _ => lv_iload hx hb d_Rf_field_30 (lv_at hl 4 rfl)) ?_
                refine fs_Jlet1 (nL := 8) (pj := 49) (I := fun (_ : Unit) => [(0, .ref a0), (1, .int x1), (2, .int x2), (3, .int x3), (4, .int x4)]) (st := fun (_ : Unit) => []) (fun _ ls hl => ?_) (fun j49 hj49 => ?_)
                · refine fs_lift (fun _ _ _ _ => lv_iconst (v := 0) hx hb d_Rf_field_49 (by decide)) ?_
                  exact hj50 0 ls (lv_sub hl [0, 1, 2, 3, 4] rfl)
                · refine fs_if (fun _ _ _ _ => lv_if_le hx hb d_Rf_field_32 rfl) ?_ ?_
                  · exact hj49 () ls (lv_sub hl [0, 1, 2, 3, 4] rfl)
                  · refine fs_lift (fun _ _ _ _ => lv_iload hx hb d_Rf_field_35 (lv_at hl 4 rfl)) ?_
                    refine fs_lift (fun _ _ _ _ => lv_aload_n hx hb d_Rf_field_37 rfl (lv_at hl 0 rfl)) ?_
                    refine fs_lift (fun _ _ _ _ => lv_iload_n hx hb d_Rf_field_38 rfl (lv_at hl 3 rfl)) ?_
                    refine fs_JV S hG hR rfl [.int x3] (enc := fun r => some (.int r)) (fun zr zs zt zh => m_Rf_leastOf X l a0 x3 zh) tw_6_151 tw_6_153 tp_2_2 tw_6_154 tw_1_11 q_Rf_leastOf ⟨(Nat.le_of_ble_eq_true rfl), (Nat.le_of_ble_eq_true rfl)⟩ hl.1 rfl (Nat.le_of_ble_eq_true rfl) d_Rf_field_39 (fun v2 => ?_)
                    refine fs_Jeq (g2 := F0 m 42 ls [.int v2, .int x4]) rfl ?_
                    refine fs_if (fun _ _ _ _ => lv_icmp_ge hx hb d_Rf_field_42 rfl) ?_ ?_
                    · exact hj49 () ls (lv_sub hl [0, 1, 2, 3, 4] rfl)
                    · exact hj45 () ls (lv_sub hl [0, 1, 2, 3, 4] rfl)
      · exact hj45 () ls (lv_sub hl [0, 1, 2, 3, 4] rfl)

theorem d_Rf_seal_0 : decode prog_13_method_15_code 0 = .ok (.iconst 3, 1) := by decide +kernel
theorem d_Rf_seal_1 : decode prog_13_method_15_code 1 = .ok (.iload_n 1, 1) := by decide +kernel
theorem d_Rf_seal_2 : decode prog_13_method_15_code 2 = .ok (.imul, 1) := by decide +kernel
theorem d_Rf_seal_3 : decode prog_13_method_15_code 3 = .ok (.iload_n 2, 1) := by decide +kernel
theorem d_Rf_seal_4 : decode prog_13_method_15_code 4 = .ok (.iadd, 1) := by decide +kernel
theorem d_Rf_seal_5 : decode prog_13_method_15_code 5 = .ok (.istore_n 3, 1) := by decide +kernel
theorem d_Rf_seal_6 : decode prog_13_method_15_code 6 = .ok (.aload_n 0, 1) := by decide +kernel
theorem d_Rf_seal_7 : decode prog_13_method_15_code 7 = .ok (.aload_n 0, 1) := by decide +kernel
theorem d_Rf_seal_8 : decode prog_13_method_15_code 8 = .ok (.iload_n 1, 1) := by decide +kernel
theorem d_Rf_seal_9 : decode prog_13_method_15_code 9 = .ok (.iload_n 2, 1) := by decide +kernel
theorem d_Rf_seal_10 : decode prog_13_method_15_code 10 = .ok (.invokevirtual 157, 3) := by decide +kernel
theorem d_Rf_seal_13 : decode prog_13_method_15_code 13 = .ok (.ifCond .eq 7, 3) := by decide +kernel
theorem d_Rf_seal_16 : decode prog_13_method_15_code 16 = .ok (.iconst 1, 1) := by decide +kernel
theorem d_Rf_seal_17 : decode prog_13_method_15_code 17 = .ok (.goto 26, 3) := by decide +kernel
theorem d_Rf_seal_20 : decode prog_13_method_15_code 20 = .ok (.aload_n 0, 1) := by decide +kernel
theorem d_Rf_seal_21 : decode prog_13_method_15_code 21 = .ok (.getfield 52, 3) := by decide +kernel
theorem d_Rf_seal_24 : decode prog_13_method_15_code 24 = .ok (.iload_n 3, 1) := by decide +kernel
theorem d_Rf_seal_25 : decode prog_13_method_15_code 25 = .ok (.iaload, 1) := by decide +kernel
theorem d_Rf_seal_26 : decode prog_13_method_15_code 26 = .ok (.ifCond .eq 12, 3) := by decide +kernel
theorem d_Rf_seal_29 : decode prog_13_method_15_code 29 = .ok (.aload_n 0, 1) := by decide +kernel
theorem d_Rf_seal_30 : decode prog_13_method_15_code 30 = .ok (.getfield 64, 3) := by decide +kernel
theorem d_Rf_seal_33 : decode prog_13_method_15_code 33 = .ok (.iload_n 3, 1) := by decide +kernel
theorem d_Rf_seal_34 : decode prog_13_method_15_code 34 = .ok (.iaload, 1) := by decide +kernel
theorem d_Rf_seal_35 : decode prog_13_method_15_code 35 = .ok (.ifCond .le 7, 3) := by decide +kernel
theorem d_Rf_seal_38 : decode prog_13_method_15_code 38 = .ok (.iconst 2, 1) := by decide +kernel
theorem d_Rf_seal_39 : decode prog_13_method_15_code 39 = .ok (.goto 4, 3) := by decide +kernel
theorem d_Rf_seal_42 : decode prog_13_method_15_code 42 = .ok (.iconst 0, 1) := by decide +kernel
theorem d_Rf_seal_43 : decode prog_13_method_15_code 43 = .ok (.putfield 138, 3) := by decide +kernel
theorem d_Rf_seal_46 : decode prog_13_method_15_code 46 = .ok (.aload_n 0, 1) := by decide +kernel
theorem d_Rf_seal_47 : decode prog_13_method_15_code 47 = .ok (.getfield 138, 3) := by decide +kernel
theorem d_Rf_seal_50 : decode prog_13_method_15_code 50 = .ok (.ifCond .eq 5, 3) := by decide +kernel
theorem d_Rf_seal_53 : decode prog_13_method_15_code 53 = .ok (.iconst 0, 1) := by decide +kernel
theorem d_Rf_seal_54 : decode prog_13_method_15_code 54 = .ok (.ireturn, 1) := by decide +kernel
theorem d_Rf_seal_55 : decode prog_13_method_15_code 55 = .ok (.aload_n 0, 1) := by decide +kernel
theorem d_Rf_seal_56 : decode prog_13_method_15_code 56 = .ok (.getfield 61, 3) := by decide +kernel
theorem d_Rf_seal_59 : decode prog_13_method_15_code 59 = .ok (.iload_n 3, 1) := by decide +kernel
theorem d_Rf_seal_60 : decode prog_13_method_15_code 60 = .ok (.dup2, 1) := by decide +kernel
theorem d_Rf_seal_61 : decode prog_13_method_15_code 61 = .ok (.iaload, 1) := by decide +kernel
theorem d_Rf_seal_62 : decode prog_13_method_15_code 62 = .ok (.iconst 1, 1) := by decide +kernel
theorem d_Rf_seal_63 : decode prog_13_method_15_code 63 = .ok (.iadd, 1) := by decide +kernel
theorem d_Rf_seal_64 : decode prog_13_method_15_code 64 = .ok (.iastore, 1) := by decide +kernel
theorem d_Rf_seal_65 : decode prog_13_method_15_code 65 = .ok (.aload_n 0, 1) := by decide +kernel
theorem d_Rf_seal_66 : decode prog_13_method_15_code 66 = .ok (.getfield 64, 3) := by decide +kernel
theorem d_Rf_seal_69 : decode prog_13_method_15_code 69 = .ok (.iload_n 3, 1) := by decide +kernel
theorem d_Rf_seal_70 : decode prog_13_method_15_code 70 = .ok (.aload_n 0, 1) := by decide +kernel
theorem d_Rf_seal_71 : decode prog_13_method_15_code 71 = .ok (.getfield 61, 3) := by decide +kernel
theorem d_Rf_seal_74 : decode prog_13_method_15_code 74 = .ok (.iload_n 3, 1) := by decide +kernel
theorem d_Rf_seal_75 : decode prog_13_method_15_code 75 = .ok (.iaload, 1) := by decide +kernel
theorem d_Rf_seal_76 : decode prog_13_method_15_code 76 = .ok (.iastore, 1) := by decide +kernel
theorem d_Rf_seal_77 : decode prog_13_method_15_code 77 = .ok (.aload_n 0, 1) := by decide +kernel
theorem d_Rf_seal_78 : decode prog_13_method_15_code 78 = .ok (.getfield 67, 3) := by decide +kernel
theorem d_Rf_seal_81 : decode prog_13_method_15_code 81 = .ok (.iload_n 3, 1) := by decide +kernel
theorem d_Rf_seal_82 : decode prog_13_method_15_code 82 = .ok (.aload_n 0, 1) := by decide +kernel
theorem d_Rf_seal_83 : decode prog_13_method_15_code 83 = .ok (.getfield 52, 3) := by decide +kernel
theorem d_Rf_seal_86 : decode prog_13_method_15_code 86 = .ok (.iload_n 3, 1) := by decide +kernel
theorem d_Rf_seal_87 : decode prog_13_method_15_code 87 = .ok (.iaload, 1) := by decide +kernel
theorem d_Rf_seal_88 : decode prog_13_method_15_code 88 = .ok (.iastore, 1) := by decide +kernel
theorem d_Rf_seal_89 : decode prog_13_method_15_code 89 = .ok (.bipush 8, 2) := by decide +kernel
theorem d_Rf_seal_91 : decode prog_13_method_15_code 91 = .ok (.iload_n 3, 1) := by decide +kernel
theorem d_Rf_seal_92 : decode prog_13_method_15_code 92 = .ok (.imul, 1) := by decide +kernel
theorem d_Rf_seal_93 : decode prog_13_method_15_code 93 = .ok (.istore 4, 2) := by decide +kernel
theorem d_Rf_seal_95 : decode prog_13_method_15_code 95 = .ok (.iload 4, 2) := by decide +kernel
theorem d_Rf_seal_97 : decode prog_13_method_15_code 97 = .ok (.bipush 8, 2) := by decide +kernel
theorem d_Rf_seal_99 : decode prog_13_method_15_code 99 = .ok (.iload_n 3, 1) := by decide +kernel
theorem d_Rf_seal_100 : decode prog_13_method_15_code 100 = .ok (.imul, 1) := by decide +kernel
theorem d_Rf_seal_101 : decode prog_13_method_15_code 101 = .ok (.aload_n 0, 1) := by decide +kernel
theorem d_Rf_seal_102 : decode prog_13_method_15_code 102 = .ok (.getfield 52, 3) := by decide +kernel
theorem d_Rf_seal_105 : decode prog_13_method_15_code 105 = .ok (.iload_n 3, 1) := by decide +kernel
theorem d_Rf_seal_106 : decode prog_13_method_15_code 106 = .ok (.iaload, 1) := by decide +kernel
theorem d_Rf_seal_107 : decode prog_13_method_15_code 107 = .ok (.iadd, 1) := by decide +kernel
theorem d_Rf_seal_108 : decode prog_13_method_15_code 108 = .ok (.if_icmp .ge 37, 3) := by decide +kernel
theorem d_Rf_seal_111 : decode prog_13_method_15_code 111 = .ok (.aload_n 0, 1) := by decide +kernel
theorem d_Rf_seal_112 : decode prog_13_method_15_code 112 = .ok (.getfield 70, 3) := by decide +kernel
theorem d_Rf_seal_115 : decode prog_13_method_15_code 115 = .ok (.iload 4, 2) := by decide +kernel
theorem d_Rf_seal_117 : decode prog_13_method_15_code 117 = .ok (.aload_n 0, 1) := by decide +kernel
theorem d_Rf_seal_118 : decode prog_13_method_15_code 118 = .ok (.getfield 55, 3) := by decide +kernel
theorem d_Rf_seal_121 : decode prog_13_method_15_code 121 = .ok (.iload 4, 2) := by decide +kernel
theorem d_Rf_seal_123 : decode prog_13_method_15_code 123 = .ok (.iaload, 1) := by decide +kernel
theorem d_Rf_seal_124 : decode prog_13_method_15_code 124 = .ok (.iastore, 1) := by decide +kernel
theorem d_Rf_seal_125 : decode prog_13_method_15_code 125 = .ok (.aload_n 0, 1) := by decide +kernel
theorem d_Rf_seal_126 : decode prog_13_method_15_code 126 = .ok (.getfield 73, 3) := by decide +kernel
theorem d_Rf_seal_129 : decode prog_13_method_15_code 129 = .ok (.iload 4, 2) := by decide +kernel
theorem d_Rf_seal_131 : decode prog_13_method_15_code 131 = .ok (.aload_n 0, 1) := by decide +kernel
theorem d_Rf_seal_132 : decode prog_13_method_15_code 132 = .ok (.getfield 58, 3) := by decide +kernel
theorem d_Rf_seal_135 : decode prog_13_method_15_code 135 = .ok (.iload 4, 2) := by decide +kernel
theorem d_Rf_seal_137 : decode prog_13_method_15_code 137 = .ok (.iaload, 1) := by decide +kernel
theorem d_Rf_seal_138 : decode prog_13_method_15_code 138 = .ok (.iastore, 1) := by decide +kernel
theorem d_Rf_seal_139 : decode prog_13_method_15_code 139 = .ok (.iinc 4 1, 3) := by decide +kernel
theorem d_Rf_seal_142 : decode prog_13_method_15_code 142 = .ok (.goto (-47), 3) := by decide +kernel
theorem d_Rf_seal_145 : decode prog_13_method_15_code 145 = .ok (.aload_n 0, 1) := by decide +kernel
theorem d_Rf_seal_146 : decode prog_13_method_15_code 146 = .ok (.getfield 52, 3) := by decide +kernel
theorem d_Rf_seal_149 : decode prog_13_method_15_code 149 = .ok (.iload_n 3, 1) := by decide +kernel
theorem d_Rf_seal_150 : decode prog_13_method_15_code 150 = .ok (.iconst 0, 1) := by decide +kernel
theorem d_Rf_seal_151 : decode prog_13_method_15_code 151 = .ok (.iastore, 1) := by decide +kernel
theorem d_Rf_seal_152 : decode prog_13_method_15_code 152 = .ok (.aload_n 0, 1) := by decide +kernel
theorem d_Rf_seal_153 : decode prog_13_method_15_code 153 = .ok (.dup, 1) := by decide +kernel
theorem d_Rf_seal_154 : decode prog_13_method_15_code 154 = .ok (.getfield 165, 3) := by decide +kernel
theorem d_Rf_seal_157 : decode prog_13_method_15_code 157 = .ok (.iconst 1, 1) := by decide +kernel
theorem d_Rf_seal_158 : decode prog_13_method_15_code 158 = .ok (.iadd, 1) := by decide +kernel
theorem d_Rf_seal_159 : decode prog_13_method_15_code 159 = .ok (.putfield 165, 3) := by decide +kernel
theorem d_Rf_seal_162 : decode prog_13_method_15_code 162 = .ok (.aload_n 0, 1) := by decide +kernel
theorem d_Rf_seal_163 : decode prog_13_method_15_code 163 = .ok (.getfield 76, 3) := by decide +kernel
theorem d_Rf_seal_166 : decode prog_13_method_15_code 166 = .ok (.iload_n 3, 1) := by decide +kernel
theorem d_Rf_seal_167 : decode prog_13_method_15_code 167 = .ok (.aload_n 0, 1) := by decide +kernel
theorem d_Rf_seal_168 : decode prog_13_method_15_code 168 = .ok (.getfield 165, 3) := by decide +kernel
theorem d_Rf_seal_171 : decode prog_13_method_15_code 171 = .ok (.iastore, 1) := by decide +kernel
theorem d_Rf_seal_172 : decode prog_13_method_15_code 172 = .ok (.aload_n 0, 1) := by decide +kernel
theorem d_Rf_seal_173 : decode prog_13_method_15_code 173 = .ok (.getfield 61, 3) := by decide +kernel
theorem d_Rf_seal_176 : decode prog_13_method_15_code 176 = .ok (.iload_n 3, 1) := by decide +kernel
theorem d_Rf_seal_177 : decode prog_13_method_15_code 177 = .ok (.iaload, 1) := by decide +kernel
theorem d_Rf_seal_178 : decode prog_13_method_15_code 178 = .ok (.ireturn, 1) := by decide +kernel
theorem q_Rf_seal : (⟨"FlowShelfModel", "seal", "(II)I"⟩ : MethodName).cls ≠ "java/lang/invoke/MethodHandle" ∧ (⟨"FlowShelfModel", "seal", "(II)I"⟩ : MethodName).cls ≠ "java/lang/invoke/VarHandle" ∧ (parseMethodDescriptor (⟨"FlowShelfModel", "seal", "(II)I"⟩ : MethodName).desc).map (fun d => d.parameters.length) = some 2 := by decide +kernel
set_option maxHeartbeats 4000000 in
set_option maxRecDepth 100000 in
theorem m_Rf_seal (X : fs_X) (l : Launch) (a0 : Nat) (x1 : Int32) (x2 : Int32) {r : Int32} {σ σF : fs_S} (h : (f_Rf_seal a0 x1 x2).1 σ = some (r, σF)) : fs_Met X l ⟨"FlowShelfModel", "seal", "(II)I"⟩ (Cond.code ⟨"FlowShelfModel", "seal", "(II)I"⟩ prog_13_method_15_code 5 (some FieldType.int)) 2 43 [.ref a0, .int x1, .int x2] σ (fs_eI r) σF := by
  refine fs_ofW (by decide) ?_
  intro p e s m args below meth c s₁ B hml hT hv
  obtain ⟨rfl, hw0, hG⟩ := hv
  have hx := B.exec
  have hb := B.bytes
  have hr := B.returns
  have hk := B.notSynchronized
  have S : CallFix p m c prog_13_method_15_code 5 s _ fs_ws "FlowShelfModel" := ⟨B.exec, B.bytes, hml, findClass_of_methodNamed B.named, fun w hw => atoms_spec (ws := _ :: fs_ws) B.pre w (List.mem_cons_of_mem _ hw)⟩
  have hR := fs_hR (fr := 2) (lo := 43) ((f_Rf_seal a0 x1 x2).2 _ _ _ h)
  have hl := lv_entry ([.ref a0, .int x1, .int x2]) (n := 5) (Nat.le_of_ble_eq_true rfl)
  rw [lg_entry_eq]
  generalize (lg_sl ([.ref a0, .int x1, .int x2]) ++ List.replicate (5 - (lg_sl ([.ref a0, .int x1, .int x2])).length) Slot.unset).toArray = ls at hl ⊢
  have hl : lv_has ls 5 [(0, .ref a0), (1, .int x1), (2, .int x2)] := hl
  refine (?_ : fs_J X p l e (fs_rm 2 43 σ σF) s m _ below meth c (fs_Q X below _ s (fs_eI r) σ σF) r σ σF (f_Rf_seal a0 x1 x2) (F0 m 0 ls [])) σ s.heap [] 0 0 h hw0 va_S.rf rfl rfl
  clear h hw0
  unfold f_Rf_seal
  refine fs_lift (fun _ _ _ _ => lv_iconst (v := 3) hx hb d_Rf_seal_0 (by decide)) ?_
  refine fs_lift (fun _ _ _ _ => lv_iload_n hx hb d_Rf_seal_1 rfl (lv_at hl 1 rfl)) ?_
  refine fs_lift (fun _ _ _ _ => lv_imul hx hb d_Rf_seal_2) ?_
  refine fs_lift (fun _ _ _ _ => lv_iload_n hx hb d_Rf_seal_3 rfl (lv_at hl 2 rfl)) ?_
  refine fs_lift (fun _ _ _ _ => lv_iadd hx hb d_Rf_seal_4) ?_
  refine fs_Jni (fun v1 => ?_)
  refine fs_liftL (fun _ _ _ _ => lv_istore_n (lv' := [(3, .int v1), (0, .ref a0), (1, .int x1), (2, .int x2)]) hx hb d_Rf_seal_5 rfl hl (Nat.le_of_ble_eq_true rfl) rfl) (fun ls hl => ?_)
  refine fs_lift (fun _ _ _ _ => lv_aload_n hx hb d_Rf_seal_6 rfl (lv_at hl 1 rfl)) ?_
  refine fs_lift (fun _ _ _ _ => lv_aload_n hx hb d_Rf_seal_7 rfl (lv_at hl 1 rfl)) ?_
  refine fs_lift (fun _ _ _ _ => lv_iload_n hx hb d_Rf_seal_8 rfl (lv_at hl 2 rfl)) ?_
  refine fs_lift (fun _ _ _ _ => lv_iload_n hx hb d_Rf_seal_9 rfl (lv_at hl 3 rfl)) ?_
  refine fs_JV S hG hR rfl [.int x1, .int x2] (enc := fun r => some (.int r)) (fun zr zs zt zh => m_Rf_noTemplate X l a0 x1 x2 zh) tw_6_147 tw_6_149 tp_2_1 tw_6_150 tw_1_11 q_Rf_noTemplate ⟨(Nat.le_of_ble_eq_true rfl), (Nat.le_of_ble_eq_true rfl)⟩ hl.1 rfl (Nat.le_of_ble_eq_true rfl) d_Rf_seal_10 (fun v2 => ?_)
  refine fs_Jeq (g2 := F0 m 13 ls [.int v2, .ref a0]) rfl ?_
  refine fs_Jlet1 (nL := 5) (pj := 43) (I := fun (v7 : Int32) => [(0, .ref a0), (3, .int v1)]) (st := fun (v7 : Int32) => [.int v7, .ref a0]) (fun v7 ls hl => ?_) (fun j43 hj43 => ?_)
  · refine fs_Jput S hG fs_in12 rfl 0 (Nat.le_of_ble_eq_true rfl) tw_5_192 (fun _ h9 => h9) fs_Y12 fs_ty12 fs_nm12 (Or.inl rfl) rfl rfl d_Rf_seal_43 ?_
    refine fs_lift (fun _ _ _ _ => lv_aload_n hx hb d_Rf_seal_46 rfl (lv_at hl 0 rfl)) ?_
    refine fs_Jgi S hG fs_in12 rfl 0 (Nat.le_of_ble_eq_true rfl) tw_5_192 (fun _ h9 => h9) d_Rf_seal_47 (fun v8 => ?_)
    refine fs_if (fun _ _ _ _ => lv_if_eq hx hb d_Rf_seal_50 rfl) ?_ ?_
    · refine fs_lift (fun _ _ _ _ => lv_aload_n hx hb d_Rf_seal_55 rfl (lv_at hl 0 rfl)) ?_
      refine fs_Jgr S hG fs_in12 rfl 18 (Nat.le_of_ble_eq_true rfl) tw_5_210 (fun _ h9 => h9) d_Rf_seal_56 (fun r9 => ?_)
      refine fs_lift (fun _ _ _ _ => lv_iload_n hx hb d_Rf_seal_59 rfl (lv_at hl 1 rfl)) ?_
      refine fs_lift (fun _ _ _ _ => lv_dup2_11 hx hb d_Rf_seal_60 rfl rfl) ?_
      refine fs_Jai S hG d_Rf_seal_61 (fun v10 => ?_)
      refine fs_lift (fun _ _ _ _ => lv_iconst (v := 1) hx hb d_Rf_seal_62 (by decide)) ?_
      refine fs_lift (fun _ _ _ _ => lv_iadd hx hb d_Rf_seal_63) ?_
      refine fs_Jsi S hG d_Rf_seal_64 ?_
      refine fs_lift (fun _ _ _ _ => lv_aload_n hx hb d_Rf_seal_65 rfl (lv_at hl 0 rfl)) ?_
      refine fs_Jgr S hG fs_in12 rfl 19 (Nat.le_of_ble_eq_true rfl) tw_5_211 (fun _ h9 => h9) d_Rf_seal_66 (fun r11 => ?_)
      refine fs_lift (fun _ _ _ _ => lv_iload_n hx hb d_Rf_seal_69 rfl (lv_at hl 1 rfl)) ?_
      refine fs_lift (fun _ _ _ _ => lv_aload_n hx hb d_Rf_seal_70 rfl (lv_at hl 0 rfl)) ?_
      refine fs_Jgr S hG fs_in12 rfl 18 (Nat.le_of_ble_eq_true rfl) tw_5_210 (fun _ h9 => h9) d_Rf_seal_71 (fun r12 => ?_)
      refine fs_lift (fun _ _ _ _ => lv_iload_n hx hb d_Rf_seal_74 rfl (lv_at hl 1 rfl)) ?_
      refine fs_Jai S hG d_Rf_seal_75 (fun v13 => ?_)
      refine fs_Jsi S hG d_Rf_seal_76 ?_
      refine fs_lift (fun _ _ _ _ => lv_aload_n hx hb d_Rf_seal_77 rfl (lv_at hl 0 rfl)) ?_
      refine fs_Jgr S hG fs_in12 rfl 20 (Nat.le_of_ble_eq_true rfl) tw_5_212 (fun _ h9 => h9) d_Rf_seal_78 (fun r14 => ?_)
      refine fs_lift (fun _ _ _ _ => lv_iload_n hx hb d_Rf_seal_81 rfl (lv_at hl 1 rfl)) ?_
      refine fs_lift (fun _ _ _ _ => lv_aload_n hx hb d_Rf_seal_82 rfl (lv_at hl 0 rfl)) ?_
      refine fs_Jgr S hG fs_in12 rfl 15 (Nat.le_of_ble_eq_true rfl) tw_5_207 (fun _ h9 => h9) d_Rf_seal_83 (fun r15 => ?_)
      refine fs_lift (fun _ _ _ _ => lv_iload_n hx hb d_Rf_seal_86 rfl (lv_at hl 1 rfl)) ?_
      refine fs_Jai S hG d_Rf_seal_87 (fun v16 => ?_)
      refine fs_Jsi S hG d_Rf_seal_88 ?_
      refine fs_lift (fun _ _ _ _ => lv_bipush (v := 8) hx hb d_Rf_seal_89 (by decide)) ?_
      refine fs_lift (fun _ _ _ _ => lv_iload_n hx hb d_Rf_seal_91 rfl (lv_at hl 1 rfl)) ?_
      refine fs_lift (fun _ _ _ _ => lv_imul hx hb d_Rf_seal_92) ?_
      refine fs_Jni (fun v17 => ?_)
      refine fs_liftL (fun _ _ _ _ => lv_istore (lv' := [(4, .int v17), (0, .ref a0), (3, .int v1)]) hx hb d_Rf_seal_93 hl (Nat.le_of_ble_eq_true rfl) rfl) (fun ls hl => ?_)
      refine fs_Jlp1 (nL := 5) (pc := 95) (rest := []) (I := fun (v18 : Int32) => [(0, .ref a0), (3, .int v1), (4, .int v18)]) (fun k95 hk95 v18 ls hl => ?_) _ _ _ (lv_sub hl [1, 2, 0] rfl)
      refine fs_lift (fun _ _ _ _ => lv_iload hx hb d_Rf_seal_95 (lv_at hl 2 rfl)) ?_
      refine fs_lift (fun _ _ _ _ => lv_bipush (v := 8) hx hb d_Rf_seal_97 (by decide)) ?_
      refine fs_lift (fun _ _ _ _ => lv_iload_n hx hb d_Rf_seal_99 rfl (lv_at hl 1 rfl)) ?_
      refine fs_lift (fun _ _ _ _ => lv_imul hx hb d_Rf_seal_100) ?_
      refine fs_lift (fun _ _ _ _ => lv_aload_n hx hb d_Rf_seal_101 rfl (lv_at hl 0 rfl)) ?_
      refine fs_Jgr S hG fs_in12 rfl 15 (Nat.le_of_ble_eq_true rfl) tw_5_207 (fun _ h9 => h9) d_Rf_seal_102 (fun r19 => ?_)
      refine fs_lift (fun _ _ _ _ => lv_iload_n hx hb d_Rf_seal_105 rfl (lv_at hl 1 rfl)) ?_
      refine fs_Jai S hG d_Rf_seal_106 (fun v20 => ?_)
      refine fs_lift (fun _ _ _ _ => lv_iadd hx hb d_Rf_seal_107) ?_
      refine fs_if (fun _ _ _ _ => lv_icmp_ge hx hb d_Rf_seal_108 rfl) ?_ ?_
      · refine fs_lift (fun _ _ _ _ => lv_aload_n hx hb d_Rf_seal_145 rfl (lv_at hl 0 rfl)) ?_
        refine fs_Jgr S hG fs_in12 rfl 15 (Nat.le_of_ble_eq_true rfl) tw_5_207 (fun _ h9 => h9) d_Rf_seal_146 (fun r21 => ?_)
        refine fs_lift (fun _ _ _ _ => lv_iload_n hx hb d_Rf_seal_149 rfl (lv_at hl 1 rfl)) ?_
        refine fs_lift (fun _ _ _ _ => lv_iconst (v := 0) hx hb d_Rf_seal_150 (by decide)) ?_
        refine fs_Jsi S hG d_Rf_seal_151 ?_
        refine fs_lift (fun _ _ _ _ => lv_aload_n hx hb d_Rf_seal_152 rfl (lv_at hl 0 rfl)) ?_
        refine fs_lift (fun _ _ _ _ => lv_dup hx hb d_Rf_seal_153 rfl) ?_
        refine fs_Jgi S hG fs_in12 rfl 24 (Nat.le_of_ble_eq_true rfl) tw_5_216 (fun _ h9 => h9) d_Rf_seal_154 (fun v22 => ?_)
        refine fs_lift (fun _ _ _ _ => lv_iconst (v := 1) hx hb d_Rf_seal_157 (by decide)) ?_
        refine fs_lift (fun _ _ _ _ => lv_iadd hx hb d_Rf_seal_158) ?_
        refine fs_Jput S hG fs_in12 rfl 24 (Nat.le_of_ble_eq_true rfl) tw_5_216 (fun _ h9 => h9) fs_Y12 fs_ty12 fs_nm12 (Or.inl rfl) rfl rfl d_Rf_seal_159 ?_
        refine fs_lift (fun _ _ _ _ => lv_aload_n hx hb d_Rf_seal_162 rfl (lv_at hl 0 rfl)) ?_
        refine fs_Jgr S hG fs_in12 rfl 23 (Nat.le_of_ble_eq_true rfl) tw_5_215 (fun _ h9 => h9) d_Rf_seal_163 (fun r23 => ?_)
        refine fs_lift (fun _ _ _ _ => lv_iload_n hx hb d_Rf_seal_166 rfl (lv_at hl 1 rfl)) ?_
        refine fs_lift (fun _ _ _ _ => lv_aload_n hx hb d_Rf_seal_167 rfl (lv_at hl 0 rfl)) ?_
        refine fs_Jgi S hG fs_in12 rfl 24 (Nat.le_of_ble_eq_true rfl) tw_5_216 (fun _ h9 => h9) d_Rf_seal_168 (fun v24 => ?_)
        refine fs_Jsi S hG d_Rf_seal_171 ?_
        refine fs_lift (fun _ _ _ _ => lv_aload_n hx hb d_Rf_seal_172 rfl (lv_at hl 0 rfl)) ?_
        refine fs_Jgr S hG fs_in12 rfl 18 (Nat.le_of_ble_eq_true rfl) tw_5_210 (fun _ h9 => h9) d_Rf_seal_173 (fun r25 => ?_)
        refine fs_lift (fun _ _ _ _ => lv_iload_n hx hb d_Rf_seal_176 rfl (lv_at hl 1 rfl)) ?_
        refine fs_Jai S hG d_Rf_seal_177 (fun v26 => ?_)
        exact fs_Jiret S hr hk rfl d_Rf_seal_178
      · refine fs_lift (fun _ _ _ _ => lv_aload_n hx hb d_Rf_seal_111 rfl (lv_at hl 0 rfl)) ?_
        refine fs_Jgr S hG fs_in12 rfl 21 (Nat.le_of_ble_eq_true rfl) tw_5_213 (fun _ h9 => h9) d_Rf_seal_112 (fun r27 => ?_)
        refine fs_lift (fun _ _ _ _ => lv_iload hx hb d_Rf_seal_115 (lv_at hl 2 rfl)) ?_
        refine fs_lift (fun _ _ _ _ => lv_aload_n hx hb d_Rf_seal_117 rfl (lv_at hl 0 rfl)) ?_
        refine fs_Jgr S hG fs_in12 rfl 16 (Nat.le_of_ble_eq_true rfl) tw_5_208 (fun _ h9 => h9) d_Rf_seal_118 (fun r28 => ?_)
        refine fs_lift (fun _ _ _ _ => lv_iload hx hb d_Rf_seal_121 (lv_at hl 2 rfl)) ?_
        refine fs_Jai S hG d_Rf_seal_123 (fun v29 => ?_)
        refine fs_Jsi S hG d_Rf_seal_124 ?_
        refine fs_lift (fun _ _ _ _ => lv_aload_n hx hb d_Rf_seal_125 rfl (lv_at hl 0 rfl)) ?_
        refine fs_Jgr S hG fs_in12 rfl 22 (Nat.le_of_ble_eq_true rfl) tw_5_214 (fun _ h9 => h9) d_Rf_seal_126 (fun r30 => ?_)
        refine fs_lift (fun _ _ _ _ => lv_iload hx hb d_Rf_seal_129 (lv_at hl 2 rfl)) ?_
        refine fs_lift (fun _ _ _ _ => lv_aload_n hx hb d_Rf_seal_131 rfl (lv_at hl 0 rfl)) ?_
        refine fs_Jgr S hG fs_in12 rfl 17 (Nat.le_of_ble_eq_true rfl) tw_5_209 (fun _ h9 => h9) d_Rf_seal_132 (fun r31 => ?_)
        refine fs_lift (fun _ _ _ _ => lv_iload hx hb d_Rf_seal_135 (lv_at hl 2 rfl)) ?_
        refine fs_Jai S hG d_Rf_seal_137 (fun v32 => ?_)
        refine fs_Jsi S hG d_Rf_seal_138 ?_
        refine fs_Jnm (fun v33 hv9 => ?_)
        refine fs_liftL (fun _ _ _ _ => lv_iinc (k := 2) (v := v33) (lv' := [(4, .int v33), (0, .ref a0), (3, .int v1)]) hx hb d_Rf_seal_139 hl rfl (by rw [hv9]; rfl) (Nat.le_of_ble_eq_true rfl) rfl) (fun ls hl => ?_)
        refine fs_lift (fun _ _ _ _ => lv_goto hx hb d_Rf_seal_142 rfl) ?_
        exact hk95 v33 ls (lv_sub hl [1, 2, 0] rfl)
    · refine fs_lift (fun _ _ _ _ => lv_iconst (v := 0) hx hb d_Rf_seal_53 (by decide)) ?_
      exact fs_Jiret S hr hk rfl d_Rf_seal_54
  · refine fs_if (fun _ _ _ _ => lv_if_eq hx hb d_Rf_seal_13 rfl) ?_ ?_
    · refine fs_lift (fun _ _ _ _ => lv_aload_n hx hb d_Rf_seal_20 rfl (lv_at hl 1 rfl)) ?_
      refine fs_Jgr S hG fs_in12 rfl 15 (Nat.le_of_ble_eq_true rfl) tw_5_207 (fun _ h9 => h9) d_Rf_seal_21 (fun r3 => ?_)
      refine fs_lift (fun _ _ _ _ => lv_iload_n hx hb d_Rf_seal_24 rfl (lv_at hl 0 rfl)) ?_
      refine fs_Jai S hG d_Rf_seal_25 (fun v4 => ?_)
      refine fs_Jlet1 (nL := 5) (pj := 38) (I := fun (_ : Unit) => [(0, .ref a0), (3, .int v1)]) (st := fun (_ : Unit) => [.ref a0]) (fun _ ls hl => ?_) (fun j38 hj38 => ?_)
      · refine fs_lift (fun _ _ _ _ => lv_iconst (v := 2) hx hb d_Rf_seal_38 (by decide)) ?_
        refine fs_lift (fun _ _ _ _ => lv_goto hx hb d_Rf_seal_39 rfl) ?_
        exact hj43 2 ls (lv_sub hl [0, 1] rfl)
      · refine fs_if (fun _ _ _ _ => lv_if_eq hx hb d_Rf_seal_26 rfl) ?_ ?_
        · exact hj38 () ls (lv_sub hl [1, 0] rfl)
        · refine fs_lift (fun _ _ _ _ => lv_aload_n hx hb d_Rf_seal_29 rfl (lv_at hl 1 rfl)) ?_
          refine fs_Jgr S hG fs_in12 rfl 19 (Nat.le_of_ble_eq_true rfl) tw_5_211 (fun _ h9 => h9) d_Rf_seal_30 (fun r5 => ?_)
          refine fs_lift (fun _ _ _ _ => lv_iload_n hx hb d_Rf_seal_33 rfl (lv_at hl 0 rfl)) ?_
          refine fs_Jai S hG d_Rf_seal_34 (fun v6 => ?_)
          refine fs_if (fun _ _ _ _ => lv_if_le hx hb d_Rf_seal_35 rfl) ?_ ?_
          · refine fs_lift (fun _ _ _ _ => lv_iconst (v := 0) hx hb d_Rf_seal_42 (by decide)) ?_
            exact hj43 0 ls (lv_sub hl [1, 0] rfl)
          · exact hj38 () ls (lv_sub hl [1, 0] rfl)
    · refine fs_lift (fun _ _ _ _ => lv_iconst (v := 1) hx hb d_Rf_seal_16 (by decide)) ?_
      refine fs_lift (fun _ _ _ _ => lv_goto hx hb d_Rf_seal_17 rfl) ?_
      exact hj43 1 ls (lv_sub hl [1, 0] rfl)

theorem d_Rf_withdraw_0 : decode prog_13_method_16_code 0 = .ok (.iconst 3, 1) := by decide +kernel
theorem d_Rf_withdraw_1 : decode prog_13_method_16_code 1 = .ok (.iload_n 1, 1) := by decide +kernel
theorem d_Rf_withdraw_2 : decode prog_13_method_16_code 2 = .ok (.imul, 1) := by decide +kernel
theorem d_Rf_withdraw_3 : decode prog_13_method_16_code 3 = .ok (.iload_n 2, 1) := by decide +kernel
theorem d_Rf_withdraw_4 : decode prog_13_method_16_code 4 = .ok (.iadd, 1) := by decide +kernel
theorem d_Rf_withdraw_5 : decode prog_13_method_16_code 5 = .ok (.istore_n 3, 1) := by decide +kernel
theorem d_Rf_withdraw_6 : decode prog_13_method_16_code 6 = .ok (.aload_n 0, 1) := by decide +kernel
theorem d_Rf_withdraw_7 : decode prog_13_method_16_code 7 = .ok (.aload_n 0, 1) := by decide +kernel
theorem d_Rf_withdraw_8 : decode prog_13_method_16_code 8 = .ok (.iload_n 1, 1) := by decide +kernel
theorem d_Rf_withdraw_9 : decode prog_13_method_16_code 9 = .ok (.iload_n 2, 1) := by decide +kernel
theorem d_Rf_withdraw_10 : decode prog_13_method_16_code 10 = .ok (.invokevirtual 157, 3) := by decide +kernel
theorem d_Rf_withdraw_13 : decode prog_13_method_16_code 13 = .ok (.ifCond .eq 7, 3) := by decide +kernel
theorem d_Rf_withdraw_16 : decode prog_13_method_16_code 16 = .ok (.iconst 1, 1) := by decide +kernel
theorem d_Rf_withdraw_17 : decode prog_13_method_16_code 17 = .ok (.goto 17, 3) := by decide +kernel
theorem d_Rf_withdraw_20 : decode prog_13_method_16_code 20 = .ok (.aload_n 0, 1) := by decide +kernel
theorem d_Rf_withdraw_21 : decode prog_13_method_16_code 21 = .ok (.getfield 64, 3) := by decide +kernel
theorem d_Rf_withdraw_24 : decode prog_13_method_16_code 24 = .ok (.iload_n 3, 1) := by decide +kernel
theorem d_Rf_withdraw_25 : decode prog_13_method_16_code 25 = .ok (.iaload, 1) := by decide +kernel
theorem d_Rf_withdraw_26 : decode prog_13_method_16_code 26 = .ok (.ifCond .ne 7, 3) := by decide +kernel
theorem d_Rf_withdraw_29 : decode prog_13_method_16_code 29 = .ok (.iconst 2, 1) := by decide +kernel
theorem d_Rf_withdraw_30 : decode prog_13_method_16_code 30 = .ok (.goto 4, 3) := by decide +kernel
theorem d_Rf_withdraw_33 : decode prog_13_method_16_code 33 = .ok (.iconst 0, 1) := by decide +kernel
theorem d_Rf_withdraw_34 : decode prog_13_method_16_code 34 = .ok (.putfield 138, 3) := by decide +kernel
theorem d_Rf_withdraw_37 : decode prog_13_method_16_code 37 = .ok (.aload_n 0, 1) := by decide +kernel
theorem d_Rf_withdraw_38 : decode prog_13_method_16_code 38 = .ok (.getfield 138, 3) := by decide +kernel
theorem d_Rf_withdraw_41 : decode prog_13_method_16_code 41 = .ok (.ifCond .ne 10, 3) := by decide +kernel
theorem d_Rf_withdraw_44 : decode prog_13_method_16_code 44 = .ok (.aload_n 0, 1) := by decide +kernel
theorem d_Rf_withdraw_45 : decode prog_13_method_16_code 45 = .ok (.getfield 64, 3) := by decide +kernel
theorem d_Rf_withdraw_48 : decode prog_13_method_16_code 48 = .ok (.iload_n 3, 1) := by decide +kernel
theorem d_Rf_withdraw_49 : decode prog_13_method_16_code 49 = .ok (.iconst 0, 1) := by decide +kernel
theorem d_Rf_withdraw_50 : decode prog_13_method_16_code 50 = .ok (.iastore, 1) := by decide +kernel
theorem d_Rf_withdraw_51 : decode prog_13_method_16_code 51 = .ok (.return_, 1) := by decide +kernel
theorem q_Rf_withdraw : (⟨"FlowShelfModel", "withdraw", "(II)V"⟩ : MethodName).cls ≠ "java/lang/invoke/MethodHandle" ∧ (⟨"FlowShelfModel", "withdraw", "(II)V"⟩ : MethodName).cls ≠ "java/lang/invoke/VarHandle" ∧ (parseMethodDescriptor (⟨"FlowShelfModel", "withdraw", "(II)V"⟩ : MethodName).desc).map (fun d => d.parameters.length) = some 2 := by decide +kernel
set_option maxHeartbeats 4000000 in
set_option maxRecDepth 100000 in
theorem m_Rf_withdraw (X : fs_X) (l : Launch) (a0 : Nat) (x1 : Int32) (x2 : Int32) {r : Unit} {σ σF : fs_S} (h : (f_Rf_withdraw a0 x1 x2).1 σ = some (r, σF)) : fs_Met X l ⟨"FlowShelfModel", "withdraw", "(II)V"⟩ (Cond.code ⟨"FlowShelfModel", "withdraw", "(II)V"⟩ prog_13_method_16_code 4 none) 2 43 [.ref a0, .int x1, .int x2] σ (fs_eV r) σF := by
  refine fs_ofW (by decide) ?_
  intro p e s m args below meth c s₁ B hml hT hv
  obtain ⟨rfl, hw0, hG⟩ := hv
  have hx := B.exec
  have hb := B.bytes
  have hr := B.returns
  have hk := B.notSynchronized
  have S : CallFix p m c prog_13_method_16_code 4 s _ fs_ws "FlowShelfModel" := ⟨B.exec, B.bytes, hml, findClass_of_methodNamed B.named, fun w hw => atoms_spec (ws := _ :: fs_ws) B.pre w (List.mem_cons_of_mem _ hw)⟩
  have hR := fs_hR (fr := 2) (lo := 43) ((f_Rf_withdraw a0 x1 x2).2 _ _ _ h)
  have hl := lv_entry ([.ref a0, .int x1, .int x2]) (n := 4) (Nat.le_of_ble_eq_true rfl)
  rw [lg_entry_eq]
  generalize (lg_sl ([.ref a0, .int x1, .int x2]) ++ List.replicate (4 - (lg_sl ([.ref a0, .int x1, .int x2])).length) Slot.unset).toArray = ls at hl ⊢
  have hl : lv_has ls 4 [(0, .ref a0), (1, .int x1), (2, .int x2)] := hl
  refine (?_ : fs_J X p l e (fs_rm 2 43 σ σF) s m _ below meth c (fs_Q X below _ s (fs_eV r) σ σF) r σ σF (f_Rf_withdraw a0 x1 x2) (F0 m 0 ls [])) σ s.heap [] 0 0 h hw0 va_S.rf rfl rfl
  clear h hw0
  unfold f_Rf_withdraw
  refine fs_lift (fun _ _ _ _ => lv_iconst (v := 3) hx hb d_Rf_withdraw_0 (by decide)) ?_
  refine fs_lift (fun _ _ _ _ => lv_iload_n hx hb d_Rf_withdraw_1 rfl (lv_at hl 1 rfl)) ?_
  refine fs_lift (fun _ _ _ _ => lv_imul hx hb d_Rf_withdraw_2) ?_
  refine fs_lift (fun _ _ _ _ => lv_iload_n hx hb d_Rf_withdraw_3 rfl (lv_at hl 2 rfl)) ?_
  refine fs_lift (fun _ _ _ _ => lv_iadd hx hb d_Rf_withdraw_4) ?_
  refine fs_Jni (fun v1 => ?_)
  refine fs_liftL (fun _ _ _ _ => lv_istore_n (lv' := [(3, .int v1), (0, .ref a0), (1, .int x1), (2, .int x2)]) hx hb d_Rf_withdraw_5 rfl hl (Nat.le_of_ble_eq_true rfl) rfl) (fun ls hl => ?_)
  refine fs_lift (fun _ _ _ _ => lv_aload_n hx hb d_Rf_withdraw_6 rfl (lv_at hl 1 rfl)) ?_
  refine fs_lift (fun _ _ _ _ => lv_aload_n hx hb d_Rf_withdraw_7 rfl (lv_at hl 1 rfl)) ?_
  refine fs_lift (fun _ _ _ _ => lv_iload_n hx hb d_Rf_withdraw_8 rfl (lv_at hl 2 rfl)) ?_
  refine fs_lift (fun _ _ _ _ => lv_iload_n hx hb d_Rf_withdraw_9 rfl (lv_at hl 3 rfl)) ?_
  refine fs_JV S hG hR rfl [.int x1, .int x2] (enc := fun r => some (.int r)) (fun zr zs zt zh => m_Rf_noTemplate X l a0 x1 x2 zh) tw_6_147 tw_6_149 tp_2_1 tw_6_150 tw_1_11 q_Rf_noTemplate ⟨(Nat.le_of_ble_eq_true rfl), (Nat.le_of_ble_eq_true rfl)⟩ hl.1 rfl (Nat.le_of_ble_eq_true rfl) d_Rf_withdraw_10 (fun v2 => ?_)
  refine fs_Jeq (g2 := F0 m 13 ls [.int v2, .ref a0]) rfl ?_
  refine fs_Jlet1 (nL := 4) (pj := 34) (I := fun (v5 : Int32) => [(0, .ref a0), (3, .int v1)]) (st := fun (v5 : Int32) => [.int v5, .ref a0]) (fun v5 ls hl => ?_) (fun j34 hj34 => ?_)
  · refine fs_Jput S hG fs_in12 rfl 0 (Nat.le_of_ble_eq_true rfl) tw_5_192 (fun _ h9 => h9) fs_Y12 fs_ty12 fs_nm12 (Or.inl rfl) rfl rfl d_Rf_withdraw_34 ?_
    refine fs_lift (fun _ _ _ _ => lv_aload_n hx hb d_Rf_withdraw_37 rfl (lv_at hl 0 rfl)) ?_
    refine fs_Jgi S hG fs_in12 rfl 0 (Nat.le_of_ble_eq_true rfl) tw_5_192 (fun _ h9 => h9) d_Rf_withdraw_38 (fun v6 => ?_)
    refine fs_ifn (fun _ _ _ _ => lv_if_ne hx hb d_Rf_withdraw_41 rfl) ?_ ?_
    · refine fs_lift (fun _ _ _ _ => lv_aload_n hx hb d_Rf_withdraw_44 rfl (lv_at hl 0 rfl)) ?_
      refine fs_Jgr S hG fs_in12 rfl 19 (Nat.le_of_ble_eq_true rfl) tw_5_211 (fun _ h9 => h9) d_Rf_withdraw_45 (fun r7 => ?_)
      refine fs_lift (fun _ _ _ _ => lv_iload_n hx hb d_Rf_withdraw_48 rfl (lv_at hl 1 rfl)) ?_
      refine fs_lift (fun _ _ _ _ => lv_iconst (v := 0) hx hb d_Rf_withdraw_49 (by decide)) ?_
      refine fs_Jsi S hG d_Rf_withdraw_50 ?_
      exact fs_Jvret S hr hk rfl d_Rf_withdraw_51
    · exact fs_Jvret S hr hk rfl d_Rf_withdraw_51
  · refine fs_if (fun _ _ _ _ => lv_if_eq hx hb d_Rf_withdraw_13 rfl) ?_ ?_
    · refine fs_lift (fun _ _ _ _ => lv_aload_n hx hb d_Rf_withdraw_20 rfl (lv_at hl 1 rfl)) ?_
      refine fs_Jgr S hG fs_in12 rfl 19 (Nat.le_of_ble_eq_true rfl) tw_5_211 (fun _ h9 => h9) d_Rf_withdraw_21 (fun r3 => ?_)
      refine fs_lift (fun _ _ _ _ => lv_iload_n hx hb d_Rf_withdraw_24 rfl (lv_at hl 0 rfl)) ?_
      refine fs_Jai S hG d_Rf_withdraw_25 (fun v4 => ?_)
      refine fs_ifn (fun _ _ _ _ => lv_if_ne hx hb d_Rf_withdraw_26 rfl) ?_ ?_
      · refine fs_lift (fun _ _ _ _ => lv_iconst (v := 2) hx hb d_Rf_withdraw_29 (by decide)) ?_
        refine fs_lift (fun _ _ _ _ => lv_goto hx hb d_Rf_withdraw_30 rfl) ?_
        exact hj34 2 ls (lv_sub hl [1, 0] rfl)
      · refine fs_lift (fun _ _ _ _ => lv_iconst (v := 0) hx hb d_Rf_withdraw_33 (by decide)) ?_
        exact hj34 0 ls (lv_sub hl [1, 0] rfl)
    · refine fs_lift (fun _ _ _ _ => lv_iconst (v := 1) hx hb d_Rf_withdraw_16 (by decide)) ?_
      refine fs_lift (fun _ _ _ _ => lv_goto hx hb d_Rf_withdraw_17 rfl) ?_
      exact hj34 1 ls (lv_sub hl [1, 0] rfl)

theorem d_Rf_restart_0 : decode prog_13_method_17_code 0 = .ok (.aload_n 0, 1) := by decide +kernel
theorem d_Rf_restart_1 : decode prog_13_method_17_code 1 = .ok (.aload_n 0, 1) := by decide +kernel
theorem d_Rf_restart_2 : decode prog_13_method_17_code 2 = .ok (.iload_n 1, 1) := by decide +kernel
theorem d_Rf_restart_3 : decode prog_13_method_17_code 3 = .ok (.invokevirtual 146, 3) := by decide +kernel
theorem d_Rf_restart_6 : decode prog_13_method_17_code 6 = .ok (.ifCond .eq 7, 3) := by decide +kernel
theorem d_Rf_restart_9 : decode prog_13_method_17_code 9 = .ok (.iconst 1, 1) := by decide +kernel
theorem d_Rf_restart_10 : decode prog_13_method_17_code 10 = .ok (.goto 18, 3) := by decide +kernel
theorem d_Rf_restart_13 : decode prog_13_method_17_code 13 = .ok (.aload_n 0, 1) := by decide +kernel
theorem d_Rf_restart_14 : decode prog_13_method_17_code 14 = .ok (.getfield 13, 3) := by decide +kernel
theorem d_Rf_restart_17 : decode prog_13_method_17_code 17 = .ok (.iload_n 1, 1) := by decide +kernel
theorem d_Rf_restart_18 : decode prog_13_method_17_code 18 = .ok (.iaload, 1) := by decide +kernel
theorem d_Rf_restart_19 : decode prog_13_method_17_code 19 = .ok (.iconst 5, 1) := by decide +kernel
theorem d_Rf_restart_20 : decode prog_13_method_17_code 20 = .ok (.if_icmp .ne 7, 3) := by decide +kernel
theorem d_Rf_restart_23 : decode prog_13_method_17_code 23 = .ok (.iconst 2, 1) := by decide +kernel
theorem d_Rf_restart_24 : decode prog_13_method_17_code 24 = .ok (.goto 4, 3) := by decide +kernel
theorem d_Rf_restart_27 : decode prog_13_method_17_code 27 = .ok (.iconst 0, 1) := by decide +kernel
theorem d_Rf_restart_28 : decode prog_13_method_17_code 28 = .ok (.putfield 138, 3) := by decide +kernel
theorem d_Rf_restart_31 : decode prog_13_method_17_code 31 = .ok (.aload_n 0, 1) := by decide +kernel
theorem d_Rf_restart_32 : decode prog_13_method_17_code 32 = .ok (.getfield 138, 3) := by decide +kernel
theorem d_Rf_restart_35 : decode prog_13_method_17_code 35 = .ok (.ifCond .eq 5, 3) := by decide +kernel
theorem d_Rf_restart_38 : decode prog_13_method_17_code 38 = .ok (.iconst 0, 1) := by decide +kernel
theorem d_Rf_restart_39 : decode prog_13_method_17_code 39 = .ok (.ireturn, 1) := by decide +kernel
theorem d_Rf_restart_40 : decode prog_13_method_17_code 40 = .ok (.aload_n 0, 1) := by decide +kernel
theorem d_Rf_restart_41 : decode prog_13_method_17_code 41 = .ok (.getfield 13, 3) := by decide +kernel
theorem d_Rf_restart_44 : decode prog_13_method_17_code 44 = .ok (.iload_n 1, 1) := by decide +kernel
theorem d_Rf_restart_45 : decode prog_13_method_17_code 45 = .ok (.dup2, 1) := by decide +kernel
theorem d_Rf_restart_46 : decode prog_13_method_17_code 46 = .ok (.iaload, 1) := by decide +kernel
theorem d_Rf_restart_47 : decode prog_13_method_17_code 47 = .ok (.iconst 1, 1) := by decide +kernel
theorem d_Rf_restart_48 : decode prog_13_method_17_code 48 = .ok (.iadd, 1) := by decide +kernel
theorem d_Rf_restart_49 : decode prog_13_method_17_code 49 = .ok (.iastore, 1) := by decide +kernel
theorem d_Rf_restart_50 : decode prog_13_method_17_code 50 = .ok (.aload_n 0, 1) := by decide +kernel
theorem d_Rf_restart_51 : decode prog_13_method_17_code 51 = .ok (.getfield 28, 3) := by decide +kernel
theorem d_Rf_restart_54 : decode prog_13_method_17_code 54 = .ok (.iload_n 1, 1) := by decide +kernel
theorem d_Rf_restart_55 : decode prog_13_method_17_code 55 = .ok (.iconst 0, 1) := by decide +kernel
theorem d_Rf_restart_56 : decode prog_13_method_17_code 56 = .ok (.iastore, 1) := by decide +kernel
theorem d_Rf_restart_57 : decode prog_13_method_17_code 57 = .ok (.aload_n 0, 1) := by decide +kernel
theorem d_Rf_restart_58 : decode prog_13_method_17_code 58 = .ok (.getfield 46, 3) := by decide +kernel
theorem d_Rf_restart_61 : decode prog_13_method_17_code 61 = .ok (.iload_n 1, 1) := by decide +kernel
theorem d_Rf_restart_62 : decode prog_13_method_17_code 62 = .ok (.iconst 0, 1) := by decide +kernel
theorem d_Rf_restart_63 : decode prog_13_method_17_code 63 = .ok (.iastore, 1) := by decide +kernel
theorem d_Rf_restart_64 : decode prog_13_method_17_code 64 = .ok (.aload_n 0, 1) := by decide +kernel
theorem d_Rf_restart_65 : decode prog_13_method_17_code 65 = .ok (.getfield 22, 3) := by decide +kernel
theorem d_Rf_restart_68 : decode prog_13_method_17_code 68 = .ok (.iload_n 1, 1) := by decide +kernel
theorem d_Rf_restart_69 : decode prog_13_method_17_code 69 = .ok (.iconst 0, 1) := by decide +kernel
theorem d_Rf_restart_70 : decode prog_13_method_17_code 70 = .ok (.iastore, 1) := by decide +kernel
theorem d_Rf_restart_71 : decode prog_13_method_17_code 71 = .ok (.aload_n 0, 1) := by decide +kernel
theorem d_Rf_restart_72 : decode prog_13_method_17_code 72 = .ok (.getfield 25, 3) := by decide +kernel
theorem d_Rf_restart_75 : decode prog_13_method_17_code 75 = .ok (.iload_n 1, 1) := by decide +kernel
theorem d_Rf_restart_76 : decode prog_13_method_17_code 76 = .ok (.iconst 0, 1) := by decide +kernel
theorem d_Rf_restart_77 : decode prog_13_method_17_code 77 = .ok (.iastore, 1) := by decide +kernel
theorem d_Rf_restart_78 : decode prog_13_method_17_code 78 = .ok (.aload_n 0, 1) := by decide +kernel
theorem d_Rf_restart_79 : decode prog_13_method_17_code 79 = .ok (.getfield 16, 3) := by decide +kernel
theorem d_Rf_restart_82 : decode prog_13_method_17_code 82 = .ok (.iload_n 1, 1) := by decide +kernel
theorem d_Rf_restart_83 : decode prog_13_method_17_code 83 = .ok (.iconst 1, 1) := by decide +kernel
theorem d_Rf_restart_84 : decode prog_13_method_17_code 84 = .ok (.iastore, 1) := by decide +kernel
theorem d_Rf_restart_85 : decode prog_13_method_17_code 85 = .ok (.aload_n 0, 1) := by decide +kernel
theorem d_Rf_restart_86 : decode prog_13_method_17_code 86 = .ok (.getfield 19, 3) := by decide +kernel
theorem d_Rf_restart_89 : decode prog_13_method_17_code 89 = .ok (.iload_n 1, 1) := by decide +kernel
theorem d_Rf_restart_90 : decode prog_13_method_17_code 90 = .ok (.iconst 0, 1) := by decide +kernel
theorem d_Rf_restart_91 : decode prog_13_method_17_code 91 = .ok (.iastore, 1) := by decide +kernel
theorem d_Rf_restart_92 : decode prog_13_method_17_code 92 = .ok (.iconst 3, 1) := by decide +kernel
theorem d_Rf_restart_93 : decode prog_13_method_17_code 93 = .ok (.iload_n 1, 1) := by decide +kernel
theorem d_Rf_restart_94 : decode prog_13_method_17_code 94 = .ok (.imul, 1) := by decide +kernel
theorem d_Rf_restart_95 : decode prog_13_method_17_code 95 = .ok (.istore_n 2, 1) := by decide +kernel
theorem d_Rf_restart_96 : decode prog_13_method_17_code 96 = .ok (.iload_n 2, 1) := by decide +kernel
theorem d_Rf_restart_97 : decode prog_13_method_17_code 97 = .ok (.iconst 3, 1) := by decide +kernel
theorem d_Rf_restart_98 : decode prog_13_method_17_code 98 = .ok (.iload_n 1, 1) := by decide +kernel
theorem d_Rf_restart_99 : decode prog_13_method_17_code 99 = .ok (.imul, 1) := by decide +kernel
theorem d_Rf_restart_100 : decode prog_13_method_17_code 100 = .ok (.iconst 3, 1) := by decide +kernel
theorem d_Rf_restart_101 : decode prog_13_method_17_code 101 = .ok (.iadd, 1) := by decide +kernel
theorem d_Rf_restart_102 : decode prog_13_method_17_code 102 = .ok (.if_icmp .ge 30, 3) := by decide +kernel
theorem d_Rf_restart_105 : decode prog_13_method_17_code 105 = .ok (.aload_n 0, 1) := by decide +kernel
theorem d_Rf_restart_106 : decode prog_13_method_17_code 106 = .ok (.getfield 52, 3) := by decide +kernel
theorem d_Rf_restart_109 : decode prog_13_method_17_code 109 = .ok (.iload_n 2, 1) := by decide +kernel
theorem d_Rf_restart_110 : decode prog_13_method_17_code 110 = .ok (.iconst 0, 1) := by decide +kernel
theorem d_Rf_restart_111 : decode prog_13_method_17_code 111 = .ok (.iastore, 1) := by decide +kernel
theorem d_Rf_restart_112 : decode prog_13_method_17_code 112 = .ok (.aload_n 0, 1) := by decide +kernel
theorem d_Rf_restart_113 : decode prog_13_method_17_code 113 = .ok (.getfield 61, 3) := by decide +kernel
theorem d_Rf_restart_116 : decode prog_13_method_17_code 116 = .ok (.iload_n 2, 1) := by decide +kernel
theorem d_Rf_restart_117 : decode prog_13_method_17_code 117 = .ok (.iconst 0, 1) := by decide +kernel
theorem d_Rf_restart_118 : decode prog_13_method_17_code 118 = .ok (.iastore, 1) := by decide +kernel
theorem d_Rf_restart_119 : decode prog_13_method_17_code 119 = .ok (.aload_n 0, 1) := by decide +kernel
theorem d_Rf_restart_120 : decode prog_13_method_17_code 120 = .ok (.getfield 64, 3) := by decide +kernel
theorem d_Rf_restart_123 : decode prog_13_method_17_code 123 = .ok (.iload_n 2, 1) := by decide +kernel
theorem d_Rf_restart_124 : decode prog_13_method_17_code 124 = .ok (.iconst 0, 1) := by decide +kernel
theorem d_Rf_restart_125 : decode prog_13_method_17_code 125 = .ok (.iastore, 1) := by decide +kernel
theorem d_Rf_restart_126 : decode prog_13_method_17_code 126 = .ok (.iinc 2 1, 3) := by decide +kernel
theorem d_Rf_restart_129 : decode prog_13_method_17_code 129 = .ok (.goto (-33), 3) := by decide +kernel
theorem d_Rf_restart_132 : decode prog_13_method_17_code 132 = .ok (.aload_n 0, 1) := by decide +kernel
theorem d_Rf_restart_133 : decode prog_13_method_17_code 133 = .ok (.getfield 13, 3) := by decide +kernel
theorem d_Rf_restart_136 : decode prog_13_method_17_code 136 = .ok (.iload_n 1, 1) := by decide +kernel
theorem d_Rf_restart_137 : decode prog_13_method_17_code 137 = .ok (.iaload, 1) := by decide +kernel
theorem d_Rf_restart_138 : decode prog_13_method_17_code 138 = .ok (.ireturn, 1) := by decide +kernel
theorem q_Rf_restart : (⟨"FlowShelfModel", "restart", "(I)I"⟩ : MethodName).cls ≠ "java/lang/invoke/MethodHandle" ∧ (⟨"FlowShelfModel", "restart", "(I)I"⟩ : MethodName).cls ≠ "java/lang/invoke/VarHandle" ∧ (parseMethodDescriptor (⟨"FlowShelfModel", "restart", "(I)I"⟩ : MethodName).desc).map (fun d => d.parameters.length) = some 1 := by decide +kernel
set_option maxHeartbeats 4000000 in
set_option maxRecDepth 100000 in
theorem m_Rf_restart (X : fs_X) (l : Launch) (a0 : Nat) (x1 : Int32) {r : Int32} {σ σF : fs_S} (h : (f_Rf_restart a0 x1).1 σ = some (r, σF)) : fs_Met X l ⟨"FlowShelfModel", "restart", "(I)I"⟩ (Cond.code ⟨"FlowShelfModel", "restart", "(I)I"⟩ prog_13_method_17_code 3 (some FieldType.int)) 1 21 [.ref a0, .int x1] σ (fs_eI r) σF := by
  refine fs_ofW (by decide) ?_
  intro p e s m args below meth c s₁ B hml hT hv
  obtain ⟨rfl, hw0, hG⟩ := hv
  have hx := B.exec
  have hb := B.bytes
  have hr := B.returns
  have hk := B.notSynchronized
  have S : CallFix p m c prog_13_method_17_code 3 s _ fs_ws "FlowShelfModel" := ⟨B.exec, B.bytes, hml, findClass_of_methodNamed B.named, fun w hw => atoms_spec (ws := _ :: fs_ws) B.pre w (List.mem_cons_of_mem _ hw)⟩
  have hR := fs_hR (fr := 1) (lo := 21) ((f_Rf_restart a0 x1).2 _ _ _ h)
  have hl := lv_entry ([.ref a0, .int x1]) (n := 3) (Nat.le_of_ble_eq_true rfl)
  rw [lg_entry_eq]
  generalize (lg_sl ([.ref a0, .int x1]) ++ List.replicate (3 - (lg_sl ([.ref a0, .int x1])).length) Slot.unset).toArray = ls at hl ⊢
  have hl : lv_has ls 3 [(0, .ref a0), (1, .int x1)] := hl
  refine (?_ : fs_J X p l e (fs_rm 1 21 σ σF) s m _ below meth c (fs_Q X below _ s (fs_eI r) σ σF) r σ σF (f_Rf_restart a0 x1) (F0 m 0 ls [])) σ s.heap [] 0 0 h hw0 va_S.rf rfl rfl
  clear h hw0
  unfold f_Rf_restart
  refine fs_lift (fun _ _ _ _ => lv_aload_n hx hb d_Rf_restart_0 rfl (lv_at hl 0 rfl)) ?_
  refine fs_lift (fun _ _ _ _ => lv_aload_n hx hb d_Rf_restart_1 rfl (lv_at hl 0 rfl)) ?_
  refine fs_lift (fun _ _ _ _ => lv_iload_n hx hb d_Rf_restart_2 rfl (lv_at hl 1 rfl)) ?_
  refine fs_JV S hG hR rfl [.int x1] (enc := fun r => some (.int r)) (fun zr zs zt zh => m_Rf_noExporter X l a0 x1 zh) tw_6_111 tw_6_113 tp_1_13 tw_6_114 tw_1_11 q_Rf_noExporter ⟨(Nat.le_of_ble_eq_true rfl), (Nat.le_of_ble_eq_true rfl)⟩ hl.1 rfl (Nat.le_of_ble_eq_true rfl) d_Rf_restart_3 (fun v1 => ?_)
  refine fs_Jeq (g2 := F0 m 6 ls [.int v1, .ref a0]) rfl ?_
  refine fs_Jlet1 (nL := 3) (pj := 28) (I := fun (v4 : Int32) => [(0, .ref a0), (1, .int x1)]) (st := fun (v4 : Int32) => [.int v4, .ref a0]) (fun v4 ls hl => ?_) (fun j28 hj28 => ?_)
  · refine fs_Jput S hG fs_in12 rfl 0 (Nat.le_of_ble_eq_true rfl) tw_5_192 (fun _ h9 => h9) fs_Y12 fs_ty12 fs_nm12 (Or.inl rfl) rfl rfl d_Rf_restart_28 ?_
    refine fs_lift (fun _ _ _ _ => lv_aload_n hx hb d_Rf_restart_31 rfl (lv_at hl 0 rfl)) ?_
    refine fs_Jgi S hG fs_in12 rfl 0 (Nat.le_of_ble_eq_true rfl) tw_5_192 (fun _ h9 => h9) d_Rf_restart_32 (fun v5 => ?_)
    refine fs_if (fun _ _ _ _ => lv_if_eq hx hb d_Rf_restart_35 rfl) ?_ ?_
    · refine fs_lift (fun _ _ _ _ => lv_aload_n hx hb d_Rf_restart_40 rfl (lv_at hl 0 rfl)) ?_
      refine fs_Jgr S hG fs_in12 rfl 2 (Nat.le_of_ble_eq_true rfl) tw_5_194 (fun _ h9 => h9) d_Rf_restart_41 (fun r6 => ?_)
      refine fs_lift (fun _ _ _ _ => lv_iload_n hx hb d_Rf_restart_44 rfl (lv_at hl 1 rfl)) ?_
      refine fs_lift (fun _ _ _ _ => lv_dup2_11 hx hb d_Rf_restart_45 rfl rfl) ?_
      refine fs_Jai S hG d_Rf_restart_46 (fun v7 => ?_)
      refine fs_lift (fun _ _ _ _ => lv_iconst (v := 1) hx hb d_Rf_restart_47 (by decide)) ?_
      refine fs_lift (fun _ _ _ _ => lv_iadd hx hb d_Rf_restart_48) ?_
      refine fs_Jsi S hG d_Rf_restart_49 ?_
      refine fs_lift (fun _ _ _ _ => lv_aload_n hx hb d_Rf_restart_50 rfl (lv_at hl 0 rfl)) ?_
      refine fs_Jgr S hG fs_in12 rfl 7 (Nat.le_of_ble_eq_true rfl) tw_5_199 (fun _ h9 => h9) d_Rf_restart_51 (fun r8 => ?_)
      refine fs_lift (fun _ _ _ _ => lv_iload_n hx hb d_Rf_restart_54 rfl (lv_at hl 1 rfl)) ?_
      refine fs_lift (fun _ _ _ _ => lv_iconst (v := 0) hx hb d_Rf_restart_55 (by decide)) ?_
      refine fs_Jsi S hG d_Rf_restart_56 ?_
      refine fs_lift (fun _ _ _ _ => lv_aload_n hx hb d_Rf_restart_57 rfl (lv_at hl 0 rfl)) ?_
      refine fs_Jgr S hG fs_in12 rfl 13 (Nat.le_of_ble_eq_true rfl) tw_5_205 (fun _ h9 => h9) d_Rf_restart_58 (fun r9 => ?_)
      refine fs_lift (fun _ _ _ _ => lv_iload_n hx hb d_Rf_restart_61 rfl (lv_at hl 1 rfl)) ?_
      refine fs_lift (fun _ _ _ _ => lv_iconst (v := 0) hx hb d_Rf_restart_62 (by decide)) ?_
      refine fs_Jsi S hG d_Rf_restart_63 ?_
      refine fs_lift (fun _ _ _ _ => lv_aload_n hx hb d_Rf_restart_64 rfl (lv_at hl 0 rfl)) ?_
      refine fs_Jgr S hG fs_in12 rfl 5 (Nat.le_of_ble_eq_true rfl) tw_5_197 (fun _ h9 => h9) d_Rf_restart_65 (fun r10 => ?_)
      refine fs_lift (fun _ _ _ _ => lv_iload_n hx hb d_Rf_restart_68 rfl (lv_at hl 1 rfl)) ?_
      refine fs_lift (fun _ _ _ _ => lv_iconst (v := 0) hx hb d_Rf_restart_69 (by decide)) ?_
      refine fs_Jsi S hG d_Rf_restart_70 ?_
      refine fs_lift (fun _ _ _ _ => lv_aload_n hx hb d_Rf_restart_71 rfl (lv_at hl 0 rfl)) ?_
      refine fs_Jgr S hG fs_in12 rfl 6 (Nat.le_of_ble_eq_true rfl) tw_5_198 (fun _ h9 => h9) d_Rf_restart_72 (fun r11 => ?_)
      refine fs_lift (fun _ _ _ _ => lv_iload_n hx hb d_Rf_restart_75 rfl (lv_at hl 1 rfl)) ?_
      refine fs_lift (fun _ _ _ _ => lv_iconst (v := 0) hx hb d_Rf_restart_76 (by decide)) ?_
      refine fs_Jsi S hG d_Rf_restart_77 ?_
      refine fs_lift (fun _ _ _ _ => lv_aload_n hx hb d_Rf_restart_78 rfl (lv_at hl 0 rfl)) ?_
      refine fs_Jgr S hG fs_in12 rfl 3 (Nat.le_of_ble_eq_true rfl) tw_5_195 (fun _ h9 => h9) d_Rf_restart_79 (fun r12 => ?_)
      refine fs_lift (fun _ _ _ _ => lv_iload_n hx hb d_Rf_restart_82 rfl (lv_at hl 1 rfl)) ?_
      refine fs_lift (fun _ _ _ _ => lv_iconst (v := 1) hx hb d_Rf_restart_83 (by decide)) ?_
      refine fs_Jsi S hG d_Rf_restart_84 ?_
      refine fs_lift (fun _ _ _ _ => lv_aload_n hx hb d_Rf_restart_85 rfl (lv_at hl 0 rfl)) ?_
      refine fs_Jgr S hG fs_in12 rfl 4 (Nat.le_of_ble_eq_true rfl) tw_5_196 (fun _ h9 => h9) d_Rf_restart_86 (fun r13 => ?_)
      refine fs_lift (fun _ _ _ _ => lv_iload_n hx hb d_Rf_restart_89 rfl (lv_at hl 1 rfl)) ?_
      refine fs_lift (fun _ _ _ _ => lv_iconst (v := 0) hx hb d_Rf_restart_90 (by decide)) ?_
      refine fs_Jsi S hG d_Rf_restart_91 ?_
      refine fs_lift (fun _ _ _ _ => lv_iconst (v := 3) hx hb d_Rf_restart_92 (by decide)) ?_
      refine fs_lift (fun _ _ _ _ => lv_iload_n hx hb d_Rf_restart_93 rfl (lv_at hl 1 rfl)) ?_
      refine fs_lift (fun _ _ _ _ => lv_imul hx hb d_Rf_restart_94) ?_
      refine fs_Jni (fun v14 => ?_)
      refine fs_liftL (fun _ _ _ _ => lv_istore_n (lv' := [(2, .int v14), (0, .ref a0), (1, .int x1)]) hx hb d_Rf_restart_95 rfl hl (Nat.le_of_ble_eq_true rfl) rfl) (fun ls hl => ?_)
      refine fs_Jlp1 (nL := 3) (pc := 96) (rest := []) (I := fun (v15 : Int32) => [(0, .ref a0), (1, .int x1), (2, .int v15)]) (fun k96 hk96 v15 ls hl => ?_) _ _ _ (lv_sub hl [1, 2, 0] rfl)
      refine fs_lift (fun _ _ _ _ => lv_iload_n hx hb d_Rf_restart_96 rfl (lv_at hl 2 rfl)) ?_
      refine fs_lift (fun _ _ _ _ => lv_iconst (v := 3) hx hb d_Rf_restart_97 (by decide)) ?_
      refine fs_lift (fun _ _ _ _ => lv_iload_n hx hb d_Rf_restart_98 rfl (lv_at hl 1 rfl)) ?_
      refine fs_lift (fun _ _ _ _ => lv_imul hx hb d_Rf_restart_99) ?_
      refine fs_lift (fun _ _ _ _ => lv_iconst (v := 3) hx hb d_Rf_restart_100 (by decide)) ?_
      refine fs_lift (fun _ _ _ _ => lv_iadd hx hb d_Rf_restart_101) ?_
      refine fs_if (fun _ _ _ _ => lv_icmp_ge hx hb d_Rf_restart_102 rfl) ?_ ?_
      · refine fs_lift (fun _ _ _ _ => lv_aload_n hx hb d_Rf_restart_132 rfl (lv_at hl 0 rfl)) ?_
        refine fs_Jgr S hG fs_in12 rfl 2 (Nat.le_of_ble_eq_true rfl) tw_5_194 (fun _ h9 => h9) d_Rf_restart_133 (fun r16 => ?_)
        refine fs_lift (fun _ _ _ _ => lv_iload_n hx hb d_Rf_restart_136 rfl (lv_at hl 1 rfl)) ?_
        refine fs_Jai S hG d_Rf_restart_137 (fun v17 => ?_)
        exact fs_Jiret S hr hk rfl d_Rf_restart_138
      · refine fs_lift (fun _ _ _ _ => lv_aload_n hx hb d_Rf_restart_105 rfl (lv_at hl 0 rfl)) ?_
        refine fs_Jgr S hG fs_in12 rfl 15 (Nat.le_of_ble_eq_true rfl) tw_5_207 (fun _ h9 => h9) d_Rf_restart_106 (fun r18 => ?_)
        refine fs_lift (fun _ _ _ _ => lv_iload_n hx hb d_Rf_restart_109 rfl (lv_at hl 2 rfl)) ?_
        refine fs_lift (fun _ _ _ _ => lv_iconst (v := 0) hx hb d_Rf_restart_110 (by decide)) ?_
        refine fs_Jsi S hG d_Rf_restart_111 ?_
        refine fs_lift (fun _ _ _ _ => lv_aload_n hx hb d_Rf_restart_112 rfl (lv_at hl 0 rfl)) ?_
        refine fs_Jgr S hG fs_in12 rfl 18 (Nat.le_of_ble_eq_true rfl) tw_5_210 (fun _ h9 => h9) d_Rf_restart_113 (fun r19 => ?_)
        refine fs_lift (fun _ _ _ _ => lv_iload_n hx hb d_Rf_restart_116 rfl (lv_at hl 2 rfl)) ?_
        refine fs_lift (fun _ _ _ _ => lv_iconst (v := 0) hx hb d_Rf_restart_117 (by decide)) ?_
        refine fs_Jsi S hG d_Rf_restart_118 ?_
        refine fs_lift (fun _ _ _ _ => lv_aload_n hx hb d_Rf_restart_119 rfl (lv_at hl 0 rfl)) ?_
        refine fs_Jgr S hG fs_in12 rfl 19 (Nat.le_of_ble_eq_true rfl) tw_5_211 (fun _ h9 => h9) d_Rf_restart_120 (fun r20 => ?_)
        refine fs_lift (fun _ _ _ _ => lv_iload_n hx hb d_Rf_restart_123 rfl (lv_at hl 2 rfl)) ?_
        refine fs_lift (fun _ _ _ _ => lv_iconst (v := 0) hx hb d_Rf_restart_124 (by decide)) ?_
        refine fs_Jsi S hG d_Rf_restart_125 ?_
        refine fs_Jnm (fun v21 hv9 => ?_)
        refine fs_liftL (fun _ _ _ _ => lv_iinc (k := 2) (v := v21) (lv' := [(2, .int v21), (0, .ref a0), (1, .int x1)]) hx hb d_Rf_restart_126 hl rfl (by rw [hv9]; rfl) (Nat.le_of_ble_eq_true rfl) rfl) (fun ls hl => ?_)
        refine fs_lift (fun _ _ _ _ => lv_goto hx hb d_Rf_restart_129 rfl) ?_
        exact hk96 v21 ls (lv_sub hl [1, 2, 0] rfl)
    · refine fs_lift (fun _ _ _ _ => lv_iconst (v := 0) hx hb d_Rf_restart_38 (by decide)) ?_
      exact fs_Jiret S hr hk rfl d_Rf_restart_39
  · refine fs_if (fun _ _ _ _ => lv_if_eq hx hb d_Rf_restart_6 rfl) ?_ ?_
    · refine fs_lift (fun _ _ _ _ => lv_aload_n hx hb d_Rf_restart_13 rfl (lv_at hl 0 rfl)) ?_
      refine fs_Jgr S hG fs_in12 rfl 2 (Nat.le_of_ble_eq_true rfl) tw_5_194 (fun _ h9 => h9) d_Rf_restart_14 (fun r2 => ?_)
      refine fs_lift (fun _ _ _ _ => lv_iload_n hx hb d_Rf_restart_17 rfl (lv_at hl 1 rfl)) ?_
      refine fs_Jai S hG d_Rf_restart_18 (fun v3 => ?_)
      refine fs_lift (fun _ _ _ _ => lv_iconst (v := 5) hx hb d_Rf_restart_19 (by decide)) ?_
      refine fs_ifn (fun _ _ _ _ => lv_icmp_ne hx hb d_Rf_restart_20 rfl) ?_ ?_
      · refine fs_lift (fun _ _ _ _ => lv_iconst (v := 2) hx hb d_Rf_restart_23 (by decide)) ?_
        refine fs_lift (fun _ _ _ _ => lv_goto hx hb d_Rf_restart_24 rfl) ?_
        exact hj28 2 ls (lv_sub hl [0, 1] rfl)
      · refine fs_lift (fun _ _ _ _ => lv_iconst (v := 0) hx hb d_Rf_restart_27 (by decide)) ?_
        exact hj28 0 ls (lv_sub hl [0, 1] rfl)
    · refine fs_lift (fun _ _ _ _ => lv_iconst (v := 1) hx hb d_Rf_restart_9 (by decide)) ?_
      refine fs_lift (fun _ _ _ _ => lv_goto hx hb d_Rf_restart_10 rfl) ?_
      exact hj28 1 ls (lv_sub hl [0, 1] rfl)

theorem d_Rf_write_0 : decode prog_13_method_18_code 0 = .ok (.aload_n 0, 1) := by decide +kernel
theorem d_Rf_write_1 : decode prog_13_method_18_code 1 = .ok (.getfield 82, 3) := by decide +kernel
theorem d_Rf_write_4 : decode prog_13_method_18_code 4 = .ok (.bipush 64, 2) := by decide +kernel
theorem d_Rf_write_6 : decode prog_13_method_18_code 6 = .ok (.aload_n 0, 1) := by decide +kernel
theorem d_Rf_write_7 : decode prog_13_method_18_code 7 = .ok (.getfield 168, 3) := by decide +kernel
theorem d_Rf_write_10 : decode prog_13_method_18_code 10 = .ok (.imul, 1) := by decide +kernel
theorem d_Rf_write_11 : decode prog_13_method_18_code 11 = .ok (.aload_n 0, 1) := by decide +kernel
theorem d_Rf_write_12 : decode prog_13_method_18_code 12 = .ok (.getfield 79, 3) := by decide +kernel
theorem d_Rf_write_15 : decode prog_13_method_18_code 15 = .ok (.aload_n 0, 1) := by decide +kernel
theorem d_Rf_write_16 : decode prog_13_method_18_code 16 = .ok (.getfield 168, 3) := by decide +kernel
theorem d_Rf_write_19 : decode prog_13_method_18_code 19 = .ok (.iaload, 1) := by decide +kernel
theorem d_Rf_write_20 : decode prog_13_method_18_code 20 = .ok (.iadd, 1) := by decide +kernel
theorem d_Rf_write_21 : decode prog_13_method_18_code 21 = .ok (.iload_n 1, 1) := by decide +kernel
theorem d_Rf_write_22 : decode prog_13_method_18_code 22 = .ok (.iastore, 1) := by decide +kernel
theorem d_Rf_write_23 : decode prog_13_method_18_code 23 = .ok (.aload_n 0, 1) := by decide +kernel
theorem d_Rf_write_24 : decode prog_13_method_18_code 24 = .ok (.getfield 79, 3) := by decide +kernel
theorem d_Rf_write_27 : decode prog_13_method_18_code 27 = .ok (.aload_n 0, 1) := by decide +kernel
theorem d_Rf_write_28 : decode prog_13_method_18_code 28 = .ok (.getfield 168, 3) := by decide +kernel
theorem d_Rf_write_31 : decode prog_13_method_18_code 31 = .ok (.dup2, 1) := by decide +kernel
theorem d_Rf_write_32 : decode prog_13_method_18_code 32 = .ok (.iaload, 1) := by decide +kernel
theorem d_Rf_write_33 : decode prog_13_method_18_code 33 = .ok (.iconst 1, 1) := by decide +kernel
theorem d_Rf_write_34 : decode prog_13_method_18_code 34 = .ok (.iadd, 1) := by decide +kernel
theorem d_Rf_write_35 : decode prog_13_method_18_code 35 = .ok (.iastore, 1) := by decide +kernel
theorem d_Rf_write_36 : decode prog_13_method_18_code 36 = .ok (.return_, 1) := by decide +kernel
theorem q_Rf_write : (⟨"FlowShelfModel", "write", "(I)V"⟩ : MethodName).cls ≠ "java/lang/invoke/MethodHandle" ∧ (⟨"FlowShelfModel", "write", "(I)V"⟩ : MethodName).cls ≠ "java/lang/invoke/VarHandle" ∧ (parseMethodDescriptor (⟨"FlowShelfModel", "write", "(I)V"⟩ : MethodName).desc).map (fun d => d.parameters.length) = some 1 := by decide +kernel
set_option maxHeartbeats 4000000 in
set_option maxRecDepth 100000 in
theorem m_Rf_write (X : fs_X) (l : Launch) (a0 : Nat) (x1 : Int32) {r : Unit} {σ σF : fs_S} (h : (f_Rf_write a0 x1).1 σ = some (r, σF)) : fs_Met X l ⟨"FlowShelfModel", "write", "(I)V"⟩ (Cond.code ⟨"FlowShelfModel", "write", "(I)V"⟩ prog_13_method_18_code 2 none) 0 0 [.ref a0, .int x1] σ (fs_eV r) σF := by
  refine fs_ofW (by decide) ?_
  intro p e s m args below meth c s₁ B hml hT hv
  obtain ⟨rfl, hw0, hG⟩ := hv
  have hx := B.exec
  have hb := B.bytes
  have hr := B.returns
  have hk := B.notSynchronized
  have S : CallFix p m c prog_13_method_18_code 2 s _ fs_ws "FlowShelfModel" := ⟨B.exec, B.bytes, hml, findClass_of_methodNamed B.named, fun w hw => atoms_spec (ws := _ :: fs_ws) B.pre w (List.mem_cons_of_mem _ hw)⟩
  have hR := fs_hR (fr := 0) (lo := 0) ((f_Rf_write a0 x1).2 _ _ _ h)
  have hl := lv_entry ([.ref a0, .int x1]) (n := 2) (Nat.le_of_ble_eq_true rfl)
  rw [lg_entry_eq]
  generalize (lg_sl ([.ref a0, .int x1]) ++ List.replicate (2 - (lg_sl ([.ref a0, .int x1])).length) Slot.unset).toArray = ls at hl ⊢
  have hl : lv_has ls 2 [(0, .ref a0), (1, .int x1)] := hl
  refine (?_ : fs_J X p l e (fs_rm 0 0 σ σF) s m _ below meth c (fs_Q X below _ s (fs_eV r) σ σF) r σ σF (f_Rf_write a0 x1) (F0 m 0 ls [])) σ s.heap [] 0 0 h hw0 va_S.rf rfl rfl
  clear h hw0
  unfold f_Rf_write
  refine fs_lift (fun _ _ _ _ => lv_aload_n hx hb d_Rf_write_0 rfl (lv_at hl 0 rfl)) ?_
  refine fs_Jgr S hG fs_in12 rfl 27 (Nat.le_of_ble_eq_true rfl) tw_5_219 (fun _ h9 => h9) d_Rf_write_1 (fun r1 => ?_)
  refine fs_lift (fun _ _ _ _ => lv_bipush (v := 64) hx hb d_Rf_write_4 (by decide)) ?_
  refine fs_lift (fun _ _ _ _ => lv_aload_n hx hb d_Rf_write_6 rfl (lv_at hl 0 rfl)) ?_
  refine fs_Jgi S hG fs_in12 rfl 25 (Nat.le_of_ble_eq_true rfl) tw_5_217 (fun _ h9 => h9) d_Rf_write_7 (fun v2 => ?_)
  refine fs_lift (fun _ _ _ _ => lv_imul hx hb d_Rf_write_10) ?_
  refine fs_lift (fun _ _ _ _ => lv_aload_n hx hb d_Rf_write_11 rfl (lv_at hl 0 rfl)) ?_
  refine fs_Jgr S hG fs_in12 rfl 26 (Nat.le_of_ble_eq_true rfl) tw_5_218 (fun _ h9 => h9) d_Rf_write_12 (fun r3 => ?_)
  refine fs_lift (fun _ _ _ _ => lv_aload_n hx hb d_Rf_write_15 rfl (lv_at hl 0 rfl)) ?_
  refine fs_Jgi S hG fs_in12 rfl 25 (Nat.le_of_ble_eq_true rfl) tw_5_217 (fun _ h9 => h9) d_Rf_write_16 (fun v4 => ?_)
  refine fs_Jai S hG d_Rf_write_19 (fun v5 => ?_)
  refine fs_lift (fun _ _ _ _ => lv_iadd hx hb d_Rf_write_20) ?_
  refine fs_lift (fun _ _ _ _ => lv_iload_n hx hb d_Rf_write_21 rfl (lv_at hl 1 rfl)) ?_
  refine fs_Jsi S hG d_Rf_write_22 ?_
  refine fs_lift (fun _ _ _ _ => lv_aload_n hx hb d_Rf_write_23 rfl (lv_at hl 0 rfl)) ?_
  refine fs_Jgr S hG fs_in12 rfl 26 (Nat.le_of_ble_eq_true rfl) tw_5_218 (fun _ h9 => h9) d_Rf_write_24 (fun r6 => ?_)
  refine fs_lift (fun _ _ _ _ => lv_aload_n hx hb d_Rf_write_27 rfl (lv_at hl 0 rfl)) ?_
  refine fs_Jgi S hG fs_in12 rfl 25 (Nat.le_of_ble_eq_true rfl) tw_5_217 (fun _ h9 => h9) d_Rf_write_28 (fun v7 => ?_)
  refine fs_lift (fun _ _ _ _ => lv_dup2_11 hx hb d_Rf_write_31 rfl rfl) ?_
  refine fs_Jai S hG d_Rf_write_32 (fun v8 => ?_)
  refine fs_lift (fun _ _ _ _ => lv_iconst (v := 1) hx hb d_Rf_write_33 (by decide)) ?_
  refine fs_lift (fun _ _ _ _ => lv_iadd hx hb d_Rf_write_34) ?_
  refine fs_Jsi S hG d_Rf_write_35 ?_
  exact fs_Jvret S hr hk rfl d_Rf_write_36

theorem d_Rf_head_0 : decode prog_13_method_19_code 0 = .ok (.aload_n 0, 1) := by decide +kernel
theorem d_Rf_head_1 : decode prog_13_method_19_code 1 = .ok (.getfield 79, 3) := by decide +kernel
theorem d_Rf_head_4 : decode prog_13_method_19_code 4 = .ok (.aload_n 0, 1) := by decide +kernel
theorem d_Rf_head_5 : decode prog_13_method_19_code 5 = .ok (.getfield 168, 3) := by decide +kernel
theorem d_Rf_head_8 : decode prog_13_method_19_code 8 = .ok (.iconst 0, 1) := by decide +kernel
theorem d_Rf_head_9 : decode prog_13_method_19_code 9 = .ok (.iastore, 1) := by decide +kernel
theorem d_Rf_head_10 : decode prog_13_method_19_code 10 = .ok (.aload_n 0, 1) := by decide +kernel
theorem d_Rf_head_11 : decode prog_13_method_19_code 11 = .ok (.iload_n 1, 1) := by decide +kernel
theorem d_Rf_head_12 : decode prog_13_method_19_code 12 = .ok (.invokevirtual 171, 3) := by decide +kernel
theorem d_Rf_head_15 : decode prog_13_method_19_code 15 = .ok (.aload_n 0, 1) := by decide +kernel
theorem d_Rf_head_16 : decode prog_13_method_19_code 16 = .ok (.aload_n 0, 1) := by decide +kernel
theorem d_Rf_head_17 : decode prog_13_method_19_code 17 = .ok (.getfield 13, 3) := by decide +kernel
theorem d_Rf_head_20 : decode prog_13_method_19_code 20 = .ok (.iload_n 1, 1) := by decide +kernel
theorem d_Rf_head_21 : decode prog_13_method_19_code 21 = .ok (.iaload, 1) := by decide +kernel
theorem d_Rf_head_22 : decode prog_13_method_19_code 22 = .ok (.invokevirtual 171, 3) := by decide +kernel
theorem d_Rf_head_25 : decode prog_13_method_19_code 25 = .ok (.aload_n 0, 1) := by decide +kernel
theorem d_Rf_head_26 : decode prog_13_method_19_code 26 = .ok (.iload_n 2, 1) := by decide +kernel
theorem d_Rf_head_27 : decode prog_13_method_19_code 27 = .ok (.invokevirtual 171, 3) := by decide +kernel
theorem d_Rf_head_30 : decode prog_13_method_19_code 30 = .ok (.return_, 1) := by decide +kernel
theorem q_Rf_head : (⟨"FlowShelfModel", "head", "(II)V"⟩ : MethodName).cls ≠ "java/lang/invoke/MethodHandle" ∧ (⟨"FlowShelfModel", "head", "(II)V"⟩ : MethodName).cls ≠ "java/lang/invoke/VarHandle" ∧ (parseMethodDescriptor (⟨"FlowShelfModel", "head", "(II)V"⟩ : MethodName).desc).map (fun d => d.parameters.length) = some 2 := by decide +kernel
set_option maxHeartbeats 4000000 in
set_option maxRecDepth 100000 in
theorem m_Rf_head (X : fs_X) (l : Launch) (a0 : Nat) (x1 : Int32) (x2 : Int32) {r : Unit} {σ σF : fs_S} (h : (f_Rf_head a0 x1 x2).1 σ = some (r, σF)) : fs_Met X l ⟨"FlowShelfModel", "head", "(II)V"⟩ (Cond.code ⟨"FlowShelfModel", "head", "(II)V"⟩ prog_13_method_19_code 3 none) 1 21 [.ref a0, .int x1, .int x2] σ (fs_eV r) σF := by
  refine fs_ofW (by decide) ?_
  intro p e s m args below meth c s₁ B hml hT hv
  obtain ⟨rfl, hw0, hG⟩ := hv
  have hx := B.exec
  have hb := B.bytes
  have hr := B.returns
  have hk := B.notSynchronized
  have S : CallFix p m c prog_13_method_19_code 3 s _ fs_ws "FlowShelfModel" := ⟨B.exec, B.bytes, hml, findClass_of_methodNamed B.named, fun w hw => atoms_spec (ws := _ :: fs_ws) B.pre w (List.mem_cons_of_mem _ hw)⟩
  have hR := fs_hR (fr := 1) (lo := 21) ((f_Rf_head a0 x1 x2).2 _ _ _ h)
  have hl := lv_entry ([.ref a0, .int x1, .int x2]) (n := 3) (Nat.le_of_ble_eq_true rfl)
  rw [lg_entry_eq]
  generalize (lg_sl ([.ref a0, .int x1, .int x2]) ++ List.replicate (3 - (lg_sl ([.ref a0, .int x1, .int x2])).length) Slot.unset).toArray = ls at hl ⊢
  have hl : lv_has ls 3 [(0, .ref a0), (1, .int x1), (2, .int x2)] := hl
  refine (?_ : fs_J X p l e (fs_rm 1 21 σ σF) s m _ below meth c (fs_Q X below _ s (fs_eV r) σ σF) r σ σF (f_Rf_head a0 x1 x2) (F0 m 0 ls [])) σ s.heap [] 0 0 h hw0 va_S.rf rfl rfl
  clear h hw0
  unfold f_Rf_head
  refine fs_lift (fun _ _ _ _ => lv_aload_n hx hb d_Rf_head_0 rfl (lv_at hl 0 rfl)) ?_
  refine fs_Jgr S hG fs_in12 rfl 26 (Nat.le_of_ble_eq_true rfl) tw_5_218 (fun _ h9 => h9) d_Rf_head_1 (fun r1 => ?_)
  refine fs_lift (fun _ _ _ _ => lv_aload_n hx hb d_Rf_head_4 rfl (lv_at hl 0 rfl)) ?_
  refine fs_Jgi S hG fs_in12 rfl 25 (Nat.le_of_ble_eq_true rfl) tw_5_217 (fun _ h9 => h9) d_Rf_head_5 (fun v2 => ?_)
  refine fs_lift (fun _ _ _ _ => lv_iconst (v := 0) hx hb d_Rf_head_8 (by decide)) ?_
  refine fs_Jsi S hG d_Rf_head_9 ?_
  refine fs_lift (fun _ _ _ _ => lv_aload_n hx hb d_Rf_head_10 rfl (lv_at hl 0 rfl)) ?_
  refine fs_lift (fun _ _ _ _ => lv_iload_n hx hb d_Rf_head_11 rfl (lv_at hl 1 rfl)) ?_
  refine fs_JV S hG hR rfl [.int x1] (enc := fun _ => none) (fun zr zs zt zh => m_Rf_write X l a0 x1 zh) tw_6_175 tw_6_177 tp_2_4 tw_6_178 tw_1_11 q_Rf_write ⟨(Nat.le_of_ble_eq_true rfl), (Nat.le_of_ble_eq_true rfl)⟩ hl.1 rfl (Nat.le_of_ble_eq_true rfl) d_Rf_head_12 (fun _ => ?_)
  refine fs_Jeq (g2 := F0 m 15 ls []) rfl ?_
  refine fs_lift (fun _ _ _ _ => lv_aload_n hx hb d_Rf_head_15 rfl (lv_at hl 0 rfl)) ?_
  refine fs_lift (fun _ _ _ _ => lv_aload_n hx hb d_Rf_head_16 rfl (lv_at hl 0 rfl)) ?_
  refine fs_Jgr S hG fs_in12 rfl 2 (Nat.le_of_ble_eq_true rfl) tw_5_194 (fun _ h9 => h9) d_Rf_head_17 (fun r3 => ?_)
  refine fs_lift (fun _ _ _ _ => lv_iload_n hx hb d_Rf_head_20 rfl (lv_at hl 1 rfl)) ?_
  refine fs_Jai S hG d_Rf_head_21 (fun v4 => ?_)
  refine fs_JV S hG hR rfl [.int v4] (enc := fun _ => none) (fun zr zs zt zh => m_Rf_write X l a0 v4 zh) tw_6_175 tw_6_177 tp_2_4 tw_6_178 tw_1_11 q_Rf_write ⟨(Nat.le_of_ble_eq_true rfl), (Nat.le_of_ble_eq_true rfl)⟩ hl.1 rfl (Nat.le_of_ble_eq_true rfl) d_Rf_head_22 (fun _ => ?_)
  refine fs_Jeq (g2 := F0 m 25 ls []) rfl ?_
  refine fs_lift (fun _ _ _ _ => lv_aload_n hx hb d_Rf_head_25 rfl (lv_at hl 0 rfl)) ?_
  refine fs_lift (fun _ _ _ _ => lv_iload_n hx hb d_Rf_head_26 rfl (lv_at hl 2 rfl)) ?_
  refine fs_JV S hG hR rfl [.int x2] (enc := fun _ => none) (fun zr zs zt zh => m_Rf_write X l a0 x2 zh) tw_6_175 tw_6_177 tp_2_4 tw_6_178 tw_1_11 q_Rf_write ⟨(Nat.le_of_ble_eq_true rfl), (Nat.le_of_ble_eq_true rfl)⟩ hl.1 rfl (Nat.le_of_ble_eq_true rfl) d_Rf_head_27 (fun _ => ?_)
  refine fs_Jeq (g2 := F0 m 30 ls []) rfl ?_
  exact fs_Jvret S hr hk rfl d_Rf_head_30

theorem d_Rf_announce_0 : decode prog_13_method_20_code 0 = .ok (.iconst 3, 1) := by decide +kernel
theorem d_Rf_announce_1 : decode prog_13_method_20_code 1 = .ok (.iload_n 1, 1) := by decide +kernel
theorem d_Rf_announce_2 : decode prog_13_method_20_code 2 = .ok (.imul, 1) := by decide +kernel
theorem d_Rf_announce_3 : decode prog_13_method_20_code 3 = .ok (.iload_n 2, 1) := by decide +kernel
theorem d_Rf_announce_4 : decode prog_13_method_20_code 4 = .ok (.iadd, 1) := by decide +kernel
theorem d_Rf_announce_5 : decode prog_13_method_20_code 5 = .ok (.istore_n 3, 1) := by decide +kernel
theorem d_Rf_announce_6 : decode prog_13_method_20_code 6 = .ok (.aload_n 0, 1) := by decide +kernel
theorem d_Rf_announce_7 : decode prog_13_method_20_code 7 = .ok (.aload_n 0, 1) := by decide +kernel
theorem d_Rf_announce_8 : decode prog_13_method_20_code 8 = .ok (.iload_n 1, 1) := by decide +kernel
theorem d_Rf_announce_9 : decode prog_13_method_20_code 9 = .ok (.iload_n 2, 1) := by decide +kernel
theorem d_Rf_announce_10 : decode prog_13_method_20_code 10 = .ok (.invokevirtual 157, 3) := by decide +kernel
theorem d_Rf_announce_13 : decode prog_13_method_20_code 13 = .ok (.ifCond .eq 7, 3) := by decide +kernel
theorem d_Rf_announce_16 : decode prog_13_method_20_code 16 = .ok (.iconst 1, 1) := by decide +kernel
theorem d_Rf_announce_17 : decode prog_13_method_20_code 17 = .ok (.goto 26, 3) := by decide +kernel
theorem d_Rf_announce_20 : decode prog_13_method_20_code 20 = .ok (.aload_n 0, 1) := by decide +kernel
theorem d_Rf_announce_21 : decode prog_13_method_20_code 21 = .ok (.getfield 64, 3) := by decide +kernel
theorem d_Rf_announce_24 : decode prog_13_method_20_code 24 = .ok (.iload_n 3, 1) := by decide +kernel
theorem d_Rf_announce_25 : decode prog_13_method_20_code 25 = .ok (.iaload, 1) := by decide +kernel
theorem d_Rf_announce_26 : decode prog_13_method_20_code 26 = .ok (.ifCond .eq 12, 3) := by decide +kernel
theorem d_Rf_announce_29 : decode prog_13_method_20_code 29 = .ok (.aload_n 0, 1) := by decide +kernel
theorem d_Rf_announce_30 : decode prog_13_method_20_code 30 = .ok (.getfield 168, 3) := by decide +kernel
theorem d_Rf_announce_33 : decode prog_13_method_20_code 33 = .ok (.bipush 30, 2) := by decide +kernel
theorem d_Rf_announce_35 : decode prog_13_method_20_code 35 = .ok (.if_icmp .ne 7, 3) := by decide +kernel
theorem d_Rf_announce_38 : decode prog_13_method_20_code 38 = .ok (.iconst 2, 1) := by decide +kernel
theorem d_Rf_announce_39 : decode prog_13_method_20_code 39 = .ok (.goto 4, 3) := by decide +kernel
theorem d_Rf_announce_42 : decode prog_13_method_20_code 42 = .ok (.iconst 0, 1) := by decide +kernel
theorem d_Rf_announce_43 : decode prog_13_method_20_code 43 = .ok (.putfield 138, 3) := by decide +kernel
theorem d_Rf_announce_46 : decode prog_13_method_20_code 46 = .ok (.aload_n 0, 1) := by decide +kernel
theorem d_Rf_announce_47 : decode prog_13_method_20_code 47 = .ok (.getfield 138, 3) := by decide +kernel
theorem d_Rf_announce_50 : decode prog_13_method_20_code 50 = .ok (.ifCond .eq 5, 3) := by decide +kernel
theorem d_Rf_announce_53 : decode prog_13_method_20_code 53 = .ok (.iconst 0, 1) := by decide +kernel
theorem d_Rf_announce_54 : decode prog_13_method_20_code 54 = .ok (.ireturn, 1) := by decide +kernel
theorem d_Rf_announce_55 : decode prog_13_method_20_code 55 = .ok (.aload_n 0, 1) := by decide +kernel
theorem d_Rf_announce_56 : decode prog_13_method_20_code 56 = .ok (.iload_n 1, 1) := by decide +kernel
theorem d_Rf_announce_57 : decode prog_13_method_20_code 57 = .ok (.iconst 0, 1) := by decide +kernel
theorem d_Rf_announce_58 : decode prog_13_method_20_code 58 = .ok (.invokevirtual 175, 3) := by decide +kernel
theorem d_Rf_announce_61 : decode prog_13_method_20_code 61 = .ok (.aload_n 0, 1) := by decide +kernel
theorem d_Rf_announce_62 : decode prog_13_method_20_code 62 = .ok (.iload_n 2, 1) := by decide +kernel
theorem d_Rf_announce_63 : decode prog_13_method_20_code 63 = .ok (.invokevirtual 171, 3) := by decide +kernel
theorem d_Rf_announce_66 : decode prog_13_method_20_code 66 = .ok (.aload_n 0, 1) := by decide +kernel
theorem d_Rf_announce_67 : decode prog_13_method_20_code 67 = .ok (.aload_n 0, 1) := by decide +kernel
theorem d_Rf_announce_68 : decode prog_13_method_20_code 68 = .ok (.getfield 64, 3) := by decide +kernel
theorem d_Rf_announce_71 : decode prog_13_method_20_code 71 = .ok (.iload_n 3, 1) := by decide +kernel
theorem d_Rf_announce_72 : decode prog_13_method_20_code 72 = .ok (.iaload, 1) := by decide +kernel
theorem d_Rf_announce_73 : decode prog_13_method_20_code 73 = .ok (.invokevirtual 171, 3) := by decide +kernel
theorem d_Rf_announce_76 : decode prog_13_method_20_code 76 = .ok (.aload_n 0, 1) := by decide +kernel
theorem d_Rf_announce_77 : decode prog_13_method_20_code 77 = .ok (.aload_n 0, 1) := by decide +kernel
theorem d_Rf_announce_78 : decode prog_13_method_20_code 78 = .ok (.getfield 67, 3) := by decide +kernel
theorem d_Rf_announce_81 : decode prog_13_method_20_code 81 = .ok (.iload_n 3, 1) := by decide +kernel
theorem d_Rf_announce_82 : decode prog_13_method_20_code 82 = .ok (.iaload, 1) := by decide +kernel
theorem d_Rf_announce_83 : decode prog_13_method_20_code 83 = .ok (.invokevirtual 171, 3) := by decide +kernel
theorem d_Rf_announce_86 : decode prog_13_method_20_code 86 = .ok (.bipush 8, 2) := by decide +kernel
theorem d_Rf_announce_88 : decode prog_13_method_20_code 88 = .ok (.iload_n 3, 1) := by decide +kernel
theorem d_Rf_announce_89 : decode prog_13_method_20_code 89 = .ok (.imul, 1) := by decide +kernel
theorem d_Rf_announce_90 : decode prog_13_method_20_code 90 = .ok (.istore 4, 2) := by decide +kernel
theorem d_Rf_announce_92 : decode prog_13_method_20_code 92 = .ok (.iload 4, 2) := by decide +kernel
theorem d_Rf_announce_94 : decode prog_13_method_20_code 94 = .ok (.bipush 8, 2) := by decide +kernel
theorem d_Rf_announce_96 : decode prog_13_method_20_code 96 = .ok (.iload_n 3, 1) := by decide +kernel
theorem d_Rf_announce_97 : decode prog_13_method_20_code 97 = .ok (.imul, 1) := by decide +kernel
theorem d_Rf_announce_98 : decode prog_13_method_20_code 98 = .ok (.aload_n 0, 1) := by decide +kernel
theorem d_Rf_announce_99 : decode prog_13_method_20_code 99 = .ok (.getfield 67, 3) := by decide +kernel
theorem d_Rf_announce_102 : decode prog_13_method_20_code 102 = .ok (.iload_n 3, 1) := by decide +kernel
theorem d_Rf_announce_103 : decode prog_13_method_20_code 103 = .ok (.iaload, 1) := by decide +kernel
theorem d_Rf_announce_104 : decode prog_13_method_20_code 104 = .ok (.iadd, 1) := by decide +kernel
theorem d_Rf_announce_105 : decode prog_13_method_20_code 105 = .ok (.if_icmp .ge 31, 3) := by decide +kernel
theorem d_Rf_announce_108 : decode prog_13_method_20_code 108 = .ok (.aload_n 0, 1) := by decide +kernel
theorem d_Rf_announce_109 : decode prog_13_method_20_code 109 = .ok (.aload_n 0, 1) := by decide +kernel
theorem d_Rf_announce_110 : decode prog_13_method_20_code 110 = .ok (.getfield 70, 3) := by decide +kernel
theorem d_Rf_announce_113 : decode prog_13_method_20_code 113 = .ok (.iload 4, 2) := by decide +kernel
theorem d_Rf_announce_115 : decode prog_13_method_20_code 115 = .ok (.iaload, 1) := by decide +kernel
theorem d_Rf_announce_116 : decode prog_13_method_20_code 116 = .ok (.invokevirtual 171, 3) := by decide +kernel
theorem d_Rf_announce_119 : decode prog_13_method_20_code 119 = .ok (.aload_n 0, 1) := by decide +kernel
theorem d_Rf_announce_120 : decode prog_13_method_20_code 120 = .ok (.aload_n 0, 1) := by decide +kernel
theorem d_Rf_announce_121 : decode prog_13_method_20_code 121 = .ok (.getfield 73, 3) := by decide +kernel
theorem d_Rf_announce_124 : decode prog_13_method_20_code 124 = .ok (.iload 4, 2) := by decide +kernel
theorem d_Rf_announce_126 : decode prog_13_method_20_code 126 = .ok (.iaload, 1) := by decide +kernel
theorem d_Rf_announce_127 : decode prog_13_method_20_code 127 = .ok (.invokevirtual 171, 3) := by decide +kernel
theorem d_Rf_announce_130 : decode prog_13_method_20_code 130 = .ok (.iinc 4 1, 3) := by decide +kernel
theorem d_Rf_announce_133 : decode prog_13_method_20_code 133 = .ok (.goto (-41), 3) := by decide +kernel
theorem d_Rf_announce_136 : decode prog_13_method_20_code 136 = .ok (.aload_n 0, 1) := by decide +kernel
theorem d_Rf_announce_137 : decode prog_13_method_20_code 137 = .ok (.dup, 1) := by decide +kernel
theorem d_Rf_announce_138 : decode prog_13_method_20_code 138 = .ok (.getfield 168, 3) := by decide +kernel
theorem d_Rf_announce_141 : decode prog_13_method_20_code 141 = .ok (.iconst 1, 1) := by decide +kernel
theorem d_Rf_announce_142 : decode prog_13_method_20_code 142 = .ok (.iadd, 1) := by decide +kernel
theorem d_Rf_announce_143 : decode prog_13_method_20_code 143 = .ok (.putfield 168, 3) := by decide +kernel
theorem d_Rf_announce_146 : decode prog_13_method_20_code 146 = .ok (.aload_n 0, 1) := by decide +kernel
theorem d_Rf_announce_147 : decode prog_13_method_20_code 147 = .ok (.getfield 168, 3) := by decide +kernel
theorem d_Rf_announce_150 : decode prog_13_method_20_code 150 = .ok (.iconst 1, 1) := by decide +kernel
theorem d_Rf_announce_151 : decode prog_13_method_20_code 151 = .ok (.isub, 1) := by decide +kernel
theorem d_Rf_announce_152 : decode prog_13_method_20_code 152 = .ok (.ireturn, 1) := by decide +kernel
theorem q_Rf_announce : (⟨"FlowShelfModel", "announce", "(II)I"⟩ : MethodName).cls ≠ "java/lang/invoke/MethodHandle" ∧ (⟨"FlowShelfModel", "announce", "(II)I"⟩ : MethodName).cls ≠ "java/lang/invoke/VarHandle" ∧ (parseMethodDescriptor (⟨"FlowShelfModel", "announce", "(II)I"⟩ : MethodName).desc).map (fun d => d.parameters.length) = some 2 := by decide +kernel
set_option maxHeartbeats 4000000 in
set_option maxRecDepth 100000 in
theorem m_Rf_announce (X : fs_X) (l : Launch) (a0 : Nat) (x1 : Int32) (x2 : Int32) {r : Int32} {σ σF : fs_S} (h : (f_Rf_announce a0 x1 x2).1 σ = some (r, σF)) : fs_Met X l ⟨"FlowShelfModel", "announce", "(II)I"⟩ (Cond.code ⟨"FlowShelfModel", "announce", "(II)I"⟩ prog_13_method_20_code 5 (some FieldType.int)) 2 43 [.ref a0, .int x1, .int x2] σ (fs_eI r) σF := by
  refine fs_ofW (by decide) ?_
  intro p e s m args below meth c s₁ B hml hT hv
  obtain ⟨rfl, hw0, hG⟩ := hv
  have hx := B.exec
  have hb := B.bytes
  have hr := B.returns
  have hk := B.notSynchronized
  have S : CallFix p m c prog_13_method_20_code 5 s _ fs_ws "FlowShelfModel" := ⟨B.exec, B.bytes, hml, findClass_of_methodNamed B.named, fun w hw => atoms_spec (ws := _ :: fs_ws) B.pre w (List.mem_cons_of_mem _ hw)⟩
  have hR := fs_hR (fr := 2) (lo := 43) ((f_Rf_announce a0 x1 x2).2 _ _ _ h)
  have hl := lv_entry ([.ref a0, .int x1, .int x2]) (n := 5) (Nat.le_of_ble_eq_true rfl)
  rw [lg_entry_eq]
  generalize (lg_sl ([.ref a0, .int x1, .int x2]) ++ List.replicate (5 - (lg_sl ([.ref a0, .int x1, .int x2])).length) Slot.unset).toArray = ls at hl ⊢
  have hl : lv_has ls 5 [(0, .ref a0), (1, .int x1), (2, .int x2)] := hl
  refine (?_ : fs_J X p l e (fs_rm 2 43 σ σF) s m _ below meth c (fs_Q X below _ s (fs_eI r) σ σF) r σ σF (f_Rf_announce a0 x1 x2) (F0 m 0 ls [])) σ s.heap [] 0 0 h hw0 va_S.rf rfl rfl
  clear h hw0
  unfold f_Rf_announce
  refine fs_lift (fun _ _ _ _ => lv_iconst (v := 3) hx hb d_Rf_announce_0 (by decide)) ?_
  refine fs_lift (fun _ _ _ _ => lv_iload_n hx hb d_Rf_announce_1 rfl (lv_at hl 1 rfl)) ?_
  refine fs_lift (fun _ _ _ _ => lv_imul hx hb d_Rf_announce_2) ?_
  refine fs_lift (fun _ _ _ _ => lv_iload_n hx hb d_Rf_announce_3 rfl (lv_at hl 2 rfl)) ?_
  refine fs_lift (fun _ _ _ _ => lv_iadd hx hb d_Rf_announce_4) ?_
  refine fs_Jni (fun v1 => ?_)
  refine fs_liftL (fun _ _ _ _ => lv_istore_n (lv' := [(3, .int v1), (0, .ref a0), (1, .int x1), (2, .int x2)]) hx hb d_Rf_announce_5 rfl hl (Nat.le_of_ble_eq_true rfl) rfl) (fun ls hl => ?_)
  refine fs_lift (fun _ _ _ _ => lv_aload_n hx hb d_Rf_announce_6 rfl (lv_at hl 1 rfl)) ?_
  refine fs_lift (fun _ _ _ _ => lv_aload_n hx hb d_Rf_announce_7 rfl (lv_at hl 1 rfl)) ?_
  refine fs_lift (fun _ _ _ _ => lv_iload_n hx hb d_Rf_announce_8 rfl (lv_at hl 2 rfl)) ?_
  refine fs_lift (fun _ _ _ _ => lv_iload_n hx hb d_Rf_announce_9 rfl (lv_at hl 3 rfl)) ?_
  refine fs_JV S hG hR rfl [.int x1, .int x2] (enc := fun r => some (.int r)) (fun zr zs zt zh => m_Rf_noTemplate X l a0 x1 x2 zh) tw_6_147 tw_6_149 tp_2_1 tw_6_150 tw_1_11 q_Rf_noTemplate ⟨(Nat.le_of_ble_eq_true rfl), (Nat.le_of_ble_eq_true rfl)⟩ hl.1 rfl (Nat.le_of_ble_eq_true rfl) d_Rf_announce_10 (fun v2 => ?_)
  refine fs_Jeq (g2 := F0 m 13 ls [.int v2, .ref a0]) rfl ?_
  refine fs_Jlet1 (nL := 5) (pj := 43) (I := fun (v6 : Int32) => [(0, .ref a0), (1, .int x1), (2, .int x2), (3, .int v1)]) (st := fun (v6 : Int32) => [.int v6, .ref a0]) (fun v6 ls hl => ?_) (fun j43 hj43 => ?_)
  · refine fs_Jput S hG fs_in12 rfl 0 (Nat.le_of_ble_eq_true rfl) tw_5_192 (fun _ h9 => h9) fs_Y12 fs_ty12 fs_nm12 (Or.inl rfl) rfl rfl d_Rf_announce_43 ?_
    refine fs_lift (fun _ _ _ _ => lv_aload_n hx hb d_Rf_announce_46 rfl (lv_at hl 0 rfl)) ?_
    refine fs_Jgi S hG fs_in12 rfl 0 (Nat.le_of_ble_eq_true rfl) tw_5_192 (fun _ h9 => h9) d_Rf_announce_47 (fun v7 => ?_)
    refine fs_if (fun _ _ _ _ => lv_if_eq hx hb d_Rf_announce_50 rfl) ?_ ?_
    · refine fs_lift (fun _ _ _ _ => lv_aload_n hx hb d_Rf_announce_55 rfl (lv_at hl 0 rfl)) ?_
      refine fs_lift (fun _ _ _ _ => lv_iload_n hx hb d_Rf_announce_56 rfl (lv_at hl 1 rfl)) ?_
      refine fs_lift (fun _ _ _ _ => lv_iconst (v := 0) hx hb d_Rf_announce_57 (by decide)) ?_
      refine fs_JV S hG hR rfl [.int x1, .int 0] (enc := fun _ => none) (fun zr zs zt zh => m_Rf_head X l a0 x1 0 zh) tw_6_171 tw_6_173 tp_2_3 tw_6_174 tw_1_11 q_Rf_head ⟨(Nat.le_of_ble_eq_true rfl), (Nat.le_of_ble_eq_true rfl)⟩ hl.1 rfl (Nat.le_of_ble_eq_true rfl) d_Rf_announce_58 (fun _ => ?_)
      refine fs_Jeq (g2 := F0 m 61 ls []) rfl ?_
      refine fs_lift (fun _ _ _ _ => lv_aload_n hx hb d_Rf_announce_61 rfl (lv_at hl 0 rfl)) ?_
      refine fs_lift (fun _ _ _ _ => lv_iload_n hx hb d_Rf_announce_62 rfl (lv_at hl 2 rfl)) ?_
      refine fs_JV S hG hR rfl [.int x2] (enc := fun _ => none) (fun zr zs zt zh => m_Rf_write X l a0 x2 zh) tw_6_175 tw_6_177 tp_2_4 tw_6_178 tw_1_11 q_Rf_write ⟨(Nat.le_of_ble_eq_true rfl), (Nat.le_of_ble_eq_true rfl)⟩ hl.1 rfl (Nat.le_of_ble_eq_true rfl) d_Rf_announce_63 (fun _ => ?_)
      refine fs_Jeq (g2 := F0 m 66 ls []) rfl ?_
      refine fs_lift (fun _ _ _ _ => lv_aload_n hx hb d_Rf_announce_66 rfl (lv_at hl 0 rfl)) ?_
      refine fs_lift (fun _ _ _ _ => lv_aload_n hx hb d_Rf_announce_67 rfl (lv_at hl 0 rfl)) ?_
      refine fs_Jgr S hG fs_in12 rfl 19 (Nat.le_of_ble_eq_true rfl) tw_5_211 (fun _ h9 => h9) d_Rf_announce_68 (fun r8 => ?_)
      refine fs_lift (fun _ _ _ _ => lv_iload_n hx hb d_Rf_announce_71 rfl (lv_at hl 3 rfl)) ?_
      refine fs_Jai S hG d_Rf_announce_72 (fun v9 => ?_)
      refine fs_JV S hG hR rfl [.int v9] (enc := fun _ => none) (fun zr zs zt zh => m_Rf_write X l a0 v9 zh) tw_6_175 tw_6_177 tp_2_4 tw_6_178 tw_1_11 q_Rf_write ⟨(Nat.le_of_ble_eq_true rfl), (Nat.le_of_ble_eq_true rfl)⟩ hl.1 rfl (Nat.le_of_ble_eq_true rfl) d_Rf_announce_73 (fun _ => ?_)
      refine fs_Jeq (g2 := F0 m 76 ls []) rfl ?_
      refine fs_lift (fun _ _ _ _ => lv_aload_n hx hb d_Rf_announce_76 rfl (lv_at hl 0 rfl)) ?_
      refine fs_lift (fun _ _ _ _ => lv_aload_n hx hb d_Rf_announce_77 rfl (lv_at hl 0 rfl)) ?_
      refine fs_Jgr S hG fs_in12 rfl 20 (Nat.le_of_ble_eq_true rfl) tw_5_212 (fun _ h9 => h9) d_Rf_announce_78 (fun r10 => ?_)
      refine fs_lift (fun _ _ _ _ => lv_iload_n hx hb d_Rf_announce_81 rfl (lv_at hl 3 rfl)) ?_
      refine fs_Jai S hG d_Rf_announce_82 (fun v11 => ?_)
      refine fs_JV S hG hR rfl [.int v11] (enc := fun _ => none) (fun zr zs zt zh => m_Rf_write X l a0 v11 zh) tw_6_175 tw_6_177 tp_2_4 tw_6_178 tw_1_11 q_Rf_write ⟨(Nat.le_of_ble_eq_true rfl), (Nat.le_of_ble_eq_true rfl)⟩ hl.1 rfl (Nat.le_of_ble_eq_true rfl) d_Rf_announce_83 (fun _ => ?_)
      refine fs_Jeq (g2 := F0 m 86 ls []) rfl ?_
      refine fs_lift (fun _ _ _ _ => lv_bipush (v := 8) hx hb d_Rf_announce_86 (by decide)) ?_
      refine fs_lift (fun _ _ _ _ => lv_iload_n hx hb d_Rf_announce_88 rfl (lv_at hl 3 rfl)) ?_
      refine fs_lift (fun _ _ _ _ => lv_imul hx hb d_Rf_announce_89) ?_
      refine fs_Jni (fun v12 => ?_)
      refine fs_liftL (fun _ _ _ _ => lv_istore (lv' := [(4, .int v12), (0, .ref a0), (1, .int x1), (2, .int x2), (3, .int v1)]) hx hb d_Rf_announce_90 hl (Nat.le_of_ble_eq_true rfl) rfl) (fun ls hl => ?_)
      refine fs_Jlp1 (nL := 5) (pc := 92) (rest := []) (I := fun (v13 : Int32) => [(0, .ref a0), (3, .int v1), (4, .int v13)]) (fun k92 hk92 v13 ls hl => ?_) _ _ _ (lv_sub hl [1, 4, 0] rfl)
      refine fs_lift (fun _ _ _ _ => lv_iload hx hb d_Rf_announce_92 (lv_at hl 2 rfl)) ?_
      refine fs_lift (fun _ _ _ _ => lv_bipush (v := 8) hx hb d_Rf_announce_94 (by decide)) ?_
      refine fs_lift (fun _ _ _ _ => lv_iload_n hx hb d_Rf_announce_96 rfl (lv_at hl 1 rfl)) ?_
      refine fs_lift (fun _ _ _ _ => lv_imul hx hb d_Rf_announce_97) ?_
      refine fs_lift (fun _ _ _ _ => lv_aload_n hx hb d_Rf_announce_98 rfl (lv_at hl 0 rfl)) ?_
      refine fs_Jgr S hG fs_in12 rfl 20 (Nat.le_of_ble_eq_true rfl) tw_5_212 (fun _ h9 => h9) d_Rf_announce_99 (fun r14 => ?_)
      refine fs_lift (fun _ _ _ _ => lv_iload_n hx hb d_Rf_announce_102 rfl (lv_at hl 1 rfl)) ?_
      refine fs_Jai S hG d_Rf_announce_103 (fun v15 => ?_)
      refine fs_lift (fun _ _ _ _ => lv_iadd hx hb d_Rf_announce_104) ?_
      refine fs_if (fun _ _ _ _ => lv_icmp_ge hx hb d_Rf_announce_105 rfl) ?_ ?_
      · refine fs_lift (fun _ _ _ _ => lv_aload_n hx hb d_Rf_announce_136 rfl (lv_at hl 0 rfl)) ?_
        refine fs_lift (fun _ _ _ _ => lv_dup hx hb d_Rf_announce_137 rfl) ?_
        refine fs_Jgi S hG fs_in12 rfl 25 (Nat.le_of_ble_eq_true rfl) tw_5_217 (fun _ h9 => h9) d_Rf_announce_138 (fun v16 => ?_)
        refine fs_lift (fun _ _ _ _ => lv_iconst (v := 1) hx hb d_Rf_announce_141 (by decide)) ?_
        refine fs_lift (fun _ _ _ _ => lv_iadd hx hb d_Rf_announce_142) ?_
        refine fs_Jput S hG fs_in12 rfl 25 (Nat.le_of_ble_eq_true rfl) tw_5_217 (fun _ h9 => h9) fs_Y12 fs_ty12 fs_nm12 (Or.inl rfl) rfl rfl d_Rf_announce_143 ?_
        refine fs_lift (fun _ _ _ _ => lv_aload_n hx hb d_Rf_announce_146 rfl (lv_at hl 0 rfl)) ?_
        refine fs_Jgi S hG fs_in12 rfl 25 (Nat.le_of_ble_eq_true rfl) tw_5_217 (fun _ h9 => h9) d_Rf_announce_147 (fun v17 => ?_)
        refine fs_lift (fun _ _ _ _ => lv_iconst (v := 1) hx hb d_Rf_announce_150 (by decide)) ?_
        refine fs_lift (fun _ _ _ _ => lv_isub hx hb d_Rf_announce_151) ?_
        exact fs_Jiret S hr hk rfl d_Rf_announce_152
      · refine fs_lift (fun _ _ _ _ => lv_aload_n hx hb d_Rf_announce_108 rfl (lv_at hl 0 rfl)) ?_
        refine fs_lift (fun _ _ _ _ => lv_aload_n hx hb d_Rf_announce_109 rfl (lv_at hl 0 rfl)) ?_
        refine fs_Jgr S hG fs_in12 rfl 21 (Nat.le_of_ble_eq_true rfl) tw_5_213 (fun _ h9 => h9) d_Rf_announce_110 (fun r18 => ?_)
        refine fs_lift (fun _ _ _ _ => lv_iload hx hb d_Rf_announce_113 (lv_at hl 2 rfl)) ?_
        refine fs_Jai S hG d_Rf_announce_115 (fun v19 => ?_)
        refine fs_JV S hG hR rfl [.int v19] (enc := fun _ => none) (fun zr zs zt zh => m_Rf_write X l a0 v19 zh) tw_6_175 tw_6_177 tp_2_4 tw_6_178 tw_1_11 q_Rf_write ⟨(Nat.le_of_ble_eq_true rfl), (Nat.le_of_ble_eq_true rfl)⟩ hl.1 rfl (Nat.le_of_ble_eq_true rfl) d_Rf_announce_116 (fun _ => ?_)
        refine fs_Jeq (g2 := F0 m 119 ls []) rfl ?_
        refine fs_lift (fun _ _ _ _ => lv_aload_n hx hb d_Rf_announce_119 rfl (lv_at hl 0 rfl)) ?_
        refine fs_lift (fun _ _ _ _ => lv_aload_n hx hb d_Rf_announce_120 rfl (lv_at hl 0 rfl)) ?_
        refine fs_Jgr S hG fs_in12 rfl 22 (Nat.le_of_ble_eq_true rfl) tw_5_214 (fun _ h9 => h9) d_Rf_announce_121 (fun r20 => ?_)
        refine fs_lift (fun _ _ _ _ => lv_iload hx hb d_Rf_announce_124 (lv_at hl 2 rfl)) ?_
        refine fs_Jai S hG d_Rf_announce_126 (fun v21 => ?_)
        refine fs_JV S hG hR rfl [.int v21] (enc := fun _ => none) (fun zr zs zt zh => m_Rf_write X l a0 v21 zh) tw_6_175 tw_6_177 tp_2_4 tw_6_178 tw_1_11 q_Rf_write ⟨(Nat.le_of_ble_eq_true rfl), (Nat.le_of_ble_eq_true rfl)⟩ hl.1 rfl (Nat.le_of_ble_eq_true rfl) d_Rf_announce_127 (fun _ => ?_)
        refine fs_Jeq (g2 := F0 m 130 ls []) rfl ?_
        refine fs_Jnm (fun v22 hv9 => ?_)
        refine fs_liftL (fun _ _ _ _ => lv_iinc (k := 2) (v := v22) (lv' := [(4, .int v22), (0, .ref a0), (3, .int v1)]) hx hb d_Rf_announce_130 hl rfl (by rw [hv9]; rfl) (Nat.le_of_ble_eq_true rfl) rfl) (fun ls hl => ?_)
        refine fs_lift (fun _ _ _ _ => lv_goto hx hb d_Rf_announce_133 rfl) ?_
        exact hk92 v22 ls (lv_sub hl [1, 2, 0] rfl)
    · refine fs_lift (fun _ _ _ _ => lv_iconst (v := 0) hx hb d_Rf_announce_53 (by decide)) ?_
      exact fs_Jiret S hr hk rfl d_Rf_announce_54
  · refine fs_if (fun _ _ _ _ => lv_if_eq hx hb d_Rf_announce_13 rfl) ?_ ?_
    · refine fs_lift (fun _ _ _ _ => lv_aload_n hx hb d_Rf_announce_20 rfl (lv_at hl 1 rfl)) ?_
      refine fs_Jgr S hG fs_in12 rfl 19 (Nat.le_of_ble_eq_true rfl) tw_5_211 (fun _ h9 => h9) d_Rf_announce_21 (fun r3 => ?_)
      refine fs_lift (fun _ _ _ _ => lv_iload_n hx hb d_Rf_announce_24 rfl (lv_at hl 0 rfl)) ?_
      refine fs_Jai S hG d_Rf_announce_25 (fun v4 => ?_)
      refine fs_Jlet1 (nL := 5) (pj := 38) (I := fun (_ : Unit) => [(0, .ref a0), (1, .int x1), (2, .int x2), (3, .int v1)]) (st := fun (_ : Unit) => [.ref a0]) (fun _ ls hl => ?_) (fun j38 hj38 => ?_)
      · refine fs_lift (fun _ _ _ _ => lv_iconst (v := 2) hx hb d_Rf_announce_38 (by decide)) ?_
        refine fs_lift (fun _ _ _ _ => lv_goto hx hb d_Rf_announce_39 rfl) ?_
        exact hj43 2 ls (lv_sub hl [0, 1, 2, 3] rfl)
      · refine fs_if (fun _ _ _ _ => lv_if_eq hx hb d_Rf_announce_26 rfl) ?_ ?_
        · exact hj38 () ls (lv_sub hl [1, 2, 3, 0] rfl)
        · refine fs_lift (fun _ _ _ _ => lv_aload_n hx hb d_Rf_announce_29 rfl (lv_at hl 1 rfl)) ?_
          refine fs_Jgi S hG fs_in12 rfl 25 (Nat.le_of_ble_eq_true rfl) tw_5_217 (fun _ h9 => h9) d_Rf_announce_30 (fun v5 => ?_)
          refine fs_lift (fun _ _ _ _ => lv_bipush (v := 30) hx hb d_Rf_announce_33 (by decide)) ?_
          refine fs_ifn (fun _ _ _ _ => lv_icmp_ne hx hb d_Rf_announce_35 rfl) ?_ ?_
          · exact hj38 () ls (lv_sub hl [1, 2, 3, 0] rfl)
          · refine fs_lift (fun _ _ _ _ => lv_iconst (v := 0) hx hb d_Rf_announce_42 (by decide)) ?_
            exact hj43 0 ls (lv_sub hl [1, 2, 3, 0] rfl)
    · refine fs_lift (fun _ _ _ _ => lv_iconst (v := 1) hx hb d_Rf_announce_16 (by decide)) ?_
      refine fs_lift (fun _ _ _ _ => lv_goto hx hb d_Rf_announce_17 rfl) ?_
      exact hj43 1 ls (lv_sub hl [1, 2, 3, 0] rfl)

