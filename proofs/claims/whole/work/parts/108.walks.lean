/-! contracts of methods, walked by program -/
theorem d_Rf_flowOf_0 : decode prog_13_method_6_code 0 = .ok (.iconst 0, 1) := by decide +kernel
theorem d_Rf_flowOf_1 : decode prog_13_method_6_code 1 = .ok (.istore_n 3, 1) := by decide +kernel
theorem d_Rf_flowOf_2 : decode prog_13_method_6_code 2 = .ok (.iload_n 3, 1) := by decide +kernel
theorem d_Rf_flowOf_3 : decode prog_13_method_6_code 3 = .ok (.aload_n 0, 1) := by decide +kernel
theorem d_Rf_flowOf_4 : decode prog_13_method_6_code 4 = .ok (.getfield 28, 3) := by decide +kernel
theorem d_Rf_flowOf_7 : decode prog_13_method_6_code 7 = .ok (.iload_n 1, 1) := by decide +kernel
theorem d_Rf_flowOf_8 : decode prog_13_method_6_code 8 = .ok (.iaload, 1) := by decide +kernel
theorem d_Rf_flowOf_9 : decode prog_13_method_6_code 9 = .ok (.if_icmp .ge 26, 3) := by decide +kernel
theorem d_Rf_flowOf_12 : decode prog_13_method_6_code 12 = .ok (.aload_n 0, 1) := by decide +kernel
theorem d_Rf_flowOf_13 : decode prog_13_method_6_code 13 = .ok (.getfield 31, 3) := by decide +kernel
theorem d_Rf_flowOf_16 : decode prog_13_method_6_code 16 = .ok (.bipush 6, 2) := by decide +kernel
theorem d_Rf_flowOf_18 : decode prog_13_method_6_code 18 = .ok (.iload_n 1, 1) := by decide +kernel
theorem d_Rf_flowOf_19 : decode prog_13_method_6_code 19 = .ok (.imul, 1) := by decide +kernel
theorem d_Rf_flowOf_20 : decode prog_13_method_6_code 20 = .ok (.iload_n 3, 1) := by decide +kernel
theorem d_Rf_flowOf_21 : decode prog_13_method_6_code 21 = .ok (.iadd, 1) := by decide +kernel
theorem d_Rf_flowOf_22 : decode prog_13_method_6_code 22 = .ok (.iaload, 1) := by decide +kernel
theorem d_Rf_flowOf_23 : decode prog_13_method_6_code 23 = .ok (.iload_n 2, 1) := by decide +kernel
theorem d_Rf_flowOf_24 : decode prog_13_method_6_code 24 = .ok (.if_icmp .ne 5, 3) := by decide +kernel
theorem d_Rf_flowOf_27 : decode prog_13_method_6_code 27 = .ok (.iload_n 3, 1) := by decide +kernel
theorem d_Rf_flowOf_28 : decode prog_13_method_6_code 28 = .ok (.ireturn, 1) := by decide +kernel
theorem d_Rf_flowOf_29 : decode prog_13_method_6_code 29 = .ok (.iinc 3 1, 3) := by decide +kernel
theorem d_Rf_flowOf_32 : decode prog_13_method_6_code 32 = .ok (.goto (-30), 3) := by decide +kernel
theorem d_Rf_flowOf_35 : decode prog_13_method_6_code 35 = .ok (.aload_n 0, 1) := by decide +kernel
theorem d_Rf_flowOf_36 : decode prog_13_method_6_code 36 = .ok (.getfield 28, 3) := by decide +kernel
theorem d_Rf_flowOf_39 : decode prog_13_method_6_code 39 = .ok (.iload_n 1, 1) := by decide +kernel
theorem d_Rf_flowOf_40 : decode prog_13_method_6_code 40 = .ok (.iaload, 1) := by decide +kernel
theorem d_Rf_flowOf_41 : decode prog_13_method_6_code 41 = .ok (.bipush 6, 2) := by decide +kernel
theorem d_Rf_flowOf_43 : decode prog_13_method_6_code 43 = .ok (.if_icmp .ne 61, 3) := by decide +kernel
theorem d_Rf_flowOf_46 : decode prog_13_method_6_code 46 = .ok (.iconst 0, 1) := by decide +kernel
theorem d_Rf_flowOf_47 : decode prog_13_method_6_code 47 = .ok (.istore_n 3, 1) := by decide +kernel
theorem d_Rf_flowOf_48 : decode prog_13_method_6_code 48 = .ok (.iconst 1, 1) := by decide +kernel
theorem d_Rf_flowOf_49 : decode prog_13_method_6_code 49 = .ok (.istore 4, 2) := by decide +kernel
theorem d_Rf_flowOf_51 : decode prog_13_method_6_code 51 = .ok (.iload 4, 2) := by decide +kernel
theorem d_Rf_flowOf_53 : decode prog_13_method_6_code 53 = .ok (.bipush 6, 2) := by decide +kernel
theorem d_Rf_flowOf_55 : decode prog_13_method_6_code 55 = .ok (.if_icmp .ge 42, 3) := by decide +kernel
theorem d_Rf_flowOf_58 : decode prog_13_method_6_code 58 = .ok (.aload_n 0, 1) := by decide +kernel
theorem d_Rf_flowOf_59 : decode prog_13_method_6_code 59 = .ok (.getfield 43, 3) := by decide +kernel
theorem d_Rf_flowOf_62 : decode prog_13_method_6_code 62 = .ok (.bipush 6, 2) := by decide +kernel
theorem d_Rf_flowOf_64 : decode prog_13_method_6_code 64 = .ok (.iload_n 1, 1) := by decide +kernel
theorem d_Rf_flowOf_65 : decode prog_13_method_6_code 65 = .ok (.imul, 1) := by decide +kernel
theorem d_Rf_flowOf_66 : decode prog_13_method_6_code 66 = .ok (.iload 4, 2) := by decide +kernel
theorem d_Rf_flowOf_68 : decode prog_13_method_6_code 68 = .ok (.iadd, 1) := by decide +kernel
theorem d_Rf_flowOf_69 : decode prog_13_method_6_code 69 = .ok (.iaload, 1) := by decide +kernel
theorem d_Rf_flowOf_70 : decode prog_13_method_6_code 70 = .ok (.aload_n 0, 1) := by decide +kernel
theorem d_Rf_flowOf_71 : decode prog_13_method_6_code 71 = .ok (.getfield 43, 3) := by decide +kernel
theorem d_Rf_flowOf_74 : decode prog_13_method_6_code 74 = .ok (.bipush 6, 2) := by decide +kernel
theorem d_Rf_flowOf_76 : decode prog_13_method_6_code 76 = .ok (.iload_n 1, 1) := by decide +kernel
theorem d_Rf_flowOf_77 : decode prog_13_method_6_code 77 = .ok (.imul, 1) := by decide +kernel
theorem d_Rf_flowOf_78 : decode prog_13_method_6_code 78 = .ok (.iload_n 3, 1) := by decide +kernel
theorem d_Rf_flowOf_79 : decode prog_13_method_6_code 79 = .ok (.iadd, 1) := by decide +kernel
theorem d_Rf_flowOf_80 : decode prog_13_method_6_code 80 = .ok (.iaload, 1) := by decide +kernel
theorem d_Rf_flowOf_81 : decode prog_13_method_6_code 81 = .ok (.if_icmp .ge 8, 3) := by decide +kernel
theorem d_Rf_flowOf_84 : decode prog_13_method_6_code 84 = .ok (.iload 4, 2) := by decide +kernel
theorem d_Rf_flowOf_86 : decode prog_13_method_6_code 86 = .ok (.goto 4, 3) := by decide +kernel
theorem d_Rf_flowOf_89 : decode prog_13_method_6_code 89 = .ok (.iload_n 3, 1) := by decide +kernel
theorem d_Rf_flowOf_90 : decode prog_13_method_6_code 90 = .ok (.istore_n 3, 1) := by decide +kernel
theorem d_Rf_flowOf_91 : decode prog_13_method_6_code 91 = .ok (.iinc 4 1, 3) := by decide +kernel
theorem d_Rf_flowOf_94 : decode prog_13_method_6_code 94 = .ok (.goto (-43), 3) := by decide +kernel
theorem d_Rf_flowOf_97 : decode prog_13_method_6_code 97 = .ok (.aload_n 0, 1) := by decide +kernel
theorem d_Rf_flowOf_98 : decode prog_13_method_6_code 98 = .ok (.iload_n 1, 1) := by decide +kernel
theorem d_Rf_flowOf_99 : decode prog_13_method_6_code 99 = .ok (.iload_n 3, 1) := by decide +kernel
theorem d_Rf_flowOf_100 : decode prog_13_method_6_code 100 = .ok (.iconst 4, 1) := by decide +kernel
theorem d_Rf_flowOf_101 : decode prog_13_method_6_code 101 = .ok (.invokevirtual 142, 3) := by decide +kernel
theorem d_Rf_flowOf_104 : decode prog_13_method_6_code 104 = .ok (.bipush 6, 2) := by decide +kernel
theorem d_Rf_flowOf_106 : decode prog_13_method_6_code 106 = .ok (.iload_n 1, 1) := by decide +kernel
theorem d_Rf_flowOf_107 : decode prog_13_method_6_code 107 = .ok (.imul, 1) := by decide +kernel
theorem d_Rf_flowOf_108 : decode prog_13_method_6_code 108 = .ok (.aload_n 0, 1) := by decide +kernel
theorem d_Rf_flowOf_109 : decode prog_13_method_6_code 109 = .ok (.getfield 28, 3) := by decide +kernel
theorem d_Rf_flowOf_112 : decode prog_13_method_6_code 112 = .ok (.iload_n 1, 1) := by decide +kernel
theorem d_Rf_flowOf_113 : decode prog_13_method_6_code 113 = .ok (.iaload, 1) := by decide +kernel
theorem d_Rf_flowOf_114 : decode prog_13_method_6_code 114 = .ok (.iadd, 1) := by decide +kernel
theorem d_Rf_flowOf_115 : decode prog_13_method_6_code 115 = .ok (.istore_n 3, 1) := by decide +kernel
theorem d_Rf_flowOf_116 : decode prog_13_method_6_code 116 = .ok (.aload_n 0, 1) := by decide +kernel
theorem d_Rf_flowOf_117 : decode prog_13_method_6_code 117 = .ok (.getfield 31, 3) := by decide +kernel
theorem d_Rf_flowOf_120 : decode prog_13_method_6_code 120 = .ok (.iload_n 3, 1) := by decide +kernel
theorem d_Rf_flowOf_121 : decode prog_13_method_6_code 121 = .ok (.iload_n 2, 1) := by decide +kernel
theorem d_Rf_flowOf_122 : decode prog_13_method_6_code 122 = .ok (.iastore, 1) := by decide +kernel
theorem d_Rf_flowOf_123 : decode prog_13_method_6_code 123 = .ok (.aload_n 0, 1) := by decide +kernel
theorem d_Rf_flowOf_124 : decode prog_13_method_6_code 124 = .ok (.getfield 34, 3) := by decide +kernel
theorem d_Rf_flowOf_127 : decode prog_13_method_6_code 127 = .ok (.iload_n 3, 1) := by decide +kernel
theorem d_Rf_flowOf_128 : decode prog_13_method_6_code 128 = .ok (.iconst 0, 1) := by decide +kernel
theorem d_Rf_flowOf_129 : decode prog_13_method_6_code 129 = .ok (.iastore, 1) := by decide +kernel
theorem d_Rf_flowOf_130 : decode prog_13_method_6_code 130 = .ok (.aload_n 0, 1) := by decide +kernel
theorem d_Rf_flowOf_131 : decode prog_13_method_6_code 131 = .ok (.getfield 37, 3) := by decide +kernel
theorem d_Rf_flowOf_134 : decode prog_13_method_6_code 134 = .ok (.iload_n 3, 1) := by decide +kernel
theorem d_Rf_flowOf_135 : decode prog_13_method_6_code 135 = .ok (.iconst 0, 1) := by decide +kernel
theorem d_Rf_flowOf_136 : decode prog_13_method_6_code 136 = .ok (.iastore, 1) := by decide +kernel
theorem d_Rf_flowOf_137 : decode prog_13_method_6_code 137 = .ok (.aload_n 0, 1) := by decide +kernel
theorem d_Rf_flowOf_138 : decode prog_13_method_6_code 138 = .ok (.getfield 40, 3) := by decide +kernel
theorem d_Rf_flowOf_141 : decode prog_13_method_6_code 141 = .ok (.iload_n 3, 1) := by decide +kernel
theorem d_Rf_flowOf_142 : decode prog_13_method_6_code 142 = .ok (.aload_n 0, 1) := by decide +kernel
theorem d_Rf_flowOf_143 : decode prog_13_method_6_code 143 = .ok (.getfield 7, 3) := by decide +kernel
theorem d_Rf_flowOf_146 : decode prog_13_method_6_code 146 = .ok (.iload_n 1, 1) := by decide +kernel
theorem d_Rf_flowOf_147 : decode prog_13_method_6_code 147 = .ok (.iaload, 1) := by decide +kernel
theorem d_Rf_flowOf_148 : decode prog_13_method_6_code 148 = .ok (.iastore, 1) := by decide +kernel
theorem d_Rf_flowOf_149 : decode prog_13_method_6_code 149 = .ok (.aload_n 0, 1) := by decide +kernel
theorem d_Rf_flowOf_150 : decode prog_13_method_6_code 150 = .ok (.getfield 28, 3) := by decide +kernel
theorem d_Rf_flowOf_153 : decode prog_13_method_6_code 153 = .ok (.iload_n 1, 1) := by decide +kernel
theorem d_Rf_flowOf_154 : decode prog_13_method_6_code 154 = .ok (.dup2, 1) := by decide +kernel
theorem d_Rf_flowOf_155 : decode prog_13_method_6_code 155 = .ok (.iaload, 1) := by decide +kernel
theorem d_Rf_flowOf_156 : decode prog_13_method_6_code 156 = .ok (.iconst 1, 1) := by decide +kernel
theorem d_Rf_flowOf_157 : decode prog_13_method_6_code 157 = .ok (.iadd, 1) := by decide +kernel
theorem d_Rf_flowOf_158 : decode prog_13_method_6_code 158 = .ok (.iastore, 1) := by decide +kernel
theorem d_Rf_flowOf_159 : decode prog_13_method_6_code 159 = .ok (.aload_n 0, 1) := by decide +kernel
theorem d_Rf_flowOf_160 : decode prog_13_method_6_code 160 = .ok (.getfield 28, 3) := by decide +kernel
theorem d_Rf_flowOf_163 : decode prog_13_method_6_code 163 = .ok (.iload_n 1, 1) := by decide +kernel
theorem d_Rf_flowOf_164 : decode prog_13_method_6_code 164 = .ok (.iaload, 1) := by decide +kernel
theorem d_Rf_flowOf_165 : decode prog_13_method_6_code 165 = .ok (.iconst 1, 1) := by decide +kernel
theorem d_Rf_flowOf_166 : decode prog_13_method_6_code 166 = .ok (.isub, 1) := by decide +kernel
theorem d_Rf_flowOf_167 : decode prog_13_method_6_code 167 = .ok (.ireturn, 1) := by decide +kernel
theorem q_Rf_flowOf : (⟨"FlowShelfModel", "flowOf", "(II)I"⟩ : MethodName).cls ≠ "java/lang/invoke/MethodHandle" ∧ (⟨"FlowShelfModel", "flowOf", "(II)I"⟩ : MethodName).cls ≠ "java/lang/invoke/VarHandle" ∧ (parseMethodDescriptor (⟨"FlowShelfModel", "flowOf", "(II)I"⟩ : MethodName).desc).map (fun d => d.parameters.length) = some 2 := by decide +kernel
set_option maxHeartbeats 4000000 in
set_option maxRecDepth 100000 in
theorem m_Rf_flowOf (X : fs_X) (l : Launch) (a0 : Nat) (x1 : Int32) (x2 : Int32) {r : Int32} {σ σF : fs_S} (h : (f_Rf_flowOf a0 x1 x2).1 σ = some (r, σF)) : fs_Met X l ⟨"FlowShelfModel", "flowOf", "(II)I"⟩ (Cond.code ⟨"FlowShelfModel", "flowOf", "(II)I"⟩ prog_13_method_6_code 5 (some FieldType.int)) 1 26 [.ref a0, .int x1, .int x2] σ (fs_eI r) σF := by
  refine fs_ofW (by decide) ?_
  intro p e s m args below meth c s₁ B hml hT hv
  obtain ⟨rfl, hw0, hG⟩ := hv
  have hx := B.exec
  have hb := B.bytes
  have hr := B.returns
  have hk := B.notSynchronized
  have S : CallFix p m c prog_13_method_6_code 5 s _ fs_ws "FlowShelfModel" := ⟨B.exec, B.bytes, hml, findClass_of_methodNamed B.named, fun w hw => atoms_spec (ws := _ :: fs_ws) B.pre w (List.mem_cons_of_mem _ hw)⟩
  have hR := fs_hR (fr := 1) (lo := 26) ((f_Rf_flowOf a0 x1 x2).2 _ _ _ h)
  have hl := lv_entry ([.ref a0, .int x1, .int x2]) (n := 5) (Nat.le_of_ble_eq_true rfl)
  rw [lg_entry_eq]
  generalize (lg_sl ([.ref a0, .int x1, .int x2]) ++ List.replicate (5 - (lg_sl ([.ref a0, .int x1, .int x2])).length) Slot.unset).toArray = ls at hl ⊢
  have hl : lv_has ls 5 [(0, .ref a0), (1, .int x1), (2, .int x2)] := hl
  refine (?_ : fs_J X p l e (fs_rm 1 26 σ σF) s m _ below meth c (fs_Q X below _ s (fs_eI r) σ σF) r σ σF (f_Rf_flowOf a0 x1 x2) (F0 m 0 ls [])) σ s.heap [] 0 0 h hw0 va_S.rf rfl rfl
  clear h hw0
  unfold f_Rf_flowOf
  refine fs_lift (fun _ _ _ _ => lv_iconst (v := 0) hx hb d_Rf_flowOf_0 (by decide)) ?_
  refine fs_liftL (fun _ _ _ _ => lv_istore_n (lv' := [(3, .int 0), (0, .ref a0), (1, .int x1), (2, .int x2)]) hx hb d_Rf_flowOf_1 rfl hl (Nat.le_of_ble_eq_true rfl) rfl) (fun ls hl => ?_)
  refine fs_Jlp1 (nL := 5) (pc := 2) (rest := []) (I := fun (v1 : Int32) => [(0, .ref a0), (1, .int x1), (2, .int x2), (3, .int v1)]) (fun k2 hk2 v1 ls hl => ?_) _ _ _ (lv_sub hl [1, 2, 3, 0] rfl)
  refine fs_lift (fun _ _ _ _ => lv_iload_n hx hb d_Rf_flowOf_2 rfl (lv_at hl 3 rfl)) ?_
  refine fs_lift (fun _ _ _ _ => lv_aload_n hx hb d_Rf_flowOf_3 rfl (lv_at hl 0 rfl)) ?_
  refine fs_Jgr S hG fs_in12 rfl 7 (Nat.le_of_ble_eq_true rfl) tw_5_199 (fun _ h9 => h9) d_Rf_flowOf_4 (fun r2 => ?_)
  refine fs_lift (fun _ _ _ _ => lv_iload_n hx hb d_Rf_flowOf_7 rfl (lv_at hl 1 rfl)) ?_
  refine fs_Jai S hG d_Rf_flowOf_8 (fun v3 => ?_)
  refine fs_if (fun _ _ _ _ => lv_icmp_ge hx hb d_Rf_flowOf_9 rfl) ?_ ?_
  · refine fs_lift (fun _ _ _ _ => lv_aload_n hx hb d_Rf_flowOf_35 rfl (lv_at hl 0 rfl)) ?_
    refine fs_Jgr S hG fs_in12 rfl 7 (Nat.le_of_ble_eq_true rfl) tw_5_199 (fun _ h9 => h9) d_Rf_flowOf_36 (fun r4 => ?_)
    refine fs_lift (fun _ _ _ _ => lv_iload_n hx hb d_Rf_flowOf_39 rfl (lv_at hl 1 rfl)) ?_
    refine fs_Jai S hG d_Rf_flowOf_40 (fun v5 => ?_)
    refine fs_lift (fun _ _ _ _ => lv_bipush (v := 6) hx hb d_Rf_flowOf_41 (by decide)) ?_
    refine fs_Jlet1 (nL := 5) (pj := 104) (I := fun (_ : Unit) => [(0, .ref a0), (1, .int x1), (2, .int x2)]) (st := fun (_ : Unit) => []) (fun _ ls hl => ?_) (fun j104 hj104 => ?_)
    · refine fs_lift (fun _ _ _ _ => lv_bipush (v := 6) hx hb d_Rf_flowOf_104 (by decide)) ?_
      refine fs_lift (fun _ _ _ _ => lv_iload_n hx hb d_Rf_flowOf_106 rfl (lv_at hl 1 rfl)) ?_
      refine fs_lift (fun _ _ _ _ => lv_imul hx hb d_Rf_flowOf_107) ?_
      refine fs_lift (fun _ _ _ _ => lv_aload_n hx hb d_Rf_flowOf_108 rfl (lv_at hl 0 rfl)) ?_
      refine fs_Jgr S hG fs_in12 rfl 7 (Nat.le_of_ble_eq_true rfl) tw_5_199 (fun _ h9 => h9) d_Rf_flowOf_109 (fun r14 => ?_)
      refine fs_lift (fun _ _ _ _ => lv_iload_n hx hb d_Rf_flowOf_112 rfl (lv_at hl 1 rfl)) ?_
      refine fs_Jai S hG d_Rf_flowOf_113 (fun v15 => ?_)
      refine fs_lift (fun _ _ _ _ => lv_iadd hx hb d_Rf_flowOf_114) ?_
      refine fs_Jni (fun v16 => ?_)
      refine fs_liftL (fun _ _ _ _ => lv_istore_n (lv' := [(3, .int v16), (0, .ref a0), (1, .int x1), (2, .int x2)]) hx hb d_Rf_flowOf_115 rfl hl (Nat.le_of_ble_eq_true rfl) rfl) (fun ls hl => ?_)
      refine fs_lift (fun _ _ _ _ => lv_aload_n hx hb d_Rf_flowOf_116 rfl (lv_at hl 1 rfl)) ?_
      refine fs_Jgr S hG fs_in12 rfl 8 (Nat.le_of_ble_eq_true rfl) tw_5_200 (fun _ h9 => h9) d_Rf_flowOf_117 (fun r17 => ?_)
      refine fs_lift (fun _ _ _ _ => lv_iload_n hx hb d_Rf_flowOf_120 rfl (lv_at hl 0 rfl)) ?_
      refine fs_lift (fun _ _ _ _ => lv_iload_n hx hb d_Rf_flowOf_121 rfl (lv_at hl 3 rfl)) ?_
      refine fs_Jsi S hG d_Rf_flowOf_122 ?_
      refine fs_lift (fun _ _ _ _ => lv_aload_n hx hb d_Rf_flowOf_123 rfl (lv_at hl 1 rfl)) ?_
      refine fs_Jgr S hG fs_in12 rfl 9 (Nat.le_of_ble_eq_true rfl) tw_5_201 (fun _ h9 => h9) d_Rf_flowOf_124 (fun r18 => ?_)
      refine fs_lift (fun _ _ _ _ => lv_iload_n hx hb d_Rf_flowOf_127 rfl (lv_at hl 0 rfl)) ?_
      refine fs_lift (fun _ _ _ _ => lv_iconst (v := 0) hx hb d_Rf_flowOf_128 (by decide)) ?_
      refine fs_Jsi S hG d_Rf_flowOf_129 ?_
      refine fs_lift (fun _ _ _ _ => lv_aload_n hx hb d_Rf_flowOf_130 rfl (lv_at hl 1 rfl)) ?_
      refine fs_Jgr S hG fs_in12 rfl 10 (Nat.le_of_ble_eq_true rfl) tw_5_202 (fun _ h9 => h9) d_Rf_flowOf_131 (fun r19 => ?_)
      refine fs_lift (fun _ _ _ _ => lv_iload_n hx hb d_Rf_flowOf_134 rfl (lv_at hl 0 rfl)) ?_
      refine fs_lift (fun _ _ _ _ => lv_iconst (v := 0) hx hb d_Rf_flowOf_135 (by decide)) ?_
      refine fs_Jsi S hG d_Rf_flowOf_136 ?_
      refine fs_lift (fun _ _ _ _ => lv_aload_n hx hb d_Rf_flowOf_137 rfl (lv_at hl 1 rfl)) ?_
      refine fs_Jgr S hG fs_in12 rfl 11 (Nat.le_of_ble_eq_true rfl) tw_5_203 (fun _ h9 => h9) d_Rf_flowOf_138 (fun r20 => ?_)
      refine fs_lift (fun _ _ _ _ => lv_iload_n hx hb d_Rf_flowOf_141 rfl (lv_at hl 0 rfl)) ?_
      refine fs_lift (fun _ _ _ _ => lv_aload_n hx hb d_Rf_flowOf_142 rfl (lv_at hl 1 rfl)) ?_
      refine fs_Jgr S hG fs_in12 rfl 1 (Nat.le_of_ble_eq_true rfl) tw_5_193 (fun _ h9 => h9) d_Rf_flowOf_143 (fun r21 => ?_)
      refine fs_lift (fun _ _ _ _ => lv_iload_n hx hb d_Rf_flowOf_146 rfl (lv_at hl 2 rfl)) ?_
      refine fs_Jai S hG d_Rf_flowOf_147 (fun v22 => ?_)
      refine fs_Jsi S hG d_Rf_flowOf_148 ?_
      refine fs_lift (fun _ _ _ _ => lv_aload_n hx hb d_Rf_flowOf_149 rfl (lv_at hl 1 rfl)) ?_
      refine fs_Jgr S hG fs_in12 rfl 7 (Nat.le_of_ble_eq_true rfl) tw_5_199 (fun _ h9 => h9) d_Rf_flowOf_150 (fun r23 => ?_)
      refine fs_lift (fun _ _ _ _ => lv_iload_n hx hb d_Rf_flowOf_153 rfl (lv_at hl 2 rfl)) ?_
      refine fs_lift (fun _ _ _ _ => lv_dup2_11 hx hb d_Rf_flowOf_154 rfl rfl) ?_
      refine fs_Jai S hG d_Rf_flowOf_155 (fun v24 => ?_)
      refine fs_lift (fun _ _ _ _ => lv_iconst (v := 1) hx hb d_Rf_flowOf_156 (by decide)) ?_
      refine fs_lift (fun _ _ _ _ => lv_iadd hx hb d_Rf_flowOf_157) ?_
      refine fs_Jsi S hG d_Rf_flowOf_158 ?_
      refine fs_lift (fun _ _ _ _ => lv_aload_n hx hb d_Rf_flowOf_159 rfl (lv_at hl 1 rfl)) ?_
      refine fs_Jgr S hG fs_in12 rfl 7 (Nat.le_of_ble_eq_true rfl) tw_5_199 (fun _ h9 => h9) d_Rf_flowOf_160 (fun r25 => ?_)
      refine fs_lift (fun _ _ _ _ => lv_iload_n hx hb d_Rf_flowOf_163 rfl (lv_at hl 2 rfl)) ?_
      refine fs_Jai S hG d_Rf_flowOf_164 (fun v26 => ?_)
      refine fs_lift (fun _ _ _ _ => lv_iconst (v := 1) hx hb d_Rf_flowOf_165 (by decide)) ?_
      refine fs_lift (fun _ _ _ _ => lv_isub hx hb d_Rf_flowOf_166) ?_
      exact fs_Jiret S hr hk rfl d_Rf_flowOf_167
    · refine fs_ifn (fun _ _ _ _ => lv_icmp_ne hx hb d_Rf_flowOf_43 rfl) ?_ ?_
      · refine fs_lift (fun _ _ _ _ => lv_iconst (v := 0) hx hb d_Rf_flowOf_46 (by decide)) ?_
        refine fs_liftL (fun _ _ _ _ => lv_istore_n (lv' := [(3, .int 0), (0, .ref a0), (1, .int x1), (2, .int x2)]) hx hb d_Rf_flowOf_47 rfl hl (Nat.le_of_ble_eq_true rfl) rfl) (fun ls hl => ?_)
        refine fs_lift (fun _ _ _ _ => lv_iconst (v := 1) hx hb d_Rf_flowOf_48 (by decide)) ?_
        refine fs_liftL (fun _ _ _ _ => lv_istore (lv' := [(4, .int 1), (3, .int 0), (0, .ref a0), (1, .int x1), (2, .int x2)]) hx hb d_Rf_flowOf_49 hl (Nat.le_of_ble_eq_true rfl) rfl) (fun ls hl => ?_)
        refine fs_Jlp2 (nL := 5) (pc := 51) (rest := []) (I := fun (v6 : Int32) (v7 : Int32) => [(0, .ref a0), (1, .int x1), (2, .int x2), (3, .int v6), (4, .int v7)]) (fun k51 hk51 v6 v7 ls hl => ?_) _ _ _ _ (lv_sub hl [2, 3, 4, 1, 0] rfl)
        refine fs_lift (fun _ _ _ _ => lv_iload hx hb d_Rf_flowOf_51 (lv_at hl 4 rfl)) ?_
        refine fs_lift (fun _ _ _ _ => lv_bipush (v := 6) hx hb d_Rf_flowOf_53 (by decide)) ?_
        refine fs_if (fun _ _ _ _ => lv_icmp_ge hx hb d_Rf_flowOf_55 rfl) ?_ ?_
        · refine fs_lift (fun _ _ _ _ => lv_aload_n hx hb d_Rf_flowOf_97 rfl (lv_at hl 0 rfl)) ?_
          refine fs_lift (fun _ _ _ _ => lv_iload_n hx hb d_Rf_flowOf_98 rfl (lv_at hl 1 rfl)) ?_
          refine fs_lift (fun _ _ _ _ => lv_iload_n hx hb d_Rf_flowOf_99 rfl (lv_at hl 3 rfl)) ?_
          refine fs_lift (fun _ _ _ _ => lv_iconst (v := 4) hx hb d_Rf_flowOf_100 (by decide)) ?_
          refine fs_JV S hG hR rfl [.int x1, .int v6, .int 4] (enc := fun _ => none) (fun zr zs zt zh => m_Rf_end X l a0 x1 v6 4 zh) tw_6_123 tw_6_125 tp_2_0 tw_6_126 tw_1_11 q_Rf_end ⟨(Nat.le_of_ble_eq_true rfl), (Nat.le_of_ble_eq_true rfl)⟩ hl.1 rfl (Nat.le_of_ble_eq_true rfl) d_Rf_flowOf_101 (fun _ => ?_)
          refine fs_Jeq (g2 := F0 m 104 ls []) rfl ?_
          exact hj104 () ls (lv_sub hl [0, 1, 2] rfl)
        · refine fs_lift (fun _ _ _ _ => lv_aload_n hx hb d_Rf_flowOf_58 rfl (lv_at hl 0 rfl)) ?_
          refine fs_Jgr S hG fs_in12 rfl 12 (Nat.le_of_ble_eq_true rfl) tw_5_204 (fun _ h9 => h9) d_Rf_flowOf_59 (fun r8 => ?_)
          refine fs_lift (fun _ _ _ _ => lv_bipush (v := 6) hx hb d_Rf_flowOf_62 (by decide)) ?_
          refine fs_lift (fun _ _ _ _ => lv_iload_n hx hb d_Rf_flowOf_64 rfl (lv_at hl 1 rfl)) ?_
          refine fs_lift (fun _ _ _ _ => lv_imul hx hb d_Rf_flowOf_65) ?_
          refine fs_lift (fun _ _ _ _ => lv_iload hx hb d_Rf_flowOf_66 (lv_at hl 4 rfl)) ?_
          refine fs_lift (fun _ _ _ _ => lv_iadd hx hb d_Rf_flowOf_68) ?_
          refine fs_Jai S hG d_Rf_flowOf_69 (fun v9 => ?_)
          refine fs_lift (fun _ _ _ _ => lv_aload_n hx hb d_Rf_flowOf_70 rfl (lv_at hl 0 rfl)) ?_
          refine fs_Jgr S hG fs_in12 rfl 12 (Nat.le_of_ble_eq_true rfl) tw_5_204 (fun _ h9 => h9) d_Rf_flowOf_71 (fun r10 => ?_)
          refine fs_lift (fun _ _ _ _ => lv_bipush (v := 6) hx hb d_Rf_flowOf_74 (by decide)) ?_
          refine fs_lift (fun _ _ _ _ => lv_iload_n hx hb d_Rf_flowOf_76 rfl (lv_at hl 1 rfl)) ?_
          refine fs_lift (fun _ _ _ _ => lv_imul hx hb d_Rf_flowOf_77) ?_
          refine fs_lift (fun _ _ _ _ => lv_iload_n hx hb d_Rf_flowOf_78 rfl (lv_at hl 3 rfl)) ?_
          refine fs_lift (fun _ _ _ _ => lv_iadd hx hb d_Rf_flowOf_79) ?_
          refine fs_Jai S hG d_Rf_flowOf_80 (fun v11 => ?_)
          refine fs_Jlet1 (nL := 5) (pj := 90) (I := fun (v12 : Int32) => [(0, .ref a0), (1, .int x1), (2, .int x2), (4, .int v7)]) (st := fun (v12 : Int32) => [.int v12]) (fun v12 ls hl => ?_) (fun j90 hj90 => ?_)
          · refine fs_liftL (fun _ _ _ _ => lv_istore_n (lv' := [(3, .int v12), (0, .ref a0), (1, .int x1), (2, .int x2), (4, .int v7)]) hx hb d_Rf_flowOf_90 rfl hl (Nat.le_of_ble_eq_true rfl) rfl) (fun ls hl => ?_)
            refine fs_Jnm (fun v13 hv9 => ?_)
            refine fs_liftL (fun _ _ _ _ => lv_iinc (k := 4) (v := v13) (lv' := [(4, .int v13), (3, .int v12), (0, .ref a0), (1, .int x1), (2, .int x2)]) hx hb d_Rf_flowOf_91 hl rfl (by rw [hv9]; rfl) (Nat.le_of_ble_eq_true rfl) rfl) (fun ls hl => ?_)
            refine fs_lift (fun _ _ _ _ => lv_goto hx hb d_Rf_flowOf_94 rfl) ?_
            exact hk51 v12 v13 ls (lv_sub hl [2, 3, 4, 1, 0] rfl)
          · refine fs_if (fun _ _ _ _ => lv_icmp_ge hx hb d_Rf_flowOf_81 rfl) ?_ ?_
            · refine fs_lift (fun _ _ _ _ => lv_iload_n hx hb d_Rf_flowOf_89 rfl (lv_at hl 3 rfl)) ?_
              exact hj90 v6 ls (lv_sub hl [0, 1, 2, 4] rfl)
            · refine fs_lift (fun _ _ _ _ => lv_iload hx hb d_Rf_flowOf_84 (lv_at hl 4 rfl)) ?_
              refine fs_lift (fun _ _ _ _ => lv_goto hx hb d_Rf_flowOf_86 rfl) ?_
              exact hj90 v7 ls (lv_sub hl [0, 1, 2, 4] rfl)
      · exact hj104 () ls (lv_sub hl [0, 1, 2] rfl)
  · refine fs_lift (fun _ _ _ _ => lv_aload_n hx hb d_Rf_flowOf_12 rfl (lv_at hl 0 rfl)) ?_
    refine fs_Jgr S hG fs_in12 rfl 8 (Nat.le_of_ble_eq_true rfl) tw_5_200 (fun _ h9 => h9) d_Rf_flowOf_13 (fun r27 => ?_)
    refine fs_lift (fun _ _ _ _ => lv_bipush (v := 6) hx hb d_Rf_flowOf_16 (by decide)) ?_
    refine fs_lift (fun _ _ _ _ => lv_iload_n hx hb d_Rf_flowOf_18 rfl (lv_at hl 1 rfl)) ?_
    refine fs_lift (fun _ _ _ _ => lv_imul hx hb d_Rf_flowOf_19) ?_
    refine fs_lift (fun _ _ _ _ => lv_iload_n hx hb d_Rf_flowOf_20 rfl (lv_at hl 3 rfl)) ?_
    refine fs_lift (fun _ _ _ _ => lv_iadd hx hb d_Rf_flowOf_21) ?_
    refine fs_Jai S hG d_Rf_flowOf_22 (fun v28 => ?_)
    refine fs_lift (fun _ _ _ _ => lv_iload_n hx hb d_Rf_flowOf_23 rfl (lv_at hl 2 rfl)) ?_
    refine fs_ifn (fun _ _ _ _ => lv_icmp_ne hx hb d_Rf_flowOf_24 rfl) ?_ ?_
    · refine fs_lift (fun _ _ _ _ => lv_iload_n hx hb d_Rf_flowOf_27 rfl (lv_at hl 3 rfl)) ?_
      exact fs_Jiret S hr hk rfl d_Rf_flowOf_28
    · refine fs_Jnm (fun v29 hv9 => ?_)
      refine fs_liftL (fun _ _ _ _ => lv_iinc (k := 3) (v := v29) (lv' := [(3, .int v29), (0, .ref a0), (1, .int x1), (2, .int x2)]) hx hb d_Rf_flowOf_29 hl rfl (by rw [hv9]; rfl) (Nat.le_of_ble_eq_true rfl) rfl) (fun ls hl => ?_)
      refine fs_lift (fun _ _ _ _ => lv_goto hx hb d_Rf_flowOf_32 rfl) ?_
      exact hk2 v29 ls (lv_sub hl [1, 2, 3, 0] rfl)

theorem d_Rf_packet_0 : decode prog_13_method_7_code 0 = .ok (.aload_n 0, 1) := by decide +kernel
theorem d_Rf_packet_1 : decode prog_13_method_7_code 1 = .ok (.iload_n 1, 1) := by decide +kernel
theorem d_Rf_packet_2 : decode prog_13_method_7_code 2 = .ok (.invokevirtual 146, 3) := by decide +kernel
theorem d_Rf_packet_5 : decode prog_13_method_7_code 5 = .ok (.ifCond .ne 41, 3) := by decide +kernel
theorem d_Rf_packet_8 : decode prog_13_method_7_code 8 = .ok (.aload_n 0, 1) := by decide +kernel
theorem d_Rf_packet_9 : decode prog_13_method_7_code 9 = .ok (.iload_n 2, 1) := by decide +kernel
theorem d_Rf_packet_10 : decode prog_13_method_7_code 10 = .ok (.invokevirtual 150, 3) := by decide +kernel
theorem d_Rf_packet_13 : decode prog_13_method_7_code 13 = .ok (.ifCond .ne 33, 3) := by decide +kernel
theorem d_Rf_packet_16 : decode prog_13_method_7_code 16 = .ok (.aload_n 0, 1) := by decide +kernel
theorem d_Rf_packet_17 : decode prog_13_method_7_code 17 = .ok (.iload_n 3, 1) := by decide +kernel
theorem d_Rf_packet_18 : decode prog_13_method_7_code 18 = .ok (.invokevirtual 150, 3) := by decide +kernel
theorem d_Rf_packet_21 : decode prog_13_method_7_code 21 = .ok (.ifCond .ne 25, 3) := by decide +kernel
theorem d_Rf_packet_24 : decode prog_13_method_7_code 24 = .ok (.aload_n 0, 1) := by decide +kernel
theorem d_Rf_packet_25 : decode prog_13_method_7_code 25 = .ok (.iload 4, 2) := by decide +kernel
theorem d_Rf_packet_27 : decode prog_13_method_7_code 27 = .ok (.invokevirtual 150, 3) := by decide +kernel
theorem d_Rf_packet_30 : decode prog_13_method_7_code 30 = .ok (.ifCond .ne 16, 3) := by decide +kernel
theorem d_Rf_packet_33 : decode prog_13_method_7_code 33 = .ok (.iload 5, 2) := by decide +kernel
theorem d_Rf_packet_35 : decode prog_13_method_7_code 35 = .ok (.ifCond .lt 11, 3) := by decide +kernel
theorem d_Rf_packet_38 : decode prog_13_method_7_code 38 = .ok (.iload 5, 2) := by decide +kernel
theorem d_Rf_packet_40 : decode prog_13_method_7_code 40 = .ok (.sipush 9999, 3) := by decide +kernel
theorem d_Rf_packet_43 : decode prog_13_method_7_code 43 = .ok (.if_icmp .le 7, 3) := by decide +kernel
theorem d_Rf_packet_46 : decode prog_13_method_7_code 46 = .ok (.iconst 1, 1) := by decide +kernel
theorem d_Rf_packet_47 : decode prog_13_method_7_code 47 = .ok (.goto 4, 3) := by decide +kernel
theorem d_Rf_packet_50 : decode prog_13_method_7_code 50 = .ok (.iconst 0, 1) := by decide +kernel
theorem d_Rf_packet_51 : decode prog_13_method_7_code 51 = .ok (.istore 7, 2) := by decide +kernel
theorem d_Rf_packet_53 : decode prog_13_method_7_code 53 = .ok (.aload_n 0, 1) := by decide +kernel
theorem d_Rf_packet_54 : decode prog_13_method_7_code 54 = .ok (.iload 7, 2) := by decide +kernel
theorem d_Rf_packet_56 : decode prog_13_method_7_code 56 = .ok (.ifCond .eq 7, 3) := by decide +kernel
theorem d_Rf_packet_59 : decode prog_13_method_7_code 59 = .ok (.iconst 1, 1) := by decide +kernel
theorem d_Rf_packet_60 : decode prog_13_method_7_code 60 = .ok (.goto 26, 3) := by decide +kernel
theorem d_Rf_packet_63 : decode prog_13_method_7_code 63 = .ok (.aload_n 0, 1) := by decide +kernel
theorem d_Rf_packet_64 : decode prog_13_method_7_code 64 = .ok (.getfield 28, 3) := by decide +kernel
theorem d_Rf_packet_67 : decode prog_13_method_7_code 67 = .ok (.iload_n 1, 1) := by decide +kernel
theorem d_Rf_packet_68 : decode prog_13_method_7_code 68 = .ok (.iaload, 1) := by decide +kernel
theorem d_Rf_packet_69 : decode prog_13_method_7_code 69 = .ok (.aload_n 0, 1) := by decide +kernel
theorem d_Rf_packet_70 : decode prog_13_method_7_code 70 = .ok (.getfield 46, 3) := by decide +kernel
theorem d_Rf_packet_73 : decode prog_13_method_7_code 73 = .ok (.iload_n 1, 1) := by decide +kernel
theorem d_Rf_packet_74 : decode prog_13_method_7_code 74 = .ok (.iaload, 1) := by decide +kernel
theorem d_Rf_packet_75 : decode prog_13_method_7_code 75 = .ok (.iadd, 1) := by decide +kernel
theorem d_Rf_packet_76 : decode prog_13_method_7_code 76 = .ok (.bipush 19, 2) := by decide +kernel
theorem d_Rf_packet_78 : decode prog_13_method_7_code 78 = .ok (.if_icmp .le 7, 3) := by decide +kernel
theorem d_Rf_packet_81 : decode prog_13_method_7_code 81 = .ok (.iconst 2, 1) := by decide +kernel
theorem d_Rf_packet_82 : decode prog_13_method_7_code 82 = .ok (.goto 4, 3) := by decide +kernel
theorem d_Rf_packet_85 : decode prog_13_method_7_code 85 = .ok (.iconst 0, 1) := by decide +kernel
theorem d_Rf_packet_86 : decode prog_13_method_7_code 86 = .ok (.putfield 138, 3) := by decide +kernel
theorem d_Rf_packet_89 : decode prog_13_method_7_code 89 = .ok (.aload_n 0, 1) := by decide +kernel
theorem d_Rf_packet_90 : decode prog_13_method_7_code 90 = .ok (.getfield 138, 3) := by decide +kernel
theorem d_Rf_packet_93 : decode prog_13_method_7_code 93 = .ok (.ifCond .eq 5, 3) := by decide +kernel
theorem d_Rf_packet_96 : decode prog_13_method_7_code 96 = .ok (.iconst 0, 1) := by decide +kernel
theorem d_Rf_packet_97 : decode prog_13_method_7_code 97 = .ok (.ireturn, 1) := by decide +kernel
theorem d_Rf_packet_98 : decode prog_13_method_7_code 98 = .ok (.aload_n 0, 1) := by decide +kernel
theorem d_Rf_packet_99 : decode prog_13_method_7_code 99 = .ok (.getfield 19, 3) := by decide +kernel
theorem d_Rf_packet_102 : decode prog_13_method_7_code 102 = .ok (.iload_n 1, 1) := by decide +kernel
theorem d_Rf_packet_103 : decode prog_13_method_7_code 103 = .ok (.iaload, 1) := by decide +kernel
theorem d_Rf_packet_104 : decode prog_13_method_7_code 104 = .ok (.ifCond .ne 7, 3) := by decide +kernel
theorem d_Rf_packet_107 : decode prog_13_method_7_code 107 = .ok (.iconst 1, 1) := by decide +kernel
theorem d_Rf_packet_108 : decode prog_13_method_7_code 108 = .ok (.goto 4, 3) := by decide +kernel
theorem d_Rf_packet_111 : decode prog_13_method_7_code 111 = .ok (.iconst 0, 1) := by decide +kernel
theorem d_Rf_packet_112 : decode prog_13_method_7_code 112 = .ok (.istore 8, 2) := by decide +kernel
theorem d_Rf_packet_114 : decode prog_13_method_7_code 114 = .ok (.aload_n 0, 1) := by decide +kernel
theorem d_Rf_packet_115 : decode prog_13_method_7_code 115 = .ok (.getfield 19, 3) := by decide +kernel
theorem d_Rf_packet_118 : decode prog_13_method_7_code 118 = .ok (.iload_n 1, 1) := by decide +kernel
theorem d_Rf_packet_119 : decode prog_13_method_7_code 119 = .ok (.aload_n 0, 1) := by decide +kernel
theorem d_Rf_packet_120 : decode prog_13_method_7_code 120 = .ok (.getfield 19, 3) := by decide +kernel
theorem d_Rf_packet_123 : decode prog_13_method_7_code 123 = .ok (.iload_n 1, 1) := by decide +kernel
theorem d_Rf_packet_124 : decode prog_13_method_7_code 124 = .ok (.iaload, 1) := by decide +kernel
theorem d_Rf_packet_125 : decode prog_13_method_7_code 125 = .ok (.iconst 1, 1) := by decide +kernel
theorem d_Rf_packet_126 : decode prog_13_method_7_code 126 = .ok (.iadd, 1) := by decide +kernel
theorem d_Rf_packet_127 : decode prog_13_method_7_code 127 = .ok (.aload_n 0, 1) := by decide +kernel
theorem d_Rf_packet_128 : decode prog_13_method_7_code 128 = .ok (.getfield 16, 3) := by decide +kernel
theorem d_Rf_packet_131 : decode prog_13_method_7_code 131 = .ok (.iload_n 1, 1) := by decide +kernel
theorem d_Rf_packet_132 : decode prog_13_method_7_code 132 = .ok (.iaload, 1) := by decide +kernel
theorem d_Rf_packet_133 : decode prog_13_method_7_code 133 = .ok (.irem, 1) := by decide +kernel
theorem d_Rf_packet_134 : decode prog_13_method_7_code 134 = .ok (.iastore, 1) := by decide +kernel
theorem d_Rf_packet_135 : decode prog_13_method_7_code 135 = .ok (.iload 8, 2) := by decide +kernel
theorem d_Rf_packet_137 : decode prog_13_method_7_code 137 = .ok (.ifCond .eq 86, 3) := by decide +kernel
theorem d_Rf_packet_140 : decode prog_13_method_7_code 140 = .ok (.aload_n 0, 1) := by decide +kernel
theorem d_Rf_packet_141 : decode prog_13_method_7_code 141 = .ok (.iload_n 1, 1) := by decide +kernel
theorem d_Rf_packet_142 : decode prog_13_method_7_code 142 = .ok (.iload_n 2, 1) := by decide +kernel
theorem d_Rf_packet_143 : decode prog_13_method_7_code 143 = .ok (.bipush 16, 2) := by decide +kernel
theorem d_Rf_packet_145 : decode prog_13_method_7_code 145 = .ok (.ishl, 1) := by decide +kernel
theorem d_Rf_packet_146 : decode prog_13_method_7_code 146 = .ok (.iload_n 3, 1) := by decide +kernel
theorem d_Rf_packet_147 : decode prog_13_method_7_code 147 = .ok (.bipush 8, 2) := by decide +kernel
theorem d_Rf_packet_149 : decode prog_13_method_7_code 149 = .ok (.ishl, 1) := by decide +kernel
theorem d_Rf_packet_150 : decode prog_13_method_7_code 150 = .ok (.ior, 1) := by decide +kernel
theorem d_Rf_packet_151 : decode prog_13_method_7_code 151 = .ok (.iload 4, 2) := by decide +kernel
theorem d_Rf_packet_153 : decode prog_13_method_7_code 153 = .ok (.ior, 1) := by decide +kernel
theorem d_Rf_packet_154 : decode prog_13_method_7_code 154 = .ok (.invokevirtual 153, 3) := by decide +kernel
theorem d_Rf_packet_157 : decode prog_13_method_7_code 157 = .ok (.istore 9, 2) := by decide +kernel
theorem d_Rf_packet_159 : decode prog_13_method_7_code 159 = .ok (.aload_n 0, 1) := by decide +kernel
theorem d_Rf_packet_160 : decode prog_13_method_7_code 160 = .ok (.getfield 34, 3) := by decide +kernel
theorem d_Rf_packet_163 : decode prog_13_method_7_code 163 = .ok (.bipush 6, 2) := by decide +kernel
theorem d_Rf_packet_165 : decode prog_13_method_7_code 165 = .ok (.iload_n 1, 1) := by decide +kernel
theorem d_Rf_packet_166 : decode prog_13_method_7_code 166 = .ok (.imul, 1) := by decide +kernel
theorem d_Rf_packet_167 : decode prog_13_method_7_code 167 = .ok (.iload 9, 2) := by decide +kernel
theorem d_Rf_packet_169 : decode prog_13_method_7_code 169 = .ok (.iadd, 1) := by decide +kernel
theorem d_Rf_packet_170 : decode prog_13_method_7_code 170 = .ok (.dup2, 1) := by decide +kernel
theorem d_Rf_packet_171 : decode prog_13_method_7_code 171 = .ok (.iaload, 1) := by decide +kernel
theorem d_Rf_packet_172 : decode prog_13_method_7_code 172 = .ok (.iload 5, 2) := by decide +kernel
theorem d_Rf_packet_174 : decode prog_13_method_7_code 174 = .ok (.iadd, 1) := by decide +kernel
theorem d_Rf_packet_175 : decode prog_13_method_7_code 175 = .ok (.iastore, 1) := by decide +kernel
theorem d_Rf_packet_176 : decode prog_13_method_7_code 176 = .ok (.aload_n 0, 1) := by decide +kernel
theorem d_Rf_packet_177 : decode prog_13_method_7_code 177 = .ok (.getfield 37, 3) := by decide +kernel
theorem d_Rf_packet_180 : decode prog_13_method_7_code 180 = .ok (.bipush 6, 2) := by decide +kernel
theorem d_Rf_packet_182 : decode prog_13_method_7_code 182 = .ok (.iload_n 1, 1) := by decide +kernel
theorem d_Rf_packet_183 : decode prog_13_method_7_code 183 = .ok (.imul, 1) := by decide +kernel
theorem d_Rf_packet_184 : decode prog_13_method_7_code 184 = .ok (.iload 9, 2) := by decide +kernel
theorem d_Rf_packet_186 : decode prog_13_method_7_code 186 = .ok (.iadd, 1) := by decide +kernel
theorem d_Rf_packet_187 : decode prog_13_method_7_code 187 = .ok (.dup2, 1) := by decide +kernel
theorem d_Rf_packet_188 : decode prog_13_method_7_code 188 = .ok (.iaload, 1) := by decide +kernel
theorem d_Rf_packet_189 : decode prog_13_method_7_code 189 = .ok (.iconst 1, 1) := by decide +kernel
theorem d_Rf_packet_190 : decode prog_13_method_7_code 190 = .ok (.iadd, 1) := by decide +kernel
theorem d_Rf_packet_191 : decode prog_13_method_7_code 191 = .ok (.iastore, 1) := by decide +kernel
theorem d_Rf_packet_192 : decode prog_13_method_7_code 192 = .ok (.aload_n 0, 1) := by decide +kernel
theorem d_Rf_packet_193 : decode prog_13_method_7_code 193 = .ok (.getfield 43, 3) := by decide +kernel
theorem d_Rf_packet_196 : decode prog_13_method_7_code 196 = .ok (.bipush 6, 2) := by decide +kernel
theorem d_Rf_packet_198 : decode prog_13_method_7_code 198 = .ok (.iload_n 1, 1) := by decide +kernel
theorem d_Rf_packet_199 : decode prog_13_method_7_code 199 = .ok (.imul, 1) := by decide +kernel
theorem d_Rf_packet_200 : decode prog_13_method_7_code 200 = .ok (.iload 9, 2) := by decide +kernel
theorem d_Rf_packet_202 : decode prog_13_method_7_code 202 = .ok (.iadd, 1) := by decide +kernel
theorem d_Rf_packet_203 : decode prog_13_method_7_code 203 = .ok (.aload_n 0, 1) := by decide +kernel
theorem d_Rf_packet_204 : decode prog_13_method_7_code 204 = .ok (.getfield 7, 3) := by decide +kernel
theorem d_Rf_packet_207 : decode prog_13_method_7_code 207 = .ok (.iload_n 1, 1) := by decide +kernel
theorem d_Rf_packet_208 : decode prog_13_method_7_code 208 = .ok (.iaload, 1) := by decide +kernel
theorem d_Rf_packet_209 : decode prog_13_method_7_code 209 = .ok (.iastore, 1) := by decide +kernel
theorem d_Rf_packet_210 : decode prog_13_method_7_code 210 = .ok (.iload 6, 2) := by decide +kernel
theorem d_Rf_packet_212 : decode prog_13_method_7_code 212 = .ok (.ifCond .eq 11, 3) := by decide +kernel
theorem d_Rf_packet_215 : decode prog_13_method_7_code 215 = .ok (.aload_n 0, 1) := by decide +kernel
theorem d_Rf_packet_216 : decode prog_13_method_7_code 216 = .ok (.iload_n 1, 1) := by decide +kernel
theorem d_Rf_packet_217 : decode prog_13_method_7_code 217 = .ok (.iload 9, 2) := by decide +kernel
theorem d_Rf_packet_219 : decode prog_13_method_7_code 219 = .ok (.iconst 3, 1) := by decide +kernel
theorem d_Rf_packet_220 : decode prog_13_method_7_code 220 = .ok (.invokevirtual 142, 3) := by decide +kernel
theorem d_Rf_packet_223 : decode prog_13_method_7_code 223 = .ok (.iload 8, 2) := by decide +kernel
theorem d_Rf_packet_225 : decode prog_13_method_7_code 225 = .ok (.ireturn, 1) := by decide +kernel
theorem q_Rf_packet : (⟨"FlowShelfModel", "packet", "(IIIIIZ)Z"⟩ : MethodName).cls ≠ "java/lang/invoke/MethodHandle" ∧ (⟨"FlowShelfModel", "packet", "(IIIIIZ)Z"⟩ : MethodName).cls ≠ "java/lang/invoke/VarHandle" ∧ (parseMethodDescriptor (⟨"FlowShelfModel", "packet", "(IIIIIZ)Z"⟩ : MethodName).desc).map (fun d => d.parameters.length) = some 6 := by decide +kernel
set_option maxHeartbeats 4000000 in
set_option maxRecDepth 100000 in
theorem m_Rf_packet (X : fs_X) (l : Launch) (a0 : Nat) (x1 : Int32) (x2 : Int32) (x3 : Int32) (x4 : Int32) (x5 : Int32) (x6 : Int32) {r : Int32} {σ σF : fs_S} (h : (f_Rf_packet a0 x1 x2 x3 x4 x5 x6).1 σ = some (r, σF)) : fs_Met X l ⟨"FlowShelfModel", "packet", "(IIIIIZ)Z"⟩ (Cond.code ⟨"FlowShelfModel", "packet", "(IIIIIZ)Z"⟩ prog_13_method_7_code 10 (some FieldType.boolean)) 2 50 [.ref a0, .int x1, .int x2, .int x3, .int x4, .int x5, .int x6] σ (fs_eI r) σF := by
  refine fs_ofW (by decide) ?_
  intro p e s m args below meth c s₁ B hml hT hv
  obtain ⟨rfl, hw0, hG⟩ := hv
  have hx := B.exec
  have hb := B.bytes
  have hr := B.returns
  have hk := B.notSynchronized
  have S : CallFix p m c prog_13_method_7_code 10 s _ fs_ws "FlowShelfModel" := ⟨B.exec, B.bytes, hml, findClass_of_methodNamed B.named, fun w hw => atoms_spec (ws := _ :: fs_ws) B.pre w (List.mem_cons_of_mem _ hw)⟩
  have hR := fs_hR (fr := 2) (lo := 50) ((f_Rf_packet a0 x1 x2 x3 x4 x5 x6).2 _ _ _ h)
  have hl := lv_entry ([.ref a0, .int x1, .int x2, .int x3, .int x4, .int x5, .int x6]) (n := 10) (Nat.le_of_ble_eq_true rfl)
  rw [lg_entry_eq]
  generalize (lg_sl ([.ref a0, .int x1, .int x2, .int x3, .int x4, .int x5, .int x6]) ++ List.replicate (10 - (lg_sl ([.ref a0, .int x1, .int x2, .int x3, .int x4, .int x5, .int x6])).length) Slot.unset).toArray = ls at hl ⊢
  have hl : lv_has ls 10 [(0, .ref a0), (1, .int x1), (2, .int x2), (3, .int x3), (4, .int x4), (5, .int x5), (6, .int x6)] := hl
  refine (?_ : fs_J X p l e (fs_rm 2 50 σ σF) s m _ below meth c (fs_Q X below _ s (fs_eI r) σ σF) r σ σF (f_Rf_packet a0 x1 x2 x3 x4 x5 x6) (F0 m 0 ls [])) σ s.heap [] 0 0 h hw0 va_S.rf rfl rfl
  clear h hw0
  unfold f_Rf_packet
  refine fs_lift (fun _ _ _ _ => lv_aload_n hx hb d_Rf_packet_0 rfl (lv_at hl 0 rfl)) ?_
  refine fs_lift (fun _ _ _ _ => lv_iload_n hx hb d_Rf_packet_1 rfl (lv_at hl 1 rfl)) ?_
  refine fs_JV S hG hR rfl [.int x1] (enc := fun r => some (.int r)) (fun zr zs zt zh => m_Rf_noExporter X l a0 x1 zh) tw_6_111 tw_6_113 tp_1_13 tw_6_114 tw_1_11 q_Rf_noExporter ⟨(Nat.le_of_ble_eq_true rfl), (Nat.le_of_ble_eq_true rfl)⟩ hl.1 rfl (Nat.le_of_ble_eq_true rfl) d_Rf_packet_2 (fun v1 => ?_)
  refine fs_Jeq (g2 := F0 m 5 ls [.int v1]) rfl ?_
  refine fs_Jlet1 (nL := 10) (pj := 51) (I := fun (v5 : Int32) => [(0, .ref a0), (1, .int x1), (2, .int x2), (3, .int x3), (4, .int x4), (5, .int x5), (6, .int x6)]) (st := fun (v5 : Int32) => [.int v5]) (fun v5 ls hl => ?_) (fun j51 hj51 => ?_)
  · refine fs_liftL (fun _ _ _ _ => lv_istore (lv' := [(7, .int v5), (0, .ref a0), (1, .int x1), (2, .int x2), (3, .int x3), (4, .int x4), (5, .int x5), (6, .int x6)]) hx hb d_Rf_packet_51 hl (Nat.le_of_ble_eq_true rfl) rfl) (fun ls hl => ?_)
    refine fs_lift (fun _ _ _ _ => lv_aload_n hx hb d_Rf_packet_53 rfl (lv_at hl 1 rfl)) ?_
    refine fs_lift (fun _ _ _ _ => lv_iload hx hb d_Rf_packet_54 (lv_at hl 0 rfl)) ?_
    refine fs_Jlet1 (nL := 10) (pj := 86) (I := fun (v10 : Int32) => [(0, .ref a0), (1, .int x1), (2, .int x2), (3, .int x3), (4, .int x4), (5, .int x5), (6, .int x6)]) (st := fun (v10 : Int32) => [.int v10, .ref a0]) (fun v10 ls hl => ?_) (fun j86 hj86 => ?_)
    · refine fs_Jput S hG fs_in12 rfl 0 (Nat.le_of_ble_eq_true rfl) tw_5_192 (fun _ h9 => h9) fs_Y12 fs_ty12 fs_nm12 (Or.inl rfl) rfl rfl d_Rf_packet_86 ?_
      refine fs_lift (fun _ _ _ _ => lv_aload_n hx hb d_Rf_packet_89 rfl (lv_at hl 0 rfl)) ?_
      refine fs_Jgi S hG fs_in12 rfl 0 (Nat.le_of_ble_eq_true rfl) tw_5_192 (fun _ h9 => h9) d_Rf_packet_90 (fun v11 => ?_)
      refine fs_if (fun _ _ _ _ => lv_if_eq hx hb d_Rf_packet_93 rfl) ?_ ?_
      · refine fs_lift (fun _ _ _ _ => lv_aload_n hx hb d_Rf_packet_98 rfl (lv_at hl 0 rfl)) ?_
        refine fs_Jgr S hG fs_in12 rfl 4 (Nat.le_of_ble_eq_true rfl) tw_5_196 (fun _ h9 => h9) d_Rf_packet_99 (fun r12 => ?_)
        refine fs_lift (fun _ _ _ _ => lv_iload_n hx hb d_Rf_packet_102 rfl (lv_at hl 1 rfl)) ?_
        refine fs_Jai S hG d_Rf_packet_103 (fun v13 => ?_)
        refine fs_Jlet1 (nL := 10) (pj := 112) (I := fun (v14 : Int32) => [(0, .ref a0), (1, .int x1), (2, .int x2), (3, .int x3), (4, .int x4), (5, .int x5), (6, .int x6)]) (st := fun (v14 : Int32) => [.int v14]) (fun v14 ls hl => ?_) (fun j112 hj112 => ?_)
        · refine fs_liftL (fun _ _ _ _ => lv_istore (lv' := [(8, .int v14), (0, .ref a0), (1, .int x1), (2, .int x2), (3, .int x3), (4, .int x4), (5, .int x5), (6, .int x6)]) hx hb d_Rf_packet_112 hl (Nat.le_of_ble_eq_true rfl) rfl) (fun ls hl => ?_)
          refine fs_lift (fun _ _ _ _ => lv_aload_n hx hb d_Rf_packet_114 rfl (lv_at hl 1 rfl)) ?_
          refine fs_Jgr S hG fs_in12 rfl 4 (Nat.le_of_ble_eq_true rfl) tw_5_196 (fun _ h9 => h9) d_Rf_packet_115 (fun r15 => ?_)
          refine fs_lift (fun _ _ _ _ => lv_iload_n hx hb d_Rf_packet_118 rfl (lv_at hl 2 rfl)) ?_
          refine fs_lift (fun _ _ _ _ => lv_aload_n hx hb d_Rf_packet_119 rfl (lv_at hl 1 rfl)) ?_
          refine fs_Jgr S hG fs_in12 rfl 4 (Nat.le_of_ble_eq_true rfl) tw_5_196 (fun _ h9 => h9) d_Rf_packet_120 (fun r16 => ?_)
          refine fs_lift (fun _ _ _ _ => lv_iload_n hx hb d_Rf_packet_123 rfl (lv_at hl 2 rfl)) ?_
          refine fs_Jai S hG d_Rf_packet_124 (fun v17 => ?_)
          refine fs_lift (fun _ _ _ _ => lv_iconst (v := 1) hx hb d_Rf_packet_125 (by decide)) ?_
          refine fs_lift (fun _ _ _ _ => lv_iadd hx hb d_Rf_packet_126) ?_
          refine fs_lift (fun _ _ _ _ => lv_aload_n hx hb d_Rf_packet_127 rfl (lv_at hl 1 rfl)) ?_
          refine fs_Jgr S hG fs_in12 rfl 3 (Nat.le_of_ble_eq_true rfl) tw_5_195 (fun _ h9 => h9) d_Rf_packet_128 (fun r18 => ?_)
          refine fs_lift (fun _ _ _ _ => lv_iload_n hx hb d_Rf_packet_131 rfl (lv_at hl 2 rfl)) ?_
          refine fs_Jai S hG d_Rf_packet_132 (fun v19 => ?_)
          refine fs_Jrem S d_Rf_packet_133 (fun v20 => ?_)
          refine fs_Jsi S hG d_Rf_packet_134 ?_
          refine fs_lift (fun _ _ _ _ => lv_iload hx hb d_Rf_packet_135 (lv_at hl 0 rfl)) ?_
          refine fs_Jlet1 (nL := 10) (pj := 223) (I := fun (_ : Unit) => [(8, .int v14)]) (st := fun (_ : Unit) => []) (fun _ ls hl => ?_) (fun j223 hj223 => ?_)
          · refine fs_lift (fun _ _ _ _ => lv_iload hx hb d_Rf_packet_223 (lv_at hl 0 rfl)) ?_
            exact fs_Jzret S hr hk rfl d_Rf_packet_225
          · refine fs_if (fun _ _ _ _ => lv_if_eq hx hb d_Rf_packet_137 rfl) ?_ ?_
            · exact hj223 () ls (lv_sub hl [0] rfl)
            · refine fs_lift (fun _ _ _ _ => lv_aload_n hx hb d_Rf_packet_140 rfl (lv_at hl 1 rfl)) ?_
              refine fs_lift (fun _ _ _ _ => lv_iload_n hx hb d_Rf_packet_141 rfl (lv_at hl 2 rfl)) ?_
              refine fs_lift (fun _ _ _ _ => lv_iload_n hx hb d_Rf_packet_142 rfl (lv_at hl 3 rfl)) ?_
              refine fs_lift (fun _ _ _ _ => lv_bipush (v := 16) hx hb d_Rf_packet_143 (by decide)) ?_
              refine fs_lift (fun _ _ _ _ => lv_ishl hx hb d_Rf_packet_145) ?_
              refine fs_lift (fun _ _ _ _ => lv_iload_n hx hb d_Rf_packet_146 rfl (lv_at hl 4 rfl)) ?_
              refine fs_lift (fun _ _ _ _ => lv_bipush (v := 8) hx hb d_Rf_packet_147 (by decide)) ?_
              refine fs_lift (fun _ _ _ _ => lv_ishl hx hb d_Rf_packet_149) ?_
              refine fs_lift (fun _ _ _ _ => lv_ior hx hb d_Rf_packet_150) ?_
              refine fs_lift (fun _ _ _ _ => lv_iload hx hb d_Rf_packet_151 (lv_at hl 5 rfl)) ?_
              refine fs_lift (fun _ _ _ _ => lv_ior hx hb d_Rf_packet_153) ?_
              refine fs_JV S hG hR rfl [.int x1, .int (((x2 <<< (16 &&& 31)) ||| (x3 <<< (8 &&& 31))) ||| x4)] (enc := fun r => some (.int r)) (fun zr zs zt zh => m_Rf_flowOf X l a0 x1 (((x2 <<< (16 &&& 31)) ||| (x3 <<< (8 &&& 31))) ||| x4) zh) tw_6_119 tw_6_121 tp_1_15 tw_6_122 tw_1_11 q_Rf_flowOf ⟨(Nat.le_of_ble_eq_true rfl), (Nat.le_of_ble_eq_true rfl)⟩ hl.1 rfl (Nat.le_of_ble_eq_true rfl) d_Rf_packet_154 (fun v21 => ?_)
              refine fs_Jeq (g2 := F0 m 157 ls [.int v21]) rfl ?_
              refine fs_liftL (fun _ _ _ _ => lv_istore (lv' := [(9, .int v21), (8, .int v14), (0, .ref a0), (1, .int x1), (2, .int x2), (3, .int x3), (4, .int x4), (5, .int x5), (6, .int x6)]) hx hb d_Rf_packet_157 hl (Nat.le_of_ble_eq_true rfl) rfl) (fun ls hl => ?_)
              refine fs_lift (fun _ _ _ _ => lv_aload_n hx hb d_Rf_packet_159 rfl (lv_at hl 2 rfl)) ?_
              refine fs_Jgr S hG fs_in12 rfl 9 (Nat.le_of_ble_eq_true rfl) tw_5_201 (fun _ h9 => h9) d_Rf_packet_160 (fun r22 => ?_)
              refine fs_lift (fun _ _ _ _ => lv_bipush (v := 6) hx hb d_Rf_packet_163 (by decide)) ?_
              refine fs_lift (fun _ _ _ _ => lv_iload_n hx hb d_Rf_packet_165 rfl (lv_at hl 3 rfl)) ?_
              refine fs_lift (fun _ _ _ _ => lv_imul hx hb d_Rf_packet_166) ?_
              refine fs_lift (fun _ _ _ _ => lv_iload hx hb d_Rf_packet_167 (lv_at hl 0 rfl)) ?_
              refine fs_lift (fun _ _ _ _ => lv_iadd hx hb d_Rf_packet_169) ?_
              refine fs_Jni (fun v23 => ?_)
              refine fs_lift (fun _ _ _ _ => lv_dup2_11 hx hb d_Rf_packet_170 rfl rfl) ?_
              refine fs_Jai S hG d_Rf_packet_171 (fun v24 => ?_)
              refine fs_lift (fun _ _ _ _ => lv_iload hx hb d_Rf_packet_172 (lv_at hl 7 rfl)) ?_
              refine fs_lift (fun _ _ _ _ => lv_iadd hx hb d_Rf_packet_174) ?_
              refine fs_Jsi S hG d_Rf_packet_175 ?_
              refine fs_lift (fun _ _ _ _ => lv_aload_n hx hb d_Rf_packet_176 rfl (lv_at hl 2 rfl)) ?_
              refine fs_Jgr S hG fs_in12 rfl 10 (Nat.le_of_ble_eq_true rfl) tw_5_202 (fun _ h9 => h9) d_Rf_packet_177 (fun r25 => ?_)
              refine fs_lift (fun _ _ _ _ => lv_bipush (v := 6) hx hb d_Rf_packet_180 (by decide)) ?_
              refine fs_lift (fun _ _ _ _ => lv_iload_n hx hb d_Rf_packet_182 rfl (lv_at hl 3 rfl)) ?_
              refine fs_lift (fun _ _ _ _ => lv_imul hx hb d_Rf_packet_183) ?_
              refine fs_lift (fun _ _ _ _ => lv_iload hx hb d_Rf_packet_184 (lv_at hl 0 rfl)) ?_
              refine fs_lift (fun _ _ _ _ => lv_iadd hx hb d_Rf_packet_186) ?_
              refine fs_Jni (fun v26 => ?_)
              refine fs_lift (fun _ _ _ _ => lv_dup2_11 hx hb d_Rf_packet_187 rfl rfl) ?_
              refine fs_Jai S hG d_Rf_packet_188 (fun v27 => ?_)
              refine fs_lift (fun _ _ _ _ => lv_iconst (v := 1) hx hb d_Rf_packet_189 (by decide)) ?_
              refine fs_lift (fun _ _ _ _ => lv_iadd hx hb d_Rf_packet_190) ?_
              refine fs_Jsi S hG d_Rf_packet_191 ?_
              refine fs_lift (fun _ _ _ _ => lv_aload_n hx hb d_Rf_packet_192 rfl (lv_at hl 2 rfl)) ?_
              refine fs_Jgr S hG fs_in12 rfl 12 (Nat.le_of_ble_eq_true rfl) tw_5_204 (fun _ h9 => h9) d_Rf_packet_193 (fun r28 => ?_)
              refine fs_lift (fun _ _ _ _ => lv_bipush (v := 6) hx hb d_Rf_packet_196 (by decide)) ?_
              refine fs_lift (fun _ _ _ _ => lv_iload_n hx hb d_Rf_packet_198 rfl (lv_at hl 3 rfl)) ?_
              refine fs_lift (fun _ _ _ _ => lv_imul hx hb d_Rf_packet_199) ?_
              refine fs_lift (fun _ _ _ _ => lv_iload hx hb d_Rf_packet_200 (lv_at hl 0 rfl)) ?_
              refine fs_lift (fun _ _ _ _ => lv_iadd hx hb d_Rf_packet_202) ?_
              refine fs_lift (fun _ _ _ _ => lv_aload_n hx hb d_Rf_packet_203 rfl (lv_at hl 2 rfl)) ?_
              refine fs_Jgr S hG fs_in12 rfl 1 (Nat.le_of_ble_eq_true rfl) tw_5_193 (fun _ h9 => h9) d_Rf_packet_204 (fun r29 => ?_)
              refine fs_lift (fun _ _ _ _ => lv_iload_n hx hb d_Rf_packet_207 rfl (lv_at hl 3 rfl)) ?_
              refine fs_Jai S hG d_Rf_packet_208 (fun v30 => ?_)
              refine fs_Jsi S hG d_Rf_packet_209 ?_
              refine fs_lift (fun _ _ _ _ => lv_iload hx hb d_Rf_packet_210 (lv_at hl 8 rfl)) ?_
              refine fs_if (fun _ _ _ _ => lv_if_eq hx hb d_Rf_packet_212 rfl) ?_ ?_
              · exact hj223 () ls (lv_sub hl [1] rfl)
              · refine fs_lift (fun _ _ _ _ => lv_aload_n hx hb d_Rf_packet_215 rfl (lv_at hl 2 rfl)) ?_
                refine fs_lift (fun _ _ _ _ => lv_iload_n hx hb d_Rf_packet_216 rfl (lv_at hl 3 rfl)) ?_
                refine fs_lift (fun _ _ _ _ => lv_iload hx hb d_Rf_packet_217 (lv_at hl 0 rfl)) ?_
                refine fs_lift (fun _ _ _ _ => lv_iconst (v := 3) hx hb d_Rf_packet_219 (by decide)) ?_
                refine fs_JV S hG hR rfl [.int x1, .int v21, .int 3] (enc := fun _ => none) (fun zr zs zt zh => m_Rf_end X l a0 x1 v21 3 zh) tw_6_123 tw_6_125 tp_2_0 tw_6_126 tw_1_11 q_Rf_end ⟨(Nat.le_of_ble_eq_true rfl), (Nat.le_of_ble_eq_true rfl)⟩ hl.1 rfl (Nat.le_of_ble_eq_true rfl) d_Rf_packet_220 (fun _ => ?_)
                refine fs_Jeq (g2 := F0 m 223 ls []) rfl ?_
                exact hj223 () ls (lv_sub hl [1] rfl)
        · refine fs_ifn (fun _ _ _ _ => lv_if_ne hx hb d_Rf_packet_104 rfl) ?_ ?_
          · refine fs_lift (fun _ _ _ _ => lv_iconst (v := 1) hx hb d_Rf_packet_107 (by decide)) ?_
            refine fs_lift (fun _ _ _ _ => lv_goto hx hb d_Rf_packet_108 rfl) ?_
            exact hj112 1 ls (lv_sub hl [0, 1, 2, 3, 4, 5, 6] rfl)
          · refine fs_lift (fun _ _ _ _ => lv_iconst (v := 0) hx hb d_Rf_packet_111 (by decide)) ?_
            exact hj112 0 ls (lv_sub hl [0, 1, 2, 3, 4, 5, 6] rfl)
      · refine fs_lift (fun _ _ _ _ => lv_iconst (v := 0) hx hb d_Rf_packet_96 (by decide)) ?_
        exact fs_Jzret S hr hk rfl d_Rf_packet_97
    · refine fs_if (fun _ _ _ _ => lv_if_eq hx hb d_Rf_packet_56 rfl) ?_ ?_
      · refine fs_lift (fun _ _ _ _ => lv_aload_n hx hb d_Rf_packet_63 rfl (lv_at hl 1 rfl)) ?_
        refine fs_Jgr S hG fs_in12 rfl 7 (Nat.le_of_ble_eq_true rfl) tw_5_199 (fun _ h9 => h9) d_Rf_packet_64 (fun r6 => ?_)
        refine fs_lift (fun _ _ _ _ => lv_iload_n hx hb d_Rf_packet_67 rfl (lv_at hl 2 rfl)) ?_
        refine fs_Jai S hG d_Rf_packet_68 (fun v7 => ?_)
        refine fs_lift (fun _ _ _ _ => lv_aload_n hx hb d_Rf_packet_69 rfl (lv_at hl 1 rfl)) ?_
        refine fs_Jgr S hG fs_in12 rfl 13 (Nat.le_of_ble_eq_true rfl) tw_5_205 (fun _ h9 => h9) d_Rf_packet_70 (fun r8 => ?_)
        refine fs_lift (fun _ _ _ _ => lv_iload_n hx hb d_Rf_packet_73 rfl (lv_at hl 2 rfl)) ?_
        refine fs_Jai S hG d_Rf_packet_74 (fun v9 => ?_)
        refine fs_lift (fun _ _ _ _ => lv_iadd hx hb d_Rf_packet_75) ?_
        refine fs_lift (fun _ _ _ _ => lv_bipush (v := 19) hx hb d_Rf_packet_76 (by decide)) ?_
        refine fs_if (fun _ _ _ _ => lv_icmp_le hx hb d_Rf_packet_78 rfl) ?_ ?_
        · refine fs_lift (fun _ _ _ _ => lv_iconst (v := 0) hx hb d_Rf_packet_85 (by decide)) ?_
          exact hj86 0 ls (lv_sub hl [1, 2, 3, 4, 5, 6, 7] rfl)
        · refine fs_lift (fun _ _ _ _ => lv_iconst (v := 2) hx hb d_Rf_packet_81 (by decide)) ?_
          refine fs_lift (fun _ _ _ _ => lv_goto hx hb d_Rf_packet_82 rfl) ?_
          exact hj86 2 ls (lv_sub hl [1, 2, 3, 4, 5, 6, 7] rfl)
      · refine fs_lift (fun _ _ _ _ => lv_iconst (v := 1) hx hb d_Rf_packet_59 (by decide)) ?_
        refine fs_lift (fun _ _ _ _ => lv_goto hx hb d_Rf_packet_60 rfl) ?_
        exact hj86 1 ls (lv_sub hl [1, 2, 3, 4, 5, 6, 7] rfl)
  · refine fs_Jlet1 (nL := 10) (pj := 46) (I := fun (_ : Unit) => [(0, .ref a0), (1, .int x1), (2, .int x2), (3, .int x3), (4, .int x4), (5, .int x5), (6, .int x6)]) (st := fun (_ : Unit) => []) (fun _ ls hl => ?_) (fun j46 hj46 => ?_)
    · refine fs_lift (fun _ _ _ _ => lv_iconst (v := 1) hx hb d_Rf_packet_46 (by decide)) ?_
      refine fs_lift (fun _ _ _ _ => lv_goto hx hb d_Rf_packet_47 rfl) ?_
      exact hj51 1 ls (lv_sub hl [0, 1, 2, 3, 4, 5, 6] rfl)
    · refine fs_ifn (fun _ _ _ _ => lv_if_ne hx hb d_Rf_packet_5 rfl) ?_ ?_
      · refine fs_lift (fun _ _ _ _ => lv_aload_n hx hb d_Rf_packet_8 rfl (lv_at hl 0 rfl)) ?_
        refine fs_lift (fun _ _ _ _ => lv_iload_n hx hb d_Rf_packet_9 rfl (lv_at hl 2 rfl)) ?_
        refine fs_JV S hG hR rfl [.int x2] (enc := fun r => some (.int r)) (fun zr zs zt zh => m_Rf_noByte X l a0 x2 zh) tw_6_115 tw_6_117 tp_1_14 tw_6_118 tw_1_11 q_Rf_noByte ⟨(Nat.le_of_ble_eq_true rfl), (Nat.le_of_ble_eq_true rfl)⟩ hl.1 rfl (Nat.le_of_ble_eq_true rfl) d_Rf_packet_10 (fun v2 => ?_)
        refine fs_Jeq (g2 := F0 m 13 ls [.int v2]) rfl ?_
        refine fs_ifn (fun _ _ _ _ => lv_if_ne hx hb d_Rf_packet_13 rfl) ?_ ?_
        · refine fs_lift (fun _ _ _ _ => lv_aload_n hx hb d_Rf_packet_16 rfl (lv_at hl 0 rfl)) ?_
          refine fs_lift (fun _ _ _ _ => lv_iload_n hx hb d_Rf_packet_17 rfl (lv_at hl 3 rfl)) ?_
          refine fs_JV S hG hR rfl [.int x3] (enc := fun r => some (.int r)) (fun zr zs zt zh => m_Rf_noByte X l a0 x3 zh) tw_6_115 tw_6_117 tp_1_14 tw_6_118 tw_1_11 q_Rf_noByte ⟨(Nat.le_of_ble_eq_true rfl), (Nat.le_of_ble_eq_true rfl)⟩ hl.1 rfl (Nat.le_of_ble_eq_true rfl) d_Rf_packet_18 (fun v3 => ?_)
          refine fs_Jeq (g2 := F0 m 21 ls [.int v3]) rfl ?_
          refine fs_ifn (fun _ _ _ _ => lv_if_ne hx hb d_Rf_packet_21 rfl) ?_ ?_
          · refine fs_lift (fun _ _ _ _ => lv_aload_n hx hb d_Rf_packet_24 rfl (lv_at hl 0 rfl)) ?_
            refine fs_lift (fun _ _ _ _ => lv_iload hx hb d_Rf_packet_25 (lv_at hl 4 rfl)) ?_
            refine fs_JV S hG hR rfl [.int x4] (enc := fun r => some (.int r)) (fun zr zs zt zh => m_Rf_noByte X l a0 x4 zh) tw_6_115 tw_6_117 tp_1_14 tw_6_118 tw_1_11 q_Rf_noByte ⟨(Nat.le_of_ble_eq_true rfl), (Nat.le_of_ble_eq_true rfl)⟩ hl.1 rfl (Nat.le_of_ble_eq_true rfl) d_Rf_packet_27 (fun v4 => ?_)
            refine fs_Jeq (g2 := F0 m 30 ls [.int v4]) rfl ?_
            refine fs_ifn (fun _ _ _ _ => lv_if_ne hx hb d_Rf_packet_30 rfl) ?_ ?_
            · refine fs_lift (fun _ _ _ _ => lv_iload hx hb d_Rf_packet_33 (lv_at hl 5 rfl)) ?_
              refine fs_if (fun _ _ _ _ => lv_if_lt hx hb d_Rf_packet_35 rfl) ?_ ?_
              · exact hj46 () ls (lv_sub hl [0, 1, 2, 3, 4, 5, 6] rfl)
              · refine fs_lift (fun _ _ _ _ => lv_iload hx hb d_Rf_packet_38 (lv_at hl 5 rfl)) ?_
                refine fs_lift (fun _ _ _ _ => lv_sipush (v := 9999) hx hb d_Rf_packet_40 (by decide)) ?_
                refine fs_if (fun _ _ _ _ => lv_icmp_le hx hb d_Rf_packet_43 rfl) ?_ ?_
                · refine fs_lift (fun _ _ _ _ => lv_iconst (v := 0) hx hb d_Rf_packet_50 (by decide)) ?_
                  exact hj51 0 ls (lv_sub hl [0, 1, 2, 3, 4, 5, 6] rfl)
                · exact hj46 () ls (lv_sub hl [0, 1, 2, 3, 4, 5, 6] rfl)
            · exact hj46 () ls (lv_sub hl [0, 1, 2, 3, 4, 5, 6] rfl)
          · exact hj46 () ls (lv_sub hl [0, 1, 2, 3, 4, 5, 6] rfl)
        · exact hj46 () ls (lv_sub hl [0, 1, 2, 3, 4, 5, 6] rfl)
      · exact hj46 () ls (lv_sub hl [0, 1, 2, 3, 4, 5, 6] rfl)

theorem d_Rf_tick_0 : decode prog_13_method_8_code 0 = .ok (.aload_n 0, 1) := by decide +kernel
theorem d_Rf_tick_1 : decode prog_13_method_8_code 1 = .ok (.aload_n 0, 1) := by decide +kernel
theorem d_Rf_tick_2 : decode prog_13_method_8_code 2 = .ok (.iload_n 1, 1) := by decide +kernel
theorem d_Rf_tick_3 : decode prog_13_method_8_code 3 = .ok (.invokevirtual 146, 3) := by decide +kernel
theorem d_Rf_tick_6 : decode prog_13_method_8_code 6 = .ok (.ifCond .ne 14, 3) := by decide +kernel
theorem d_Rf_tick_9 : decode prog_13_method_8_code 9 = .ok (.iload_n 2, 1) := by decide +kernel
theorem d_Rf_tick_10 : decode prog_13_method_8_code 10 = .ok (.iconst 1, 1) := by decide +kernel
theorem d_Rf_tick_11 : decode prog_13_method_8_code 11 = .ok (.if_icmp .lt 9, 3) := by decide +kernel
theorem d_Rf_tick_14 : decode prog_13_method_8_code 14 = .ok (.iload_n 2, 1) := by decide +kernel
theorem d_Rf_tick_15 : decode prog_13_method_8_code 15 = .ok (.bipush 100, 2) := by decide +kernel
theorem d_Rf_tick_17 : decode prog_13_method_8_code 17 = .ok (.if_icmp .le 7, 3) := by decide +kernel
theorem d_Rf_tick_20 : decode prog_13_method_8_code 20 = .ok (.iconst 1, 1) := by decide +kernel
theorem d_Rf_tick_21 : decode prog_13_method_8_code 21 = .ok (.goto 4, 3) := by decide +kernel
theorem d_Rf_tick_24 : decode prog_13_method_8_code 24 = .ok (.iconst 0, 1) := by decide +kernel
theorem d_Rf_tick_25 : decode prog_13_method_8_code 25 = .ok (.putfield 138, 3) := by decide +kernel
theorem d_Rf_tick_28 : decode prog_13_method_8_code 28 = .ok (.aload_n 0, 1) := by decide +kernel
theorem d_Rf_tick_29 : decode prog_13_method_8_code 29 = .ok (.getfield 138, 3) := by decide +kernel
theorem d_Rf_tick_32 : decode prog_13_method_8_code 32 = .ok (.ifCond .eq 5, 3) := by decide +kernel
theorem d_Rf_tick_35 : decode prog_13_method_8_code 35 = .ok (.iconst 0, 1) := by decide +kernel
theorem d_Rf_tick_36 : decode prog_13_method_8_code 36 = .ok (.ireturn, 1) := by decide +kernel
theorem d_Rf_tick_37 : decode prog_13_method_8_code 37 = .ok (.aload_n 0, 1) := by decide +kernel
theorem d_Rf_tick_38 : decode prog_13_method_8_code 38 = .ok (.getfield 46, 3) := by decide +kernel
theorem d_Rf_tick_41 : decode prog_13_method_8_code 41 = .ok (.iload_n 1, 1) := by decide +kernel
theorem d_Rf_tick_42 : decode prog_13_method_8_code 42 = .ok (.iaload, 1) := by decide +kernel
theorem d_Rf_tick_43 : decode prog_13_method_8_code 43 = .ok (.istore_n 3, 1) := by decide +kernel
theorem d_Rf_tick_44 : decode prog_13_method_8_code 44 = .ok (.iconst 0, 1) := by decide +kernel
theorem d_Rf_tick_45 : decode prog_13_method_8_code 45 = .ok (.istore 4, 2) := by decide +kernel
theorem d_Rf_tick_47 : decode prog_13_method_8_code 47 = .ok (.iload 4, 2) := by decide +kernel
theorem d_Rf_tick_49 : decode prog_13_method_8_code 49 = .ok (.iload_n 2, 1) := by decide +kernel
theorem d_Rf_tick_50 : decode prog_13_method_8_code 50 = .ok (.if_icmp .ge 119, 3) := by decide +kernel
theorem d_Rf_tick_53 : decode prog_13_method_8_code 53 = .ok (.aload_n 0, 1) := by decide +kernel
theorem d_Rf_tick_54 : decode prog_13_method_8_code 54 = .ok (.getfield 7, 3) := by decide +kernel
theorem d_Rf_tick_57 : decode prog_13_method_8_code 57 = .ok (.iload_n 1, 1) := by decide +kernel
theorem d_Rf_tick_58 : decode prog_13_method_8_code 58 = .ok (.dup2, 1) := by decide +kernel
theorem d_Rf_tick_59 : decode prog_13_method_8_code 59 = .ok (.iaload, 1) := by decide +kernel
theorem d_Rf_tick_60 : decode prog_13_method_8_code 60 = .ok (.iconst 1, 1) := by decide +kernel
theorem d_Rf_tick_61 : decode prog_13_method_8_code 61 = .ok (.iadd, 1) := by decide +kernel
theorem d_Rf_tick_62 : decode prog_13_method_8_code 62 = .ok (.iastore, 1) := by decide +kernel
theorem d_Rf_tick_63 : decode prog_13_method_8_code 63 = .ok (.iconst 0, 1) := by decide +kernel
theorem d_Rf_tick_64 : decode prog_13_method_8_code 64 = .ok (.istore 5, 2) := by decide +kernel
theorem d_Rf_tick_66 : decode prog_13_method_8_code 66 = .ok (.iload 5, 2) := by decide +kernel
theorem d_Rf_tick_68 : decode prog_13_method_8_code 68 = .ok (.aload_n 0, 1) := by decide +kernel
theorem d_Rf_tick_69 : decode prog_13_method_8_code 69 = .ok (.getfield 28, 3) := by decide +kernel
theorem d_Rf_tick_72 : decode prog_13_method_8_code 72 = .ok (.iload_n 1, 1) := by decide +kernel
theorem d_Rf_tick_73 : decode prog_13_method_8_code 73 = .ok (.iaload, 1) := by decide +kernel
theorem d_Rf_tick_74 : decode prog_13_method_8_code 74 = .ok (.if_icmp .ge 89, 3) := by decide +kernel
theorem d_Rf_tick_77 : decode prog_13_method_8_code 77 = .ok (.aload_n 0, 1) := by decide +kernel
theorem d_Rf_tick_78 : decode prog_13_method_8_code 78 = .ok (.getfield 7, 3) := by decide +kernel
theorem d_Rf_tick_81 : decode prog_13_method_8_code 81 = .ok (.iload_n 1, 1) := by decide +kernel
theorem d_Rf_tick_82 : decode prog_13_method_8_code 82 = .ok (.iaload, 1) := by decide +kernel
theorem d_Rf_tick_83 : decode prog_13_method_8_code 83 = .ok (.aload_n 0, 1) := by decide +kernel
theorem d_Rf_tick_84 : decode prog_13_method_8_code 84 = .ok (.getfield 43, 3) := by decide +kernel
theorem d_Rf_tick_87 : decode prog_13_method_8_code 87 = .ok (.bipush 6, 2) := by decide +kernel
theorem d_Rf_tick_89 : decode prog_13_method_8_code 89 = .ok (.iload_n 1, 1) := by decide +kernel
theorem d_Rf_tick_90 : decode prog_13_method_8_code 90 = .ok (.imul, 1) := by decide +kernel
theorem d_Rf_tick_91 : decode prog_13_method_8_code 91 = .ok (.iload 5, 2) := by decide +kernel
theorem d_Rf_tick_93 : decode prog_13_method_8_code 93 = .ok (.iadd, 1) := by decide +kernel
theorem d_Rf_tick_94 : decode prog_13_method_8_code 94 = .ok (.iaload, 1) := by decide +kernel
theorem d_Rf_tick_95 : decode prog_13_method_8_code 95 = .ok (.isub, 1) := by decide +kernel
theorem d_Rf_tick_96 : decode prog_13_method_8_code 96 = .ok (.bipush 15, 2) := by decide +kernel
theorem d_Rf_tick_98 : decode prog_13_method_8_code 98 = .ok (.if_icmp .lt 7, 3) := by decide +kernel
theorem d_Rf_tick_101 : decode prog_13_method_8_code 101 = .ok (.iconst 1, 1) := by decide +kernel
theorem d_Rf_tick_102 : decode prog_13_method_8_code 102 = .ok (.goto 4, 3) := by decide +kernel
theorem d_Rf_tick_105 : decode prog_13_method_8_code 105 = .ok (.iconst 0, 1) := by decide +kernel
theorem d_Rf_tick_106 : decode prog_13_method_8_code 106 = .ok (.istore 6, 2) := by decide +kernel
theorem d_Rf_tick_108 : decode prog_13_method_8_code 108 = .ok (.iload 6, 2) := by decide +kernel
theorem d_Rf_tick_110 : decode prog_13_method_8_code 110 = .ok (.ifCond .ne 27, 3) := by decide +kernel
theorem d_Rf_tick_113 : decode prog_13_method_8_code 113 = .ok (.aload_n 0, 1) := by decide +kernel
theorem d_Rf_tick_114 : decode prog_13_method_8_code 114 = .ok (.getfield 7, 3) := by decide +kernel
theorem d_Rf_tick_117 : decode prog_13_method_8_code 117 = .ok (.iload_n 1, 1) := by decide +kernel
theorem d_Rf_tick_118 : decode prog_13_method_8_code 118 = .ok (.iaload, 1) := by decide +kernel
theorem d_Rf_tick_119 : decode prog_13_method_8_code 119 = .ok (.aload_n 0, 1) := by decide +kernel
theorem d_Rf_tick_120 : decode prog_13_method_8_code 120 = .ok (.getfield 40, 3) := by decide +kernel
theorem d_Rf_tick_123 : decode prog_13_method_8_code 123 = .ok (.bipush 6, 2) := by decide +kernel
theorem d_Rf_tick_125 : decode prog_13_method_8_code 125 = .ok (.iload_n 1, 1) := by decide +kernel
theorem d_Rf_tick_126 : decode prog_13_method_8_code 126 = .ok (.imul, 1) := by decide +kernel
theorem d_Rf_tick_127 : decode prog_13_method_8_code 127 = .ok (.iload 5, 2) := by decide +kernel
theorem d_Rf_tick_129 : decode prog_13_method_8_code 129 = .ok (.iadd, 1) := by decide +kernel
theorem d_Rf_tick_130 : decode prog_13_method_8_code 130 = .ok (.iaload, 1) := by decide +kernel
theorem d_Rf_tick_131 : decode prog_13_method_8_code 131 = .ok (.isub, 1) := by decide +kernel
theorem d_Rf_tick_132 : decode prog_13_method_8_code 132 = .ok (.bipush 60, 2) := by decide +kernel
theorem d_Rf_tick_134 : decode prog_13_method_8_code 134 = .ok (.if_icmp .lt 23, 3) := by decide +kernel
theorem d_Rf_tick_137 : decode prog_13_method_8_code 137 = .ok (.aload_n 0, 1) := by decide +kernel
theorem d_Rf_tick_138 : decode prog_13_method_8_code 138 = .ok (.iload_n 1, 1) := by decide +kernel
theorem d_Rf_tick_139 : decode prog_13_method_8_code 139 = .ok (.iload 5, 2) := by decide +kernel
theorem d_Rf_tick_141 : decode prog_13_method_8_code 141 = .ok (.iload 6, 2) := by decide +kernel
theorem d_Rf_tick_143 : decode prog_13_method_8_code 143 = .ok (.ifCond .eq 7, 3) := by decide +kernel
theorem d_Rf_tick_146 : decode prog_13_method_8_code 146 = .ok (.iconst 1, 1) := by decide +kernel
theorem d_Rf_tick_147 : decode prog_13_method_8_code 147 = .ok (.goto 4, 3) := by decide +kernel
theorem d_Rf_tick_150 : decode prog_13_method_8_code 150 = .ok (.iconst 2, 1) := by decide +kernel
theorem d_Rf_tick_151 : decode prog_13_method_8_code 151 = .ok (.invokevirtual 142, 3) := by decide +kernel
theorem d_Rf_tick_154 : decode prog_13_method_8_code 154 = .ok (.goto 6, 3) := by decide +kernel
theorem d_Rf_tick_157 : decode prog_13_method_8_code 157 = .ok (.iinc 5 1, 3) := by decide +kernel
theorem d_Rf_tick_160 : decode prog_13_method_8_code 160 = .ok (.goto (-94), 3) := by decide +kernel
theorem d_Rf_tick_163 : decode prog_13_method_8_code 163 = .ok (.iinc 4 1, 3) := by decide +kernel
theorem d_Rf_tick_166 : decode prog_13_method_8_code 166 = .ok (.goto (-119), 3) := by decide +kernel
theorem d_Rf_tick_169 : decode prog_13_method_8_code 169 = .ok (.aload_n 0, 1) := by decide +kernel
theorem d_Rf_tick_170 : decode prog_13_method_8_code 170 = .ok (.getfield 46, 3) := by decide +kernel
theorem d_Rf_tick_173 : decode prog_13_method_8_code 173 = .ok (.iload_n 1, 1) := by decide +kernel
theorem d_Rf_tick_174 : decode prog_13_method_8_code 174 = .ok (.iaload, 1) := by decide +kernel
theorem d_Rf_tick_175 : decode prog_13_method_8_code 175 = .ok (.iload_n 3, 1) := by decide +kernel
theorem d_Rf_tick_176 : decode prog_13_method_8_code 176 = .ok (.isub, 1) := by decide +kernel
theorem d_Rf_tick_177 : decode prog_13_method_8_code 177 = .ok (.ireturn, 1) := by decide +kernel
theorem q_Rf_tick : (⟨"FlowShelfModel", "tick", "(II)I"⟩ : MethodName).cls ≠ "java/lang/invoke/MethodHandle" ∧ (⟨"FlowShelfModel", "tick", "(II)I"⟩ : MethodName).cls ≠ "java/lang/invoke/VarHandle" ∧ (parseMethodDescriptor (⟨"FlowShelfModel", "tick", "(II)I"⟩ : MethodName).desc).map (fun d => d.parameters.length) = some 2 := by decide +kernel
set_option maxHeartbeats 4000000 in
set_option maxRecDepth 100000 in
theorem m_Rf_tick (X : fs_X) (l : Launch) (a0 : Nat) (x1 : Int32) (x2 : Int32) {r : Int32} {σ σF : fs_S} (h : (f_Rf_tick a0 x1 x2).1 σ = some (r, σF)) : fs_Met X l ⟨"FlowShelfModel", "tick", "(II)I"⟩ (Cond.code ⟨"FlowShelfModel", "tick", "(II)I"⟩ prog_13_method_8_code 7 (some FieldType.int)) 1 26 [.ref a0, .int x1, .int x2] σ (fs_eI r) σF := by
  refine fs_ofW (by decide) ?_
  intro p e s m args below meth c s₁ B hml hT hv
  obtain ⟨rfl, hw0, hG⟩ := hv
  have hx := B.exec
  have hb := B.bytes
  have hr := B.returns
  have hk := B.notSynchronized
  have S : CallFix p m c prog_13_method_8_code 7 s _ fs_ws "FlowShelfModel" := ⟨B.exec, B.bytes, hml, findClass_of_methodNamed B.named, fun w hw => atoms_spec (ws := _ :: fs_ws) B.pre w (List.mem_cons_of_mem _ hw)⟩
  have hR := fs_hR (fr := 1) (lo := 26) ((f_Rf_tick a0 x1 x2).2 _ _ _ h)
  have hl := lv_entry ([.ref a0, .int x1, .int x2]) (n := 7) (Nat.le_of_ble_eq_true rfl)
  rw [lg_entry_eq]
  generalize (lg_sl ([.ref a0, .int x1, .int x2]) ++ List.replicate (7 - (lg_sl ([.ref a0, .int x1, .int x2])).length) Slot.unset).toArray = ls at hl ⊢
  have hl : lv_has ls 7 [(0, .ref a0), (1, .int x1), (2, .int x2)] := hl
  refine (?_ : fs_J X p l e (fs_rm 1 26 σ σF) s m _ below meth c (fs_Q X below _ s (fs_eI r) σ σF) r σ σF (f_Rf_tick a0 x1 x2) (F0 m 0 ls [])) σ s.heap [] 0 0 h hw0 va_S.rf rfl rfl
  clear h hw0
  unfold f_Rf_tick
  refine fs_lift (fun _ _ _ _ => lv_aload_n hx hb d_Rf_tick_0 rfl (lv_at hl 0 rfl)) ?_
  refine fs_lift (fun _ _ _ _ => lv_aload_n hx hb d_Rf_tick_1 rfl (lv_at hl 0 rfl)) ?_
  refine fs_lift (fun _ _ _ _ => lv_iload_n hx hb d_Rf_tick_2 rfl (lv_at hl 1 rfl)) ?_
  refine fs_JV S hG hR rfl [.int x1] (enc := fun r => some (.int r)) (fun zr zs zt zh => m_Rf_noExporter X l a0 x1 zh) tw_6_111 tw_6_113 tp_1_13 tw_6_114 tw_1_11 q_Rf_noExporter ⟨(Nat.le_of_ble_eq_true rfl), (Nat.le_of_ble_eq_true rfl)⟩ hl.1 rfl (Nat.le_of_ble_eq_true rfl) d_Rf_tick_3 (fun v1 => ?_)
  refine fs_Jeq (g2 := F0 m 6 ls [.int v1, .ref a0]) rfl ?_
  refine fs_Jlet1 (nL := 7) (pj := 25) (I := fun (v2 : Int32) => [(0, .ref a0), (1, .int x1), (2, .int x2)]) (st := fun (v2 : Int32) => [.int v2, .ref a0]) (fun v2 ls hl => ?_) (fun j25 hj25 => ?_)
  · refine fs_Jput S hG fs_in12 rfl 0 (Nat.le_of_ble_eq_true rfl) tw_5_192 (fun _ h9 => h9) fs_Y12 fs_ty12 fs_nm12 (Or.inl rfl) rfl rfl d_Rf_tick_25 ?_
    refine fs_lift (fun _ _ _ _ => lv_aload_n hx hb d_Rf_tick_28 rfl (lv_at hl 0 rfl)) ?_
    refine fs_Jgi S hG fs_in12 rfl 0 (Nat.le_of_ble_eq_true rfl) tw_5_192 (fun _ h9 => h9) d_Rf_tick_29 (fun v3 => ?_)
    refine fs_if (fun _ _ _ _ => lv_if_eq hx hb d_Rf_tick_32 rfl) ?_ ?_
    · refine fs_lift (fun _ _ _ _ => lv_aload_n hx hb d_Rf_tick_37 rfl (lv_at hl 0 rfl)) ?_
      refine fs_Jgr S hG fs_in12 rfl 13 (Nat.le_of_ble_eq_true rfl) tw_5_205 (fun _ h9 => h9) d_Rf_tick_38 (fun r4 => ?_)
      refine fs_lift (fun _ _ _ _ => lv_iload_n hx hb d_Rf_tick_41 rfl (lv_at hl 1 rfl)) ?_
      refine fs_Jai S hG d_Rf_tick_42 (fun v5 => ?_)
      refine fs_liftL (fun _ _ _ _ => lv_istore_n (lv' := [(3, .int v5), (0, .ref a0), (1, .int x1), (2, .int x2)]) hx hb d_Rf_tick_43 rfl hl (Nat.le_of_ble_eq_true rfl) rfl) (fun ls hl => ?_)
      refine fs_lift (fun _ _ _ _ => lv_iconst (v := 0) hx hb d_Rf_tick_44 (by decide)) ?_
      refine fs_liftL (fun _ _ _ _ => lv_istore (lv' := [(4, .int 0), (3, .int v5), (0, .ref a0), (1, .int x1), (2, .int x2)]) hx hb d_Rf_tick_45 hl (Nat.le_of_ble_eq_true rfl) rfl) (fun ls hl => ?_)
      refine fs_Jlp1 (nL := 7) (pc := 47) (rest := []) (I := fun (v6 : Int32) => [(0, .ref a0), (1, .int x1), (2, .int x2), (3, .int v5), (4, .int v6)]) (fun k47 hk47 v6 ls hl => ?_) _ _ _ (lv_sub hl [2, 3, 4, 1, 0] rfl)
      refine fs_lift (fun _ _ _ _ => lv_iload hx hb d_Rf_tick_47 (lv_at hl 4 rfl)) ?_
      refine fs_lift (fun _ _ _ _ => lv_iload_n hx hb d_Rf_tick_49 rfl (lv_at hl 2 rfl)) ?_
      refine fs_if (fun _ _ _ _ => lv_icmp_ge hx hb d_Rf_tick_50 rfl) ?_ ?_
      · refine fs_lift (fun _ _ _ _ => lv_aload_n hx hb d_Rf_tick_169 rfl (lv_at hl 0 rfl)) ?_
        refine fs_Jgr S hG fs_in12 rfl 13 (Nat.le_of_ble_eq_true rfl) tw_5_205 (fun _ h9 => h9) d_Rf_tick_170 (fun r7 => ?_)
        refine fs_lift (fun _ _ _ _ => lv_iload_n hx hb d_Rf_tick_173 rfl (lv_at hl 1 rfl)) ?_
        refine fs_Jai S hG d_Rf_tick_174 (fun v8 => ?_)
        refine fs_lift (fun _ _ _ _ => lv_iload_n hx hb d_Rf_tick_175 rfl (lv_at hl 3 rfl)) ?_
        refine fs_lift (fun _ _ _ _ => lv_isub hx hb d_Rf_tick_176) ?_
        exact fs_Jiret S hr hk rfl d_Rf_tick_177
      · refine fs_lift (fun _ _ _ _ => lv_aload_n hx hb d_Rf_tick_53 rfl (lv_at hl 0 rfl)) ?_
        refine fs_Jgr S hG fs_in12 rfl 1 (Nat.le_of_ble_eq_true rfl) tw_5_193 (fun _ h9 => h9) d_Rf_tick_54 (fun r9 => ?_)
        refine fs_lift (fun _ _ _ _ => lv_iload_n hx hb d_Rf_tick_57 rfl (lv_at hl 1 rfl)) ?_
        refine fs_lift (fun _ _ _ _ => lv_dup2_11 hx hb d_Rf_tick_58 rfl rfl) ?_
        refine fs_Jai S hG d_Rf_tick_59 (fun v10 => ?_)
        refine fs_lift (fun _ _ _ _ => lv_iconst (v := 1) hx hb d_Rf_tick_60 (by decide)) ?_
        refine fs_lift (fun _ _ _ _ => lv_iadd hx hb d_Rf_tick_61) ?_
        refine fs_Jsi S hG d_Rf_tick_62 ?_
        refine fs_lift (fun _ _ _ _ => lv_iconst (v := 0) hx hb d_Rf_tick_63 (by decide)) ?_
        refine fs_liftL (fun _ _ _ _ => lv_istore (lv' := [(5, .int 0), (0, .ref a0), (1, .int x1), (2, .int x2), (3, .int v5), (4, .int v6)]) hx hb d_Rf_tick_64 hl (Nat.le_of_ble_eq_true rfl) rfl) (fun ls hl => ?_)
        refine fs_Jlp1 (nL := 7) (pc := 66) (rest := []) (I := fun (v11 : Int32) => [(0, .ref a0), (1, .int x1), (2, .int x2), (3, .int v5), (4, .int v6), (5, .int v11)]) (fun k66 hk66 v11 ls hl => ?_) _ _ _ (lv_sub hl [1, 2, 3, 4, 5, 0] rfl)
        refine fs_lift (fun _ _ _ _ => lv_iload hx hb d_Rf_tick_66 (lv_at hl 5 rfl)) ?_
        refine fs_lift (fun _ _ _ _ => lv_aload_n hx hb d_Rf_tick_68 rfl (lv_at hl 0 rfl)) ?_
        refine fs_Jgr S hG fs_in12 rfl 7 (Nat.le_of_ble_eq_true rfl) tw_5_199 (fun _ h9 => h9) d_Rf_tick_69 (fun r12 => ?_)
        refine fs_lift (fun _ _ _ _ => lv_iload_n hx hb d_Rf_tick_72 rfl (lv_at hl 1 rfl)) ?_
        refine fs_Jai S hG d_Rf_tick_73 (fun v13 => ?_)
        refine fs_if (fun _ _ _ _ => lv_icmp_ge hx hb d_Rf_tick_74 rfl) ?_ ?_
        · refine fs_Jnm (fun v14 hv9 => ?_)
          refine fs_liftL (fun _ _ _ _ => lv_iinc (k := 4) (v := v14) (lv' := [(4, .int v14), (0, .ref a0), (1, .int x1), (2, .int x2), (3, .int v5), (5, .int v11)]) hx hb d_Rf_tick_163 hl rfl (by rw [hv9]; rfl) (Nat.le_of_ble_eq_true rfl) rfl) (fun ls hl => ?_)
          refine fs_lift (fun _ _ _ _ => lv_goto hx hb d_Rf_tick_166 rfl) ?_
          exact hk47 v14 ls (lv_sub hl [1, 2, 3, 4, 0] rfl)
        · refine fs_lift (fun _ _ _ _ => lv_aload_n hx hb d_Rf_tick_77 rfl (lv_at hl 0 rfl)) ?_
          refine fs_Jgr S hG fs_in12 rfl 1 (Nat.le_of_ble_eq_true rfl) tw_5_193 (fun _ h9 => h9) d_Rf_tick_78 (fun r15 => ?_)
          refine fs_lift (fun _ _ _ _ => lv_iload_n hx hb d_Rf_tick_81 rfl (lv_at hl 1 rfl)) ?_
          refine fs_Jai S hG d_Rf_tick_82 (fun v16 => ?_)
          refine fs_lift (fun _ _ _ _ => lv_aload_n hx hb d_Rf_tick_83 rfl (lv_at hl 0 rfl)) ?_
          refine fs_Jgr S hG fs_in12 rfl 12 (Nat.le_of_ble_eq_true rfl) tw_5_204 (fun _ h9 => h9) d_Rf_tick_84 (fun r17 => ?_)
          refine fs_lift (fun _ _ _ _ => lv_bipush (v := 6) hx hb d_Rf_tick_87 (by decide)) ?_
          refine fs_lift (fun _ _ _ _ => lv_iload_n hx hb d_Rf_tick_89 rfl (lv_at hl 1 rfl)) ?_
          refine fs_lift (fun _ _ _ _ => lv_imul hx hb d_Rf_tick_90) ?_
          refine fs_lift (fun _ _ _ _ => lv_iload hx hb d_Rf_tick_91 (lv_at hl 5 rfl)) ?_
          refine fs_lift (fun _ _ _ _ => lv_iadd hx hb d_Rf_tick_93) ?_
          refine fs_Jai S hG d_Rf_tick_94 (fun v18 => ?_)
          refine fs_lift (fun _ _ _ _ => lv_isub hx hb d_Rf_tick_95) ?_
          refine fs_lift (fun _ _ _ _ => lv_bipush (v := 15) hx hb d_Rf_tick_96 (by decide)) ?_
          refine fs_Jlet1 (nL := 7) (pj := 106) (I := fun (v19 : Int32) => [(0, .ref a0), (1, .int x1), (2, .int x2), (3, .int v5), (4, .int v6), (5, .int v11)]) (st := fun (v19 : Int32) => [.int v19]) (fun v19 ls hl => ?_) (fun j106 hj106 => ?_)
          · refine fs_liftL (fun _ _ _ _ => lv_istore (lv' := [(6, .int v19), (0, .ref a0), (1, .int x1), (2, .int x2), (3, .int v5), (4, .int v6), (5, .int v11)]) hx hb d_Rf_tick_106 hl (Nat.le_of_ble_eq_true rfl) rfl) (fun ls hl => ?_)
            refine fs_lift (fun _ _ _ _ => lv_iload hx hb d_Rf_tick_108 (lv_at hl 0 rfl)) ?_
            refine fs_Jlet1 (nL := 7) (pj := 160) (I := fun (v26 : Int32) => [(0, .ref a0), (1, .int x1), (2, .int x2), (3, .int v5), (4, .int v6), (5, .int v26)]) (st := fun (v26 : Int32) => []) (fun v26 ls hl => ?_) (fun j160 hj160 => ?_)
            · refine fs_lift (fun _ _ _ _ => lv_goto hx hb d_Rf_tick_160 rfl) ?_
              exact hk66 v26 ls (lv_sub hl [0, 1, 2, 3, 4, 5] rfl)
            · refine fs_Jlet1 (nL := 7) (pj := 137) (I := fun (_ : Unit) => [(0, .ref a0), (1, .int x1), (2, .int x2), (3, .int v5), (4, .int v6), (5, .int v11), (6, .int v19)]) (st := fun (_ : Unit) => []) (fun _ ls hl => ?_) (fun j137 hj137 => ?_)
              · refine fs_lift (fun _ _ _ _ => lv_aload_n hx hb d_Rf_tick_137 rfl (lv_at hl 0 rfl)) ?_
                refine fs_lift (fun _ _ _ _ => lv_iload_n hx hb d_Rf_tick_138 rfl (lv_at hl 1 rfl)) ?_
                refine fs_lift (fun _ _ _ _ => lv_iload hx hb d_Rf_tick_139 (lv_at hl 5 rfl)) ?_
                refine fs_lift (fun _ _ _ _ => lv_iload hx hb d_Rf_tick_141 (lv_at hl 6 rfl)) ?_
                refine fs_Jlet1 (nL := 7) (pj := 151) (I := fun (v25 : Int32) => [(0, .ref a0), (1, .int x1), (2, .int x2), (3, .int v5), (4, .int v6), (5, .int v11)]) (st := fun (v25 : Int32) => [.int v25, .int v11, .int x1, .ref a0]) (fun v25 ls hl => ?_) (fun j151 hj151 => ?_)
                · refine fs_JV S hG hR rfl [.int x1, .int v11, .int v25] (enc := fun _ => none) (fun zr zs zt zh => m_Rf_end X l a0 x1 v11 v25 zh) tw_6_123 tw_6_125 tp_2_0 tw_6_126 tw_1_11 q_Rf_end ⟨(Nat.le_of_ble_eq_true rfl), (Nat.le_of_ble_eq_true rfl)⟩ hl.1 rfl (Nat.le_of_ble_eq_true rfl) d_Rf_tick_151 (fun _ => ?_)
                  refine fs_Jeq (g2 := F0 m 154 ls []) rfl ?_
                  refine fs_lift (fun _ _ _ _ => lv_goto hx hb d_Rf_tick_154 rfl) ?_
                  exact hj160 v11 ls (lv_sub hl [0, 1, 2, 3, 4, 5] rfl)
                · refine fs_if (fun _ _ _ _ => lv_if_eq hx hb d_Rf_tick_143 rfl) ?_ ?_
                  · refine fs_lift (fun _ _ _ _ => lv_iconst (v := 2) hx hb d_Rf_tick_150 (by decide)) ?_
                    exact hj151 2 ls (lv_sub hl [0, 1, 2, 3, 4, 5] rfl)
                  · refine fs_lift (fun _ _ _ _ => lv_iconst (v := 1) hx hb d_Rf_tick_146 (by decide)) ?_
                    refine fs_lift (fun _ _ _ _ => lv_goto hx hb d_Rf_tick_147 rfl) ?_
                    exact hj151 1 ls (lv_sub hl [0, 1, 2, 3, 4, 5] rfl)
              · refine fs_ifn (fun _ _ _ _ => lv_if_ne hx hb d_Rf_tick_110 rfl) ?_ ?_
                · refine fs_lift (fun _ _ _ _ => lv_aload_n hx hb d_Rf_tick_113 rfl (lv_at hl 1 rfl)) ?_
                  refine fs_Jgr S hG fs_in12 rfl 1 (Nat.le_of_ble_eq_true rfl) tw_5_193 (fun _ h9 => h9) d_Rf_tick_114 (fun r20 => ?_)
                  refine fs_lift (fun _ _ _ _ => lv_iload_n hx hb d_Rf_tick_117 rfl (lv_at hl 2 rfl)) ?_
                  refine fs_Jai S hG d_Rf_tick_118 (fun v21 => ?_)
                  refine fs_lift (fun _ _ _ _ => lv_aload_n hx hb d_Rf_tick_119 rfl (lv_at hl 1 rfl)) ?_
                  refine fs_Jgr S hG fs_in12 rfl 11 (Nat.le_of_ble_eq_true rfl) tw_5_203 (fun _ h9 => h9) d_Rf_tick_120 (fun r22 => ?_)
                  refine fs_lift (fun _ _ _ _ => lv_bipush (v := 6) hx hb d_Rf_tick_123 (by decide)) ?_
                  refine fs_lift (fun _ _ _ _ => lv_iload_n hx hb d_Rf_tick_125 rfl (lv_at hl 2 rfl)) ?_
                  refine fs_lift (fun _ _ _ _ => lv_imul hx hb d_Rf_tick_126) ?_
                  refine fs_lift (fun _ _ _ _ => lv_iload hx hb d_Rf_tick_127 (lv_at hl 6 rfl)) ?_
                  refine fs_lift (fun _ _ _ _ => lv_iadd hx hb d_Rf_tick_129) ?_
                  refine fs_Jai S hG d_Rf_tick_130 (fun v23 => ?_)
                  refine fs_lift (fun _ _ _ _ => lv_isub hx hb d_Rf_tick_131) ?_
                  refine fs_lift (fun _ _ _ _ => lv_bipush (v := 60) hx hb d_Rf_tick_132 (by decide)) ?_
                  refine fs_if (fun _ _ _ _ => lv_icmp_lt hx hb d_Rf_tick_134 rfl) ?_ ?_
                  · refine fs_Jnm (fun v24 hv9 => ?_)
                    refine fs_liftL (fun _ _ _ _ => lv_iinc (k := 6) (v := v24) (lv' := [(5, .int v24), (6, .int v19), (0, .ref a0), (1, .int x1), (2, .int x2), (3, .int v5), (4, .int v6)]) hx hb d_Rf_tick_157 hl rfl (by rw [hv9]; rfl) (Nat.le_of_ble_eq_true rfl) rfl) (fun ls hl => ?_)
                    exact hj160 v24 ls (lv_sub hl [2, 3, 4, 5, 6, 0] rfl)
                  · exact hj137 () ls (lv_sub hl [1, 2, 3, 4, 5, 6, 0] rfl)
                · exact hj137 () ls (lv_sub hl [1, 2, 3, 4, 5, 6, 0] rfl)
          · refine fs_if (fun _ _ _ _ => lv_icmp_lt hx hb d_Rf_tick_98 rfl) ?_ ?_
            · refine fs_lift (fun _ _ _ _ => lv_iconst (v := 0) hx hb d_Rf_tick_105 (by decide)) ?_
              exact hj106 0 ls (lv_sub hl [0, 1, 2, 3, 4, 5] rfl)
            · refine fs_lift (fun _ _ _ _ => lv_iconst (v := 1) hx hb d_Rf_tick_101 (by decide)) ?_
              refine fs_lift (fun _ _ _ _ => lv_goto hx hb d_Rf_tick_102 rfl) ?_
              exact hj106 1 ls (lv_sub hl [0, 1, 2, 3, 4, 5] rfl)
    · refine fs_lift (fun _ _ _ _ => lv_iconst (v := 0) hx hb d_Rf_tick_35 (by decide)) ?_
      exact fs_Jiret S hr hk rfl d_Rf_tick_36
  · refine fs_Jlet1 (nL := 7) (pj := 20) (I := fun (_ : Unit) => [(0, .ref a0), (1, .int x1), (2, .int x2)]) (st := fun (_ : Unit) => [.ref a0]) (fun _ ls hl => ?_) (fun j20 hj20 => ?_)
    · refine fs_lift (fun _ _ _ _ => lv_iconst (v := 1) hx hb d_Rf_tick_20 (by decide)) ?_
      refine fs_lift (fun _ _ _ _ => lv_goto hx hb d_Rf_tick_21 rfl) ?_
      exact hj25 1 ls (lv_sub hl [0, 1, 2] rfl)
    · refine fs_ifn (fun _ _ _ _ => lv_if_ne hx hb d_Rf_tick_6 rfl) ?_ ?_
      · refine fs_lift (fun _ _ _ _ => lv_iload_n hx hb d_Rf_tick_9 rfl (lv_at hl 2 rfl)) ?_
        refine fs_lift (fun _ _ _ _ => lv_iconst (v := 1) hx hb d_Rf_tick_10 (by decide)) ?_
        refine fs_if (fun _ _ _ _ => lv_icmp_lt hx hb d_Rf_tick_11 rfl) ?_ ?_
        · exact hj20 () ls (lv_sub hl [0, 1, 2] rfl)
        · refine fs_lift (fun _ _ _ _ => lv_iload_n hx hb d_Rf_tick_14 rfl (lv_at hl 2 rfl)) ?_
          refine fs_lift (fun _ _ _ _ => lv_bipush (v := 100) hx hb d_Rf_tick_15 (by decide)) ?_
          refine fs_if (fun _ _ _ _ => lv_icmp_le hx hb d_Rf_tick_17 rfl) ?_ ?_
          · refine fs_lift (fun _ _ _ _ => lv_iconst (v := 0) hx hb d_Rf_tick_24 (by decide)) ?_
            exact hj25 0 ls (lv_sub hl [0, 1, 2] rfl)
          · exact hj20 () ls (lv_sub hl [0, 1, 2] rfl)
      · exact hj20 () ls (lv_sub hl [0, 1, 2] rfl)

theorem d_Rf_flush_0 : decode prog_13_method_9_code 0 = .ok (.aload_n 0, 1) := by decide +kernel
theorem d_Rf_flush_1 : decode prog_13_method_9_code 1 = .ok (.aload_n 0, 1) := by decide +kernel
theorem d_Rf_flush_2 : decode prog_13_method_9_code 2 = .ok (.iload_n 1, 1) := by decide +kernel
theorem d_Rf_flush_3 : decode prog_13_method_9_code 3 = .ok (.invokevirtual 146, 3) := by decide +kernel
theorem d_Rf_flush_6 : decode prog_13_method_9_code 6 = .ok (.ifCond .eq 7, 3) := by decide +kernel
theorem d_Rf_flush_9 : decode prog_13_method_9_code 9 = .ok (.iconst 1, 1) := by decide +kernel
theorem d_Rf_flush_10 : decode prog_13_method_9_code 10 = .ok (.goto 4, 3) := by decide +kernel
theorem d_Rf_flush_13 : decode prog_13_method_9_code 13 = .ok (.iconst 0, 1) := by decide +kernel
theorem d_Rf_flush_14 : decode prog_13_method_9_code 14 = .ok (.putfield 138, 3) := by decide +kernel
theorem d_Rf_flush_17 : decode prog_13_method_9_code 17 = .ok (.aload_n 0, 1) := by decide +kernel
theorem d_Rf_flush_18 : decode prog_13_method_9_code 18 = .ok (.getfield 138, 3) := by decide +kernel
theorem d_Rf_flush_21 : decode prog_13_method_9_code 21 = .ok (.ifCond .eq 5, 3) := by decide +kernel
theorem d_Rf_flush_24 : decode prog_13_method_9_code 24 = .ok (.iconst 0, 1) := by decide +kernel
theorem d_Rf_flush_25 : decode prog_13_method_9_code 25 = .ok (.ireturn, 1) := by decide +kernel
theorem d_Rf_flush_26 : decode prog_13_method_9_code 26 = .ok (.aload_n 0, 1) := by decide +kernel
theorem d_Rf_flush_27 : decode prog_13_method_9_code 27 = .ok (.getfield 28, 3) := by decide +kernel
theorem d_Rf_flush_30 : decode prog_13_method_9_code 30 = .ok (.iload_n 1, 1) := by decide +kernel
theorem d_Rf_flush_31 : decode prog_13_method_9_code 31 = .ok (.iaload, 1) := by decide +kernel
theorem d_Rf_flush_32 : decode prog_13_method_9_code 32 = .ok (.istore_n 2, 1) := by decide +kernel
theorem d_Rf_flush_33 : decode prog_13_method_9_code 33 = .ok (.iconst 0, 1) := by decide +kernel
theorem d_Rf_flush_34 : decode prog_13_method_9_code 34 = .ok (.istore_n 3, 1) := by decide +kernel
theorem d_Rf_flush_35 : decode prog_13_method_9_code 35 = .ok (.iload_n 3, 1) := by decide +kernel
theorem d_Rf_flush_36 : decode prog_13_method_9_code 36 = .ok (.iload_n 2, 1) := by decide +kernel
theorem d_Rf_flush_37 : decode prog_13_method_9_code 37 = .ok (.if_icmp .ge 16, 3) := by decide +kernel
theorem d_Rf_flush_40 : decode prog_13_method_9_code 40 = .ok (.aload_n 0, 1) := by decide +kernel
theorem d_Rf_flush_41 : decode prog_13_method_9_code 41 = .ok (.iload_n 1, 1) := by decide +kernel
theorem d_Rf_flush_42 : decode prog_13_method_9_code 42 = .ok (.iconst 0, 1) := by decide +kernel
theorem d_Rf_flush_43 : decode prog_13_method_9_code 43 = .ok (.iconst 5, 1) := by decide +kernel
theorem d_Rf_flush_44 : decode prog_13_method_9_code 44 = .ok (.invokevirtual 142, 3) := by decide +kernel
theorem d_Rf_flush_47 : decode prog_13_method_9_code 47 = .ok (.iinc 3 1, 3) := by decide +kernel
theorem d_Rf_flush_50 : decode prog_13_method_9_code 50 = .ok (.goto (-15), 3) := by decide +kernel
theorem d_Rf_flush_53 : decode prog_13_method_9_code 53 = .ok (.iload_n 2, 1) := by decide +kernel
theorem d_Rf_flush_54 : decode prog_13_method_9_code 54 = .ok (.ireturn, 1) := by decide +kernel
theorem q_Rf_flush : (⟨"FlowShelfModel", "flush", "(I)I"⟩ : MethodName).cls ≠ "java/lang/invoke/MethodHandle" ∧ (⟨"FlowShelfModel", "flush", "(I)I"⟩ : MethodName).cls ≠ "java/lang/invoke/VarHandle" ∧ (parseMethodDescriptor (⟨"FlowShelfModel", "flush", "(I)I"⟩ : MethodName).desc).map (fun d => d.parameters.length) = some 1 := by decide +kernel
set_option maxHeartbeats 4000000 in
set_option maxRecDepth 100000 in
theorem m_Rf_flush (X : fs_X) (l : Launch) (a0 : Nat) (x1 : Int32) {r : Int32} {σ σF : fs_S} (h : (f_Rf_flush a0 x1).1 σ = some (r, σF)) : fs_Met X l ⟨"FlowShelfModel", "flush", "(I)I"⟩ (Cond.code ⟨"FlowShelfModel", "flush", "(I)I"⟩ prog_13_method_9_code 4 (some FieldType.int)) 1 26 [.ref a0, .int x1] σ (fs_eI r) σF := by
  refine fs_ofW (by decide) ?_
  intro p e s m args below meth c s₁ B hml hT hv
  obtain ⟨rfl, hw0, hG⟩ := hv
  have hx := B.exec
  have hb := B.bytes
  have hr := B.returns
  have hk := B.notSynchronized
  have S : CallFix p m c prog_13_method_9_code 4 s _ fs_ws "FlowShelfModel" := ⟨B.exec, B.bytes, hml, findClass_of_methodNamed B.named, fun w hw => atoms_spec (ws := _ :: fs_ws) B.pre w (List.mem_cons_of_mem _ hw)⟩
  have hR := fs_hR (fr := 1) (lo := 26) ((f_Rf_flush a0 x1).2 _ _ _ h)
  have hl := lv_entry ([.ref a0, .int x1]) (n := 4) (Nat.le_of_ble_eq_true rfl)
  rw [lg_entry_eq]
  generalize (lg_sl ([.ref a0, .int x1]) ++ List.replicate (4 - (lg_sl ([.ref a0, .int x1])).length) Slot.unset).toArray = ls at hl ⊢
  have hl : lv_has ls 4 [(0, .ref a0), (1, .int x1)] := hl
  refine (?_ : fs_J X p l e (fs_rm 1 26 σ σF) s m _ below meth c (fs_Q X below _ s (fs_eI r) σ σF) r σ σF (f_Rf_flush a0 x1) (F0 m 0 ls [])) σ s.heap [] 0 0 h hw0 va_S.rf rfl rfl
  clear h hw0
  unfold f_Rf_flush
  refine fs_lift (fun _ _ _ _ => lv_aload_n hx hb d_Rf_flush_0 rfl (lv_at hl 0 rfl)) ?_
  refine fs_lift (fun _ _ _ _ => lv_aload_n hx hb d_Rf_flush_1 rfl (lv_at hl 0 rfl)) ?_
  refine fs_lift (fun _ _ _ _ => lv_iload_n hx hb d_Rf_flush_2 rfl (lv_at hl 1 rfl)) ?_
  refine fs_JV S hG hR rfl [.int x1] (enc := fun r => some (.int r)) (fun zr zs zt zh => m_Rf_noExporter X l a0 x1 zh) tw_6_111 tw_6_113 tp_1_13 tw_6_114 tw_1_11 q_Rf_noExporter ⟨(Nat.le_of_ble_eq_true rfl), (Nat.le_of_ble_eq_true rfl)⟩ hl.1 rfl (Nat.le_of_ble_eq_true rfl) d_Rf_flush_3 (fun v1 => ?_)
  refine fs_Jeq (g2 := F0 m 6 ls [.int v1, .ref a0]) rfl ?_
  refine fs_Jlet1 (nL := 4) (pj := 14) (I := fun (v2 : Int32) => [(0, .ref a0), (1, .int x1)]) (st := fun (v2 : Int32) => [.int v2, .ref a0]) (fun v2 ls hl => ?_) (fun j14 hj14 => ?_)
  · refine fs_Jput S hG fs_in12 rfl 0 (Nat.le_of_ble_eq_true rfl) tw_5_192 (fun _ h9 => h9) fs_Y12 fs_ty12 fs_nm12 (Or.inl rfl) rfl rfl d_Rf_flush_14 ?_
    refine fs_lift (fun _ _ _ _ => lv_aload_n hx hb d_Rf_flush_17 rfl (lv_at hl 0 rfl)) ?_
    refine fs_Jgi S hG fs_in12 rfl 0 (Nat.le_of_ble_eq_true rfl) tw_5_192 (fun _ h9 => h9) d_Rf_flush_18 (fun v3 => ?_)
    refine fs_if (fun _ _ _ _ => lv_if_eq hx hb d_Rf_flush_21 rfl) ?_ ?_
    · refine fs_lift (fun _ _ _ _ => lv_aload_n hx hb d_Rf_flush_26 rfl (lv_at hl 0 rfl)) ?_
      refine fs_Jgr S hG fs_in12 rfl 7 (Nat.le_of_ble_eq_true rfl) tw_5_199 (fun _ h9 => h9) d_Rf_flush_27 (fun r4 => ?_)
      refine fs_lift (fun _ _ _ _ => lv_iload_n hx hb d_Rf_flush_30 rfl (lv_at hl 1 rfl)) ?_
      refine fs_Jai S hG d_Rf_flush_31 (fun v5 => ?_)
      refine fs_liftL (fun _ _ _ _ => lv_istore_n (lv' := [(2, .int v5), (0, .ref a0), (1, .int x1)]) hx hb d_Rf_flush_32 rfl hl (Nat.le_of_ble_eq_true rfl) rfl) (fun ls hl => ?_)
      refine fs_lift (fun _ _ _ _ => lv_iconst (v := 0) hx hb d_Rf_flush_33 (by decide)) ?_
      refine fs_liftL (fun _ _ _ _ => lv_istore_n (lv' := [(3, .int 0), (2, .int v5), (0, .ref a0), (1, .int x1)]) hx hb d_Rf_flush_34 rfl hl (Nat.le_of_ble_eq_true rfl) rfl) (fun ls hl => ?_)
      refine fs_Jlp1 (nL := 4) (pc := 35) (rest := []) (I := fun (v6 : Int32) => [(0, .ref a0), (1, .int x1), (2, .int v5), (3, .int v6)]) (fun k35 hk35 v6 ls hl => ?_) _ _ _ (lv_sub hl [2, 3, 1, 0] rfl)
      refine fs_lift (fun _ _ _ _ => lv_iload_n hx hb d_Rf_flush_35 rfl (lv_at hl 3 rfl)) ?_
      refine fs_lift (fun _ _ _ _ => lv_iload_n hx hb d_Rf_flush_36 rfl (lv_at hl 2 rfl)) ?_
      refine fs_if (fun _ _ _ _ => lv_icmp_ge hx hb d_Rf_flush_37 rfl) ?_ ?_
      · refine fs_lift (fun _ _ _ _ => lv_iload_n hx hb d_Rf_flush_53 rfl (lv_at hl 2 rfl)) ?_
        exact fs_Jiret S hr hk rfl d_Rf_flush_54
      · refine fs_lift (fun _ _ _ _ => lv_aload_n hx hb d_Rf_flush_40 rfl (lv_at hl 0 rfl)) ?_
        refine fs_lift (fun _ _ _ _ => lv_iload_n hx hb d_Rf_flush_41 rfl (lv_at hl 1 rfl)) ?_
        refine fs_lift (fun _ _ _ _ => lv_iconst (v := 0) hx hb d_Rf_flush_42 (by decide)) ?_
        refine fs_lift (fun _ _ _ _ => lv_iconst (v := 5) hx hb d_Rf_flush_43 (by decide)) ?_
        refine fs_JV S hG hR rfl [.int x1, .int 0, .int 5] (enc := fun _ => none) (fun zr zs zt zh => m_Rf_end X l a0 x1 0 5 zh) tw_6_123 tw_6_125 tp_2_0 tw_6_126 tw_1_11 q_Rf_end ⟨(Nat.le_of_ble_eq_true rfl), (Nat.le_of_ble_eq_true rfl)⟩ hl.1 rfl (Nat.le_of_ble_eq_true rfl) d_Rf_flush_44 (fun _ => ?_)
        refine fs_Jeq (g2 := F0 m 47 ls []) rfl ?_
        refine fs_Jnm (fun v7 hv9 => ?_)
        refine fs_liftL (fun _ _ _ _ => lv_iinc (k := 3) (v := v7) (lv' := [(3, .int v7), (0, .ref a0), (1, .int x1), (2, .int v5)]) hx hb d_Rf_flush_47 hl rfl (by rw [hv9]; rfl) (Nat.le_of_ble_eq_true rfl) rfl) (fun ls hl => ?_)
        refine fs_lift (fun _ _ _ _ => lv_goto hx hb d_Rf_flush_50 rfl) ?_
        exact hk35 v7 ls (lv_sub hl [1, 2, 3, 0] rfl)
    · refine fs_lift (fun _ _ _ _ => lv_iconst (v := 0) hx hb d_Rf_flush_24 (by decide)) ?_
      exact fs_Jiret S hr hk rfl d_Rf_flush_25
  · refine fs_if (fun _ _ _ _ => lv_if_eq hx hb d_Rf_flush_6 rfl) ?_ ?_
    · refine fs_lift (fun _ _ _ _ => lv_iconst (v := 0) hx hb d_Rf_flush_13 (by decide)) ?_
      exact hj14 0 ls (lv_sub hl [0, 1] rfl)
    · refine fs_lift (fun _ _ _ _ => lv_iconst (v := 1) hx hb d_Rf_flush_9 (by decide)) ?_
      refine fs_lift (fun _ _ _ _ => lv_goto hx hb d_Rf_flush_10 rfl) ?_
      exact hj14 1 ls (lv_sub hl [0, 1] rfl)

theorem d_Rf_sampler_0 : decode prog_13_method_10_code 0 = .ok (.aload_n 0, 1) := by decide +kernel
theorem d_Rf_sampler_1 : decode prog_13_method_10_code 1 = .ok (.aload_n 0, 1) := by decide +kernel
theorem d_Rf_sampler_2 : decode prog_13_method_10_code 2 = .ok (.iload_n 1, 1) := by decide +kernel
theorem d_Rf_sampler_3 : decode prog_13_method_10_code 3 = .ok (.invokevirtual 146, 3) := by decide +kernel
theorem d_Rf_sampler_6 : decode prog_13_method_10_code 6 = .ok (.ifCond .ne 14, 3) := by decide +kernel
theorem d_Rf_sampler_9 : decode prog_13_method_10_code 9 = .ok (.iload_n 2, 1) := by decide +kernel
theorem d_Rf_sampler_10 : decode prog_13_method_10_code 10 = .ok (.iconst 1, 1) := by decide +kernel
theorem d_Rf_sampler_11 : decode prog_13_method_10_code 11 = .ok (.if_icmp .lt 9, 3) := by decide +kernel
theorem d_Rf_sampler_14 : decode prog_13_method_10_code 14 = .ok (.iload_n 2, 1) := by decide +kernel
theorem d_Rf_sampler_15 : decode prog_13_method_10_code 15 = .ok (.bipush 9, 2) := by decide +kernel
theorem d_Rf_sampler_17 : decode prog_13_method_10_code 17 = .ok (.if_icmp .le 7, 3) := by decide +kernel
theorem d_Rf_sampler_20 : decode prog_13_method_10_code 20 = .ok (.iconst 1, 1) := by decide +kernel
theorem d_Rf_sampler_21 : decode prog_13_method_10_code 21 = .ok (.goto 4, 3) := by decide +kernel
theorem d_Rf_sampler_24 : decode prog_13_method_10_code 24 = .ok (.iconst 0, 1) := by decide +kernel
theorem d_Rf_sampler_25 : decode prog_13_method_10_code 25 = .ok (.putfield 138, 3) := by decide +kernel
theorem d_Rf_sampler_28 : decode prog_13_method_10_code 28 = .ok (.aload_n 0, 1) := by decide +kernel
theorem d_Rf_sampler_29 : decode prog_13_method_10_code 29 = .ok (.getfield 138, 3) := by decide +kernel
theorem d_Rf_sampler_32 : decode prog_13_method_10_code 32 = .ok (.ifCond .ne 17, 3) := by decide +kernel
theorem d_Rf_sampler_35 : decode prog_13_method_10_code 35 = .ok (.aload_n 0, 1) := by decide +kernel
theorem d_Rf_sampler_36 : decode prog_13_method_10_code 36 = .ok (.getfield 16, 3) := by decide +kernel
theorem d_Rf_sampler_39 : decode prog_13_method_10_code 39 = .ok (.iload_n 1, 1) := by decide +kernel
theorem d_Rf_sampler_40 : decode prog_13_method_10_code 40 = .ok (.iload_n 2, 1) := by decide +kernel
theorem d_Rf_sampler_41 : decode prog_13_method_10_code 41 = .ok (.iastore, 1) := by decide +kernel
theorem d_Rf_sampler_42 : decode prog_13_method_10_code 42 = .ok (.aload_n 0, 1) := by decide +kernel
theorem d_Rf_sampler_43 : decode prog_13_method_10_code 43 = .ok (.getfield 19, 3) := by decide +kernel
theorem d_Rf_sampler_46 : decode prog_13_method_10_code 46 = .ok (.iload_n 1, 1) := by decide +kernel
theorem d_Rf_sampler_47 : decode prog_13_method_10_code 47 = .ok (.iconst 0, 1) := by decide +kernel
theorem d_Rf_sampler_48 : decode prog_13_method_10_code 48 = .ok (.iastore, 1) := by decide +kernel
theorem d_Rf_sampler_49 : decode prog_13_method_10_code 49 = .ok (.return_, 1) := by decide +kernel
theorem q_Rf_sampler : (⟨"FlowShelfModel", "sampler", "(II)V"⟩ : MethodName).cls ≠ "java/lang/invoke/MethodHandle" ∧ (⟨"FlowShelfModel", "sampler", "(II)V"⟩ : MethodName).cls ≠ "java/lang/invoke/VarHandle" ∧ (parseMethodDescriptor (⟨"FlowShelfModel", "sampler", "(II)V"⟩ : MethodName).desc).map (fun d => d.parameters.length) = some 2 := by decide +kernel
set_option maxHeartbeats 4000000 in
set_option maxRecDepth 100000 in
theorem m_Rf_sampler (X : fs_X) (l : Launch) (a0 : Nat) (x1 : Int32) (x2 : Int32) {r : Unit} {σ σF : fs_S} (h : (f_Rf_sampler a0 x1 x2).1 σ = some (r, σF)) : fs_Met X l ⟨"FlowShelfModel", "sampler", "(II)V"⟩ (Cond.code ⟨"FlowShelfModel", "sampler", "(II)V"⟩ prog_13_method_10_code 3 none) 1 21 [.ref a0, .int x1, .int x2] σ (fs_eV r) σF := by
  refine fs_ofW (by decide) ?_
  intro p e s m args below meth c s₁ B hml hT hv
  obtain ⟨rfl, hw0, hG⟩ := hv
  have hx := B.exec
  have hb := B.bytes
  have hr := B.returns
  have hk := B.notSynchronized
  have S : CallFix p m c prog_13_method_10_code 3 s _ fs_ws "FlowShelfModel" := ⟨B.exec, B.bytes, hml, findClass_of_methodNamed B.named, fun w hw => atoms_spec (ws := _ :: fs_ws) B.pre w (List.mem_cons_of_mem _ hw)⟩
  have hR := fs_hR (fr := 1) (lo := 21) ((f_Rf_sampler a0 x1 x2).2 _ _ _ h)
  have hl := lv_entry ([.ref a0, .int x1, .int x2]) (n := 3) (Nat.le_of_ble_eq_true rfl)
  rw [lg_entry_eq]
  generalize (lg_sl ([.ref a0, .int x1, .int x2]) ++ List.replicate (3 - (lg_sl ([.ref a0, .int x1, .int x2])).length) Slot.unset).toArray = ls at hl ⊢
  have hl : lv_has ls 3 [(0, .ref a0), (1, .int x1), (2, .int x2)] := hl
  refine (?_ : fs_J X p l e (fs_rm 1 21 σ σF) s m _ below meth c (fs_Q X below _ s (fs_eV r) σ σF) r σ σF (f_Rf_sampler a0 x1 x2) (F0 m 0 ls [])) σ s.heap [] 0 0 h hw0 va_S.rf rfl rfl
  clear h hw0
  unfold f_Rf_sampler
  refine fs_lift (fun _ _ _ _ => lv_aload_n hx hb d_Rf_sampler_0 rfl (lv_at hl 0 rfl)) ?_
  refine fs_lift (fun _ _ _ _ => lv_aload_n hx hb d_Rf_sampler_1 rfl (lv_at hl 0 rfl)) ?_
  refine fs_lift (fun _ _ _ _ => lv_iload_n hx hb d_Rf_sampler_2 rfl (lv_at hl 1 rfl)) ?_
  refine fs_JV S hG hR rfl [.int x1] (enc := fun r => some (.int r)) (fun zr zs zt zh => m_Rf_noExporter X l a0 x1 zh) tw_6_111 tw_6_113 tp_1_13 tw_6_114 tw_1_11 q_Rf_noExporter ⟨(Nat.le_of_ble_eq_true rfl), (Nat.le_of_ble_eq_true rfl)⟩ hl.1 rfl (Nat.le_of_ble_eq_true rfl) d_Rf_sampler_3 (fun v1 => ?_)
  refine fs_Jeq (g2 := F0 m 6 ls [.int v1, .ref a0]) rfl ?_
  refine fs_Jlet1 (nL := 3) (pj := 25) (I := fun (v2 : Int32) => [(0, .ref a0), (1, .int x1), (2, .int x2)]) (st := fun (v2 : Int32) => [.int v2, .ref a0]) (fun v2 ls hl => ?_) (fun j25 hj25 => ?_)
  · refine fs_Jput S hG fs_in12 rfl 0 (Nat.le_of_ble_eq_true rfl) tw_5_192 (fun _ h9 => h9) fs_Y12 fs_ty12 fs_nm12 (Or.inl rfl) rfl rfl d_Rf_sampler_25 ?_
    refine fs_lift (fun _ _ _ _ => lv_aload_n hx hb d_Rf_sampler_28 rfl (lv_at hl 0 rfl)) ?_
    refine fs_Jgi S hG fs_in12 rfl 0 (Nat.le_of_ble_eq_true rfl) tw_5_192 (fun _ h9 => h9) d_Rf_sampler_29 (fun v3 => ?_)
    refine fs_ifn (fun _ _ _ _ => lv_if_ne hx hb d_Rf_sampler_32 rfl) ?_ ?_
    · refine fs_lift (fun _ _ _ _ => lv_aload_n hx hb d_Rf_sampler_35 rfl (lv_at hl 0 rfl)) ?_
      refine fs_Jgr S hG fs_in12 rfl 3 (Nat.le_of_ble_eq_true rfl) tw_5_195 (fun _ h9 => h9) d_Rf_sampler_36 (fun r4 => ?_)
      refine fs_lift (fun _ _ _ _ => lv_iload_n hx hb d_Rf_sampler_39 rfl (lv_at hl 1 rfl)) ?_
      refine fs_lift (fun _ _ _ _ => lv_iload_n hx hb d_Rf_sampler_40 rfl (lv_at hl 2 rfl)) ?_
      refine fs_Jsi S hG d_Rf_sampler_41 ?_
      refine fs_lift (fun _ _ _ _ => lv_aload_n hx hb d_Rf_sampler_42 rfl (lv_at hl 0 rfl)) ?_
      refine fs_Jgr S hG fs_in12 rfl 4 (Nat.le_of_ble_eq_true rfl) tw_5_196 (fun _ h9 => h9) d_Rf_sampler_43 (fun r5 => ?_)
      refine fs_lift (fun _ _ _ _ => lv_iload_n hx hb d_Rf_sampler_46 rfl (lv_at hl 1 rfl)) ?_
      refine fs_lift (fun _ _ _ _ => lv_iconst (v := 0) hx hb d_Rf_sampler_47 (by decide)) ?_
      refine fs_Jsi S hG d_Rf_sampler_48 ?_
      exact fs_Jvret S hr hk rfl d_Rf_sampler_49
    · exact fs_Jvret S hr hk rfl d_Rf_sampler_49
  · refine fs_Jlet1 (nL := 3) (pj := 20) (I := fun (_ : Unit) => [(0, .ref a0), (1, .int x1), (2, .int x2)]) (st := fun (_ : Unit) => [.ref a0]) (fun _ ls hl => ?_) (fun j20 hj20 => ?_)
    · refine fs_lift (fun _ _ _ _ => lv_iconst (v := 1) hx hb d_Rf_sampler_20 (by decide)) ?_
      refine fs_lift (fun _ _ _ _ => lv_goto hx hb d_Rf_sampler_21 rfl) ?_
      exact hj25 1 ls (lv_sub hl [0, 1, 2] rfl)
    · refine fs_ifn (fun _ _ _ _ => lv_if_ne hx hb d_Rf_sampler_6 rfl) ?_ ?_
      · refine fs_lift (fun _ _ _ _ => lv_iload_n hx hb d_Rf_sampler_9 rfl (lv_at hl 2 rfl)) ?_
        refine fs_lift (fun _ _ _ _ => lv_iconst (v := 1) hx hb d_Rf_sampler_10 (by decide)) ?_
        refine fs_if (fun _ _ _ _ => lv_icmp_lt hx hb d_Rf_sampler_11 rfl) ?_ ?_
        · exact hj20 () ls (lv_sub hl [0, 1, 2] rfl)
        · refine fs_lift (fun _ _ _ _ => lv_iload_n hx hb d_Rf_sampler_14 rfl (lv_at hl 2 rfl)) ?_
          refine fs_lift (fun _ _ _ _ => lv_bipush (v := 9) hx hb d_Rf_sampler_15 (by decide)) ?_
          refine fs_if (fun _ _ _ _ => lv_icmp_le hx hb d_Rf_sampler_17 rfl) ?_ ?_
          · refine fs_lift (fun _ _ _ _ => lv_iconst (v := 0) hx hb d_Rf_sampler_24 (by decide)) ?_
            exact hj25 0 ls (lv_sub hl [0, 1, 2] rfl)
          · exact hj20 () ls (lv_sub hl [0, 1, 2] rfl)
      · exact hj20 () ls (lv_sub hl [0, 1, 2] rfl)

theorem d_Rf_ended_0 : decode prog_13_method_11_code 0 = .ok (.aload_n 0, 1) := by decide +kernel
theorem d_Rf_ended_1 : decode prog_13_method_11_code 1 = .ok (.aload_n 0, 1) := by decide +kernel
theorem d_Rf_ended_2 : decode prog_13_method_11_code 2 = .ok (.iload_n 1, 1) := by decide +kernel
theorem d_Rf_ended_3 : decode prog_13_method_11_code 3 = .ok (.invokevirtual 146, 3) := by decide +kernel
theorem d_Rf_ended_6 : decode prog_13_method_11_code 6 = .ok (.ifCond .ne 13, 3) := by decide +kernel
theorem d_Rf_ended_9 : decode prog_13_method_11_code 9 = .ok (.iload_n 3, 1) := by decide +kernel
theorem d_Rf_ended_10 : decode prog_13_method_11_code 10 = .ok (.ifCond .lt 9, 3) := by decide +kernel
theorem d_Rf_ended_13 : decode prog_13_method_11_code 13 = .ok (.iload_n 3, 1) := by decide +kernel
theorem d_Rf_ended_14 : decode prog_13_method_11_code 14 = .ok (.bipush 7, 2) := by decide +kernel
theorem d_Rf_ended_16 : decode prog_13_method_11_code 16 = .ok (.if_icmp .le 7, 3) := by decide +kernel
theorem d_Rf_ended_19 : decode prog_13_method_11_code 19 = .ok (.iconst 1, 1) := by decide +kernel
theorem d_Rf_ended_20 : decode prog_13_method_11_code 20 = .ok (.goto 22, 3) := by decide +kernel
theorem d_Rf_ended_23 : decode prog_13_method_11_code 23 = .ok (.iload_n 2, 1) := by decide +kernel
theorem d_Rf_ended_24 : decode prog_13_method_11_code 24 = .ok (.ifCond .lt 13, 3) := by decide +kernel
theorem d_Rf_ended_27 : decode prog_13_method_11_code 27 = .ok (.iload_n 2, 1) := by decide +kernel
theorem d_Rf_ended_28 : decode prog_13_method_11_code 28 = .ok (.aload_n 0, 1) := by decide +kernel
theorem d_Rf_ended_29 : decode prog_13_method_11_code 29 = .ok (.getfield 46, 3) := by decide +kernel
theorem d_Rf_ended_32 : decode prog_13_method_11_code 32 = .ok (.iload_n 1, 1) := by decide +kernel
theorem d_Rf_ended_33 : decode prog_13_method_11_code 33 = .ok (.iaload, 1) := by decide +kernel
theorem d_Rf_ended_34 : decode prog_13_method_11_code 34 = .ok (.if_icmp .lt 7, 3) := by decide +kernel
theorem d_Rf_ended_37 : decode prog_13_method_11_code 37 = .ok (.iconst 2, 1) := by decide +kernel
theorem d_Rf_ended_38 : decode prog_13_method_11_code 38 = .ok (.goto 4, 3) := by decide +kernel
theorem d_Rf_ended_41 : decode prog_13_method_11_code 41 = .ok (.iconst 0, 1) := by decide +kernel
theorem d_Rf_ended_42 : decode prog_13_method_11_code 42 = .ok (.putfield 138, 3) := by decide +kernel
theorem d_Rf_ended_45 : decode prog_13_method_11_code 45 = .ok (.aload_n 0, 1) := by decide +kernel
theorem d_Rf_ended_46 : decode prog_13_method_11_code 46 = .ok (.getfield 138, 3) := by decide +kernel
theorem d_Rf_ended_49 : decode prog_13_method_11_code 49 = .ok (.ifCond .ne 22, 3) := by decide +kernel
theorem d_Rf_ended_52 : decode prog_13_method_11_code 52 = .ok (.aload_n 0, 1) := by decide +kernel
theorem d_Rf_ended_53 : decode prog_13_method_11_code 53 = .ok (.getfield 49, 3) := by decide +kernel
theorem d_Rf_ended_56 : decode prog_13_method_11_code 56 = .ok (.bipush 8, 2) := by decide +kernel
theorem d_Rf_ended_58 : decode prog_13_method_11_code 58 = .ok (.bipush 21, 2) := by decide +kernel
theorem d_Rf_ended_60 : decode prog_13_method_11_code 60 = .ok (.iload_n 1, 1) := by decide +kernel
theorem d_Rf_ended_61 : decode prog_13_method_11_code 61 = .ok (.imul, 1) := by decide +kernel
theorem d_Rf_ended_62 : decode prog_13_method_11_code 62 = .ok (.iload_n 2, 1) := by decide +kernel
theorem d_Rf_ended_63 : decode prog_13_method_11_code 63 = .ok (.iadd, 1) := by decide +kernel
theorem d_Rf_ended_64 : decode prog_13_method_11_code 64 = .ok (.imul, 1) := by decide +kernel
theorem d_Rf_ended_65 : decode prog_13_method_11_code 65 = .ok (.iload_n 3, 1) := by decide +kernel
theorem d_Rf_ended_66 : decode prog_13_method_11_code 66 = .ok (.iadd, 1) := by decide +kernel
theorem d_Rf_ended_67 : decode prog_13_method_11_code 67 = .ok (.iaload, 1) := by decide +kernel
theorem d_Rf_ended_68 : decode prog_13_method_11_code 68 = .ok (.goto 4, 3) := by decide +kernel
theorem d_Rf_ended_71 : decode prog_13_method_11_code 71 = .ok (.iconst 0, 1) := by decide +kernel
theorem d_Rf_ended_72 : decode prog_13_method_11_code 72 = .ok (.ireturn, 1) := by decide +kernel
theorem q_Rf_ended : (⟨"FlowShelfModel", "ended", "(III)I"⟩ : MethodName).cls ≠ "java/lang/invoke/MethodHandle" ∧ (⟨"FlowShelfModel", "ended", "(III)I"⟩ : MethodName).cls ≠ "java/lang/invoke/VarHandle" ∧ (parseMethodDescriptor (⟨"FlowShelfModel", "ended", "(III)I"⟩ : MethodName).desc).map (fun d => d.parameters.length) = some 3 := by decide +kernel
set_option maxHeartbeats 4000000 in
set_option maxRecDepth 100000 in
theorem m_Rf_ended (X : fs_X) (l : Launch) (a0 : Nat) (x1 : Int32) (x2 : Int32) (x3 : Int32) {r : Int32} {σ σF : fs_S} (h : (f_Rf_ended a0 x1 x2 x3).1 σ = some (r, σF)) : fs_Met X l ⟨"FlowShelfModel", "ended", "(III)I"⟩ (Cond.code ⟨"FlowShelfModel", "ended", "(III)I"⟩ prog_13_method_11_code 4 (some FieldType.int)) 1 21 [.ref a0, .int x1, .int x2, .int x3] σ (fs_eI r) σF := by
  refine fs_ofW (by decide) ?_
  intro p e s m args below meth c s₁ B hml hT hv
  obtain ⟨rfl, hw0, hG⟩ := hv
  have hx := B.exec
  have hb := B.bytes
  have hr := B.returns
  have hk := B.notSynchronized
  have S : CallFix p m c prog_13_method_11_code 4 s _ fs_ws "FlowShelfModel" := ⟨B.exec, B.bytes, hml, findClass_of_methodNamed B.named, fun w hw => atoms_spec (ws := _ :: fs_ws) B.pre w (List.mem_cons_of_mem _ hw)⟩
  have hR := fs_hR (fr := 1) (lo := 21) ((f_Rf_ended a0 x1 x2 x3).2 _ _ _ h)
  have hl := lv_entry ([.ref a0, .int x1, .int x2, .int x3]) (n := 4) (Nat.le_of_ble_eq_true rfl)
  rw [lg_entry_eq]
  generalize (lg_sl ([.ref a0, .int x1, .int x2, .int x3]) ++ List.replicate (4 - (lg_sl ([.ref a0, .int x1, .int x2, .int x3])).length) Slot.unset).toArray = ls at hl ⊢
  have hl : lv_has ls 4 [(0, .ref a0), (1, .int x1), (2, .int x2), (3, .int x3)] := hl
  refine (?_ : fs_J X p l e (fs_rm 1 21 σ σF) s m _ below meth c (fs_Q X below _ s (fs_eI r) σ σF) r σ σF (f_Rf_ended a0 x1 x2 x3) (F0 m 0 ls [])) σ s.heap [] 0 0 h hw0 va_S.rf rfl rfl
  clear h hw0
  unfold f_Rf_ended
  refine fs_lift (fun _ _ _ _ => lv_aload_n hx hb d_Rf_ended_0 rfl (lv_at hl 0 rfl)) ?_
  refine fs_lift (fun _ _ _ _ => lv_aload_n hx hb d_Rf_ended_1 rfl (lv_at hl 0 rfl)) ?_
  refine fs_lift (fun _ _ _ _ => lv_iload_n hx hb d_Rf_ended_2 rfl (lv_at hl 1 rfl)) ?_
  refine fs_JV S hG hR rfl [.int x1] (enc := fun r => some (.int r)) (fun zr zs zt zh => m_Rf_noExporter X l a0 x1 zh) tw_6_111 tw_6_113 tp_1_13 tw_6_114 tw_1_11 q_Rf_noExporter ⟨(Nat.le_of_ble_eq_true rfl), (Nat.le_of_ble_eq_true rfl)⟩ hl.1 rfl (Nat.le_of_ble_eq_true rfl) d_Rf_ended_3 (fun v1 => ?_)
  refine fs_Jeq (g2 := F0 m 6 ls [.int v1, .ref a0]) rfl ?_
  refine fs_Jlet1 (nL := 4) (pj := 42) (I := fun (v4 : Int32) => [(0, .ref a0), (1, .int x1), (2, .int x2), (3, .int x3)]) (st := fun (v4 : Int32) => [.int v4, .ref a0]) (fun v4 ls hl => ?_) (fun j42 hj42 => ?_)
  · refine fs_Jput S hG fs_in12 rfl 0 (Nat.le_of_ble_eq_true rfl) tw_5_192 (fun _ h9 => h9) fs_Y12 fs_ty12 fs_nm12 (Or.inl rfl) rfl rfl d_Rf_ended_42 ?_
    refine fs_lift (fun _ _ _ _ => lv_aload_n hx hb d_Rf_ended_45 rfl (lv_at hl 0 rfl)) ?_
    refine fs_Jgi S hG fs_in12 rfl 0 (Nat.le_of_ble_eq_true rfl) tw_5_192 (fun _ h9 => h9) d_Rf_ended_46 (fun v5 => ?_)
    refine fs_ifn (fun _ _ _ _ => lv_if_ne hx hb d_Rf_ended_49 rfl) ?_ ?_
    · refine fs_lift (fun _ _ _ _ => lv_aload_n hx hb d_Rf_ended_52 rfl (lv_at hl 0 rfl)) ?_
      refine fs_Jgr S hG fs_in12 rfl 14 (Nat.le_of_ble_eq_true rfl) tw_5_206 (fun _ h9 => h9) d_Rf_ended_53 (fun r6 => ?_)
      refine fs_lift (fun _ _ _ _ => lv_bipush (v := 8) hx hb d_Rf_ended_56 (by decide)) ?_
      refine fs_lift (fun _ _ _ _ => lv_bipush (v := 21) hx hb d_Rf_ended_58 (by decide)) ?_
      refine fs_lift (fun _ _ _ _ => lv_iload_n hx hb d_Rf_ended_60 rfl (lv_at hl 1 rfl)) ?_
      refine fs_lift (fun _ _ _ _ => lv_imul hx hb d_Rf_ended_61) ?_
      refine fs_lift (fun _ _ _ _ => lv_iload_n hx hb d_Rf_ended_62 rfl (lv_at hl 2 rfl)) ?_
      refine fs_lift (fun _ _ _ _ => lv_iadd hx hb d_Rf_ended_63) ?_
      refine fs_lift (fun _ _ _ _ => lv_imul hx hb d_Rf_ended_64) ?_
      refine fs_lift (fun _ _ _ _ => lv_iload_n hx hb d_Rf_ended_65 rfl (lv_at hl 3 rfl)) ?_
      refine fs_lift (fun _ _ _ _ => lv_iadd hx hb d_Rf_ended_66) ?_
      refine fs_Jai S hG d_Rf_ended_67 (fun v7 => ?_)
      refine fs_lift (fun _ _ _ _ => lv_goto hx hb d_Rf_ended_68 rfl) ?_
      exact fs_Jiret S hr hk rfl d_Rf_ended_72
    · refine fs_lift (fun _ _ _ _ => lv_iconst (v := 0) hx hb d_Rf_ended_71 (by decide)) ?_
      exact fs_Jiret S hr hk rfl d_Rf_ended_72
  · refine fs_Jlet1 (nL := 4) (pj := 19) (I := fun (_ : Unit) => [(0, .ref a0), (1, .int x1), (2, .int x2), (3, .int x3)]) (st := fun (_ : Unit) => [.ref a0]) (fun _ ls hl => ?_) (fun j19 hj19 => ?_)
    · refine fs_lift (fun _ _ _ _ => lv_iconst (v := 1) hx hb d_Rf_ended_19 (by decide)) ?_
      refine fs_lift (fun _ _ _ _ => lv_goto hx hb d_Rf_ended_20 rfl) ?_
      exact hj42 1 ls (lv_sub hl [0, 1, 2, 3] rfl)
    · refine fs_ifn (fun _ _ _ _ => lv_if_ne hx hb d_Rf_ended_6 rfl) ?_ ?_
      · refine fs_lift (fun _ _ _ _ => lv_iload_n hx hb d_Rf_ended_9 rfl (lv_at hl 3 rfl)) ?_
        refine fs_if (fun _ _ _ _ => lv_if_lt hx hb d_Rf_ended_10 rfl) ?_ ?_
        · exact hj19 () ls (lv_sub hl [0, 1, 2, 3] rfl)
        · refine fs_lift (fun _ _ _ _ => lv_iload_n hx hb d_Rf_ended_13 rfl (lv_at hl 3 rfl)) ?_
          refine fs_lift (fun _ _ _ _ => lv_bipush (v := 7) hx hb d_Rf_ended_14 (by decide)) ?_
          refine fs_if (fun _ _ _ _ => lv_icmp_le hx hb d_Rf_ended_16 rfl) ?_ ?_
          · refine fs_lift (fun _ _ _ _ => lv_iload_n hx hb d_Rf_ended_23 rfl (lv_at hl 2 rfl)) ?_
            refine fs_Jlet1 (nL := 4) (pj := 37) (I := fun (_ : Unit) => [(0, .ref a0), (1, .int x1), (2, .int x2), (3, .int x3)]) (st := fun (_ : Unit) => [.ref a0]) (fun _ ls hl => ?_) (fun j37 hj37 => ?_)
            · refine fs_lift (fun _ _ _ _ => lv_iconst (v := 2) hx hb d_Rf_ended_37 (by decide)) ?_
              refine fs_lift (fun _ _ _ _ => lv_goto hx hb d_Rf_ended_38 rfl) ?_
              exact hj42 2 ls (lv_sub hl [0, 1, 2, 3] rfl)
            · refine fs_if (fun _ _ _ _ => lv_if_lt hx hb d_Rf_ended_24 rfl) ?_ ?_
              · exact hj37 () ls (lv_sub hl [0, 1, 2, 3] rfl)
              · refine fs_lift (fun _ _ _ _ => lv_iload_n hx hb d_Rf_ended_27 rfl (lv_at hl 2 rfl)) ?_
                refine fs_lift (fun _ _ _ _ => lv_aload_n hx hb d_Rf_ended_28 rfl (lv_at hl 0 rfl)) ?_
                refine fs_Jgr S hG fs_in12 rfl 13 (Nat.le_of_ble_eq_true rfl) tw_5_205 (fun _ h9 => h9) d_Rf_ended_29 (fun r2 => ?_)
                refine fs_lift (fun _ _ _ _ => lv_iload_n hx hb d_Rf_ended_32 rfl (lv_at hl 1 rfl)) ?_
                refine fs_Jai S hG d_Rf_ended_33 (fun v3 => ?_)
                refine fs_if (fun _ _ _ _ => lv_icmp_lt hx hb d_Rf_ended_34 rfl) ?_ ?_
                · refine fs_lift (fun _ _ _ _ => lv_iconst (v := 0) hx hb d_Rf_ended_41 (by decide)) ?_
                  exact hj42 0 ls (lv_sub hl [0, 1, 2, 3] rfl)
                · exact hj37 () ls (lv_sub hl [0, 1, 2, 3] rfl)
          · exact hj19 () ls (lv_sub hl [0, 1, 2, 3] rfl)
      · exact hj19 () ls (lv_sub hl [0, 1, 2, 3] rfl)

