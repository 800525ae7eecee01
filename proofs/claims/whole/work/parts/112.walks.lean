/-! contracts of methods, walked by program -/
theorem d_Rf_count_0 : decode prog_13_method_54_code 0 = .ok (.aload_n 0, 1) := by decide +kernel
theorem d_Rf_count_1 : decode prog_13_method_54_code 1 = .ok (.aload_n 0, 1) := by decide +kernel
theorem d_Rf_count_2 : decode prog_13_method_54_code 2 = .ok (.iload_n 1, 1) := by decide +kernel
theorem d_Rf_count_3 : decode prog_13_method_54_code 3 = .ok (.invokevirtual 146, 3) := by decide +kernel
theorem d_Rf_count_6 : decode prog_13_method_54_code 6 = .ok (.ifCond .ne 13, 3) := by decide +kernel
theorem d_Rf_count_9 : decode prog_13_method_54_code 9 = .ok (.iload_n 2, 1) := by decide +kernel
theorem d_Rf_count_10 : decode prog_13_method_54_code 10 = .ok (.ifCond .lt 9, 3) := by decide +kernel
theorem d_Rf_count_13 : decode prog_13_method_54_code 13 = .ok (.iload_n 2, 1) := by decide +kernel
theorem d_Rf_count_14 : decode prog_13_method_54_code 14 = .ok (.bipush 9, 2) := by decide +kernel
theorem d_Rf_count_16 : decode prog_13_method_54_code 16 = .ok (.if_icmp .le 7, 3) := by decide +kernel
theorem d_Rf_count_19 : decode prog_13_method_54_code 19 = .ok (.iconst 1, 1) := by decide +kernel
theorem d_Rf_count_20 : decode prog_13_method_54_code 20 = .ok (.goto 4, 3) := by decide +kernel
theorem d_Rf_count_23 : decode prog_13_method_54_code 23 = .ok (.iconst 0, 1) := by decide +kernel
theorem d_Rf_count_24 : decode prog_13_method_54_code 24 = .ok (.putfield 138, 3) := by decide +kernel
theorem d_Rf_count_27 : decode prog_13_method_54_code 27 = .ok (.aload_n 0, 1) := by decide +kernel
theorem d_Rf_count_28 : decode prog_13_method_54_code 28 = .ok (.getfield 138, 3) := by decide +kernel
theorem d_Rf_count_31 : decode prog_13_method_54_code 31 = .ok (.ifCond .eq 5, 3) := by decide +kernel
theorem d_Rf_count_34 : decode prog_13_method_54_code 34 = .ok (.iconst 0, 1) := by decide +kernel
theorem d_Rf_count_35 : decode prog_13_method_54_code 35 = .ok (.ireturn, 1) := by decide +kernel
theorem d_Rf_count_36 : decode prog_13_method_54_code 36 = .ok (.iconst 0, 1) := by decide +kernel
theorem d_Rf_count_37 : decode prog_13_method_54_code 37 = .ok (.istore_n 3, 1) := by decide +kernel
theorem d_Rf_count_38 : decode prog_13_method_54_code 38 = .ok (.iconst 0, 1) := by decide +kernel
theorem d_Rf_count_39 : decode prog_13_method_54_code 39 = .ok (.istore 4, 2) := by decide +kernel
theorem d_Rf_count_41 : decode prog_13_method_54_code 41 = .ok (.iload 4, 2) := by decide +kernel
theorem d_Rf_count_43 : decode prog_13_method_54_code 43 = .ok (.aload_n 0, 1) := by decide +kernel
theorem d_Rf_count_44 : decode prog_13_method_54_code 44 = .ok (.getfield 225, 3) := by decide +kernel
theorem d_Rf_count_47 : decode prog_13_method_54_code 47 = .ok (.if_icmp .ge 31, 3) := by decide +kernel
theorem d_Rf_count_50 : decode prog_13_method_54_code 50 = .ok (.iload_n 3, 1) := by decide +kernel
theorem d_Rf_count_51 : decode prog_13_method_54_code 51 = .ok (.aload_n 0, 1) := by decide +kernel
theorem d_Rf_count_52 : decode prog_13_method_54_code 52 = .ok (.getfield 100, 3) := by decide +kernel
theorem d_Rf_count_55 : decode prog_13_method_54_code 55 = .ok (.bipush 64, 2) := by decide +kernel
theorem d_Rf_count_57 : decode prog_13_method_54_code 57 = .ok (.iload 4, 2) := by decide +kernel
theorem d_Rf_count_59 : decode prog_13_method_54_code 59 = .ok (.imul, 1) := by decide +kernel
theorem d_Rf_count_60 : decode prog_13_method_54_code 60 = .ok (.iaload, 1) := by decide +kernel
theorem d_Rf_count_61 : decode prog_13_method_54_code 61 = .ok (.iload_n 1, 1) := by decide +kernel
theorem d_Rf_count_62 : decode prog_13_method_54_code 62 = .ok (.if_icmp .ne 7, 3) := by decide +kernel
theorem d_Rf_count_65 : decode prog_13_method_54_code 65 = .ok (.iconst 1, 1) := by decide +kernel
theorem d_Rf_count_66 : decode prog_13_method_54_code 66 = .ok (.goto 4, 3) := by decide +kernel
theorem d_Rf_count_69 : decode prog_13_method_54_code 69 = .ok (.iconst 0, 1) := by decide +kernel
theorem d_Rf_count_70 : decode prog_13_method_54_code 70 = .ok (.iadd, 1) := by decide +kernel
theorem d_Rf_count_71 : decode prog_13_method_54_code 71 = .ok (.istore_n 3, 1) := by decide +kernel
theorem d_Rf_count_72 : decode prog_13_method_54_code 72 = .ok (.iinc 4 1, 3) := by decide +kernel
theorem d_Rf_count_75 : decode prog_13_method_54_code 75 = .ok (.goto (-34), 3) := by decide +kernel
theorem d_Rf_count_78 : decode prog_13_method_54_code 78 = .ok (.iload_n 2, 1) := by decide +kernel
theorem d_Rf_count_79 : decode prog_13_method_54_code 79 = .ok (.tableswitch 106 0 8 #[49, 56, 63, 70, 77, 84, 90, 92, 99], 49) := by decide +kernel
theorem d_Rf_count_128 : decode prog_13_method_54_code 128 = .ok (.aload_n 0, 1) := by decide +kernel
theorem d_Rf_count_129 : decode prog_13_method_54_code 129 = .ok (.getfield 7, 3) := by decide +kernel
theorem d_Rf_count_132 : decode prog_13_method_54_code 132 = .ok (.iload_n 1, 1) := by decide +kernel
theorem d_Rf_count_133 : decode prog_13_method_54_code 133 = .ok (.iaload, 1) := by decide +kernel
theorem d_Rf_count_134 : decode prog_13_method_54_code 134 = .ok (.ireturn, 1) := by decide +kernel
theorem d_Rf_count_135 : decode prog_13_method_54_code 135 = .ok (.aload_n 0, 1) := by decide +kernel
theorem d_Rf_count_136 : decode prog_13_method_54_code 136 = .ok (.getfield 13, 3) := by decide +kernel
theorem d_Rf_count_139 : decode prog_13_method_54_code 139 = .ok (.iload_n 1, 1) := by decide +kernel
theorem d_Rf_count_140 : decode prog_13_method_54_code 140 = .ok (.iaload, 1) := by decide +kernel
theorem d_Rf_count_141 : decode prog_13_method_54_code 141 = .ok (.ireturn, 1) := by decide +kernel
theorem d_Rf_count_142 : decode prog_13_method_54_code 142 = .ok (.aload_n 0, 1) := by decide +kernel
theorem d_Rf_count_143 : decode prog_13_method_54_code 143 = .ok (.getfield 28, 3) := by decide +kernel
theorem d_Rf_count_146 : decode prog_13_method_54_code 146 = .ok (.iload_n 1, 1) := by decide +kernel
theorem d_Rf_count_147 : decode prog_13_method_54_code 147 = .ok (.iaload, 1) := by decide +kernel
theorem d_Rf_count_148 : decode prog_13_method_54_code 148 = .ok (.ireturn, 1) := by decide +kernel
theorem d_Rf_count_149 : decode prog_13_method_54_code 149 = .ok (.aload_n 0, 1) := by decide +kernel
theorem d_Rf_count_150 : decode prog_13_method_54_code 150 = .ok (.getfield 46, 3) := by decide +kernel
theorem d_Rf_count_153 : decode prog_13_method_54_code 153 = .ok (.iload_n 1, 1) := by decide +kernel
theorem d_Rf_count_154 : decode prog_13_method_54_code 154 = .ok (.iaload, 1) := by decide +kernel
theorem d_Rf_count_155 : decode prog_13_method_54_code 155 = .ok (.ireturn, 1) := by decide +kernel
theorem d_Rf_count_156 : decode prog_13_method_54_code 156 = .ok (.aload_n 0, 1) := by decide +kernel
theorem d_Rf_count_157 : decode prog_13_method_54_code 157 = .ok (.getfield 22, 3) := by decide +kernel
theorem d_Rf_count_160 : decode prog_13_method_54_code 160 = .ok (.iload_n 1, 1) := by decide +kernel
theorem d_Rf_count_161 : decode prog_13_method_54_code 161 = .ok (.iaload, 1) := by decide +kernel
theorem d_Rf_count_162 : decode prog_13_method_54_code 162 = .ok (.ireturn, 1) := by decide +kernel
theorem d_Rf_count_163 : decode prog_13_method_54_code 163 = .ok (.aload_n 0, 1) := by decide +kernel
theorem d_Rf_count_164 : decode prog_13_method_54_code 164 = .ok (.iload_n 1, 1) := by decide +kernel
theorem d_Rf_count_165 : decode prog_13_method_54_code 165 = .ok (.invokevirtual 272, 3) := by decide +kernel
theorem d_Rf_count_168 : decode prog_13_method_54_code 168 = .ok (.ireturn, 1) := by decide +kernel
theorem d_Rf_count_169 : decode prog_13_method_54_code 169 = .ok (.iload_n 3, 1) := by decide +kernel
theorem d_Rf_count_170 : decode prog_13_method_54_code 170 = .ok (.ireturn, 1) := by decide +kernel
theorem d_Rf_count_171 : decode prog_13_method_54_code 171 = .ok (.aload_n 0, 1) := by decide +kernel
theorem d_Rf_count_172 : decode prog_13_method_54_code 172 = .ok (.getfield 114, 3) := by decide +kernel
theorem d_Rf_count_175 : decode prog_13_method_54_code 175 = .ok (.iload_n 1, 1) := by decide +kernel
theorem d_Rf_count_176 : decode prog_13_method_54_code 176 = .ok (.iaload, 1) := by decide +kernel
theorem d_Rf_count_177 : decode prog_13_method_54_code 177 = .ok (.ireturn, 1) := by decide +kernel
theorem d_Rf_count_178 : decode prog_13_method_54_code 178 = .ok (.aload_n 0, 1) := by decide +kernel
theorem d_Rf_count_179 : decode prog_13_method_54_code 179 = .ok (.getfield 117, 3) := by decide +kernel
theorem d_Rf_count_182 : decode prog_13_method_54_code 182 = .ok (.iload_n 1, 1) := by decide +kernel
theorem d_Rf_count_183 : decode prog_13_method_54_code 183 = .ok (.iaload, 1) := by decide +kernel
theorem d_Rf_count_184 : decode prog_13_method_54_code 184 = .ok (.ireturn, 1) := by decide +kernel
theorem d_Rf_count_185 : decode prog_13_method_54_code 185 = .ok (.aload_n 0, 1) := by decide +kernel
theorem d_Rf_count_186 : decode prog_13_method_54_code 186 = .ok (.getfield 120, 3) := by decide +kernel
theorem d_Rf_count_189 : decode prog_13_method_54_code 189 = .ok (.iload_n 1, 1) := by decide +kernel
theorem d_Rf_count_190 : decode prog_13_method_54_code 190 = .ok (.iaload, 1) := by decide +kernel
theorem d_Rf_count_191 : decode prog_13_method_54_code 191 = .ok (.ireturn, 1) := by decide +kernel
theorem q_Rf_count : (⟨"FlowShelfModel", "count", "(II)I"⟩ : MethodName).cls ≠ "java/lang/invoke/MethodHandle" ∧ (⟨"FlowShelfModel", "count", "(II)I"⟩ : MethodName).cls ≠ "java/lang/invoke/VarHandle" ∧ (parseMethodDescriptor (⟨"FlowShelfModel", "count", "(II)I"⟩ : MethodName).desc).map (fun d => d.parameters.length) = some 2 := by decide +kernel
set_option maxHeartbeats 4000000 in
set_option maxRecDepth 100000 in
theorem m_Rf_count (X : fs_X) (l : Launch) (a0 : Nat) (x1 : Int32) (x2 : Int32) {r : Int32} {σ σF : fs_S} (h : (f_Rf_count a0 x1 x2).1 σ = some (r, σF)) : fs_Met X l ⟨"FlowShelfModel", "count", "(II)I"⟩ (Cond.code ⟨"FlowShelfModel", "count", "(II)I"⟩ prog_13_method_54_code 5 (some FieldType.int)) 1 27 [.ref a0, .int x1, .int x2] σ (fs_eI r) σF := by
  refine fs_ofW (by decide) ?_
  intro p e s m args below meth c s₁ B hml hT hv
  obtain ⟨rfl, hw0, hG⟩ := hv
  have hx := B.exec
  have hb := B.bytes
  have hr := B.returns
  have hk := B.notSynchronized
  have S : CallFix p m c prog_13_method_54_code 5 s _ fs_ws "FlowShelfModel" := ⟨B.exec, B.bytes, hml, findClass_of_methodNamed B.named, fun w hw => atoms_spec (ws := _ :: fs_ws) B.pre w (List.mem_cons_of_mem _ hw)⟩
  have hR := fs_hR (fr := 1) (lo := 27) ((f_Rf_count a0 x1 x2).2 _ _ _ h)
  have hl := lv_entry ([.ref a0, .int x1, .int x2]) (n := 5) (Nat.le_of_ble_eq_true rfl)
  rw [lg_entry_eq]
  generalize (lg_sl ([.ref a0, .int x1, .int x2]) ++ List.replicate (5 - (lg_sl ([.ref a0, .int x1, .int x2])).length) Slot.unset).toArray = ls at hl ⊢
  have hl : lv_has ls 5 [(0, .ref a0), (1, .int x1), (2, .int x2)] := hl
  refine (?_ : fs_J X p l e (fs_rm 1 27 σ σF) s m _ below meth c (fs_Q X below _ s (fs_eI r) σ σF) r σ σF (f_Rf_count a0 x1 x2) (F0 m 0 ls [])) σ s.heap [] 0 0 h hw0 va_S.rf rfl rfl
  clear h hw0
  unfold f_Rf_count
  refine fs_lift (fun _ _ _ _ => lv_aload_n hx hb d_Rf_count_0 rfl (lv_at hl 0 rfl)) ?_
  refine fs_lift (fun _ _ _ _ => lv_aload_n hx hb d_Rf_count_1 rfl (lv_at hl 0 rfl)) ?_
  refine fs_lift (fun _ _ _ _ => lv_iload_n hx hb d_Rf_count_2 rfl (lv_at hl 1 rfl)) ?_
  refine fs_JV S hG hR rfl [.int x1] (enc := fun r => some (.int r)) (fun zr zs zt zh => m_Rf_noExporter X l a0 x1 zh) tw_6_111 tw_6_113 tp_1_13 tw_6_114 tw_1_11 q_Rf_noExporter ⟨(Nat.le_of_ble_eq_true rfl), (Nat.le_of_ble_eq_true rfl)⟩ hl.1 rfl (Nat.le_of_ble_eq_true rfl) d_Rf_count_3 (fun v1 => ?_)
  refine fs_Jeq (g2 := F0 m 6 ls [.int v1, .ref a0]) rfl ?_
  refine fs_Jlet1 (nL := 5) (pj := 24) (I := fun (v2 : Int32) => [(0, .ref a0), (1, .int x1), (2, .int x2)]) (st := fun (v2 : Int32) => [.int v2, .ref a0]) (fun v2 ls hl => ?_) (fun j24 hj24 => ?_)
  · refine fs_Jput S hG fs_in12 rfl 0 (Nat.le_of_ble_eq_true rfl) tw_5_192 (fun _ h9 => h9) fs_Y12 fs_ty12 fs_nm12 (Or.inl rfl) rfl rfl d_Rf_count_24 ?_
    refine fs_lift (fun _ _ _ _ => lv_aload_n hx hb d_Rf_count_27 rfl (lv_at hl 0 rfl)) ?_
    refine fs_Jgi S hG fs_in12 rfl 0 (Nat.le_of_ble_eq_true rfl) tw_5_192 (fun _ h9 => h9) d_Rf_count_28 (fun v3 => ?_)
    refine fs_if (fun _ _ _ _ => lv_if_eq hx hb d_Rf_count_31 rfl) ?_ ?_
    · refine fs_lift (fun _ _ _ _ => lv_iconst (v := 0) hx hb d_Rf_count_36 (by decide)) ?_
      refine fs_liftL (fun _ _ _ _ => lv_istore_n (lv' := [(3, .int 0), (0, .ref a0), (1, .int x1), (2, .int x2)]) hx hb d_Rf_count_37 rfl hl (Nat.le_of_ble_eq_true rfl) rfl) (fun ls hl => ?_)
      refine fs_lift (fun _ _ _ _ => lv_iconst (v := 0) hx hb d_Rf_count_38 (by decide)) ?_
      refine fs_liftL (fun _ _ _ _ => lv_istore (lv' := [(4, .int 0), (3, .int 0), (0, .ref a0), (1, .int x1), (2, .int x2)]) hx hb d_Rf_count_39 hl (Nat.le_of_ble_eq_true rfl) rfl) (fun ls hl => ?_)
      refine fs_Jlp2 (nL := 5) (pc := 41) (rest := []) (I := fun (v4 : Int32) (v5 : Int32) => [(0, .ref a0), (1, .int x1), (2, .int x2), (3, .int v4), (4, .int v5)]) (fun k41 hk41 v4 v5 ls hl => ?_) _ _ _ _ (lv_sub hl [2, 3, 4, 1, 0] rfl)
      refine fs_lift (fun _ _ _ _ => lv_iload hx hb d_Rf_count_41 (lv_at hl 4 rfl)) ?_
      refine fs_lift (fun _ _ _ _ => lv_aload_n hx hb d_Rf_count_43 rfl (lv_at hl 0 rfl)) ?_
      refine fs_Jgi S hG fs_in12 rfl 33 (Nat.le_of_ble_eq_true rfl) tw_5_225 (fun _ h9 => h9) d_Rf_count_44 (fun v6 => ?_)
      refine fs_if (fun _ _ _ _ => lv_icmp_ge hx hb d_Rf_count_47 rfl) ?_ ?_
      · refine fs_lift (fun _ _ _ _ => lv_iload_n hx hb d_Rf_count_78 rfl (lv_at hl 2 rfl)) ?_
        refine fs_sw (fun q9 => ?_) (fun q100 => ?_)
        · refine fs_lift (fun _ _ _ _ => lv_tableIn (off := 49) (tgt := 128) hx hb d_Rf_count_79 (by rw [q9]; decide) (by rw [q9]; decide) (by rw [q9]; rfl) rfl) ?_
          refine fs_lift (fun _ _ _ _ => lv_aload_n hx hb d_Rf_count_128 rfl (lv_at hl 0 rfl)) ?_
          refine fs_Jgr S hG fs_in12 rfl 1 (Nat.le_of_ble_eq_true rfl) tw_5_193 (fun _ h9 => h9) d_Rf_count_129 (fun r7 => ?_)
          refine fs_lift (fun _ _ _ _ => lv_iload_n hx hb d_Rf_count_132 rfl (lv_at hl 1 rfl)) ?_
          refine fs_Jai S hG d_Rf_count_133 (fun v8 => ?_)
          exact fs_Jiret S hr hk rfl d_Rf_count_134
        refine fs_sw (fun q9 => ?_) (fun q101 => ?_)
        · refine fs_lift (fun _ _ _ _ => lv_tableIn (off := 56) (tgt := 135) hx hb d_Rf_count_79 (by rw [q9]; decide) (by rw [q9]; decide) (by rw [q9]; rfl) rfl) ?_
          refine fs_lift (fun _ _ _ _ => lv_aload_n hx hb d_Rf_count_135 rfl (lv_at hl 0 rfl)) ?_
          refine fs_Jgr S hG fs_in12 rfl 2 (Nat.le_of_ble_eq_true rfl) tw_5_194 (fun _ h9 => h9) d_Rf_count_136 (fun r9 => ?_)
          refine fs_lift (fun _ _ _ _ => lv_iload_n hx hb d_Rf_count_139 rfl (lv_at hl 1 rfl)) ?_
          refine fs_Jai S hG d_Rf_count_140 (fun v10 => ?_)
          exact fs_Jiret S hr hk rfl d_Rf_count_141
        refine fs_sw (fun q9 => ?_) (fun q102 => ?_)
        · refine fs_lift (fun _ _ _ _ => lv_tableIn (off := 63) (tgt := 142) hx hb d_Rf_count_79 (by rw [q9]; decide) (by rw [q9]; decide) (by rw [q9]; rfl) rfl) ?_
          refine fs_lift (fun _ _ _ _ => lv_aload_n hx hb d_Rf_count_142 rfl (lv_at hl 0 rfl)) ?_
          refine fs_Jgr S hG fs_in12 rfl 7 (Nat.le_of_ble_eq_true rfl) tw_5_199 (fun _ h9 => h9) d_Rf_count_143 (fun r11 => ?_)
          refine fs_lift (fun _ _ _ _ => lv_iload_n hx hb d_Rf_count_146 rfl (lv_at hl 1 rfl)) ?_
          refine fs_Jai S hG d_Rf_count_147 (fun v12 => ?_)
          exact fs_Jiret S hr hk rfl d_Rf_count_148
        refine fs_sw (fun q9 => ?_) (fun q103 => ?_)
        · refine fs_lift (fun _ _ _ _ => lv_tableIn (off := 70) (tgt := 149) hx hb d_Rf_count_79 (by rw [q9]; decide) (by rw [q9]; decide) (by rw [q9]; rfl) rfl) ?_
          refine fs_lift (fun _ _ _ _ => lv_aload_n hx hb d_Rf_count_149 rfl (lv_at hl 0 rfl)) ?_
          refine fs_Jgr S hG fs_in12 rfl 13 (Nat.le_of_ble_eq_true rfl) tw_5_205 (fun _ h9 => h9) d_Rf_count_150 (fun r13 => ?_)
          refine fs_lift (fun _ _ _ _ => lv_iload_n hx hb d_Rf_count_153 rfl (lv_at hl 1 rfl)) ?_
          refine fs_Jai S hG d_Rf_count_154 (fun v14 => ?_)
          exact fs_Jiret S hr hk rfl d_Rf_count_155
        refine fs_sw (fun q9 => ?_) (fun q104 => ?_)
        · refine fs_lift (fun _ _ _ _ => lv_tableIn (off := 77) (tgt := 156) hx hb d_Rf_count_79 (by rw [q9]; decide) (by rw [q9]; decide) (by rw [q9]; rfl) rfl) ?_
          refine fs_lift (fun _ _ _ _ => lv_aload_n hx hb d_Rf_count_156 rfl (lv_at hl 0 rfl)) ?_
          refine fs_Jgr S hG fs_in12 rfl 5 (Nat.le_of_ble_eq_true rfl) tw_5_197 (fun _ h9 => h9) d_Rf_count_157 (fun r15 => ?_)
          refine fs_lift (fun _ _ _ _ => lv_iload_n hx hb d_Rf_count_160 rfl (lv_at hl 1 rfl)) ?_
          refine fs_Jai S hG d_Rf_count_161 (fun v16 => ?_)
          exact fs_Jiret S hr hk rfl d_Rf_count_162
        refine fs_sw (fun q9 => ?_) (fun q105 => ?_)
        · refine fs_lift (fun _ _ _ _ => lv_tableIn (off := 84) (tgt := 163) hx hb d_Rf_count_79 (by rw [q9]; decide) (by rw [q9]; decide) (by rw [q9]; rfl) rfl) ?_
          refine fs_lift (fun _ _ _ _ => lv_aload_n hx hb d_Rf_count_163 rfl (lv_at hl 0 rfl)) ?_
          refine fs_lift (fun _ _ _ _ => lv_iload_n hx hb d_Rf_count_164 rfl (lv_at hl 1 rfl)) ?_
          refine fs_JV S hG hR rfl [.int x1] (enc := fun r => some (.int r)) (fun zr zs zt zh => m_Rf_lostOf X l a0 x1 zh) tw_7_75 tw_7_77 tp_3_11 tw_7_78 tw_1_11 q_Rf_lostOf ⟨(Nat.le_of_ble_eq_true rfl), (Nat.le_of_ble_eq_true rfl)⟩ hl.1 rfl (Nat.le_of_ble_eq_true rfl) d_Rf_count_165 (fun v17 => ?_)
          refine fs_Jeq (g2 := F0 m 168 ls [.int v17]) rfl ?_
          exact fs_Jiret S hr hk rfl d_Rf_count_168
        refine fs_sw (fun q9 => ?_) (fun q106 => ?_)
        · refine fs_lift (fun _ _ _ _ => lv_tableIn (off := 90) (tgt := 169) hx hb d_Rf_count_79 (by rw [q9]; decide) (by rw [q9]; decide) (by rw [q9]; rfl) rfl) ?_
          refine fs_lift (fun _ _ _ _ => lv_iload_n hx hb d_Rf_count_169 rfl (lv_at hl 3 rfl)) ?_
          exact fs_Jiret S hr hk rfl d_Rf_count_170
        refine fs_sw (fun q9 => ?_) (fun q107 => ?_)
        · refine fs_lift (fun _ _ _ _ => lv_tableIn (off := 92) (tgt := 171) hx hb d_Rf_count_79 (by rw [q9]; decide) (by rw [q9]; decide) (by rw [q9]; rfl) rfl) ?_
          refine fs_lift (fun _ _ _ _ => lv_aload_n hx hb d_Rf_count_171 rfl (lv_at hl 0 rfl)) ?_
          refine fs_Jgr S hG fs_in12 rfl 40 (Nat.le_of_ble_eq_true rfl) tw_5_232 (fun _ h9 => h9) d_Rf_count_172 (fun r18 => ?_)
          refine fs_lift (fun _ _ _ _ => lv_iload_n hx hb d_Rf_count_175 rfl (lv_at hl 1 rfl)) ?_
          refine fs_Jai S hG d_Rf_count_176 (fun v19 => ?_)
          exact fs_Jiret S hr hk rfl d_Rf_count_177
        refine fs_sw (fun q9 => ?_) (fun q108 => ?_)
        · refine fs_lift (fun _ _ _ _ => lv_tableIn (off := 99) (tgt := 178) hx hb d_Rf_count_79 (by rw [q9]; decide) (by rw [q9]; decide) (by rw [q9]; rfl) rfl) ?_
          refine fs_lift (fun _ _ _ _ => lv_aload_n hx hb d_Rf_count_178 rfl (lv_at hl 0 rfl)) ?_
          refine fs_Jgr S hG fs_in12 rfl 41 (Nat.le_of_ble_eq_true rfl) tw_5_233 (fun _ h9 => h9) d_Rf_count_179 (fun r20 => ?_)
          refine fs_lift (fun _ _ _ _ => lv_iload_n hx hb d_Rf_count_182 rfl (lv_at hl 1 rfl)) ?_
          refine fs_Jai S hG d_Rf_count_183 (fun v21 => ?_)
          exact fs_Jiret S hr hk rfl d_Rf_count_184
        refine fs_lift (fun _ _ _ _ => lv_tableOut (tgt := 185) hx hb d_Rf_count_79 (fs_tout 8 (fun k hk => match k, hk with | 0, _ => q100 | 1, _ => q101 | 2, _ => q102 | 3, _ => q103 | 4, _ => q104 | 5, _ => q105 | 6, _ => q106 | 7, _ => q107 | 8, _ => q108 | n + 9, h => absurd h (by omega)) (by decide)) rfl) ?_
        refine fs_lift (fun _ _ _ _ => lv_aload_n hx hb d_Rf_count_185 rfl (lv_at hl 0 rfl)) ?_
        refine fs_Jgr S hG fs_in12 rfl 42 (Nat.le_of_ble_eq_true rfl) tw_5_234 (fun _ h9 => h9) d_Rf_count_186 (fun r22 => ?_)
        refine fs_lift (fun _ _ _ _ => lv_iload_n hx hb d_Rf_count_189 rfl (lv_at hl 1 rfl)) ?_
        refine fs_Jai S hG d_Rf_count_190 (fun v23 => ?_)
        exact fs_Jiret S hr hk rfl d_Rf_count_191
      · refine fs_lift (fun _ _ _ _ => lv_iload_n hx hb d_Rf_count_50 rfl (lv_at hl 3 rfl)) ?_
        refine fs_lift (fun _ _ _ _ => lv_aload_n hx hb d_Rf_count_51 rfl (lv_at hl 0 rfl)) ?_
        refine fs_Jgr S hG fs_in12 rfl 35 (Nat.le_of_ble_eq_true rfl) tw_5_227 (fun _ h9 => h9) d_Rf_count_52 (fun r24 => ?_)
        refine fs_lift (fun _ _ _ _ => lv_bipush (v := 64) hx hb d_Rf_count_55 (by decide)) ?_
        refine fs_lift (fun _ _ _ _ => lv_iload hx hb d_Rf_count_57 (lv_at hl 4 rfl)) ?_
        refine fs_lift (fun _ _ _ _ => lv_imul hx hb d_Rf_count_59) ?_
        refine fs_Jai S hG d_Rf_count_60 (fun v25 => ?_)
        refine fs_lift (fun _ _ _ _ => lv_iload_n hx hb d_Rf_count_61 rfl (lv_at hl 1 rfl)) ?_
        refine fs_Jlet1 (nL := 5) (pj := 70) (I := fun (v26 : Int32) => [(0, .ref a0), (1, .int x1), (2, .int x2), (4, .int v5)]) (st := fun (v26 : Int32) => [.int v26, .int v4]) (fun v26 ls hl => ?_) (fun j70 hj70 => ?_)
        · refine fs_lift (fun _ _ _ _ => lv_iadd hx hb d_Rf_count_70) ?_
          refine fs_Jni (fun v27 => ?_)
          refine fs_liftL (fun _ _ _ _ => lv_istore_n (lv' := [(3, .int v27), (0, .ref a0), (1, .int x1), (2, .int x2), (4, .int v5)]) hx hb d_Rf_count_71 rfl hl (Nat.le_of_ble_eq_true rfl) rfl) (fun ls hl => ?_)
          refine fs_Jnm (fun v28 hv9 => ?_)
          refine fs_liftL (fun _ _ _ _ => lv_iinc (k := 4) (v := v28) (lv' := [(4, .int v28), (3, .int v27), (0, .ref a0), (1, .int x1), (2, .int x2)]) hx hb d_Rf_count_72 hl rfl (by rw [hv9]; rfl) (Nat.le_of_ble_eq_true rfl) rfl) (fun ls hl => ?_)
          refine fs_lift (fun _ _ _ _ => lv_goto hx hb d_Rf_count_75 rfl) ?_
          exact hk41 v27 v28 ls (lv_sub hl [2, 3, 4, 1, 0] rfl)
        · refine fs_ifn (fun _ _ _ _ => lv_icmp_ne hx hb d_Rf_count_62 rfl) ?_ ?_
          · refine fs_lift (fun _ _ _ _ => lv_iconst (v := 1) hx hb d_Rf_count_65 (by decide)) ?_
            refine fs_lift (fun _ _ _ _ => lv_goto hx hb d_Rf_count_66 rfl) ?_
            exact hj70 1 ls (lv_sub hl [0, 1, 2, 4] rfl)
          · refine fs_lift (fun _ _ _ _ => lv_iconst (v := 0) hx hb d_Rf_count_69 (by decide)) ?_
            exact hj70 0 ls (lv_sub hl [0, 1, 2, 4] rfl)
    · refine fs_lift (fun _ _ _ _ => lv_iconst (v := 0) hx hb d_Rf_count_34 (by decide)) ?_
      exact fs_Jiret S hr hk rfl d_Rf_count_35
  · refine fs_Jlet1 (nL := 5) (pj := 19) (I := fun (_ : Unit) => [(0, .ref a0), (1, .int x1), (2, .int x2)]) (st := fun (_ : Unit) => [.ref a0]) (fun _ ls hl => ?_) (fun j19 hj19 => ?_)
    · refine fs_lift (fun _ _ _ _ => lv_iconst (v := 1) hx hb d_Rf_count_19 (by decide)) ?_
      refine fs_lift (fun _ _ _ _ => lv_goto hx hb d_Rf_count_20 rfl) ?_
      exact hj24 1 ls (lv_sub hl [0, 1, 2] rfl)
    · refine fs_ifn (fun _ _ _ _ => lv_if_ne hx hb d_Rf_count_6 rfl) ?_ ?_
      · refine fs_lift (fun _ _ _ _ => lv_iload_n hx hb d_Rf_count_9 rfl (lv_at hl 2 rfl)) ?_
        refine fs_if (fun _ _ _ _ => lv_if_lt hx hb d_Rf_count_10 rfl) ?_ ?_
        · exact hj19 () ls (lv_sub hl [0, 1, 2] rfl)
        · refine fs_lift (fun _ _ _ _ => lv_iload_n hx hb d_Rf_count_13 rfl (lv_at hl 2 rfl)) ?_
          refine fs_lift (fun _ _ _ _ => lv_bipush (v := 9) hx hb d_Rf_count_14 (by decide)) ?_
          refine fs_if (fun _ _ _ _ => lv_icmp_le hx hb d_Rf_count_16 rfl) ?_ ?_
          · refine fs_lift (fun _ _ _ _ => lv_iconst (v := 0) hx hb d_Rf_count_23 (by decide)) ?_
            exact hj24 0 ls (lv_sub hl [0, 1, 2] rfl)
          · exact hj19 () ls (lv_sub hl [0, 1, 2] rfl)
      · exact hj19 () ls (lv_sub hl [0, 1, 2] rfl)

