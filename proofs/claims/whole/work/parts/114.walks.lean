/-! contracts of methods, walked by program -/
theorem d_Rf_count_0 : decode prog_13_method_54_code 0 = .ok (.aload_n 0, 1) := by decide +kernel
theorem d_Rf_count_1 : decode prog_13_method_54_code 1 = .ok (.aload_n 0, 1) := by decide +kernel
theorem d_Rf_count_2 : decode prog_13_method_54_code 2 = .ok (.iload_n 1, 1) := by decide +kernel
theorem d_Rf_count_3 : decode prog_13_method_54_code 3 = .ok (.invokevirtual 146, 3) := by decide +kernel
theorem d_Rf_count_6 : decode prog_13_method_54_code 6 = .ok (.ifCond .ne 13, 3) := by decide +kernel
theorem d_Rf_count_9 : decode prog_13_method_54_code 9 = .ok (.iload_n 2, 1) := by decide +kernel
theorem d_Rf_count_10 : decode prog_13_method_54_code 10 = .ok (.ifCond .lt 9, 3) := by decide +kernel
theorem d_Rf_count_13 : decode prog_13_method_54_code 13 = .ok (.iload_n 2, 1) := by decide +kernel
theorem d_Rf_count_14 : decode prog_13_method_54_code 14 = .ok (.bipush 9, 2) := by decide +kernel
theorem d_Rf_count_16 : decode prog_13_method_54_code 16 = .ok (.if_icmp .le 7, 3) := by decide +kernel
theorem d_Rf_count_19 : decode prog_13_method_54_code 19 = .ok (.iconst 1, 1) := by decide +kernel
theorem d_Rf_count_20 : decode prog_13_method_54_code 20 = .ok (.goto 4, 3) := by decide +kernel
theorem d_Rf_count_23 : decode prog_13_method_54_code 23 = .ok (.iconst 0, 1) := by decide +kernel
theorem d_Rf_count_24 : decode prog_13_method_54_code 24 = .ok (.putfield 138, 3) := by decide +kernel
theorem d_Rf_count_27 : decode prog_13_method_54_code 27 = .ok (.aload_n 0, 1) := by decide +kernel
theorem d_Rf_count_28 : decode prog_13_method_54_code 28 = .ok (.getfield 138, 3) := by decide +kernel
theorem d_Rf_count_31 : decode prog_13_method_54_code 31 = .ok (.ifCond .eq 5, 3) := by decide +kernel
theorem d_Rf_count_34 : decode prog_13_method_54_code 34 = .ok (.iconst 0, 1) := by decide +kernel
theorem d_Rf_count_35 : decode prog_13_method_54_code 35 = .ok (.ireturn, 1) := by decide +kernel
theorem d_Rf_count_36 : decode prog_13_method_54_code 36 = .ok (.iconst 0, 1) := by decide +kernel
theorem d_Rf_count_37 : decode prog_13_method_54_code 37 = .ok (.istore_n 3, 1) := by decide +kernel
theorem d_Rf_count_38 : decode prog_13_method_54_code 38 = .ok (.iconst 0, 1) := by decide +kernel
theorem d_Rf_count_39 : decode prog_13_method_54_code 39 = .ok (.istore 4, 2) := by decide +kernel
theorem d_Rf_count_41 : decode prog_13_method_54_code 41 = .ok (.iload 4, 2) := by decide +kernel
theorem d_Rf_count_43 : decode prog_13_method_54_code 43 = .ok (.aload_n 0, 1) := by decide +kernel
theorem d_Rf_count_44 : decode prog_13_method_54_code 44 = .ok (.getfield 225, 3) := by decide +kernel
theorem d_Rf_count_47 : decode prog_13_method_54_code 47 = .ok (.if_icmp .ge 31, 3) := by decide +kernel
theorem d_Rf_count_50 : decode prog_13_method_54_code 50 = .ok (.iload_n 3, 1) := by decide +kernel
theorem d_Rf_count_51 : decode prog_13_method_54_code 51 = .ok (.aload_n 0, 1) := by decide +kernel
theorem d_Rf_count_52 : decode prog_13_method_54_code 52 = .ok (.getfield 100, 3) := by decide +kernel
theorem d_Rf_count_55 : decode prog_13_method_54_code 55 = .ok (.bipush 64, 2) := by decide +kernel
theorem d_Rf_count_57 : decode prog_13_method_54_code 57 = .ok (.iload 4, 2) := by decide +kernel
theorem d_Rf_count_59 : decode prog_13_method_54_code 59 = .ok (.imul, 1) := by decide +kernel
theorem d_Rf_count_60 : decode prog_13_method_54_code 60 = .ok (.iaload, 1) := by decide +kernel
theorem d_Rf_count_61 : decode prog_13_method_54_code 61 = .ok (.iload_n 1, 1) := by decide +kernel
theorem d_Rf_count_62 : decode prog_13_method_54_code 62 = .ok (.if_icmp .ne 7, 3) := by decide +kernel
theorem d_Rf_count_65 : decode prog_13_method_54_code 65 = .ok (.iconst 1, 1) := by decide +kernel
theorem d_Rf_count_66 : decode prog_13_method_54_code 66 = .ok (.goto 4, 3) := by decide +kernel
theorem d_Rf_count_69 : decode prog_13_method_54_code 69 = .ok (.iconst 0, 1) := by decide +kernel
theorem d_Rf_count_70 : decode prog_13_method_54_code 70 = .ok (.iadd, 1) := by decide +kernel
theorem d_Rf_count_71 : decode prog_13_method_54_code 71 = .ok (.istore_n 3, 1) := by decide +kernel
theorem d_Rf_count_72 : decode prog_13_method_54_code 72 = .ok (.iinc 4 1, 3) := by decide +kernel
theorem d_Rf_count_75 : decode prog_13_method_54_code 75 = .ok (.goto (-34), 3) := by decide +kernel
theorem d_Rf_count_78 : decode prog_13_method_54_code 78 = .ok (.iload_n 2, 1) := by decide +kernel
theorem d_Rf_count_79 : decode prog_13_method_54_code 79 = .ok (.tableswitch 106 0 8 #[49, 56, 63, 70, 77, 84, 90, 92, 99], 49) := by decide +kernel
theorem d_Rf_count_128 : decode prog_13_method_54_code 128 = .ok (.aload_n 0, 1) := by decide +kernel
theorem d_Rf_count_129 : decode prog_13_method_54_code 129 = .ok (.getfield 7, 3) := by decide +kernel
theorem d_Rf_count_132 : decode prog_13_method_54_code 132 = .ok (.iload_n 1, 1) := by decide +kernel
theorem d_Rf_count_133 : decode prog_13_method_54_code 133 = .ok (.iaload, 1) := by decide +kernel
theorem d_Rf_count_134 : decode prog_13_method_54_code 134 = .ok (.ireturn, 1) := by decide +kernel
theorem d_Rf_count_135 : decode prog_13_method_54_code 135 = .ok (.aload_n 0, 1) := by decide +kernel
theorem d_Rf_count_136 : decode prog_13_method_54_code 136 = .ok (.getfield 13, 3) := by decide +kernel
theorem d_Rf_count_139 : decode prog_13_method_54_code 139 = .ok (.iload_n 1, 1) := by decide +kernel
theorem d_Rf_count_140 : decode prog_13_method_54_code 140 = .ok (.iaload, 1) := by decide +kernel
theorem d_Rf_count_141 : decode prog_13_method_54_code 141 = .ok (.ireturn, 1) := by decide +kernel
theorem d_Rf_count_142 : decode prog_13_method_54_code 142 = .ok (.aload_n 0, 1) := by decide +kernel
theorem d_Rf_count_143 : decode prog_13_method_54_code 143 = .ok (.getfield 28, 3) := by decide +kernel
theorem d_Rf_count_146 : decode prog_13_method_54_code 146 = .ok (.iload_n 1, 1) := by decide +kernel
theorem d_Rf_count_147 : decode prog_13_method_54_code 147 = .ok (.iaload, 1) := by decide +kernel
theorem d_Rf_count_148 : decode prog_13_method_54_code 148 = .ok (.ireturn, 1) := by decide +kernel
theorem d_Rf_count_149 : decode prog_13_method_54_code 149 = .ok (.aload_n 0, 1) := by decide +kernel
theorem d_Rf_count_150 : decode prog_13_method_54_code 150 = .ok (.getfield 46, 3) := by decide +kernel
theorem d_Rf_count_153 : decode prog_13_method_54_code 153 = .ok (.iload_n 1, 1) := by decide +kernel
theorem d_Rf_count_154 : decode prog_13_method_54_code 154 = .ok (.iaload, 1) := by decide +kernel
theorem d_Rf_count_155 : decode prog_13_method_54_code 155 = .ok (.ireturn, 1) := by decide +kernel
theorem d_Rf_count_156 : decode prog_13_method_54_code 156 = .ok (.aload_n 0, 1) := by decide +kernel
theorem d_Rf_count_157 : decode prog_13_method_54_code 157 = .ok (.getfield 22, 3) := by decide +kernel
theorem d_Rf_count_160 : decode prog_13_method_54_code 160 = .ok (.iload_n 1, 1) := by decide +kernel
theorem d_Rf_count_161 : decode prog_13_method_54_code 161 = .ok (.iaload, 1) := by decide +kernel
theorem d_Rf_count_162 : decode prog_13_method_54_code 162 = .ok (.ireturn, 1) := by decide +kernel
theorem d_Rf_count_163 : decode prog_13_method_54_code 163 = .ok (.aload_n 0, 1) := by decide +kernel
theorem d_Rf_count_164 : decode prog_13_method_54_code 164 = .ok (.iload_n 1, 1) := by decide +kernel
theorem d_Rf_count_165 : decode prog_13_method_54_code 165 = .ok (.invokevirtual 272, 3) := by decide +kernel
theorem d_Rf_count_168 : decode prog_13_method_54_code 168 = .ok (.ireturn, 1) := by decide +kernel
theorem d_Rf_count_169 : decode prog_13_method_54_code 169 = .ok (.iload_n 3, 1) := by decide +kernel
theorem d_Rf_count_170 : decode prog_13_method_54_code 170 = .ok (.ireturn, 1) := by decide +kernel
theorem d_Rf_count_171 : decode prog_13_method_54_code 171 = .ok (.aload_n 0, 1) := by decide +kernel
theorem d_Rf_count_172 : decode prog_13_method_54_code 172 = .ok (.getfield 114, 3) := by decide +kernel
theorem d_Rf_count_175 : decode prog_13_method_54_code 175 = .ok (.iload_n 1, 1) := by decide +kernel
theorem d_Rf_count_176 : decode prog_13_method_54_code 176 = .ok (.iaload, 1) := by decide +kernel
theorem d_Rf_count_177 : decode prog_13_method_54_code 177 = .ok (.ireturn, 1) := by decide +kernel
theorem d_Rf_count_178 : decode prog_13_method_54_code 178 = .ok (.aload_n 0, 1) := by decide +kernel
theorem d_Rf_count_179 : decode prog_13_method_54_code 179 = .ok (.getfield 117, 3) := by decide +kernel
theorem d_Rf_count_182 : decode prog_13_method_54_code 182 = .ok (.iload_n 1, 1) := by decide +kernel
theorem d_Rf_count_183 : decode prog_13_method_54_code 183 = .ok (.iaload, 1) := by decide +kernel
theorem d_Rf_count_184 : decode prog_13_method_54_code 184 = .ok (.ireturn, 1) := by decide +kernel
theorem d_Rf_count_185 : decode prog_13_method_54_code 185 = .ok (.aload_n 0, 1) := by decide +kernel
theorem d_Rf_count_186 : decode prog_13_method_54_code 186 = .ok (.getfield 120, 3) := by decide +kernel
theorem d_Rf_count_189 : decode prog_13_method_54_code 189 = .ok (.iload_n 1, 1) := by decide +kernel
theorem d_Rf_count_190 : decode prog_13_method_54_code 190 = .ok (.iaload, 1) := by decide +kernel
theorem d_Rf_count_191 : decode prog_13_method_54_code 191 = .ok (.ireturn, 1) := by decide +kernel
theorem q_Rf_count : (⟨"FlowShelfModel", "count", "(II)I"⟩ : MethodName).cls ≠ "java/lang/invoke/MethodHandle" ∧ (⟨"FlowShelfModel", "count", "(II)I"⟩ : MethodName).cls ≠ "java/lang/invoke/VarHandle" ∧ (parseMethodDescriptor (⟨"FlowShelfModel", "count", "(II)I"⟩ : MethodName).desc).map (fun d => d.parameters.length) = some 2 := by decide +kernel
set_option maxHeartbeats 4000000 in
set_option maxRecDepth 100000 in
theorem m_Rf_count (X : fs_X) (l : Launch) (a0 : Nat) (x1 : Int32) (x2 : Int32) {r : Int32} {σ σF : fs_S} (h : (f_Rf_count a0 x1 x2).1 σ = some (r, σF)) : fs_Met X l ⟨"FlowShelfModel", "count", "(II)I"⟩ (Cond.code ⟨"FlowShelfModel", "count", "(II)I"⟩ prog_13_method_54_code 5 (some FieldType.int)) 1 27 [.ref a0, .int x1, .int x2] σ (fs_eI r) σF := by
  refine fs_ofW (by decide) ?_
  intro p e s m args below meth c s₁ B hml hT hv
  obtain ⟨rfl, hw0, hG⟩ := hv
  have hx := B.exec
  have hb := B.bytes
  have hr := B.returns
  have hk := B.notSynchronized
  have S : CallFix p m c prog_13_method_54_code 5 s _ fs_ws "FlowShelfModel" := ⟨B.exec, B.bytes, hml, findClass_of_methodNamed B.named, fun w hw => atoms_spec (ws := _ :: fs_ws) B.pre w (List.mem_cons_of_mem _ hw)⟩
  have hR := fs_hR (fr := 1) (lo := 27) ((f_Rf_count a0 x1 x2).2 _ _ _ h)
  have hl := lv_entry ([.ref a0, .int x1, .int x2]) (n := 5) (Nat.le_of_ble_eq_true rfl)
  rw [lg_entry_eq]
  generalize (lg_sl ([.ref a0, .int x1, .int x2]) ++ List.replicate (5 - (lg_sl ([.ref a0, .int x1, .int x2])).length) Slot.unset).toArray = ls at hl ⊢
  have hl : lv_has ls 5 [(0, .ref a0), (1, .int x1), (2, .int x2)] := hl
  refine (?_ : fs_J X p l e (fs_rm 1 27 σ σF) s m _ below meth c (fs_Q X below _ s (fs_eI r) σ σF) r σ σF (f_Rf_count a0 x1 x2) (F0 m 0 ls [])) σ s.heap [] 0 0 h hw0 va_S.rf rfl rfl
  clear h hw0
  unfold f_Rf_count
  refine fs_lift (fun _ _ _ _ => lv_aload_n hx hb d_Rf_count_0 rfl (lv_at hl 0 rfl)) ?_
  refine fs_lift (fun _ _ _ _ => lv_aload_n hx hb d_Rf_count_1 rfl (lv_at hl 0 rfl)) ?_
  refine fs_lift (fun _ _ _ _ => lv_iload_n hx hb d_Rf_count_2 rfl (lv_at hl 1 rfl)) ?_
  refine fs_JV S hG hR rfl [.int x1] (enc := fun r => some (.int r)) (fun zr zs zt zh => m_Rf_noExporter X l a0 x1 zh) tw_6_111 tw_6_113 tp_1_13 tw_6_114 tw_1_11 q_Rf_noExporter ⟨(Nat.le_of_ble_eq_true rfl), (Nat.le_of_ble_eq_true rfl)⟩ hl.1 rfl (Nat.le_of_ble_eq_true rfl) d_Rf_count_3 (fun v1 => ?_)
  refine fs_Jeq (g2 := F0 m 6 ls [.int v1, .ref a0]) rfl ?_
  refine fs_Jlet1 (nL := 5) (pj := 24) (I := fun (v2 : Int32) => [(0, .ref a0), (1, .int x1), (2, .int x2)]) (st := fun (v2 : Int32) => [.int v2, .ref a0]) (fun v2 ls hl => ?_) (fun j24 hj24 => ?_)
  · refine fs_Jput S hG fs_in12 rfl 0 (Nat.le_of_ble_eq_true rfl) tw_5_192 (fun _ h9 => h9) fs_Y12 fs_ty12 fs_nm12 (Or.inl rfl) rfl rfl d_Rf_count_24 ?_
    refine fs_lift (fun _ _ _ _ => lv_aload_n hx hb d_Rf_count_27 rfl (lv_at hl 0 rfl)) ?_
    refine fs_Jgi S hG fs_in12 rfl 0 (Nat.le_of_ble_eq_true rfl) tw_5_192 (fun _ h9 => h9) d_Rf_count_28 (fun v3 => ?_)
    refine fs_if (fun _ _ _ _ => lv_if_eq hx hb d_Rf_count_31 rfl) ?_ ?_
    · refine fs_lift (fun _ _ _ _ => lv_iconst (v := 0) hx hb d_Rf_count_36 (by decide)) ?_
      refine fs_liftL (fun _ _ _ _ => lv_istore_n (lv' := [(3, .int 0), (0, .ref a0), (1, .int x1), (2, .int x2)]) hx hb d_Rf_count_37 rfl hl (Nat.le_of_ble_eq_true rfl) rfl) (fun ls hl => ?_)
      refine fs_lift (fun _ _ _ _ => lv_iconst (v := 0) hx hb d_Rf_count_38 (by decide)) ?_
      refine fs_liftL (fun _ _ _ _ => lv_istore (lv' := [(4, .int 0), (3, .int 0), (0, .ref a0), (1, .int x1), (2, .int x2)]) hx hb d_Rf_count_39 hl (Nat.le_of_ble_eq_true rfl) rfl) (fun ls hl => ?_)
      refine fs_Jlp2 (nL := 5) (pc := 41) (rest := []) (I := fun (v4 : Int32) (v5 : Int32) => [(0, .ref a0), (1, .int x1), (2, .int x2), (3, .int v4), (4, .int v5)]) (fun k41 hk41 v4 v5 ls hl => ?_) _ _ _ _ (lv_sub hl [2, 3, 4, 1, 0] rfl)
      refine fs_lift (fun _ _ _ _ => lv_iload hx hb d_Rf_count_41 (lv_at hl 4 rfl)) ?_
      refine fs_lift (fun _ _ _ _ => lv_aload_n hx hb d_Rf_count_43 rfl (lv_at hl 0 rfl)) ?_
      refine fs_Jgi S hG fs_in12 rfl 33 (Nat.le_of_ble_eq_true rfl) tw_5_225 (fun _ h9 => h9) d_Rf_count_44 (fun v6 => ?_)
      refine fs_if (fun _ _ _ _ => lv_icmp_ge hx hb d_Rf_count_47 rfl) ?_ ?_
      · refine fs_lift (fun _ _ _ _ => lv_iload_n hx hb d_Rf_count_78 rfl (lv_at hl 2 rfl)) ?_
        refine fs_sw (fun q9 => ?_) (fun q100 => ?_)
        · refine fs_lift (fun _ _ _ _ => lv_tableIn (off := 49) (tgt := 128) hx hb d_Rf_count_79 (by rw [q9]; decide) (by rw [q9]; decide) (by rw [q9]; rfl) rfl) ?_
          refine fs_lift (fun _ _ _ _ => lv_aload_n hx hb d_Rf_count_128 rfl (lv_at hl 0 rfl)) ?_
          refine fs_Jgr S hG fs_in12 rfl 1 (Nat.le_of_ble_eq_true rfl) tw_5_193 (fun _ h9 => h9) d_Rf_count_129 (fun r7 => ?_)
          refine fs_lift (fun _ _ _ _ => lv_iload_n hx hb d_Rf_count_132 rfl (lv_at hl 1 rfl)) ?_
          refine fs_Jai S hG d_Rf_count_133 (fun v8 => ?_)
          exact fs_Jiret S hr hk rfl d_Rf_count_134
        refine fs_sw (fun q9 => ?_) (fun q101 => ?_)
        · refine fs_lift (fun _ _ _ _ => lv_tableIn (off := 56) (tgt := 135) hx hb d_Rf_count_79 (by rw [q9]; decide) (by rw [q9]; decide) (by rw [q9]; rfl) rfl) ?_
          refine fs_lift (fun _ _ _ _ => lv_aload_n hx hb d_Rf_count_135 rfl (lv_at hl 0 rfl)) ?_
          refine fs_Jgr S hG fs_in12 rfl 2 (Nat.le_of_ble_eq_true rfl) tw_5_194 (fun _ h9 => h9) d_Rf_count_136 (fun r9 => ?_)
          refine fs_lift (fun _ _ _ _ => lv_iload_n hx hb d_Rf_count_139 rfl (lv_at hl 1 rfl)) ?_
          refine fs_Jai S hG d_Rf_count_140 (fun v10 => ?_)
          exact fs_Jiret S hr hk rfl d_Rf_count_141
        refine fs_sw (fun q9 => ?_) (fun q102 => ?_)
        · refine fs_lift (fun _ _ _ _ => lv_tableIn (off := 63) (tgt := 142) hx hb d_Rf_count_79 (by rw [q9]; decide) (by rw [q9]; decide) (by rw [q9]; rfl) rfl) ?_
          refine fs_lift (fun _ _ _ _ => lv_aload_n hx hb d_Rf_count_142 rfl (lv_at hl 0 rfl)) ?_
          refine fs_Jgr S hG fs_in12 rfl 7 (Nat.le_of_ble_eq_true rfl) tw_5_199 (fun _ h9 => h9) d_Rf_count_143 (fun r11 => ?_)
          refine fs_lift (fun _ _ _ _ => lv_iload_n hx hb d_Rf_count_146 rfl (lv_at hl 1 rfl)) ?_
          refine fs_Jai S hG d_Rf_count_147 (fun v12 => ?_)
          exact fs_Jiret S hr hk rfl d_Rf_count_148
        refine fs_sw (fun q9 => ?_) (fun q103 => ?_)
        · refine fs_lift (fun _ _ _ _ => lv_tableIn (off := 70) (tgt := 149) hx hb d_Rf_count_79 (by rw [q9]; decide) (by rw [q9]; decide) (by rw [q9]; rfl) rfl) ?_
          refine fs_lift (fun _ _ _ _ => lv_aload_n hx hb d_Rf_count_149 rfl (lv_at hl 0 rfl)) ?_
          refine fs_Jgr S hG fs_in12 rfl 13 (Nat.le_of_ble_eq_true rfl) tw_5_205 (fun _ h9 => h9) d_Rf_count_150 (fun r13 => ?_)
          refine fs_lift (fun _ _ _ _ => lv_iload_n hx hb d_Rf_count_153 rfl (lv_at hl 1 rfl)) ?_
          refine fs_Jai S hG d_Rf_count_154 (fun v14 => ?_)
          exact fs_Jiret S hr hk rfl d_Rf_count_155
        refine fs_sw (fun q9 => ?_) (fun q104 => ?_)
        · refine fs_lift (fun _ _ _ _ => lv_tableIn (off := 77) (tgt := 156) hx hb d_Rf_count_79 (by rw [q9]; decide) (by rw [q9]; decide) (by rw [q9]; rfl) rfl) ?_
          refine fs_lift (fun _ _ _ _ => lv_aload_n hx hb d_Rf_count_156 rfl (lv_at hl 0 rfl)) ?_
          refine fs_Jgr S hG fs_in12 rfl 5 (Nat.le_of_ble_eq_true rfl) tw_5_197 (fun _ h9 => h9) d_Rf_count_157 (fun r15 => ?_)
          refine fs_lift (fun _ _ _ _ => lv_iload_n hx hb d_Rf_count_160 rfl (lv_at hl 1 rfl)) ?_
          refine fs_Jai S hG d_Rf_count_161 (fun v16 => ?_)
          exact fs_Jiret S hr hk rfl d_Rf_count_162
        refine fs_sw (fun q9 => ?_) (fun q105 => ?_)
        · refine fs_lift (fun _ _ _ _ => lv_tableIn (off := 84) (tgt := 163) hx hb d_Rf_count_79 (by rw [q9]; decide) (by rw [q9]; decide) (by rw [q9]; rfl) rfl) ?_
          refine fs_lift (fun _ _ _ _ => lv_aload_n hx hb d_Rf_count_163 rfl (lv_at hl 0 rfl)) ?_
          refine fs_lift (fun _ _ _ _ => lv_iload_n hx hb d_Rf_count_164 rfl (lv_at hl 1 rfl)) ?_
          refine fs_JV S hG hR rfl [.int x1] (enc := fun r => some (.int r)) (fun zr zs zt zh => m_Rf_lostOf X l a0 x1 zh) tw_7_75 tw_7_77 tp_3_11 tw_7_78 tw_1_11 q_Rf_lostOf ⟨(Nat.le_of_ble_eq_true rfl), (Nat.le_of_ble_eq_true rfl)⟩ hl.1 rfl (Nat.le_of_ble_eq_true rfl) d_Rf_count_165 (fun v17 => ?_)
          refine fs_Jeq (g2 := F0 m 168 ls [.int v17]) rfl ?_
          exact fs_Jiret S hr hk rfl d_Rf_count_168
        refine fs_sw (fun q9 => ?_) (fun q106 => ?_)
        · refine fs_lift (fun _ _ _ _ => lv_tableIn (off := 90) (tgt := 169) hx hb d_Rf_count_79 (by rw [q9]; decide) (by rw [q9]; decide) (by rw [q9]; rfl) rfl) ?_
          refine fs_lift (fun _ _ _ _ => lv_iload_n hx hb d_Rf_count_169 rfl (lv_at hl 3 rfl)) ?_
          exact fs_Jiret S hr hk rfl d_Rf_count_170
        refine fs_sw (fun q9 => ?_) (fun q107 => ?_)
        · refine fs_lift (fun _ _ _ _ => lv_tableIn (off := 92) (tgt := 171) hx hb d_Rf_count_79 (by rw [q9]; decide) (by rw [q9]; decide) (by rw [q9]; rfl) rfl) ?_
          refine fs_lift (fun _ _ _ _ => lv_aload_n hx hb d_Rf_count_171 rfl (lv_at hl 0 rfl)) ?_
          refine fs_Jgr S hG fs_in12 rfl 40 (Nat.le_of_ble_eq_true rfl) tw_5_232 (fun _ h9 => h9) d_Rf_count_172 (fun r18 => ?_)
          refine fs_lift (fun _ _ _ _ => lv_iload_n hx hb d_Rf_count_175 rfl (lv_at hl 1 rfl)) ?_
          refine fs_Jai S hG d_Rf_count_176 (fun v19 => ?_)
          exact fs_Jiret S hr hk rfl d_Rf_count_177
        refine fs_sw (fun q9 => ?_) (fun q108 => ?_)
        · refine fs_lift (fun _ _ _ _ => lv_tableIn (off := 99) (tgt := 178) hx hb d_Rf_count_79 (by rw [q9]; decide) (by rw [q9]; decide) (by rw [q9]; rfl) rfl) ?_
          refine fs_lift (fun _ _ _ _ => lv_aload_n hx hb d_Rf_count_178 rfl (lv_at hl 0 rfl)) ?_
          refine fs_Jgr S hG fs_in12 rfl 41 (Nat.le_of_ble_eq_true rfl) tw_5_233 (fun _ h9 => h9) d_Rf_count_179 (fun r20 => ?_)
          refine fs_lift (fun _ _ _ _ => lv_iload_n hx hb d_Rf_count_182 rfl (lv_at hl 1 rfl)) ?_
          refine fs_Jai S hG d_Rf_count_183 (fun v21 => ?_)
          exact fs_Jiret S hr hk rfl d_Rf_count_184
        refine fs_lift (fun _ _ _ _ => lv_tableOut (tgt := 185) hx hb d_Rf_count_79 (fs_tout 8 (fun k hk => match k, hk with | 0, _ => q100 | 1, _ => q101 | 2, _ => q102 | 3, _ => q103 | 4, _ => q104 | 5, _ => q105 | 6, _ => q106 | 7, _ => q107 | 8, _ => q108 | n + 9, h => absurd h (by omega)) (by decide)) rfl) ?_
        refine fs_lift (fun _ _ _ _ => lv_aload_n hx hb d_Rf_count_185 rfl (lv_at hl 0 rfl)) ?_
        refine fs_Jgr S hG fs_in12 rfl 42 (Nat.le_of_ble_eq_true rfl) tw_5_234 (fun _ h9 => h9) d_Rf_count_186 (fun r22 => ?_)
        refine fs_lift (fun _ _ _ _ => lv_iload_n hx hb d_Rf_count_189 rfl (lv_at hl 1 rfl)) ?_
        refine fs_Jai S hG d_Rf_count_190 (fun v23 => ?_)
        exact fs_Jiret S hr hk rfl d_Rf_count_191
      · refine fs_lift (fun _ _ _ _ => lv_iload_n hx hb d_Rf_count_50 rfl (lv_at hl 3 rfl)) ?_
        refine fs_lift (fun _ _ _ _ => lv_aload_n hx hb d_Rf_count_51 rfl (lv_at hl 0 rfl)) ?_
        refine fs_Jgr S hG fs_in12 rfl 35 (Nat.le_of_ble_eq_true rfl) tw_5_227 (fun _ h9 => h9) d_Rf_count_52 (fun r24 => ?_)
        refine fs_lift (fun _ _ _ _ => lv_bipush (v := 64) hx hb d_Rf_count_55 (by decide)) ?_
        refine fs_lift (fun _ _ _ _ => lv_iload hx hb d_Rf_count_57 (lv_at hl 4 rfl)) ?_
        refine fs_lift (fun _ _ _ _ => lv_imul hx hb d_Rf_count_59) ?_
        refine fs_Jai S hG d_Rf_count_60 (fun v25 => ?_)
        refine fs_lift (fun _ _ _ _ => lv_iload_n hx hb d_Rf_count_61 rfl (lv_at hl 1 rfl)) ?_
        refine fs_Jlet1 (nL := 5) (pj := 70) (I := fun (v26 : Int32) => [(0, .ref a0), (1, .int x1), (2, .int x2), (4, .int v5)]) (st := fun (v26 : Int32) => [.int v26, .int v4]) (fun v26 ls hl => ?_) (fun j70 hj70 => ?_)
        · refine fs_lift (fun _ _ _ _ => lv_iadd hx hb d_Rf_count_70) ?_
          refine fs_Jni (fun v27 => ?_)
          refine fs_liftL (fun _ _ _ _ => lv_istore_n (lv' := [(3, .int v27), (0, .ref a0), (1, .int x1), (2, .int x2), (4, .int v5)]) hx hb d_Rf_count_71 rfl hl (Nat.le_of_ble_eq_true rfl) rfl) (fun ls hl => ?_)
          refine fs_Jnm (fun v28 hv9 => ?_)
          refine fs_liftL (fun _ _ _ _ => lv_iinc (k := 4) (v := v28) (lv' := [(4, .int v28), (3, .int v27), (0, .ref a0), (1, .int x1), (2, .int x2)]) hx hb d_Rf_count_72 hl rfl (by rw [hv9]; rfl) (Nat.le_of_ble_eq_true rfl) rfl) (fun ls hl => ?_)
          refine fs_lift (fun _ _ _ _ => lv_goto hx hb d_Rf_count_75 rfl) ?_
          exact hk41 v27 v28 ls (lv_sub hl [2, 3, 4, 1, 0] rfl)
        · refine fs_ifn (fun _ _ _ _ => lv_icmp_ne hx hb d_Rf_count_62 rfl) ?_ ?_
          · refine fs_lift (fun _ _ _ _ => lv_iconst (v := 1) hx hb d_Rf_count_65 (by decide)) ?_
            refine fs_lift (fun _ _ _ _ => lv_goto hx hb d_Rf_count_66 rfl) ?_
            exact hj70 1 ls (lv_sub hl [0, 1, 2, 4] rfl)
          · refine fs_lift (fun _ _ _ _ => lv_iconst (v := 0) hx hb d_Rf_count_69 (by decide)) ?_
            exact hj70 0 ls (lv_sub hl [0, 1, 2, 4] rfl)
    · refine fs_lift (fun _ _ _ _ => lv_iconst (v := 0) hx hb d_Rf_count_34 (by decide)) ?_
      exact fs_Jiret S hr hk rfl d_Rf_count_35
  · refine fs_Jlet1 (nL := 5) (pj := 19) (I := fun (_ : Unit) => [(0, .ref a0), (1, .int x1), (2, .int x2)]) (st := fun (_ : Unit) => [.ref a0]) (fun _ ls hl => ?_) (fun j19 hj19 => ?_)
    · refine fs_lift (fun _ _ _ _ => lv_iconst (v := 1) hx hb d_Rf_count_19 (by decide)) ?_
      refine fs_lift (fun _ _ _ _ => lv_goto hx hb d_Rf_count_20 rfl) ?_
      exact hj24 1 ls (lv_sub hl [0, 1, 2] rfl)
    · refine fs_ifn (fun _ _ _ _ => lv_if_ne hx hb d_Rf_count_6 rfl) ?_ ?_
      · refine fs_lift (fun _ _ _ _ => lv_iload_n hx hb d_Rf_count_9 rfl (lv_at hl 2 rfl)) ?_
        refine fs_if (fun _ _ _ _ => lv_if_lt hx hb d_Rf_count_10 rfl) ?_ ?_
        · exact hj19 () ls (lv_sub hl [0, 1, 2] rfl)
        · refine fs_lift (fun _ _ _ _ => lv_iload_n hx hb d_Rf_count_13 rfl (lv_at hl 2 rfl)) ?_
          refine fs_lift (fun _ _ _ _ => lv_bipush (v := 9) hx hb d_Rf_count_14 (by decide)) ?_
          refine fs_if (fun _ _ _ _ => lv_icmp_le hx hb d_Rf_count_16 rfl) ?_ ?_
          · refine fs_lift (fun _ _ _ _ => lv_iconst (v := 0) hx hb d_Rf_count_23 (by decide)) ?_
            exact hj24 0 ls (lv_sub hl [0, 1, 2] rfl)
          · exact hj19 () ls (lv_sub hl [0, 1, 2] rfl)
      · exact hj19 () ls (lv_sub hl [0, 1, 2] rfl)

theorem d_Lw_law_0 : decode code 0 = .ok (.new 8, 3) := by decide +kernel
theorem d_Lw_law_3 : decode code 3 = .ok (.dup, 1) := by decide +kernel
theorem d_Lw_law_4 : decode code 4 = .ok (.invokespecial 83, 3) := by decide +kernel
theorem d_Lw_law_7 : decode code 7 = .ok (.astore_n 1, 1) := by decide +kernel
theorem d_Lw_law_8 : decode code 8 = .ok (.new 84, 3) := by decide +kernel
theorem d_Lw_law_11 : decode code 11 = .ok (.dup, 1) := by decide +kernel
theorem d_Lw_law_12 : decode code 12 = .ok (.invokespecial 86, 3) := by decide +kernel
theorem d_Lw_law_15 : decode code 15 = .ok (.astore_n 2, 1) := by decide +kernel
theorem d_Lw_law_16 : decode code 16 = .ok (.iconst 1, 1) := by decide +kernel
theorem d_Lw_law_17 : decode code 17 = .ok (.newarray .long, 2) := by decide +kernel
theorem d_Lw_law_19 : decode code 19 = .ok (.astore_n 3, 1) := by decide +kernel
theorem d_Lw_law_20 : decode code 20 = .ok (.iconst 0, 1) := by decide +kernel
theorem d_Lw_law_21 : decode code 21 = .ok (.istore 4, 2) := by decide +kernel
theorem d_Lw_law_23 : decode code 23 = .ok (.iload 4, 2) := by decide +kernel
theorem d_Lw_law_25 : decode code 25 = .ok (.aload_n 0, 1) := by decide +kernel
theorem d_Lw_law_26 : decode code 26 = .ok (.arraylength, 1) := by decide +kernel
theorem d_Lw_law_27 : decode code 27 = .ok (.bipush 7, 2) := by decide +kernel
theorem d_Lw_law_29 : decode code 29 = .ok (.isub, 1) := by decide +kernel
theorem d_Lw_law_30 : decode code 30 = .ok (.if_icmp .gt 1489, 3) := by decide +kernel
theorem d_Lw_law_33 : decode code 33 = .ok (.aload_n 0, 1) := by decide +kernel
theorem d_Lw_law_34 : decode code 34 = .ok (.iload 4, 2) := by decide +kernel
theorem d_Lw_law_36 : decode code 36 = .ok (.iaload, 1) := by decide +kernel
theorem d_Lw_law_37 : decode code 37 = .ok (.bipush 31, 2) := by decide +kernel
theorem d_Lw_law_39 : decode code 39 = .ok (.iand, 1) := by decide +kernel
theorem d_Lw_law_40 : decode code 40 = .ok (.tableswitch 1473 0 20 #[100, 241, 309, 365, 413, 493, 585, 653, 701, 757, 825, 881, 937, 962, 1030, 1090, 1146, 1159, 1226, 1349, 1405], 100) := by decide +kernel
theorem d_Lw_law_140 : decode code 140 = .ok (.aload_n 1, 1) := by decide +kernel
theorem d_Lw_law_141 : decode code 141 = .ok (.aload_n 0, 1) := by decide +kernel
theorem d_Lw_law_142 : decode code 142 = .ok (.iload 4, 2) := by decide +kernel
theorem d_Lw_law_144 : decode code 144 = .ok (.iconst 1, 1) := by decide +kernel
theorem d_Lw_law_145 : decode code 145 = .ok (.iadd, 1) := by decide +kernel
theorem d_Lw_law_146 : decode code 146 = .ok (.iaload, 1) := by decide +kernel
theorem d_Lw_law_147 : decode code 147 = .ok (.aload_n 0, 1) := by decide +kernel
theorem d_Lw_law_148 : decode code 148 = .ok (.iload 4, 2) := by decide +kernel
theorem d_Lw_law_150 : decode code 150 = .ok (.iconst 2, 1) := by decide +kernel
theorem d_Lw_law_151 : decode code 151 = .ok (.iadd, 1) := by decide +kernel
theorem d_Lw_law_152 : decode code 152 = .ok (.iaload, 1) := by decide +kernel
theorem d_Lw_law_153 : decode code 153 = .ok (.aload_n 0, 1) := by decide +kernel
theorem d_Lw_law_154 : decode code 154 = .ok (.iload 4, 2) := by decide +kernel
theorem d_Lw_law_156 : decode code 156 = .ok (.iconst 3, 1) := by decide +kernel
theorem d_Lw_law_157 : decode code 157 = .ok (.iadd, 1) := by decide +kernel
theorem d_Lw_law_158 : decode code 158 = .ok (.iaload, 1) := by decide +kernel
theorem d_Lw_law_159 : decode code 159 = .ok (.aload_n 0, 1) := by decide +kernel
theorem d_Lw_law_160 : decode code 160 = .ok (.iload 4, 2) := by decide +kernel
theorem d_Lw_law_162 : decode code 162 = .ok (.iconst 4, 1) := by decide +kernel
theorem d_Lw_law_163 : decode code 163 = .ok (.iadd, 1) := by decide +kernel
theorem d_Lw_law_164 : decode code 164 = .ok (.iaload, 1) := by decide +kernel
theorem d_Lw_law_165 : decode code 165 = .ok (.aload_n 0, 1) := by decide +kernel
theorem d_Lw_law_166 : decode code 166 = .ok (.iload 4, 2) := by decide +kernel
theorem d_Lw_law_168 : decode code 168 = .ok (.iconst 5, 1) := by decide +kernel
theorem d_Lw_law_169 : decode code 169 = .ok (.iadd, 1) := by decide +kernel
theorem d_Lw_law_170 : decode code 170 = .ok (.iaload, 1) := by decide +kernel
theorem d_Lw_law_171 : decode code 171 = .ok (.aload_n 0, 1) := by decide +kernel
theorem d_Lw_law_172 : decode code 172 = .ok (.iload 4, 2) := by decide +kernel
theorem d_Lw_law_174 : decode code 174 = .ok (.bipush 6, 2) := by decide +kernel
theorem d_Lw_law_176 : decode code 176 = .ok (.iadd, 1) := by decide +kernel
theorem d_Lw_law_177 : decode code 177 = .ok (.iaload, 1) := by decide +kernel
theorem d_Lw_law_178 : decode code 178 = .ok (.ifCond .eq 7, 3) := by decide +kernel
theorem d_Lw_law_181 : decode code 181 = .ok (.iconst 1, 1) := by decide +kernel
theorem d_Lw_law_182 : decode code 182 = .ok (.goto 4, 3) := by decide +kernel
theorem d_Lw_law_185 : decode code 185 = .ok (.iconst 0, 1) := by decide +kernel
theorem d_Lw_law_186 : decode code 186 = .ok (.aload_n 3, 1) := by decide +kernel
theorem d_Lw_law_187 : decode code 187 = .ok (.invokestatic 87, 3) := by decide +kernel
theorem d_Lw_law_190 : decode code 190 = .ok (.istore 5, 2) := by decide +kernel
theorem d_Lw_law_192 : decode code 192 = .ok (.aload_n 2, 1) := by decide +kernel
theorem d_Lw_law_193 : decode code 193 = .ok (.aload_n 0, 1) := by decide +kernel
theorem d_Lw_law_194 : decode code 194 = .ok (.iload 4, 2) := by decide +kernel
theorem d_Lw_law_196 : decode code 196 = .ok (.iconst 1, 1) := by decide +kernel
theorem d_Lw_law_197 : decode code 197 = .ok (.iadd, 1) := by decide +kernel
theorem d_Lw_law_198 : decode code 198 = .ok (.iaload, 1) := by decide +kernel
theorem d_Lw_law_199 : decode code 199 = .ok (.aload_n 0, 1) := by decide +kernel
theorem d_Lw_law_200 : decode code 200 = .ok (.iload 4, 2) := by decide +kernel
theorem d_Lw_law_202 : decode code 202 = .ok (.iconst 2, 1) := by decide +kernel
theorem d_Lw_law_203 : decode code 203 = .ok (.iadd, 1) := by decide +kernel
theorem d_Lw_law_204 : decode code 204 = .ok (.iaload, 1) := by decide +kernel
theorem d_Lw_law_205 : decode code 205 = .ok (.aload_n 0, 1) := by decide +kernel
theorem d_Lw_law_206 : decode code 206 = .ok (.iload 4, 2) := by decide +kernel
theorem d_Lw_law_208 : decode code 208 = .ok (.iconst 3, 1) := by decide +kernel
theorem d_Lw_law_209 : decode code 209 = .ok (.iadd, 1) := by decide +kernel
theorem d_Lw_law_210 : decode code 210 = .ok (.iaload, 1) := by decide +kernel
theorem d_Lw_law_211 : decode code 211 = .ok (.aload_n 0, 1) := by decide +kernel
theorem d_Lw_law_212 : decode code 212 = .ok (.iload 4, 2) := by decide +kernel
theorem d_Lw_law_214 : decode code 214 = .ok (.iconst 4, 1) := by decide +kernel
theorem d_Lw_law_215 : decode code 215 = .ok (.iadd, 1) := by decide +kernel
theorem d_Lw_law_216 : decode code 216 = .ok (.iaload, 1) := by decide +kernel
theorem d_Lw_law_217 : decode code 217 = .ok (.aload_n 0, 1) := by decide +kernel
theorem d_Lw_law_218 : decode code 218 = .ok (.iload 4, 2) := by decide +kernel
theorem d_Lw_law_220 : decode code 220 = .ok (.iconst 5, 1) := by decide +kernel
theorem d_Lw_law_221 : decode code 221 = .ok (.iadd, 1) := by decide +kernel
theorem d_Lw_law_222 : decode code 222 = .ok (.iaload, 1) := by decide +kernel
theorem d_Lw_law_223 : decode code 223 = .ok (.aload_n 0, 1) := by decide +kernel
theorem d_Lw_law_224 : decode code 224 = .ok (.iload 4, 2) := by decide +kernel
theorem d_Lw_law_226 : decode code 226 = .ok (.bipush 6, 2) := by decide +kernel
theorem d_Lw_law_228 : decode code 228 = .ok (.iadd, 1) := by decide +kernel
theorem d_Lw_law_229 : decode code 229 = .ok (.iaload, 1) := by decide +kernel
theorem d_Lw_law_230 : decode code 230 = .ok (.ifCond .eq 7, 3) := by decide +kernel
theorem d_Lw_law_233 : decode code 233 = .ok (.iconst 1, 1) := by decide +kernel
theorem d_Lw_law_234 : decode code 234 = .ok (.goto 4, 3) := by decide +kernel
theorem d_Lw_law_237 : decode code 237 = .ok (.iconst 0, 1) := by decide +kernel
theorem d_Lw_law_238 : decode code 238 = .ok (.invokevirtual 92, 3) := by decide +kernel
theorem d_Lw_law_241 : decode code 241 = .ok (.istore 6, 2) := by decide +kernel
theorem d_Lw_law_243 : decode code 243 = .ok (.aload_n 2, 1) := by decide +kernel
theorem d_Lw_law_244 : decode code 244 = .ok (.invokevirtual 93, 3) := by decide +kernel
theorem d_Lw_law_247 : decode code 247 = .ok (.iload 5, 2) := by decide +kernel
theorem d_Lw_law_249 : decode code 249 = .ok (.if_icmp .eq 5, 3) := by decide +kernel
theorem d_Lw_law_252 : decode code 252 = .ok (.iconst 0, 1) := by decide +kernel
theorem d_Lw_law_253 : decode code 253 = .ok (.ireturn, 1) := by decide +kernel
theorem d_Lw_law_254 : decode code 254 = .ok (.iload 5, 2) := by decide +kernel
theorem d_Lw_law_256 : decode code 256 = .ok (.ifCond .ne 22, 3) := by decide +kernel
theorem d_Lw_law_259 : decode code 259 = .ok (.aload_n 3, 1) := by decide +kernel
theorem d_Lw_law_260 : decode code 260 = .ok (.iconst 0, 1) := by decide +kernel
theorem d_Lw_law_261 : decode code 261 = .ok (.laload, 1) := by decide +kernel
theorem d_Lw_law_262 : decode code 262 = .ok (.iload 6, 2) := by decide +kernel
theorem d_Lw_law_264 : decode code 264 = .ok (.ifCond .eq 7, 3) := by decide +kernel
theorem d_Lw_law_267 : decode code 267 = .ok (.lconst 1, 1) := by decide +kernel
theorem d_Lw_law_268 : decode code 268 = .ok (.goto 4, 3) := by decide +kernel
theorem d_Lw_law_271 : decode code 271 = .ok (.lconst 0, 1) := by decide +kernel
theorem d_Lw_law_272 : decode code 272 = .ok (.lcmp, 1) := by decide +kernel
theorem d_Lw_law_273 : decode code 273 = .ok (.ifCond .eq 5, 3) := by decide +kernel
theorem d_Lw_law_276 : decode code 276 = .ok (.iconst 0, 1) := by decide +kernel
theorem d_Lw_law_277 : decode code 277 = .ok (.ireturn, 1) := by decide +kernel
theorem d_Lw_law_278 : decode code 278 = .ok (.goto 1235, 3) := by decide +kernel
theorem d_Lw_law_281 : decode code 281 = .ok (.aload_n 1, 1) := by decide +kernel
theorem d_Lw_law_282 : decode code 282 = .ok (.aload_n 0, 1) := by decide +kernel
theorem d_Lw_law_283 : decode code 283 = .ok (.iload 4, 2) := by decide +kernel
theorem d_Lw_law_285 : decode code 285 = .ok (.iconst 1, 1) := by decide +kernel
theorem d_Lw_law_286 : decode code 286 = .ok (.iadd, 1) := by decide +kernel
theorem d_Lw_law_287 : decode code 287 = .ok (.iaload, 1) := by decide +kernel
theorem d_Lw_law_288 : decode code 288 = .ok (.aload_n 0, 1) := by decide +kernel
theorem d_Lw_law_289 : decode code 289 = .ok (.iload 4, 2) := by decide +kernel
theorem d_Lw_law_291 : decode code 291 = .ok (.iconst 2, 1) := by decide +kernel
theorem d_Lw_law_292 : decode code 292 = .ok (.iadd, 1) := by decide +kernel
theorem d_Lw_law_293 : decode code 293 = .ok (.iaload, 1) := by decide +kernel
theorem d_Lw_law_294 : decode code 294 = .ok (.aload_n 3, 1) := by decide +kernel
theorem d_Lw_law_295 : decode code 295 = .ok (.invokestatic 97, 3) := by decide +kernel
theorem d_Lw_law_298 : decode code 298 = .ok (.istore 5, 2) := by decide +kernel
theorem d_Lw_law_300 : decode code 300 = .ok (.aload_n 2, 1) := by decide +kernel
theorem d_Lw_law_301 : decode code 301 = .ok (.aload_n 0, 1) := by decide +kernel
theorem d_Lw_law_302 : decode code 302 = .ok (.iload 4, 2) := by decide +kernel
theorem d_Lw_law_304 : decode code 304 = .ok (.iconst 1, 1) := by decide +kernel
theorem d_Lw_law_305 : decode code 305 = .ok (.iadd, 1) := by decide +kernel
theorem d_Lw_law_306 : decode code 306 = .ok (.iaload, 1) := by decide +kernel
theorem d_Lw_law_307 : decode code 307 = .ok (.aload_n 0, 1) := by decide +kernel
theorem d_Lw_law_308 : decode code 308 = .ok (.iload 4, 2) := by decide +kernel
theorem d_Lw_law_310 : decode code 310 = .ok (.iconst 2, 1) := by decide +kernel
theorem d_Lw_law_311 : decode code 311 = .ok (.iadd, 1) := by decide +kernel
theorem d_Lw_law_312 : decode code 312 = .ok (.iaload, 1) := by decide +kernel
theorem d_Lw_law_313 : decode code 313 = .ok (.invokevirtual 100, 3) := by decide +kernel
theorem d_Lw_law_316 : decode code 316 = .ok (.istore 6, 2) := by decide +kernel
theorem d_Lw_law_318 : decode code 318 = .ok (.aload_n 2, 1) := by decide +kernel
theorem d_Lw_law_319 : decode code 319 = .ok (.invokevirtual 93, 3) := by decide +kernel
theorem d_Lw_law_322 : decode code 322 = .ok (.iload 5, 2) := by decide +kernel
theorem d_Lw_law_324 : decode code 324 = .ok (.if_icmp .eq 5, 3) := by decide +kernel
theorem d_Lw_law_327 : decode code 327 = .ok (.iconst 0, 1) := by decide +kernel
theorem d_Lw_law_328 : decode code 328 = .ok (.ireturn, 1) := by decide +kernel
theorem d_Lw_law_329 : decode code 329 = .ok (.iload 5, 2) := by decide +kernel
theorem d_Lw_law_331 : decode code 331 = .ok (.ifCond .ne 15, 3) := by decide +kernel
theorem d_Lw_law_334 : decode code 334 = .ok (.aload_n 3, 1) := by decide +kernel
theorem d_Lw_law_335 : decode code 335 = .ok (.iconst 0, 1) := by decide +kernel
theorem d_Lw_law_336 : decode code 336 = .ok (.laload, 1) := by decide +kernel
theorem d_Lw_law_337 : decode code 337 = .ok (.iload 6, 2) := by decide +kernel
theorem d_Lw_law_339 : decode code 339 = .ok (.i2l, 1) := by decide +kernel
theorem d_Lw_law_340 : decode code 340 = .ok (.lcmp, 1) := by decide +kernel
theorem d_Lw_law_341 : decode code 341 = .ok (.ifCond .eq 5, 3) := by decide +kernel
theorem d_Lw_law_344 : decode code 344 = .ok (.iconst 0, 1) := by decide +kernel
theorem d_Lw_law_345 : decode code 345 = .ok (.ireturn, 1) := by decide +kernel
theorem d_Lw_law_346 : decode code 346 = .ok (.goto 1167, 3) := by decide +kernel
theorem d_Lw_law_349 : decode code 349 = .ok (.aload_n 1, 1) := by decide +kernel
theorem d_Lw_law_350 : decode code 350 = .ok (.aload_n 0, 1) := by decide +kernel
theorem d_Lw_law_351 : decode code 351 = .ok (.iload 4, 2) := by decide +kernel
theorem d_Lw_law_353 : decode code 353 = .ok (.iconst 1, 1) := by decide +kernel
theorem d_Lw_law_354 : decode code 354 = .ok (.iadd, 1) := by decide +kernel
theorem d_Lw_law_355 : decode code 355 = .ok (.iaload, 1) := by decide +kernel
theorem d_Lw_law_356 : decode code 356 = .ok (.aload_n 3, 1) := by decide +kernel
theorem d_Lw_law_357 : decode code 357 = .ok (.invokestatic 101, 3) := by decide +kernel
theorem d_Lw_law_360 : decode code 360 = .ok (.istore 5, 2) := by decide +kernel
theorem d_Lw_law_362 : decode code 362 = .ok (.aload_n 2, 1) := by decide +kernel
theorem d_Lw_law_363 : decode code 363 = .ok (.aload_n 0, 1) := by decide +kernel
theorem d_Lw_law_364 : decode code 364 = .ok (.iload 4, 2) := by decide +kernel
theorem d_Lw_law_366 : decode code 366 = .ok (.iconst 1, 1) := by decide +kernel
theorem d_Lw_law_367 : decode code 367 = .ok (.iadd, 1) := by decide +kernel
theorem d_Lw_law_368 : decode code 368 = .ok (.iaload, 1) := by decide +kernel
theorem d_Lw_law_369 : decode code 369 = .ok (.invokevirtual 104, 3) := by decide +kernel
theorem d_Lw_law_372 : decode code 372 = .ok (.istore 6, 2) := by decide +kernel
theorem d_Lw_law_374 : decode code 374 = .ok (.aload_n 2, 1) := by decide +kernel
theorem d_Lw_law_375 : decode code 375 = .ok (.invokevirtual 93, 3) := by decide +kernel
theorem d_Lw_law_378 : decode code 378 = .ok (.iload 5, 2) := by decide +kernel
theorem d_Lw_law_380 : decode code 380 = .ok (.if_icmp .eq 5, 3) := by decide +kernel
theorem d_Lw_law_383 : decode code 383 = .ok (.iconst 0, 1) := by decide +kernel
theorem d_Lw_law_384 : decode code 384 = .ok (.ireturn, 1) := by decide +kernel
theorem d_Lw_law_385 : decode code 385 = .ok (.iload 5, 2) := by decide +kernel
theorem d_Lw_law_387 : decode code 387 = .ok (.ifCond .ne 15, 3) := by decide +kernel
theorem d_Lw_law_390 : decode code 390 = .ok (.aload_n 3, 1) := by decide +kernel
theorem d_Lw_law_391 : decode code 391 = .ok (.iconst 0, 1) := by decide +kernel
theorem d_Lw_law_392 : decode code 392 = .ok (.laload, 1) := by decide +kernel
theorem d_Lw_law_393 : decode code 393 = .ok (.iload 6, 2) := by decide +kernel
theorem d_Lw_law_395 : decode code 395 = .ok (.i2l, 1) := by decide +kernel
theorem d_Lw_law_396 : decode code 396 = .ok (.lcmp, 1) := by decide +kernel
theorem d_Lw_law_397 : decode code 397 = .ok (.ifCond .eq 5, 3) := by decide +kernel
theorem d_Lw_law_400 : decode code 400 = .ok (.iconst 0, 1) := by decide +kernel
theorem d_Lw_law_401 : decode code 401 = .ok (.ireturn, 1) := by decide +kernel
theorem d_Lw_law_402 : decode code 402 = .ok (.goto 1111, 3) := by decide +kernel
theorem d_Lw_law_405 : decode code 405 = .ok (.aload_n 1, 1) := by decide +kernel
theorem d_Lw_law_406 : decode code 406 = .ok (.aload_n 0, 1) := by decide +kernel
theorem d_Lw_law_407 : decode code 407 = .ok (.iload 4, 2) := by decide +kernel
theorem d_Lw_law_409 : decode code 409 = .ok (.iconst 1, 1) := by decide +kernel
theorem d_Lw_law_410 : decode code 410 = .ok (.iadd, 1) := by decide +kernel
theorem d_Lw_law_411 : decode code 411 = .ok (.iaload, 1) := by decide +kernel
theorem d_Lw_law_412 : decode code 412 = .ok (.aload_n 0, 1) := by decide +kernel
theorem d_Lw_law_413 : decode code 413 = .ok (.iload 4, 2) := by decide +kernel
theorem d_Lw_law_415 : decode code 415 = .ok (.iconst 2, 1) := by decide +kernel
theorem d_Lw_law_416 : decode code 416 = .ok (.iadd, 1) := by decide +kernel
theorem d_Lw_law_417 : decode code 417 = .ok (.iaload, 1) := by decide +kernel
theorem d_Lw_law_418 : decode code 418 = .ok (.invokestatic 105, 3) := by decide +kernel
theorem d_Lw_law_421 : decode code 421 = .ok (.istore 5, 2) := by decide +kernel
theorem d_Lw_law_423 : decode code 423 = .ok (.aload_n 2, 1) := by decide +kernel
theorem d_Lw_law_424 : decode code 424 = .ok (.aload_n 0, 1) := by decide +kernel
theorem d_Lw_law_425 : decode code 425 = .ok (.iload 4, 2) := by decide +kernel
theorem d_Lw_law_427 : decode code 427 = .ok (.iconst 1, 1) := by decide +kernel
theorem d_Lw_law_428 : decode code 428 = .ok (.iadd, 1) := by decide +kernel
theorem d_Lw_law_429 : decode code 429 = .ok (.iaload, 1) := by decide +kernel
theorem d_Lw_law_430 : decode code 430 = .ok (.aload_n 0, 1) := by decide +kernel
theorem d_Lw_law_431 : decode code 431 = .ok (.iload 4, 2) := by decide +kernel
theorem d_Lw_law_433 : decode code 433 = .ok (.iconst 2, 1) := by decide +kernel
theorem d_Lw_law_434 : decode code 434 = .ok (.iadd, 1) := by decide +kernel
theorem d_Lw_law_435 : decode code 435 = .ok (.iaload, 1) := by decide +kernel
theorem d_Lw_law_436 : decode code 436 = .ok (.invokevirtual 108, 3) := by decide +kernel
theorem d_Lw_law_439 : decode code 439 = .ok (.aload_n 2, 1) := by decide +kernel
theorem d_Lw_law_440 : decode code 440 = .ok (.invokevirtual 93, 3) := by decide +kernel
theorem d_Lw_law_443 : decode code 443 = .ok (.iload 5, 2) := by decide +kernel
theorem d_Lw_law_445 : decode code 445 = .ok (.if_icmp .eq 5, 3) := by decide +kernel
theorem d_Lw_law_448 : decode code 448 = .ok (.iconst 0, 1) := by decide +kernel
theorem d_Lw_law_449 : decode code 449 = .ok (.ireturn, 1) := by decide +kernel
theorem d_Lw_law_450 : decode code 450 = .ok (.goto 1063, 3) := by decide +kernel
theorem d_Lw_law_453 : decode code 453 = .ok (.aload_n 1, 1) := by decide +kernel
theorem d_Lw_law_454 : decode code 454 = .ok (.aload_n 0, 1) := by decide +kernel
theorem d_Lw_law_455 : decode code 455 = .ok (.iload 4, 2) := by decide +kernel
theorem d_Lw_law_457 : decode code 457 = .ok (.iconst 1, 1) := by decide +kernel
theorem d_Lw_law_458 : decode code 458 = .ok (.iadd, 1) := by decide +kernel
theorem d_Lw_law_459 : decode code 459 = .ok (.iaload, 1) := by decide +kernel
theorem d_Lw_law_460 : decode code 460 = .ok (.aload_n 0, 1) := by decide +kernel
theorem d_Lw_law_461 : decode code 461 = .ok (.iload 4, 2) := by decide +kernel
theorem d_Lw_law_463 : decode code 463 = .ok (.iconst 2, 1) := by decide +kernel
theorem d_Lw_law_464 : decode code 464 = .ok (.iadd, 1) := by decide +kernel
theorem d_Lw_law_465 : decode code 465 = .ok (.iaload, 1) := by decide +kernel
theorem d_Lw_law_466 : decode code 466 = .ok (.aload_n 0, 1) := by decide +kernel
theorem d_Lw_law_467 : decode code 467 = .ok (.iload 4, 2) := by decide +kernel
theorem d_Lw_law_469 : decode code 469 = .ok (.iconst 3, 1) := by decide +kernel
theorem d_Lw_law_470 : decode code 470 = .ok (.iadd, 1) := by decide +kernel
theorem d_Lw_law_471 : decode code 471 = .ok (.iaload, 1) := by decide +kernel
theorem d_Lw_law_472 : decode code 472 = .ok (.aload_n 3, 1) := by decide +kernel
theorem d_Lw_law_473 : decode code 473 = .ok (.invokestatic 109, 3) := by decide +kernel
theorem d_Lw_law_476 : decode code 476 = .ok (.istore 5, 2) := by decide +kernel
theorem d_Lw_law_478 : decode code 478 = .ok (.aload_n 2, 1) := by decide +kernel
theorem d_Lw_law_479 : decode code 479 = .ok (.aload_n 0, 1) := by decide +kernel
theorem d_Lw_law_480 : decode code 480 = .ok (.iload 4, 2) := by decide +kernel
theorem d_Lw_law_482 : decode code 482 = .ok (.iconst 1, 1) := by decide +kernel
theorem d_Lw_law_483 : decode code 483 = .ok (.iadd, 1) := by decide +kernel
theorem d_Lw_law_484 : decode code 484 = .ok (.iaload, 1) := by decide +kernel
theorem d_Lw_law_485 : decode code 485 = .ok (.aload_n 0, 1) := by decide +kernel
theorem d_Lw_law_486 : decode code 486 = .ok (.iload 4, 2) := by decide +kernel
theorem d_Lw_law_488 : decode code 488 = .ok (.iconst 2, 1) := by decide +kernel
theorem d_Lw_law_489 : decode code 489 = .ok (.iadd, 1) := by decide +kernel
theorem d_Lw_law_490 : decode code 490 = .ok (.iaload, 1) := by decide +kernel
theorem d_Lw_law_491 : decode code 491 = .ok (.aload_n 0, 1) := by decide +kernel
theorem d_Lw_law_492 : decode code 492 = .ok (.iload 4, 2) := by decide +kernel
theorem d_Lw_law_494 : decode code 494 = .ok (.iconst 3, 1) := by decide +kernel
theorem d_Lw_law_495 : decode code 495 = .ok (.iadd, 1) := by decide +kernel
theorem d_Lw_law_496 : decode code 496 = .ok (.iaload, 1) := by decide +kernel
theorem d_Lw_law_497 : decode code 497 = .ok (.invokevirtual 112, 3) := by decide +kernel
theorem d_Lw_law_500 : decode code 500 = .ok (.istore 6, 2) := by decide +kernel
theorem d_Lw_law_502 : decode code 502 = .ok (.aload_n 2, 1) := by decide +kernel
theorem d_Lw_law_503 : decode code 503 = .ok (.invokevirtual 93, 3) := by decide +kernel
theorem d_Lw_law_506 : decode code 506 = .ok (.iload 5, 2) := by decide +kernel
theorem d_Lw_law_508 : decode code 508 = .ok (.if_icmp .eq 5, 3) := by decide +kernel
theorem d_Lw_law_511 : decode code 511 = .ok (.iconst 0, 1) := by decide +kernel
theorem d_Lw_law_512 : decode code 512 = .ok (.ireturn, 1) := by decide +kernel
theorem d_Lw_law_513 : decode code 513 = .ok (.iload 5, 2) := by decide +kernel
theorem d_Lw_law_515 : decode code 515 = .ok (.ifCond .ne 15, 3) := by decide +kernel
theorem d_Lw_law_518 : decode code 518 = .ok (.aload_n 3, 1) := by decide +kernel
theorem d_Lw_law_519 : decode code 519 = .ok (.iconst 0, 1) := by decide +kernel
theorem d_Lw_law_520 : decode code 520 = .ok (.laload, 1) := by decide +kernel
theorem d_Lw_law_521 : decode code 521 = .ok (.iload 6, 2) := by decide +kernel
theorem d_Lw_law_523 : decode code 523 = .ok (.i2l, 1) := by decide +kernel
theorem d_Lw_law_524 : decode code 524 = .ok (.lcmp, 1) := by decide +kernel
theorem d_Lw_law_525 : decode code 525 = .ok (.ifCond .eq 5, 3) := by decide +kernel
theorem d_Lw_law_528 : decode code 528 = .ok (.iconst 0, 1) := by decide +kernel
theorem d_Lw_law_529 : decode code 529 = .ok (.ireturn, 1) := by decide +kernel
theorem d_Lw_law_530 : decode code 530 = .ok (.goto 983, 3) := by decide +kernel
theorem d_Lw_law_533 : decode code 533 = .ok (.aload_n 1, 1) := by decide +kernel
theorem d_Lw_law_534 : decode code 534 = .ok (.aload_n 0, 1) := by decide +kernel
theorem d_Lw_law_535 : decode code 535 = .ok (.iload 4, 2) := by decide +kernel
theorem d_Lw_law_537 : decode code 537 = .ok (.iconst 1, 1) := by decide +kernel
theorem d_Lw_law_538 : decode code 538 = .ok (.iadd, 1) := by decide +kernel
theorem d_Lw_law_539 : decode code 539 = .ok (.iaload, 1) := by decide +kernel
theorem d_Lw_law_540 : decode code 540 = .ok (.aload_n 0, 1) := by decide +kernel
theorem d_Lw_law_541 : decode code 541 = .ok (.iload 4, 2) := by decide +kernel
theorem d_Lw_law_543 : decode code 543 = .ok (.iconst 2, 1) := by decide +kernel
theorem d_Lw_law_544 : decode code 544 = .ok (.iadd, 1) := by decide +kernel
theorem d_Lw_law_545 : decode code 545 = .ok (.iaload, 1) := by decide +kernel
theorem d_Lw_law_546 : decode code 546 = .ok (.aload_n 0, 1) := by decide +kernel
theorem d_Lw_law_547 : decode code 547 = .ok (.iload 4, 2) := by decide +kernel
theorem d_Lw_law_549 : decode code 549 = .ok (.iconst 3, 1) := by decide +kernel
theorem d_Lw_law_550 : decode code 550 = .ok (.iadd, 1) := by decide +kernel
theorem d_Lw_law_551 : decode code 551 = .ok (.iaload, 1) := by decide +kernel
theorem d_Lw_law_552 : decode code 552 = .ok (.aload_n 0, 1) := by decide +kernel
theorem d_Lw_law_553 : decode code 553 = .ok (.iload 4, 2) := by decide +kernel
theorem d_Lw_law_555 : decode code 555 = .ok (.iconst 4, 1) := by decide +kernel
theorem d_Lw_law_556 : decode code 556 = .ok (.iadd, 1) := by decide +kernel
theorem d_Lw_law_557 : decode code 557 = .ok (.iaload, 1) := by decide +kernel
theorem d_Lw_law_558 : decode code 558 = .ok (.aload_n 3, 1) := by decide +kernel
theorem d_Lw_law_559 : decode code 559 = .ok (.invokestatic 113, 3) := by decide +kernel
theorem d_Lw_law_562 : decode code 562 = .ok (.istore 5, 2) := by decide +kernel
theorem d_Lw_law_564 : decode code 564 = .ok (.aload_n 2, 1) := by decide +kernel
theorem d_Lw_law_565 : decode code 565 = .ok (.aload_n 0, 1) := by decide +kernel
theorem d_Lw_law_566 : decode code 566 = .ok (.iload 4, 2) := by decide +kernel
theorem d_Lw_law_568 : decode code 568 = .ok (.iconst 1, 1) := by decide +kernel
theorem d_Lw_law_569 : decode code 569 = .ok (.iadd, 1) := by decide +kernel
theorem d_Lw_law_570 : decode code 570 = .ok (.iaload, 1) := by decide +kernel
theorem d_Lw_law_571 : decode code 571 = .ok (.aload_n 0, 1) := by decide +kernel
theorem d_Lw_law_572 : decode code 572 = .ok (.iload 4, 2) := by decide +kernel
theorem d_Lw_law_574 : decode code 574 = .ok (.iconst 2, 1) := by decide +kernel
theorem d_Lw_law_575 : decode code 575 = .ok (.iadd, 1) := by decide +kernel
theorem d_Lw_law_576 : decode code 576 = .ok (.iaload, 1) := by decide +kernel
theorem d_Lw_law_577 : decode code 577 = .ok (.aload_n 0, 1) := by decide +kernel
theorem d_Lw_law_578 : decode code 578 = .ok (.iload 4, 2) := by decide +kernel
theorem d_Lw_law_580 : decode code 580 = .ok (.iconst 3, 1) := by decide +kernel
theorem d_Lw_law_581 : decode code 581 = .ok (.iadd, 1) := by decide +kernel
theorem d_Lw_law_582 : decode code 582 = .ok (.iaload, 1) := by decide +kernel
theorem d_Lw_law_583 : decode code 583 = .ok (.aload_n 0, 1) := by decide +kernel
theorem d_Lw_law_584 : decode code 584 = .ok (.iload 4, 2) := by decide +kernel
theorem d_Lw_law_586 : decode code 586 = .ok (.iconst 4, 1) := by decide +kernel
theorem d_Lw_law_587 : decode code 587 = .ok (.iadd, 1) := by decide +kernel
theorem d_Lw_law_588 : decode code 588 = .ok (.iaload, 1) := by decide +kernel
theorem d_Lw_law_589 : decode code 589 = .ok (.invokevirtual 116, 3) := by decide +kernel
theorem d_Lw_law_592 : decode code 592 = .ok (.istore 6, 2) := by decide +kernel
theorem d_Lw_law_594 : decode code 594 = .ok (.aload_n 2, 1) := by decide +kernel
theorem d_Lw_law_595 : decode code 595 = .ok (.invokevirtual 93, 3) := by decide +kernel
theorem d_Lw_law_598 : decode code 598 = .ok (.iload 5, 2) := by decide +kernel
theorem d_Lw_law_600 : decode code 600 = .ok (.if_icmp .eq 5, 3) := by decide +kernel
theorem d_Lw_law_603 : decode code 603 = .ok (.iconst 0, 1) := by decide +kernel
theorem d_Lw_law_604 : decode code 604 = .ok (.ireturn, 1) := by decide +kernel
theorem d_Lw_law_605 : decode code 605 = .ok (.iload 5, 2) := by decide +kernel
theorem d_Lw_law_607 : decode code 607 = .ok (.ifCond .ne 15, 3) := by decide +kernel
theorem d_Lw_law_610 : decode code 610 = .ok (.aload_n 3, 1) := by decide +kernel
theorem d_Lw_law_611 : decode code 611 = .ok (.iconst 0, 1) := by decide +kernel
theorem d_Lw_law_612 : decode code 612 = .ok (.laload, 1) := by decide +kernel
theorem d_Lw_law_613 : decode code 613 = .ok (.iload 6, 2) := by decide +kernel
theorem d_Lw_law_615 : decode code 615 = .ok (.i2l, 1) := by decide +kernel
theorem d_Lw_law_616 : decode code 616 = .ok (.lcmp, 1) := by decide +kernel
theorem d_Lw_law_617 : decode code 617 = .ok (.ifCond .eq 5, 3) := by decide +kernel
theorem d_Lw_law_620 : decode code 620 = .ok (.iconst 0, 1) := by decide +kernel
theorem d_Lw_law_621 : decode code 621 = .ok (.ireturn, 1) := by decide +kernel
theorem d_Lw_law_622 : decode code 622 = .ok (.goto 891, 3) := by decide +kernel
theorem d_Lw_law_625 : decode code 625 = .ok (.aload_n 1, 1) := by decide +kernel
theorem d_Lw_law_626 : decode code 626 = .ok (.aload_n 0, 1) := by decide +kernel
theorem d_Lw_law_627 : decode code 627 = .ok (.iload 4, 2) := by decide +kernel
theorem d_Lw_law_629 : decode code 629 = .ok (.iconst 1, 1) := by decide +kernel
theorem d_Lw_law_630 : decode code 630 = .ok (.iadd, 1) := by decide +kernel
theorem d_Lw_law_631 : decode code 631 = .ok (.iaload, 1) := by decide +kernel
theorem d_Lw_law_632 : decode code 632 = .ok (.aload_n 0, 1) := by decide +kernel
theorem d_Lw_law_633 : decode code 633 = .ok (.iload 4, 2) := by decide +kernel
theorem d_Lw_law_635 : decode code 635 = .ok (.iconst 2, 1) := by decide +kernel
theorem d_Lw_law_636 : decode code 636 = .ok (.iadd, 1) := by decide +kernel
theorem d_Lw_law_637 : decode code 637 = .ok (.iaload, 1) := by decide +kernel
theorem d_Lw_law_638 : decode code 638 = .ok (.aload_n 3, 1) := by decide +kernel
theorem d_Lw_law_639 : decode code 639 = .ok (.invokestatic 117, 3) := by decide +kernel
theorem d_Lw_law_642 : decode code 642 = .ok (.istore 5, 2) := by decide +kernel
theorem d_Lw_law_644 : decode code 644 = .ok (.aload_n 2, 1) := by decide +kernel
theorem d_Lw_law_645 : decode code 645 = .ok (.aload_n 0, 1) := by decide +kernel
theorem d_Lw_law_646 : decode code 646 = .ok (.iload 4, 2) := by decide +kernel
theorem d_Lw_law_648 : decode code 648 = .ok (.iconst 1, 1) := by decide +kernel
theorem d_Lw_law_649 : decode code 649 = .ok (.iadd, 1) := by decide +kernel
theorem d_Lw_law_650 : decode code 650 = .ok (.iaload, 1) := by decide +kernel
theorem d_Lw_law_651 : decode code 651 = .ok (.aload_n 0, 1) := by decide +kernel
theorem d_Lw_law_652 : decode code 652 = .ok (.iload 4, 2) := by decide +kernel
theorem d_Lw_law_654 : decode code 654 = .ok (.iconst 2, 1) := by decide +kernel
theorem d_Lw_law_655 : decode code 655 = .ok (.iadd, 1) := by decide +kernel
theorem d_Lw_law_656 : decode code 656 = .ok (.iaload, 1) := by decide +kernel
theorem d_Lw_law_657 : decode code 657 = .ok (.invokevirtual 119, 3) := by decide +kernel
theorem d_Lw_law_660 : decode code 660 = .ok (.istore 6, 2) := by decide +kernel
theorem d_Lw_law_662 : decode code 662 = .ok (.aload_n 2, 1) := by decide +kernel
theorem d_Lw_law_663 : decode code 663 = .ok (.invokevirtual 93, 3) := by decide +kernel
theorem d_Lw_law_666 : decode code 666 = .ok (.iload 5, 2) := by decide +kernel
theorem d_Lw_law_668 : decode code 668 = .ok (.if_icmp .eq 5, 3) := by decide +kernel
theorem d_Lw_law_671 : decode code 671 = .ok (.iconst 0, 1) := by decide +kernel
theorem d_Lw_law_672 : decode code 672 = .ok (.ireturn, 1) := by decide +kernel
theorem d_Lw_law_673 : decode code 673 = .ok (.iload 5, 2) := by decide +kernel
theorem d_Lw_law_675 : decode code 675 = .ok (.ifCond .ne 15, 3) := by decide +kernel
theorem d_Lw_law_678 : decode code 678 = .ok (.aload_n 3, 1) := by decide +kernel
theorem d_Lw_law_679 : decode code 679 = .ok (.iconst 0, 1) := by decide +kernel
theorem d_Lw_law_680 : decode code 680 = .ok (.laload, 1) := by decide +kernel
theorem d_Lw_law_681 : decode code 681 = .ok (.iload 6, 2) := by decide +kernel
theorem d_Lw_law_683 : decode code 683 = .ok (.i2l, 1) := by decide +kernel
theorem d_Lw_law_684 : decode code 684 = .ok (.lcmp, 1) := by decide +kernel
theorem d_Lw_law_685 : decode code 685 = .ok (.ifCond .eq 5, 3) := by decide +kernel
theorem d_Lw_law_688 : decode code 688 = .ok (.iconst 0, 1) := by decide +kernel
theorem d_Lw_law_689 : decode code 689 = .ok (.ireturn, 1) := by decide +kernel
theorem d_Lw_law_690 : decode code 690 = .ok (.goto 823, 3) := by decide +kernel
theorem d_Lw_law_693 : decode code 693 = .ok (.aload_n 1, 1) := by decide +kernel
theorem d_Lw_law_694 : decode code 694 = .ok (.aload_n 0, 1) := by decide +kernel
theorem d_Lw_law_695 : decode code 695 = .ok (.iload 4, 2) := by decide +kernel
theorem d_Lw_law_697 : decode code 697 = .ok (.iconst 1, 1) := by decide +kernel
theorem d_Lw_law_698 : decode code 698 = .ok (.iadd, 1) := by decide +kernel
theorem d_Lw_law_699 : decode code 699 = .ok (.iaload, 1) := by decide +kernel
theorem d_Lw_law_700 : decode code 700 = .ok (.aload_n 0, 1) := by decide +kernel
theorem d_Lw_law_701 : decode code 701 = .ok (.iload 4, 2) := by decide +kernel
theorem d_Lw_law_703 : decode code 703 = .ok (.iconst 2, 1) := by decide +kernel
theorem d_Lw_law_704 : decode code 704 = .ok (.iadd, 1) := by decide +kernel
theorem d_Lw_law_705 : decode code 705 = .ok (.iaload, 1) := by decide +kernel
theorem d_Lw_law_706 : decode code 706 = .ok (.invokestatic 120, 3) := by decide +kernel
theorem d_Lw_law_709 : decode code 709 = .ok (.istore 5, 2) := by decide +kernel
theorem d_Lw_law_711 : decode code 711 = .ok (.aload_n 2, 1) := by decide +kernel
theorem d_Lw_law_712 : decode code 712 = .ok (.aload_n 0, 1) := by decide +kernel
theorem d_Lw_law_713 : decode code 713 = .ok (.iload 4, 2) := by decide +kernel
theorem d_Lw_law_715 : decode code 715 = .ok (.iconst 1, 1) := by decide +kernel
theorem d_Lw_law_716 : decode code 716 = .ok (.iadd, 1) := by decide +kernel
theorem d_Lw_law_717 : decode code 717 = .ok (.iaload, 1) := by decide +kernel
theorem d_Lw_law_718 : decode code 718 = .ok (.aload_n 0, 1) := by decide +kernel
theorem d_Lw_law_719 : decode code 719 = .ok (.iload 4, 2) := by decide +kernel
theorem d_Lw_law_721 : decode code 721 = .ok (.iconst 2, 1) := by decide +kernel
theorem d_Lw_law_722 : decode code 722 = .ok (.iadd, 1) := by decide +kernel
theorem d_Lw_law_723 : decode code 723 = .ok (.iaload, 1) := by decide +kernel
theorem d_Lw_law_724 : decode code 724 = .ok (.invokevirtual 122, 3) := by decide +kernel
theorem d_Lw_law_727 : decode code 727 = .ok (.aload_n 2, 1) := by decide +kernel
theorem d_Lw_law_728 : decode code 728 = .ok (.invokevirtual 93, 3) := by decide +kernel
theorem d_Lw_law_731 : decode code 731 = .ok (.iload 5, 2) := by decide +kernel
theorem d_Lw_law_733 : decode code 733 = .ok (.if_icmp .eq 5, 3) := by decide +kernel
theorem d_Lw_law_736 : decode code 736 = .ok (.iconst 0, 1) := by decide +kernel
theorem d_Lw_law_737 : decode code 737 = .ok (.ireturn, 1) := by decide +kernel
theorem d_Lw_law_738 : decode code 738 = .ok (.goto 775, 3) := by decide +kernel
theorem d_Lw_law_741 : decode code 741 = .ok (.aload_n 1, 1) := by decide +kernel
theorem d_Lw_law_742 : decode code 742 = .ok (.aload_n 0, 1) := by decide +kernel
theorem d_Lw_law_743 : decode code 743 = .ok (.iload 4, 2) := by decide +kernel
theorem d_Lw_law_745 : decode code 745 = .ok (.iconst 1, 1) := by decide +kernel
theorem d_Lw_law_746 : decode code 746 = .ok (.iadd, 1) := by decide +kernel
theorem d_Lw_law_747 : decode code 747 = .ok (.iaload, 1) := by decide +kernel
theorem d_Lw_law_748 : decode code 748 = .ok (.aload_n 3, 1) := by decide +kernel
theorem d_Lw_law_749 : decode code 749 = .ok (.invokestatic 123, 3) := by decide +kernel
theorem d_Lw_law_752 : decode code 752 = .ok (.istore 5, 2) := by decide +kernel
theorem d_Lw_law_754 : decode code 754 = .ok (.aload_n 2, 1) := by decide +kernel
theorem d_Lw_law_755 : decode code 755 = .ok (.aload_n 0, 1) := by decide +kernel
theorem d_Lw_law_756 : decode code 756 = .ok (.iload 4, 2) := by decide +kernel
theorem d_Lw_law_758 : decode code 758 = .ok (.iconst 1, 1) := by decide +kernel
theorem d_Lw_law_759 : decode code 759 = .ok (.iadd, 1) := by decide +kernel
theorem d_Lw_law_760 : decode code 760 = .ok (.iaload, 1) := by decide +kernel
theorem d_Lw_law_761 : decode code 761 = .ok (.invokevirtual 125, 3) := by decide +kernel
theorem d_Lw_law_764 : decode code 764 = .ok (.istore 6, 2) := by decide +kernel
theorem d_Lw_law_766 : decode code 766 = .ok (.aload_n 2, 1) := by decide +kernel
theorem d_Lw_law_767 : decode code 767 = .ok (.invokevirtual 93, 3) := by decide +kernel
theorem d_Lw_law_770 : decode code 770 = .ok (.iload 5, 2) := by decide +kernel
theorem d_Lw_law_772 : decode code 772 = .ok (.if_icmp .eq 5, 3) := by decide +kernel
theorem d_Lw_law_775 : decode code 775 = .ok (.iconst 0, 1) := by decide +kernel
theorem d_Lw_law_776 : decode code 776 = .ok (.ireturn, 1) := by decide +kernel
theorem d_Lw_law_777 : decode code 777 = .ok (.iload 5, 2) := by decide +kernel
theorem d_Lw_law_779 : decode code 779 = .ok (.ifCond .ne 15, 3) := by decide +kernel
theorem d_Lw_law_782 : decode code 782 = .ok (.aload_n 3, 1) := by decide +kernel
theorem d_Lw_law_783 : decode code 783 = .ok (.iconst 0, 1) := by decide +kernel
theorem d_Lw_law_784 : decode code 784 = .ok (.laload, 1) := by decide +kernel
theorem d_Lw_law_785 : decode code 785 = .ok (.iload 6, 2) := by decide +kernel
theorem d_Lw_law_787 : decode code 787 = .ok (.i2l, 1) := by decide +kernel
theorem d_Lw_law_788 : decode code 788 = .ok (.lcmp, 1) := by decide +kernel
theorem d_Lw_law_789 : decode code 789 = .ok (.ifCond .eq 5, 3) := by decide +kernel
theorem d_Lw_law_792 : decode code 792 = .ok (.iconst 0, 1) := by decide +kernel
theorem d_Lw_law_793 : decode code 793 = .ok (.ireturn, 1) := by decide +kernel
theorem d_Lw_law_794 : decode code 794 = .ok (.goto 719, 3) := by decide +kernel
theorem d_Lw_law_797 : decode code 797 = .ok (.aload_n 1, 1) := by decide +kernel
theorem d_Lw_law_798 : decode code 798 = .ok (.aload_n 0, 1) := by decide +kernel
theorem d_Lw_law_799 : decode code 799 = .ok (.iload 4, 2) := by decide +kernel
theorem d_Lw_law_801 : decode code 801 = .ok (.iconst 1, 1) := by decide +kernel
theorem d_Lw_law_802 : decode code 802 = .ok (.iadd, 1) := by decide +kernel
theorem d_Lw_law_803 : decode code 803 = .ok (.iaload, 1) := by decide +kernel
theorem d_Lw_law_804 : decode code 804 = .ok (.aload_n 0, 1) := by decide +kernel
theorem d_Lw_law_805 : decode code 805 = .ok (.iload 4, 2) := by decide +kernel
theorem d_Lw_law_807 : decode code 807 = .ok (.iconst 2, 1) := by decide +kernel
theorem d_Lw_law_808 : decode code 808 = .ok (.iadd, 1) := by decide +kernel
theorem d_Lw_law_809 : decode code 809 = .ok (.iaload, 1) := by decide +kernel
theorem d_Lw_law_810 : decode code 810 = .ok (.aload_n 3, 1) := by decide +kernel
theorem d_Lw_law_811 : decode code 811 = .ok (.invokestatic 126, 3) := by decide +kernel
theorem d_Lw_law_814 : decode code 814 = .ok (.istore 5, 2) := by decide +kernel
theorem d_Lw_law_816 : decode code 816 = .ok (.aload_n 2, 1) := by decide +kernel
theorem d_Lw_law_817 : decode code 817 = .ok (.aload_n 0, 1) := by decide +kernel
theorem d_Lw_law_818 : decode code 818 = .ok (.iload 4, 2) := by decide +kernel
theorem d_Lw_law_820 : decode code 820 = .ok (.iconst 1, 1) := by decide +kernel
theorem d_Lw_law_821 : decode code 821 = .ok (.iadd, 1) := by decide +kernel
theorem d_Lw_law_822 : decode code 822 = .ok (.iaload, 1) := by decide +kernel
theorem d_Lw_law_823 : decode code 823 = .ok (.aload_n 0, 1) := by decide +kernel
theorem d_Lw_law_824 : decode code 824 = .ok (.iload 4, 2) := by decide +kernel
theorem d_Lw_law_826 : decode code 826 = .ok (.iconst 2, 1) := by decide +kernel
theorem d_Lw_law_827 : decode code 827 = .ok (.iadd, 1) := by decide +kernel
theorem d_Lw_law_828 : decode code 828 = .ok (.iaload, 1) := by decide +kernel
theorem d_Lw_law_829 : decode code 829 = .ok (.invokevirtual 128, 3) := by decide +kernel
theorem d_Lw_law_832 : decode code 832 = .ok (.istore 6, 2) := by decide +kernel
theorem d_Lw_law_834 : decode code 834 = .ok (.aload_n 2, 1) := by decide +kernel
theorem d_Lw_law_835 : decode code 835 = .ok (.invokevirtual 93, 3) := by decide +kernel
theorem d_Lw_law_838 : decode code 838 = .ok (.iload 5, 2) := by decide +kernel
theorem d_Lw_law_840 : decode code 840 = .ok (.if_icmp .eq 5, 3) := by decide +kernel
theorem d_Lw_law_843 : decode code 843 = .ok (.iconst 0, 1) := by decide +kernel
theorem d_Lw_law_844 : decode code 844 = .ok (.ireturn, 1) := by decide +kernel
theorem d_Lw_law_845 : decode code 845 = .ok (.iload 5, 2) := by decide +kernel
theorem d_Lw_law_847 : decode code 847 = .ok (.ifCond .ne 15, 3) := by decide +kernel
theorem d_Lw_law_850 : decode code 850 = .ok (.aload_n 3, 1) := by decide +kernel
theorem d_Lw_law_851 : decode code 851 = .ok (.iconst 0, 1) := by decide +kernel
theorem d_Lw_law_852 : decode code 852 = .ok (.laload, 1) := by decide +kernel
theorem d_Lw_law_853 : decode code 853 = .ok (.iload 6, 2) := by decide +kernel
theorem d_Lw_law_855 : decode code 855 = .ok (.i2l, 1) := by decide +kernel
theorem d_Lw_law_856 : decode code 856 = .ok (.lcmp, 1) := by decide +kernel
theorem d_Lw_law_857 : decode code 857 = .ok (.ifCond .eq 5, 3) := by decide +kernel
theorem d_Lw_law_860 : decode code 860 = .ok (.iconst 0, 1) := by decide +kernel
theorem d_Lw_law_861 : decode code 861 = .ok (.ireturn, 1) := by decide +kernel
theorem d_Lw_law_862 : decode code 862 = .ok (.goto 651, 3) := by decide +kernel
theorem d_Lw_law_865 : decode code 865 = .ok (.aload_n 1, 1) := by decide +kernel
theorem d_Lw_law_866 : decode code 866 = .ok (.aload_n 0, 1) := by decide +kernel
theorem d_Lw_law_867 : decode code 867 = .ok (.iload 4, 2) := by decide +kernel
theorem d_Lw_law_869 : decode code 869 = .ok (.iconst 1, 1) := by decide +kernel
theorem d_Lw_law_870 : decode code 870 = .ok (.iadd, 1) := by decide +kernel
theorem d_Lw_law_871 : decode code 871 = .ok (.iaload, 1) := by decide +kernel
theorem d_Lw_law_872 : decode code 872 = .ok (.aload_n 3, 1) := by decide +kernel
theorem d_Lw_law_873 : decode code 873 = .ok (.invokestatic 129, 3) := by decide +kernel
theorem d_Lw_law_876 : decode code 876 = .ok (.istore 5, 2) := by decide +kernel
theorem d_Lw_law_878 : decode code 878 = .ok (.aload_n 2, 1) := by decide +kernel
theorem d_Lw_law_879 : decode code 879 = .ok (.aload_n 0, 1) := by decide +kernel
theorem d_Lw_law_880 : decode code 880 = .ok (.iload 4, 2) := by decide +kernel
theorem d_Lw_law_882 : decode code 882 = .ok (.iconst 1, 1) := by decide +kernel
theorem d_Lw_law_883 : decode code 883 = .ok (.iadd, 1) := by decide +kernel
theorem d_Lw_law_884 : decode code 884 = .ok (.iaload, 1) := by decide +kernel
theorem d_Lw_law_885 : decode code 885 = .ok (.invokevirtual 131, 3) := by decide +kernel
theorem d_Lw_law_888 : decode code 888 = .ok (.istore 6, 2) := by decide +kernel
theorem d_Lw_law_890 : decode code 890 = .ok (.aload_n 2, 1) := by decide +kernel
theorem d_Lw_law_891 : decode code 891 = .ok (.invokevirtual 93, 3) := by decide +kernel
theorem d_Lw_law_894 : decode code 894 = .ok (.iload 5, 2) := by decide +kernel
theorem d_Lw_law_896 : decode code 896 = .ok (.if_icmp .eq 5, 3) := by decide +kernel
theorem d_Lw_law_899 : decode code 899 = .ok (.iconst 0, 1) := by decide +kernel
theorem d_Lw_law_900 : decode code 900 = .ok (.ireturn, 1) := by decide +kernel
theorem d_Lw_law_901 : decode code 901 = .ok (.iload 5, 2) := by decide +kernel
theorem d_Lw_law_903 : decode code 903 = .ok (.ifCond .ne 15, 3) := by decide +kernel
theorem d_Lw_law_906 : decode code 906 = .ok (.aload_n 3, 1) := by decide +kernel
theorem d_Lw_law_907 : decode code 907 = .ok (.iconst 0, 1) := by decide +kernel
theorem d_Lw_law_908 : decode code 908 = .ok (.laload, 1) := by decide +kernel
theorem d_Lw_law_909 : decode code 909 = .ok (.iload 6, 2) := by decide +kernel
theorem d_Lw_law_911 : decode code 911 = .ok (.i2l, 1) := by decide +kernel
theorem d_Lw_law_912 : decode code 912 = .ok (.lcmp, 1) := by decide +kernel
theorem d_Lw_law_913 : decode code 913 = .ok (.ifCond .eq 5, 3) := by decide +kernel
theorem d_Lw_law_916 : decode code 916 = .ok (.iconst 0, 1) := by decide +kernel
theorem d_Lw_law_917 : decode code 917 = .ok (.ireturn, 1) := by decide +kernel
theorem d_Lw_law_918 : decode code 918 = .ok (.goto 595, 3) := by decide +kernel
theorem d_Lw_law_921 : decode code 921 = .ok (.aload_n 1, 1) := by decide +kernel
theorem d_Lw_law_922 : decode code 922 = .ok (.aload_n 0, 1) := by decide +kernel
theorem d_Lw_law_923 : decode code 923 = .ok (.iload 4, 2) := by decide +kernel
theorem d_Lw_law_925 : decode code 925 = .ok (.iconst 1, 1) := by decide +kernel
theorem d_Lw_law_926 : decode code 926 = .ok (.iadd, 1) := by decide +kernel
theorem d_Lw_law_927 : decode code 927 = .ok (.iaload, 1) := by decide +kernel
theorem d_Lw_law_928 : decode code 928 = .ok (.aload_n 3, 1) := by decide +kernel
theorem d_Lw_law_929 : decode code 929 = .ok (.invokestatic 132, 3) := by decide +kernel
theorem d_Lw_law_932 : decode code 932 = .ok (.istore 5, 2) := by decide +kernel
theorem d_Lw_law_934 : decode code 934 = .ok (.aload_n 2, 1) := by decide +kernel
theorem d_Lw_law_935 : decode code 935 = .ok (.aload_n 0, 1) := by decide +kernel
theorem d_Lw_law_936 : decode code 936 = .ok (.iload 4, 2) := by decide +kernel
theorem d_Lw_law_938 : decode code 938 = .ok (.iconst 1, 1) := by decide +kernel
theorem d_Lw_law_939 : decode code 939 = .ok (.iadd, 1) := by decide +kernel
theorem d_Lw_law_940 : decode code 940 = .ok (.iaload, 1) := by decide +kernel
theorem d_Lw_law_941 : decode code 941 = .ok (.invokevirtual 134, 3) := by decide +kernel
theorem d_Lw_law_944 : decode code 944 = .ok (.istore 6, 2) := by decide +kernel
theorem d_Lw_law_946 : decode code 946 = .ok (.aload_n 2, 1) := by decide +kernel
theorem d_Lw_law_947 : decode code 947 = .ok (.invokevirtual 93, 3) := by decide +kernel
theorem d_Lw_law_950 : decode code 950 = .ok (.iload 5, 2) := by decide +kernel
theorem d_Lw_law_952 : decode code 952 = .ok (.if_icmp .eq 5, 3) := by decide +kernel
theorem d_Lw_law_955 : decode code 955 = .ok (.iconst 0, 1) := by decide +kernel
theorem d_Lw_law_956 : decode code 956 = .ok (.ireturn, 1) := by decide +kernel
theorem d_Lw_law_957 : decode code 957 = .ok (.iload 5, 2) := by decide +kernel
theorem d_Lw_law_959 : decode code 959 = .ok (.ifCond .ne 15, 3) := by decide +kernel
theorem d_Lw_law_962 : decode code 962 = .ok (.aload_n 3, 1) := by decide +kernel
theorem d_Lw_law_963 : decode code 963 = .ok (.iconst 0, 1) := by decide +kernel
theorem d_Lw_law_964 : decode code 964 = .ok (.laload, 1) := by decide +kernel
theorem d_Lw_law_965 : decode code 965 = .ok (.iload 6, 2) := by decide +kernel
theorem d_Lw_law_967 : decode code 967 = .ok (.i2l, 1) := by decide +kernel
theorem d_Lw_law_968 : decode code 968 = .ok (.lcmp, 1) := by decide +kernel
theorem d_Lw_law_969 : decode code 969 = .ok (.ifCond .eq 5, 3) := by decide +kernel
theorem d_Lw_law_972 : decode code 972 = .ok (.iconst 0, 1) := by decide +kernel
theorem d_Lw_law_973 : decode code 973 = .ok (.ireturn, 1) := by decide +kernel
theorem d_Lw_law_974 : decode code 974 = .ok (.goto 539, 3) := by decide +kernel
theorem d_Lw_law_977 : decode code 977 = .ok (.aload_n 1, 1) := by decide +kernel
theorem d_Lw_law_978 : decode code 978 = .ok (.aload_n 0, 1) := by decide +kernel
theorem d_Lw_law_979 : decode code 979 = .ok (.iload 4, 2) := by decide +kernel
theorem d_Lw_law_981 : decode code 981 = .ok (.iconst 1, 1) := by decide +kernel
theorem d_Lw_law_982 : decode code 982 = .ok (.iadd, 1) := by decide +kernel
theorem d_Lw_law_983 : decode code 983 = .ok (.iaload, 1) := by decide +kernel
theorem d_Lw_law_984 : decode code 984 = .ok (.invokevirtual 135, 3) := by decide +kernel
theorem d_Lw_law_987 : decode code 987 = .ok (.aload_n 2, 1) := by decide +kernel
theorem d_Lw_law_988 : decode code 988 = .ok (.aload_n 0, 1) := by decide +kernel
theorem d_Lw_law_989 : decode code 989 = .ok (.iload 4, 2) := by decide +kernel
theorem d_Lw_law_991 : decode code 991 = .ok (.iconst 1, 1) := by decide +kernel
theorem d_Lw_law_992 : decode code 992 = .ok (.iadd, 1) := by decide +kernel
theorem d_Lw_law_993 : decode code 993 = .ok (.iaload, 1) := by decide +kernel
theorem d_Lw_law_994 : decode code 994 = .ok (.invokevirtual 138, 3) := by decide +kernel
theorem d_Lw_law_997 : decode code 997 = .ok (.if_icmp .eq 516, 3) := by decide +kernel
theorem d_Lw_law_1000 : decode code 1000 = .ok (.iconst 0, 1) := by decide +kernel
theorem d_Lw_law_1001 : decode code 1001 = .ok (.ireturn, 1) := by decide +kernel
theorem d_Lw_law_1002 : decode code 1002 = .ok (.aload_n 1, 1) := by decide +kernel
theorem d_Lw_law_1003 : decode code 1003 = .ok (.aload_n 0, 1) := by decide +kernel
theorem d_Lw_law_1004 : decode code 1004 = .ok (.iload 4, 2) := by decide +kernel
theorem d_Lw_law_1006 : decode code 1006 = .ok (.iconst 1, 1) := by decide +kernel
theorem d_Lw_law_1007 : decode code 1007 = .ok (.iadd, 1) := by decide +kernel
theorem d_Lw_law_1008 : decode code 1008 = .ok (.iaload, 1) := by decide +kernel
theorem d_Lw_law_1009 : decode code 1009 = .ok (.aload_n 0, 1) := by decide +kernel
theorem d_Lw_law_1010 : decode code 1010 = .ok (.iload 4, 2) := by decide +kernel
theorem d_Lw_law_1012 : decode code 1012 = .ok (.iconst 2, 1) := by decide +kernel
theorem d_Lw_law_1013 : decode code 1013 = .ok (.iadd, 1) := by decide +kernel
theorem d_Lw_law_1014 : decode code 1014 = .ok (.iaload, 1) := by decide +kernel
theorem d_Lw_law_1015 : decode code 1015 = .ok (.aload_n 3, 1) := by decide +kernel
theorem d_Lw_law_1016 : decode code 1016 = .ok (.invokestatic 139, 3) := by decide +kernel
theorem d_Lw_law_1019 : decode code 1019 = .ok (.istore 5, 2) := by decide +kernel
theorem d_Lw_law_1021 : decode code 1021 = .ok (.aload_n 2, 1) := by decide +kernel
theorem d_Lw_law_1022 : decode code 1022 = .ok (.aload_n 0, 1) := by decide +kernel
theorem d_Lw_law_1023 : decode code 1023 = .ok (.iload 4, 2) := by decide +kernel
theorem d_Lw_law_1025 : decode code 1025 = .ok (.iconst 1, 1) := by decide +kernel
theorem d_Lw_law_1026 : decode code 1026 = .ok (.iadd, 1) := by decide +kernel
theorem d_Lw_law_1027 : decode code 1027 = .ok (.iaload, 1) := by decide +kernel
theorem d_Lw_law_1028 : decode code 1028 = .ok (.aload_n 0, 1) := by decide +kernel
theorem d_Lw_law_1029 : decode code 1029 = .ok (.iload 4, 2) := by decide +kernel
theorem d_Lw_law_1031 : decode code 1031 = .ok (.iconst 2, 1) := by decide +kernel
theorem d_Lw_law_1032 : decode code 1032 = .ok (.iadd, 1) := by decide +kernel
theorem d_Lw_law_1033 : decode code 1033 = .ok (.iaload, 1) := by decide +kernel
theorem d_Lw_law_1034 : decode code 1034 = .ok (.invokevirtual 141, 3) := by decide +kernel
theorem d_Lw_law_1037 : decode code 1037 = .ok (.istore 6, 2) := by decide +kernel
theorem d_Lw_law_1039 : decode code 1039 = .ok (.aload_n 2, 1) := by decide +kernel
theorem d_Lw_law_1040 : decode code 1040 = .ok (.invokevirtual 93, 3) := by decide +kernel
theorem d_Lw_law_1043 : decode code 1043 = .ok (.iload 5, 2) := by decide +kernel
theorem d_Lw_law_1045 : decode code 1045 = .ok (.if_icmp .eq 5, 3) := by decide +kernel
theorem d_Lw_law_1048 : decode code 1048 = .ok (.iconst 0, 1) := by decide +kernel
theorem d_Lw_law_1049 : decode code 1049 = .ok (.ireturn, 1) := by decide +kernel
theorem d_Lw_law_1050 : decode code 1050 = .ok (.iload 5, 2) := by decide +kernel
theorem d_Lw_law_1052 : decode code 1052 = .ok (.ifCond .ne 15, 3) := by decide +kernel
theorem d_Lw_law_1055 : decode code 1055 = .ok (.aload_n 3, 1) := by decide +kernel
theorem d_Lw_law_1056 : decode code 1056 = .ok (.iconst 0, 1) := by decide +kernel
theorem d_Lw_law_1057 : decode code 1057 = .ok (.laload, 1) := by decide +kernel
theorem d_Lw_law_1058 : decode code 1058 = .ok (.iload 6, 2) := by decide +kernel
theorem d_Lw_law_1060 : decode code 1060 = .ok (.i2l, 1) := by decide +kernel
theorem d_Lw_law_1061 : decode code 1061 = .ok (.lcmp, 1) := by decide +kernel
theorem d_Lw_law_1062 : decode code 1062 = .ok (.ifCond .eq 5, 3) := by decide +kernel
theorem d_Lw_law_1065 : decode code 1065 = .ok (.iconst 0, 1) := by decide +kernel
theorem d_Lw_law_1066 : decode code 1066 = .ok (.ireturn, 1) := by decide +kernel
theorem d_Lw_law_1067 : decode code 1067 = .ok (.goto 446, 3) := by decide +kernel
theorem d_Lw_law_1070 : decode code 1070 = .ok (.aload_n 1, 1) := by decide +kernel
theorem d_Lw_law_1071 : decode code 1071 = .ok (.aload_n 0, 1) := by decide +kernel
theorem d_Lw_law_1072 : decode code 1072 = .ok (.iload 4, 2) := by decide +kernel
theorem d_Lw_law_1074 : decode code 1074 = .ok (.iconst 1, 1) := by decide +kernel
theorem d_Lw_law_1075 : decode code 1075 = .ok (.iadd, 1) := by decide +kernel
theorem d_Lw_law_1076 : decode code 1076 = .ok (.iaload, 1) := by decide +kernel
theorem d_Lw_law_1077 : decode code 1077 = .ok (.aload_n 0, 1) := by decide +kernel
theorem d_Lw_law_1078 : decode code 1078 = .ok (.iload 4, 2) := by decide +kernel
theorem d_Lw_law_1080 : decode code 1080 = .ok (.iconst 2, 1) := by decide +kernel
theorem d_Lw_law_1081 : decode code 1081 = .ok (.iadd, 1) := by decide +kernel
theorem d_Lw_law_1082 : decode code 1082 = .ok (.iaload, 1) := by decide +kernel
theorem d_Lw_law_1083 : decode code 1083 = .ok (.aload_n 0, 1) := by decide +kernel
theorem d_Lw_law_1084 : decode code 1084 = .ok (.iload 4, 2) := by decide +kernel
theorem d_Lw_law_1086 : decode code 1086 = .ok (.iconst 3, 1) := by decide +kernel
theorem d_Lw_law_1087 : decode code 1087 = .ok (.iadd, 1) := by decide +kernel
theorem d_Lw_law_1088 : decode code 1088 = .ok (.iaload, 1) := by decide +kernel
theorem d_Lw_law_1089 : decode code 1089 = .ok (.invokestatic 142, 3) := by decide +kernel
theorem d_Lw_law_1092 : decode code 1092 = .ok (.istore 5, 2) := by decide +kernel
theorem d_Lw_law_1094 : decode code 1094 = .ok (.aload_n 2, 1) := by decide +kernel
theorem d_Lw_law_1095 : decode code 1095 = .ok (.aload_n 0, 1) := by decide +kernel
theorem d_Lw_law_1096 : decode code 1096 = .ok (.iload 4, 2) := by decide +kernel
theorem d_Lw_law_1098 : decode code 1098 = .ok (.iconst 1, 1) := by decide +kernel
theorem d_Lw_law_1099 : decode code 1099 = .ok (.iadd, 1) := by decide +kernel
theorem d_Lw_law_1100 : decode code 1100 = .ok (.iaload, 1) := by decide +kernel
theorem d_Lw_law_1101 : decode code 1101 = .ok (.aload_n 0, 1) := by decide +kernel
theorem d_Lw_law_1102 : decode code 1102 = .ok (.iload 4, 2) := by decide +kernel
theorem d_Lw_law_1104 : decode code 1104 = .ok (.iconst 2, 1) := by decide +kernel
theorem d_Lw_law_1105 : decode code 1105 = .ok (.iadd, 1) := by decide +kernel
theorem d_Lw_law_1106 : decode code 1106 = .ok (.iaload, 1) := by decide +kernel
theorem d_Lw_law_1107 : decode code 1107 = .ok (.aload_n 0, 1) := by decide +kernel
theorem d_Lw_law_1108 : decode code 1108 = .ok (.iload 4, 2) := by decide +kernel
theorem d_Lw_law_1110 : decode code 1110 = .ok (.iconst 3, 1) := by decide +kernel
theorem d_Lw_law_1111 : decode code 1111 = .ok (.iadd, 1) := by decide +kernel
theorem d_Lw_law_1112 : decode code 1112 = .ok (.iaload, 1) := by decide +kernel
theorem d_Lw_law_1113 : decode code 1113 = .ok (.invokevirtual 145, 3) := by decide +kernel
theorem d_Lw_law_1116 : decode code 1116 = .ok (.aload_n 2, 1) := by decide +kernel
theorem d_Lw_law_1117 : decode code 1117 = .ok (.invokevirtual 93, 3) := by decide +kernel
theorem d_Lw_law_1120 : decode code 1120 = .ok (.iload 5, 2) := by decide +kernel
theorem d_Lw_law_1122 : decode code 1122 = .ok (.if_icmp .eq 5, 3) := by decide +kernel
theorem d_Lw_law_1125 : decode code 1125 = .ok (.iconst 0, 1) := by decide +kernel
theorem d_Lw_law_1126 : decode code 1126 = .ok (.ireturn, 1) := by decide +kernel
theorem d_Lw_law_1127 : decode code 1127 = .ok (.goto 386, 3) := by decide +kernel
theorem d_Lw_law_1130 : decode code 1130 = .ok (.aload_n 1, 1) := by decide +kernel
theorem d_Lw_law_1131 : decode code 1131 = .ok (.aload_n 0, 1) := by decide +kernel
theorem d_Lw_law_1132 : decode code 1132 = .ok (.iload 4, 2) := by decide +kernel
theorem d_Lw_law_1134 : decode code 1134 = .ok (.iconst 1, 1) := by decide +kernel
theorem d_Lw_law_1135 : decode code 1135 = .ok (.iadd, 1) := by decide +kernel
theorem d_Lw_law_1136 : decode code 1136 = .ok (.iaload, 1) := by decide +kernel
theorem d_Lw_law_1137 : decode code 1137 = .ok (.aload_n 3, 1) := by decide +kernel
theorem d_Lw_law_1138 : decode code 1138 = .ok (.invokestatic 146, 3) := by decide +kernel
theorem d_Lw_law_1141 : decode code 1141 = .ok (.istore 5, 2) := by decide +kernel
theorem d_Lw_law_1143 : decode code 1143 = .ok (.aload_n 2, 1) := by decide +kernel
theorem d_Lw_law_1144 : decode code 1144 = .ok (.aload_n 0, 1) := by decide +kernel
theorem d_Lw_law_1145 : decode code 1145 = .ok (.iload 4, 2) := by decide +kernel
theorem d_Lw_law_1147 : decode code 1147 = .ok (.iconst 1, 1) := by decide +kernel
theorem d_Lw_law_1148 : decode code 1148 = .ok (.iadd, 1) := by decide +kernel
theorem d_Lw_law_1149 : decode code 1149 = .ok (.iaload, 1) := by decide +kernel
theorem d_Lw_law_1150 : decode code 1150 = .ok (.invokevirtual 148, 3) := by decide +kernel
theorem d_Lw_law_1153 : decode code 1153 = .ok (.istore 6, 2) := by decide +kernel
theorem d_Lw_law_1155 : decode code 1155 = .ok (.aload_n 2, 1) := by decide +kernel
theorem d_Lw_law_1156 : decode code 1156 = .ok (.invokevirtual 93, 3) := by decide +kernel
theorem d_Lw_law_1159 : decode code 1159 = .ok (.iload 5, 2) := by decide +kernel
theorem d_Lw_law_1161 : decode code 1161 = .ok (.if_icmp .eq 5, 3) := by decide +kernel
theorem d_Lw_law_1164 : decode code 1164 = .ok (.iconst 0, 1) := by decide +kernel
theorem d_Lw_law_1165 : decode code 1165 = .ok (.ireturn, 1) := by decide +kernel
theorem d_Lw_law_1166 : decode code 1166 = .ok (.iload 5, 2) := by decide +kernel
theorem d_Lw_law_1168 : decode code 1168 = .ok (.ifCond .ne 15, 3) := by decide +kernel
theorem d_Lw_law_1171 : decode code 1171 = .ok (.aload_n 3, 1) := by decide +kernel
theorem d_Lw_law_1172 : decode code 1172 = .ok (.iconst 0, 1) := by decide +kernel
theorem d_Lw_law_1173 : decode code 1173 = .ok (.laload, 1) := by decide +kernel
theorem d_Lw_law_1174 : decode code 1174 = .ok (.iload 6, 2) := by decide +kernel
theorem d_Lw_law_1176 : decode code 1176 = .ok (.i2l, 1) := by decide +kernel
theorem d_Lw_law_1177 : decode code 1177 = .ok (.lcmp, 1) := by decide +kernel
theorem d_Lw_law_1178 : decode code 1178 = .ok (.ifCond .eq 5, 3) := by decide +kernel
theorem d_Lw_law_1181 : decode code 1181 = .ok (.iconst 0, 1) := by decide +kernel
theorem d_Lw_law_1182 : decode code 1182 = .ok (.ireturn, 1) := by decide +kernel
theorem d_Lw_law_1183 : decode code 1183 = .ok (.goto 330, 3) := by decide +kernel
theorem d_Lw_law_1186 : decode code 1186 = .ok (.aload_n 1, 1) := by decide +kernel
theorem d_Lw_law_1187 : decode code 1187 = .ok (.invokevirtual 149, 3) := by decide +kernel
theorem d_Lw_law_1190 : decode code 1190 = .ok (.aload_n 2, 1) := by decide +kernel
theorem d_Lw_law_1191 : decode code 1191 = .ok (.invokevirtual 152, 3) := by decide +kernel
theorem d_Lw_law_1194 : decode code 1194 = .ok (.if_icmp .eq 319, 3) := by decide +kernel
theorem d_Lw_law_1197 : decode code 1197 = .ok (.iconst 0, 1) := by decide +kernel
theorem d_Lw_law_1198 : decode code 1198 = .ok (.ireturn, 1) := by decide +kernel
theorem d_Lw_law_1199 : decode code 1199 = .ok (.aload_n 1, 1) := by decide +kernel
theorem d_Lw_law_1200 : decode code 1200 = .ok (.aload_n 0, 1) := by decide +kernel
theorem d_Lw_law_1201 : decode code 1201 = .ok (.iload 4, 2) := by decide +kernel
theorem d_Lw_law_1203 : decode code 1203 = .ok (.iconst 1, 1) := by decide +kernel
theorem d_Lw_law_1204 : decode code 1204 = .ok (.iadd, 1) := by decide +kernel
theorem d_Lw_law_1205 : decode code 1205 = .ok (.iaload, 1) := by decide +kernel
theorem d_Lw_law_1206 : decode code 1206 = .ok (.aload_n 0, 1) := by decide +kernel
theorem d_Lw_law_1207 : decode code 1207 = .ok (.iload 4, 2) := by decide +kernel
theorem d_Lw_law_1209 : decode code 1209 = .ok (.iconst 2, 1) := by decide +kernel
theorem d_Lw_law_1210 : decode code 1210 = .ok (.iadd, 1) := by decide +kernel
theorem d_Lw_law_1211 : decode code 1211 = .ok (.iaload, 1) := by decide +kernel
theorem d_Lw_law_1212 : decode code 1212 = .ok (.aload_n 3, 1) := by decide +kernel
theorem d_Lw_law_1213 : decode code 1213 = .ok (.invokestatic 153, 3) := by decide +kernel
theorem d_Lw_law_1216 : decode code 1216 = .ok (.istore 5, 2) := by decide +kernel
theorem d_Lw_law_1218 : decode code 1218 = .ok (.aload_n 2, 1) := by decide +kernel
theorem d_Lw_law_1219 : decode code 1219 = .ok (.aload_n 0, 1) := by decide +kernel
theorem d_Lw_law_1220 : decode code 1220 = .ok (.iload 4, 2) := by decide +kernel
theorem d_Lw_law_1222 : decode code 1222 = .ok (.iconst 1, 1) := by decide +kernel
theorem d_Lw_law_1223 : decode code 1223 = .ok (.iadd, 1) := by decide +kernel
theorem d_Lw_law_1224 : decode code 1224 = .ok (.iaload, 1) := by decide +kernel
theorem d_Lw_law_1225 : decode code 1225 = .ok (.aload_n 0, 1) := by decide +kernel
theorem d_Lw_law_1226 : decode code 1226 = .ok (.iload 4, 2) := by decide +kernel
theorem d_Lw_law_1228 : decode code 1228 = .ok (.iconst 2, 1) := by decide +kernel
theorem d_Lw_law_1229 : decode code 1229 = .ok (.iadd, 1) := by decide +kernel
theorem d_Lw_law_1230 : decode code 1230 = .ok (.iaload, 1) := by decide +kernel
theorem d_Lw_law_1231 : decode code 1231 = .ok (.invokevirtual 155, 3) := by decide +kernel
theorem d_Lw_law_1234 : decode code 1234 = .ok (.lstore 6, 2) := by decide +kernel
theorem d_Lw_law_1236 : decode code 1236 = .ok (.aload_n 2, 1) := by decide +kernel
theorem d_Lw_law_1237 : decode code 1237 = .ok (.invokevirtual 93, 3) := by decide +kernel
theorem d_Lw_law_1240 : decode code 1240 = .ok (.iload 5, 2) := by decide +kernel
theorem d_Lw_law_1242 : decode code 1242 = .ok (.if_icmp .eq 5, 3) := by decide +kernel
theorem d_Lw_law_1245 : decode code 1245 = .ok (.iconst 0, 1) := by decide +kernel
theorem d_Lw_law_1246 : decode code 1246 = .ok (.ireturn, 1) := by decide +kernel
theorem d_Lw_law_1247 : decode code 1247 = .ok (.iload 5, 2) := by decide +kernel
theorem d_Lw_law_1249 : decode code 1249 = .ok (.ifCond .ne 14, 3) := by decide +kernel
theorem d_Lw_law_1252 : decode code 1252 = .ok (.aload_n 3, 1) := by decide +kernel
theorem d_Lw_law_1253 : decode code 1253 = .ok (.iconst 0, 1) := by decide +kernel
theorem d_Lw_law_1254 : decode code 1254 = .ok (.laload, 1) := by decide +kernel
theorem d_Lw_law_1255 : decode code 1255 = .ok (.lload 6, 2) := by decide +kernel
theorem d_Lw_law_1257 : decode code 1257 = .ok (.lcmp, 1) := by decide +kernel
theorem d_Lw_law_1258 : decode code 1258 = .ok (.ifCond .eq 5, 3) := by decide +kernel
theorem d_Lw_law_1261 : decode code 1261 = .ok (.iconst 0, 1) := by decide +kernel
theorem d_Lw_law_1262 : decode code 1262 = .ok (.ireturn, 1) := by decide +kernel
theorem d_Lw_law_1263 : decode code 1263 = .ok (.goto 250, 3) := by decide +kernel
theorem d_Lw_law_1266 : decode code 1266 = .ok (.aload_n 1, 1) := by decide +kernel
theorem d_Lw_law_1267 : decode code 1267 = .ok (.aload_n 0, 1) := by decide +kernel
theorem d_Lw_law_1268 : decode code 1268 = .ok (.iload 4, 2) := by decide +kernel
theorem d_Lw_law_1270 : decode code 1270 = .ok (.iconst 1, 1) := by decide +kernel
theorem d_Lw_law_1271 : decode code 1271 = .ok (.iadd, 1) := by decide +kernel
theorem d_Lw_law_1272 : decode code 1272 = .ok (.iaload, 1) := by decide +kernel
theorem d_Lw_law_1273 : decode code 1273 = .ok (.aload_n 0, 1) := by decide +kernel
theorem d_Lw_law_1274 : decode code 1274 = .ok (.iload 4, 2) := by decide +kernel
theorem d_Lw_law_1276 : decode code 1276 = .ok (.iconst 2, 1) := by decide +kernel
theorem d_Lw_law_1277 : decode code 1277 = .ok (.iadd, 1) := by decide +kernel
theorem d_Lw_law_1278 : decode code 1278 = .ok (.iaload, 1) := by decide +kernel
theorem d_Lw_law_1279 : decode code 1279 = .ok (.aload_n 0, 1) := by decide +kernel
theorem d_Lw_law_1280 : decode code 1280 = .ok (.iload 4, 2) := by decide +kernel
theorem d_Lw_law_1282 : decode code 1282 = .ok (.iconst 3, 1) := by decide +kernel
theorem d_Lw_law_1283 : decode code 1283 = .ok (.iadd, 1) := by decide +kernel
theorem d_Lw_law_1284 : decode code 1284 = .ok (.iaload, 1) := by decide +kernel
theorem d_Lw_law_1285 : decode code 1285 = .ok (.i2l, 1) := by decide +kernel
theorem d_Lw_law_1286 : decode code 1286 = .ok (.bipush 32, 2) := by decide +kernel
theorem d_Lw_law_1288 : decode code 1288 = .ok (.lshl, 1) := by decide +kernel
theorem d_Lw_law_1289 : decode code 1289 = .ok (.aload_n 0, 1) := by decide +kernel
theorem d_Lw_law_1290 : decode code 1290 = .ok (.iload 4, 2) := by decide +kernel
theorem d_Lw_law_1292 : decode code 1292 = .ok (.iconst 4, 1) := by decide +kernel
theorem d_Lw_law_1293 : decode code 1293 = .ok (.iadd, 1) := by decide +kernel
theorem d_Lw_law_1294 : decode code 1294 = .ok (.iaload, 1) := by decide +kernel
theorem d_Lw_law_1295 : decode code 1295 = .ok (.i2l, 1) := by decide +kernel
theorem d_Lw_law_1296 : decode code 1296 = .ok (.ldc2_w 156, 3) := by decide +kernel
theorem d_Lw_law_1299 : decode code 1299 = .ok (.land, 1) := by decide +kernel
theorem d_Lw_law_1300 : decode code 1300 = .ok (.lor, 1) := by decide +kernel
theorem d_Lw_law_1301 : decode code 1301 = .ok (.aload_n 0, 1) := by decide +kernel
theorem d_Lw_law_1302 : decode code 1302 = .ok (.iload 4, 2) := by decide +kernel
theorem d_Lw_law_1304 : decode code 1304 = .ok (.iconst 5, 1) := by decide +kernel
theorem d_Lw_law_1305 : decode code 1305 = .ok (.iadd, 1) := by decide +kernel
theorem d_Lw_law_1306 : decode code 1306 = .ok (.iaload, 1) := by decide +kernel
theorem d_Lw_law_1307 : decode code 1307 = .ok (.aload_n 3, 1) := by decide +kernel
theorem d_Lw_law_1308 : decode code 1308 = .ok (.invokestatic 158, 3) := by decide +kernel
theorem d_Lw_law_1311 : decode code 1311 = .ok (.istore 5, 2) := by decide +kernel
theorem d_Lw_law_1313 : decode code 1313 = .ok (.aload_n 2, 1) := by decide +kernel
theorem d_Lw_law_1314 : decode code 1314 = .ok (.aload_n 0, 1) := by decide +kernel
theorem d_Lw_law_1315 : decode code 1315 = .ok (.iload 4, 2) := by decide +kernel
theorem d_Lw_law_1317 : decode code 1317 = .ok (.iconst 1, 1) := by decide +kernel
theorem d_Lw_law_1318 : decode code 1318 = .ok (.iadd, 1) := by decide +kernel
theorem d_Lw_law_1319 : decode code 1319 = .ok (.iaload, 1) := by decide +kernel
theorem d_Lw_law_1320 : decode code 1320 = .ok (.aload_n 0, 1) := by decide +kernel
theorem d_Lw_law_1321 : decode code 1321 = .ok (.iload 4, 2) := by decide +kernel
theorem d_Lw_law_1323 : decode code 1323 = .ok (.iconst 2, 1) := by decide +kernel
theorem d_Lw_law_1324 : decode code 1324 = .ok (.iadd, 1) := by decide +kernel
theorem d_Lw_law_1325 : decode code 1325 = .ok (.iaload, 1) := by decide +kernel
theorem d_Lw_law_1326 : decode code 1326 = .ok (.aload_n 0, 1) := by decide +kernel
theorem d_Lw_law_1327 : decode code 1327 = .ok (.iload 4, 2) := by decide +kernel
theorem d_Lw_law_1329 : decode code 1329 = .ok (.iconst 3, 1) := by decide +kernel
theorem d_Lw_law_1330 : decode code 1330 = .ok (.iadd, 1) := by decide +kernel
theorem d_Lw_law_1331 : decode code 1331 = .ok (.iaload, 1) := by decide +kernel
theorem d_Lw_law_1332 : decode code 1332 = .ok (.i2l, 1) := by decide +kernel
theorem d_Lw_law_1333 : decode code 1333 = .ok (.bipush 32, 2) := by decide +kernel
theorem d_Lw_law_1335 : decode code 1335 = .ok (.lshl, 1) := by decide +kernel
theorem d_Lw_law_1336 : decode code 1336 = .ok (.aload_n 0, 1) := by decide +kernel
theorem d_Lw_law_1337 : decode code 1337 = .ok (.iload 4, 2) := by decide +kernel
theorem d_Lw_law_1339 : decode code 1339 = .ok (.iconst 4, 1) := by decide +kernel
theorem d_Lw_law_1340 : decode code 1340 = .ok (.iadd, 1) := by decide +kernel
theorem d_Lw_law_1341 : decode code 1341 = .ok (.iaload, 1) := by decide +kernel
theorem d_Lw_law_1342 : decode code 1342 = .ok (.i2l, 1) := by decide +kernel
theorem d_Lw_law_1343 : decode code 1343 = .ok (.ldc2_w 156, 3) := by decide +kernel
theorem d_Lw_law_1346 : decode code 1346 = .ok (.land, 1) := by decide +kernel
theorem d_Lw_law_1347 : decode code 1347 = .ok (.lor, 1) := by decide +kernel
theorem d_Lw_law_1348 : decode code 1348 = .ok (.aload_n 0, 1) := by decide +kernel
theorem d_Lw_law_1349 : decode code 1349 = .ok (.iload 4, 2) := by decide +kernel
theorem d_Lw_law_1351 : decode code 1351 = .ok (.iconst 5, 1) := by decide +kernel
theorem d_Lw_law_1352 : decode code 1352 = .ok (.iadd, 1) := by decide +kernel
theorem d_Lw_law_1353 : decode code 1353 = .ok (.iaload, 1) := by decide +kernel
theorem d_Lw_law_1354 : decode code 1354 = .ok (.invokevirtual 161, 3) := by decide +kernel
theorem d_Lw_law_1357 : decode code 1357 = .ok (.lstore 6, 2) := by decide +kernel
theorem d_Lw_law_1359 : decode code 1359 = .ok (.aload_n 2, 1) := by decide +kernel
theorem d_Lw_law_1360 : decode code 1360 = .ok (.invokevirtual 93, 3) := by decide +kernel
theorem d_Lw_law_1363 : decode code 1363 = .ok (.iload 5, 2) := by decide +kernel
theorem d_Lw_law_1365 : decode code 1365 = .ok (.if_icmp .eq 5, 3) := by decide +kernel
theorem d_Lw_law_1368 : decode code 1368 = .ok (.iconst 0, 1) := by decide +kernel
theorem d_Lw_law_1369 : decode code 1369 = .ok (.ireturn, 1) := by decide +kernel
theorem d_Lw_law_1370 : decode code 1370 = .ok (.iload 5, 2) := by decide +kernel
theorem d_Lw_law_1372 : decode code 1372 = .ok (.ifCond .ne 14, 3) := by decide +kernel
theorem d_Lw_law_1375 : decode code 1375 = .ok (.aload_n 3, 1) := by decide +kernel
theorem d_Lw_law_1376 : decode code 1376 = .ok (.iconst 0, 1) := by decide +kernel
theorem d_Lw_law_1377 : decode code 1377 = .ok (.laload, 1) := by decide +kernel
theorem d_Lw_law_1378 : decode code 1378 = .ok (.lload 6, 2) := by decide +kernel
theorem d_Lw_law_1380 : decode code 1380 = .ok (.lcmp, 1) := by decide +kernel
theorem d_Lw_law_1381 : decode code 1381 = .ok (.ifCond .eq 5, 3) := by decide +kernel
theorem d_Lw_law_1384 : decode code 1384 = .ok (.iconst 0, 1) := by decide +kernel
theorem d_Lw_law_1385 : decode code 1385 = .ok (.ireturn, 1) := by decide +kernel
theorem d_Lw_law_1386 : decode code 1386 = .ok (.goto 127, 3) := by decide +kernel
theorem d_Lw_law_1389 : decode code 1389 = .ok (.aload_n 1, 1) := by decide +kernel
theorem d_Lw_law_1390 : decode code 1390 = .ok (.aload_n 0, 1) := by decide +kernel
theorem d_Lw_law_1391 : decode code 1391 = .ok (.iload 4, 2) := by decide +kernel
theorem d_Lw_law_1393 : decode code 1393 = .ok (.iconst 1, 1) := by decide +kernel
theorem d_Lw_law_1394 : decode code 1394 = .ok (.iadd, 1) := by decide +kernel
theorem d_Lw_law_1395 : decode code 1395 = .ok (.iaload, 1) := by decide +kernel
theorem d_Lw_law_1396 : decode code 1396 = .ok (.aload_n 3, 1) := by decide +kernel
theorem d_Lw_law_1397 : decode code 1397 = .ok (.invokestatic 162, 3) := by decide +kernel
theorem d_Lw_law_1400 : decode code 1400 = .ok (.istore 5, 2) := by decide +kernel
theorem d_Lw_law_1402 : decode code 1402 = .ok (.aload_n 2, 1) := by decide +kernel
theorem d_Lw_law_1403 : decode code 1403 = .ok (.aload_n 0, 1) := by decide +kernel
theorem d_Lw_law_1404 : decode code 1404 = .ok (.iload 4, 2) := by decide +kernel
theorem d_Lw_law_1406 : decode code 1406 = .ok (.iconst 1, 1) := by decide +kernel
theorem d_Lw_law_1407 : decode code 1407 = .ok (.iadd, 1) := by decide +kernel
theorem d_Lw_law_1408 : decode code 1408 = .ok (.iaload, 1) := by decide +kernel
theorem d_Lw_law_1409 : decode code 1409 = .ok (.invokevirtual 164, 3) := by decide +kernel
theorem d_Lw_law_1412 : decode code 1412 = .ok (.istore 6, 2) := by decide +kernel
theorem d_Lw_law_1414 : decode code 1414 = .ok (.aload_n 2, 1) := by decide +kernel
theorem d_Lw_law_1415 : decode code 1415 = .ok (.invokevirtual 93, 3) := by decide +kernel
theorem d_Lw_law_1418 : decode code 1418 = .ok (.iload 5, 2) := by decide +kernel
theorem d_Lw_law_1420 : decode code 1420 = .ok (.if_icmp .eq 5, 3) := by decide +kernel
theorem d_Lw_law_1423 : decode code 1423 = .ok (.iconst 0, 1) := by decide +kernel
theorem d_Lw_law_1424 : decode code 1424 = .ok (.ireturn, 1) := by decide +kernel
theorem d_Lw_law_1425 : decode code 1425 = .ok (.iload 5, 2) := by decide +kernel
theorem d_Lw_law_1427 : decode code 1427 = .ok (.ifCond .ne 15, 3) := by decide +kernel
theorem d_Lw_law_1430 : decode code 1430 = .ok (.aload_n 3, 1) := by decide +kernel
theorem d_Lw_law_1431 : decode code 1431 = .ok (.iconst 0, 1) := by decide +kernel
theorem d_Lw_law_1432 : decode code 1432 = .ok (.laload, 1) := by decide +kernel
theorem d_Lw_law_1433 : decode code 1433 = .ok (.iload 6, 2) := by decide +kernel
theorem d_Lw_law_1435 : decode code 1435 = .ok (.i2l, 1) := by decide +kernel
theorem d_Lw_law_1436 : decode code 1436 = .ok (.lcmp, 1) := by decide +kernel
theorem d_Lw_law_1437 : decode code 1437 = .ok (.ifCond .eq 5, 3) := by decide +kernel
theorem d_Lw_law_1440 : decode code 1440 = .ok (.iconst 0, 1) := by decide +kernel
theorem d_Lw_law_1441 : decode code 1441 = .ok (.ireturn, 1) := by decide +kernel
theorem d_Lw_law_1442 : decode code 1442 = .ok (.goto 71, 3) := by decide +kernel
theorem d_Lw_law_1445 : decode code 1445 = .ok (.aload_n 1, 1) := by decide +kernel
theorem d_Lw_law_1446 : decode code 1446 = .ok (.aload_n 0, 1) := by decide +kernel
theorem d_Lw_law_1447 : decode code 1447 = .ok (.iload 4, 2) := by decide +kernel
theorem d_Lw_law_1449 : decode code 1449 = .ok (.iconst 1, 1) := by decide +kernel
theorem d_Lw_law_1450 : decode code 1450 = .ok (.iadd, 1) := by decide +kernel
theorem d_Lw_law_1451 : decode code 1451 = .ok (.iaload, 1) := by decide +kernel
theorem d_Lw_law_1452 : decode code 1452 = .ok (.aload_n 0, 1) := by decide +kernel
theorem d_Lw_law_1453 : decode code 1453 = .ok (.iload 4, 2) := by decide +kernel
theorem d_Lw_law_1455 : decode code 1455 = .ok (.iconst 2, 1) := by decide +kernel
theorem d_Lw_law_1456 : decode code 1456 = .ok (.iadd, 1) := by decide +kernel
theorem d_Lw_law_1457 : decode code 1457 = .ok (.iaload, 1) := by decide +kernel
theorem d_Lw_law_1458 : decode code 1458 = .ok (.aload_n 3, 1) := by decide +kernel
theorem d_Lw_law_1459 : decode code 1459 = .ok (.invokestatic 165, 3) := by decide +kernel
theorem d_Lw_law_1462 : decode code 1462 = .ok (.istore 5, 2) := by decide +kernel
theorem d_Lw_law_1464 : decode code 1464 = .ok (.aload_n 2, 1) := by decide +kernel
theorem d_Lw_law_1465 : decode code 1465 = .ok (.aload_n 0, 1) := by decide +kernel
theorem d_Lw_law_1466 : decode code 1466 = .ok (.iload 4, 2) := by decide +kernel
theorem d_Lw_law_1468 : decode code 1468 = .ok (.iconst 1, 1) := by decide +kernel
theorem d_Lw_law_1469 : decode code 1469 = .ok (.iadd, 1) := by decide +kernel
theorem d_Lw_law_1470 : decode code 1470 = .ok (.iaload, 1) := by decide +kernel
theorem d_Lw_law_1471 : decode code 1471 = .ok (.aload_n 0, 1) := by decide +kernel
theorem d_Lw_law_1472 : decode code 1472 = .ok (.iload 4, 2) := by decide +kernel
theorem d_Lw_law_1474 : decode code 1474 = .ok (.iconst 2, 1) := by decide +kernel
theorem d_Lw_law_1475 : decode code 1475 = .ok (.iadd, 1) := by decide +kernel
theorem d_Lw_law_1476 : decode code 1476 = .ok (.iaload, 1) := by decide +kernel
theorem d_Lw_law_1477 : decode code 1477 = .ok (.invokevirtual 167, 3) := by decide +kernel
theorem d_Lw_law_1480 : decode code 1480 = .ok (.istore 6, 2) := by decide +kernel
theorem d_Lw_law_1482 : decode code 1482 = .ok (.aload_n 2, 1) := by decide +kernel
theorem d_Lw_law_1483 : decode code 1483 = .ok (.invokevirtual 93, 3) := by decide +kernel
theorem d_Lw_law_1486 : decode code 1486 = .ok (.iload 5, 2) := by decide +kernel
theorem d_Lw_law_1488 : decode code 1488 = .ok (.if_icmp .eq 5, 3) := by decide +kernel
theorem d_Lw_law_1491 : decode code 1491 = .ok (.iconst 0, 1) := by decide +kernel
theorem d_Lw_law_1492 : decode code 1492 = .ok (.ireturn, 1) := by decide +kernel
theorem d_Lw_law_1493 : decode code 1493 = .ok (.iload 5, 2) := by decide +kernel
theorem d_Lw_law_1495 : decode code 1495 = .ok (.ifCond .ne 15, 3) := by decide +kernel
theorem d_Lw_law_1498 : decode code 1498 = .ok (.aload_n 3, 1) := by decide +kernel
theorem d_Lw_law_1499 : decode code 1499 = .ok (.iconst 0, 1) := by decide +kernel
theorem d_Lw_law_1500 : decode code 1500 = .ok (.laload, 1) := by decide +kernel
theorem d_Lw_law_1501 : decode code 1501 = .ok (.iload 6, 2) := by decide +kernel
theorem d_Lw_law_1503 : decode code 1503 = .ok (.i2l, 1) := by decide +kernel
theorem d_Lw_law_1504 : decode code 1504 = .ok (.lcmp, 1) := by decide +kernel
theorem d_Lw_law_1505 : decode code 1505 = .ok (.ifCond .eq 5, 3) := by decide +kernel
theorem d_Lw_law_1508 : decode code 1508 = .ok (.iconst 0, 1) := by decide +kernel
theorem d_Lw_law_1509 : decode code 1509 = .ok (.ireturn, 1) := by decide +kernel
theorem d_Lw_law_1510 : decode code 1510 = .ok (.goto 3, 3) := by decide +kernel
theorem d_Lw_law_1513 : decode code 1513 = .ok (.iinc 4 7, 3) := by decide +kernel
theorem d_Lw_law_1516 : decode code 1516 = .ok (.goto (-1493), 3) := by decide +kernel
theorem d_Lw_law_1519 : decode code 1519 = .ok (.iconst 1, 1) := by decide +kernel
theorem d_Lw_law_1520 : decode code 1520 = .ok (.ireturn, 1) := by decide +kernel
theorem q_Lw_law : (⟨"FlowShelfLaw", "law", "([I)Z"⟩ : MethodName).cls ≠ "java/lang/invoke/MethodHandle" ∧ (⟨"FlowShelfLaw", "law", "([I)Z"⟩ : MethodName).cls ≠ "java/lang/invoke/VarHandle" ∧ (parseMethodDescriptor (⟨"FlowShelfLaw", "law", "([I)Z"⟩ : MethodName).desc).map (fun d => d.parameters.length) = some 1 := by decide +kernel
set_option maxHeartbeats 4000000 in
set_option maxRecDepth 100000 in
theorem m_Lw_law (X : fs_X) (l : Launch) (hl0 : l.stackTraces = false) (a0 : Nat) {r : Int32} {σ σF : fs_S} (h : (f_Lw_law a0).1 σ = some (r, σF)) : fs_Met X l ⟨"FlowShelfLaw", "law", "([I)Z"⟩ (Cond.code ⟨"FlowShelfLaw", "law", "([I)Z"⟩ code 8 ret) 14 351 [.ref a0] σ (fs_eI r) σF := by
  refine fs_ofW (by decide) ?_
  intro p e s m args below meth c s₁ B hml hT hv
  obtain ⟨rfl, hw0, hG⟩ := hv
  have hx := B.exec
  have hb := B.bytes
  have hr := B.returns
  have hk := B.notSynchronized
  have S : CallFix p m c code 8 s _ fs_ws "FlowShelfLaw" := ⟨B.exec, B.bytes, hml, findClass_of_methodNamed B.named, fun w hw => atoms_spec (ws := _ :: fs_ws) B.pre w (List.mem_cons_of_mem _ hw)⟩
  have hR := fs_hR (fr := 14) (lo := 351) ((f_Lw_law a0).2 _ _ _ h)
  have hl := lv_entry ([.ref a0]) (n := 8) (Nat.le_of_ble_eq_true rfl)
  rw [lg_entry_eq]
  generalize (lg_sl ([.ref a0]) ++ List.replicate (8 - (lg_sl ([.ref a0])).length) Slot.unset).toArray = ls at hl ⊢
  have hl : lv_has ls 8 [(0, .ref a0)] := hl
  refine (?_ : fs_J X p l e (fs_rm 14 351 σ σF) s m _ below meth c (fs_Q X below _ s (fs_eI r) σ σF) r σ σF (f_Lw_law a0) (F0 m 0 ls [])) σ s.heap [] 0 0 h hw0 va_S.rf rfl rfl
  clear h hw0
  unfold f_Lw_law
  refine fs_Jnw S hG hR fs_in0 rfl fs_Y0 fs_ty0 fs_dv0 rfl tw_1_29 tw_1_30 tw_1_1 d_Lw_law_0 (fun r1 => ?_)
  refine fs_lift (fun _ _ _ _ => lv_dup hx hb d_Lw_law_3 rfl) ?_
  refine fs_JI S hG hR [] (fun zr zs zt zh => m_Fs_init X l r1 zh) tw_1_31 tw_1_32 tw_1_33 tw_1_1 rfl q_Fs_init ⟨(Nat.le_of_ble_eq_true rfl), (Nat.le_of_ble_eq_true rfl)⟩ hl.1 rfl (Nat.le_of_ble_eq_true rfl) d_Lw_law_4 ?_
  refine fs_Jeq (g2 := F0 m 7 ls [.ref r1]) rfl ?_
  refine fs_liftL (fun _ _ _ _ => lv_astore_n (lv' := [(1, .ref r1), (0, .ref a0)]) hx hb d_Lw_law_7 rfl hl (Nat.le_of_ble_eq_true rfl) rfl) (fun ls hl => ?_)
  refine fs_Jnw S hG hR fs_in12 rfl fs_Y12 fs_ty12 fs_dv12 rfl tw_5_186 tw_5_187 tw_1_11 d_Lw_law_8 (fun r2 => ?_)
  refine fs_lift (fun _ _ _ _ => lv_dup hx hb d_Lw_law_11 rfl) ?_
  refine fs_JI S hG hR [] (fun zr zs zt zh => m_Rf_init X l r2 zh) tw_5_188 tw_5_189 tw_5_190 tw_1_11 rfl q_Rf_init ⟨(Nat.le_of_ble_eq_true rfl), (Nat.le_of_ble_eq_true rfl)⟩ hl.1 rfl (Nat.le_of_ble_eq_true rfl) d_Lw_law_12 ?_
  refine fs_Jeq (g2 := F0 m 15 ls [.ref r2]) rfl ?_
  refine fs_liftL (fun _ _ _ _ => lv_astore_n (lv' := [(2, .ref r2), (1, .ref r1), (0, .ref a0)]) hx hb d_Lw_law_15 rfl hl (Nat.le_of_ble_eq_true rfl) rfl) (fun ls hl => ?_)
  refine fs_lift (fun _ _ _ _ => lv_iconst (v := 1) hx hb d_Lw_law_16 (by decide)) ?_
  refine fs_Jwj S hG hR rfl tw_5_40 d_Lw_law_17 (fun r3 => ?_)
  refine fs_liftL (fun _ _ _ _ => lv_astore_n (lv' := [(3, .ref r3), (2, .ref r2), (1, .ref r1), (0, .ref a0)]) hx hb d_Lw_law_19 rfl hl (Nat.le_of_ble_eq_true rfl) rfl) (fun ls hl => ?_)
  refine fs_lift (fun _ _ _ _ => lv_iconst (v := 0) hx hb d_Lw_law_20 (by decide)) ?_
  refine fs_liftL (fun _ _ _ _ => lv_istore (lv' := [(4, .int 0), (3, .ref r3), (2, .ref r2), (1, .ref r1), (0, .ref a0)]) hx hb d_Lw_law_21 hl (Nat.le_of_ble_eq_true rfl) rfl) (fun ls hl => ?_)
  refine fs_Jlp1 (nL := 8) (pc := 23) (rest := []) (I := fun (v4 : Int32) => [(0, .ref a0), (1, .ref r1), (2, .ref r2), (3, .ref r3), (4, .int v4)]) (fun k23 hk23 v4 ls hl => ?_) _ _ _ (lv_sub hl [4, 3, 2, 1, 0] rfl)
  refine fs_lift (fun _ _ _ _ => lv_iload hx hb d_Lw_law_23 (lv_at hl 4 rfl)) ?_
  refine fs_lift (fun _ _ _ _ => lv_aload_n hx hb d_Lw_law_25 rfl (lv_at hl 0 rfl)) ?_
  refine fs_Jal S hG d_Lw_law_26 (fun v5 => ?_)
  refine fs_lift (fun _ _ _ _ => lv_bipush (v := 7) hx hb d_Lw_law_27 (by decide)) ?_
  refine fs_lift (fun _ _ _ _ => lv_isub hx hb d_Lw_law_29) ?_
  refine fs_if (fun _ _ _ _ => lv_icmp_gt hx hb d_Lw_law_30 rfl) ?_ ?_
  · refine fs_lift (fun _ _ _ _ => lv_iconst (v := 1) hx hb d_Lw_law_1519 (by decide)) ?_
    exact fs_Jzret S hr hk rfl d_Lw_law_1520
  · refine fs_lift (fun _ _ _ _ => lv_aload_n hx hb d_Lw_law_33 rfl (lv_at hl 0 rfl)) ?_
    refine fs_lift (fun _ _ _ _ => lv_iload hx hb d_Lw_law_34 (lv_at hl 4 rfl)) ?_
    refine fs_Jai S hG d_Lw_law_36 (fun v6 => ?_)
    refine fs_lift (fun _ _ _ _ => lv_bipush (v := 31) hx hb d_Lw_law_37 (by decide)) ?_
    refine fs_lift (fun _ _ _ _ => lv_iand hx hb d_Lw_law_39) ?_
    refine fs_Jlet1 (nL := 8) (pj := 1513) (I := fun (_ : Unit) => [(0, .ref a0), (1, .ref r1), (2, .ref r2), (3, .ref r3), (4, .int v4)]) (st := fun (_ : Unit) => []) (fun _ ls hl => ?_) (fun j1513 hj1513 => ?_)
    · refine fs_Jnm (fun v172 hv9 => ?_)
      refine fs_liftL (fun _ _ _ _ => lv_iinc (k := 4) (v := v172) (lv' := [(4, .int v172), (0, .ref a0), (1, .ref r1), (2, .ref r2), (3, .ref r3)]) hx hb d_Lw_law_1513 hl rfl (by rw [hv9]; rfl) (Nat.le_of_ble_eq_true rfl) rfl) (fun ls hl => ?_)
      refine fs_lift (fun _ _ _ _ => lv_goto hx hb d_Lw_law_1516 rfl) ?_
      exact hk23 v172 ls (lv_sub hl [1, 2, 3, 4, 0] rfl)
    · refine fs_sw (fun q9 => ?_) (fun q100 => ?_)
      · refine fs_lift (fun _ _ _ _ => lv_tableIn (off := 100) (tgt := 140) hx hb d_Lw_law_40 (by rw [q9]; decide) (by rw [q9]; decide) (by rw [q9]; rfl) rfl) ?_
        refine fs_lift (fun _ _ _ _ => lv_aload_n hx hb d_Lw_law_140 rfl (lv_at hl 1 rfl)) ?_
        refine fs_lift (fun _ _ _ _ => lv_aload_n hx hb d_Lw_law_141 rfl (lv_at hl 0 rfl)) ?_
        refine fs_lift (fun _ _ _ _ => lv_iload hx hb d_Lw_law_142 (lv_at hl 4 rfl)) ?_
        refine fs_lift (fun _ _ _ _ => lv_iconst (v := 1) hx hb d_Lw_law_144 (by decide)) ?_
        refine fs_lift (fun _ _ _ _ => lv_iadd hx hb d_Lw_law_145) ?_
        refine fs_Jai S hG d_Lw_law_146 (fun v7 => ?_)
        refine fs_lift (fun _ _ _ _ => lv_aload_n hx hb d_Lw_law_147 rfl (lv_at hl 0 rfl)) ?_
        refine fs_lift (fun _ _ _ _ => lv_iload hx hb d_Lw_law_148 (lv_at hl 4 rfl)) ?_
        refine fs_lift (fun _ _ _ _ => lv_iconst (v := 2) hx hb d_Lw_law_150 (by decide)) ?_
        refine fs_lift (fun _ _ _ _ => lv_iadd hx hb d_Lw_law_151) ?_
        refine fs_Jai S hG d_Lw_law_152 (fun v8 => ?_)
        refine fs_lift (fun _ _ _ _ => lv_aload_n hx hb d_Lw_law_153 rfl (lv_at hl 0 rfl)) ?_
        refine fs_lift (fun _ _ _ _ => lv_iload hx hb d_Lw_law_154 (lv_at hl 4 rfl)) ?_
        refine fs_lift (fun _ _ _ _ => lv_iconst (v := 3) hx hb d_Lw_law_156 (by decide)) ?_
        refine fs_lift (fun _ _ _ _ => lv_iadd hx hb d_Lw_law_157) ?_
        refine fs_Jai S hG d_Lw_law_158 (fun v9 => ?_)
        refine fs_lift (fun _ _ _ _ => lv_aload_n hx hb d_Lw_law_159 rfl (lv_at hl 0 rfl)) ?_
        refine fs_lift (fun _ _ _ _ => lv_iload hx hb d_Lw_law_160 (lv_at hl 4 rfl)) ?_
        refine fs_lift (fun _ _ _ _ => lv_iconst (v := 4) hx hb d_Lw_law_162 (by decide)) ?_
        refine fs_lift (fun _ _ _ _ => lv_iadd hx hb d_Lw_law_163) ?_
        refine fs_Jai S hG d_Lw_law_164 (fun v10 => ?_)
        refine fs_lift (fun _ _ _ _ => lv_aload_n hx hb d_Lw_law_165 rfl (lv_at hl 0 rfl)) ?_
        refine fs_lift (fun _ _ _ _ => lv_iload hx hb d_Lw_law_166 (lv_at hl 4 rfl)) ?_
        refine fs_lift (fun _ _ _ _ => lv_iconst (v := 5) hx hb d_Lw_law_168 (by decide)) ?_
        refine fs_lift (fun _ _ _ _ => lv_iadd hx hb d_Lw_law_169) ?_
        refine fs_Jai S hG d_Lw_law_170 (fun v11 => ?_)
        refine fs_lift (fun _ _ _ _ => lv_aload_n hx hb d_Lw_law_171 rfl (lv_at hl 0 rfl)) ?_
        refine fs_lift (fun _ _ _ _ => lv_iload hx hb d_Lw_law_172 (lv_at hl 4 rfl)) ?_
        refine fs_lift (fun _ _ _ _ => lv_bipush (v := 6) hx hb d_Lw_law_174 (by decide)) ?_
        refine fs_lift (fun _ _ _ _ => lv_iadd hx hb d_Lw_law_176) ?_
        refine fs_Jai S hG d_Lw_law_177 (fun v12 => ?_)
        refine fs_Jlet1 (nL := 8) (pj := 186) (I := fun (v13 : Int32) => [(0, .ref a0), (1, .ref r1), (2, .ref r2), (3, .ref r3), (4, .int v4)]) (st := fun (v13 : Int32) => [.int v13, .int v11, .int v10, .int v9, .int v8, .int v7, .ref r1]) (fun v13 ls hl => ?_) (fun j186 hj186 => ?_)
        · refine fs_lift (fun _ _ _ _ => lv_aload_n hx hb d_Lw_law_186 rfl (lv_at hl 3 rfl)) ?_
          refine fs_JSW S hG hR [.ref r1, .int v7, .int v8, .int v9, .int v10, .int v11, .int v13, .ref r3] (enc := fun r => some (.int r)) (fun zr zs zt zh => m_Lw_packet X l hl0 r1 v7 v8 v9 v10 v11 v13 r3 zh) tw_2_51 tw_2_52 tw_2_53 tw_1_0 q_Lw_packet ⟨(Nat.le_of_ble_eq_true rfl), (Nat.le_of_ble_eq_true rfl)⟩ hl.1 rfl (Nat.le_of_ble_eq_true rfl) d_Lw_law_187 (fun v14 => ?_)
          refine fs_Jeq (g2 := F0 m 190 ls [.int v14]) rfl ?_
          refine fs_liftL (fun _ _ _ _ => lv_istore (lv' := [(5, .int v14), (0, .ref a0), (1, .ref r1), (2, .ref r2), (3, .ref r3), (4, .int v4)]) hx hb d_Lw_law_190 hl (Nat.le_of_ble_eq_true rfl) rfl) (fun ls hl => ?_)
          refine fs_lift (fun _ _ _ _ => lv_aload_n hx hb d_Lw_law_192 rfl (lv_at hl 3 rfl)) ?_
          refine fs_lift (fun _ _ _ _ => lv_aload_n hx hb d_Lw_law_193 rfl (lv_at hl 1 rfl)) ?_
          refine fs_lift (fun _ _ _ _ => lv_iload hx hb d_Lw_law_194 (lv_at hl 5 rfl)) ?_
          refine fs_lift (fun _ _ _ _ => lv_iconst (v := 1) hx hb d_Lw_law_196 (by decide)) ?_
          refine fs_lift (fun _ _ _ _ => lv_iadd hx hb d_Lw_law_197) ?_
          refine fs_Jai S hG d_Lw_law_198 (fun v15 => ?_)
          refine fs_lift (fun _ _ _ _ => lv_aload_n hx hb d_Lw_law_199 rfl (lv_at hl 1 rfl)) ?_
          refine fs_lift (fun _ _ _ _ => lv_iload hx hb d_Lw_law_200 (lv_at hl 5 rfl)) ?_
          refine fs_lift (fun _ _ _ _ => lv_iconst (v := 2) hx hb d_Lw_law_202 (by decide)) ?_
          refine fs_lift (fun _ _ _ _ => lv_iadd hx hb d_Lw_law_203) ?_
          refine fs_Jai S hG d_Lw_law_204 (fun v16 => ?_)
          refine fs_lift (fun _ _ _ _ => lv_aload_n hx hb d_Lw_law_205 rfl (lv_at hl 1 rfl)) ?_
          refine fs_lift (fun _ _ _ _ => lv_iload hx hb d_Lw_law_206 (lv_at hl 5 rfl)) ?_
          refine fs_lift (fun _ _ _ _ => lv_iconst (v := 3) hx hb d_Lw_law_208 (by decide)) ?_
          refine fs_lift (fun _ _ _ _ => lv_iadd hx hb d_Lw_law_209) ?_
          refine fs_Jai S hG d_Lw_law_210 (fun v17 => ?_)
          refine fs_lift (fun _ _ _ _ => lv_aload_n hx hb d_Lw_law_211 rfl (lv_at hl 1 rfl)) ?_
          refine fs_lift (fun _ _ _ _ => lv_iload hx hb d_Lw_law_212 (lv_at hl 5 rfl)) ?_
          refine fs_lift (fun _ _ _ _ => lv_iconst (v := 4) hx hb d_Lw_law_214 (by decide)) ?_
          refine fs_lift (fun _ _ _ _ => lv_iadd hx hb d_Lw_law_215) ?_
          refine fs_Jai S hG d_Lw_law_216 (fun v18 => ?_)
          refine fs_lift (fun _ _ _ _ => lv_aload_n hx hb d_Lw_law_217 rfl (lv_at hl 1 rfl)) ?_
          refine fs_lift (fun _ _ _ _ => lv_iload hx hb d_Lw_law_218 (lv_at hl 5 rfl)) ?_
          refine fs_lift (fun _ _ _ _ => lv_iconst (v := 5) hx hb d_Lw_law_220 (by decide)) ?_
          refine fs_lift (fun _ _ _ _ => lv_iadd hx hb d_Lw_law_221) ?_
          refine fs_Jai S hG d_Lw_law_222 (fun v19 => ?_)
          refine fs_lift (fun _ _ _ _ => lv_aload_n hx hb d_Lw_law_223 rfl (lv_at hl 1 rfl)) ?_
          refine fs_lift (fun _ _ _ _ => lv_iload hx hb d_Lw_law_224 (lv_at hl 5 rfl)) ?_
          refine fs_lift (fun _ _ _ _ => lv_bipush (v := 6) hx hb d_Lw_law_226 (by decide)) ?_
          refine fs_lift (fun _ _ _ _ => lv_iadd hx hb d_Lw_law_228) ?_
          refine fs_Jai S hG d_Lw_law_229 (fun v20 => ?_)
          refine fs_Jlet1 (nL := 8) (pj := 238) (I := fun (v21 : Int32) => [(0, .ref a0), (1, .ref r1), (2, .ref r2), (3, .ref r3), (4, .int v4), (5, .int v14)]) (st := fun (v21 : Int32) => [.int v21, .int v19, .int v18, .int v17, .int v16, .int v15, .ref r2]) (fun v21 ls hl => ?_) (fun j238 hj238 => ?_)
          · refine fs_JV S hG hR rfl [.int v15, .int v16, .int v17, .int v18, .int v19, .int v21] (enc := fun r => some (.int r)) (fun zr zs zt zh => m_Rf_packet X l r2 v15 v16 v17 v18 v19 v21 zh) tw_6_107 tw_6_108 tw_6_109 tw_6_110 tw_1_11 q_Rf_packet ⟨(Nat.le_of_ble_eq_true rfl), (Nat.le_of_ble_eq_true rfl)⟩ hl.1 rfl (Nat.le_of_ble_eq_true rfl) d_Lw_law_238 (fun v22 => ?_)
            refine fs_Jeq (g2 := F0 m 241 ls [.int v22]) rfl ?_
            refine fs_liftL (fun _ _ _ _ => lv_istore (lv' := [(6, .int v22), (0, .ref a0), (1, .ref r1), (2, .ref r2), (3, .ref r3), (4, .int v4), (5, .int v14)]) hx hb d_Lw_law_241 hl (Nat.le_of_ble_eq_true rfl) rfl) (fun ls hl => ?_)
            refine fs_lift (fun _ _ _ _ => lv_aload_n hx hb d_Lw_law_243 rfl (lv_at hl 3 rfl)) ?_
            refine fs_JV S hG hR rfl [] (enc := fun r => some (.int r)) (fun zr zs zt zh => m_Rf_thrown X l r2 zh) tw_6_103 tw_6_104 tw_6_105 tw_6_106 tw_1_11 q_Rf_thrown ⟨(Nat.le_of_ble_eq_true rfl), (Nat.le_of_ble_eq_true rfl)⟩ hl.1 rfl (Nat.le_of_ble_eq_true rfl) d_Lw_law_244 (fun v23 => ?_)
            refine fs_Jeq (g2 := F0 m 247 ls [.int v23]) rfl ?_
            refine fs_lift (fun _ _ _ _ => lv_iload hx hb d_Lw_law_247 (lv_at hl 6 rfl)) ?_
            refine fs_if (fun _ _ _ _ => lv_icmp_eq hx hb d_Lw_law_249 rfl) ?_ ?_
            · refine fs_lift (fun _ _ _ _ => lv_iload hx hb d_Lw_law_254 (lv_at hl 6 rfl)) ?_
              refine fs_Jlet1 (nL := 8) (pj := 278) (I := fun (_ : Unit) => [(0, .ref a0), (1, .ref r1), (2, .ref r2), (3, .ref r3), (4, .int v4)]) (st := fun (_ : Unit) => []) (fun _ ls hl => ?_) (fun j278 hj278 => ?_)
              · refine fs_lift (fun _ _ _ _ => lv_goto hx hb d_Lw_law_278 rfl) ?_
                exact hj1513 () ls (lv_sub hl [0, 1, 2, 3, 4] rfl)
              · refine fs_ifn (fun _ _ _ _ => lv_if_ne hx hb d_Lw_law_256 rfl) ?_ ?_
                · refine fs_lift (fun _ _ _ _ => lv_aload_n hx hb d_Lw_law_259 rfl (lv_at hl 4 rfl)) ?_
                  refine fs_lift (fun _ _ _ _ => lv_iconst (v := 0) hx hb d_Lw_law_260 (by decide)) ?_
                  refine fs_Jaj S hG d_Lw_law_261 (fun v24 => ?_)
                  refine fs_lift (fun _ _ _ _ => lv_iload hx hb d_Lw_law_262 (lv_at hl 0 rfl)) ?_
                  refine fs_Jlet1 (nL := 8) (pj := 272) (I := fun (v25 : Int64) => [(0, .ref a0), (1, .ref r1), (2, .ref r2), (3, .ref r3), (4, .int v4)]) (st := fun (v25 : Int64) => [.long v25, .long v24]) (fun v25 ls hl => ?_) (fun j272 hj272 => ?_)
                  · refine fs_lift (fun _ _ _ _ => W.lcmp hx hb d_Lw_law_272) ?_
                    refine fs_if (fun _ _ _ _ => lv_if_eq hx hb d_Lw_law_273 rfl) ?_ ?_
                    · exact hj278 () ls (lv_sub hl [0, 1, 2, 3, 4] rfl)
                    · refine fs_lift (fun _ _ _ _ => lv_iconst (v := 0) hx hb d_Lw_law_276 (by decide)) ?_
                      exact fs_Jzret S hr hk rfl d_Lw_law_277
                  · refine fs_if (fun _ _ _ _ => lv_if_eq hx hb d_Lw_law_264 rfl) ?_ ?_
                    · refine fs_lift (fun _ _ _ _ => lv_lconst (v := 0) hx hb d_Lw_law_271 (by decide)) ?_
                      exact hj272 0 ls (lv_sub hl [1, 2, 3, 4, 5] rfl)
                    · refine fs_lift (fun _ _ _ _ => lv_lconst (v := 1) hx hb d_Lw_law_267 (by decide)) ?_
                      refine fs_lift (fun _ _ _ _ => lv_goto hx hb d_Lw_law_268 rfl) ?_
                      exact hj272 1 ls (lv_sub hl [1, 2, 3, 4, 5] rfl)
                · exact hj278 () ls (lv_sub hl [1, 2, 3, 4, 5] rfl)
            · refine fs_lift (fun _ _ _ _ => lv_iconst (v := 0) hx hb d_Lw_law_252 (by decide)) ?_
              exact fs_Jzret S hr hk rfl d_Lw_law_253
          · refine fs_if (fun _ _ _ _ => lv_if_eq hx hb d_Lw_law_230 rfl) ?_ ?_
            · refine fs_lift (fun _ _ _ _ => lv_iconst (v := 0) hx hb d_Lw_law_237 (by decide)) ?_
              exact hj238 0 ls (lv_sub hl [1, 2, 3, 4, 5, 0] rfl)
            · refine fs_lift (fun _ _ _ _ => lv_iconst (v := 1) hx hb d_Lw_law_233 (by decide)) ?_
              refine fs_lift (fun _ _ _ _ => lv_goto hx hb d_Lw_law_234 rfl) ?_
              exact hj238 1 ls (lv_sub hl [1, 2, 3, 4, 5, 0] rfl)
        · refine fs_if (fun _ _ _ _ => lv_if_eq hx hb d_Lw_law_178 rfl) ?_ ?_
          · refine fs_lift (fun _ _ _ _ => lv_iconst (v := 0) hx hb d_Lw_law_185 (by decide)) ?_
            exact hj186 0 ls (lv_sub hl [0, 1, 2, 3, 4] rfl)
          · refine fs_lift (fun _ _ _ _ => lv_iconst (v := 1) hx hb d_Lw_law_181 (by decide)) ?_
            refine fs_lift (fun _ _ _ _ => lv_goto hx hb d_Lw_law_182 rfl) ?_
            exact hj186 1 ls (lv_sub hl [0, 1, 2, 3, 4] rfl)
      refine fs_sw (fun q9 => ?_) (fun q101 => ?_)
      · refine fs_lift (fun _ _ _ _ => lv_tableIn (off := 241) (tgt := 281) hx hb d_Lw_law_40 (by rw [q9]; decide) (by rw [q9]; decide) (by rw [q9]; rfl) rfl) ?_
        refine fs_lift (fun _ _ _ _ => lv_aload_n hx hb d_Lw_law_281 rfl (lv_at hl 1 rfl)) ?_
        refine fs_lift (fun _ _ _ _ => lv_aload_n hx hb d_Lw_law_282 rfl (lv_at hl 0 rfl)) ?_
        refine fs_lift (fun _ _ _ _ => lv_iload hx hb d_Lw_law_283 (lv_at hl 4 rfl)) ?_
        refine fs_lift (fun _ _ _ _ => lv_iconst (v := 1) hx hb d_Lw_law_285 (by decide)) ?_
        refine fs_lift (fun _ _ _ _ => lv_iadd hx hb d_Lw_law_286) ?_
        refine fs_Jai S hG d_Lw_law_287 (fun v26 => ?_)
        refine fs_lift (fun _ _ _ _ => lv_aload_n hx hb d_Lw_law_288 rfl (lv_at hl 0 rfl)) ?_
        refine fs_lift (fun _ _ _ _ => lv_iload hx hb d_Lw_law_289 (lv_at hl 4 rfl)) ?_
        refine fs_lift (fun _ _ _ _ => lv_iconst (v := 2) hx hb d_Lw_law_291 (by decide)) ?_
        refine fs_lift (fun _ _ _ _ => lv_iadd hx hb d_Lw_law_292) ?_
        refine fs_Jai S hG d_Lw_law_293 (fun v27 => ?_)
        refine fs_lift (fun _ _ _ _ => lv_aload_n hx hb d_Lw_law_294 rfl (lv_at hl 3 rfl)) ?_
        refine fs_JSW S hG hR [.ref r1, .int v26, .int v27, .ref r3] (enc := fun r => some (.int r)) (fun zr zs zt zh => m_Lw_tick X l hl0 r1 v26 v27 r3 zh) tw_3_61 tw_3_62 tw_3_63 tw_1_0 q_Lw_tick ⟨(Nat.le_of_ble_eq_true rfl), (Nat.le_of_ble_eq_true rfl)⟩ hl.1 rfl (Nat.le_of_ble_eq_true rfl) d_Lw_law_295 (fun v28 => ?_)
        refine fs_Jeq (g2 := F0 m 298 ls [.int v28]) rfl ?_
        refine fs_liftL (fun _ _ _ _ => lv_istore (lv' := [(5, .int v28), (0, .ref a0), (1, .ref r1), (2, .ref r2), (3, .ref r3), (4, .int v4)]) hx hb d_Lw_law_298 hl (Nat.le_of_ble_eq_true rfl) rfl) (fun ls hl => ?_)
        refine fs_lift (fun _ _ _ _ => lv_aload_n hx hb d_Lw_law_300 rfl (lv_at hl 3 rfl)) ?_
        refine fs_lift (fun _ _ _ _ => lv_aload_n hx hb d_Lw_law_301 rfl (lv_at hl 1 rfl)) ?_
        refine fs_lift (fun _ _ _ _ => lv_iload hx hb d_Lw_law_302 (lv_at hl 5 rfl)) ?_
        refine fs_lift (fun _ _ _ _ => lv_iconst (v := 1) hx hb d_Lw_law_304 (by decide)) ?_
        refine fs_lift (fun _ _ _ _ => lv_iadd hx hb d_Lw_law_305) ?_
        refine fs_Jai S hG d_Lw_law_306 (fun v29 => ?_)
        refine fs_lift (fun _ _ _ _ => lv_aload_n hx hb d_Lw_law_307 rfl (lv_at hl 1 rfl)) ?_
        refine fs_lift (fun _ _ _ _ => lv_iload hx hb d_Lw_law_308 (lv_at hl 5 rfl)) ?_
        refine fs_lift (fun _ _ _ _ => lv_iconst (v := 2) hx hb d_Lw_law_310 (by decide)) ?_
        refine fs_lift (fun _ _ _ _ => lv_iadd hx hb d_Lw_law_311) ?_
        refine fs_Jai S hG d_Lw_law_312 (fun v30 => ?_)
        refine fs_JV S hG hR rfl [.int v29, .int v30] (enc := fun r => some (.int r)) (fun zr zs zt zh => m_Rf_tick X l r2 v29 v30 zh) tw_6_127 tw_6_128 tw_6_129 tw_6_130 tw_1_11 q_Rf_tick ⟨(Nat.le_of_ble_eq_true rfl), (Nat.le_of_ble_eq_true rfl)⟩ hl.1 rfl (Nat.le_of_ble_eq_true rfl) d_Lw_law_313 (fun v31 => ?_)
        refine fs_Jeq (g2 := F0 m 316 ls [.int v31]) rfl ?_
        refine fs_liftL (fun _ _ _ _ => lv_istore (lv' := [(6, .int v31), (5, .int v28), (0, .ref a0), (1, .ref r1), (2, .ref r2), (3, .ref r3), (4, .int v4)]) hx hb d_Lw_law_316 hl (Nat.le_of_ble_eq_true rfl) rfl) (fun ls hl => ?_)
        refine fs_lift (fun _ _ _ _ => lv_aload_n hx hb d_Lw_law_318 rfl (lv_at hl 4 rfl)) ?_
        refine fs_JV S hG hR rfl [] (enc := fun r => some (.int r)) (fun zr zs zt zh => m_Rf_thrown X l r2 zh) tw_6_103 tw_6_104 tw_6_105 tw_6_106 tw_1_11 q_Rf_thrown ⟨(Nat.le_of_ble_eq_true rfl), (Nat.le_of_ble_eq_true rfl)⟩ hl.1 rfl (Nat.le_of_ble_eq_true rfl) d_Lw_law_319 (fun v32 => ?_)
        refine fs_Jeq (g2 := F0 m 322 ls [.int v32]) rfl ?_
        refine fs_lift (fun _ _ _ _ => lv_iload hx hb d_Lw_law_322 (lv_at hl 1 rfl)) ?_
        refine fs_if (fun _ _ _ _ => lv_icmp_eq hx hb d_Lw_law_324 rfl) ?_ ?_
        · refine fs_lift (fun _ _ _ _ => lv_iload hx hb d_Lw_law_329 (lv_at hl 1 rfl)) ?_
          refine fs_Jlet1 (nL := 8) (pj := 346) (I := fun (_ : Unit) => [(0, .ref a0), (1, .ref r1), (2, .ref r2), (3, .ref r3), (4, .int v4)]) (st := fun (_ : Unit) => []) (fun _ ls hl => ?_) (fun j346 hj346 => ?_)
          · refine fs_lift (fun _ _ _ _ => lv_goto hx hb d_Lw_law_346 rfl) ?_
            exact hj1513 () ls (lv_sub hl [0, 1, 2, 3, 4] rfl)
          · refine fs_ifn (fun _ _ _ _ => lv_if_ne hx hb d_Lw_law_331 rfl) ?_ ?_
            · refine fs_lift (fun _ _ _ _ => lv_aload_n hx hb d_Lw_law_334 rfl (lv_at hl 5 rfl)) ?_
              refine fs_lift (fun _ _ _ _ => lv_iconst (v := 0) hx hb d_Lw_law_335 (by decide)) ?_
              refine fs_Jaj S hG d_Lw_law_336 (fun v33 => ?_)
              refine fs_lift (fun _ _ _ _ => lv_iload hx hb d_Lw_law_337 (lv_at hl 0 rfl)) ?_
              refine fs_lift (fun _ _ _ _ => lv_i2l hx hb d_Lw_law_339 rfl) ?_
              refine fs_lift (fun _ _ _ _ => W.lcmp hx hb d_Lw_law_340) ?_
              refine fs_if (fun _ _ _ _ => lv_if_eq hx hb d_Lw_law_341 rfl) ?_ ?_
              · exact hj346 () ls (lv_sub hl [2, 3, 4, 5, 6] rfl)
              · refine fs_lift (fun _ _ _ _ => lv_iconst (v := 0) hx hb d_Lw_law_344 (by decide)) ?_
                exact fs_Jzret S hr hk rfl d_Lw_law_345
            · exact hj346 () ls (lv_sub hl [2, 3, 4, 5, 6] rfl)
        · refine fs_lift (fun _ _ _ _ => lv_iconst (v := 0) hx hb d_Lw_law_327 (by decide)) ?_
          exact fs_Jzret S hr hk rfl d_Lw_law_328
      refine fs_sw (fun q9 => ?_) (fun q102 => ?_)
      · refine fs_lift (fun _ _ _ _ => lv_tableIn (off := 309) (tgt := 349) hx hb d_Lw_law_40 (by rw [q9]; decide) (by rw [q9]; decide) (by rw [q9]; rfl) rfl) ?_
        refine fs_lift (fun _ _ _ _ => lv_aload_n hx hb d_Lw_law_349 rfl (lv_at hl 1 rfl)) ?_
        refine fs_lift (fun _ _ _ _ => lv_aload_n hx hb d_Lw_law_350 rfl (lv_at hl 0 rfl)) ?_
        refine fs_lift (fun _ _ _ _ => lv_iload hx hb d_Lw_law_351 (lv_at hl 4 rfl)) ?_
        refine fs_lift (fun _ _ _ _ => lv_iconst (v := 1) hx hb d_Lw_law_353 (by decide)) ?_
        refine fs_lift (fun _ _ _ _ => lv_iadd hx hb d_Lw_law_354) ?_
        refine fs_Jai S hG d_Lw_law_355 (fun v34 => ?_)
        refine fs_lift (fun _ _ _ _ => lv_aload_n hx hb d_Lw_law_356 rfl (lv_at hl 3 rfl)) ?_
        refine fs_JSW S hG hR [.ref r1, .int v34, .ref r3] (enc := fun r => some (.int r)) (fun zr zs zt zh => m_Lw_flush X l hl0 r1 v34 r3 zh) tw_3_77 tw_3_78 tw_3_79 tw_1_0 q_Lw_flush ⟨(Nat.le_of_ble_eq_true rfl), (Nat.le_of_ble_eq_true rfl)⟩ hl.1 rfl (Nat.le_of_ble_eq_true rfl) d_Lw_law_357 (fun v35 => ?_)
        refine fs_Jeq (g2 := F0 m 360 ls [.int v35]) rfl ?_
        refine fs_liftL (fun _ _ _ _ => lv_istore (lv' := [(5, .int v35), (0, .ref a0), (1, .ref r1), (2, .ref r2), (3, .ref r3), (4, .int v4)]) hx hb d_Lw_law_360 hl (Nat.le_of_ble_eq_true rfl) rfl) (fun ls hl => ?_)
        refine fs_lift (fun _ _ _ _ => lv_aload_n hx hb d_Lw_law_362 rfl (lv_at hl 3 rfl)) ?_
        refine fs_lift (fun _ _ _ _ => lv_aload_n hx hb d_Lw_law_363 rfl (lv_at hl 1 rfl)) ?_
        refine fs_lift (fun _ _ _ _ => lv_iload hx hb d_Lw_law_364 (lv_at hl 5 rfl)) ?_
        refine fs_lift (fun _ _ _ _ => lv_iconst (v := 1) hx hb d_Lw_law_366 (by decide)) ?_
        refine fs_lift (fun _ _ _ _ => lv_iadd hx hb d_Lw_law_367) ?_
        refine fs_Jai S hG d_Lw_law_368 (fun v36 => ?_)
        refine fs_JV S hG hR rfl [.int v36] (enc := fun r => some (.int r)) (fun zr zs zt zh => m_Rf_flush X l r2 v36 zh) tw_6_131 tw_6_132 tw_6_133 tw_6_134 tw_1_11 q_Rf_flush ⟨(Nat.le_of_ble_eq_true rfl), (Nat.le_of_ble_eq_true rfl)⟩ hl.1 rfl (Nat.le_of_ble_eq_true rfl) d_Lw_law_369 (fun v37 => ?_)
        refine fs_Jeq (g2 := F0 m 372 ls [.int v37]) rfl ?_
        refine fs_liftL (fun _ _ _ _ => lv_istore (lv' := [(6, .int v37), (5, .int v35), (0, .ref a0), (1, .ref r1), (2, .ref r2), (3, .ref r3), (4, .int v4)]) hx hb d_Lw_law_372 hl (Nat.le_of_ble_eq_true rfl) rfl) (fun ls hl => ?_)
        refine fs_lift (fun _ _ _ _ => lv_aload_n hx hb d_Lw_law_374 rfl (lv_at hl 4 rfl)) ?_
        refine fs_JV S hG hR rfl [] (enc := fun r => some (.int r)) (fun zr zs zt zh => m_Rf_thrown X l r2 zh) tw_6_103 tw_6_104 tw_6_105 tw_6_106 tw_1_11 q_Rf_thrown ⟨(Nat.le_of_ble_eq_true rfl), (Nat.le_of_ble_eq_true rfl)⟩ hl.1 rfl (Nat.le_of_ble_eq_true rfl) d_Lw_law_375 (fun v38 => ?_)
        refine fs_Jeq (g2 := F0 m 378 ls [.int v38]) rfl ?_
        refine fs_lift (fun _ _ _ _ => lv_iload hx hb d_Lw_law_378 (lv_at hl 1 rfl)) ?_
        refine fs_if (fun _ _ _ _ => lv_icmp_eq hx hb d_Lw_law_380 rfl) ?_ ?_
        · refine fs_lift (fun _ _ _ _ => lv_iload hx hb d_Lw_law_385 (lv_at hl 1 rfl)) ?_
          refine fs_Jlet1 (nL := 8) (pj := 402) (I := fun (_ : Unit) => [(0, .ref a0), (1, .ref r1), (2, .ref r2), (3, .ref r3), (4, .int v4)]) (st := fun (_ : Unit) => []) (fun _ ls hl => ?_) (fun j402 hj402 => ?_)
          · refine fs_lift (fun _ _ _ _ => lv_goto hx hb d_Lw_law_402 rfl) ?_
            exact hj1513 () ls (lv_sub hl [0, 1, 2, 3, 4] rfl)
          · refine fs_ifn (fun _ _ _ _ => lv_if_ne hx hb d_Lw_law_387 rfl) ?_ ?_
            · refine fs_lift (fun _ _ _ _ => lv_aload_n hx hb d_Lw_law_390 rfl (lv_at hl 5 rfl)) ?_
              refine fs_lift (fun _ _ _ _ => lv_iconst (v := 0) hx hb d_Lw_law_391 (by decide)) ?_
              refine fs_Jaj S hG d_Lw_law_392 (fun v39 => ?_)
              refine fs_lift (fun _ _ _ _ => lv_iload hx hb d_Lw_law_393 (lv_at hl 0 rfl)) ?_
              refine fs_lift (fun _ _ _ _ => lv_i2l hx hb d_Lw_law_395 rfl) ?_
              refine fs_lift (fun _ _ _ _ => W.lcmp hx hb d_Lw_law_396) ?_
              refine fs_if (fun _ _ _ _ => lv_if_eq hx hb d_Lw_law_397 rfl) ?_ ?_
              · exact hj402 () ls (lv_sub hl [2, 3, 4, 5, 6] rfl)
              · refine fs_lift (fun _ _ _ _ => lv_iconst (v := 0) hx hb d_Lw_law_400 (by decide)) ?_
                exact fs_Jzret S hr hk rfl d_Lw_law_401
            · exact hj402 () ls (lv_sub hl [2, 3, 4, 5, 6] rfl)
        · refine fs_lift (fun _ _ _ _ => lv_iconst (v := 0) hx hb d_Lw_law_383 (by decide)) ?_
          exact fs_Jzret S hr hk rfl d_Lw_law_384
      refine fs_sw (fun q9 => ?_) (fun q103 => ?_)
      · refine fs_lift (fun _ _ _ _ => lv_tableIn (off := 365) (tgt := 405) hx hb d_Lw_law_40 (by rw [q9]; decide) (by rw [q9]; decide) (by rw [q9]; rfl) rfl) ?_
        refine fs_lift (fun _ _ _ _ => lv_aload_n hx hb d_Lw_law_405 rfl (lv_at hl 1 rfl)) ?_
        refine fs_lift (fun _ _ _ _ => lv_aload_n hx hb d_Lw_law_406 rfl (lv_at hl 0 rfl)) ?_
        refine fs_lift (fun _ _ _ _ => lv_iload hx hb d_Lw_law_407 (lv_at hl 4 rfl)) ?_
        refine fs_lift (fun _ _ _ _ => lv_iconst (v := 1) hx hb d_Lw_law_409 (by decide)) ?_
        refine fs_lift (fun _ _ _ _ => lv_iadd hx hb d_Lw_law_410) ?_
        refine fs_Jai S hG d_Lw_law_411 (fun v40 => ?_)
        refine fs_lift (fun _ _ _ _ => lv_aload_n hx hb d_Lw_law_412 rfl (lv_at hl 0 rfl)) ?_
        refine fs_lift (fun _ _ _ _ => lv_iload hx hb d_Lw_law_413 (lv_at hl 4 rfl)) ?_
        refine fs_lift (fun _ _ _ _ => lv_iconst (v := 2) hx hb d_Lw_law_415 (by decide)) ?_
        refine fs_lift (fun _ _ _ _ => lv_iadd hx hb d_Lw_law_416) ?_
        refine fs_Jai S hG d_Lw_law_417 (fun v41 => ?_)
        refine fs_JSW S hG hR [.ref r1, .int v40, .int v41] (enc := fun r => some (.int r)) (fun zr zs zt zh => m_Lw_sampler X l hl0 r1 v40 v41 zh) tw_3_88 tw_3_89 tw_3_90 tw_1_0 q_Lw_sampler ⟨(Nat.le_of_ble_eq_true rfl), (Nat.le_of_ble_eq_true rfl)⟩ hl.1 rfl (Nat.le_of_ble_eq_true rfl) d_Lw_law_418 (fun v42 => ?_)
        refine fs_Jeq (g2 := F0 m 421 ls [.int v42]) rfl ?_
        refine fs_liftL (fun _ _ _ _ => lv_istore (lv' := [(5, .int v42), (0, .ref a0), (1, .ref r1), (2, .ref r2), (3, .ref r3), (4, .int v4)]) hx hb d_Lw_law_421 hl (Nat.le_of_ble_eq_true rfl) rfl) (fun ls hl => ?_)
        refine fs_lift (fun _ _ _ _ => lv_aload_n hx hb d_Lw_law_423 rfl (lv_at hl 3 rfl)) ?_
        refine fs_lift (fun _ _ _ _ => lv_aload_n hx hb d_Lw_law_424 rfl (lv_at hl 1 rfl)) ?_
        refine fs_lift (fun _ _ _ _ => lv_iload hx hb d_Lw_law_425 (lv_at hl 5 rfl)) ?_
        refine fs_lift (fun _ _ _ _ => lv_iconst (v := 1) hx hb d_Lw_law_427 (by decide)) ?_
        refine fs_lift (fun _ _ _ _ => lv_iadd hx hb d_Lw_law_428) ?_
        refine fs_Jai S hG d_Lw_law_429 (fun v43 => ?_)
        refine fs_lift (fun _ _ _ _ => lv_aload_n hx hb d_Lw_law_430 rfl (lv_at hl 1 rfl)) ?_
        refine fs_lift (fun _ _ _ _ => lv_iload hx hb d_Lw_law_431 (lv_at hl 5 rfl)) ?_
        refine fs_lift (fun _ _ _ _ => lv_iconst (v := 2) hx hb d_Lw_law_433 (by decide)) ?_
        refine fs_lift (fun _ _ _ _ => lv_iadd hx hb d_Lw_law_434) ?_
        refine fs_Jai S hG d_Lw_law_435 (fun v44 => ?_)
        refine fs_JV S hG hR rfl [.int v43, .int v44] (enc := fun _ => none) (fun zr zs zt zh => m_Rf_sampler X l r2 v43 v44 zh) tw_6_135 tw_6_136 tw_6_137 tw_6_138 tw_1_11 q_Rf_sampler ⟨(Nat.le_of_ble_eq_true rfl), (Nat.le_of_ble_eq_true rfl)⟩ hl.1 rfl (Nat.le_of_ble_eq_true rfl) d_Lw_law_436 (fun _ => ?_)
        refine fs_Jeq (g2 := F0 m 439 ls []) rfl ?_
        refine fs_lift (fun _ _ _ _ => lv_aload_n hx hb d_Lw_law_439 rfl (lv_at hl 3 rfl)) ?_
        refine fs_JV S hG hR rfl [] (enc := fun r => some (.int r)) (fun zr zs zt zh => m_Rf_thrown X l r2 zh) tw_6_103 tw_6_104 tw_6_105 tw_6_106 tw_1_11 q_Rf_thrown ⟨(Nat.le_of_ble_eq_true rfl), (Nat.le_of_ble_eq_true rfl)⟩ hl.1 rfl (Nat.le_of_ble_eq_true rfl) d_Lw_law_440 (fun v45 => ?_)
        refine fs_Jeq (g2 := F0 m 443 ls [.int v45]) rfl ?_
        refine fs_lift (fun _ _ _ _ => lv_iload hx hb d_Lw_law_443 (lv_at hl 0 rfl)) ?_
        refine fs_if (fun _ _ _ _ => lv_icmp_eq hx hb d_Lw_law_445 rfl) ?_ ?_
        · refine fs_lift (fun _ _ _ _ => lv_goto hx hb d_Lw_law_450 rfl) ?_
          exact hj1513 () ls (lv_sub hl [1, 2, 3, 4, 5] rfl)
        · refine fs_lift (fun _ _ _ _ => lv_iconst (v := 0) hx hb d_Lw_law_448 (by decide)) ?_
          exact fs_Jzret S hr hk rfl d_Lw_law_449
      refine fs_sw (fun q9 => ?_) (fun q104 => ?_)
      · refine fs_lift (fun _ _ _ _ => lv_tableIn (off := 413) (tgt := 453) hx hb d_Lw_law_40 (by rw [q9]; decide) (by rw [q9]; decide) (by rw [q9]; rfl) rfl) ?_
        refine fs_lift (fun _ _ _ _ => lv_aload_n hx hb d_Lw_law_453 rfl (lv_at hl 1 rfl)) ?_
        refine fs_lift (fun _ _ _ _ => lv_aload_n hx hb d_Lw_law_454 rfl (lv_at hl 0 rfl)) ?_
        refine fs_lift (fun _ _ _ _ => lv_iload hx hb d_Lw_law_455 (lv_at hl 4 rfl)) ?_
        refine fs_lift (fun _ _ _ _ => lv_iconst (v := 1) hx hb d_Lw_law_457 (by decide)) ?_
        refine fs_lift (fun _ _ _ _ => lv_iadd hx hb d_Lw_law_458) ?_
        refine fs_Jai S hG d_Lw_law_459 (fun v46 => ?_)
        refine fs_lift (fun _ _ _ _ => lv_aload_n hx hb d_Lw_law_460 rfl (lv_at hl 0 rfl)) ?_
        refine fs_lift (fun _ _ _ _ => lv_iload hx hb d_Lw_law_461 (lv_at hl 4 rfl)) ?_
        refine fs_lift (fun _ _ _ _ => lv_iconst (v := 2) hx hb d_Lw_law_463 (by decide)) ?_
        refine fs_lift (fun _ _ _ _ => lv_iadd hx hb d_Lw_law_464) ?_
        refine fs_Jai S hG d_Lw_law_465 (fun v47 => ?_)
        refine fs_lift (fun _ _ _ _ => lv_aload_n hx hb d_Lw_law_466 rfl (lv_at hl 0 rfl)) ?_
        refine fs_lift (fun _ _ _ _ => lv_iload hx hb d_Lw_law_467 (lv_at hl 4 rfl)) ?_
        refine fs_lift (fun _ _ _ _ => lv_iconst (v := 3) hx hb d_Lw_law_469 (by decide)) ?_
        refine fs_lift (fun _ _ _ _ => lv_iadd hx hb d_Lw_law_470) ?_
        refine fs_Jai S hG d_Lw_law_471 (fun v48 => ?_)
        refine fs_lift (fun _ _ _ _ => lv_aload_n hx hb d_Lw_law_472 rfl (lv_at hl 3 rfl)) ?_
        refine fs_JSW S hG hR [.ref r1, .int v46, .int v47, .int v48, .ref r3] (enc := fun r => some (.int r)) (fun zr zs zt zh => m_Lw_ended X l hl0 r1 v46 v47 v48 r3 zh) tw_3_100 tw_3_101 tw_3_102 tw_1_0 q_Lw_ended ⟨(Nat.le_of_ble_eq_true rfl), (Nat.le_of_ble_eq_true rfl)⟩ hl.1 rfl (Nat.le_of_ble_eq_true rfl) d_Lw_law_473 (fun v49 => ?_)
        refine fs_Jeq (g2 := F0 m 476 ls [.int v49]) rfl ?_
        refine fs_liftL (fun _ _ _ _ => lv_istore (lv' := [(5, .int v49), (0, .ref a0), (1, .ref r1), (2, .ref r2), (3, .ref r3), (4, .int v4)]) hx hb d_Lw_law_476 hl (Nat.le_of_ble_eq_true rfl) rfl) (fun ls hl => ?_)
        refine fs_lift (fun _ _ _ _ => lv_aload_n hx hb d_Lw_law_478 rfl (lv_at hl 3 rfl)) ?_
        refine fs_lift (fun _ _ _ _ => lv_aload_n hx hb d_Lw_law_479 rfl (lv_at hl 1 rfl)) ?_
        refine fs_lift (fun _ _ _ _ => lv_iload hx hb d_Lw_law_480 (lv_at hl 5 rfl)) ?_
        refine fs_lift (fun _ _ _ _ => lv_iconst (v := 1) hx hb d_Lw_law_482 (by decide)) ?_
        refine fs_lift (fun _ _ _ _ => lv_iadd hx hb d_Lw_law_483) ?_
        refine fs_Jai S hG d_Lw_law_484 (fun v50 => ?_)
        refine fs_lift (fun _ _ _ _ => lv_aload_n hx hb d_Lw_law_485 rfl (lv_at hl 1 rfl)) ?_
        refine fs_lift (fun _ _ _ _ => lv_iload hx hb d_Lw_law_486 (lv_at hl 5 rfl)) ?_
        refine fs_lift (fun _ _ _ _ => lv_iconst (v := 2) hx hb d_Lw_law_488 (by decide)) ?_
        refine fs_lift (fun _ _ _ _ => lv_iadd hx hb d_Lw_law_489) ?_
        refine fs_Jai S hG d_Lw_law_490 (fun v51 => ?_)
        refine fs_lift (fun _ _ _ _ => lv_aload_n hx hb d_Lw_law_491 rfl (lv_at hl 1 rfl)) ?_
        refine fs_lift (fun _ _ _ _ => lv_iload hx hb d_Lw_law_492 (lv_at hl 5 rfl)) ?_
        refine fs_lift (fun _ _ _ _ => lv_iconst (v := 3) hx hb d_Lw_law_494 (by decide)) ?_
        refine fs_lift (fun _ _ _ _ => lv_iadd hx hb d_Lw_law_495) ?_
        refine fs_Jai S hG d_Lw_law_496 (fun v52 => ?_)
        refine fs_JV S hG hR rfl [.int v50, .int v51, .int v52] (enc := fun r => some (.int r)) (fun zr zs zt zh => m_Rf_ended X l r2 v50 v51 v52 zh) tw_6_139 tw_6_140 tw_6_141 tw_6_142 tw_1_11 q_Rf_ended ⟨(Nat.le_of_ble_eq_true rfl), (Nat.le_of_ble_eq_true rfl)⟩ hl.1 rfl (Nat.le_of_ble_eq_true rfl) d_Lw_law_497 (fun v53 => ?_)
        refine fs_Jeq (g2 := F0 m 500 ls [.int v53]) rfl ?_
        refine fs_liftL (fun _ _ _ _ => lv_istore (lv' := [(6, .int v53), (5, .int v49), (0, .ref a0), (1, .ref r1), (2, .ref r2), (3, .ref r3), (4, .int v4)]) hx hb d_Lw_law_500 hl (Nat.le_of_ble_eq_true rfl) rfl) (fun ls hl => ?_)
        refine fs_lift (fun _ _ _ _ => lv_aload_n hx hb d_Lw_law_502 rfl (lv_at hl 4 rfl)) ?_
        refine fs_JV S hG hR rfl [] (enc := fun r => some (.int r)) (fun zr zs zt zh => m_Rf_thrown X l r2 zh) tw_6_103 tw_6_104 tw_6_105 tw_6_106 tw_1_11 q_Rf_thrown ⟨(Nat.le_of_ble_eq_true rfl), (Nat.le_of_ble_eq_true rfl)⟩ hl.1 rfl (Nat.le_of_ble_eq_true rfl) d_Lw_law_503 (fun v54 => ?_)
        refine fs_Jeq (g2 := F0 m 506 ls [.int v54]) rfl ?_
        refine fs_lift (fun _ _ _ _ => lv_iload hx hb d_Lw_law_506 (lv_at hl 1 rfl)) ?_
        refine fs_if (fun _ _ _ _ => lv_icmp_eq hx hb d_Lw_law_508 rfl) ?_ ?_
        · refine fs_lift (fun _ _ _ _ => lv_iload hx hb d_Lw_law_513 (lv_at hl 1 rfl)) ?_
          refine fs_Jlet1 (nL := 8) (pj := 530) (I := fun (_ : Unit) => [(0, .ref a0), (1, .ref r1), (2, .ref r2), (3, .ref r3), (4, .int v4)]) (st := fun (_ : Unit) => []) (fun _ ls hl => ?_) (fun j530 hj530 => ?_)
          · refine fs_lift (fun _ _ _ _ => lv_goto hx hb d_Lw_law_530 rfl) ?_
            exact hj1513 () ls (lv_sub hl [0, 1, 2, 3, 4] rfl)
          · refine fs_ifn (fun _ _ _ _ => lv_if_ne hx hb d_Lw_law_515 rfl) ?_ ?_
            · refine fs_lift (fun _ _ _ _ => lv_aload_n hx hb d_Lw_law_518 rfl (lv_at hl 5 rfl)) ?_
              refine fs_lift (fun _ _ _ _ => lv_iconst (v := 0) hx hb d_Lw_law_519 (by decide)) ?_
              refine fs_Jaj S hG d_Lw_law_520 (fun v55 => ?_)
              refine fs_lift (fun _ _ _ _ => lv_iload hx hb d_Lw_law_521 (lv_at hl 0 rfl)) ?_
              refine fs_lift (fun _ _ _ _ => lv_i2l hx hb d_Lw_law_523 rfl) ?_
              refine fs_lift (fun _ _ _ _ => W.lcmp hx hb d_Lw_law_524) ?_
              refine fs_if (fun _ _ _ _ => lv_if_eq hx hb d_Lw_law_525 rfl) ?_ ?_
              · exact hj530 () ls (lv_sub hl [2, 3, 4, 5, 6] rfl)
              · refine fs_lift (fun _ _ _ _ => lv_iconst (v := 0) hx hb d_Lw_law_528 (by decide)) ?_
                exact fs_Jzret S hr hk rfl d_Lw_law_529
            · exact hj530 () ls (lv_sub hl [2, 3, 4, 5, 6] rfl)
        · refine fs_lift (fun _ _ _ _ => lv_iconst (v := 0) hx hb d_Lw_law_511 (by decide)) ?_
          exact fs_Jzret S hr hk rfl d_Lw_law_512
      refine fs_sw (fun q9 => ?_) (fun q105 => ?_)
      · refine fs_lift (fun _ _ _ _ => lv_tableIn (off := 493) (tgt := 533) hx hb d_Lw_law_40 (by rw [q9]; decide) (by rw [q9]; decide) (by rw [q9]; rfl) rfl) ?_
        refine fs_lift (fun _ _ _ _ => lv_aload_n hx hb d_Lw_law_533 rfl (lv_at hl 1 rfl)) ?_
        refine fs_lift (fun _ _ _ _ => lv_aload_n hx hb d_Lw_law_534 rfl (lv_at hl 0 rfl)) ?_
        refine fs_lift (fun _ _ _ _ => lv_iload hx hb d_Lw_law_535 (lv_at hl 4 rfl)) ?_
        refine fs_lift (fun _ _ _ _ => lv_iconst (v := 1) hx hb d_Lw_law_537 (by decide)) ?_
        refine fs_lift (fun _ _ _ _ => lv_iadd hx hb d_Lw_law_538) ?_
        refine fs_Jai S hG d_Lw_law_539 (fun v56 => ?_)
        refine fs_lift (fun _ _ _ _ => lv_aload_n hx hb d_Lw_law_540 rfl (lv_at hl 0 rfl)) ?_
        refine fs_lift (fun _ _ _ _ => lv_iload hx hb d_Lw_law_541 (lv_at hl 4 rfl)) ?_
        refine fs_lift (fun _ _ _ _ => lv_iconst (v := 2) hx hb d_Lw_law_543 (by decide)) ?_
        refine fs_lift (fun _ _ _ _ => lv_iadd hx hb d_Lw_law_544) ?_
        refine fs_Jai S hG d_Lw_law_545 (fun v57 => ?_)
        refine fs_lift (fun _ _ _ _ => lv_aload_n hx hb d_Lw_law_546 rfl (lv_at hl 0 rfl)) ?_
        refine fs_lift (fun _ _ _ _ => lv_iload hx hb d_Lw_law_547 (lv_at hl 4 rfl)) ?_
        refine fs_lift (fun _ _ _ _ => lv_iconst (v := 3) hx hb d_Lw_law_549 (by decide)) ?_
        refine fs_lift (fun _ _ _ _ => lv_iadd hx hb d_Lw_law_550) ?_
        refine fs_Jai S hG d_Lw_law_551 (fun v58 => ?_)
        refine fs_lift (fun _ _ _ _ => lv_aload_n hx hb d_Lw_law_552 rfl (lv_at hl 0 rfl)) ?_
        refine fs_lift (fun _ _ _ _ => lv_iload hx hb d_Lw_law_553 (lv_at hl 4 rfl)) ?_
        refine fs_lift (fun _ _ _ _ => lv_iconst (v := 4) hx hb d_Lw_law_555 (by decide)) ?_
        refine fs_lift (fun _ _ _ _ => lv_iadd hx hb d_Lw_law_556) ?_
        refine fs_Jai S hG d_Lw_law_557 (fun v59 => ?_)
        refine fs_lift (fun _ _ _ _ => lv_aload_n hx hb d_Lw_law_558 rfl (lv_at hl 3 rfl)) ?_
        refine fs_JSW S hG hR [.ref r1, .int v56, .int v57, .int v58, .int v59, .ref r3] (enc := fun r => some (.int r)) (fun zr zs zt zh => m_Lw_field X l hl0 r1 v56 v57 v58 v59 r3 zh) tw_3_133 tw_3_134 tw_3_135 tw_1_0 q_Lw_field ⟨(Nat.le_of_ble_eq_true rfl), (Nat.le_of_ble_eq_true rfl)⟩ hl.1 rfl (Nat.le_of_ble_eq_true rfl) d_Lw_law_559 (fun v60 => ?_)
        refine fs_Jeq (g2 := F0 m 562 ls [.int v60]) rfl ?_
        refine fs_liftL (fun _ _ _ _ => lv_istore (lv' := [(5, .int v60), (0, .ref a0), (1, .ref r1), (2, .ref r2), (3, .ref r3), (4, .int v4)]) hx hb d_Lw_law_562 hl (Nat.le_of_ble_eq_true rfl) rfl) (fun ls hl => ?_)
        refine fs_lift (fun _ _ _ _ => lv_aload_n hx hb d_Lw_law_564 rfl (lv_at hl 3 rfl)) ?_
        refine fs_lift (fun _ _ _ _ => lv_aload_n hx hb d_Lw_law_565 rfl (lv_at hl 1 rfl)) ?_
        refine fs_lift (fun _ _ _ _ => lv_iload hx hb d_Lw_law_566 (lv_at hl 5 rfl)) ?_
        refine fs_lift (fun _ _ _ _ => lv_iconst (v := 1) hx hb d_Lw_law_568 (by decide)) ?_
        refine fs_lift (fun _ _ _ _ => lv_iadd hx hb d_Lw_law_569) ?_
        refine fs_Jai S hG d_Lw_law_570 (fun v61 => ?_)
        refine fs_lift (fun _ _ _ _ => lv_aload_n hx hb d_Lw_law_571 rfl (lv_at hl 1 rfl)) ?_
        refine fs_lift (fun _ _ _ _ => lv_iload hx hb d_Lw_law_572 (lv_at hl 5 rfl)) ?_
        refine fs_lift (fun _ _ _ _ => lv_iconst (v := 2) hx hb d_Lw_law_574 (by decide)) ?_
        refine fs_lift (fun _ _ _ _ => lv_iadd hx hb d_Lw_law_575) ?_
        refine fs_Jai S hG d_Lw_law_576 (fun v62 => ?_)
        refine fs_lift (fun _ _ _ _ => lv_aload_n hx hb d_Lw_law_577 rfl (lv_at hl 1 rfl)) ?_
        refine fs_lift (fun _ _ _ _ => lv_iload hx hb d_Lw_law_578 (lv_at hl 5 rfl)) ?_
        refine fs_lift (fun _ _ _ _ => lv_iconst (v := 3) hx hb d_Lw_law_580 (by decide)) ?_
        refine fs_lift (fun _ _ _ _ => lv_iadd hx hb d_Lw_law_581) ?_
        refine fs_Jai S hG d_Lw_law_582 (fun v63 => ?_)
        refine fs_lift (fun _ _ _ _ => lv_aload_n hx hb d_Lw_law_583 rfl (lv_at hl 1 rfl)) ?_
        refine fs_lift (fun _ _ _ _ => lv_iload hx hb d_Lw_law_584 (lv_at hl 5 rfl)) ?_
        refine fs_lift (fun _ _ _ _ => lv_iconst (v := 4) hx hb d_Lw_law_586 (by decide)) ?_
        refine fs_lift (fun _ _ _ _ => lv_iadd hx hb d_Lw_law_587) ?_
        refine fs_Jai S hG d_Lw_law_588 (fun v64 => ?_)
        refine fs_JV S hG hR rfl [.int v61, .int v62, .int v63, .int v64] (enc := fun r => some (.int r)) (fun zr zs zt zh => m_Rf_field X l r2 v61 v62 v63 v64 zh) tw_6_143 tw_6_144 tw_6_145 tw_6_146 tw_1_11 q_Rf_field ⟨(Nat.le_of_ble_eq_true rfl), (Nat.le_of_ble_eq_true rfl)⟩ hl.1 rfl (Nat.le_of_ble_eq_true rfl) d_Lw_law_589 (fun v65 => ?_)
        refine fs_Jeq (g2 := F0 m 592 ls [.int v65]) rfl ?_
        refine fs_liftL (fun _ _ _ _ => lv_istore (lv' := [(6, .int v65), (5, .int v60), (0, .ref a0), (1, .ref r1), (2, .ref r2), (3, .ref r3), (4, .int v4)]) hx hb d_Lw_law_592 hl (Nat.le_of_ble_eq_true rfl) rfl) (fun ls hl => ?_)
        refine fs_lift (fun _ _ _ _ => lv_aload_n hx hb d_Lw_law_594 rfl (lv_at hl 4 rfl)) ?_
        refine fs_JV S hG hR rfl [] (enc := fun r => some (.int r)) (fun zr zs zt zh => m_Rf_thrown X l r2 zh) tw_6_103 tw_6_104 tw_6_105 tw_6_106 tw_1_11 q_Rf_thrown ⟨(Nat.le_of_ble_eq_true rfl), (Nat.le_of_ble_eq_true rfl)⟩ hl.1 rfl (Nat.le_of_ble_eq_true rfl) d_Lw_law_595 (fun v66 => ?_)
        refine fs_Jeq (g2 := F0 m 598 ls [.int v66]) rfl ?_
        refine fs_lift (fun _ _ _ _ => lv_iload hx hb d_Lw_law_598 (lv_at hl 1 rfl)) ?_
        refine fs_if (fun _ _ _ _ => lv_icmp_eq hx hb d_Lw_law_600 rfl) ?_ ?_
        · refine fs_lift (fun _ _ _ _ => lv_iload hx hb d_Lw_law_605 (lv_at hl 1 rfl)) ?_
          refine fs_Jlet1 (nL := 8) (pj := 622) (I := fun (_ : Unit) => [(0, .ref a0), (1, .ref r1), (2, .ref r2), (3, .ref r3), (4, .int v4)]) (st := fun (_ : Unit) => []) (fun _ ls hl => ?_) (fun j622 hj622 => ?_)
          · refine fs_lift (fun _ _ _ _ => lv_goto hx hb d_Lw_law_622 rfl) ?_
            exact hj1513 () ls (lv_sub hl [0, 1, 2, 3, 4] rfl)
          · refine fs_ifn (fun _ _ _ _ => lv_if_ne hx hb d_Lw_law_607 rfl) ?_ ?_
            · refine fs_lift (fun _ _ _ _ => lv_aload_n hx hb d_Lw_law_610 rfl (lv_at hl 5 rfl)) ?_
              refine fs_lift (fun _ _ _ _ => lv_iconst (v := 0) hx hb d_Lw_law_611 (by decide)) ?_
              refine fs_Jaj S hG d_Lw_law_612 (fun v67 => ?_)
              refine fs_lift (fun _ _ _ _ => lv_iload hx hb d_Lw_law_613 (lv_at hl 0 rfl)) ?_
              refine fs_lift (fun _ _ _ _ => lv_i2l hx hb d_Lw_law_615 rfl) ?_
              refine fs_lift (fun _ _ _ _ => W.lcmp hx hb d_Lw_law_616) ?_
              refine fs_if (fun _ _ _ _ => lv_if_eq hx hb d_Lw_law_617 rfl) ?_ ?_
              · exact hj622 () ls (lv_sub hl [2, 3, 4, 5, 6] rfl)
              · refine fs_lift (fun _ _ _ _ => lv_iconst (v := 0) hx hb d_Lw_law_620 (by decide)) ?_
                exact fs_Jzret S hr hk rfl d_Lw_law_621
            · exact hj622 () ls (lv_sub hl [2, 3, 4, 5, 6] rfl)
        · refine fs_lift (fun _ _ _ _ => lv_iconst (v := 0) hx hb d_Lw_law_603 (by decide)) ?_
          exact fs_Jzret S hr hk rfl d_Lw_law_604
      refine fs_sw (fun q9 => ?_) (fun q106 => ?_)
      · refine fs_lift (fun _ _ _ _ => lv_tableIn (off := 585) (tgt := 625) hx hb d_Lw_law_40 (by rw [q9]; decide) (by rw [q9]; decide) (by rw [q9]; rfl) rfl) ?_
        refine fs_lift (fun _ _ _ _ => lv_aload_n hx hb d_Lw_law_625 rfl (lv_at hl 1 rfl)) ?_
        refine fs_lift (fun _ _ _ _ => lv_aload_n hx hb d_Lw_law_626 rfl (lv_at hl 0 rfl)) ?_
        refine fs_lift (fun _ _ _ _ => lv_iload hx hb d_Lw_law_627 (lv_at hl 4 rfl)) ?_
        refine fs_lift (fun _ _ _ _ => lv_iconst (v := 1) hx hb d_Lw_law_629 (by decide)) ?_
        refine fs_lift (fun _ _ _ _ => lv_iadd hx hb d_Lw_law_630) ?_
        refine fs_Jai S hG d_Lw_law_631 (fun v68 => ?_)
        refine fs_lift (fun _ _ _ _ => lv_aload_n hx hb d_Lw_law_632 rfl (lv_at hl 0 rfl)) ?_
        refine fs_lift (fun _ _ _ _ => lv_iload hx hb d_Lw_law_633 (lv_at hl 4 rfl)) ?_
        refine fs_lift (fun _ _ _ _ => lv_iconst (v := 2) hx hb d_Lw_law_635 (by decide)) ?_
        refine fs_lift (fun _ _ _ _ => lv_iadd hx hb d_Lw_law_636) ?_
        refine fs_Jai S hG d_Lw_law_637 (fun v69 => ?_)
        refine fs_lift (fun _ _ _ _ => lv_aload_n hx hb d_Lw_law_638 rfl (lv_at hl 3 rfl)) ?_
        refine fs_JSW S hG hR [.ref r1, .int v68, .int v69, .ref r3] (enc := fun r => some (.int r)) (fun zr zs zt zh => m_Lw_seal X l hl0 r1 v68 v69 r3 zh) tw_3_158 tw_3_159 tw_3_160 tw_1_0 q_Lw_seal ⟨(Nat.le_of_ble_eq_true rfl), (Nat.le_of_ble_eq_true rfl)⟩ hl.1 rfl (Nat.le_of_ble_eq_true rfl) d_Lw_law_639 (fun v70 => ?_)
        refine fs_Jeq (g2 := F0 m 642 ls [.int v70]) rfl ?_
        refine fs_liftL (fun _ _ _ _ => lv_istore (lv' := [(5, .int v70), (0, .ref a0), (1, .ref r1), (2, .ref r2), (3, .ref r3), (4, .int v4)]) hx hb d_Lw_law_642 hl (Nat.le_of_ble_eq_true rfl) rfl) (fun ls hl => ?_)
        refine fs_lift (fun _ _ _ _ => lv_aload_n hx hb d_Lw_law_644 rfl (lv_at hl 3 rfl)) ?_
        refine fs_lift (fun _ _ _ _ => lv_aload_n hx hb d_Lw_law_645 rfl (lv_at hl 1 rfl)) ?_
        refine fs_lift (fun _ _ _ _ => lv_iload hx hb d_Lw_law_646 (lv_at hl 5 rfl)) ?_
        refine fs_lift (fun _ _ _ _ => lv_iconst (v := 1) hx hb d_Lw_law_648 (by decide)) ?_
        refine fs_lift (fun _ _ _ _ => lv_iadd hx hb d_Lw_law_649) ?_
        refine fs_Jai S hG d_Lw_law_650 (fun v71 => ?_)
        refine fs_lift (fun _ _ _ _ => lv_aload_n hx hb d_Lw_law_651 rfl (lv_at hl 1 rfl)) ?_
        refine fs_lift (fun _ _ _ _ => lv_iload hx hb d_Lw_law_652 (lv_at hl 5 rfl)) ?_
        refine fs_lift (fun _ _ _ _ => lv_iconst (v := 2) hx hb d_Lw_law_654 (by decide)) ?_
        refine fs_lift (fun _ _ _ _ => lv_iadd hx hb d_Lw_law_655) ?_
        refine fs_Jai S hG d_Lw_law_656 (fun v72 => ?_)
        refine fs_JV S hG hR rfl [.int v71, .int v72] (enc := fun r => some (.int r)) (fun zr zs zt zh => m_Rf_seal X l r2 v71 v72 zh) tw_6_155 tw_6_156 tw_6_157 tw_6_158 tw_1_11 q_Rf_seal ⟨(Nat.le_of_ble_eq_true rfl), (Nat.le_of_ble_eq_true rfl)⟩ hl.1 rfl (Nat.le_of_ble_eq_true rfl) d_Lw_law_657 (fun v73 => ?_)
        refine fs_Jeq (g2 := F0 m 660 ls [.int v73]) rfl ?_
        refine fs_liftL (fun _ _ _ _ => lv_istore (lv' := [(6, .int v73), (5, .int v70), (0, .ref a0), (1, .ref r1), (2, .ref r2), (3, .ref r3), (4, .int v4)]) hx hb d_Lw_law_660 hl (Nat.le_of_ble_eq_true rfl) rfl) (fun ls hl => ?_)
        refine fs_lift (fun _ _ _ _ => lv_aload_n hx hb d_Lw_law_662 rfl (lv_at hl 4 rfl)) ?_
        refine fs_JV S hG hR rfl [] (enc := fun r => some (.int r)) (fun zr zs zt zh => m_Rf_thrown X l r2 zh) tw_6_103 tw_6_104 tw_6_105 tw_6_106 tw_1_11 q_Rf_thrown ⟨(Nat.le_of_ble_eq_true rfl), (Nat.le_of_ble_eq_true rfl)⟩ hl.1 rfl (Nat.le_of_ble_eq_true rfl) d_Lw_law_663 (fun v74 => ?_)
        refine fs_Jeq (g2 := F0 m 666 ls [.int v74]) rfl ?_
        refine fs_lift (fun _ _ _ _ => lv_iload hx hb d_Lw_law_666 (lv_at hl 1 rfl)) ?_
        refine fs_if (fun _ _ _ _ => lv_icmp_eq hx hb d_Lw_law_668 rfl) ?_ ?_
        · refine fs_lift (fun _ _ _ _ => lv_iload hx hb d_Lw_law_673 (lv_at hl 1 rfl)) ?_
          refine fs_Jlet1 (nL := 8) (pj := 690) (I := fun (_ : Unit) => [(0, .ref a0), (1, .ref r1), (2, .ref r2), (3, .ref r3), (4, .int v4)]) (st := fun (_ : Unit) => []) (fun _ ls hl => ?_) (fun j690 hj690 => ?_)
          · refine fs_lift (fun _ _ _ _ => lv_goto hx hb d_Lw_law_690 rfl) ?_
            exact hj1513 () ls (lv_sub hl [0, 1, 2, 3, 4] rfl)
          · refine fs_ifn (fun _ _ _ _ => lv_if_ne hx hb d_Lw_law_675 rfl) ?_ ?_
            · refine fs_lift (fun _ _ _ _ => lv_aload_n hx hb d_Lw_law_678 rfl (lv_at hl 5 rfl)) ?_
              refine fs_lift (fun _ _ _ _ => lv_iconst (v := 0) hx hb d_Lw_law_679 (by decide)) ?_
              refine fs_Jaj S hG d_Lw_law_680 (fun v75 => ?_)
              refine fs_lift (fun _ _ _ _ => lv_iload hx hb d_Lw_law_681 (lv_at hl 0 rfl)) ?_
              refine fs_lift (fun _ _ _ _ => lv_i2l hx hb d_Lw_law_683 rfl) ?_
              refine fs_lift (fun _ _ _ _ => W.lcmp hx hb d_Lw_law_684) ?_
              refine fs_if (fun _ _ _ _ => lv_if_eq hx hb d_Lw_law_685 rfl) ?_ ?_
              · exact hj690 () ls (lv_sub hl [2, 3, 4, 5, 6] rfl)
              · refine fs_lift (fun _ _ _ _ => lv_iconst (v := 0) hx hb d_Lw_law_688 (by decide)) ?_
                exact fs_Jzret S hr hk rfl d_Lw_law_689
            · exact hj690 () ls (lv_sub hl [2, 3, 4, 5, 6] rfl)
        · refine fs_lift (fun _ _ _ _ => lv_iconst (v := 0) hx hb d_Lw_law_671 (by decide)) ?_
          exact fs_Jzret S hr hk rfl d_Lw_law_672
      refine fs_sw (fun q9 => ?_) (fun q107 => ?_)
      · refine fs_lift (fun _ _ _ _ => lv_tableIn (off := 653) (tgt := 693) hx hb d_Lw_law_40 (by rw [q9]; decide) (by rw [q9]; decide) (by rw [q9]; rfl) rfl) ?_
        refine fs_lift (fun _ _ _ _ => lv_aload_n hx hb d_Lw_law_693 rfl (lv_at hl 1 rfl)) ?_
        refine fs_lift (fun _ _ _ _ => lv_aload_n hx hb d_Lw_law_694 rfl (lv_at hl 0 rfl)) ?_
        refine fs_lift (fun _ _ _ _ => lv_iload hx hb d_Lw_law_695 (lv_at hl 4 rfl)) ?_
        refine fs_lift (fun _ _ _ _ => lv_iconst (v := 1) hx hb d_Lw_law_697 (by decide)) ?_
        refine fs_lift (fun _ _ _ _ => lv_iadd hx hb d_Lw_law_698) ?_
        refine fs_Jai S hG d_Lw_law_699 (fun v76 => ?_)
        refine fs_lift (fun _ _ _ _ => lv_aload_n hx hb d_Lw_law_700 rfl (lv_at hl 0 rfl)) ?_
        refine fs_lift (fun _ _ _ _ => lv_iload hx hb d_Lw_law_701 (lv_at hl 4 rfl)) ?_
        refine fs_lift (fun _ _ _ _ => lv_iconst (v := 2) hx hb d_Lw_law_703 (by decide)) ?_
        refine fs_lift (fun _ _ _ _ => lv_iadd hx hb d_Lw_law_704) ?_
        refine fs_Jai S hG d_Lw_law_705 (fun v77 => ?_)
        refine fs_JSW S hG hR [.ref r1, .int v76, .int v77] (enc := fun r => some (.int r)) (fun zr zs zt zh => m_Lw_withdraw X l hl0 r1 v76 v77 zh) tw_3_174 tw_3_175 tw_3_176 tw_1_0 q_Lw_withdraw ⟨(Nat.le_of_ble_eq_true rfl), (Nat.le_of_ble_eq_true rfl)⟩ hl.1 rfl (Nat.le_of_ble_eq_true rfl) d_Lw_law_706 (fun v78 => ?_)
        refine fs_Jeq (g2 := F0 m 709 ls [.int v78]) rfl ?_
        refine fs_liftL (fun _ _ _ _ => lv_istore (lv' := [(5, .int v78), (0, .ref a0), (1, .ref r1), (2, .ref r2), (3, .ref r3), (4, .int v4)]) hx hb d_Lw_law_709 hl (Nat.le_of_ble_eq_true rfl) rfl) (fun ls hl => ?_)
        refine fs_lift (fun _ _ _ _ => lv_aload_n hx hb d_Lw_law_711 rfl (lv_at hl 3 rfl)) ?_
        refine fs_lift (fun _ _ _ _ => lv_aload_n hx hb d_Lw_law_712 rfl (lv_at hl 1 rfl)) ?_
        refine fs_lift (fun _ _ _ _ => lv_iload hx hb d_Lw_law_713 (lv_at hl 5 rfl)) ?_
        refine fs_lift (fun _ _ _ _ => lv_iconst (v := 1) hx hb d_Lw_law_715 (by decide)) ?_
        refine fs_lift (fun _ _ _ _ => lv_iadd hx hb d_Lw_law_716) ?_
        refine fs_Jai S hG d_Lw_law_717 (fun v79 => ?_)
        refine fs_lift (fun _ _ _ _ => lv_aload_n hx hb d_Lw_law_718 rfl (lv_at hl 1 rfl)) ?_
        refine fs_lift (fun _ _ _ _ => lv_iload hx hb d_Lw_law_719 (lv_at hl 5 rfl)) ?_
        refine fs_lift (fun _ _ _ _ => lv_iconst (v := 2) hx hb d_Lw_law_721 (by decide)) ?_
        refine fs_lift (fun _ _ _ _ => lv_iadd hx hb d_Lw_law_722) ?_
        refine fs_Jai S hG d_Lw_law_723 (fun v80 => ?_)
        refine fs_JV S hG hR rfl [.int v79, .int v80] (enc := fun _ => none) (fun zr zs zt zh => m_Rf_withdraw X l r2 v79 v80 zh) tw_6_159 tw_6_160 tw_6_161 tw_6_162 tw_1_11 q_Rf_withdraw ⟨(Nat.le_of_ble_eq_true rfl), (Nat.le_of_ble_eq_true rfl)⟩ hl.1 rfl (Nat.le_of_ble_eq_true rfl) d_Lw_law_724 (fun _ => ?_)
        refine fs_Jeq (g2 := F0 m 727 ls []) rfl ?_
        refine fs_lift (fun _ _ _ _ => lv_aload_n hx hb d_Lw_law_727 rfl (lv_at hl 3 rfl)) ?_
        refine fs_JV S hG hR rfl [] (enc := fun r => some (.int r)) (fun zr zs zt zh => m_Rf_thrown X l r2 zh) tw_6_103 tw_6_104 tw_6_105 tw_6_106 tw_1_11 q_Rf_thrown ⟨(Nat.le_of_ble_eq_true rfl), (Nat.le_of_ble_eq_true rfl)⟩ hl.1 rfl (Nat.le_of_ble_eq_true rfl) d_Lw_law_728 (fun v81 => ?_)
        refine fs_Jeq (g2 := F0 m 731 ls [.int v81]) rfl ?_
        refine fs_lift (fun _ _ _ _ => lv_iload hx hb d_Lw_law_731 (lv_at hl 0 rfl)) ?_
        refine fs_if (fun _ _ _ _ => lv_icmp_eq hx hb d_Lw_law_733 rfl) ?_ ?_
        · refine fs_lift (fun _ _ _ _ => lv_goto hx hb d_Lw_law_738 rfl) ?_
          exact hj1513 () ls (lv_sub hl [1, 2, 3, 4, 5] rfl)
        · refine fs_lift (fun _ _ _ _ => lv_iconst (v := 0) hx hb d_Lw_law_736 (by decide)) ?_
          exact fs_Jzret S hr hk rfl d_Lw_law_737
      refine fs_sw (fun q9 => ?_) (fun q108 => ?_)
      · refine fs_lift (fun _ _ _ _ => lv_tableIn (off := 701) (tgt := 741) hx hb d_Lw_law_40 (by rw [q9]; decide) (by rw [q9]; decide) (by rw [q9]; rfl) rfl) ?_
        refine fs_lift (fun _ _ _ _ => lv_aload_n hx hb d_Lw_law_741 rfl (lv_at hl 1 rfl)) ?_
        refine fs_lift (fun _ _ _ _ => lv_aload_n hx hb d_Lw_law_742 rfl (lv_at hl 0 rfl)) ?_
        refine fs_lift (fun _ _ _ _ => lv_iload hx hb d_Lw_law_743 (lv_at hl 4 rfl)) ?_
        refine fs_lift (fun _ _ _ _ => lv_iconst (v := 1) hx hb d_Lw_law_745 (by decide)) ?_
        refine fs_lift (fun _ _ _ _ => lv_iadd hx hb d_Lw_law_746) ?_
        refine fs_Jai S hG d_Lw_law_747 (fun v82 => ?_)
        refine fs_lift (fun _ _ _ _ => lv_aload_n hx hb d_Lw_law_748 rfl (lv_at hl 3 rfl)) ?_
        refine fs_JSW S hG hR [.ref r1, .int v82, .ref r3] (enc := fun r => some (.int r)) (fun zr zs zt zh => m_Lw_restart X l hl0 r1 v82 r3 zh) tw_3_182 tw_3_183 tw_3_184 tw_1_0 q_Lw_restart ⟨(Nat.le_of_ble_eq_true rfl), (Nat.le_of_ble_eq_true rfl)⟩ hl.1 rfl (Nat.le_of_ble_eq_true rfl) d_Lw_law_749 (fun v83 => ?_)
        refine fs_Jeq (g2 := F0 m 752 ls [.int v83]) rfl ?_
        refine fs_liftL (fun _ _ _ _ => lv_istore (lv' := [(5, .int v83), (0, .ref a0), (1, .ref r1), (2, .ref r2), (3, .ref r3), (4, .int v4)]) hx hb d_Lw_law_752 hl (Nat.le_of_ble_eq_true rfl) rfl) (fun ls hl => ?_)
        refine fs_lift (fun _ _ _ _ => lv_aload_n hx hb d_Lw_law_754 rfl (lv_at hl 3 rfl)) ?_
        refine fs_lift (fun _ _ _ _ => lv_aload_n hx hb d_Lw_law_755 rfl (lv_at hl 1 rfl)) ?_
        refine fs_lift (fun _ _ _ _ => lv_iload hx hb d_Lw_law_756 (lv_at hl 5 rfl)) ?_
        refine fs_lift (fun _ _ _ _ => lv_iconst (v := 1) hx hb d_Lw_law_758 (by decide)) ?_
        refine fs_lift (fun _ _ _ _ => lv_iadd hx hb d_Lw_law_759) ?_
        refine fs_Jai S hG d_Lw_law_760 (fun v84 => ?_)
        refine fs_JV S hG hR rfl [.int v84] (enc := fun r => some (.int r)) (fun zr zs zt zh => m_Rf_restart X l r2 v84 zh) tw_6_163 tw_6_164 tw_6_165 tw_6_166 tw_1_11 q_Rf_restart ⟨(Nat.le_of_ble_eq_true rfl), (Nat.le_of_ble_eq_true rfl)⟩ hl.1 rfl (Nat.le_of_ble_eq_true rfl) d_Lw_law_761 (fun v85 => ?_)
        refine fs_Jeq (g2 := F0 m 764 ls [.int v85]) rfl ?_
        refine fs_liftL (fun _ _ _ _ => lv_istore (lv' := [(6, .int v85), (5, .int v83), (0, .ref a0), (1, .ref r1), (2, .ref r2), (3, .ref r3), (4, .int v4)]) hx hb d_Lw_law_764 hl (Nat.le_of_ble_eq_true rfl) rfl) (fun ls hl => ?_)
        refine fs_lift (fun _ _ _ _ => lv_aload_n hx hb d_Lw_law_766 rfl (lv_at hl 4 rfl)) ?_
        refine fs_JV S hG hR rfl [] (enc := fun r => some (.int r)) (fun zr zs zt zh => m_Rf_thrown X l r2 zh) tw_6_103 tw_6_104 tw_6_105 tw_6_106 tw_1_11 q_Rf_thrown ⟨(Nat.le_of_ble_eq_true rfl), (Nat.le_of_ble_eq_true rfl)⟩ hl.1 rfl (Nat.le_of_ble_eq_true rfl) d_Lw_law_767 (fun v86 => ?_)
        refine fs_Jeq (g2 := F0 m 770 ls [.int v86]) rfl ?_
        refine fs_lift (fun _ _ _ _ => lv_iload hx hb d_Lw_law_770 (lv_at hl 1 rfl)) ?_
        refine fs_if (fun _ _ _ _ => lv_icmp_eq hx hb d_Lw_law_772 rfl) ?_ ?_
        · refine fs_lift (fun _ _ _ _ => lv_iload hx hb d_Lw_law_777 (lv_at hl 1 rfl)) ?_
          refine fs_Jlet1 (nL := 8) (pj := 794) (I := fun (_ : Unit) => [(0, .ref a0), (1, .ref r1), (2, .ref r2), (3, .ref r3), (4, .int v4)]) (st := fun (_ : Unit) => []) (fun _ ls hl => ?_) (fun j794 hj794 => ?_)
          · refine fs_lift (fun _ _ _ _ => lv_goto hx hb d_Lw_law_794 rfl) ?_
            exact hj1513 () ls (lv_sub hl [0, 1, 2, 3, 4] rfl)
          · refine fs_ifn (fun _ _ _ _ => lv_if_ne hx hb d_Lw_law_779 rfl) ?_ ?_
            · refine fs_lift (fun _ _ _ _ => lv_aload_n hx hb d_Lw_law_782 rfl (lv_at hl 5 rfl)) ?_
              refine fs_lift (fun _ _ _ _ => lv_iconst (v := 0) hx hb d_Lw_law_783 (by decide)) ?_
              refine fs_Jaj S hG d_Lw_law_784 (fun v87 => ?_)
              refine fs_lift (fun _ _ _ _ => lv_iload hx hb d_Lw_law_785 (lv_at hl 0 rfl)) ?_
              refine fs_lift (fun _ _ _ _ => lv_i2l hx hb d_Lw_law_787 rfl) ?_
              refine fs_lift (fun _ _ _ _ => W.lcmp hx hb d_Lw_law_788) ?_
              refine fs_if (fun _ _ _ _ => lv_if_eq hx hb d_Lw_law_789 rfl) ?_ ?_
              · exact hj794 () ls (lv_sub hl [2, 3, 4, 5, 6] rfl)
              · refine fs_lift (fun _ _ _ _ => lv_iconst (v := 0) hx hb d_Lw_law_792 (by decide)) ?_
                exact fs_Jzret S hr hk rfl d_Lw_law_793
            · exact hj794 () ls (lv_sub hl [2, 3, 4, 5, 6] rfl)
        · refine fs_lift (fun _ _ _ _ => lv_iconst (v := 0) hx hb d_Lw_law_775 (by decide)) ?_
          exact fs_Jzret S hr hk rfl d_Lw_law_776
      refine fs_sw (fun q9 => ?_) (fun q109 => ?_)
      · refine fs_lift (fun _ _ _ _ => lv_tableIn (off := 757) (tgt := 797) hx hb d_Lw_law_40 (by rw [q9]; decide) (by rw [q9]; decide) (by rw [q9]; rfl) rfl) ?_
        refine fs_lift (fun _ _ _ _ => lv_aload_n hx hb d_Lw_law_797 rfl (lv_at hl 1 rfl)) ?_
        refine fs_lift (fun _ _ _ _ => lv_aload_n hx hb d_Lw_law_798 rfl (lv_at hl 0 rfl)) ?_
        refine fs_lift (fun _ _ _ _ => lv_iload hx hb d_Lw_law_799 (lv_at hl 4 rfl)) ?_
        refine fs_lift (fun _ _ _ _ => lv_iconst (v := 1) hx hb d_Lw_law_801 (by decide)) ?_
        refine fs_lift (fun _ _ _ _ => lv_iadd hx hb d_Lw_law_802) ?_
        refine fs_Jai S hG d_Lw_law_803 (fun v88 => ?_)
        refine fs_lift (fun _ _ _ _ => lv_aload_n hx hb d_Lw_law_804 rfl (lv_at hl 0 rfl)) ?_
        refine fs_lift (fun _ _ _ _ => lv_iload hx hb d_Lw_law_805 (lv_at hl 4 rfl)) ?_
        refine fs_lift (fun _ _ _ _ => lv_iconst (v := 2) hx hb d_Lw_law_807 (by decide)) ?_
        refine fs_lift (fun _ _ _ _ => lv_iadd hx hb d_Lw_law_808) ?_
        refine fs_Jai S hG d_Lw_law_809 (fun v89 => ?_)
        refine fs_lift (fun _ _ _ _ => lv_aload_n hx hb d_Lw_law_810 rfl (lv_at hl 3 rfl)) ?_
        refine fs_JSW S hG hR [.ref r1, .int v88, .int v89, .ref r3] (enc := fun r => some (.int r)) (fun zr zs zt zh => m_Lw_announce X l hl0 r1 v88 v89 r3 zh) tw_3_203 tw_3_204 tw_3_205 tw_1_0 q_Lw_announce ⟨(Nat.le_of_ble_eq_true rfl), (Nat.le_of_ble_eq_true rfl)⟩ hl.1 rfl (Nat.le_of_ble_eq_true rfl) d_Lw_law_811 (fun v90 => ?_)
        refine fs_Jeq (g2 := F0 m 814 ls [.int v90]) rfl ?_
        refine fs_liftL (fun _ _ _ _ => lv_istore (lv' := [(5, .int v90), (0, .ref a0), (1, .ref r1), (2, .ref r2), (3, .ref r3), (4, .int v4)]) hx hb d_Lw_law_814 hl (Nat.le_of_ble_eq_true rfl) rfl) (fun ls hl => ?_)
        refine fs_lift (fun _ _ _ _ => lv_aload_n hx hb d_Lw_law_816 rfl (lv_at hl 3 rfl)) ?_
        refine fs_lift (fun _ _ _ _ => lv_aload_n hx hb d_Lw_law_817 rfl (lv_at hl 1 rfl)) ?_
        refine fs_lift (fun _ _ _ _ => lv_iload hx hb d_Lw_law_818 (lv_at hl 5 rfl)) ?_
        refine fs_lift (fun _ _ _ _ => lv_iconst (v := 1) hx hb d_Lw_law_820 (by decide)) ?_
        refine fs_lift (fun _ _ _ _ => lv_iadd hx hb d_Lw_law_821) ?_
        refine fs_Jai S hG d_Lw_law_822 (fun v91 => ?_)
        refine fs_lift (fun _ _ _ _ => lv_aload_n hx hb d_Lw_law_823 rfl (lv_at hl 1 rfl)) ?_
        refine fs_lift (fun _ _ _ _ => lv_iload hx hb d_Lw_law_824 (lv_at hl 5 rfl)) ?_
        refine fs_lift (fun _ _ _ _ => lv_iconst (v := 2) hx hb d_Lw_law_826 (by decide)) ?_
        refine fs_lift (fun _ _ _ _ => lv_iadd hx hb d_Lw_law_827) ?_
        refine fs_Jai S hG d_Lw_law_828 (fun v92 => ?_)
        refine fs_JV S hG hR rfl [.int v91, .int v92] (enc := fun r => some (.int r)) (fun zr zs zt zh => m_Rf_announce X l r2 v91 v92 zh) tw_6_167 tw_6_168 tw_6_169 tw_6_170 tw_1_11 q_Rf_announce ⟨(Nat.le_of_ble_eq_true rfl), (Nat.le_of_ble_eq_true rfl)⟩ hl.1 rfl (Nat.le_of_ble_eq_true rfl) d_Lw_law_829 (fun v93 => ?_)
        refine fs_Jeq (g2 := F0 m 832 ls [.int v93]) rfl ?_
        refine fs_liftL (fun _ _ _ _ => lv_istore (lv' := [(6, .int v93), (5, .int v90), (0, .ref a0), (1, .ref r1), (2, .ref r2), (3, .ref r3), (4, .int v4)]) hx hb d_Lw_law_832 hl (Nat.le_of_ble_eq_true rfl) rfl) (fun ls hl => ?_)
        refine fs_lift (fun _ _ _ _ => lv_aload_n hx hb d_Lw_law_834 rfl (lv_at hl 4 rfl)) ?_
        refine fs_JV S hG hR rfl [] (enc := fun r => some (.int r)) (fun zr zs zt zh => m_Rf_thrown X l r2 zh) tw_6_103 tw_6_104 tw_6_105 tw_6_106 tw_1_11 q_Rf_thrown ⟨(Nat.le_of_ble_eq_true rfl), (Nat.le_of_ble_eq_true rfl)⟩ hl.1 rfl (Nat.le_of_ble_eq_true rfl) d_Lw_law_835 (fun v94 => ?_)
        refine fs_Jeq (g2 := F0 m 838 ls [.int v94]) rfl ?_
        refine fs_lift (fun _ _ _ _ => lv_iload hx hb d_Lw_law_838 (lv_at hl 1 rfl)) ?_
        refine fs_if (fun _ _ _ _ => lv_icmp_eq hx hb d_Lw_law_840 rfl) ?_ ?_
        · refine fs_lift (fun _ _ _ _ => lv_iload hx hb d_Lw_law_845 (lv_at hl 1 rfl)) ?_
          refine fs_Jlet1 (nL := 8) (pj := 862) (I := fun (_ : Unit) => [(0, .ref a0), (1, .ref r1), (2, .ref r2), (3, .ref r3), (4, .int v4)]) (st := fun (_ : Unit) => []) (fun _ ls hl => ?_) (fun j862 hj862 => ?_)
          · refine fs_lift (fun _ _ _ _ => lv_goto hx hb d_Lw_law_862 rfl) ?_
            exact hj1513 () ls (lv_sub hl [0, 1, 2, 3, 4] rfl)
          · refine fs_ifn (fun _ _ _ _ => lv_if_ne hx hb d_Lw_law_847 rfl) ?_ ?_
            · refine fs_lift (fun _ _ _ _ => lv_aload_n hx hb d_Lw_law_850 rfl (lv_at hl 5 rfl)) ?_
              refine fs_lift (fun _ _ _ _ => lv_iconst (v := 0) hx hb d_Lw_law_851 (by decide)) ?_
              refine fs_Jaj S hG d_Lw_law_852 (fun v95 => ?_)
              refine fs_lift (fun _ _ _ _ => lv_iload hx hb d_Lw_law_853 (lv_at hl 0 rfl)) ?_
              refine fs_lift (fun _ _ _ _ => lv_i2l hx hb d_Lw_law_855 rfl) ?_
              refine fs_lift (fun _ _ _ _ => W.lcmp hx hb d_Lw_law_856) ?_
              refine fs_if (fun _ _ _ _ => lv_if_eq hx hb d_Lw_law_857 rfl) ?_ ?_
              · exact hj862 () ls (lv_sub hl [2, 3, 4, 5, 6] rfl)
              · refine fs_lift (fun _ _ _ _ => lv_iconst (v := 0) hx hb d_Lw_law_860 (by decide)) ?_
                exact fs_Jzret S hr hk rfl d_Lw_law_861
            · exact hj862 () ls (lv_sub hl [2, 3, 4, 5, 6] rfl)
        · refine fs_lift (fun _ _ _ _ => lv_iconst (v := 0) hx hb d_Lw_law_843 (by decide)) ?_
          exact fs_Jzret S hr hk rfl d_Lw_law_844
      refine fs_sw (fun q9 => ?_) (fun q110 => ?_)
      · refine fs_lift (fun _ _ _ _ => lv_tableIn (off := 825) (tgt := 865) hx hb d_Lw_law_40 (by rw [q9]; decide) (by rw [q9]; decide) (by rw [q9]; rfl) rfl) ?_
        refine fs_lift (fun _ _ _ _ => lv_aload_n hx hb d_Lw_law_865 rfl (lv_at hl 1 rfl)) ?_
        refine fs_lift (fun _ _ _ _ => lv_aload_n hx hb d_Lw_law_866 rfl (lv_at hl 0 rfl)) ?_
        refine fs_lift (fun _ _ _ _ => lv_iload hx hb d_Lw_law_867 (lv_at hl 4 rfl)) ?_
        refine fs_lift (fun _ _ _ _ => lv_iconst (v := 1) hx hb d_Lw_law_869 (by decide)) ?_
        refine fs_lift (fun _ _ _ _ => lv_iadd hx hb d_Lw_law_870) ?_
        refine fs_Jai S hG d_Lw_law_871 (fun v96 => ?_)
        refine fs_lift (fun _ _ _ _ => lv_aload_n hx hb d_Lw_law_872 rfl (lv_at hl 3 rfl)) ?_
        refine fs_JSW S hG hR [.ref r1, .int v96, .ref r3] (enc := fun r => some (.int r)) (fun zr zs zt zh => m_Lw_report X l hl0 r1 v96 r3 zh) tw_4_5 tw_4_6 tw_4_7 tw_1_0 q_Lw_report ⟨(Nat.le_of_ble_eq_true rfl), (Nat.le_of_ble_eq_true rfl)⟩ hl.1 rfl (Nat.le_of_ble_eq_true rfl) d_Lw_law_873 (fun v97 => ?_)
        refine fs_Jeq (g2 := F0 m 876 ls [.int v97]) rfl ?_
        refine fs_liftL (fun _ _ _ _ => lv_istore (lv' := [(5, .int v97), (0, .ref a0), (1, .ref r1), (2, .ref r2), (3, .ref r3), (4, .int v4)]) hx hb d_Lw_law_876 hl (Nat.le_of_ble_eq_true rfl) rfl) (fun ls hl => ?_)
        refine fs_lift (fun _ _ _ _ => lv_aload_n hx hb d_Lw_law_878 rfl (lv_at hl 3 rfl)) ?_
        refine fs_lift (fun _ _ _ _ => lv_aload_n hx hb d_Lw_law_879 rfl (lv_at hl 1 rfl)) ?_
        refine fs_lift (fun _ _ _ _ => lv_iload hx hb d_Lw_law_880 (lv_at hl 5 rfl)) ?_
        refine fs_lift (fun _ _ _ _ => lv_iconst (v := 1) hx hb d_Lw_law_882 (by decide)) ?_
        refine fs_lift (fun _ _ _ _ => lv_iadd hx hb d_Lw_law_883) ?_
        refine fs_Jai S hG d_Lw_law_884 (fun v98 => ?_)
        refine fs_JV S hG hR rfl [.int v98] (enc := fun r => some (.int r)) (fun zr zs zt zh => m_Rf_report X l r2 v98 zh) tw_6_179 tw_6_180 tw_6_181 tw_6_182 tw_1_11 q_Rf_report ⟨(Nat.le_of_ble_eq_true rfl), (Nat.le_of_ble_eq_true rfl)⟩ hl.1 rfl (Nat.le_of_ble_eq_true rfl) d_Lw_law_885 (fun v99 => ?_)
        refine fs_Jeq (g2 := F0 m 888 ls [.int v99]) rfl ?_
        refine fs_liftL (fun _ _ _ _ => lv_istore (lv' := [(6, .int v99), (5, .int v97), (0, .ref a0), (1, .ref r1), (2, .ref r2), (3, .ref r3), (4, .int v4)]) hx hb d_Lw_law_888 hl (Nat.le_of_ble_eq_true rfl) rfl) (fun ls hl => ?_)
        refine fs_lift (fun _ _ _ _ => lv_aload_n hx hb d_Lw_law_890 rfl (lv_at hl 4 rfl)) ?_
        refine fs_JV S hG hR rfl [] (enc := fun r => some (.int r)) (fun zr zs zt zh => m_Rf_thrown X l r2 zh) tw_6_103 tw_6_104 tw_6_105 tw_6_106 tw_1_11 q_Rf_thrown ⟨(Nat.le_of_ble_eq_true rfl), (Nat.le_of_ble_eq_true rfl)⟩ hl.1 rfl (Nat.le_of_ble_eq_true rfl) d_Lw_law_891 (fun v100 => ?_)
        refine fs_Jeq (g2 := F0 m 894 ls [.int v100]) rfl ?_
        refine fs_lift (fun _ _ _ _ => lv_iload hx hb d_Lw_law_894 (lv_at hl 1 rfl)) ?_
        refine fs_if (fun _ _ _ _ => lv_icmp_eq hx hb d_Lw_law_896 rfl) ?_ ?_
        · refine fs_lift (fun _ _ _ _ => lv_iload hx hb d_Lw_law_901 (lv_at hl 1 rfl)) ?_
          refine fs_Jlet1 (nL := 8) (pj := 918) (I := fun (_ : Unit) => [(0, .ref a0), (1, .ref r1), (2, .ref r2), (3, .ref r3), (4, .int v4)]) (st := fun (_ : Unit) => []) (fun _ ls hl => ?_) (fun j918 hj918 => ?_)
          · refine fs_lift (fun _ _ _ _ => lv_goto hx hb d_Lw_law_918 rfl) ?_
            exact hj1513 () ls (lv_sub hl [0, 1, 2, 3, 4] rfl)
          · refine fs_ifn (fun _ _ _ _ => lv_if_ne hx hb d_Lw_law_903 rfl) ?_ ?_
            · refine fs_lift (fun _ _ _ _ => lv_aload_n hx hb d_Lw_law_906 rfl (lv_at hl 5 rfl)) ?_
              refine fs_lift (fun _ _ _ _ => lv_iconst (v := 0) hx hb d_Lw_law_907 (by decide)) ?_
              refine fs_Jaj S hG d_Lw_law_908 (fun v101 => ?_)
              refine fs_lift (fun _ _ _ _ => lv_iload hx hb d_Lw_law_909 (lv_at hl 0 rfl)) ?_
              refine fs_lift (fun _ _ _ _ => lv_i2l hx hb d_Lw_law_911 rfl) ?_
              refine fs_lift (fun _ _ _ _ => W.lcmp hx hb d_Lw_law_912) ?_
              refine fs_if (fun _ _ _ _ => lv_if_eq hx hb d_Lw_law_913 rfl) ?_ ?_
              · exact hj918 () ls (lv_sub hl [2, 3, 4, 5, 6] rfl)
              · refine fs_lift (fun _ _ _ _ => lv_iconst (v := 0) hx hb d_Lw_law_916 (by decide)) ?_
                exact fs_Jzret S hr hk rfl d_Lw_law_917
            · exact hj918 () ls (lv_sub hl [2, 3, 4, 5, 6] rfl)
        · refine fs_lift (fun _ _ _ _ => lv_iconst (v := 0) hx hb d_Lw_law_899 (by decide)) ?_
          exact fs_Jzret S hr hk rfl d_Lw_law_900
      refine fs_sw (fun q9 => ?_) (fun q111 => ?_)
      · refine fs_lift (fun _ _ _ _ => lv_tableIn (off := 881) (tgt := 921) hx hb d_Lw_law_40 (by rw [q9]; decide) (by rw [q9]; decide) (by rw [q9]; rfl) rfl) ?_
        refine fs_lift (fun _ _ _ _ => lv_aload_n hx hb d_Lw_law_921 rfl (lv_at hl 1 rfl)) ?_
        refine fs_lift (fun _ _ _ _ => lv_aload_n hx hb d_Lw_law_922 rfl (lv_at hl 0 rfl)) ?_
        refine fs_lift (fun _ _ _ _ => lv_iload hx hb d_Lw_law_923 (lv_at hl 4 rfl)) ?_
        refine fs_lift (fun _ _ _ _ => lv_iconst (v := 1) hx hb d_Lw_law_925 (by decide)) ?_
        refine fs_lift (fun _ _ _ _ => lv_iadd hx hb d_Lw_law_926) ?_
        refine fs_Jai S hG d_Lw_law_927 (fun v102 => ?_)
        refine fs_lift (fun _ _ _ _ => lv_aload_n hx hb d_Lw_law_928 rfl (lv_at hl 3 rfl)) ?_
        refine fs_JSW S hG hR [.ref r1, .int v102, .ref r3] (enc := fun r => some (.int r)) (fun zr zs zt zh => m_Lw_tell X l hl0 r1 v102 r3 zh) tw_4_49 tw_4_50 tw_4_51 tw_1_0 q_Lw_tell ⟨(Nat.le_of_ble_eq_true rfl), (Nat.le_of_ble_eq_true rfl)⟩ hl.1 rfl (Nat.le_of_ble_eq_true rfl) d_Lw_law_929 (fun v103 => ?_)
        refine fs_Jeq (g2 := F0 m 932 ls [.int v103]) rfl ?_
        refine fs_liftL (fun _ _ _ _ => lv_istore (lv' := [(5, .int v103), (0, .ref a0), (1, .ref r1), (2, .ref r2), (3, .ref r3), (4, .int v4)]) hx hb d_Lw_law_932 hl (Nat.le_of_ble_eq_true rfl) rfl) (fun ls hl => ?_)
        refine fs_lift (fun _ _ _ _ => lv_aload_n hx hb d_Lw_law_934 rfl (lv_at hl 3 rfl)) ?_
        refine fs_lift (fun _ _ _ _ => lv_aload_n hx hb d_Lw_law_935 rfl (lv_at hl 1 rfl)) ?_
        refine fs_lift (fun _ _ _ _ => lv_iload hx hb d_Lw_law_936 (lv_at hl 5 rfl)) ?_
        refine fs_lift (fun _ _ _ _ => lv_iconst (v := 1) hx hb d_Lw_law_938 (by decide)) ?_
        refine fs_lift (fun _ _ _ _ => lv_iadd hx hb d_Lw_law_939) ?_
        refine fs_Jai S hG d_Lw_law_940 (fun v104 => ?_)
        refine fs_JV S hG hR rfl [.int v104] (enc := fun r => some (.int r)) (fun zr zs zt zh => m_Rf_tell X l r2 v104 zh) tw_6_201 tw_6_202 tw_6_203 tw_6_204 tw_1_11 q_Rf_tell ⟨(Nat.le_of_ble_eq_true rfl), (Nat.le_of_ble_eq_true rfl)⟩ hl.1 rfl (Nat.le_of_ble_eq_true rfl) d_Lw_law_941 (fun v105 => ?_)
        refine fs_Jeq (g2 := F0 m 944 ls [.int v105]) rfl ?_
        refine fs_liftL (fun _ _ _ _ => lv_istore (lv' := [(6, .int v105), (5, .int v103), (0, .ref a0), (1, .ref r1), (2, .ref r2), (3, .ref r3), (4, .int v4)]) hx hb d_Lw_law_944 hl (Nat.le_of_ble_eq_true rfl) rfl) (fun ls hl => ?_)
        refine fs_lift (fun _ _ _ _ => lv_aload_n hx hb d_Lw_law_946 rfl (lv_at hl 4 rfl)) ?_
        refine fs_JV S hG hR rfl [] (enc := fun r => some (.int r)) (fun zr zs zt zh => m_Rf_thrown X l r2 zh) tw_6_103 tw_6_104 tw_6_105 tw_6_106 tw_1_11 q_Rf_thrown ⟨(Nat.le_of_ble_eq_true rfl), (Nat.le_of_ble_eq_true rfl)⟩ hl.1 rfl (Nat.le_of_ble_eq_true rfl) d_Lw_law_947 (fun v106 => ?_)
        refine fs_Jeq (g2 := F0 m 950 ls [.int v106]) rfl ?_
        refine fs_lift (fun _ _ _ _ => lv_iload hx hb d_Lw_law_950 (lv_at hl 1 rfl)) ?_
        refine fs_if (fun _ _ _ _ => lv_icmp_eq hx hb d_Lw_law_952 rfl) ?_ ?_
        · refine fs_lift (fun _ _ _ _ => lv_iload hx hb d_Lw_law_957 (lv_at hl 1 rfl)) ?_
          refine fs_Jlet1 (nL := 8) (pj := 974) (I := fun (_ : Unit) => [(0, .ref a0), (1, .ref r1), (2, .ref r2), (3, .ref r3), (4, .int v4)]) (st := fun (_ : Unit) => []) (fun _ ls hl => ?_) (fun j974 hj974 => ?_)
          · refine fs_lift (fun _ _ _ _ => lv_goto hx hb d_Lw_law_974 rfl) ?_
            exact hj1513 () ls (lv_sub hl [0, 1, 2, 3, 4] rfl)
          · refine fs_ifn (fun _ _ _ _ => lv_if_ne hx hb d_Lw_law_959 rfl) ?_ ?_
            · refine fs_lift (fun _ _ _ _ => lv_aload_n hx hb d_Lw_law_962 rfl (lv_at hl 5 rfl)) ?_
              refine fs_lift (fun _ _ _ _ => lv_iconst (v := 0) hx hb d_Lw_law_963 (by decide)) ?_
              refine fs_Jaj S hG d_Lw_law_964 (fun v107 => ?_)
              refine fs_lift (fun _ _ _ _ => lv_iload hx hb d_Lw_law_965 (lv_at hl 0 rfl)) ?_
              refine fs_lift (fun _ _ _ _ => lv_i2l hx hb d_Lw_law_967 rfl) ?_
              refine fs_lift (fun _ _ _ _ => W.lcmp hx hb d_Lw_law_968) ?_
              refine fs_if (fun _ _ _ _ => lv_if_eq hx hb d_Lw_law_969 rfl) ?_ ?_
              · exact hj974 () ls (lv_sub hl [2, 3, 4, 5, 6] rfl)
              · refine fs_lift (fun _ _ _ _ => lv_iconst (v := 0) hx hb d_Lw_law_972 (by decide)) ?_
                exact fs_Jzret S hr hk rfl d_Lw_law_973
            · exact hj974 () ls (lv_sub hl [2, 3, 4, 5, 6] rfl)
        · refine fs_lift (fun _ _ _ _ => lv_iconst (v := 0) hx hb d_Lw_law_955 (by decide)) ?_
          exact fs_Jzret S hr hk rfl d_Lw_law_956
      refine fs_sw (fun q9 => ?_) (fun q112 => ?_)
      · refine fs_lift (fun _ _ _ _ => lv_tableIn (off := 937) (tgt := 977) hx hb d_Lw_law_40 (by rw [q9]; decide) (by rw [q9]; decide) (by rw [q9]; rfl) rfl) ?_
        refine fs_lift (fun _ _ _ _ => lv_aload_n hx hb d_Lw_law_977 rfl (lv_at hl 1 rfl)) ?_
        refine fs_lift (fun _ _ _ _ => lv_aload_n hx hb d_Lw_law_978 rfl (lv_at hl 0 rfl)) ?_
        refine fs_lift (fun _ _ _ _ => lv_iload hx hb d_Lw_law_979 (lv_at hl 4 rfl)) ?_
        refine fs_lift (fun _ _ _ _ => lv_iconst (v := 1) hx hb d_Lw_law_981 (by decide)) ?_
        refine fs_lift (fun _ _ _ _ => lv_iadd hx hb d_Lw_law_982) ?_
        refine fs_Jai S hG d_Lw_law_983 (fun v108 => ?_)
        refine fs_JV S hG hR rfl [.int v108] (enc := fun r => some (.int r)) (fun zr zs zt zh => m_Fs_size X l r1 v108 zh) tw_2_20 tw_2_21 tw_2_22 tw_2_23 tw_1_1 q_Fs_size ⟨(Nat.le_of_ble_eq_true rfl), (Nat.le_of_ble_eq_true rfl)⟩ hl.1 rfl (Nat.le_of_ble_eq_true rfl) d_Lw_law_984 (fun v109 => ?_)
        refine fs_Jeq (g2 := F0 m 987 ls [.int v109]) rfl ?_
        refine fs_lift (fun _ _ _ _ => lv_aload_n hx hb d_Lw_law_987 rfl (lv_at hl 2 rfl)) ?_
        refine fs_lift (fun _ _ _ _ => lv_aload_n hx hb d_Lw_law_988 rfl (lv_at hl 0 rfl)) ?_
        refine fs_lift (fun _ _ _ _ => lv_iload hx hb d_Lw_law_989 (lv_at hl 4 rfl)) ?_
        refine fs_lift (fun _ _ _ _ => lv_iconst (v := 1) hx hb d_Lw_law_991 (by decide)) ?_
        refine fs_lift (fun _ _ _ _ => lv_iadd hx hb d_Lw_law_992) ?_
        refine fs_Jai S hG d_Lw_law_993 (fun v110 => ?_)
        refine fs_JV S hG hR rfl [.int v110] (enc := fun r => some (.int r)) (fun zr zs zt zh => m_Rf_size X l r2 v110 zh) tw_6_205 tw_6_206 tw_6_207 tw_6_208 tw_1_11 q_Rf_size ⟨(Nat.le_of_ble_eq_true rfl), (Nat.le_of_ble_eq_true rfl)⟩ hl.1 rfl (Nat.le_of_ble_eq_true rfl) d_Lw_law_994 (fun v111 => ?_)
        refine fs_Jeq (g2 := F0 m 997 ls [.int v111, .int v109]) rfl ?_
        refine fs_if (fun _ _ _ _ => lv_icmp_eq hx hb d_Lw_law_997 rfl) ?_ ?_
        · exact hj1513 () ls (lv_sub hl [0, 1, 2, 3, 4] rfl)
        · refine fs_lift (fun _ _ _ _ => lv_iconst (v := 0) hx hb d_Lw_law_1000 (by decide)) ?_
          exact fs_Jzret S hr hk rfl d_Lw_law_1001
      refine fs_sw (fun q9 => ?_) (fun q113 => ?_)
      · refine fs_lift (fun _ _ _ _ => lv_tableIn (off := 962) (tgt := 1002) hx hb d_Lw_law_40 (by rw [q9]; decide) (by rw [q9]; decide) (by rw [q9]; rfl) rfl) ?_
        refine fs_lift (fun _ _ _ _ => lv_aload_n hx hb d_Lw_law_1002 rfl (lv_at hl 1 rfl)) ?_
        refine fs_lift (fun _ _ _ _ => lv_aload_n hx hb d_Lw_law_1003 rfl (lv_at hl 0 rfl)) ?_
        refine fs_lift (fun _ _ _ _ => lv_iload hx hb d_Lw_law_1004 (lv_at hl 4 rfl)) ?_
        refine fs_lift (fun _ _ _ _ => lv_iconst (v := 1) hx hb d_Lw_law_1006 (by decide)) ?_
        refine fs_lift (fun _ _ _ _ => lv_iadd hx hb d_Lw_law_1007) ?_
        refine fs_Jai S hG d_Lw_law_1008 (fun v112 => ?_)
        refine fs_lift (fun _ _ _ _ => lv_aload_n hx hb d_Lw_law_1009 rfl (lv_at hl 0 rfl)) ?_
        refine fs_lift (fun _ _ _ _ => lv_iload hx hb d_Lw_law_1010 (lv_at hl 4 rfl)) ?_
        refine fs_lift (fun _ _ _ _ => lv_iconst (v := 2) hx hb d_Lw_law_1012 (by decide)) ?_
        refine fs_lift (fun _ _ _ _ => lv_iadd hx hb d_Lw_law_1013) ?_
        refine fs_Jai S hG d_Lw_law_1014 (fun v113 => ?_)
        refine fs_lift (fun _ _ _ _ => lv_aload_n hx hb d_Lw_law_1015 rfl (lv_at hl 3 rfl)) ?_
        refine fs_JSW S hG hR [.ref r1, .int v112, .int v113, .ref r3] (enc := fun r => some (.int r)) (fun zr zs zt zh => m_Lw_byteOf X l hl0 r1 v112 v113 r3 zh) tw_4_61 tw_4_62 tw_4_63 tw_1_0 q_Lw_byteOf ⟨(Nat.le_of_ble_eq_true rfl), (Nat.le_of_ble_eq_true rfl)⟩ hl.1 rfl (Nat.le_of_ble_eq_true rfl) d_Lw_law_1016 (fun v114 => ?_)
        refine fs_Jeq (g2 := F0 m 1019 ls [.int v114]) rfl ?_
        refine fs_liftL (fun _ _ _ _ => lv_istore (lv' := [(5, .int v114), (0, .ref a0), (1, .ref r1), (2, .ref r2), (3, .ref r3), (4, .int v4)]) hx hb d_Lw_law_1019 hl (Nat.le_of_ble_eq_true rfl) rfl) (fun ls hl => ?_)
        refine fs_lift (fun _ _ _ _ => lv_aload_n hx hb d_Lw_law_1021 rfl (lv_at hl 3 rfl)) ?_
        refine fs_lift (fun _ _ _ _ => lv_aload_n hx hb d_Lw_law_1022 rfl (lv_at hl 1 rfl)) ?_
        refine fs_lift (fun _ _ _ _ => lv_iload hx hb d_Lw_law_1023 (lv_at hl 5 rfl)) ?_
        refine fs_lift (fun _ _ _ _ => lv_iconst (v := 1) hx hb d_Lw_law_1025 (by decide)) ?_
        refine fs_lift (fun _ _ _ _ => lv_iadd hx hb d_Lw_law_1026) ?_
        refine fs_Jai S hG d_Lw_law_1027 (fun v115 => ?_)
        refine fs_lift (fun _ _ _ _ => lv_aload_n hx hb d_Lw_law_1028 rfl (lv_at hl 1 rfl)) ?_
        refine fs_lift (fun _ _ _ _ => lv_iload hx hb d_Lw_law_1029 (lv_at hl 5 rfl)) ?_
        refine fs_lift (fun _ _ _ _ => lv_iconst (v := 2) hx hb d_Lw_law_1031 (by decide)) ?_
        refine fs_lift (fun _ _ _ _ => lv_iadd hx hb d_Lw_law_1032) ?_
        refine fs_Jai S hG d_Lw_law_1033 (fun v116 => ?_)
        refine fs_JV S hG hR rfl [.int v115, .int v116] (enc := fun r => some (.int r)) (fun zr zs zt zh => m_Rf_byteOf X l r2 v115 v116 zh) tw_6_213 tw_6_214 tw_6_215 tw_6_216 tw_1_11 q_Rf_byteOf ⟨(Nat.le_of_ble_eq_true rfl), (Nat.le_of_ble_eq_true rfl)⟩ hl.1 rfl (Nat.le_of_ble_eq_true rfl) d_Lw_law_1034 (fun v117 => ?_)
        refine fs_Jeq (g2 := F0 m 1037 ls [.int v117]) rfl ?_
        refine fs_liftL (fun _ _ _ _ => lv_istore (lv' := [(6, .int v117), (5, .int v114), (0, .ref a0), (1, .ref r1), (2, .ref r2), (3, .ref r3), (4, .int v4)]) hx hb d_Lw_law_1037 hl (Nat.le_of_ble_eq_true rfl) rfl) (fun ls hl => ?_)
        refine fs_lift (fun _ _ _ _ => lv_aload_n hx hb d_Lw_law_1039 rfl (lv_at hl 4 rfl)) ?_
        refine fs_JV S hG hR rfl [] (enc := fun r => some (.int r)) (fun zr zs zt zh => m_Rf_thrown X l r2 zh) tw_6_103 tw_6_104 tw_6_105 tw_6_106 tw_1_11 q_Rf_thrown ⟨(Nat.le_of_ble_eq_true rfl), (Nat.le_of_ble_eq_true rfl)⟩ hl.1 rfl (Nat.le_of_ble_eq_true rfl) d_Lw_law_1040 (fun v118 => ?_)
        refine fs_Jeq (g2 := F0 m 1043 ls [.int v118]) rfl ?_
        refine fs_lift (fun _ _ _ _ => lv_iload hx hb d_Lw_law_1043 (lv_at hl 1 rfl)) ?_
        refine fs_if (fun _ _ _ _ => lv_icmp_eq hx hb d_Lw_law_1045 rfl) ?_ ?_
        · refine fs_lift (fun _ _ _ _ => lv_iload hx hb d_Lw_law_1050 (lv_at hl 1 rfl)) ?_
          refine fs_Jlet1 (nL := 8) (pj := 1067) (I := fun (_ : Unit) => [(0, .ref a0), (1, .ref r1), (2, .ref r2), (3, .ref r3), (4, .int v4)]) (st := fun (_ : Unit) => []) (fun _ ls hl => ?_) (fun j1067 hj1067 => ?_)
          · refine fs_lift (fun _ _ _ _ => lv_goto hx hb d_Lw_law_1067 rfl) ?_
            exact hj1513 () ls (lv_sub hl [0, 1, 2, 3, 4] rfl)
          · refine fs_ifn (fun _ _ _ _ => lv_if_ne hx hb d_Lw_law_1052 rfl) ?_ ?_
            · refine fs_lift (fun _ _ _ _ => lv_aload_n hx hb d_Lw_law_1055 rfl (lv_at hl 5 rfl)) ?_
              refine fs_lift (fun _ _ _ _ => lv_iconst (v := 0) hx hb d_Lw_law_1056 (by decide)) ?_
              refine fs_Jaj S hG d_Lw_law_1057 (fun v119 => ?_)
              refine fs_lift (fun _ _ _ _ => lv_iload hx hb d_Lw_law_1058 (lv_at hl 0 rfl)) ?_
              refine fs_lift (fun _ _ _ _ => lv_i2l hx hb d_Lw_law_1060 rfl) ?_
              refine fs_lift (fun _ _ _ _ => W.lcmp hx hb d_Lw_law_1061) ?_
              refine fs_if (fun _ _ _ _ => lv_if_eq hx hb d_Lw_law_1062 rfl) ?_ ?_
              · exact hj1067 () ls (lv_sub hl [2, 3, 4, 5, 6] rfl)
              · refine fs_lift (fun _ _ _ _ => lv_iconst (v := 0) hx hb d_Lw_law_1065 (by decide)) ?_
                exact fs_Jzret S hr hk rfl d_Lw_law_1066
            · exact hj1067 () ls (lv_sub hl [2, 3, 4, 5, 6] rfl)
        · refine fs_lift (fun _ _ _ _ => lv_iconst (v := 0) hx hb d_Lw_law_1048 (by decide)) ?_
          exact fs_Jzret S hr hk rfl d_Lw_law_1049
      refine fs_sw (fun q9 => ?_) (fun q114 => ?_)
      · refine fs_lift (fun _ _ _ _ => lv_tableIn (off := 1030) (tgt := 1070) hx hb d_Lw_law_40 (by rw [q9]; decide) (by rw [q9]; decide) (by rw [q9]; rfl) rfl) ?_
        refine fs_lift (fun _ _ _ _ => lv_aload_n hx hb d_Lw_law_1070 rfl (lv_at hl 1 rfl)) ?_
        refine fs_lift (fun _ _ _ _ => lv_aload_n hx hb d_Lw_law_1071 rfl (lv_at hl 0 rfl)) ?_
        refine fs_lift (fun _ _ _ _ => lv_iload hx hb d_Lw_law_1072 (lv_at hl 4 rfl)) ?_
        refine fs_lift (fun _ _ _ _ => lv_iconst (v := 1) hx hb d_Lw_law_1074 (by decide)) ?_
        refine fs_lift (fun _ _ _ _ => lv_iadd hx hb d_Lw_law_1075) ?_
        refine fs_Jai S hG d_Lw_law_1076 (fun v120 => ?_)
        refine fs_lift (fun _ _ _ _ => lv_aload_n hx hb d_Lw_law_1077 rfl (lv_at hl 0 rfl)) ?_
        refine fs_lift (fun _ _ _ _ => lv_iload hx hb d_Lw_law_1078 (lv_at hl 4 rfl)) ?_
        refine fs_lift (fun _ _ _ _ => lv_iconst (v := 2) hx hb d_Lw_law_1080 (by decide)) ?_
        refine fs_lift (fun _ _ _ _ => lv_iadd hx hb d_Lw_law_1081) ?_
        refine fs_Jai S hG d_Lw_law_1082 (fun v121 => ?_)
        refine fs_lift (fun _ _ _ _ => lv_aload_n hx hb d_Lw_law_1083 rfl (lv_at hl 0 rfl)) ?_
        refine fs_lift (fun _ _ _ _ => lv_iload hx hb d_Lw_law_1084 (lv_at hl 4 rfl)) ?_
        refine fs_lift (fun _ _ _ _ => lv_iconst (v := 3) hx hb d_Lw_law_1086 (by decide)) ?_
        refine fs_lift (fun _ _ _ _ => lv_iadd hx hb d_Lw_law_1087) ?_
        refine fs_Jai S hG d_Lw_law_1088 (fun v122 => ?_)
        refine fs_JSW S hG hR [.ref r1, .int v120, .int v121, .int v122] (enc := fun r => some (.int r)) (fun zr zs zt zh => m_Lw_poke X l hl0 r1 v120 v121 v122 zh) tw_4_78 tw_4_79 tw_4_80 tw_1_0 q_Lw_poke ⟨(Nat.le_of_ble_eq_true rfl), (Nat.le_of_ble_eq_true rfl)⟩ hl.1 rfl (Nat.le_of_ble_eq_true rfl) d_Lw_law_1089 (fun v123 => ?_)
        refine fs_Jeq (g2 := F0 m 1092 ls [.int v123]) rfl ?_
        refine fs_liftL (fun _ _ _ _ => lv_istore (lv' := [(5, .int v123), (0, .ref a0), (1, .ref r1), (2, .ref r2), (3, .ref r3), (4, .int v4)]) hx hb d_Lw_law_1092 hl (Nat.le_of_ble_eq_true rfl) rfl) (fun ls hl => ?_)
        refine fs_lift (fun _ _ _ _ => lv_aload_n hx hb d_Lw_law_1094 rfl (lv_at hl 3 rfl)) ?_
        refine fs_lift (fun _ _ _ _ => lv_aload_n hx hb d_Lw_law_1095 rfl (lv_at hl 1 rfl)) ?_
        refine fs_lift (fun _ _ _ _ => lv_iload hx hb d_Lw_law_1096 (lv_at hl 5 rfl)) ?_
        refine fs_lift (fun _ _ _ _ => lv_iconst (v := 1) hx hb d_Lw_law_1098 (by decide)) ?_
        refine fs_lift (fun _ _ _ _ => lv_iadd hx hb d_Lw_law_1099) ?_
        refine fs_Jai S hG d_Lw_law_1100 (fun v124 => ?_)
        refine fs_lift (fun _ _ _ _ => lv_aload_n hx hb d_Lw_law_1101 rfl (lv_at hl 1 rfl)) ?_
        refine fs_lift (fun _ _ _ _ => lv_iload hx hb d_Lw_law_1102 (lv_at hl 5 rfl)) ?_
        refine fs_lift (fun _ _ _ _ => lv_iconst (v := 2) hx hb d_Lw_law_1104 (by decide)) ?_
        refine fs_lift (fun _ _ _ _ => lv_iadd hx hb d_Lw_law_1105) ?_
        refine fs_Jai S hG d_Lw_law_1106 (fun v125 => ?_)
        refine fs_lift (fun _ _ _ _ => lv_aload_n hx hb d_Lw_law_1107 rfl (lv_at hl 1 rfl)) ?_
        refine fs_lift (fun _ _ _ _ => lv_iload hx hb d_Lw_law_1108 (lv_at hl 5 rfl)) ?_
        refine fs_lift (fun _ _ _ _ => lv_iconst (v := 3) hx hb d_Lw_law_1110 (by decide)) ?_
        refine fs_lift (fun _ _ _ _ => lv_iadd hx hb d_Lw_law_1111) ?_
        refine fs_Jai S hG d_Lw_law_1112 (fun v126 => ?_)
        refine fs_JV S hG hR rfl [.int v124, .int v125, .int v126] (enc := fun _ => none) (fun zr zs zt zh => m_Rf_poke X l r2 v124 v125 v126 zh) tw_6_217 tw_6_218 tw_6_219 tw_6_220 tw_1_11 q_Rf_poke ⟨(Nat.le_of_ble_eq_true rfl), (Nat.le_of_ble_eq_true rfl)⟩ hl.1 rfl (Nat.le_of_ble_eq_true rfl) d_Lw_law_1113 (fun _ => ?_)
        refine fs_Jeq (g2 := F0 m 1116 ls []) rfl ?_
        refine fs_lift (fun _ _ _ _ => lv_aload_n hx hb d_Lw_law_1116 rfl (lv_at hl 3 rfl)) ?_
        refine fs_JV S hG hR rfl [] (enc := fun r => some (.int r)) (fun zr zs zt zh => m_Rf_thrown X l r2 zh) tw_6_103 tw_6_104 tw_6_105 tw_6_106 tw_1_11 q_Rf_thrown ⟨(Nat.le_of_ble_eq_true rfl), (Nat.le_of_ble_eq_true rfl)⟩ hl.1 rfl (Nat.le_of_ble_eq_true rfl) d_Lw_law_1117 (fun v127 => ?_)
        refine fs_Jeq (g2 := F0 m 1120 ls [.int v127]) rfl ?_
        refine fs_lift (fun _ _ _ _ => lv_iload hx hb d_Lw_law_1120 (lv_at hl 0 rfl)) ?_
        refine fs_if (fun _ _ _ _ => lv_icmp_eq hx hb d_Lw_law_1122 rfl) ?_ ?_
        · refine fs_lift (fun _ _ _ _ => lv_goto hx hb d_Lw_law_1127 rfl) ?_
          exact hj1513 () ls (lv_sub hl [1, 2, 3, 4, 5] rfl)
        · refine fs_lift (fun _ _ _ _ => lv_iconst (v := 0) hx hb d_Lw_law_1125 (by decide)) ?_
          exact fs_Jzret S hr hk rfl d_Lw_law_1126
      refine fs_sw (fun q9 => ?_) (fun q115 => ?_)
      · refine fs_lift (fun _ _ _ _ => lv_tableIn (off := 1090) (tgt := 1130) hx hb d_Lw_law_40 (by rw [q9]; decide) (by rw [q9]; decide) (by rw [q9]; rfl) rfl) ?_
        refine fs_lift (fun _ _ _ _ => lv_aload_n hx hb d_Lw_law_1130 rfl (lv_at hl 1 rfl)) ?_
        refine fs_lift (fun _ _ _ _ => lv_aload_n hx hb d_Lw_law_1131 rfl (lv_at hl 0 rfl)) ?_
        refine fs_lift (fun _ _ _ _ => lv_iload hx hb d_Lw_law_1132 (lv_at hl 4 rfl)) ?_
        refine fs_lift (fun _ _ _ _ => lv_iconst (v := 1) hx hb d_Lw_law_1134 (by decide)) ?_
        refine fs_lift (fun _ _ _ _ => lv_iadd hx hb d_Lw_law_1135) ?_
        refine fs_Jai S hG d_Lw_law_1136 (fun v128 => ?_)
        refine fs_lift (fun _ _ _ _ => lv_aload_n hx hb d_Lw_law_1137 rfl (lv_at hl 3 rfl)) ?_
        refine fs_JSW S hG hR [.ref r1, .int v128, .ref r3] (enc := fun r => some (.int r)) (fun zr zs zt zh => m_Lw_hear X l hl0 r1 v128 r3 zh) tw_4_86 tw_4_87 tw_4_88 tw_1_0 q_Lw_hear ⟨(Nat.le_of_ble_eq_true rfl), (Nat.le_of_ble_eq_true rfl)⟩ hl.1 rfl (Nat.le_of_ble_eq_true rfl) d_Lw_law_1138 (fun v129 => ?_)
        refine fs_Jeq (g2 := F0 m 1141 ls [.int v129]) rfl ?_
        refine fs_liftL (fun _ _ _ _ => lv_istore (lv' := [(5, .int v129), (0, .ref a0), (1, .ref r1), (2, .ref r2), (3, .ref r3), (4, .int v4)]) hx hb d_Lw_law_1141 hl (Nat.le_of_ble_eq_true rfl) rfl) (fun ls hl => ?_)
        refine fs_lift (fun _ _ _ _ => lv_aload_n hx hb d_Lw_law_1143 rfl (lv_at hl 3 rfl)) ?_
        refine fs_lift (fun _ _ _ _ => lv_aload_n hx hb d_Lw_law_1144 rfl (lv_at hl 1 rfl)) ?_
        refine fs_lift (fun _ _ _ _ => lv_iload hx hb d_Lw_law_1145 (lv_at hl 5 rfl)) ?_
        refine fs_lift (fun _ _ _ _ => lv_iconst (v := 1) hx hb d_Lw_law_1147 (by decide)) ?_
        refine fs_lift (fun _ _ _ _ => lv_iadd hx hb d_Lw_law_1148) ?_
        refine fs_Jai S hG d_Lw_law_1149 (fun v130 => ?_)
        refine fs_JV S hG hR rfl [.int v130] (enc := fun r => some (.int r)) (fun zr zs zt zh => m_Rf_hear X l r2 v130 zh) tw_6_221 tw_6_222 tw_6_223 tw_6_224 tw_1_11 q_Rf_hear ⟨(Nat.le_of_ble_eq_true rfl), (Nat.le_of_ble_eq_true rfl)⟩ hl.1 rfl (Nat.le_of_ble_eq_true rfl) d_Lw_law_1150 (fun v131 => ?_)
        refine fs_Jeq (g2 := F0 m 1153 ls [.int v131]) rfl ?_
        refine fs_liftL (fun _ _ _ _ => lv_istore (lv' := [(6, .int v131), (5, .int v129), (0, .ref a0), (1, .ref r1), (2, .ref r2), (3, .ref r3), (4, .int v4)]) hx hb d_Lw_law_1153 hl (Nat.le_of_ble_eq_true rfl) rfl) (fun ls hl => ?_)
        refine fs_lift (fun _ _ _ _ => lv_aload_n hx hb d_Lw_law_1155 rfl (lv_at hl 4 rfl)) ?_
        refine fs_JV S hG hR rfl [] (enc := fun r => some (.int r)) (fun zr zs zt zh => m_Rf_thrown X l r2 zh) tw_6_103 tw_6_104 tw_6_105 tw_6_106 tw_1_11 q_Rf_thrown ⟨(Nat.le_of_ble_eq_true rfl), (Nat.le_of_ble_eq_true rfl)⟩ hl.1 rfl (Nat.le_of_ble_eq_true rfl) d_Lw_law_1156 (fun v132 => ?_)
        refine fs_Jeq (g2 := F0 m 1159 ls [.int v132]) rfl ?_
        refine fs_lift (fun _ _ _ _ => lv_iload hx hb d_Lw_law_1159 (lv_at hl 1 rfl)) ?_
        refine fs_if (fun _ _ _ _ => lv_icmp_eq hx hb d_Lw_law_1161 rfl) ?_ ?_
        · refine fs_lift (fun _ _ _ _ => lv_iload hx hb d_Lw_law_1166 (lv_at hl 1 rfl)) ?_
          refine fs_Jlet1 (nL := 8) (pj := 1183) (I := fun (_ : Unit) => [(0, .ref a0), (1, .ref r1), (2, .ref r2), (3, .ref r3), (4, .int v4)]) (st := fun (_ : Unit) => []) (fun _ ls hl => ?_) (fun j1183 hj1183 => ?_)
          · refine fs_lift (fun _ _ _ _ => lv_goto hx hb d_Lw_law_1183 rfl) ?_
            exact hj1513 () ls (lv_sub hl [0, 1, 2, 3, 4] rfl)
          · refine fs_ifn (fun _ _ _ _ => lv_if_ne hx hb d_Lw_law_1168 rfl) ?_ ?_
            · refine fs_lift (fun _ _ _ _ => lv_aload_n hx hb d_Lw_law_1171 rfl (lv_at hl 5 rfl)) ?_
              refine fs_lift (fun _ _ _ _ => lv_iconst (v := 0) hx hb d_Lw_law_1172 (by decide)) ?_
              refine fs_Jaj S hG d_Lw_law_1173 (fun v133 => ?_)
              refine fs_lift (fun _ _ _ _ => lv_iload hx hb d_Lw_law_1174 (lv_at hl 0 rfl)) ?_
              refine fs_lift (fun _ _ _ _ => lv_i2l hx hb d_Lw_law_1176 rfl) ?_
              refine fs_lift (fun _ _ _ _ => W.lcmp hx hb d_Lw_law_1177) ?_
              refine fs_if (fun _ _ _ _ => lv_if_eq hx hb d_Lw_law_1178 rfl) ?_ ?_
              · exact hj1183 () ls (lv_sub hl [2, 3, 4, 5, 6] rfl)
              · refine fs_lift (fun _ _ _ _ => lv_iconst (v := 0) hx hb d_Lw_law_1181 (by decide)) ?_
                exact fs_Jzret S hr hk rfl d_Lw_law_1182
            · exact hj1183 () ls (lv_sub hl [2, 3, 4, 5, 6] rfl)
        · refine fs_lift (fun _ _ _ _ => lv_iconst (v := 0) hx hb d_Lw_law_1164 (by decide)) ?_
          exact fs_Jzret S hr hk rfl d_Lw_law_1165
      refine fs_sw (fun q9 => ?_) (fun q116 => ?_)
      · refine fs_lift (fun _ _ _ _ => lv_tableIn (off := 1146) (tgt := 1186) hx hb d_Lw_law_40 (by rw [q9]; decide) (by rw [q9]; decide) (by rw [q9]; rfl) rfl) ?_
        refine fs_lift (fun _ _ _ _ => lv_aload_n hx hb d_Lw_law_1186 rfl (lv_at hl 1 rfl)) ?_
        refine fs_JV S hG hR rfl [] (enc := fun r => some (.int r)) (fun zr zs zt zh => m_Fs_rows X l r1 zh) tw_2_47 tw_2_48 tw_2_49 tw_2_50 tw_1_1 q_Fs_rows ⟨(Nat.le_of_ble_eq_true rfl), (Nat.le_of_ble_eq_true rfl)⟩ hl.1 rfl (Nat.le_of_ble_eq_true rfl) d_Lw_law_1187 (fun v134 => ?_)
        refine fs_Jeq (g2 := F0 m 1190 ls [.int v134]) rfl ?_
        refine fs_lift (fun _ _ _ _ => lv_aload_n hx hb d_Lw_law_1190 rfl (lv_at hl 2 rfl)) ?_
        refine fs_JV S hG hR rfl [] (enc := fun r => some (.int r)) (fun zr zs zt zh => m_Rf_rows X l r2 zh) tw_7_35 tw_7_36 tw_7_37 tw_7_38 tw_1_11 q_Rf_rows ⟨(Nat.le_of_ble_eq_true rfl), (Nat.le_of_ble_eq_true rfl)⟩ hl.1 rfl (Nat.le_of_ble_eq_true rfl) d_Lw_law_1191 (fun v135 => ?_)
        refine fs_Jeq (g2 := F0 m 1194 ls [.int v135, .int v134]) rfl ?_
        refine fs_if (fun _ _ _ _ => lv_icmp_eq hx hb d_Lw_law_1194 rfl) ?_ ?_
        · exact hj1513 () ls (lv_sub hl [0, 1, 2, 3, 4] rfl)
        · refine fs_lift (fun _ _ _ _ => lv_iconst (v := 0) hx hb d_Lw_law_1197 (by decide)) ?_
          exact fs_Jzret S hr hk rfl d_Lw_law_1198
      refine fs_sw (fun q9 => ?_) (fun q117 => ?_)
      · refine fs_lift (fun _ _ _ _ => lv_tableIn (off := 1159) (tgt := 1199) hx hb d_Lw_law_40 (by rw [q9]; decide) (by rw [q9]; decide) (by rw [q9]; rfl) rfl) ?_
        refine fs_lift (fun _ _ _ _ => lv_aload_n hx hb d_Lw_law_1199 rfl (lv_at hl 1 rfl)) ?_
        refine fs_lift (fun _ _ _ _ => lv_aload_n hx hb d_Lw_law_1200 rfl (lv_at hl 0 rfl)) ?_
        refine fs_lift (fun _ _ _ _ => lv_iload hx hb d_Lw_law_1201 (lv_at hl 4 rfl)) ?_
        refine fs_lift (fun _ _ _ _ => lv_iconst (v := 1) hx hb d_Lw_law_1203 (by decide)) ?_
        refine fs_lift (fun _ _ _ _ => lv_iadd hx hb d_Lw_law_1204) ?_
        refine fs_Jai S hG d_Lw_law_1205 (fun v136 => ?_)
        refine fs_lift (fun _ _ _ _ => lv_aload_n hx hb d_Lw_law_1206 rfl (lv_at hl 0 rfl)) ?_
        refine fs_lift (fun _ _ _ _ => lv_iload hx hb d_Lw_law_1207 (lv_at hl 4 rfl)) ?_
        refine fs_lift (fun _ _ _ _ => lv_iconst (v := 2) hx hb d_Lw_law_1209 (by decide)) ?_
        refine fs_lift (fun _ _ _ _ => lv_iadd hx hb d_Lw_law_1210) ?_
        refine fs_Jai S hG d_Lw_law_1211 (fun v137 => ?_)
        refine fs_lift (fun _ _ _ _ => lv_aload_n hx hb d_Lw_law_1212 rfl (lv_at hl 3 rfl)) ?_
        refine fs_JSW S hG hR [.ref r1, .int v136, .int v137, .ref r3] (enc := fun r => some (.int r)) (fun zr zs zt zh => m_Lw_row X l hl0 r1 v136 v137 r3 zh) tw_5_89 tw_5_90 tw_5_91 tw_1_0 q_Lw_row ⟨(Nat.le_of_ble_eq_true rfl), (Nat.le_of_ble_eq_true rfl)⟩ hl.1 rfl (Nat.le_of_ble_eq_true rfl) d_Lw_law_1213 (fun v138 => ?_)
        refine fs_Jeq (g2 := F0 m 1216 ls [.int v138]) rfl ?_
        refine fs_liftL (fun _ _ _ _ => lv_istore (lv' := [(5, .int v138), (0, .ref a0), (1, .ref r1), (2, .ref r2), (3, .ref r3), (4, .int v4)]) hx hb d_Lw_law_1216 hl (Nat.le_of_ble_eq_true rfl) rfl) (fun ls hl => ?_)
        refine fs_lift (fun _ _ _ _ => lv_aload_n hx hb d_Lw_law_1218 rfl (lv_at hl 3 rfl)) ?_
        refine fs_lift (fun _ _ _ _ => lv_aload_n hx hb d_Lw_law_1219 rfl (lv_at hl 1 rfl)) ?_
        refine fs_lift (fun _ _ _ _ => lv_iload hx hb d_Lw_law_1220 (lv_at hl 5 rfl)) ?_
        refine fs_lift (fun _ _ _ _ => lv_iconst (v := 1) hx hb d_Lw_law_1222 (by decide)) ?_
        refine fs_lift (fun _ _ _ _ => lv_iadd hx hb d_Lw_law_1223) ?_
        refine fs_Jai S hG d_Lw_law_1224 (fun v139 => ?_)
        refine fs_lift (fun _ _ _ _ => lv_aload_n hx hb d_Lw_law_1225 rfl (lv_at hl 1 rfl)) ?_
        refine fs_lift (fun _ _ _ _ => lv_iload hx hb d_Lw_law_1226 (lv_at hl 5 rfl)) ?_
        refine fs_lift (fun _ _ _ _ => lv_iconst (v := 2) hx hb d_Lw_law_1228 (by decide)) ?_
        refine fs_lift (fun _ _ _ _ => lv_iadd hx hb d_Lw_law_1229) ?_
        refine fs_Jai S hG d_Lw_law_1230 (fun v140 => ?_)
        refine fs_JV S hG hR rfl [.int v139, .int v140] (enc := fun r => some (.long r)) (fun zr zs zt zh => m_Rf_row X l r2 v139 v140 zh) tw_7_39 tw_7_40 tw_7_41 tw_7_42 tw_1_11 q_Rf_row ⟨(Nat.le_of_ble_eq_true rfl), (Nat.le_of_ble_eq_true rfl)⟩ hl.1 rfl (Nat.le_of_ble_eq_true rfl) d_Lw_law_1231 (fun v141 => ?_)
        refine fs_Jeq (g2 := F0 m 1234 ls [.long v141]) rfl ?_
        refine fs_liftL (fun _ _ _ _ => lv_lstore (lv' := [(6, .long v141), (5, .int v138), (0, .ref a0), (1, .ref r1), (2, .ref r2), (3, .ref r3), (4, .int v4)]) hx hb d_Lw_law_1234 hl (Nat.le_of_ble_eq_true rfl) rfl) (fun ls hl => ?_)
        refine fs_lift (fun _ _ _ _ => lv_aload_n hx hb d_Lw_law_1236 rfl (lv_at hl 4 rfl)) ?_
        refine fs_JV S hG hR rfl [] (enc := fun r => some (.int r)) (fun zr zs zt zh => m_Rf_thrown X l r2 zh) tw_6_103 tw_6_104 tw_6_105 tw_6_106 tw_1_11 q_Rf_thrown ⟨(Nat.le_of_ble_eq_true rfl), (Nat.le_of_ble_eq_true rfl)⟩ hl.1 rfl (Nat.le_of_ble_eq_true rfl) d_Lw_law_1237 (fun v142 => ?_)
        refine fs_Jeq (g2 := F0 m 1240 ls [.int v142]) rfl ?_
        refine fs_lift (fun _ _ _ _ => lv_iload hx hb d_Lw_law_1240 (lv_at hl 1 rfl)) ?_
        refine fs_if (fun _ _ _ _ => lv_icmp_eq hx hb d_Lw_law_1242 rfl) ?_ ?_
        · refine fs_lift (fun _ _ _ _ => lv_iload hx hb d_Lw_law_1247 (lv_at hl 1 rfl)) ?_
          refine fs_Jlet1 (nL := 8) (pj := 1263) (I := fun (_ : Unit) => [(0, .ref a0), (1, .ref r1), (2, .ref r2), (3, .ref r3), (4, .int v4)]) (st := fun (_ : Unit) => []) (fun _ ls hl => ?_) (fun j1263 hj1263 => ?_)
          · refine fs_lift (fun _ _ _ _ => lv_goto hx hb d_Lw_law_1263 rfl) ?_
            exact hj1513 () ls (lv_sub hl [0, 1, 2, 3, 4] rfl)
          · refine fs_ifn (fun _ _ _ _ => lv_if_ne hx hb d_Lw_law_1249 rfl) ?_ ?_
            · refine fs_lift (fun _ _ _ _ => lv_aload_n hx hb d_Lw_law_1252 rfl (lv_at hl 5 rfl)) ?_
              refine fs_lift (fun _ _ _ _ => lv_iconst (v := 0) hx hb d_Lw_law_1253 (by decide)) ?_
              refine fs_Jaj S hG d_Lw_law_1254 (fun v143 => ?_)
              refine fs_lift (fun _ _ _ _ => lv_lload hx hb d_Lw_law_1255 (lv_at hl 0 rfl)) ?_
              refine fs_lift (fun _ _ _ _ => W.lcmp hx hb d_Lw_law_1257) ?_
              refine fs_if (fun _ _ _ _ => lv_if_eq hx hb d_Lw_law_1258 rfl) ?_ ?_
              · exact hj1263 () ls (lv_sub hl [2, 3, 4, 5, 6] rfl)
              · refine fs_lift (fun _ _ _ _ => lv_iconst (v := 0) hx hb d_Lw_law_1261 (by decide)) ?_
                exact fs_Jzret S hr hk rfl d_Lw_law_1262
            · exact hj1263 () ls (lv_sub hl [2, 3, 4, 5, 6] rfl)
        · refine fs_lift (fun _ _ _ _ => lv_iconst (v := 0) hx hb d_Lw_law_1245 (by decide)) ?_
          exact fs_Jzret S hr hk rfl d_Lw_law_1246
      refine fs_sw (fun q9 => ?_) (fun q118 => ?_)
      · refine fs_lift (fun _ _ _ _ => lv_tableIn (off := 1226) (tgt := 1266) hx hb d_Lw_law_40 (by rw [q9]; decide) (by rw [q9]; decide) (by rw [q9]; rfl) rfl) ?_
        refine fs_lift (fun _ _ _ _ => lv_aload_n hx hb d_Lw_law_1266 rfl (lv_at hl 1 rfl)) ?_
        refine fs_lift (fun _ _ _ _ => lv_aload_n hx hb d_Lw_law_1267 rfl (lv_at hl 0 rfl)) ?_
        refine fs_lift (fun _ _ _ _ => lv_iload hx hb d_Lw_law_1268 (lv_at hl 4 rfl)) ?_
        refine fs_lift (fun _ _ _ _ => lv_iconst (v := 1) hx hb d_Lw_law_1270 (by decide)) ?_
        refine fs_lift (fun _ _ _ _ => lv_iadd hx hb d_Lw_law_1271) ?_
        refine fs_Jai S hG d_Lw_law_1272 (fun v144 => ?_)
        refine fs_lift (fun _ _ _ _ => lv_aload_n hx hb d_Lw_law_1273 rfl (lv_at hl 0 rfl)) ?_
        refine fs_lift (fun _ _ _ _ => lv_iload hx hb d_Lw_law_1274 (lv_at hl 4 rfl)) ?_
        refine fs_lift (fun _ _ _ _ => lv_iconst (v := 2) hx hb d_Lw_law_1276 (by decide)) ?_
        refine fs_lift (fun _ _ _ _ => lv_iadd hx hb d_Lw_law_1277) ?_
        refine fs_Jai S hG d_Lw_law_1278 (fun v145 => ?_)
        refine fs_lift (fun _ _ _ _ => lv_aload_n hx hb d_Lw_law_1279 rfl (lv_at hl 0 rfl)) ?_
        refine fs_lift (fun _ _ _ _ => lv_iload hx hb d_Lw_law_1280 (lv_at hl 4 rfl)) ?_
        refine fs_lift (fun _ _ _ _ => lv_iconst (v := 3) hx hb d_Lw_law_1282 (by decide)) ?_
        refine fs_lift (fun _ _ _ _ => lv_iadd hx hb d_Lw_law_1283) ?_
        refine fs_Jai S hG d_Lw_law_1284 (fun v146 => ?_)
        refine fs_lift (fun _ _ _ _ => lv_i2l hx hb d_Lw_law_1285 rfl) ?_
        refine fs_lift (fun _ _ _ _ => lv_bipush (v := 32) hx hb d_Lw_law_1286 (by decide)) ?_
        refine fs_lift (fun _ _ _ _ => lv_lshl (v := (fs_lshl (Int32.toInt64 v146) 32)) hx hb d_Lw_law_1288 rfl) ?_
        refine fs_lift (fun _ _ _ _ => lv_aload_n hx hb d_Lw_law_1289 rfl (lv_at hl 0 rfl)) ?_
        refine fs_lift (fun _ _ _ _ => lv_iload hx hb d_Lw_law_1290 (lv_at hl 4 rfl)) ?_
        refine fs_lift (fun _ _ _ _ => lv_iconst (v := 4) hx hb d_Lw_law_1292 (by decide)) ?_
        refine fs_lift (fun _ _ _ _ => lv_iadd hx hb d_Lw_law_1293) ?_
        refine fs_Jai S hG d_Lw_law_1294 (fun v147 => ?_)
        refine fs_lift (fun _ _ _ _ => lv_i2l hx hb d_Lw_law_1295 rfl) ?_
        refine fs_lift (fun _ _ _ _ => lv_ldc2 hx hb S.2.2.2.1 (S.2.2.2.2 _ tw_7_79) d_Lw_law_1296) ?_
        refine fs_lift (fun _ _ _ _ => lv_land hx hb d_Lw_law_1299) ?_
        refine fs_lift (fun _ _ _ _ => lv_lor hx hb d_Lw_law_1300) ?_
        refine fs_lift (fun _ _ _ _ => lv_aload_n hx hb d_Lw_law_1301 rfl (lv_at hl 0 rfl)) ?_
        refine fs_lift (fun _ _ _ _ => lv_iload hx hb d_Lw_law_1302 (lv_at hl 4 rfl)) ?_
        refine fs_lift (fun _ _ _ _ => lv_iconst (v := 5) hx hb d_Lw_law_1304 (by decide)) ?_
        refine fs_lift (fun _ _ _ _ => lv_iadd hx hb d_Lw_law_1305) ?_
        refine fs_Jai S hG d_Lw_law_1306 (fun v148 => ?_)
        refine fs_lift (fun _ _ _ _ => lv_aload_n hx hb d_Lw_law_1307 rfl (lv_at hl 3 rfl)) ?_
        refine fs_JSW S hG hR [.ref r1, .int v144, .int v145, .long ((fs_lshl (Int32.toInt64 v146) 32) ||| ((Int32.toInt64 v147) &&& 4294967295)), .int v148, .ref r3] (enc := fun r => some (.int r)) (fun zr zs zt zh => m_Lw_total X l hl0 r1 v144 v145 ((fs_lshl (Int32.toInt64 v146) 32) ||| ((Int32.toInt64 v147) &&& 4294967295)) v148 r3 zh) tw_5_103 tw_5_104 tw_5_105 tw_1_0 q_Lw_total ⟨(Nat.le_of_ble_eq_true rfl), (Nat.le_of_ble_eq_true rfl)⟩ hl.1 rfl (Nat.le_of_ble_eq_true rfl) d_Lw_law_1308 (fun v149 => ?_)
        refine fs_Jeq (g2 := F0 m 1311 ls [.int v149]) rfl ?_
        refine fs_liftL (fun _ _ _ _ => lv_istore (lv' := [(5, .int v149), (0, .ref a0), (1, .ref r1), (2, .ref r2), (3, .ref r3), (4, .int v4)]) hx hb d_Lw_law_1311 hl (Nat.le_of_ble_eq_true rfl) rfl) (fun ls hl => ?_)
        refine fs_lift (fun _ _ _ _ => lv_aload_n hx hb d_Lw_law_1313 rfl (lv_at hl 3 rfl)) ?_
        refine fs_lift (fun _ _ _ _ => lv_aload_n hx hb d_Lw_law_1314 rfl (lv_at hl 1 rfl)) ?_
        refine fs_lift (fun _ _ _ _ => lv_iload hx hb d_Lw_law_1315 (lv_at hl 5 rfl)) ?_
        refine fs_lift (fun _ _ _ _ => lv_iconst (v := 1) hx hb d_Lw_law_1317 (by decide)) ?_
        refine fs_lift (fun _ _ _ _ => lv_iadd hx hb d_Lw_law_1318) ?_
        refine fs_Jai S hG d_Lw_law_1319 (fun v150 => ?_)
        refine fs_lift (fun _ _ _ _ => lv_aload_n hx hb d_Lw_law_1320 rfl (lv_at hl 1 rfl)) ?_
        refine fs_lift (fun _ _ _ _ => lv_iload hx hb d_Lw_law_1321 (lv_at hl 5 rfl)) ?_
        refine fs_lift (fun _ _ _ _ => lv_iconst (v := 2) hx hb d_Lw_law_1323 (by decide)) ?_
        refine fs_lift (fun _ _ _ _ => lv_iadd hx hb d_Lw_law_1324) ?_
        refine fs_Jai S hG d_Lw_law_1325 (fun v151 => ?_)
        refine fs_lift (fun _ _ _ _ => lv_aload_n hx hb d_Lw_law_1326 rfl (lv_at hl 1 rfl)) ?_
        refine fs_lift (fun _ _ _ _ => lv_iload hx hb d_Lw_law_1327 (lv_at hl 5 rfl)) ?_
        refine fs_lift (fun _ _ _ _ => lv_iconst (v := 3) hx hb d_Lw_law_1329 (by decide)) ?_
        refine fs_lift (fun _ _ _ _ => lv_iadd hx hb d_Lw_law_1330) ?_
        refine fs_Jai S hG d_Lw_law_1331 (fun v152 => ?_)
        refine fs_lift (fun _ _ _ _ => lv_i2l hx hb d_Lw_law_1332 rfl) ?_
        refine fs_lift (fun _ _ _ _ => lv_bipush (v := 32) hx hb d_Lw_law_1333 (by decide)) ?_
        refine fs_lift (fun _ _ _ _ => lv_lshl (v := (fs_lshl (Int32.toInt64 v152) 32)) hx hb d_Lw_law_1335 rfl) ?_
        refine fs_lift (fun _ _ _ _ => lv_aload_n hx hb d_Lw_law_1336 rfl (lv_at hl 1 rfl)) ?_
        refine fs_lift (fun _ _ _ _ => lv_iload hx hb d_Lw_law_1337 (lv_at hl 5 rfl)) ?_
        refine fs_lift (fun _ _ _ _ => lv_iconst (v := 4) hx hb d_Lw_law_1339 (by decide)) ?_
        refine fs_lift (fun _ _ _ _ => lv_iadd hx hb d_Lw_law_1340) ?_
        refine fs_Jai S hG d_Lw_law_1341 (fun v153 => ?_)
        refine fs_lift (fun _ _ _ _ => lv_i2l hx hb d_Lw_law_1342 rfl) ?_
        refine fs_lift (fun _ _ _ _ => lv_ldc2 hx hb S.2.2.2.1 (S.2.2.2.2 _ tw_7_79) d_Lw_law_1343) ?_
        refine fs_lift (fun _ _ _ _ => lv_land hx hb d_Lw_law_1346) ?_
        refine fs_lift (fun _ _ _ _ => lv_lor hx hb d_Lw_law_1347) ?_
        refine fs_lift (fun _ _ _ _ => lv_aload_n hx hb d_Lw_law_1348 rfl (lv_at hl 1 rfl)) ?_
        refine fs_lift (fun _ _ _ _ => lv_iload hx hb d_Lw_law_1349 (lv_at hl 5 rfl)) ?_
        refine fs_lift (fun _ _ _ _ => lv_iconst (v := 5) hx hb d_Lw_law_1351 (by decide)) ?_
        refine fs_lift (fun _ _ _ _ => lv_iadd hx hb d_Lw_law_1352) ?_
        refine fs_Jai S hG d_Lw_law_1353 (fun v154 => ?_)
        refine fs_JV S hG hR rfl [.int v150, .int v151, .long ((fs_lshl (Int32.toInt64 v152) 32) ||| ((Int32.toInt64 v153) &&& 4294967295)), .int v154] (enc := fun r => some (.long r)) (fun zr zs zt zh => m_Rf_total X l r2 v150 v151 ((fs_lshl (Int32.toInt64 v152) 32) ||| ((Int32.toInt64 v153) &&& 4294967295)) v154 zh) tw_7_43 tw_7_44 tw_7_45 tw_7_46 tw_1_11 q_Rf_total ⟨(Nat.le_of_ble_eq_true rfl), (Nat.le_of_ble_eq_true rfl)⟩ hl.1 rfl (Nat.le_of_ble_eq_true rfl) d_Lw_law_1354 (fun v155 => ?_)
        refine fs_Jeq (g2 := F0 m 1357 ls [.long v155]) rfl ?_
        refine fs_liftL (fun _ _ _ _ => lv_lstore (lv' := [(6, .long v155), (5, .int v149), (0, .ref a0), (1, .ref r1), (2, .ref r2), (3, .ref r3), (4, .int v4)]) hx hb d_Lw_law_1357 hl (Nat.le_of_ble_eq_true rfl) rfl) (fun ls hl => ?_)
        refine fs_lift (fun _ _ _ _ => lv_aload_n hx hb d_Lw_law_1359 rfl (lv_at hl 4 rfl)) ?_
        refine fs_JV S hG hR rfl [] (enc := fun r => some (.int r)) (fun zr zs zt zh => m_Rf_thrown X l r2 zh) tw_6_103 tw_6_104 tw_6_105 tw_6_106 tw_1_11 q_Rf_thrown ⟨(Nat.le_of_ble_eq_true rfl), (Nat.le_of_ble_eq_true rfl)⟩ hl.1 rfl (Nat.le_of_ble_eq_true rfl) d_Lw_law_1360 (fun v156 => ?_)
        refine fs_Jeq (g2 := F0 m 1363 ls [.int v156]) rfl ?_
        refine fs_lift (fun _ _ _ _ => lv_iload hx hb d_Lw_law_1363 (lv_at hl 1 rfl)) ?_
        refine fs_if (fun _ _ _ _ => lv_icmp_eq hx hb d_Lw_law_1365 rfl) ?_ ?_
        · refine fs_lift (fun _ _ _ _ => lv_iload hx hb d_Lw_law_1370 (lv_at hl 1 rfl)) ?_
          refine fs_Jlet1 (nL := 8) (pj := 1386) (I := fun (_ : Unit) => [(0, .ref a0), (1, .ref r1), (2, .ref r2), (3, .ref r3), (4, .int v4)]) (st := fun (_ : Unit) => []) (fun _ ls hl => ?_) (fun j1386 hj1386 => ?_)
          · refine fs_lift (fun _ _ _ _ => lv_goto hx hb d_Lw_law_1386 rfl) ?_
            exact hj1513 () ls (lv_sub hl [0, 1, 2, 3, 4] rfl)
          · refine fs_ifn (fun _ _ _ _ => lv_if_ne hx hb d_Lw_law_1372 rfl) ?_ ?_
            · refine fs_lift (fun _ _ _ _ => lv_aload_n hx hb d_Lw_law_1375 rfl (lv_at hl 5 rfl)) ?_
              refine fs_lift (fun _ _ _ _ => lv_iconst (v := 0) hx hb d_Lw_law_1376 (by decide)) ?_
              refine fs_Jaj S hG d_Lw_law_1377 (fun v157 => ?_)
              refine fs_lift (fun _ _ _ _ => lv_lload hx hb d_Lw_law_1378 (lv_at hl 0 rfl)) ?_
              refine fs_lift (fun _ _ _ _ => W.lcmp hx hb d_Lw_law_1380) ?_
              refine fs_if (fun _ _ _ _ => lv_if_eq hx hb d_Lw_law_1381 rfl) ?_ ?_
              · exact hj1386 () ls (lv_sub hl [2, 3, 4, 5, 6] rfl)
              · refine fs_lift (fun _ _ _ _ => lv_iconst (v := 0) hx hb d_Lw_law_1384 (by decide)) ?_
                exact fs_Jzret S hr hk rfl d_Lw_law_1385
            · exact hj1386 () ls (lv_sub hl [2, 3, 4, 5, 6] rfl)
        · refine fs_lift (fun _ _ _ _ => lv_iconst (v := 0) hx hb d_Lw_law_1368 (by decide)) ?_
          exact fs_Jzret S hr hk rfl d_Lw_law_1369
      refine fs_sw (fun q9 => ?_) (fun q119 => ?_)
      · refine fs_lift (fun _ _ _ _ => lv_tableIn (off := 1349) (tgt := 1389) hx hb d_Lw_law_40 (by rw [q9]; decide) (by rw [q9]; decide) (by rw [q9]; rfl) rfl) ?_
        refine fs_lift (fun _ _ _ _ => lv_aload_n hx hb d_Lw_law_1389 rfl (lv_at hl 1 rfl)) ?_
        refine fs_lift (fun _ _ _ _ => lv_aload_n hx hb d_Lw_law_1390 rfl (lv_at hl 0 rfl)) ?_
        refine fs_lift (fun _ _ _ _ => lv_iload hx hb d_Lw_law_1391 (lv_at hl 4 rfl)) ?_
        refine fs_lift (fun _ _ _ _ => lv_iconst (v := 1) hx hb d_Lw_law_1393 (by decide)) ?_
        refine fs_lift (fun _ _ _ _ => lv_iadd hx hb d_Lw_law_1394) ?_
        refine fs_Jai S hG d_Lw_law_1395 (fun v158 => ?_)
        refine fs_lift (fun _ _ _ _ => lv_aload_n hx hb d_Lw_law_1396 rfl (lv_at hl 3 rfl)) ?_
        refine fs_JSW S hG hR [.ref r1, .int v158, .ref r3] (enc := fun r => some (.int r)) (fun zr zs zt zh => m_Lw_other X l hl0 r1 v158 r3 zh) tw_5_120 tw_5_121 tw_5_122 tw_1_0 q_Lw_other ⟨(Nat.le_of_ble_eq_true rfl), (Nat.le_of_ble_eq_true rfl)⟩ hl.1 rfl (Nat.le_of_ble_eq_true rfl) d_Lw_law_1397 (fun v159 => ?_)
        refine fs_Jeq (g2 := F0 m 1400 ls [.int v159]) rfl ?_
        refine fs_liftL (fun _ _ _ _ => lv_istore (lv' := [(5, .int v159), (0, .ref a0), (1, .ref r1), (2, .ref r2), (3, .ref r3), (4, .int v4)]) hx hb d_Lw_law_1400 hl (Nat.le_of_ble_eq_true rfl) rfl) (fun ls hl => ?_)
        refine fs_lift (fun _ _ _ _ => lv_aload_n hx hb d_Lw_law_1402 rfl (lv_at hl 3 rfl)) ?_
        refine fs_lift (fun _ _ _ _ => lv_aload_n hx hb d_Lw_law_1403 rfl (lv_at hl 1 rfl)) ?_
        refine fs_lift (fun _ _ _ _ => lv_iload hx hb d_Lw_law_1404 (lv_at hl 5 rfl)) ?_
        refine fs_lift (fun _ _ _ _ => lv_iconst (v := 1) hx hb d_Lw_law_1406 (by decide)) ?_
        refine fs_lift (fun _ _ _ _ => lv_iadd hx hb d_Lw_law_1407) ?_
        refine fs_Jai S hG d_Lw_law_1408 (fun v160 => ?_)
        refine fs_JV S hG hR rfl [.int v160] (enc := fun r => some (.int r)) (fun zr zs zt zh => m_Rf_other X l r2 v160 zh) tw_7_47 tw_7_48 tw_7_49 tw_7_50 tw_1_11 q_Rf_other ⟨(Nat.le_of_ble_eq_true rfl), (Nat.le_of_ble_eq_true rfl)⟩ hl.1 rfl (Nat.le_of_ble_eq_true rfl) d_Lw_law_1409 (fun v161 => ?_)
        refine fs_Jeq (g2 := F0 m 1412 ls [.int v161]) rfl ?_
        refine fs_liftL (fun _ _ _ _ => lv_istore (lv' := [(6, .int v161), (5, .int v159), (0, .ref a0), (1, .ref r1), (2, .ref r2), (3, .ref r3), (4, .int v4)]) hx hb d_Lw_law_1412 hl (Nat.le_of_ble_eq_true rfl) rfl) (fun ls hl => ?_)
        refine fs_lift (fun _ _ _ _ => lv_aload_n hx hb d_Lw_law_1414 rfl (lv_at hl 4 rfl)) ?_
        refine fs_JV S hG hR rfl [] (enc := fun r => some (.int r)) (fun zr zs zt zh => m_Rf_thrown X l r2 zh) tw_6_103 tw_6_104 tw_6_105 tw_6_106 tw_1_11 q_Rf_thrown ⟨(Nat.le_of_ble_eq_true rfl), (Nat.le_of_ble_eq_true rfl)⟩ hl.1 rfl (Nat.le_of_ble_eq_true rfl) d_Lw_law_1415 (fun v162 => ?_)
        refine fs_Jeq (g2 := F0 m 1418 ls [.int v162]) rfl ?_
        refine fs_lift (fun _ _ _ _ => lv_iload hx hb d_Lw_law_1418 (lv_at hl 1 rfl)) ?_
        refine fs_if (fun _ _ _ _ => lv_icmp_eq hx hb d_Lw_law_1420 rfl) ?_ ?_
        · refine fs_lift (fun _ _ _ _ => lv_iload hx hb d_Lw_law_1425 (lv_at hl 1 rfl)) ?_
          refine fs_Jlet1 (nL := 8) (pj := 1442) (I := fun (_ : Unit) => [(0, .ref a0), (1, .ref r1), (2, .ref r2), (3, .ref r3), (4, .int v4)]) (st := fun (_ : Unit) => []) (fun _ ls hl => ?_) (fun j1442 hj1442 => ?_)
          · refine fs_lift (fun _ _ _ _ => lv_goto hx hb d_Lw_law_1442 rfl) ?_
            exact hj1513 () ls (lv_sub hl [0, 1, 2, 3, 4] rfl)
          · refine fs_ifn (fun _ _ _ _ => lv_if_ne hx hb d_Lw_law_1427 rfl) ?_ ?_
            · refine fs_lift (fun _ _ _ _ => lv_aload_n hx hb d_Lw_law_1430 rfl (lv_at hl 5 rfl)) ?_
              refine fs_lift (fun _ _ _ _ => lv_iconst (v := 0) hx hb d_Lw_law_1431 (by decide)) ?_
              refine fs_Jaj S hG d_Lw_law_1432 (fun v163 => ?_)
              refine fs_lift (fun _ _ _ _ => lv_iload hx hb d_Lw_law_1433 (lv_at hl 0 rfl)) ?_
              refine fs_lift (fun _ _ _ _ => lv_i2l hx hb d_Lw_law_1435 rfl) ?_
              refine fs_lift (fun _ _ _ _ => W.lcmp hx hb d_Lw_law_1436) ?_
              refine fs_if (fun _ _ _ _ => lv_if_eq hx hb d_Lw_law_1437 rfl) ?_ ?_
              · exact hj1442 () ls (lv_sub hl [2, 3, 4, 5, 6] rfl)
              · refine fs_lift (fun _ _ _ _ => lv_iconst (v := 0) hx hb d_Lw_law_1440 (by decide)) ?_
                exact fs_Jzret S hr hk rfl d_Lw_law_1441
            · exact hj1442 () ls (lv_sub hl [2, 3, 4, 5, 6] rfl)
        · refine fs_lift (fun _ _ _ _ => lv_iconst (v := 0) hx hb d_Lw_law_1423 (by decide)) ?_
          exact fs_Jzret S hr hk rfl d_Lw_law_1424
      refine fs_sw (fun q9 => ?_) (fun q120 => ?_)
      · refine fs_lift (fun _ _ _ _ => lv_tableIn (off := 1405) (tgt := 1445) hx hb d_Lw_law_40 (by rw [q9]; decide) (by rw [q9]; decide) (by rw [q9]; rfl) rfl) ?_
        refine fs_lift (fun _ _ _ _ => lv_aload_n hx hb d_Lw_law_1445 rfl (lv_at hl 1 rfl)) ?_
        refine fs_lift (fun _ _ _ _ => lv_aload_n hx hb d_Lw_law_1446 rfl (lv_at hl 0 rfl)) ?_
        refine fs_lift (fun _ _ _ _ => lv_iload hx hb d_Lw_law_1447 (lv_at hl 4 rfl)) ?_
        refine fs_lift (fun _ _ _ _ => lv_iconst (v := 1) hx hb d_Lw_law_1449 (by decide)) ?_
        refine fs_lift (fun _ _ _ _ => lv_iadd hx hb d_Lw_law_1450) ?_
        refine fs_Jai S hG d_Lw_law_1451 (fun v164 => ?_)
        refine fs_lift (fun _ _ _ _ => lv_aload_n hx hb d_Lw_law_1452 rfl (lv_at hl 0 rfl)) ?_
        refine fs_lift (fun _ _ _ _ => lv_iload hx hb d_Lw_law_1453 (lv_at hl 4 rfl)) ?_
        refine fs_lift (fun _ _ _ _ => lv_iconst (v := 2) hx hb d_Lw_law_1455 (by decide)) ?_
        refine fs_lift (fun _ _ _ _ => lv_iadd hx hb d_Lw_law_1456) ?_
        refine fs_Jai S hG d_Lw_law_1457 (fun v165 => ?_)
        refine fs_lift (fun _ _ _ _ => lv_aload_n hx hb d_Lw_law_1458 rfl (lv_at hl 3 rfl)) ?_
        refine fs_JSW S hG hR [.ref r1, .int v164, .int v165, .ref r3] (enc := fun r => some (.int r)) (fun zr zs zt zh => m_Lw_count X l hl0 r1 v164 v165 r3 zh) tw_5_166 tw_5_167 tw_5_168 tw_1_0 q_Lw_count ⟨(Nat.le_of_ble_eq_true rfl), (Nat.le_of_ble_eq_true rfl)⟩ hl.1 rfl (Nat.le_of_ble_eq_true rfl) d_Lw_law_1459 (fun v166 => ?_)
        refine fs_Jeq (g2 := F0 m 1462 ls [.int v166]) rfl ?_
        refine fs_liftL (fun _ _ _ _ => lv_istore (lv' := [(5, .int v166), (0, .ref a0), (1, .ref r1), (2, .ref r2), (3, .ref r3), (4, .int v4)]) hx hb d_Lw_law_1462 hl (Nat.le_of_ble_eq_true rfl) rfl) (fun ls hl => ?_)
        refine fs_lift (fun _ _ _ _ => lv_aload_n hx hb d_Lw_law_1464 rfl (lv_at hl 3 rfl)) ?_
        refine fs_lift (fun _ _ _ _ => lv_aload_n hx hb d_Lw_law_1465 rfl (lv_at hl 1 rfl)) ?_
        refine fs_lift (fun _ _ _ _ => lv_iload hx hb d_Lw_law_1466 (lv_at hl 5 rfl)) ?_
        refine fs_lift (fun _ _ _ _ => lv_iconst (v := 1) hx hb d_Lw_law_1468 (by decide)) ?_
        refine fs_lift (fun _ _ _ _ => lv_iadd hx hb d_Lw_law_1469) ?_
        refine fs_Jai S hG d_Lw_law_1470 (fun v167 => ?_)
        refine fs_lift (fun _ _ _ _ => lv_aload_n hx hb d_Lw_law_1471 rfl (lv_at hl 1 rfl)) ?_
        refine fs_lift (fun _ _ _ _ => lv_iload hx hb d_Lw_law_1472 (lv_at hl 5 rfl)) ?_
        refine fs_lift (fun _ _ _ _ => lv_iconst (v := 2) hx hb d_Lw_law_1474 (by decide)) ?_
        refine fs_lift (fun _ _ _ _ => lv_iadd hx hb d_Lw_law_1475) ?_
        refine fs_Jai S hG d_Lw_law_1476 (fun v168 => ?_)
        refine fs_JV S hG hR rfl [.int v167, .int v168] (enc := fun r => some (.int r)) (fun zr zs zt zh => m_Rf_count X l r2 v167 v168 zh) tw_7_71 tw_7_72 tw_7_73 tw_7_74 tw_1_11 q_Rf_count ⟨(Nat.le_of_ble_eq_true rfl), (Nat.le_of_ble_eq_true rfl)⟩ hl.1 rfl (Nat.le_of_ble_eq_true rfl) d_Lw_law_1477 (fun v169 => ?_)
        refine fs_Jeq (g2 := F0 m 1480 ls [.int v169]) rfl ?_
        refine fs_liftL (fun _ _ _ _ => lv_istore (lv' := [(6, .int v169), (5, .int v166), (0, .ref a0), (1, .ref r1), (2, .ref r2), (3, .ref r3), (4, .int v4)]) hx hb d_Lw_law_1480 hl (Nat.le_of_ble_eq_true rfl) rfl) (fun ls hl => ?_)
        refine fs_lift (fun _ _ _ _ => lv_aload_n hx hb d_Lw_law_1482 rfl (lv_at hl 4 rfl)) ?_
        refine fs_JV S hG hR rfl [] (enc := fun r => some (.int r)) (fun zr zs zt zh => m_Rf_thrown X l r2 zh) tw_6_103 tw_6_104 tw_6_105 tw_6_106 tw_1_11 q_Rf_thrown ⟨(Nat.le_of_ble_eq_true rfl), (Nat.le_of_ble_eq_true rfl)⟩ hl.1 rfl (Nat.le_of_ble_eq_true rfl) d_Lw_law_1483 (fun v170 => ?_)
        refine fs_Jeq (g2 := F0 m 1486 ls [.int v170]) rfl ?_
        refine fs_lift (fun _ _ _ _ => lv_iload hx hb d_Lw_law_1486 (lv_at hl 1 rfl)) ?_
        refine fs_if (fun _ _ _ _ => lv_icmp_eq hx hb d_Lw_law_1488 rfl) ?_ ?_
        · refine fs_lift (fun _ _ _ _ => lv_iload hx hb d_Lw_law_1493 (lv_at hl 1 rfl)) ?_
          refine fs_Jlet1 (nL := 8) (pj := 1510) (I := fun (_ : Unit) => [(0, .ref a0), (1, .ref r1), (2, .ref r2), (3, .ref r3), (4, .int v4)]) (st := fun (_ : Unit) => []) (fun _ ls hl => ?_) (fun j1510 hj1510 => ?_)
          · refine fs_lift (fun _ _ _ _ => lv_goto hx hb d_Lw_law_1510 rfl) ?_
            exact hj1513 () ls (lv_sub hl [0, 1, 2, 3, 4] rfl)
          · refine fs_ifn (fun _ _ _ _ => lv_if_ne hx hb d_Lw_law_1495 rfl) ?_ ?_
            · refine fs_lift (fun _ _ _ _ => lv_aload_n hx hb d_Lw_law_1498 rfl (lv_at hl 5 rfl)) ?_
              refine fs_lift (fun _ _ _ _ => lv_iconst (v := 0) hx hb d_Lw_law_1499 (by decide)) ?_
              refine fs_Jaj S hG d_Lw_law_1500 (fun v171 => ?_)
              refine fs_lift (fun _ _ _ _ => lv_iload hx hb d_Lw_law_1501 (lv_at hl 0 rfl)) ?_
              refine fs_lift (fun _ _ _ _ => lv_i2l hx hb d_Lw_law_1503 rfl) ?_
              refine fs_lift (fun _ _ _ _ => W.lcmp hx hb d_Lw_law_1504) ?_
              refine fs_if (fun _ _ _ _ => lv_if_eq hx hb d_Lw_law_1505 rfl) ?_ ?_
              · exact hj1510 () ls (lv_sub hl [2, 3, 4, 5, 6] rfl)
              · refine fs_lift (fun _ _ _ _ => lv_iconst (v := 0) hx hb d_Lw_law_1508 (by decide)) ?_
                exact fs_Jzret S hr hk rfl d_Lw_law_1509
            · exact hj1510 () ls (lv_sub hl [2, 3, 4, 5, 6] rfl)
        · refine fs_lift (fun _ _ _ _ => lv_iconst (v := 0) hx hb d_Lw_law_1491 (by decide)) ?_
          exact fs_Jzret S hr hk rfl d_Lw_law_1492
      refine fs_lift (fun _ _ _ _ => lv_tableOut (tgt := 1513) hx hb d_Lw_law_40 (fs_tout 20 (fun k hk => match k, hk with | 0, _ => q100 | 1, _ => q101 | 2, _ => q102 | 3, _ => q103 | 4, _ => q104 | 5, _ => q105 | 6, _ => q106 | 7, _ => q107 | 8, _ => q108 | 9, _ => q109 | 10, _ => q110 | 11, _ => q111 | 12, _ => q112 | 13, _ => q113 | 14, _ => q114 | 15, _ => q115 | 16, _ => q116 | 17, _ => q117 | 18, _ => q118 | 19, _ => q119 | 20, _ => q120 | n + 21, h => absurd h (by omega)) (by decide)) rfl) ?_
      exact hj1513 () ls (lv_sub hl [0, 1, 2, 3, 4] rfl)

