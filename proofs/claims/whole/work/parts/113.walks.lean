/-! contracts of methods, walked by program -/
theorem d_Rf_rows_0 : decode prog_13_method_44_code 0 = .ok (.aload_n 0, 1) := by decide +kernel
theorem d_Rf_rows_1 : decode prog_13_method_44_code 1 = .ok (.iconst 0, 1) := by decide +kernel
theorem d_Rf_rows_2 : decode prog_13_method_44_code 2 = .ok (.putfield 138, 3) := by decide +kernel
theorem d_Rf_rows_5 : decode prog_13_method_44_code 5 = .ok (.aload_n 0, 1) := by decide +kernel
theorem d_Rf_rows_6 : decode prog_13_method_44_code 6 = .ok (.getfield 214, 3) := by decide +kernel
theorem d_Rf_rows_9 : decode prog_13_method_44_code 9 = .ok (.ireturn, 1) := by decide +kernel
theorem q_Rf_rows : (⟨"FlowShelfModel", "rows", "()I"⟩ : MethodName).cls ≠ "java/lang/invoke/MethodHandle" ∧ (⟨"FlowShelfModel", "rows", "()I"⟩ : MethodName).cls ≠ "java/lang/invoke/VarHandle" ∧ (parseMethodDescriptor (⟨"FlowShelfModel", "rows", "()I"⟩ : MethodName).desc).map (fun d => d.parameters.length) = some 0 := by decide +kernel
set_option maxHeartbeats 4000000 in
set_option maxRecDepth 100000 in
theorem m_Rf_rows (X : fs_X) (l : Launch) (a0 : Nat) {r : Int32} {σ σF : fs_S} (h : (f_Rf_rows a0).1 σ = some (r, σF)) : fs_Met X l ⟨"FlowShelfModel", "rows", "()I"⟩ (Cond.code ⟨"FlowShelfModel", "rows", "()I"⟩ prog_13_method_44_code 1 (some FieldType.int)) 0 0 [.ref a0] σ (fs_eI r) σF := by
  refine fs_ofW (by decide) ?_
  intro p e s m args below meth c s₁ B hml hT hv
  obtain ⟨rfl, hw0, hG⟩ := hv
  have hx := B.exec
  have hb := B.bytes
  have hr := B.returns
  have hk := B.notSynchronized
  have S : CallFix p m c prog_13_method_44_code 1 s _ fs_ws "FlowShelfModel" := ⟨B.exec, B.bytes, hml, findClass_of_methodNamed B.named, fun w hw => atoms_spec (ws := _ :: fs_ws) B.pre w (List.mem_cons_of_mem _ hw)⟩
  have hR := fs_hR (fr := 0) (lo := 0) ((f_Rf_rows a0).2 _ _ _ h)
  have hl := lv_entry ([.ref a0]) (n := 1) (Nat.le_of_ble_eq_true rfl)
  rw [lg_entry_eq]
  generalize (lg_sl ([.ref a0]) ++ List.replicate (1 - (lg_sl ([.ref a0])).length) Slot.unset).toArray = ls at hl ⊢
  have hl : lv_has ls 1 [(0, .ref a0)] := hl
  refine (?_ : fs_J X p l e (fs_rm 0 0 σ σF) s m _ below meth c (fs_Q X below _ s (fs_eI r) σ σF) r σ σF (f_Rf_rows a0) (F0 m 0 ls [])) σ s.heap [] 0 0 h hw0 va_S.rf rfl rfl
  clear h hw0
  unfold f_Rf_rows
  refine fs_lift (fun _ _ _ _ => lv_aload_n hx hb d_Rf_rows_0 rfl (lv_at hl 0 rfl)) ?_
  refine fs_lift (fun _ _ _ _ => lv_iconst (v := 0) hx hb d_Rf_rows_1 (by decide)) ?_
  refine fs_Jput S hG fs_in12 rfl 0 (Nat.le_of_ble_eq_true rfl) tw_5_192 (fun _ h9 => h9) fs_Y12 fs_ty12 fs_nm12 (Or.inl rfl) rfl rfl d_Rf_rows_2 ?_
  refine fs_lift (fun _ _ _ _ => lv_aload_n hx hb d_Rf_rows_5 rfl (lv_at hl 0 rfl)) ?_
  refine fs_Jgi S hG fs_in12 rfl 37 (Nat.le_of_ble_eq_true rfl) tw_5_229 (fun _ h9 => h9) d_Rf_rows_6 (fun v1 => ?_)
  exact fs_Jiret S hr hk rfl d_Rf_rows_9

theorem d_Rf_row_0 : decode prog_13_method_45_code 0 = .ok (.aload_n 0, 1) := by decide +kernel
theorem d_Rf_row_1 : decode prog_13_method_45_code 1 = .ok (.iload_n 1, 1) := by decide +kernel
theorem d_Rf_row_2 : decode prog_13_method_45_code 2 = .ok (.ifCond .lt 11, 3) := by decide +kernel
theorem d_Rf_row_5 : decode prog_13_method_45_code 5 = .ok (.iload_n 1, 1) := by decide +kernel
theorem d_Rf_row_6 : decode prog_13_method_45_code 6 = .ok (.aload_n 0, 1) := by decide +kernel
theorem d_Rf_row_7 : decode prog_13_method_45_code 7 = .ok (.getfield 214, 3) := by decide +kernel
theorem d_Rf_row_10 : decode prog_13_method_45_code 10 = .ok (.if_icmp .lt 7, 3) := by decide +kernel
theorem d_Rf_row_13 : decode prog_13_method_45_code 13 = .ok (.iconst 1, 1) := by decide +kernel
theorem d_Rf_row_14 : decode prog_13_method_45_code 14 = .ok (.goto 18, 3) := by decide +kernel
theorem d_Rf_row_17 : decode prog_13_method_45_code 17 = .ok (.iload_n 2, 1) := by decide +kernel
theorem d_Rf_row_18 : decode prog_13_method_45_code 18 = .ok (.ifCond .lt 9, 3) := by decide +kernel
theorem d_Rf_row_21 : decode prog_13_method_45_code 21 = .ok (.iload_n 2, 1) := by decide +kernel
theorem d_Rf_row_22 : decode prog_13_method_45_code 22 = .ok (.bipush 8, 2) := by decide +kernel
theorem d_Rf_row_24 : decode prog_13_method_45_code 24 = .ok (.if_icmp .le 7, 3) := by decide +kernel
theorem d_Rf_row_27 : decode prog_13_method_45_code 27 = .ok (.iconst 2, 1) := by decide +kernel
theorem d_Rf_row_28 : decode prog_13_method_45_code 28 = .ok (.goto 4, 3) := by decide +kernel
theorem d_Rf_row_31 : decode prog_13_method_45_code 31 = .ok (.iconst 0, 1) := by decide +kernel
theorem d_Rf_row_32 : decode prog_13_method_45_code 32 = .ok (.putfield 138, 3) := by decide +kernel
theorem d_Rf_row_35 : decode prog_13_method_45_code 35 = .ok (.aload_n 0, 1) := by decide +kernel
theorem d_Rf_row_36 : decode prog_13_method_45_code 36 = .ok (.getfield 138, 3) := by decide +kernel
theorem d_Rf_row_39 : decode prog_13_method_45_code 39 = .ok (.ifCond .eq 5, 3) := by decide +kernel
theorem d_Rf_row_42 : decode prog_13_method_45_code 42 = .ok (.lconst 0, 1) := by decide +kernel
theorem d_Rf_row_43 : decode prog_13_method_45_code 43 = .ok (.lreturn, 1) := by decide +kernel
theorem d_Rf_row_44 : decode prog_13_method_45_code 44 = .ok (.iload_n 2, 1) := by decide +kernel
theorem d_Rf_row_45 : decode prog_13_method_45_code 45 = .ok (.bipush 8, 2) := by decide +kernel
theorem d_Rf_row_47 : decode prog_13_method_45_code 47 = .ok (.if_icmp .ne 13, 3) := by decide +kernel
theorem d_Rf_row_50 : decode prog_13_method_45_code 50 = .ok (.aload_n 0, 1) := by decide +kernel
theorem d_Rf_row_51 : decode prog_13_method_45_code 51 = .ok (.getfield 107, 3) := by decide +kernel
theorem d_Rf_row_54 : decode prog_13_method_45_code 54 = .ok (.iload_n 1, 1) := by decide +kernel
theorem d_Rf_row_55 : decode prog_13_method_45_code 55 = .ok (.iaload, 1) := by decide +kernel
theorem d_Rf_row_56 : decode prog_13_method_45_code 56 = .ok (.i2l, 1) := by decide +kernel
theorem d_Rf_row_57 : decode prog_13_method_45_code 57 = .ok (.goto 14, 3) := by decide +kernel
theorem d_Rf_row_60 : decode prog_13_method_45_code 60 = .ok (.aload_n 0, 1) := by decide +kernel
theorem d_Rf_row_61 : decode prog_13_method_45_code 61 = .ok (.getfield 110, 3) := by decide +kernel
theorem d_Rf_row_64 : decode prog_13_method_45_code 64 = .ok (.bipush 8, 2) := by decide +kernel
theorem d_Rf_row_66 : decode prog_13_method_45_code 66 = .ok (.iload_n 1, 1) := by decide +kernel
theorem d_Rf_row_67 : decode prog_13_method_45_code 67 = .ok (.imul, 1) := by decide +kernel
theorem d_Rf_row_68 : decode prog_13_method_45_code 68 = .ok (.iload_n 2, 1) := by decide +kernel
theorem d_Rf_row_69 : decode prog_13_method_45_code 69 = .ok (.iadd, 1) := by decide +kernel
theorem d_Rf_row_70 : decode prog_13_method_45_code 70 = .ok (.laload, 1) := by decide +kernel
theorem d_Rf_row_71 : decode prog_13_method_45_code 71 = .ok (.lreturn, 1) := by decide +kernel
theorem q_Rf_row : (⟨"FlowShelfModel", "row", "(II)J"⟩ : MethodName).cls ≠ "java/lang/invoke/MethodHandle" ∧ (⟨"FlowShelfModel", "row", "(II)J"⟩ : MethodName).cls ≠ "java/lang/invoke/VarHandle" ∧ (parseMethodDescriptor (⟨"FlowShelfModel", "row", "(II)J"⟩ : MethodName).desc).map (fun d => d.parameters.length) = some 2 := by decide +kernel
set_option maxHeartbeats 4000000 in
set_option maxRecDepth 100000 in
theorem m_Rf_row (X : fs_X) (l : Launch) (a0 : Nat) (x1 : Int32) (x2 : Int32) {r : Int64} {σ σF : fs_S} (h : (f_Rf_row a0 x1 x2).1 σ = some (r, σF)) : fs_Met X l ⟨"FlowShelfModel", "row", "(II)J"⟩ (Cond.code ⟨"FlowShelfModel", "row", "(II)J"⟩ prog_13_method_45_code 3 (some FieldType.long)) 0 0 [.ref a0, .int x1, .int x2] σ (fs_eJ r) σF := by
  refine fs_ofW (by decide) ?_
  intro p e s m args below meth c s₁ B hml hT hv
  obtain ⟨rfl, hw0, hG⟩ := hv
  have hx := B.exec
  have hb := B.bytes
  have hr := B.returns
  have hk := B.notSynchronized
  have S : CallFix p m c prog_13_method_45_code 3 s _ fs_ws "FlowShelfModel" := ⟨B.exec, B.bytes, hml, findClass_of_methodNamed B.named, fun w hw => atoms_spec (ws := _ :: fs_ws) B.pre w (List.mem_cons_of_mem _ hw)⟩
  have hR := fs_hR (fr := 0) (lo := 0) ((f_Rf_row a0 x1 x2).2 _ _ _ h)
  have hl := lv_entry ([.ref a0, .int x1, .int x2]) (n := 3) (Nat.le_of_ble_eq_true rfl)
  rw [lg_entry_eq]
  generalize (lg_sl ([.ref a0, .int x1, .int x2]) ++ List.replicate (3 - (lg_sl ([.ref a0, .int x1, .int x2])).length) Slot.unset).toArray = ls at hl ⊢
  have hl : lv_has ls 3 [(0, .ref a0), (1, .int x1), (2, .int x2)] := hl
  refine (?_ : fs_J X p l e (fs_rm 0 0 σ σF) s m _ below meth c (fs_Q X below _ s (fs_eJ r) σ σF) r σ σF (f_Rf_row a0 x1 x2) (F0 m 0 ls [])) σ s.heap [] 0 0 h hw0 va_S.rf rfl rfl
  clear h hw0
  unfold f_Rf_row
  refine fs_lift (fun _ _ _ _ => lv_aload_n hx hb d_Rf_row_0 rfl (lv_at hl 0 rfl)) ?_
  refine fs_lift (fun _ _ _ _ => lv_iload_n hx hb d_Rf_row_1 rfl (lv_at hl 1 rfl)) ?_
  refine fs_Jlet1 (nL := 3) (pj := 32) (I := fun (v2 : Int32) => [(0, .ref a0), (1, .int x1), (2, .int x2)]) (st := fun (v2 : Int32) => [.int v2, .ref a0]) (fun v2 ls hl => ?_) (fun j32 hj32 => ?_)
  · refine fs_Jput S hG fs_in12 rfl 0 (Nat.le_of_ble_eq_true rfl) tw_5_192 (fun _ h9 => h9) fs_Y12 fs_ty12 fs_nm12 (Or.inl rfl) rfl rfl d_Rf_row_32 ?_
    refine fs_lift (fun _ _ _ _ => lv_aload_n hx hb d_Rf_row_35 rfl (lv_at hl 0 rfl)) ?_
    refine fs_Jgi S hG fs_in12 rfl 0 (Nat.le_of_ble_eq_true rfl) tw_5_192 (fun _ h9 => h9) d_Rf_row_36 (fun v3 => ?_)
    refine fs_if (fun _ _ _ _ => lv_if_eq hx hb d_Rf_row_39 rfl) ?_ ?_
    · refine fs_lift (fun _ _ _ _ => lv_iload_n hx hb d_Rf_row_44 rfl (lv_at hl 2 rfl)) ?_
      refine fs_lift (fun _ _ _ _ => lv_bipush (v := 8) hx hb d_Rf_row_45 (by decide)) ?_
      refine fs_ifn (fun _ _ _ _ => lv_icmp_ne hx hb d_Rf_row_47 rfl) ?_ ?_
      · refine fs_lift (fun _ _ _ _ => lv_aload_n hx hb d_Rf_row_50 rfl (lv_at hl 0 rfl)) ?_
        refine fs_Jgr S hG fs_in12 rfl 38 (Nat.le_of_ble_eq_true rfl) tw_5_230 (fun _ h9 => h9) d_Rf_row_51 (fun r6 => ?_)
        refine fs_lift (fun _ _ _ _ => lv_iload_n hx hb d_Rf_row_54 rfl (lv_at hl 1 rfl)) ?_
        refine fs_Jai S hG d_Rf_row_55 (fun v7 => ?_)
        refine fs_lift (fun _ _ _ _ => lv_i2l hx hb d_Rf_row_56 rfl) ?_
        refine fs_lift (fun _ _ _ _ => lv_goto hx hb d_Rf_row_57 rfl) ?_
        exact fs_Jlret S hr hk rfl d_Rf_row_71
      · refine fs_lift (fun _ _ _ _ => lv_aload_n hx hb d_Rf_row_60 rfl (lv_at hl 0 rfl)) ?_
        refine fs_Jgr S hG fs_in12 rfl 39 (Nat.le_of_ble_eq_true rfl) tw_5_231 (fun _ h9 => h9) d_Rf_row_61 (fun r4 => ?_)
        refine fs_lift (fun _ _ _ _ => lv_bipush (v := 8) hx hb d_Rf_row_64 (by decide)) ?_
        refine fs_lift (fun _ _ _ _ => lv_iload_n hx hb d_Rf_row_66 rfl (lv_at hl 1 rfl)) ?_
        refine fs_lift (fun _ _ _ _ => lv_imul hx hb d_Rf_row_67) ?_
        refine fs_lift (fun _ _ _ _ => lv_iload_n hx hb d_Rf_row_68 rfl (lv_at hl 2 rfl)) ?_
        refine fs_lift (fun _ _ _ _ => lv_iadd hx hb d_Rf_row_69) ?_
        refine fs_Jaj S hG d_Rf_row_70 (fun v5 => ?_)
        exact fs_Jlret S hr hk rfl d_Rf_row_71
    · refine fs_lift (fun _ _ _ _ => lv_lconst (v := 0) hx hb d_Rf_row_42 (by decide)) ?_
      exact fs_Jlret S hr hk rfl d_Rf_row_43
  · refine fs_Jlet1 (nL := 3) (pj := 13) (I := fun (_ : Unit) => [(0, .ref a0), (1, .int x1), (2, .int x2)]) (st := fun (_ : Unit) => [.ref a0]) (fun _ ls hl => ?_) (fun j13 hj13 => ?_)
    · refine fs_lift (fun _ _ _ _ => lv_iconst (v := 1) hx hb d_Rf_row_13 (by decide)) ?_
      refine fs_lift (fun _ _ _ _ => lv_goto hx hb d_Rf_row_14 rfl) ?_
      exact hj32 1 ls (lv_sub hl [0, 1, 2] rfl)
    · refine fs_if (fun _ _ _ _ => lv_if_lt hx hb d_Rf_row_2 rfl) ?_ ?_
      · exact hj13 () ls (lv_sub hl [0, 1, 2] rfl)
      · refine fs_lift (fun _ _ _ _ => lv_iload_n hx hb d_Rf_row_5 rfl (lv_at hl 1 rfl)) ?_
        refine fs_lift (fun _ _ _ _ => lv_aload_n hx hb d_Rf_row_6 rfl (lv_at hl 0 rfl)) ?_
        refine fs_Jgi S hG fs_in12 rfl 37 (Nat.le_of_ble_eq_true rfl) tw_5_229 (fun _ h9 => h9) d_Rf_row_7 (fun v1 => ?_)
        refine fs_if (fun _ _ _ _ => lv_icmp_lt hx hb d_Rf_row_10 rfl) ?_ ?_
        · refine fs_lift (fun _ _ _ _ => lv_iload_n hx hb d_Rf_row_17 rfl (lv_at hl 2 rfl)) ?_
          refine fs_Jlet1 (nL := 3) (pj := 27) (I := fun (_ : Unit) => [(0, .ref a0), (1, .int x1), (2, .int x2)]) (st := fun (_ : Unit) => [.ref a0]) (fun _ ls hl => ?_) (fun j27 hj27 => ?_)
          · refine fs_lift (fun _ _ _ _ => lv_iconst (v := 2) hx hb d_Rf_row_27 (by decide)) ?_
            refine fs_lift (fun _ _ _ _ => lv_goto hx hb d_Rf_row_28 rfl) ?_
            exact hj32 2 ls (lv_sub hl [0, 1, 2] rfl)
          · refine fs_if (fun _ _ _ _ => lv_if_lt hx hb d_Rf_row_18 rfl) ?_ ?_
            · exact hj27 () ls (lv_sub hl [0, 1, 2] rfl)
            · refine fs_lift (fun _ _ _ _ => lv_iload_n hx hb d_Rf_row_21 rfl (lv_at hl 2 rfl)) ?_
              refine fs_lift (fun _ _ _ _ => lv_bipush (v := 8) hx hb d_Rf_row_22 (by decide)) ?_
              refine fs_if (fun _ _ _ _ => lv_icmp_le hx hb d_Rf_row_24 rfl) ?_ ?_
              · refine fs_lift (fun _ _ _ _ => lv_iconst (v := 0) hx hb d_Rf_row_31 (by decide)) ?_
                exact hj32 0 ls (lv_sub hl [0, 1, 2] rfl)
              · exact hj27 () ls (lv_sub hl [0, 1, 2] rfl)
        · exact hj13 () ls (lv_sub hl [0, 1, 2] rfl)

theorem d_Rf_total_0 : decode prog_13_method_46_code 0 = .ok (.aload_n 0, 1) := by decide +kernel
theorem d_Rf_total_1 : decode prog_13_method_46_code 1 = .ok (.aload_n 0, 1) := by decide +kernel
theorem d_Rf_total_2 : decode prog_13_method_46_code 2 = .ok (.iload_n 1, 1) := by decide +kernel
theorem d_Rf_total_3 : decode prog_13_method_46_code 3 = .ok (.invokevirtual 146, 3) := by decide +kernel
theorem d_Rf_total_6 : decode prog_13_method_46_code 6 = .ok (.ifCond .ne 25, 3) := by decide +kernel
theorem d_Rf_total_9 : decode prog_13_method_46_code 9 = .ok (.iload_n 2, 1) := by decide +kernel
theorem d_Rf_total_10 : decode prog_13_method_46_code 10 = .ok (.ifCond .lt 21, 3) := by decide +kernel
theorem d_Rf_total_13 : decode prog_13_method_46_code 13 = .ok (.iload_n 2, 1) := by decide +kernel
theorem d_Rf_total_14 : decode prog_13_method_46_code 14 = .ok (.bipush 7, 2) := by decide +kernel
theorem d_Rf_total_16 : decode prog_13_method_46_code 16 = .ok (.if_icmp .gt 15, 3) := by decide +kernel
theorem d_Rf_total_19 : decode prog_13_method_46_code 19 = .ok (.iload 5, 2) := by decide +kernel
theorem d_Rf_total_21 : decode prog_13_method_46_code 21 = .ok (.ifCond .lt 10, 3) := by decide +kernel
theorem d_Rf_total_24 : decode prog_13_method_46_code 24 = .ok (.iload 5, 2) := by decide +kernel
theorem d_Rf_total_26 : decode prog_13_method_46_code 26 = .ok (.bipush 7, 2) := by decide +kernel
theorem d_Rf_total_28 : decode prog_13_method_46_code 28 = .ok (.if_icmp .le 7, 3) := by decide +kernel
theorem d_Rf_total_31 : decode prog_13_method_46_code 31 = .ok (.iconst 1, 1) := by decide +kernel
theorem d_Rf_total_32 : decode prog_13_method_46_code 32 = .ok (.goto 4, 3) := by decide +kernel
theorem d_Rf_total_35 : decode prog_13_method_46_code 35 = .ok (.iconst 0, 1) := by decide +kernel
theorem d_Rf_total_36 : decode prog_13_method_46_code 36 = .ok (.putfield 138, 3) := by decide +kernel
theorem d_Rf_total_39 : decode prog_13_method_46_code 39 = .ok (.lconst 0, 1) := by decide +kernel
theorem d_Rf_total_40 : decode prog_13_method_46_code 40 = .ok (.lstore 6, 2) := by decide +kernel
theorem d_Rf_total_42 : decode prog_13_method_46_code 42 = .ok (.iconst 0, 1) := by decide +kernel
theorem d_Rf_total_43 : decode prog_13_method_46_code 43 = .ok (.istore 8, 2) := by decide +kernel
theorem d_Rf_total_45 : decode prog_13_method_46_code 45 = .ok (.iload 8, 2) := by decide +kernel
theorem d_Rf_total_47 : decode prog_13_method_46_code 47 = .ok (.aload_n 0, 1) := by decide +kernel
theorem d_Rf_total_48 : decode prog_13_method_46_code 48 = .ok (.getfield 214, 3) := by decide +kernel
theorem d_Rf_total_51 : decode prog_13_method_46_code 51 = .ok (.if_icmp .ge 113, 3) := by decide +kernel
theorem d_Rf_total_54 : decode prog_13_method_46_code 54 = .ok (.aload_n 0, 1) := by decide +kernel
theorem d_Rf_total_55 : decode prog_13_method_46_code 55 = .ok (.getfield 138, 3) := by decide +kernel
theorem d_Rf_total_58 : decode prog_13_method_46_code 58 = .ok (.ifCond .ne 106, 3) := by decide +kernel
theorem d_Rf_total_61 : decode prog_13_method_46_code 61 = .ok (.aload_n 0, 1) := by decide +kernel
theorem d_Rf_total_62 : decode prog_13_method_46_code 62 = .ok (.getfield 107, 3) := by decide +kernel
theorem d_Rf_total_65 : decode prog_13_method_46_code 65 = .ok (.iload 8, 2) := by decide +kernel
theorem d_Rf_total_67 : decode prog_13_method_46_code 67 = .ok (.iaload, 1) := by decide +kernel
theorem d_Rf_total_68 : decode prog_13_method_46_code 68 = .ok (.iload_n 1, 1) := by decide +kernel
theorem d_Rf_total_69 : decode prog_13_method_46_code 69 = .ok (.if_icmp .ne 59, 3) := by decide +kernel
theorem d_Rf_total_72 : decode prog_13_method_46_code 72 = .ok (.aload_n 0, 1) := by decide +kernel
theorem d_Rf_total_73 : decode prog_13_method_46_code 73 = .ok (.getfield 110, 3) := by decide +kernel
theorem d_Rf_total_76 : decode prog_13_method_46_code 76 = .ok (.bipush 8, 2) := by decide +kernel
theorem d_Rf_total_78 : decode prog_13_method_46_code 78 = .ok (.iload 8, 2) := by decide +kernel
theorem d_Rf_total_80 : decode prog_13_method_46_code 80 = .ok (.imul, 1) := by decide +kernel
theorem d_Rf_total_81 : decode prog_13_method_46_code 81 = .ok (.iload_n 2, 1) := by decide +kernel
theorem d_Rf_total_82 : decode prog_13_method_46_code 82 = .ok (.iadd, 1) := by decide +kernel
theorem d_Rf_total_83 : decode prog_13_method_46_code 83 = .ok (.laload, 1) := by decide +kernel
theorem d_Rf_total_84 : decode prog_13_method_46_code 84 = .ok (.lconst 0, 1) := by decide +kernel
theorem d_Rf_total_85 : decode prog_13_method_46_code 85 = .ok (.lcmp, 1) := by decide +kernel
theorem d_Rf_total_86 : decode prog_13_method_46_code 86 = .ok (.ifCond .lt 42, 3) := by decide +kernel
theorem d_Rf_total_89 : decode prog_13_method_46_code 89 = .ok (.aload_n 0, 1) := by decide +kernel
theorem d_Rf_total_90 : decode prog_13_method_46_code 90 = .ok (.getfield 110, 3) := by decide +kernel
theorem d_Rf_total_93 : decode prog_13_method_46_code 93 = .ok (.bipush 8, 2) := by decide +kernel
theorem d_Rf_total_95 : decode prog_13_method_46_code 95 = .ok (.iload 8, 2) := by decide +kernel
theorem d_Rf_total_97 : decode prog_13_method_46_code 97 = .ok (.imul, 1) := by decide +kernel
theorem d_Rf_total_98 : decode prog_13_method_46_code 98 = .ok (.iload_n 2, 1) := by decide +kernel
theorem d_Rf_total_99 : decode prog_13_method_46_code 99 = .ok (.iadd, 1) := by decide +kernel
theorem d_Rf_total_100 : decode prog_13_method_46_code 100 = .ok (.laload, 1) := by decide +kernel
theorem d_Rf_total_101 : decode prog_13_method_46_code 101 = .ok (.lload_n 3, 1) := by decide +kernel
theorem d_Rf_total_102 : decode prog_13_method_46_code 102 = .ok (.lcmp, 1) := by decide +kernel
theorem d_Rf_total_103 : decode prog_13_method_46_code 103 = .ok (.ifCond .ne 25, 3) := by decide +kernel
theorem d_Rf_total_106 : decode prog_13_method_46_code 106 = .ok (.aload_n 0, 1) := by decide +kernel
theorem d_Rf_total_107 : decode prog_13_method_46_code 107 = .ok (.getfield 110, 3) := by decide +kernel
theorem d_Rf_total_110 : decode prog_13_method_46_code 110 = .ok (.bipush 8, 2) := by decide +kernel
theorem d_Rf_total_112 : decode prog_13_method_46_code 112 = .ok (.iload 8, 2) := by decide +kernel
theorem d_Rf_total_114 : decode prog_13_method_46_code 114 = .ok (.imul, 1) := by decide +kernel
theorem d_Rf_total_115 : decode prog_13_method_46_code 115 = .ok (.iload 5, 2) := by decide +kernel
theorem d_Rf_total_117 : decode prog_13_method_46_code 117 = .ok (.iadd, 1) := by decide +kernel
theorem d_Rf_total_118 : decode prog_13_method_46_code 118 = .ok (.laload, 1) := by decide +kernel
theorem d_Rf_total_119 : decode prog_13_method_46_code 119 = .ok (.lconst 0, 1) := by decide +kernel
theorem d_Rf_total_120 : decode prog_13_method_46_code 120 = .ok (.lcmp, 1) := by decide +kernel
theorem d_Rf_total_121 : decode prog_13_method_46_code 121 = .ok (.ifCond .lt 7, 3) := by decide +kernel
theorem d_Rf_total_124 : decode prog_13_method_46_code 124 = .ok (.iconst 1, 1) := by decide +kernel
theorem d_Rf_total_125 : decode prog_13_method_46_code 125 = .ok (.goto 4, 3) := by decide +kernel
theorem d_Rf_total_128 : decode prog_13_method_46_code 128 = .ok (.iconst 0, 1) := by decide +kernel
theorem d_Rf_total_129 : decode prog_13_method_46_code 129 = .ok (.istore 9, 2) := by decide +kernel
theorem d_Rf_total_131 : decode prog_13_method_46_code 131 = .ok (.lload 6, 2) := by decide +kernel
theorem d_Rf_total_133 : decode prog_13_method_46_code 133 = .ok (.iload 9, 2) := by decide +kernel
theorem d_Rf_total_135 : decode prog_13_method_46_code 135 = .ok (.ifCond .eq 19, 3) := by decide +kernel
theorem d_Rf_total_138 : decode prog_13_method_46_code 138 = .ok (.aload_n 0, 1) := by decide +kernel
theorem d_Rf_total_139 : decode prog_13_method_46_code 139 = .ok (.getfield 110, 3) := by decide +kernel
theorem d_Rf_total_142 : decode prog_13_method_46_code 142 = .ok (.bipush 8, 2) := by decide +kernel
theorem d_Rf_total_144 : decode prog_13_method_46_code 144 = .ok (.iload 8, 2) := by decide +kernel
theorem d_Rf_total_146 : decode prog_13_method_46_code 146 = .ok (.imul, 1) := by decide +kernel
theorem d_Rf_total_147 : decode prog_13_method_46_code 147 = .ok (.iload 5, 2) := by decide +kernel
theorem d_Rf_total_149 : decode prog_13_method_46_code 149 = .ok (.iadd, 1) := by decide +kernel
theorem d_Rf_total_150 : decode prog_13_method_46_code 150 = .ok (.laload, 1) := by decide +kernel
theorem d_Rf_total_151 : decode prog_13_method_46_code 151 = .ok (.goto 4, 3) := by decide +kernel
theorem d_Rf_total_154 : decode prog_13_method_46_code 154 = .ok (.lconst 0, 1) := by decide +kernel
theorem d_Rf_total_155 : decode prog_13_method_46_code 155 = .ok (.ladd, 1) := by decide +kernel
theorem d_Rf_total_156 : decode prog_13_method_46_code 156 = .ok (.lstore 6, 2) := by decide +kernel
theorem d_Rf_total_158 : decode prog_13_method_46_code 158 = .ok (.iinc 8 1, 3) := by decide +kernel
theorem d_Rf_total_161 : decode prog_13_method_46_code 161 = .ok (.goto (-116), 3) := by decide +kernel
theorem d_Rf_total_164 : decode prog_13_method_46_code 164 = .ok (.lload 6, 2) := by decide +kernel
theorem d_Rf_total_166 : decode prog_13_method_46_code 166 = .ok (.lreturn, 1) := by decide +kernel
theorem q_Rf_total : (⟨"FlowShelfModel", "total", "(IIJI)J"⟩ : MethodName).cls ≠ "java/lang/invoke/MethodHandle" ∧ (⟨"FlowShelfModel", "total", "(IIJI)J"⟩ : MethodName).cls ≠ "java/lang/invoke/VarHandle" ∧ (parseMethodDescriptor (⟨"FlowShelfModel", "total", "(IIJI)J"⟩ : MethodName).desc).map (fun d => d.parameters.length) = some 4 := by decide +kernel
set_option maxHeartbeats 4000000 in
set_option maxRecDepth 100000 in
theorem m_Rf_total (X : fs_X) (l : Launch) (a0 : Nat) (x1 : Int32) (x2 : Int32) (x3 : Int64) (x4 : Int32) {r : Int64} {σ σF : fs_S} (h : (f_Rf_total a0 x1 x2 x3 x4).1 σ = some (r, σF)) : fs_Met X l ⟨"FlowShelfModel", "total", "(IIJI)J"⟩ (Cond.code ⟨"FlowShelfModel", "total", "(IIJI)J"⟩ prog_13_method_46_code 10 (some FieldType.long)) 1 21 [.ref a0, .int x1, .int x2, .long x3, .int x4] σ (fs_eJ r) σF := by
  refine fs_ofW (by decide) ?_
  intro p e s m args below meth c s₁ B hml hT hv
  obtain ⟨rfl, hw0, hG⟩ := hv
  have hx := B.exec
  have hb := B.bytes
  have hr := B.returns
  have hk := B.notSynchronized
  have S : CallFix p m c prog_13_method_46_code 10 s _ fs_ws "FlowShelfModel" := ⟨B.exec, B.bytes, hml, findClass_of_methodNamed B.named, fun w hw => atoms_spec (ws := _ :: fs_ws) B.pre w (List.mem_cons_of_mem _ hw)⟩
  have hR := fs_hR (fr := 1) (lo := 21) ((f_Rf_total a0 x1 x2 x3 x4).2 _ _ _ h)
  have hl := lv_entry ([.ref a0, .int x1, .int x2, .long x3, .int x4]) (n := 10) (Nat.le_of_ble_eq_true rfl)
  rw [lg_entry_eq]
  generalize (lg_sl ([.ref a0, .int x1, .int x2, .long x3, .int x4]) ++ List.replicate (10 - (lg_sl ([.ref a0, .int x1, .int x2, .long x3, .int x4])).length) Slot.unset).toArray = ls at hl ⊢
  have hl : lv_has ls 10 [(0, .ref a0), (1, .int x1), (2, .int x2), (3, .long x3), (5, .int x4)] := hl
  refine (?_ : fs_J X p l e (fs_rm 1 21 σ σF) s m _ below meth c (fs_Q X below _ s (fs_eJ r) σ σF) r σ σF (f_Rf_total a0 x1 x2 x3 x4) (F0 m 0 ls [])) σ s.heap [] 0 0 h hw0 va_S.rf rfl rfl
  clear h hw0
  unfold f_Rf_total
  refine fs_lift (fun _ _ _ _ => lv_aload_n hx hb d_Rf_total_0 rfl (lv_at hl 0 rfl)) ?_
  refine fs_lift (fun _ _ _ _ => lv_aload_n hx hb d_Rf_total_1 rfl (lv_at hl 0 rfl)) ?_
  refine fs_lift (fun _ _ _ _ => lv_iload_n hx hb d_Rf_total_2 rfl (lv_at hl 1 rfl)) ?_
  refine fs_JV S hG hR rfl [.int x1] (enc := fun r => some (.int r)) (fun zr zs zt zh => m_Rf_noExporter X l a0 x1 zh) tw_6_111 tw_6_113 tp_1_13 tw_6_114 tw_1_11 q_Rf_noExporter ⟨(Nat.le_of_ble_eq_true rfl), (Nat.le_of_ble_eq_true rfl)⟩ hl.1 rfl (Nat.le_of_ble_eq_true rfl) d_Rf_total_3 (fun v1 => ?_)
  refine fs_Jeq (g2 := F0 m 6 ls [.int v1, .ref a0]) rfl ?_
  refine fs_Jlet1 (nL := 10) (pj := 36) (I := fun (v2 : Int32) => [(0, .ref a0), (1, .int x1), (2, .int x2), (3, .long x3), (5, .int x4)]) (st := fun (v2 : Int32) => [.int v2, .ref a0]) (fun v2 ls hl => ?_) (fun j36 hj36 => ?_)
  · refine fs_Jput S hG fs_in12 rfl 0 (Nat.le_of_ble_eq_true rfl) tw_5_192 (fun _ h9 => h9) fs_Y12 fs_ty12 fs_nm12 (Or.inl rfl) rfl rfl d_Rf_total_36 ?_
    refine fs_lift (fun _ _ _ _ => lv_lconst (v := 0) hx hb d_Rf_total_39 (by decide)) ?_
    refine fs_liftL (fun _ _ _ _ => lv_lstore (lv' := [(6, .long 0), (0, .ref a0), (1, .int x1), (2, .int x2), (3, .long x3), (5, .int x4)]) hx hb d_Rf_total_40 hl (Nat.le_of_ble_eq_true rfl) rfl) (fun ls hl => ?_)
    refine fs_lift (fun _ _ _ _ => lv_iconst (v := 0) hx hb d_Rf_total_42 (by decide)) ?_
    refine fs_liftL (fun _ _ _ _ => lv_istore (lv' := [(8, .int 0), (6, .long 0), (0, .ref a0), (1, .int x1), (2, .int x2), (3, .long x3), (5, .int x4)]) hx hb d_Rf_total_43 hl (Nat.le_of_ble_eq_true rfl) rfl) (fun ls hl => ?_)
    refine fs_Jlp2 (nL := 10) (pc := 45) (rest := []) (I := fun (v3 : Int64) (v4 : Int32) => [(0, .ref a0), (1, .int x1), (2, .int x2), (3, .long x3), (5, .int x4), (6, .long v3), (8, .int v4)]) (fun k45 hk45 v3 v4 ls hl => ?_) _ _ _ _ (lv_sub hl [2, 3, 4, 5, 6, 1, 0] rfl)
    refine fs_lift (fun _ _ _ _ => lv_iload hx hb d_Rf_total_45 (lv_at hl 6 rfl)) ?_
    refine fs_lift (fun _ _ _ _ => lv_aload_n hx hb d_Rf_total_47 rfl (lv_at hl 0 rfl)) ?_
    refine fs_Jgi S hG fs_in12 rfl 37 (Nat.le_of_ble_eq_true rfl) tw_5_229 (fun _ h9 => h9) d_Rf_total_48 (fun v5 => ?_)
    refine fs_Jlet1 (nL := 10) (pj := 164) (I := fun (_ : Unit) => [(6, .long v3)]) (st := fun (_ : Unit) => []) (fun _ ls hl => ?_) (fun j164 hj164 => ?_)
    · refine fs_lift (fun _ _ _ _ => lv_lload hx hb d_Rf_total_164 (lv_at hl 0 rfl)) ?_
      exact fs_Jlret S hr hk rfl d_Rf_total_166
    · refine fs_if (fun _ _ _ _ => lv_icmp_ge hx hb d_Rf_total_51 rfl) ?_ ?_
      · exact hj164 () ls (lv_sub hl [5] rfl)
      · refine fs_lift (fun _ _ _ _ => lv_aload_n hx hb d_Rf_total_54 rfl (lv_at hl 0 rfl)) ?_
        refine fs_Jgi S hG fs_in12 rfl 0 (Nat.le_of_ble_eq_true rfl) tw_5_192 (fun _ h9 => h9) d_Rf_total_55 (fun v6 => ?_)
        refine fs_ifn (fun _ _ _ _ => lv_if_ne hx hb d_Rf_total_58 rfl) ?_ ?_
        · refine fs_lift (fun _ _ _ _ => lv_aload_n hx hb d_Rf_total_61 rfl (lv_at hl 0 rfl)) ?_
          refine fs_Jgr S hG fs_in12 rfl 38 (Nat.le_of_ble_eq_true rfl) tw_5_230 (fun _ h9 => h9) d_Rf_total_62 (fun r7 => ?_)
          refine fs_lift (fun _ _ _ _ => lv_iload hx hb d_Rf_total_65 (lv_at hl 6 rfl)) ?_
          refine fs_Jai S hG d_Rf_total_67 (fun v8 => ?_)
          refine fs_lift (fun _ _ _ _ => lv_iload_n hx hb d_Rf_total_68 rfl (lv_at hl 1 rfl)) ?_
          refine fs_Jlet1 (nL := 10) (pj := 129) (I := fun (v15 : Int32) => [(0, .ref a0), (1, .int x1), (2, .int x2), (3, .long x3), (5, .int x4), (6, .long v3), (8, .int v4)]) (st := fun (v15 : Int32) => [.int v15]) (fun v15 ls hl => ?_) (fun j129 hj129 => ?_)
          · refine fs_liftL (fun _ _ _ _ => lv_istore (lv' := [(9, .int v15), (0, .ref a0), (1, .int x1), (2, .int x2), (3, .long x3), (5, .int x4), (6, .long v3), (8, .int v4)]) hx hb d_Rf_total_129 hl (Nat.le_of_ble_eq_true rfl) rfl) (fun ls hl => ?_)
            refine fs_lift (fun _ _ _ _ => lv_lload hx hb d_Rf_total_131 (lv_at hl 6 rfl)) ?_
            refine fs_lift (fun _ _ _ _ => lv_iload hx hb d_Rf_total_133 (lv_at hl 0 rfl)) ?_
            refine fs_Jlet1 (nL := 10) (pj := 155) (I := fun (v18 : Int64) => [(0, .ref a0), (1, .int x1), (2, .int x2), (3, .long x3), (5, .int x4), (8, .int v4)]) (st := fun (v18 : Int64) => [.long v18, .long v3]) (fun v18 ls hl => ?_) (fun j155 hj155 => ?_)
            · refine fs_lift (fun _ _ _ _ => lv_ladd hx hb d_Rf_total_155) ?_
              refine fs_Jnj (fun v19 => ?_)
              refine fs_liftL (fun _ _ _ _ => lv_lstore (lv' := [(6, .long v19), (0, .ref a0), (1, .int x1), (2, .int x2), (3, .long x3), (5, .int x4), (8, .int v4)]) hx hb d_Rf_total_156 hl (Nat.le_of_ble_eq_true rfl) rfl) (fun ls hl => ?_)
              refine fs_Jnm (fun v20 hv9 => ?_)
              refine fs_liftL (fun _ _ _ _ => lv_iinc (k := 6) (v := v20) (lv' := [(8, .int v20), (6, .long v19), (0, .ref a0), (1, .int x1), (2, .int x2), (3, .long x3), (5, .int x4)]) hx hb d_Rf_total_158 hl rfl (by rw [hv9]; rfl) (Nat.le_of_ble_eq_true rfl) rfl) (fun ls hl => ?_)
              refine fs_lift (fun _ _ _ _ => lv_goto hx hb d_Rf_total_161 rfl) ?_
              exact hk45 v19 v20 ls (lv_sub hl [2, 3, 4, 5, 6, 1, 0] rfl)
            · refine fs_if (fun _ _ _ _ => lv_if_eq hx hb d_Rf_total_135 rfl) ?_ ?_
              · refine fs_lift (fun _ _ _ _ => lv_lconst (v := 0) hx hb d_Rf_total_154 (by decide)) ?_
                exact hj155 0 ls (lv_sub hl [1, 2, 3, 4, 5, 7] rfl)
              · refine fs_lift (fun _ _ _ _ => lv_aload_n hx hb d_Rf_total_138 rfl (lv_at hl 1 rfl)) ?_
                refine fs_Jgr S hG fs_in12 rfl 39 (Nat.le_of_ble_eq_true rfl) tw_5_231 (fun _ h9 => h9) d_Rf_total_139 (fun r16 => ?_)
                refine fs_lift (fun _ _ _ _ => lv_bipush (v := 8) hx hb d_Rf_total_142 (by decide)) ?_
                refine fs_lift (fun _ _ _ _ => lv_iload hx hb d_Rf_total_144 (lv_at hl 7 rfl)) ?_
                refine fs_lift (fun _ _ _ _ => lv_imul hx hb d_Rf_total_146) ?_
                refine fs_lift (fun _ _ _ _ => lv_iload hx hb d_Rf_total_147 (lv_at hl 5 rfl)) ?_
                refine fs_lift (fun _ _ _ _ => lv_iadd hx hb d_Rf_total_149) ?_
                refine fs_Jaj S hG d_Rf_total_150 (fun v17 => ?_)
                refine fs_lift (fun _ _ _ _ => lv_goto hx hb d_Rf_total_151 rfl) ?_
                exact hj155 v17 ls (lv_sub hl [1, 2, 3, 4, 5, 7] rfl)
          · refine fs_Jlet1 (nL := 10) (pj := 128) (I := fun (_ : Unit) => [(0, .ref a0), (1, .int x1), (2, .int x2), (3, .long x3), (5, .int x4), (6, .long v3), (8, .int v4)]) (st := fun (_ : Unit) => []) (fun _ ls hl => ?_) (fun j128 hj128 => ?_)
            · refine fs_lift (fun _ _ _ _ => lv_iconst (v := 0) hx hb d_Rf_total_128 (by decide)) ?_
              exact hj129 0 ls (lv_sub hl [0, 1, 2, 3, 4, 5, 6] rfl)
            · refine fs_ifn (fun _ _ _ _ => lv_icmp_ne hx hb d_Rf_total_69 rfl) ?_ ?_
              · refine fs_lift (fun _ _ _ _ => lv_aload_n hx hb d_Rf_total_72 rfl (lv_at hl 0 rfl)) ?_
                refine fs_Jgr S hG fs_in12 rfl 39 (Nat.le_of_ble_eq_true rfl) tw_5_231 (fun _ h9 => h9) d_Rf_total_73 (fun r9 => ?_)
                refine fs_lift (fun _ _ _ _ => lv_bipush (v := 8) hx hb d_Rf_total_76 (by decide)) ?_
                refine fs_lift (fun _ _ _ _ => lv_iload hx hb d_Rf_total_78 (lv_at hl 6 rfl)) ?_
                refine fs_lift (fun _ _ _ _ => lv_imul hx hb d_Rf_total_80) ?_
                refine fs_lift (fun _ _ _ _ => lv_iload_n hx hb d_Rf_total_81 rfl (lv_at hl 2 rfl)) ?_
                refine fs_lift (fun _ _ _ _ => lv_iadd hx hb d_Rf_total_82) ?_
                refine fs_Jaj S hG d_Rf_total_83 (fun v10 => ?_)
                refine fs_lift (fun _ _ _ _ => lv_lconst (v := 0) hx hb d_Rf_total_84 (by decide)) ?_
                refine fs_lift (fun _ _ _ _ => W.lcmp hx hb d_Rf_total_85) ?_
                refine fs_if (fun _ _ _ _ => lv_if_lt hx hb d_Rf_total_86 rfl) ?_ ?_
                · exact hj128 () ls (lv_sub hl [0, 1, 2, 3, 4, 5, 6] rfl)
                · refine fs_lift (fun _ _ _ _ => lv_aload_n hx hb d_Rf_total_89 rfl (lv_at hl 0 rfl)) ?_
                  refine fs_Jgr S hG fs_in12 rfl 39 (Nat.le_of_ble_eq_true rfl) tw_5_231 (fun _ h9 => h9) d_Rf_total_90 (fun r11 => ?_)
                  refine fs_lift (fun _ _ _ _ => lv_bipush (v := 8) hx hb d_Rf_total_93 (by decide)) ?_
                  refine fs_lift (fun _ _ _ _ => lv_iload hx hb d_Rf_total_95 (lv_at hl 6 rfl)) ?_
                  refine fs_lift (fun _ _ _ _ => lv_imul hx hb d_Rf_total_97) ?_
                  refine fs_lift (fun _ _ _ _ => lv_iload_n hx hb d_Rf_total_98 rfl (lv_at hl 2 rfl)) ?_
                  refine fs_lift (fun _ _ _ _ => lv_iadd hx hb d_Rf_total_99) ?_
                  refine fs_Jaj S hG d_Rf_total_100 (fun v12 => ?_)
                  refine fs_lift (fun _ _ _ _ => lv_lload_n hx hb d_Rf_total_101 rfl (lv_at hl 3 rfl)) ?_
                  refine fs_lift (fun _ _ _ _ => W.lcmp hx hb d_Rf_total_102) ?_
                  refine fs_ifn (fun _ _ _ _ => lv_if_ne hx hb d_Rf_total_103 rfl) ?_ ?_
                  · refine fs_lift (fun _ _ _ _ => lv_aload_n hx hb d_Rf_total_106 rfl (lv_at hl 0 rfl)) ?_
                    refine fs_Jgr S hG fs_in12 rfl 39 (Nat.le_of_ble_eq_true rfl) tw_5_231 (fun _ h9 => h9) d_Rf_total_107 (fun r13 => ?_)
                    refine fs_lift (fun _ _ _ _ => lv_bipush (v := 8) hx hb d_Rf_total_110 (by decide)) ?_
                    refine fs_lift (fun _ _ _ _ => lv_iload hx hb d_Rf_total_112 (lv_at hl 6 rfl)) ?_
                    refine fs_lift (fun _ _ _ _ => lv_imul hx hb d_Rf_total_114) ?_
                    refine fs_lift (fun _ _ _ _ => lv_iload hx hb d_Rf_total_115 (lv_at hl 4 rfl)) ?_
                    refine fs_lift (fun _ _ _ _ => lv_iadd hx hb d_Rf_total_117) ?_
                    refine fs_Jaj S hG d_Rf_total_118 (fun v14 => ?_)
                    refine fs_lift (fun _ _ _ _ => lv_lconst (v := 0) hx hb d_Rf_total_119 (by decide)) ?_
                    refine fs_lift (fun _ _ _ _ => W.lcmp hx hb d_Rf_total_120) ?_
                    refine fs_if (fun _ _ _ _ => lv_if_lt hx hb d_Rf_total_121 rfl) ?_ ?_
                    · exact hj128 () ls (lv_sub hl [0, 1, 2, 3, 4, 5, 6] rfl)
                    · refine fs_lift (fun _ _ _ _ => lv_iconst (v := 1) hx hb d_Rf_total_124 (by decide)) ?_
                      refine fs_lift (fun _ _ _ _ => lv_goto hx hb d_Rf_total_125 rfl) ?_
                      exact hj129 1 ls (lv_sub hl [0, 1, 2, 3, 4, 5, 6] rfl)
                  · exact hj128 () ls (lv_sub hl [0, 1, 2, 3, 4, 5, 6] rfl)
              · exact hj128 () ls (lv_sub hl [0, 1, 2, 3, 4, 5, 6] rfl)
        · exact hj164 () ls (lv_sub hl [5] rfl)
  · refine fs_Jlet1 (nL := 10) (pj := 31) (I := fun (_ : Unit) => [(0, .ref a0), (1, .int x1), (2, .int x2), (3, .long x3), (5, .int x4)]) (st := fun (_ : Unit) => [.ref a0]) (fun _ ls hl => ?_) (fun j31 hj31 => ?_)
    · refine fs_lift (fun _ _ _ _ => lv_iconst (v := 1) hx hb d_Rf_total_31 (by decide)) ?_
      refine fs_lift (fun _ _ _ _ => lv_goto hx hb d_Rf_total_32 rfl) ?_
      exact hj36 1 ls (lv_sub hl [0, 1, 2, 3, 4] rfl)
    · refine fs_ifn (fun _ _ _ _ => lv_if_ne hx hb d_Rf_total_6 rfl) ?_ ?_
      · refine fs_lift (fun _ _ _ _ => lv_iload_n hx hb d_Rf_total_9 rfl (lv_at hl 2 rfl)) ?_
        refine fs_if (fun _ _ _ _ => lv_if_lt hx hb d_Rf_total_10 rfl) ?_ ?_
        · exact hj31 () ls (lv_sub hl [0, 1, 2, 3, 4] rfl)
        · refine fs_lift (fun _ _ _ _ => lv_iload_n hx hb d_Rf_total_13 rfl (lv_at hl 2 rfl)) ?_
          refine fs_lift (fun _ _ _ _ => lv_bipush (v := 7) hx hb d_Rf_total_14 (by decide)) ?_
          refine fs_if (fun _ _ _ _ => lv_icmp_gt hx hb d_Rf_total_16 rfl) ?_ ?_
          · exact hj31 () ls (lv_sub hl [0, 1, 2, 3, 4] rfl)
          · refine fs_lift (fun _ _ _ _ => lv_iload hx hb d_Rf_total_19 (lv_at hl 4 rfl)) ?_
            refine fs_if (fun _ _ _ _ => lv_if_lt hx hb d_Rf_total_21 rfl) ?_ ?_
            · exact hj31 () ls (lv_sub hl [0, 1, 2, 3, 4] rfl)
            · refine fs_lift (fun _ _ _ _ => lv_iload hx hb d_Rf_total_24 (lv_at hl 4 rfl)) ?_
              refine fs_lift (fun _ _ _ _ => lv_bipush (v := 7) hx hb d_Rf_total_26 (by decide)) ?_
              refine fs_if (fun _ _ _ _ => lv_icmp_le hx hb d_Rf_total_28 rfl) ?_ ?_
              · refine fs_lift (fun _ _ _ _ => lv_iconst (v := 0) hx hb d_Rf_total_35 (by decide)) ?_
                exact hj36 0 ls (lv_sub hl [0, 1, 2, 3, 4] rfl)
              · exact hj31 () ls (lv_sub hl [0, 1, 2, 3, 4] rfl)
      · exact hj31 () ls (lv_sub hl [0, 1, 2, 3, 4] rfl)

theorem d_Rf_isWhole_0 : decode prog_13_method_47_code 0 = .ok (.aload_n 0, 1) := by decide +kernel
theorem d_Rf_isWhole_1 : decode prog_13_method_47_code 1 = .ok (.getfield 110, 3) := by decide +kernel
theorem d_Rf_isWhole_4 : decode prog_13_method_47_code 4 = .ok (.bipush 8, 2) := by decide +kernel
theorem d_Rf_isWhole_6 : decode prog_13_method_47_code 6 = .ok (.iload_n 1, 1) := by decide +kernel
theorem d_Rf_isWhole_7 : decode prog_13_method_47_code 7 = .ok (.imul, 1) := by decide +kernel
theorem d_Rf_isWhole_8 : decode prog_13_method_47_code 8 = .ok (.laload, 1) := by decide +kernel
theorem d_Rf_isWhole_9 : decode prog_13_method_47_code 9 = .ok (.lconst 0, 1) := by decide +kernel
theorem d_Rf_isWhole_10 : decode prog_13_method_47_code 10 = .ok (.lcmp, 1) := by decide +kernel
theorem d_Rf_isWhole_11 : decode prog_13_method_47_code 11 = .ok (.ifCond .lt 55, 3) := by decide +kernel
theorem d_Rf_isWhole_14 : decode prog_13_method_47_code 14 = .ok (.aload_n 0, 1) := by decide +kernel
theorem d_Rf_isWhole_15 : decode prog_13_method_47_code 15 = .ok (.getfield 110, 3) := by decide +kernel
theorem d_Rf_isWhole_18 : decode prog_13_method_47_code 18 = .ok (.bipush 8, 2) := by decide +kernel
theorem d_Rf_isWhole_20 : decode prog_13_method_47_code 20 = .ok (.iload_n 1, 1) := by decide +kernel
theorem d_Rf_isWhole_21 : decode prog_13_method_47_code 21 = .ok (.imul, 1) := by decide +kernel
theorem d_Rf_isWhole_22 : decode prog_13_method_47_code 22 = .ok (.iconst 1, 1) := by decide +kernel
theorem d_Rf_isWhole_23 : decode prog_13_method_47_code 23 = .ok (.iadd, 1) := by decide +kernel
theorem d_Rf_isWhole_24 : decode prog_13_method_47_code 24 = .ok (.laload, 1) := by decide +kernel
theorem d_Rf_isWhole_25 : decode prog_13_method_47_code 25 = .ok (.lconst 0, 1) := by decide +kernel
theorem d_Rf_isWhole_26 : decode prog_13_method_47_code 26 = .ok (.lcmp, 1) := by decide +kernel
theorem d_Rf_isWhole_27 : decode prog_13_method_47_code 27 = .ok (.ifCond .lt 39, 3) := by decide +kernel
theorem d_Rf_isWhole_30 : decode prog_13_method_47_code 30 = .ok (.aload_n 0, 1) := by decide +kernel
theorem d_Rf_isWhole_31 : decode prog_13_method_47_code 31 = .ok (.getfield 110, 3) := by decide +kernel
theorem d_Rf_isWhole_34 : decode prog_13_method_47_code 34 = .ok (.bipush 8, 2) := by decide +kernel
theorem d_Rf_isWhole_36 : decode prog_13_method_47_code 36 = .ok (.iload_n 1, 1) := by decide +kernel
theorem d_Rf_isWhole_37 : decode prog_13_method_47_code 37 = .ok (.imul, 1) := by decide +kernel
theorem d_Rf_isWhole_38 : decode prog_13_method_47_code 38 = .ok (.iconst 2, 1) := by decide +kernel
theorem d_Rf_isWhole_39 : decode prog_13_method_47_code 39 = .ok (.iadd, 1) := by decide +kernel
theorem d_Rf_isWhole_40 : decode prog_13_method_47_code 40 = .ok (.laload, 1) := by decide +kernel
theorem d_Rf_isWhole_41 : decode prog_13_method_47_code 41 = .ok (.lconst 0, 1) := by decide +kernel
theorem d_Rf_isWhole_42 : decode prog_13_method_47_code 42 = .ok (.lcmp, 1) := by decide +kernel
theorem d_Rf_isWhole_43 : decode prog_13_method_47_code 43 = .ok (.ifCond .lt 23, 3) := by decide +kernel
theorem d_Rf_isWhole_46 : decode prog_13_method_47_code 46 = .ok (.aload_n 0, 1) := by decide +kernel
theorem d_Rf_isWhole_47 : decode prog_13_method_47_code 47 = .ok (.getfield 110, 3) := by decide +kernel
theorem d_Rf_isWhole_50 : decode prog_13_method_47_code 50 = .ok (.bipush 8, 2) := by decide +kernel
theorem d_Rf_isWhole_52 : decode prog_13_method_47_code 52 = .ok (.iload_n 1, 1) := by decide +kernel
theorem d_Rf_isWhole_53 : decode prog_13_method_47_code 53 = .ok (.imul, 1) := by decide +kernel
theorem d_Rf_isWhole_54 : decode prog_13_method_47_code 54 = .ok (.iconst 5, 1) := by decide +kernel
theorem d_Rf_isWhole_55 : decode prog_13_method_47_code 55 = .ok (.iadd, 1) := by decide +kernel
theorem d_Rf_isWhole_56 : decode prog_13_method_47_code 56 = .ok (.laload, 1) := by decide +kernel
theorem d_Rf_isWhole_57 : decode prog_13_method_47_code 57 = .ok (.lconst 0, 1) := by decide +kernel
theorem d_Rf_isWhole_58 : decode prog_13_method_47_code 58 = .ok (.lcmp, 1) := by decide +kernel
theorem d_Rf_isWhole_59 : decode prog_13_method_47_code 59 = .ok (.ifCond .lt 7, 3) := by decide +kernel
theorem d_Rf_isWhole_62 : decode prog_13_method_47_code 62 = .ok (.iconst 1, 1) := by decide +kernel
theorem d_Rf_isWhole_63 : decode prog_13_method_47_code 63 = .ok (.goto 4, 3) := by decide +kernel
theorem d_Rf_isWhole_66 : decode prog_13_method_47_code 66 = .ok (.iconst 0, 1) := by decide +kernel
theorem d_Rf_isWhole_67 : decode prog_13_method_47_code 67 = .ok (.ireturn, 1) := by decide +kernel
theorem q_Rf_isWhole : (⟨"FlowShelfModel", "isWhole", "(I)Z"⟩ : MethodName).cls ≠ "java/lang/invoke/MethodHandle" ∧ (⟨"FlowShelfModel", "isWhole", "(I)Z"⟩ : MethodName).cls ≠ "java/lang/invoke/VarHandle" ∧ (parseMethodDescriptor (⟨"FlowShelfModel", "isWhole", "(I)Z"⟩ : MethodName).desc).map (fun d => d.parameters.length) = some 1 := by decide +kernel
set_option maxHeartbeats 4000000 in
set_option maxRecDepth 100000 in
theorem m_Rf_isWhole (X : fs_X) (l : Launch) (a0 : Nat) (x1 : Int32) {r : Int32} {σ σF : fs_S} (h : (f_Rf_isWhole a0 x1).1 σ = some (r, σF)) : fs_Met X l ⟨"FlowShelfModel", "isWhole", "(I)Z"⟩ (Cond.code ⟨"FlowShelfModel", "isWhole", "(I)Z"⟩ prog_13_method_47_code 2 (some FieldType.boolean)) 0 0 [.ref a0, .int x1] σ (fs_eI r) σF := by
  refine fs_ofW (by decide) ?_
  intro p e s m args below meth c s₁ B hml hT hv
  obtain ⟨rfl, hw0, hG⟩ := hv
  have hx := B.exec
  have hb := B.bytes
  have hr := B.returns
  have hk := B.notSynchronized
  have S : CallFix p m c prog_13_method_47_code 2 s _ fs_ws "FlowShelfModel" := ⟨B.exec, B.bytes, hml, findClass_of_methodNamed B.named, fun w hw => atoms_spec (ws := _ :: fs_ws) B.pre w (List.mem_cons_of_mem _ hw)⟩
  have hR := fs_hR (fr := 0) (lo := 0) ((f_Rf_isWhole a0 x1).2 _ _ _ h)
  have hl := lv_entry ([.ref a0, .int x1]) (n := 2) (Nat.le_of_ble_eq_true rfl)
  rw [lg_entry_eq]
  generalize (lg_sl ([.ref a0, .int x1]) ++ List.replicate (2 - (lg_sl ([.ref a0, .int x1])).length) Slot.unset).toArray = ls at hl ⊢
  have hl : lv_has ls 2 [(0, .ref a0), (1, .int x1)] := hl
  refine (?_ : fs_J X p l e (fs_rm 0 0 σ σF) s m _ below meth c (fs_Q X below _ s (fs_eI r) σ σF) r σ σF (f_Rf_isWhole a0 x1) (F0 m 0 ls [])) σ s.heap [] 0 0 h hw0 va_S.rf rfl rfl
  clear h hw0
  unfold f_Rf_isWhole
  refine fs_lift (fun _ _ _ _ => lv_aload_n hx hb d_Rf_isWhole_0 rfl (lv_at hl 0 rfl)) ?_
  refine fs_Jgr S hG fs_in12 rfl 39 (Nat.le_of_ble_eq_true rfl) tw_5_231 (fun _ h9 => h9) d_Rf_isWhole_1 (fun r1 => ?_)
  refine fs_lift (fun _ _ _ _ => lv_bipush (v := 8) hx hb d_Rf_isWhole_4 (by decide)) ?_
  refine fs_lift (fun _ _ _ _ => lv_iload_n hx hb d_Rf_isWhole_6 rfl (lv_at hl 1 rfl)) ?_
  refine fs_lift (fun _ _ _ _ => lv_imul hx hb d_Rf_isWhole_7) ?_
  refine fs_Jaj S hG d_Rf_isWhole_8 (fun v2 => ?_)
  refine fs_lift (fun _ _ _ _ => lv_lconst (v := 0) hx hb d_Rf_isWhole_9 (by decide)) ?_
  refine fs_lift (fun _ _ _ _ => W.lcmp hx hb d_Rf_isWhole_10) ?_
  refine fs_if (fun _ _ _ _ => lv_if_lt hx hb d_Rf_isWhole_11 rfl) ?_ ?_
  · refine fs_lift (fun _ _ _ _ => lv_iconst (v := 0) hx hb d_Rf_isWhole_66 (by decide)) ?_
    exact fs_Jzret S hr hk rfl d_Rf_isWhole_67
  · refine fs_lift (fun _ _ _ _ => lv_aload_n hx hb d_Rf_isWhole_14 rfl (lv_at hl 0 rfl)) ?_
    refine fs_Jgr S hG fs_in12 rfl 39 (Nat.le_of_ble_eq_true rfl) tw_5_231 (fun _ h9 => h9) d_Rf_isWhole_15 (fun r3 => ?_)
    refine fs_lift (fun _ _ _ _ => lv_bipush (v := 8) hx hb d_Rf_isWhole_18 (by decide)) ?_
    refine fs_lift (fun _ _ _ _ => lv_iload_n hx hb d_Rf_isWhole_20 rfl (lv_at hl 1 rfl)) ?_
    refine fs_lift (fun _ _ _ _ => lv_imul hx hb d_Rf_isWhole_21) ?_
    refine fs_lift (fun _ _ _ _ => lv_iconst (v := 1) hx hb d_Rf_isWhole_22 (by decide)) ?_
    refine fs_lift (fun _ _ _ _ => lv_iadd hx hb d_Rf_isWhole_23) ?_
    refine fs_Jaj S hG d_Rf_isWhole_24 (fun v4 => ?_)
    refine fs_lift (fun _ _ _ _ => lv_lconst (v := 0) hx hb d_Rf_isWhole_25 (by decide)) ?_
    refine fs_lift (fun _ _ _ _ => W.lcmp hx hb d_Rf_isWhole_26) ?_
    refine fs_if (fun _ _ _ _ => lv_if_lt hx hb d_Rf_isWhole_27 rfl) ?_ ?_
    · refine fs_lift (fun _ _ _ _ => lv_iconst (v := 0) hx hb d_Rf_isWhole_66 (by decide)) ?_
      exact fs_Jzret S hr hk rfl d_Rf_isWhole_67
    · refine fs_lift (fun _ _ _ _ => lv_aload_n hx hb d_Rf_isWhole_30 rfl (lv_at hl 0 rfl)) ?_
      refine fs_Jgr S hG fs_in12 rfl 39 (Nat.le_of_ble_eq_true rfl) tw_5_231 (fun _ h9 => h9) d_Rf_isWhole_31 (fun r5 => ?_)
      refine fs_lift (fun _ _ _ _ => lv_bipush (v := 8) hx hb d_Rf_isWhole_34 (by decide)) ?_
      refine fs_lift (fun _ _ _ _ => lv_iload_n hx hb d_Rf_isWhole_36 rfl (lv_at hl 1 rfl)) ?_
      refine fs_lift (fun _ _ _ _ => lv_imul hx hb d_Rf_isWhole_37) ?_
      refine fs_lift (fun _ _ _ _ => lv_iconst (v := 2) hx hb d_Rf_isWhole_38 (by decide)) ?_
      refine fs_lift (fun _ _ _ _ => lv_iadd hx hb d_Rf_isWhole_39) ?_
      refine fs_Jaj S hG d_Rf_isWhole_40 (fun v6 => ?_)
      refine fs_lift (fun _ _ _ _ => lv_lconst (v := 0) hx hb d_Rf_isWhole_41 (by decide)) ?_
      refine fs_lift (fun _ _ _ _ => W.lcmp hx hb d_Rf_isWhole_42) ?_
      refine fs_if (fun _ _ _ _ => lv_if_lt hx hb d_Rf_isWhole_43 rfl) ?_ ?_
      · refine fs_lift (fun _ _ _ _ => lv_iconst (v := 0) hx hb d_Rf_isWhole_66 (by decide)) ?_
        exact fs_Jzret S hr hk rfl d_Rf_isWhole_67
      · refine fs_lift (fun _ _ _ _ => lv_aload_n hx hb d_Rf_isWhole_46 rfl (lv_at hl 0 rfl)) ?_
        refine fs_Jgr S hG fs_in12 rfl 39 (Nat.le_of_ble_eq_true rfl) tw_5_231 (fun _ h9 => h9) d_Rf_isWhole_47 (fun r7 => ?_)
        refine fs_lift (fun _ _ _ _ => lv_bipush (v := 8) hx hb d_Rf_isWhole_50 (by decide)) ?_
        refine fs_lift (fun _ _ _ _ => lv_iload_n hx hb d_Rf_isWhole_52 rfl (lv_at hl 1 rfl)) ?_
        refine fs_lift (fun _ _ _ _ => lv_imul hx hb d_Rf_isWhole_53) ?_
        refine fs_lift (fun _ _ _ _ => lv_iconst (v := 5) hx hb d_Rf_isWhole_54 (by decide)) ?_
        refine fs_lift (fun _ _ _ _ => lv_iadd hx hb d_Rf_isWhole_55) ?_
        refine fs_Jaj S hG d_Rf_isWhole_56 (fun v8 => ?_)
        refine fs_lift (fun _ _ _ _ => lv_lconst (v := 0) hx hb d_Rf_isWhole_57 (by decide)) ?_
        refine fs_lift (fun _ _ _ _ => W.lcmp hx hb d_Rf_isWhole_58) ?_
        refine fs_if (fun _ _ _ _ => lv_if_lt hx hb d_Rf_isWhole_59 rfl) ?_ ?_
        · refine fs_lift (fun _ _ _ _ => lv_iconst (v := 0) hx hb d_Rf_isWhole_66 (by decide)) ?_
          exact fs_Jzret S hr hk rfl d_Rf_isWhole_67
        · refine fs_lift (fun _ _ _ _ => lv_iconst (v := 1) hx hb d_Rf_isWhole_62 (by decide)) ?_
          refine fs_lift (fun _ _ _ _ => lv_goto hx hb d_Rf_isWhole_63 rfl) ?_
          exact fs_Jzret S hr hk rfl d_Rf_isWhole_67

theorem d_Rf_firstLeft_0 : decode prog_13_method_50_code 0 = .ok (.iconst (-1), 1) := by decide +kernel
theorem d_Rf_firstLeft_1 : decode prog_13_method_50_code 1 = .ok (.istore_n 1, 1) := by decide +kernel
theorem d_Rf_firstLeft_2 : decode prog_13_method_50_code 2 = .ok (.iconst 0, 1) := by decide +kernel
theorem d_Rf_firstLeft_3 : decode prog_13_method_50_code 3 = .ok (.istore_n 2, 1) := by decide +kernel
theorem d_Rf_firstLeft_4 : decode prog_13_method_50_code 4 = .ok (.iload_n 2, 1) := by decide +kernel
theorem d_Rf_firstLeft_5 : decode prog_13_method_50_code 5 = .ok (.aload_n 0, 1) := by decide +kernel
theorem d_Rf_firstLeft_6 : decode prog_13_method_50_code 6 = .ok (.getfield 214, 3) := by decide +kernel
theorem d_Rf_firstLeft_9 : decode prog_13_method_50_code 9 = .ok (.if_icmp .ge 72, 3) := by decide +kernel
theorem d_Rf_firstLeft_12 : decode prog_13_method_50_code 12 = .ok (.aload_n 0, 1) := by decide +kernel
theorem d_Rf_firstLeft_13 : decode prog_13_method_50_code 13 = .ok (.getfield 135, 3) := by decide +kernel
theorem d_Rf_firstLeft_16 : decode prog_13_method_50_code 16 = .ok (.iload_n 2, 1) := by decide +kernel
theorem d_Rf_firstLeft_17 : decode prog_13_method_50_code 17 = .ok (.baload, 1) := by decide +kernel
theorem d_Rf_firstLeft_18 : decode prog_13_method_50_code 18 = .ok (.ifCond .ne 45, 3) := by decide +kernel
theorem d_Rf_firstLeft_21 : decode prog_13_method_50_code 21 = .ok (.aload_n 0, 1) := by decide +kernel
theorem d_Rf_firstLeft_22 : decode prog_13_method_50_code 22 = .ok (.iload_n 2, 1) := by decide +kernel
theorem d_Rf_firstLeft_23 : decode prog_13_method_50_code 23 = .ok (.invokevirtual 256, 3) := by decide +kernel
theorem d_Rf_firstLeft_26 : decode prog_13_method_50_code 26 = .ok (.ifCond .eq 37, 3) := by decide +kernel
theorem d_Rf_firstLeft_29 : decode prog_13_method_50_code 29 = .ok (.iload_n 1, 1) := by decide +kernel
theorem d_Rf_firstLeft_30 : decode prog_13_method_50_code 30 = .ok (.ifCond .lt 29, 3) := by decide +kernel
theorem d_Rf_firstLeft_33 : decode prog_13_method_50_code 33 = .ok (.aload_n 0, 1) := by decide +kernel
theorem d_Rf_firstLeft_34 : decode prog_13_method_50_code 34 = .ok (.getfield 110, 3) := by decide +kernel
theorem d_Rf_firstLeft_37 : decode prog_13_method_50_code 37 = .ok (.bipush 8, 2) := by decide +kernel
theorem d_Rf_firstLeft_39 : decode prog_13_method_50_code 39 = .ok (.iload_n 2, 1) := by decide +kernel
theorem d_Rf_firstLeft_40 : decode prog_13_method_50_code 40 = .ok (.imul, 1) := by decide +kernel
theorem d_Rf_firstLeft_41 : decode prog_13_method_50_code 41 = .ok (.iconst 5, 1) := by decide +kernel
theorem d_Rf_firstLeft_42 : decode prog_13_method_50_code 42 = .ok (.iadd, 1) := by decide +kernel
theorem d_Rf_firstLeft_43 : decode prog_13_method_50_code 43 = .ok (.laload, 1) := by decide +kernel
theorem d_Rf_firstLeft_44 : decode prog_13_method_50_code 44 = .ok (.aload_n 0, 1) := by decide +kernel
theorem d_Rf_firstLeft_45 : decode prog_13_method_50_code 45 = .ok (.getfield 110, 3) := by decide +kernel
theorem d_Rf_firstLeft_48 : decode prog_13_method_50_code 48 = .ok (.bipush 8, 2) := by decide +kernel
theorem d_Rf_firstLeft_50 : decode prog_13_method_50_code 50 = .ok (.iload_n 1, 1) := by decide +kernel
theorem d_Rf_firstLeft_51 : decode prog_13_method_50_code 51 = .ok (.imul, 1) := by decide +kernel
theorem d_Rf_firstLeft_52 : decode prog_13_method_50_code 52 = .ok (.iconst 5, 1) := by decide +kernel
theorem d_Rf_firstLeft_53 : decode prog_13_method_50_code 53 = .ok (.iadd, 1) := by decide +kernel
theorem d_Rf_firstLeft_54 : decode prog_13_method_50_code 54 = .ok (.laload, 1) := by decide +kernel
theorem d_Rf_firstLeft_55 : decode prog_13_method_50_code 55 = .ok (.lcmp, 1) := by decide +kernel
theorem d_Rf_firstLeft_56 : decode prog_13_method_50_code 56 = .ok (.ifCond .ge 7, 3) := by decide +kernel
theorem d_Rf_firstLeft_59 : decode prog_13_method_50_code 59 = .ok (.iconst 1, 1) := by decide +kernel
theorem d_Rf_firstLeft_60 : decode prog_13_method_50_code 60 = .ok (.goto 4, 3) := by decide +kernel
theorem d_Rf_firstLeft_63 : decode prog_13_method_50_code 63 = .ok (.iconst 0, 1) := by decide +kernel
theorem d_Rf_firstLeft_64 : decode prog_13_method_50_code 64 = .ok (.istore_n 3, 1) := by decide +kernel
theorem d_Rf_firstLeft_65 : decode prog_13_method_50_code 65 = .ok (.iload_n 3, 1) := by decide +kernel
theorem d_Rf_firstLeft_66 : decode prog_13_method_50_code 66 = .ok (.ifCond .eq 7, 3) := by decide +kernel
theorem d_Rf_firstLeft_69 : decode prog_13_method_50_code 69 = .ok (.iload_n 2, 1) := by decide +kernel
theorem d_Rf_firstLeft_70 : decode prog_13_method_50_code 70 = .ok (.goto 4, 3) := by decide +kernel
theorem d_Rf_firstLeft_73 : decode prog_13_method_50_code 73 = .ok (.iload_n 1, 1) := by decide +kernel
theorem d_Rf_firstLeft_74 : decode prog_13_method_50_code 74 = .ok (.istore_n 1, 1) := by decide +kernel
theorem d_Rf_firstLeft_75 : decode prog_13_method_50_code 75 = .ok (.iinc 2 1, 3) := by decide +kernel
theorem d_Rf_firstLeft_78 : decode prog_13_method_50_code 78 = .ok (.goto (-74), 3) := by decide +kernel
theorem d_Rf_firstLeft_81 : decode prog_13_method_50_code 81 = .ok (.iload_n 1, 1) := by decide +kernel
theorem d_Rf_firstLeft_82 : decode prog_13_method_50_code 82 = .ok (.ireturn, 1) := by decide +kernel
theorem q_Rf_firstLeft : (⟨"FlowShelfModel", "firstLeft", "()I"⟩ : MethodName).cls ≠ "java/lang/invoke/MethodHandle" ∧ (⟨"FlowShelfModel", "firstLeft", "()I"⟩ : MethodName).cls ≠ "java/lang/invoke/VarHandle" ∧ (parseMethodDescriptor (⟨"FlowShelfModel", "firstLeft", "()I"⟩ : MethodName).desc).map (fun d => d.parameters.length) = some 0 := by decide +kernel
set_option maxHeartbeats 4000000 in
set_option maxRecDepth 100000 in
theorem m_Rf_firstLeft (X : fs_X) (l : Launch) (a0 : Nat) {r : Int32} {σ σF : fs_S} (h : (f_Rf_firstLeft a0).1 σ = some (r, σF)) : fs_Met X l ⟨"FlowShelfModel", "firstLeft", "()I"⟩ (Cond.code ⟨"FlowShelfModel", "firstLeft", "()I"⟩ prog_13_method_50_code 4 (some FieldType.int)) 1 21 [.ref a0] σ (fs_eI r) σF := by
  refine fs_ofW (by decide) ?_
  intro p e s m args below meth c s₁ B hml hT hv
  obtain ⟨rfl, hw0, hG⟩ := hv
  have hx := B.exec
  have hb := B.bytes
  have hr := B.returns
  have hk := B.notSynchronized
  have S : CallFix p m c prog_13_method_50_code 4 s _ fs_ws "FlowShelfModel" := ⟨B.exec, B.bytes, hml, findClass_of_methodNamed B.named, fun w hw => atoms_spec (ws := _ :: fs_ws) B.pre w (List.mem_cons_of_mem _ hw)⟩
  have hR := fs_hR (fr := 1) (lo := 21) ((f_Rf_firstLeft a0).2 _ _ _ h)
  have hl := lv_entry ([.ref a0]) (n := 4) (Nat.le_of_ble_eq_true rfl)
  rw [lg_entry_eq]
  generalize (lg_sl ([.ref a0]) ++ List.replicate (4 - (lg_sl ([.ref a0])).length) Slot.unset).toArray = ls at hl ⊢
  have hl : lv_has ls 4 [(0, .ref a0)] := hl
  refine (?_ : fs_J X p l e (fs_rm 1 21 σ σF) s m _ below meth c (fs_Q X below _ s (fs_eI r) σ σF) r σ σF (f_Rf_firstLeft a0) (F0 m 0 ls [])) σ s.heap [] 0 0 h hw0 va_S.rf rfl rfl
  clear h hw0
  unfold f_Rf_firstLeft
  refine fs_lift (fun _ _ _ _ => lv_iconst (v := (-1)) hx hb d_Rf_firstLeft_0 (by decide)) ?_
  refine fs_liftL (fun _ _ _ _ => lv_istore_n (lv' := [(1, .int (-1)), (0, .ref a0)]) hx hb d_Rf_firstLeft_1 rfl hl (Nat.le_of_ble_eq_true rfl) rfl) (fun ls hl => ?_)
  refine fs_lift (fun _ _ _ _ => lv_iconst (v := 0) hx hb d_Rf_firstLeft_2 (by decide)) ?_
  refine fs_liftL (fun _ _ _ _ => lv_istore_n (lv' := [(2, .int 0), (1, .int (-1)), (0, .ref a0)]) hx hb d_Rf_firstLeft_3 rfl hl (Nat.le_of_ble_eq_true rfl) rfl) (fun ls hl => ?_)
  refine fs_Jlp2 (nL := 4) (pc := 4) (rest := []) (I := fun (v1 : Int32) (v2 : Int32) => [(0, .ref a0), (1, .int v1), (2, .int v2)]) (fun k4 hk4 v1 v2 ls hl => ?_) _ _ _ _ (lv_sub hl [2, 1, 0] rfl)
  refine fs_lift (fun _ _ _ _ => lv_iload_n hx hb d_Rf_firstLeft_4 rfl (lv_at hl 2 rfl)) ?_
  refine fs_lift (fun _ _ _ _ => lv_aload_n hx hb d_Rf_firstLeft_5 rfl (lv_at hl 0 rfl)) ?_
  refine fs_Jgi S hG fs_in12 rfl 37 (Nat.le_of_ble_eq_true rfl) tw_5_229 (fun _ h9 => h9) d_Rf_firstLeft_6 (fun v3 => ?_)
  refine fs_if (fun _ _ _ _ => lv_icmp_ge hx hb d_Rf_firstLeft_9 rfl) ?_ ?_
  · refine fs_lift (fun _ _ _ _ => lv_iload_n hx hb d_Rf_firstLeft_81 rfl (lv_at hl 1 rfl)) ?_
    exact fs_Jiret S hr hk rfl d_Rf_firstLeft_82
  · refine fs_lift (fun _ _ _ _ => lv_aload_n hx hb d_Rf_firstLeft_12 rfl (lv_at hl 0 rfl)) ?_
    refine fs_Jgr S hG fs_in12 rfl 49 (Nat.le_of_ble_eq_true rfl) tw_6_1 (fun _ h9 => h9) d_Rf_firstLeft_13 (fun r4 => ?_)
    refine fs_lift (fun _ _ _ _ => lv_iload_n hx hb d_Rf_firstLeft_16 rfl (lv_at hl 2 rfl)) ?_
    refine fs_Jaz S hG d_Rf_firstLeft_17 (fun v5 => ?_)
    refine fs_Jlet1 (nL := 4) (pj := 64) (I := fun (v11 : Int32) => [(0, .ref a0), (1, .int v1), (2, .int v2)]) (st := fun (v11 : Int32) => [.int v11]) (fun v11 ls hl => ?_) (fun j64 hj64 => ?_)
    · refine fs_liftL (fun _ _ _ _ => lv_istore_n (lv' := [(3, .int v11), (0, .ref a0), (1, .int v1), (2, .int v2)]) hx hb d_Rf_firstLeft_64 rfl hl (Nat.le_of_ble_eq_true rfl) rfl) (fun ls hl => ?_)
      refine fs_lift (fun _ _ _ _ => lv_iload_n hx hb d_Rf_firstLeft_65 rfl (lv_at hl 0 rfl)) ?_
      refine fs_Jlet1 (nL := 4) (pj := 74) (I := fun (v12 : Int32) => [(0, .ref a0), (2, .int v2)]) (st := fun (v12 : Int32) => [.int v12]) (fun v12 ls hl => ?_) (fun j74 hj74 => ?_)
      · refine fs_liftL (fun _ _ _ _ => lv_istore_n (lv' := [(1, .int v12), (0, .ref a0), (2, .int v2)]) hx hb d_Rf_firstLeft_74 rfl hl (Nat.le_of_ble_eq_true rfl) rfl) (fun ls hl => ?_)
        refine fs_Jnm (fun v13 hv9 => ?_)
        refine fs_liftL (fun _ _ _ _ => lv_iinc (k := 2) (v := v13) (lv' := [(2, .int v13), (1, .int v12), (0, .ref a0)]) hx hb d_Rf_firstLeft_75 hl rfl (by rw [hv9]; rfl) (Nat.le_of_ble_eq_true rfl) rfl) (fun ls hl => ?_)
        refine fs_lift (fun _ _ _ _ => lv_goto hx hb d_Rf_firstLeft_78 rfl) ?_
        exact hk4 v12 v13 ls (lv_sub hl [2, 1, 0] rfl)
      · refine fs_if (fun _ _ _ _ => lv_if_eq hx hb d_Rf_firstLeft_66 rfl) ?_ ?_
        · refine fs_lift (fun _ _ _ _ => lv_iload_n hx hb d_Rf_firstLeft_73 rfl (lv_at hl 2 rfl)) ?_
          exact hj74 v1 ls (lv_sub hl [1, 3] rfl)
        · refine fs_lift (fun _ _ _ _ => lv_iload_n hx hb d_Rf_firstLeft_69 rfl (lv_at hl 3 rfl)) ?_
          refine fs_lift (fun _ _ _ _ => lv_goto hx hb d_Rf_firstLeft_70 rfl) ?_
          exact hj74 v2 ls (lv_sub hl [1, 3] rfl)
    · refine fs_Jlet1 (nL := 4) (pj := 63) (I := fun (_ : Unit) => [(0, .ref a0), (1, .int v1), (2, .int v2)]) (st := fun (_ : Unit) => []) (fun _ ls hl => ?_) (fun j63 hj63 => ?_)
      · refine fs_lift (fun _ _ _ _ => lv_iconst (v := 0) hx hb d_Rf_firstLeft_63 (by decide)) ?_
        exact hj64 0 ls (lv_sub hl [0, 1, 2] rfl)
      · refine fs_ifn (fun _ _ _ _ => lv_if_ne hx hb d_Rf_firstLeft_18 rfl) ?_ ?_
        · refine fs_lift (fun _ _ _ _ => lv_aload_n hx hb d_Rf_firstLeft_21 rfl (lv_at hl 0 rfl)) ?_
          refine fs_lift (fun _ _ _ _ => lv_iload_n hx hb d_Rf_firstLeft_22 rfl (lv_at hl 2 rfl)) ?_
          refine fs_JV S hG hR rfl [.int v2] (enc := fun r => some (.int r)) (fun zr zs zt zh => m_Rf_isWhole X l a0 v2 zh) tw_7_55 tw_7_57 tp_3_7 tw_7_58 tw_1_11 q_Rf_isWhole ⟨(Nat.le_of_ble_eq_true rfl), (Nat.le_of_ble_eq_true rfl)⟩ hl.1 rfl (Nat.le_of_ble_eq_true rfl) d_Rf_firstLeft_23 (fun v6 => ?_)
          refine fs_Jeq (g2 := F0 m 26 ls [.int v6]) rfl ?_
          refine fs_if (fun _ _ _ _ => lv_if_eq hx hb d_Rf_firstLeft_26 rfl) ?_ ?_
          · exact hj63 () ls (lv_sub hl [0, 1, 2] rfl)
          · refine fs_lift (fun _ _ _ _ => lv_iload_n hx hb d_Rf_firstLeft_29 rfl (lv_at hl 1 rfl)) ?_
            refine fs_Jlet1 (nL := 4) (pj := 59) (I := fun (_ : Unit) => [(0, .ref a0), (1, .int v1), (2, .int v2)]) (st := fun (_ : Unit) => []) (fun _ ls hl => ?_) (fun j59 hj59 => ?_)
            · refine fs_lift (fun _ _ _ _ => lv_iconst (v := 1) hx hb d_Rf_firstLeft_59 (by decide)) ?_
              refine fs_lift (fun _ _ _ _ => lv_goto hx hb d_Rf_firstLeft_60 rfl) ?_
              exact hj64 1 ls (lv_sub hl [0, 1, 2] rfl)
            · refine fs_if (fun _ _ _ _ => lv_if_lt hx hb d_Rf_firstLeft_30 rfl) ?_ ?_
              · exact hj59 () ls (lv_sub hl [0, 1, 2] rfl)
              · refine fs_lift (fun _ _ _ _ => lv_aload_n hx hb d_Rf_firstLeft_33 rfl (lv_at hl 0 rfl)) ?_
                refine fs_Jgr S hG fs_in12 rfl 39 (Nat.le_of_ble_eq_true rfl) tw_5_231 (fun _ h9 => h9) d_Rf_firstLeft_34 (fun r7 => ?_)
                refine fs_lift (fun _ _ _ _ => lv_bipush (v := 8) hx hb d_Rf_firstLeft_37 (by decide)) ?_
                refine fs_lift (fun _ _ _ _ => lv_iload_n hx hb d_Rf_firstLeft_39 rfl (lv_at hl 2 rfl)) ?_
                refine fs_lift (fun _ _ _ _ => lv_imul hx hb d_Rf_firstLeft_40) ?_
                refine fs_lift (fun _ _ _ _ => lv_iconst (v := 5) hx hb d_Rf_firstLeft_41 (by decide)) ?_
                refine fs_lift (fun _ _ _ _ => lv_iadd hx hb d_Rf_firstLeft_42) ?_
                refine fs_Jaj S hG d_Rf_firstLeft_43 (fun v8 => ?_)
                refine fs_lift (fun _ _ _ _ => lv_aload_n hx hb d_Rf_firstLeft_44 rfl (lv_at hl 0 rfl)) ?_
                refine fs_Jgr S hG fs_in12 rfl 39 (Nat.le_of_ble_eq_true rfl) tw_5_231 (fun _ h9 => h9) d_Rf_firstLeft_45 (fun r9 => ?_)
                refine fs_lift (fun _ _ _ _ => lv_bipush (v := 8) hx hb d_Rf_firstLeft_48 (by decide)) ?_
                refine fs_lift (fun _ _ _ _ => lv_iload_n hx hb d_Rf_firstLeft_50 rfl (lv_at hl 1 rfl)) ?_
                refine fs_lift (fun _ _ _ _ => lv_imul hx hb d_Rf_firstLeft_51) ?_
                refine fs_lift (fun _ _ _ _ => lv_iconst (v := 5) hx hb d_Rf_firstLeft_52 (by decide)) ?_
                refine fs_lift (fun _ _ _ _ => lv_iadd hx hb d_Rf_firstLeft_53) ?_
                refine fs_Jaj S hG d_Rf_firstLeft_54 (fun v10 => ?_)
                refine fs_lift (fun _ _ _ _ => W.lcmp hx hb d_Rf_firstLeft_55) ?_
                refine fs_if (fun _ _ _ _ => lv_if_ge hx hb d_Rf_firstLeft_56 rfl) ?_ ?_
                · exact hj63 () ls (lv_sub hl [0, 1, 2] rfl)
                · exact hj59 () ls (lv_sub hl [0, 1, 2] rfl)
        · exact hj63 () ls (lv_sub hl [0, 1, 2] rfl)

theorem d_Rf_isBack_0 : decode prog_13_method_48_code 0 = .ok (.aload_n 0, 1) := by decide +kernel
theorem d_Rf_isBack_1 : decode prog_13_method_48_code 1 = .ok (.getfield 107, 3) := by decide +kernel
theorem d_Rf_isBack_4 : decode prog_13_method_48_code 4 = .ok (.iload_n 1, 1) := by decide +kernel
theorem d_Rf_isBack_5 : decode prog_13_method_48_code 5 = .ok (.iaload, 1) := by decide +kernel
theorem d_Rf_isBack_6 : decode prog_13_method_48_code 6 = .ok (.aload_n 0, 1) := by decide +kernel
theorem d_Rf_isBack_7 : decode prog_13_method_48_code 7 = .ok (.getfield 107, 3) := by decide +kernel
theorem d_Rf_isBack_10 : decode prog_13_method_48_code 10 = .ok (.iload_n 2, 1) := by decide +kernel
theorem d_Rf_isBack_11 : decode prog_13_method_48_code 11 = .ok (.iaload, 1) := by decide +kernel
theorem d_Rf_isBack_12 : decode prog_13_method_48_code 12 = .ok (.if_icmp .ne 81, 3) := by decide +kernel
theorem d_Rf_isBack_15 : decode prog_13_method_48_code 15 = .ok (.aload_n 0, 1) := by decide +kernel
theorem d_Rf_isBack_16 : decode prog_13_method_48_code 16 = .ok (.getfield 110, 3) := by decide +kernel
theorem d_Rf_isBack_19 : decode prog_13_method_48_code 19 = .ok (.bipush 8, 2) := by decide +kernel
theorem d_Rf_isBack_21 : decode prog_13_method_48_code 21 = .ok (.iload_n 1, 1) := by decide +kernel
theorem d_Rf_isBack_22 : decode prog_13_method_48_code 22 = .ok (.imul, 1) := by decide +kernel
theorem d_Rf_isBack_23 : decode prog_13_method_48_code 23 = .ok (.laload, 1) := by decide +kernel
theorem d_Rf_isBack_24 : decode prog_13_method_48_code 24 = .ok (.aload_n 0, 1) := by decide +kernel
theorem d_Rf_isBack_25 : decode prog_13_method_48_code 25 = .ok (.getfield 110, 3) := by decide +kernel
theorem d_Rf_isBack_28 : decode prog_13_method_48_code 28 = .ok (.bipush 8, 2) := by decide +kernel
theorem d_Rf_isBack_30 : decode prog_13_method_48_code 30 = .ok (.iload_n 2, 1) := by decide +kernel
theorem d_Rf_isBack_31 : decode prog_13_method_48_code 31 = .ok (.imul, 1) := by decide +kernel
theorem d_Rf_isBack_32 : decode prog_13_method_48_code 32 = .ok (.iconst 1, 1) := by decide +kernel
theorem d_Rf_isBack_33 : decode prog_13_method_48_code 33 = .ok (.iadd, 1) := by decide +kernel
theorem d_Rf_isBack_34 : decode prog_13_method_48_code 34 = .ok (.laload, 1) := by decide +kernel
theorem d_Rf_isBack_35 : decode prog_13_method_48_code 35 = .ok (.lcmp, 1) := by decide +kernel
theorem d_Rf_isBack_36 : decode prog_13_method_48_code 36 = .ok (.ifCond .ne 57, 3) := by decide +kernel
theorem d_Rf_isBack_39 : decode prog_13_method_48_code 39 = .ok (.aload_n 0, 1) := by decide +kernel
theorem d_Rf_isBack_40 : decode prog_13_method_48_code 40 = .ok (.getfield 110, 3) := by decide +kernel
theorem d_Rf_isBack_43 : decode prog_13_method_48_code 43 = .ok (.bipush 8, 2) := by decide +kernel
theorem d_Rf_isBack_45 : decode prog_13_method_48_code 45 = .ok (.iload_n 1, 1) := by decide +kernel
theorem d_Rf_isBack_46 : decode prog_13_method_48_code 46 = .ok (.imul, 1) := by decide +kernel
theorem d_Rf_isBack_47 : decode prog_13_method_48_code 47 = .ok (.iconst 1, 1) := by decide +kernel
theorem d_Rf_isBack_48 : decode prog_13_method_48_code 48 = .ok (.iadd, 1) := by decide +kernel
theorem d_Rf_isBack_49 : decode prog_13_method_48_code 49 = .ok (.laload, 1) := by decide +kernel
theorem d_Rf_isBack_50 : decode prog_13_method_48_code 50 = .ok (.aload_n 0, 1) := by decide +kernel
theorem d_Rf_isBack_51 : decode prog_13_method_48_code 51 = .ok (.getfield 110, 3) := by decide +kernel
theorem d_Rf_isBack_54 : decode prog_13_method_48_code 54 = .ok (.bipush 8, 2) := by decide +kernel
theorem d_Rf_isBack_56 : decode prog_13_method_48_code 56 = .ok (.iload_n 2, 1) := by decide +kernel
theorem d_Rf_isBack_57 : decode prog_13_method_48_code 57 = .ok (.imul, 1) := by decide +kernel
theorem d_Rf_isBack_58 : decode prog_13_method_48_code 58 = .ok (.laload, 1) := by decide +kernel
theorem d_Rf_isBack_59 : decode prog_13_method_48_code 59 = .ok (.lcmp, 1) := by decide +kernel
theorem d_Rf_isBack_60 : decode prog_13_method_48_code 60 = .ok (.ifCond .ne 33, 3) := by decide +kernel
theorem d_Rf_isBack_63 : decode prog_13_method_48_code 63 = .ok (.aload_n 0, 1) := by decide +kernel
theorem d_Rf_isBack_64 : decode prog_13_method_48_code 64 = .ok (.getfield 110, 3) := by decide +kernel
theorem d_Rf_isBack_67 : decode prog_13_method_48_code 67 = .ok (.bipush 8, 2) := by decide +kernel
theorem d_Rf_isBack_69 : decode prog_13_method_48_code 69 = .ok (.iload_n 1, 1) := by decide +kernel
theorem d_Rf_isBack_70 : decode prog_13_method_48_code 70 = .ok (.imul, 1) := by decide +kernel
theorem d_Rf_isBack_71 : decode prog_13_method_48_code 71 = .ok (.iconst 2, 1) := by decide +kernel
theorem d_Rf_isBack_72 : decode prog_13_method_48_code 72 = .ok (.iadd, 1) := by decide +kernel
theorem d_Rf_isBack_73 : decode prog_13_method_48_code 73 = .ok (.laload, 1) := by decide +kernel
theorem d_Rf_isBack_74 : decode prog_13_method_48_code 74 = .ok (.aload_n 0, 1) := by decide +kernel
theorem d_Rf_isBack_75 : decode prog_13_method_48_code 75 = .ok (.getfield 110, 3) := by decide +kernel
theorem d_Rf_isBack_78 : decode prog_13_method_48_code 78 = .ok (.bipush 8, 2) := by decide +kernel
theorem d_Rf_isBack_80 : decode prog_13_method_48_code 80 = .ok (.iload_n 2, 1) := by decide +kernel
theorem d_Rf_isBack_81 : decode prog_13_method_48_code 81 = .ok (.imul, 1) := by decide +kernel
theorem d_Rf_isBack_82 : decode prog_13_method_48_code 82 = .ok (.iconst 2, 1) := by decide +kernel
theorem d_Rf_isBack_83 : decode prog_13_method_48_code 83 = .ok (.iadd, 1) := by decide +kernel
theorem d_Rf_isBack_84 : decode prog_13_method_48_code 84 = .ok (.laload, 1) := by decide +kernel
theorem d_Rf_isBack_85 : decode prog_13_method_48_code 85 = .ok (.lcmp, 1) := by decide +kernel
theorem d_Rf_isBack_86 : decode prog_13_method_48_code 86 = .ok (.ifCond .ne 7, 3) := by decide +kernel
theorem d_Rf_isBack_89 : decode prog_13_method_48_code 89 = .ok (.iconst 1, 1) := by decide +kernel
theorem d_Rf_isBack_90 : decode prog_13_method_48_code 90 = .ok (.goto 4, 3) := by decide +kernel
theorem d_Rf_isBack_93 : decode prog_13_method_48_code 93 = .ok (.iconst 0, 1) := by decide +kernel
theorem d_Rf_isBack_94 : decode prog_13_method_48_code 94 = .ok (.ireturn, 1) := by decide +kernel
theorem q_Rf_isBack : (⟨"FlowShelfModel", "isBack", "(II)Z"⟩ : MethodName).cls ≠ "java/lang/invoke/MethodHandle" ∧ (⟨"FlowShelfModel", "isBack", "(II)Z"⟩ : MethodName).cls ≠ "java/lang/invoke/VarHandle" ∧ (parseMethodDescriptor (⟨"FlowShelfModel", "isBack", "(II)Z"⟩ : MethodName).desc).map (fun d => d.parameters.length) = some 2 := by decide +kernel
set_option maxHeartbeats 4000000 in
set_option maxRecDepth 100000 in
theorem m_Rf_isBack (X : fs_X) (l : Launch) (a0 : Nat) (x1 : Int32) (x2 : Int32) {r : Int32} {σ σF : fs_S} (h : (f_Rf_isBack a0 x1 x2).1 σ = some (r, σF)) : fs_Met X l ⟨"FlowShelfModel", "isBack", "(II)Z"⟩ (Cond.code ⟨"FlowShelfModel", "isBack", "(II)Z"⟩ prog_13_method_48_code 3 (some FieldType.boolean)) 0 0 [.ref a0, .int x1, .int x2] σ (fs_eI r) σF := by
  refine fs_ofW (by decide) ?_
  intro p e s m args below meth c s₁ B hml hT hv
  obtain ⟨rfl, hw0, hG⟩ := hv
  have hx := B.exec
  have hb := B.bytes
  have hr := B.returns
  have hk := B.notSynchronized
  have S : CallFix p m c prog_13_method_48_code 3 s _ fs_ws "FlowShelfModel" := ⟨B.exec, B.bytes, hml, findClass_of_methodNamed B.named, fun w hw => atoms_spec (ws := _ :: fs_ws) B.pre w (List.mem_cons_of_mem _ hw)⟩
  have hR := fs_hR (fr := 0) (lo := 0) ((f_Rf_isBack a0 x1 x2).2 _ _ _ h)
  have hl := lv_entry ([.ref a0, .int x1, .int x2]) (n := 3) (Nat.le_of_ble_eq_true rfl)
  rw [lg_entry_eq]
  generalize (lg_sl ([.ref a0, .int x1, .int x2]) ++ List.replicate (3 - (lg_sl ([.ref a0, .int x1, .int x2])).length) Slot.unset).toArray = ls at hl ⊢
  have hl : lv_has ls 3 [(0, .ref a0), (1, .int x1), (2, .int x2)] := hl
  refine (?_ : fs_J X p l e (fs_rm 0 0 σ σF) s m _ below meth c (fs_Q X below _ s (fs_eI r) σ σF) r σ σF (f_Rf_isBack a0 x1 x2) (F0 m 0 ls [])) σ s.heap [] 0 0 h hw0 va_S.rf rfl rfl
  clear h hw0
  unfold f_Rf_isBack
  refine fs_lift (fun _ _ _ _ => lv_aload_n hx hb d_Rf_isBack_0 rfl (lv_at hl 0 rfl)) ?_
  refine fs_Jgr S hG fs_in12 rfl 38 (Nat.le_of_ble_eq_true rfl) tw_5_230 (fun _ h9 => h9) d_Rf_isBack_1 (fun r1 => ?_)
  refine fs_lift (fun _ _ _ _ => lv_iload_n hx hb d_Rf_isBack_4 rfl (lv_at hl 1 rfl)) ?_
  refine fs_Jai S hG d_Rf_isBack_5 (fun v2 => ?_)
  refine fs_lift (fun _ _ _ _ => lv_aload_n hx hb d_Rf_isBack_6 rfl (lv_at hl 0 rfl)) ?_
  refine fs_Jgr S hG fs_in12 rfl 38 (Nat.le_of_ble_eq_true rfl) tw_5_230 (fun _ h9 => h9) d_Rf_isBack_7 (fun r3 => ?_)
  refine fs_lift (fun _ _ _ _ => lv_iload_n hx hb d_Rf_isBack_10 rfl (lv_at hl 2 rfl)) ?_
  refine fs_Jai S hG d_Rf_isBack_11 (fun v4 => ?_)
  refine fs_ifn (fun _ _ _ _ => lv_icmp_ne hx hb d_Rf_isBack_12 rfl) ?_ ?_
  · refine fs_lift (fun _ _ _ _ => lv_aload_n hx hb d_Rf_isBack_15 rfl (lv_at hl 0 rfl)) ?_
    refine fs_Jgr S hG fs_in12 rfl 39 (Nat.le_of_ble_eq_true rfl) tw_5_231 (fun _ h9 => h9) d_Rf_isBack_16 (fun r5 => ?_)
    refine fs_lift (fun _ _ _ _ => lv_bipush (v := 8) hx hb d_Rf_isBack_19 (by decide)) ?_
    refine fs_lift (fun _ _ _ _ => lv_iload_n hx hb d_Rf_isBack_21 rfl (lv_at hl 1 rfl)) ?_
    refine fs_lift (fun _ _ _ _ => lv_imul hx hb d_Rf_isBack_22) ?_
    refine fs_Jaj S hG d_Rf_isBack_23 (fun v6 => ?_)
    refine fs_lift (fun _ _ _ _ => lv_aload_n hx hb d_Rf_isBack_24 rfl (lv_at hl 0 rfl)) ?_
    refine fs_Jgr S hG fs_in12 rfl 39 (Nat.le_of_ble_eq_true rfl) tw_5_231 (fun _ h9 => h9) d_Rf_isBack_25 (fun r7 => ?_)
    refine fs_lift (fun _ _ _ _ => lv_bipush (v := 8) hx hb d_Rf_isBack_28 (by decide)) ?_
    refine fs_lift (fun _ _ _ _ => lv_iload_n hx hb d_Rf_isBack_30 rfl (lv_at hl 2 rfl)) ?_
    refine fs_lift (fun _ _ _ _ => lv_imul hx hb d_Rf_isBack_31) ?_
    refine fs_lift (fun _ _ _ _ => lv_iconst (v := 1) hx hb d_Rf_isBack_32 (by decide)) ?_
    refine fs_lift (fun _ _ _ _ => lv_iadd hx hb d_Rf_isBack_33) ?_
    refine fs_Jaj S hG d_Rf_isBack_34 (fun v8 => ?_)
    refine fs_lift (fun _ _ _ _ => W.lcmp hx hb d_Rf_isBack_35) ?_
    refine fs_ifn (fun _ _ _ _ => lv_if_ne hx hb d_Rf_isBack_36 rfl) ?_ ?_
    · refine fs_lift (fun _ _ _ _ => lv_aload_n hx hb d_Rf_isBack_39 rfl (lv_at hl 0 rfl)) ?_
      refine fs_Jgr S hG fs_in12 rfl 39 (Nat.le_of_ble_eq_true rfl) tw_5_231 (fun _ h9 => h9) d_Rf_isBack_40 (fun r9 => ?_)
      refine fs_lift (fun _ _ _ _ => lv_bipush (v := 8) hx hb d_Rf_isBack_43 (by decide)) ?_
      refine fs_lift (fun _ _ _ _ => lv_iload_n hx hb d_Rf_isBack_45 rfl (lv_at hl 1 rfl)) ?_
      refine fs_lift (fun _ _ _ _ => lv_imul hx hb d_Rf_isBack_46) ?_
      refine fs_lift (fun _ _ _ _ => lv_iconst (v := 1) hx hb d_Rf_isBack_47 (by decide)) ?_
      refine fs_lift (fun _ _ _ _ => lv_iadd hx hb d_Rf_isBack_48) ?_
      refine fs_Jaj S hG d_Rf_isBack_49 (fun v10 => ?_)
      refine fs_lift (fun _ _ _ _ => lv_aload_n hx hb d_Rf_isBack_50 rfl (lv_at hl 0 rfl)) ?_
      refine fs_Jgr S hG fs_in12 rfl 39 (Nat.le_of_ble_eq_true rfl) tw_5_231 (fun _ h9 => h9) d_Rf_isBack_51 (fun r11 => ?_)
      refine fs_lift (fun _ _ _ _ => lv_bipush (v := 8) hx hb d_Rf_isBack_54 (by decide)) ?_
      refine fs_lift (fun _ _ _ _ => lv_iload_n hx hb d_Rf_isBack_56 rfl (lv_at hl 2 rfl)) ?_
      refine fs_lift (fun _ _ _ _ => lv_imul hx hb d_Rf_isBack_57) ?_
      refine fs_Jaj S hG d_Rf_isBack_58 (fun v12 => ?_)
      refine fs_lift (fun _ _ _ _ => W.lcmp hx hb d_Rf_isBack_59) ?_
      refine fs_ifn (fun _ _ _ _ => lv_if_ne hx hb d_Rf_isBack_60 rfl) ?_ ?_
      · refine fs_lift (fun _ _ _ _ => lv_aload_n hx hb d_Rf_isBack_63 rfl (lv_at hl 0 rfl)) ?_
        refine fs_Jgr S hG fs_in12 rfl 39 (Nat.le_of_ble_eq_true rfl) tw_5_231 (fun _ h9 => h9) d_Rf_isBack_64 (fun r13 => ?_)
        refine fs_lift (fun _ _ _ _ => lv_bipush (v := 8) hx hb d_Rf_isBack_67 (by decide)) ?_
        refine fs_lift (fun _ _ _ _ => lv_iload_n hx hb d_Rf_isBack_69 rfl (lv_at hl 1 rfl)) ?_
        refine fs_lift (fun _ _ _ _ => lv_imul hx hb d_Rf_isBack_70) ?_
        refine fs_lift (fun _ _ _ _ => lv_iconst (v := 2) hx hb d_Rf_isBack_71 (by decide)) ?_
        refine fs_lift (fun _ _ _ _ => lv_iadd hx hb d_Rf_isBack_72) ?_
        refine fs_Jaj S hG d_Rf_isBack_73 (fun v14 => ?_)
        refine fs_lift (fun _ _ _ _ => lv_aload_n hx hb d_Rf_isBack_74 rfl (lv_at hl 0 rfl)) ?_
        refine fs_Jgr S hG fs_in12 rfl 39 (Nat.le_of_ble_eq_true rfl) tw_5_231 (fun _ h9 => h9) d_Rf_isBack_75 (fun r15 => ?_)
        refine fs_lift (fun _ _ _ _ => lv_bipush (v := 8) hx hb d_Rf_isBack_78 (by decide)) ?_
        refine fs_lift (fun _ _ _ _ => lv_iload_n hx hb d_Rf_isBack_80 rfl (lv_at hl 2 rfl)) ?_
        refine fs_lift (fun _ _ _ _ => lv_imul hx hb d_Rf_isBack_81) ?_
        refine fs_lift (fun _ _ _ _ => lv_iconst (v := 2) hx hb d_Rf_isBack_82 (by decide)) ?_
        refine fs_lift (fun _ _ _ _ => lv_iadd hx hb d_Rf_isBack_83) ?_
        refine fs_Jaj S hG d_Rf_isBack_84 (fun v16 => ?_)
        refine fs_lift (fun _ _ _ _ => W.lcmp hx hb d_Rf_isBack_85) ?_
        refine fs_ifn (fun _ _ _ _ => lv_if_ne hx hb d_Rf_isBack_86 rfl) ?_ ?_
        · refine fs_lift (fun _ _ _ _ => lv_iconst (v := 1) hx hb d_Rf_isBack_89 (by decide)) ?_
          refine fs_lift (fun _ _ _ _ => lv_goto hx hb d_Rf_isBack_90 rfl) ?_
          exact fs_Jzret S hr hk rfl d_Rf_isBack_94
        · refine fs_lift (fun _ _ _ _ => lv_iconst (v := 0) hx hb d_Rf_isBack_93 (by decide)) ?_
          exact fs_Jzret S hr hk rfl d_Rf_isBack_94
      · refine fs_lift (fun _ _ _ _ => lv_iconst (v := 0) hx hb d_Rf_isBack_93 (by decide)) ?_
        exact fs_Jzret S hr hk rfl d_Rf_isBack_94
    · refine fs_lift (fun _ _ _ _ => lv_iconst (v := 0) hx hb d_Rf_isBack_93 (by decide)) ?_
      exact fs_Jzret S hr hk rfl d_Rf_isBack_94
  · refine fs_lift (fun _ _ _ _ => lv_iconst (v := 0) hx hb d_Rf_isBack_93 (by decide)) ?_
    exact fs_Jzret S hr hk rfl d_Rf_isBack_94

theorem d_Rf_farness_0 : decode prog_13_method_49_code 0 = .ok (.aload_n 0, 1) := by decide +kernel
theorem d_Rf_farness_1 : decode prog_13_method_49_code 1 = .ok (.getfield 110, 3) := by decide +kernel
theorem d_Rf_farness_4 : decode prog_13_method_49_code 4 = .ok (.bipush 8, 2) := by decide +kernel
theorem d_Rf_farness_6 : decode prog_13_method_49_code 6 = .ok (.iload_n 1, 1) := by decide +kernel
theorem d_Rf_farness_7 : decode prog_13_method_49_code 7 = .ok (.imul, 1) := by decide +kernel
theorem d_Rf_farness_8 : decode prog_13_method_49_code 8 = .ok (.iconst 5, 1) := by decide +kernel
theorem d_Rf_farness_9 : decode prog_13_method_49_code 9 = .ok (.iadd, 1) := by decide +kernel
theorem d_Rf_farness_10 : decode prog_13_method_49_code 10 = .ok (.laload, 1) := by decide +kernel
theorem d_Rf_farness_11 : decode prog_13_method_49_code 11 = .ok (.aload_n 0, 1) := by decide +kernel
theorem d_Rf_farness_12 : decode prog_13_method_49_code 12 = .ok (.getfield 110, 3) := by decide +kernel
theorem d_Rf_farness_15 : decode prog_13_method_49_code 15 = .ok (.bipush 8, 2) := by decide +kernel
theorem d_Rf_farness_17 : decode prog_13_method_49_code 17 = .ok (.iload_n 2, 1) := by decide +kernel
theorem d_Rf_farness_18 : decode prog_13_method_49_code 18 = .ok (.imul, 1) := by decide +kernel
theorem d_Rf_farness_19 : decode prog_13_method_49_code 19 = .ok (.iconst 5, 1) := by decide +kernel
theorem d_Rf_farness_20 : decode prog_13_method_49_code 20 = .ok (.iadd, 1) := by decide +kernel
theorem d_Rf_farness_21 : decode prog_13_method_49_code 21 = .ok (.laload, 1) := by decide +kernel
theorem d_Rf_farness_22 : decode prog_13_method_49_code 22 = .ok (.lsub, 1) := by decide +kernel
theorem d_Rf_farness_23 : decode prog_13_method_49_code 23 = .ok (.lstore_n 3, 1) := by decide +kernel
theorem d_Rf_farness_24 : decode prog_13_method_49_code 24 = .ok (.lload_n 3, 1) := by decide +kernel
theorem d_Rf_farness_25 : decode prog_13_method_49_code 25 = .ok (.lconst 0, 1) := by decide +kernel
theorem d_Rf_farness_26 : decode prog_13_method_49_code 26 = .ok (.lcmp, 1) := by decide +kernel
theorem d_Rf_farness_27 : decode prog_13_method_49_code 27 = .ok (.ifCond .ge 8, 3) := by decide +kernel
theorem d_Rf_farness_30 : decode prog_13_method_49_code 30 = .ok (.lload_n 3, 1) := by decide +kernel
theorem d_Rf_farness_31 : decode prog_13_method_49_code 31 = .ok (.lneg, 1) := by decide +kernel
theorem d_Rf_farness_32 : decode prog_13_method_49_code 32 = .ok (.goto 4, 3) := by decide +kernel
theorem d_Rf_farness_35 : decode prog_13_method_49_code 35 = .ok (.lload_n 3, 1) := by decide +kernel
theorem d_Rf_farness_36 : decode prog_13_method_49_code 36 = .ok (.lreturn, 1) := by decide +kernel
theorem q_Rf_farness : (⟨"FlowShelfModel", "farness", "(II)J"⟩ : MethodName).cls ≠ "java/lang/invoke/MethodHandle" ∧ (⟨"FlowShelfModel", "farness", "(II)J"⟩ : MethodName).cls ≠ "java/lang/invoke/VarHandle" ∧ (parseMethodDescriptor (⟨"FlowShelfModel", "farness", "(II)J"⟩ : MethodName).desc).map (fun d => d.parameters.length) = some 2 := by decide +kernel
set_option maxHeartbeats 4000000 in
set_option maxRecDepth 100000 in
theorem m_Rf_farness (X : fs_X) (l : Launch) (a0 : Nat) (x1 : Int32) (x2 : Int32) {r : Int64} {σ σF : fs_S} (h : (f_Rf_farness a0 x1 x2).1 σ = some (r, σF)) : fs_Met X l ⟨"FlowShelfModel", "farness", "(II)J"⟩ (Cond.code ⟨"FlowShelfModel", "farness", "(II)J"⟩ prog_13_method_49_code 5 (some FieldType.long)) 0 0 [.ref a0, .int x1, .int x2] σ (fs_eJ r) σF := by
  refine fs_ofW (by decide) ?_
  intro p e s m args below meth c s₁ B hml hT hv
  obtain ⟨rfl, hw0, hG⟩ := hv
  have hx := B.exec
  have hb := B.bytes
  have hr := B.returns
  have hk := B.notSynchronized
  have S : CallFix p m c prog_13_method_49_code 5 s _ fs_ws "FlowShelfModel" := ⟨B.exec, B.bytes, hml, findClass_of_methodNamed B.named, fun w hw => atoms_spec (ws := _ :: fs_ws) B.pre w (List.mem_cons_of_mem _ hw)⟩
  have hR := fs_hR (fr := 0) (lo := 0) ((f_Rf_farness a0 x1 x2).2 _ _ _ h)
  have hl := lv_entry ([.ref a0, .int x1, .int x2]) (n := 5) (Nat.le_of_ble_eq_true rfl)
  rw [lg_entry_eq]
  generalize (lg_sl ([.ref a0, .int x1, .int x2]) ++ List.replicate (5 - (lg_sl ([.ref a0, .int x1, .int x2])).length) Slot.unset).toArray = ls at hl ⊢
  have hl : lv_has ls 5 [(0, .ref a0), (1, .int x1), (2, .int x2)] := hl
  refine (?_ : fs_J X p l e (fs_rm 0 0 σ σF) s m _ below meth c (fs_Q X below _ s (fs_eJ r) σ σF) r σ σF (f_Rf_farness a0 x1 x2) (F0 m 0 ls [])) σ s.heap [] 0 0 h hw0 va_S.rf rfl rfl
  clear h hw0
  unfold f_Rf_farness
  refine fs_lift (fun _ _ _ _ => lv_aload_n hx hb d_Rf_farness_0 rfl (lv_at hl 0 rfl)) ?_
  refine fs_Jgr S hG fs_in12 rfl 39 (Nat.le_of_ble_eq_true rfl) tw_5_231 (fun _ h9 => h9) d_Rf_farness_1 (fun r1 => ?_)
  refine fs_lift (fun _ _ _ _ => lv_bipush (v := 8) hx hb d_Rf_farness_4 (by decide)) ?_
  refine fs_lift (fun _ _ _ _ => lv_iload_n hx hb d_Rf_farness_6 rfl (lv_at hl 1 rfl)) ?_
  refine fs_lift (fun _ _ _ _ => lv_imul hx hb d_Rf_farness_7) ?_
  refine fs_lift (fun _ _ _ _ => lv_iconst (v := 5) hx hb d_Rf_farness_8 (by decide)) ?_
  refine fs_lift (fun _ _ _ _ => lv_iadd hx hb d_Rf_farness_9) ?_
  refine fs_Jaj S hG d_Rf_farness_10 (fun v2 => ?_)
  refine fs_lift (fun _ _ _ _ => lv_aload_n hx hb d_Rf_farness_11 rfl (lv_at hl 0 rfl)) ?_
  refine fs_Jgr S hG fs_in12 rfl 39 (Nat.le_of_ble_eq_true rfl) tw_5_231 (fun _ h9 => h9) d_Rf_farness_12 (fun r3 => ?_)
  refine fs_lift (fun _ _ _ _ => lv_bipush (v := 8) hx hb d_Rf_farness_15 (by decide)) ?_
  refine fs_lift (fun _ _ _ _ => lv_iload_n hx hb d_Rf_farness_17 rfl (lv_at hl 2 rfl)) ?_
  refine fs_lift (fun _ _ _ _ => lv_imul hx hb d_Rf_farness_18) ?_
  refine fs_lift (fun _ _ _ _ => lv_iconst (v := 5) hx hb d_Rf_farness_19 (by decide)) ?_
  refine fs_lift (fun _ _ _ _ => lv_iadd hx hb d_Rf_farness_20) ?_
  refine fs_Jaj S hG d_Rf_farness_21 (fun v4 => ?_)
  refine fs_lift (fun _ _ _ _ => lv_lsub hx hb d_Rf_farness_22) ?_
  refine fs_Jnj (fun v5 => ?_)
  refine fs_liftL (fun _ _ _ _ => lv_lstore_n (lv' := [(3, .long v5), (0, .ref a0), (1, .int x1), (2, .int x2)]) hx hb d_Rf_farness_23 rfl hl (Nat.le_of_ble_eq_true rfl) rfl) (fun ls hl => ?_)
  refine fs_lift (fun _ _ _ _ => lv_lload_n hx hb d_Rf_farness_24 rfl (lv_at hl 0 rfl)) ?_
  refine fs_lift (fun _ _ _ _ => lv_lconst (v := 0) hx hb d_Rf_farness_25 (by decide)) ?_
  refine fs_lift (fun _ _ _ _ => W.lcmp hx hb d_Rf_farness_26) ?_
  refine fs_if (fun _ _ _ _ => lv_if_ge hx hb d_Rf_farness_27 rfl) ?_ ?_
  · refine fs_lift (fun _ _ _ _ => lv_lload_n hx hb d_Rf_farness_35 rfl (lv_at hl 0 rfl)) ?_
    exact fs_Jlret S hr hk rfl d_Rf_farness_36
  · refine fs_lift (fun _ _ _ _ => lv_lload_n hx hb d_Rf_farness_30 rfl (lv_at hl 0 rfl)) ?_
    refine fs_lift (fun _ _ _ _ => lv_lneg hx hb d_Rf_farness_31) ?_
    refine fs_lift (fun _ _ _ _ => lv_goto hx hb d_Rf_farness_32 rfl) ?_
    exact fs_Jlret S hr hk rfl d_Rf_farness_36

theorem d_Rf_pairOne_0 : decode prog_13_method_51_code 0 = .ok (.iconst (-1), 1) := by decide +kernel
theorem d_Rf_pairOne_1 : decode prog_13_method_51_code 1 = .ok (.istore_n 2, 1) := by decide +kernel
theorem d_Rf_pairOne_2 : decode prog_13_method_51_code 2 = .ok (.iconst 0, 1) := by decide +kernel
theorem d_Rf_pairOne_3 : decode prog_13_method_51_code 3 = .ok (.istore_n 3, 1) := by decide +kernel
theorem d_Rf_pairOne_4 : decode prog_13_method_51_code 4 = .ok (.iload_n 3, 1) := by decide +kernel
theorem d_Rf_pairOne_5 : decode prog_13_method_51_code 5 = .ok (.aload_n 0, 1) := by decide +kernel
theorem d_Rf_pairOne_6 : decode prog_13_method_51_code 6 = .ok (.getfield 214, 3) := by decide +kernel
theorem d_Rf_pairOne_9 : decode prog_13_method_51_code 9 = .ok (.if_icmp .ge 78, 3) := by decide +kernel
theorem d_Rf_pairOne_12 : decode prog_13_method_51_code 12 = .ok (.iload_n 3, 1) := by decide +kernel
theorem d_Rf_pairOne_13 : decode prog_13_method_51_code 13 = .ok (.iload_n 1, 1) := by decide +kernel
theorem d_Rf_pairOne_14 : decode prog_13_method_51_code 14 = .ok (.if_icmp .eq 33, 3) := by decide +kernel
theorem d_Rf_pairOne_17 : decode prog_13_method_51_code 17 = .ok (.aload_n 0, 1) := by decide +kernel
theorem d_Rf_pairOne_18 : decode prog_13_method_51_code 18 = .ok (.getfield 132, 3) := by decide +kernel
theorem d_Rf_pairOne_21 : decode prog_13_method_51_code 21 = .ok (.iload_n 3, 1) := by decide +kernel
theorem d_Rf_pairOne_22 : decode prog_13_method_51_code 22 = .ok (.iaload, 1) := by decide +kernel
theorem d_Rf_pairOne_23 : decode prog_13_method_51_code 23 = .ok (.ifCond .ge 24, 3) := by decide +kernel
theorem d_Rf_pairOne_26 : decode prog_13_method_51_code 26 = .ok (.aload_n 0, 1) := by decide +kernel
theorem d_Rf_pairOne_27 : decode prog_13_method_51_code 27 = .ok (.iload_n 3, 1) := by decide +kernel
theorem d_Rf_pairOne_28 : decode prog_13_method_51_code 28 = .ok (.invokevirtual 256, 3) := by decide +kernel
theorem d_Rf_pairOne_31 : decode prog_13_method_51_code 31 = .ok (.ifCond .eq 16, 3) := by decide +kernel
theorem d_Rf_pairOne_34 : decode prog_13_method_51_code 34 = .ok (.aload_n 0, 1) := by decide +kernel
theorem d_Rf_pairOne_35 : decode prog_13_method_51_code 35 = .ok (.iload_n 1, 1) := by decide +kernel
theorem d_Rf_pairOne_36 : decode prog_13_method_51_code 36 = .ok (.iload_n 3, 1) := by decide +kernel
theorem d_Rf_pairOne_37 : decode prog_13_method_51_code 37 = .ok (.invokevirtual 259, 3) := by decide +kernel
theorem d_Rf_pairOne_40 : decode prog_13_method_51_code 40 = .ok (.ifCond .eq 7, 3) := by decide +kernel
theorem d_Rf_pairOne_43 : decode prog_13_method_51_code 43 = .ok (.iconst 1, 1) := by decide +kernel
theorem d_Rf_pairOne_44 : decode prog_13_method_51_code 44 = .ok (.goto 4, 3) := by decide +kernel
theorem d_Rf_pairOne_47 : decode prog_13_method_51_code 47 = .ok (.iconst 0, 1) := by decide +kernel
theorem d_Rf_pairOne_48 : decode prog_13_method_51_code 48 = .ok (.istore 4, 2) := by decide +kernel
theorem d_Rf_pairOne_50 : decode prog_13_method_51_code 50 = .ok (.iload 4, 2) := by decide +kernel
theorem d_Rf_pairOne_52 : decode prog_13_method_51_code 52 = .ok (.ifCond .eq 27, 3) := by decide +kernel
theorem d_Rf_pairOne_55 : decode prog_13_method_51_code 55 = .ok (.iload_n 2, 1) := by decide +kernel
theorem d_Rf_pairOne_56 : decode prog_13_method_51_code 56 = .ok (.ifCond .lt 19, 3) := by decide +kernel
theorem d_Rf_pairOne_59 : decode prog_13_method_51_code 59 = .ok (.aload_n 0, 1) := by decide +kernel
theorem d_Rf_pairOne_60 : decode prog_13_method_51_code 60 = .ok (.iload_n 1, 1) := by decide +kernel
theorem d_Rf_pairOne_61 : decode prog_13_method_51_code 61 = .ok (.iload_n 3, 1) := by decide +kernel
theorem d_Rf_pairOne_62 : decode prog_13_method_51_code 62 = .ok (.invokevirtual 262, 3) := by decide +kernel
theorem d_Rf_pairOne_65 : decode prog_13_method_51_code 65 = .ok (.aload_n 0, 1) := by decide +kernel
theorem d_Rf_pairOne_66 : decode prog_13_method_51_code 66 = .ok (.iload_n 1, 1) := by decide +kernel
theorem d_Rf_pairOne_67 : decode prog_13_method_51_code 67 = .ok (.iload_n 2, 1) := by decide +kernel
theorem d_Rf_pairOne_68 : decode prog_13_method_51_code 68 = .ok (.invokevirtual 262, 3) := by decide +kernel
theorem d_Rf_pairOne_71 : decode prog_13_method_51_code 71 = .ok (.lcmp, 1) := by decide +kernel
theorem d_Rf_pairOne_72 : decode prog_13_method_51_code 72 = .ok (.ifCond .ge 7, 3) := by decide +kernel
theorem d_Rf_pairOne_75 : decode prog_13_method_51_code 75 = .ok (.iload_n 3, 1) := by decide +kernel
theorem d_Rf_pairOne_76 : decode prog_13_method_51_code 76 = .ok (.goto 4, 3) := by decide +kernel
theorem d_Rf_pairOne_79 : decode prog_13_method_51_code 79 = .ok (.iload_n 2, 1) := by decide +kernel
theorem d_Rf_pairOne_80 : decode prog_13_method_51_code 80 = .ok (.istore_n 2, 1) := by decide +kernel
theorem d_Rf_pairOne_81 : decode prog_13_method_51_code 81 = .ok (.iinc 3 1, 3) := by decide +kernel
theorem d_Rf_pairOne_84 : decode prog_13_method_51_code 84 = .ok (.goto (-80), 3) := by decide +kernel
theorem d_Rf_pairOne_87 : decode prog_13_method_51_code 87 = .ok (.iload_n 2, 1) := by decide +kernel
theorem d_Rf_pairOne_88 : decode prog_13_method_51_code 88 = .ok (.ifCond .lt 17, 3) := by decide +kernel
theorem d_Rf_pairOne_91 : decode prog_13_method_51_code 91 = .ok (.aload_n 0, 1) := by decide +kernel
theorem d_Rf_pairOne_92 : decode prog_13_method_51_code 92 = .ok (.getfield 132, 3) := by decide +kernel
theorem d_Rf_pairOne_95 : decode prog_13_method_51_code 95 = .ok (.iload_n 1, 1) := by decide +kernel
theorem d_Rf_pairOne_96 : decode prog_13_method_51_code 96 = .ok (.iload_n 2, 1) := by decide +kernel
theorem d_Rf_pairOne_97 : decode prog_13_method_51_code 97 = .ok (.iastore, 1) := by decide +kernel
theorem d_Rf_pairOne_98 : decode prog_13_method_51_code 98 = .ok (.aload_n 0, 1) := by decide +kernel
theorem d_Rf_pairOne_99 : decode prog_13_method_51_code 99 = .ok (.getfield 132, 3) := by decide +kernel
theorem d_Rf_pairOne_102 : decode prog_13_method_51_code 102 = .ok (.iload_n 2, 1) := by decide +kernel
theorem d_Rf_pairOne_103 : decode prog_13_method_51_code 103 = .ok (.iload_n 1, 1) := by decide +kernel
theorem d_Rf_pairOne_104 : decode prog_13_method_51_code 104 = .ok (.iastore, 1) := by decide +kernel
theorem d_Rf_pairOne_105 : decode prog_13_method_51_code 105 = .ok (.return_, 1) := by decide +kernel
theorem q_Rf_pairOne : (⟨"FlowShelfModel", "pairOne", "(I)V"⟩ : MethodName).cls ≠ "java/lang/invoke/MethodHandle" ∧ (⟨"FlowShelfModel", "pairOne", "(I)V"⟩ : MethodName).cls ≠ "java/lang/invoke/VarHandle" ∧ (parseMethodDescriptor (⟨"FlowShelfModel", "pairOne", "(I)V"⟩ : MethodName).desc).map (fun d => d.parameters.length) = some 1 := by decide +kernel
set_option maxHeartbeats 4000000 in
set_option maxRecDepth 100000 in
theorem m_Rf_pairOne (X : fs_X) (l : Launch) (a0 : Nat) (x1 : Int32) {r : Unit} {σ σF : fs_S} (h : (f_Rf_pairOne a0 x1).1 σ = some (r, σF)) : fs_Met X l ⟨"FlowShelfModel", "pairOne", "(I)V"⟩ (Cond.code ⟨"FlowShelfModel", "pairOne", "(I)V"⟩ prog_13_method_51_code 5 none) 1 24 [.ref a0, .int x1] σ (fs_eV r) σF := by
  refine fs_ofW (by decide) ?_
  intro p e s m args below meth c s₁ B hml hT hv
  obtain ⟨rfl, hw0, hG⟩ := hv
  have hx := B.exec
  have hb := B.bytes
  have hr := B.returns
  have hk := B.notSynchronized
  have S : CallFix p m c prog_13_method_51_code 5 s _ fs_ws "FlowShelfModel" := ⟨B.exec, B.bytes, hml, findClass_of_methodNamed B.named, fun w hw => atoms_spec (ws := _ :: fs_ws) B.pre w (List.mem_cons_of_mem _ hw)⟩
  have hR := fs_hR (fr := 1) (lo := 24) ((f_Rf_pairOne a0 x1).2 _ _ _ h)
  have hl := lv_entry ([.ref a0, .int x1]) (n := 5) (Nat.le_of_ble_eq_true rfl)
  rw [lg_entry_eq]
  generalize (lg_sl ([.ref a0, .int x1]) ++ List.replicate (5 - (lg_sl ([.ref a0, .int x1])).length) Slot.unset).toArray = ls at hl ⊢
  have hl : lv_has ls 5 [(0, .ref a0), (1, .int x1)] := hl
  refine (?_ : fs_J X p l e (fs_rm 1 24 σ σF) s m _ below meth c (fs_Q X below _ s (fs_eV r) σ σF) r σ σF (f_Rf_pairOne a0 x1) (F0 m 0 ls [])) σ s.heap [] 0 0 h hw0 va_S.rf rfl rfl
  clear h hw0
  unfold f_Rf_pairOne
  refine fs_lift (fun _ _ _ _ => lv_iconst (v := (-1)) hx hb d_Rf_pairOne_0 (by decide)) ?_
  refine fs_liftL (fun _ _ _ _ => lv_istore_n (lv' := [(2, .int (-1)), (0, .ref a0), (1, .int x1)]) hx hb d_Rf_pairOne_1 rfl hl (Nat.le_of_ble_eq_true rfl) rfl) (fun ls hl => ?_)
  refine fs_lift (fun _ _ _ _ => lv_iconst (v := 0) hx hb d_Rf_pairOne_2 (by decide)) ?_
  refine fs_liftL (fun _ _ _ _ => lv_istore_n (lv' := [(3, .int 0), (2, .int (-1)), (0, .ref a0), (1, .int x1)]) hx hb d_Rf_pairOne_3 rfl hl (Nat.le_of_ble_eq_true rfl) rfl) (fun ls hl => ?_)
  refine fs_Jlp2 (nL := 5) (pc := 4) (rest := []) (I := fun (v1 : Int32) (v2 : Int32) => [(0, .ref a0), (1, .int x1), (2, .int v1), (3, .int v2)]) (fun k4 hk4 v1 v2 ls hl => ?_) _ _ _ _ (lv_sub hl [2, 3, 1, 0] rfl)
  refine fs_lift (fun _ _ _ _ => lv_iload_n hx hb d_Rf_pairOne_4 rfl (lv_at hl 3 rfl)) ?_
  refine fs_lift (fun _ _ _ _ => lv_aload_n hx hb d_Rf_pairOne_5 rfl (lv_at hl 0 rfl)) ?_
  refine fs_Jgi S hG fs_in12 rfl 37 (Nat.le_of_ble_eq_true rfl) tw_5_229 (fun _ h9 => h9) d_Rf_pairOne_6 (fun v3 => ?_)
  refine fs_if (fun _ _ _ _ => lv_icmp_ge hx hb d_Rf_pairOne_9 rfl) ?_ ?_
  · refine fs_lift (fun _ _ _ _ => lv_iload_n hx hb d_Rf_pairOne_87 rfl (lv_at hl 2 rfl)) ?_
    refine fs_if (fun _ _ _ _ => lv_if_lt hx hb d_Rf_pairOne_88 rfl) ?_ ?_
    · exact fs_Jvret S hr hk rfl d_Rf_pairOne_105
    · refine fs_lift (fun _ _ _ _ => lv_aload_n hx hb d_Rf_pairOne_91 rfl (lv_at hl 0 rfl)) ?_
      refine fs_Jgr S hG fs_in12 rfl 48 (Nat.le_of_ble_eq_true rfl) tw_6_0 (fun _ h9 => h9) d_Rf_pairOne_92 (fun r4 => ?_)
      refine fs_lift (fun _ _ _ _ => lv_iload_n hx hb d_Rf_pairOne_95 rfl (lv_at hl 1 rfl)) ?_
      refine fs_lift (fun _ _ _ _ => lv_iload_n hx hb d_Rf_pairOne_96 rfl (lv_at hl 2 rfl)) ?_
      refine fs_Jsi S hG d_Rf_pairOne_97 ?_
      refine fs_lift (fun _ _ _ _ => lv_aload_n hx hb d_Rf_pairOne_98 rfl (lv_at hl 0 rfl)) ?_
      refine fs_Jgr S hG fs_in12 rfl 48 (Nat.le_of_ble_eq_true rfl) tw_6_0 (fun _ h9 => h9) d_Rf_pairOne_99 (fun r5 => ?_)
      refine fs_lift (fun _ _ _ _ => lv_iload_n hx hb d_Rf_pairOne_102 rfl (lv_at hl 2 rfl)) ?_
      refine fs_lift (fun _ _ _ _ => lv_iload_n hx hb d_Rf_pairOne_103 rfl (lv_at hl 1 rfl)) ?_
      refine fs_Jsi S hG d_Rf_pairOne_104 ?_
      exact fs_Jvret S hr hk rfl d_Rf_pairOne_105
  · refine fs_lift (fun _ _ _ _ => lv_iload_n hx hb d_Rf_pairOne_12 rfl (lv_at hl 3 rfl)) ?_
    refine fs_lift (fun _ _ _ _ => lv_iload_n hx hb d_Rf_pairOne_13 rfl (lv_at hl 1 rfl)) ?_
    refine fs_Jlet1 (nL := 5) (pj := 48) (I := fun (v10 : Int32) => [(0, .ref a0), (1, .int x1), (2, .int v1), (3, .int v2)]) (st := fun (v10 : Int32) => [.int v10]) (fun v10 ls hl => ?_) (fun j48 hj48 => ?_)
    · refine fs_liftL (fun _ _ _ _ => lv_istore (lv' := [(4, .int v10), (0, .ref a0), (1, .int x1), (2, .int v1), (3, .int v2)]) hx hb d_Rf_pairOne_48 hl (Nat.le_of_ble_eq_true rfl) rfl) (fun ls hl => ?_)
      refine fs_lift (fun _ _ _ _ => lv_iload hx hb d_Rf_pairOne_50 (lv_at hl 0 rfl)) ?_
      refine fs_Jlet1 (nL := 5) (pj := 80) (I := fun (v13 : Int32) => [(0, .ref a0), (1, .int x1), (3, .int v2)]) (st := fun (v13 : Int32) => [.int v13]) (fun v13 ls hl => ?_) (fun j80 hj80 => ?_)
      · refine fs_liftL (fun _ _ _ _ => lv_istore_n (lv' := [(2, .int v13), (0, .ref a0), (1, .int x1), (3, .int v2)]) hx hb d_Rf_pairOne_80 rfl hl (Nat.le_of_ble_eq_true rfl) rfl) (fun ls hl => ?_)
        refine fs_Jnm (fun v14 hv9 => ?_)
        refine fs_liftL (fun _ _ _ _ => lv_iinc (k := 3) (v := v14) (lv' := [(3, .int v14), (2, .int v13), (0, .ref a0), (1, .int x1)]) hx hb d_Rf_pairOne_81 hl rfl (by rw [hv9]; rfl) (Nat.le_of_ble_eq_true rfl) rfl) (fun ls hl => ?_)
        refine fs_lift (fun _ _ _ _ => lv_goto hx hb d_Rf_pairOne_84 rfl) ?_
        exact hk4 v13 v14 ls (lv_sub hl [2, 3, 1, 0] rfl)
      · refine fs_Jlet1 (nL := 5) (pj := 79) (I := fun (_ : Unit) => [(0, .ref a0), (1, .int x1), (2, .int v1), (3, .int v2)]) (st := fun (_ : Unit) => []) (fun _ ls hl => ?_) (fun j79 hj79 => ?_)
        · refine fs_lift (fun _ _ _ _ => lv_iload_n hx hb d_Rf_pairOne_79 rfl (lv_at hl 2 rfl)) ?_
          exact hj80 v1 ls (lv_sub hl [0, 1, 3] rfl)
        · refine fs_if (fun _ _ _ _ => lv_if_eq hx hb d_Rf_pairOne_52 rfl) ?_ ?_
          · exact hj79 () ls (lv_sub hl [1, 2, 3, 4] rfl)
          · refine fs_lift (fun _ _ _ _ => lv_iload_n hx hb d_Rf_pairOne_55 rfl (lv_at hl 3 rfl)) ?_
            refine fs_Jlet1 (nL := 5) (pj := 75) (I := fun (_ : Unit) => [(0, .ref a0), (1, .int x1), (3, .int v2)]) (st := fun (_ : Unit) => []) (fun _ ls hl => ?_) (fun j75 hj75 => ?_)
            · refine fs_lift (fun _ _ _ _ => lv_iload_n hx hb d_Rf_pairOne_75 rfl (lv_at hl 2 rfl)) ?_
              refine fs_lift (fun _ _ _ _ => lv_goto hx hb d_Rf_pairOne_76 rfl) ?_
              exact hj80 v2 ls (lv_sub hl [0, 1, 2] rfl)
            · refine fs_if (fun _ _ _ _ => lv_if_lt hx hb d_Rf_pairOne_56 rfl) ?_ ?_
              · exact hj75 () ls (lv_sub hl [1, 2, 4] rfl)
              · refine fs_lift (fun _ _ _ _ => lv_aload_n hx hb d_Rf_pairOne_59 rfl (lv_at hl 1 rfl)) ?_
                refine fs_lift (fun _ _ _ _ => lv_iload_n hx hb d_Rf_pairOne_60 rfl (lv_at hl 2 rfl)) ?_
                refine fs_lift (fun _ _ _ _ => lv_iload_n hx hb d_Rf_pairOne_61 rfl (lv_at hl 4 rfl)) ?_
                refine fs_JV S hG hR rfl [.int x1, .int v2] (enc := fun r => some (.long r)) (fun zr zs zt zh => m_Rf_farness X l a0 x1 v2 zh) tw_7_67 tw_7_69 tp_3_10 tw_7_70 tw_1_11 q_Rf_farness ⟨(Nat.le_of_ble_eq_true rfl), (Nat.le_of_ble_eq_true rfl)⟩ hl.1 rfl (Nat.le_of_ble_eq_true rfl) d_Rf_pairOne_62 (fun v11 => ?_)
                refine fs_Jeq (g2 := F0 m 65 ls [.long v11]) rfl ?_
                refine fs_lift (fun _ _ _ _ => lv_aload_n hx hb d_Rf_pairOne_65 rfl (lv_at hl 1 rfl)) ?_
                refine fs_lift (fun _ _ _ _ => lv_iload_n hx hb d_Rf_pairOne_66 rfl (lv_at hl 2 rfl)) ?_
                refine fs_lift (fun _ _ _ _ => lv_iload_n hx hb d_Rf_pairOne_67 rfl (lv_at hl 3 rfl)) ?_
                refine fs_JV S hG hR rfl [.int x1, .int v1] (enc := fun r => some (.long r)) (fun zr zs zt zh => m_Rf_farness X l a0 x1 v1 zh) tw_7_67 tw_7_69 tp_3_10 tw_7_70 tw_1_11 q_Rf_farness ⟨(Nat.le_of_ble_eq_true rfl), (Nat.le_of_ble_eq_true rfl)⟩ hl.1 rfl (Nat.le_of_ble_eq_true rfl) d_Rf_pairOne_68 (fun v12 => ?_)
                refine fs_Jeq (g2 := F0 m 71 ls [.long v12, .long v11]) rfl ?_
                refine fs_lift (fun _ _ _ _ => W.lcmp hx hb d_Rf_pairOne_71) ?_
                refine fs_if (fun _ _ _ _ => lv_if_ge hx hb d_Rf_pairOne_72 rfl) ?_ ?_
                · exact hj79 () ls (lv_sub hl [1, 2, 3, 4] rfl)
                · exact hj75 () ls (lv_sub hl [1, 2, 4] rfl)
    · refine fs_Jlet1 (nL := 5) (pj := 47) (I := fun (_ : Unit) => [(0, .ref a0), (1, .int x1), (2, .int v1), (3, .int v2)]) (st := fun (_ : Unit) => []) (fun _ ls hl => ?_) (fun j47 hj47 => ?_)
      · refine fs_lift (fun _ _ _ _ => lv_iconst (v := 0) hx hb d_Rf_pairOne_47 (by decide)) ?_
        exact hj48 0 ls (lv_sub hl [0, 1, 2, 3] rfl)
      · refine fs_if (fun _ _ _ _ => lv_icmp_eq hx hb d_Rf_pairOne_14 rfl) ?_ ?_
        · exact hj47 () ls (lv_sub hl [0, 1, 2, 3] rfl)
        · refine fs_lift (fun _ _ _ _ => lv_aload_n hx hb d_Rf_pairOne_17 rfl (lv_at hl 0 rfl)) ?_
          refine fs_Jgr S hG fs_in12 rfl 48 (Nat.le_of_ble_eq_true rfl) tw_6_0 (fun _ h9 => h9) d_Rf_pairOne_18 (fun r6 => ?_)
          refine fs_lift (fun _ _ _ _ => lv_iload_n hx hb d_Rf_pairOne_21 rfl (lv_at hl 3 rfl)) ?_
          refine fs_Jai S hG d_Rf_pairOne_22 (fun v7 => ?_)
          refine fs_if (fun _ _ _ _ => lv_if_ge hx hb d_Rf_pairOne_23 rfl) ?_ ?_
          · exact hj47 () ls (lv_sub hl [0, 1, 2, 3] rfl)
          · refine fs_lift (fun _ _ _ _ => lv_aload_n hx hb d_Rf_pairOne_26 rfl (lv_at hl 0 rfl)) ?_
            refine fs_lift (fun _ _ _ _ => lv_iload_n hx hb d_Rf_pairOne_27 rfl (lv_at hl 3 rfl)) ?_
            refine fs_JV S hG hR rfl [.int v2] (enc := fun r => some (.int r)) (fun zr zs zt zh => m_Rf_isWhole X l a0 v2 zh) tw_7_55 tw_7_57 tp_3_7 tw_7_58 tw_1_11 q_Rf_isWhole ⟨(Nat.le_of_ble_eq_true rfl), (Nat.le_of_ble_eq_true rfl)⟩ hl.1 rfl (Nat.le_of_ble_eq_true rfl) d_Rf_pairOne_28 (fun v8 => ?_)
            refine fs_Jeq (g2 := F0 m 31 ls [.int v8]) rfl ?_
            refine fs_if (fun _ _ _ _ => lv_if_eq hx hb d_Rf_pairOne_31 rfl) ?_ ?_
            · exact hj47 () ls (lv_sub hl [0, 1, 2, 3] rfl)
            · refine fs_lift (fun _ _ _ _ => lv_aload_n hx hb d_Rf_pairOne_34 rfl (lv_at hl 0 rfl)) ?_
              refine fs_lift (fun _ _ _ _ => lv_iload_n hx hb d_Rf_pairOne_35 rfl (lv_at hl 1 rfl)) ?_
              refine fs_lift (fun _ _ _ _ => lv_iload_n hx hb d_Rf_pairOne_36 rfl (lv_at hl 3 rfl)) ?_
              refine fs_JV S hG hR rfl [.int x1, .int v2] (enc := fun r => some (.int r)) (fun zr zs zt zh => m_Rf_isBack X l a0 x1 v2 zh) tw_7_63 tw_7_65 tp_3_9 tw_7_66 tw_1_11 q_Rf_isBack ⟨(Nat.le_of_ble_eq_true rfl), (Nat.le_of_ble_eq_true rfl)⟩ hl.1 rfl (Nat.le_of_ble_eq_true rfl) d_Rf_pairOne_37 (fun v9 => ?_)
              refine fs_Jeq (g2 := F0 m 40 ls [.int v9]) rfl ?_
              refine fs_if (fun _ _ _ _ => lv_if_eq hx hb d_Rf_pairOne_40 rfl) ?_ ?_
              · exact hj47 () ls (lv_sub hl [0, 1, 2, 3] rfl)
              · refine fs_lift (fun _ _ _ _ => lv_iconst (v := 1) hx hb d_Rf_pairOne_43 (by decide)) ?_
                refine fs_lift (fun _ _ _ _ => lv_goto hx hb d_Rf_pairOne_44 rfl) ?_
                exact hj48 1 ls (lv_sub hl [0, 1, 2, 3] rfl)

theorem d_Rf_other_0 : decode prog_13_method_52_code 0 = .ok (.aload_n 0, 1) := by decide +kernel
theorem d_Rf_other_1 : decode prog_13_method_52_code 1 = .ok (.iload_n 1, 1) := by decide +kernel
theorem d_Rf_other_2 : decode prog_13_method_52_code 2 = .ok (.ifCond .lt 11, 3) := by decide +kernel
theorem d_Rf_other_5 : decode prog_13_method_52_code 5 = .ok (.iload_n 1, 1) := by decide +kernel
theorem d_Rf_other_6 : decode prog_13_method_52_code 6 = .ok (.aload_n 0, 1) := by decide +kernel
theorem d_Rf_other_7 : decode prog_13_method_52_code 7 = .ok (.getfield 214, 3) := by decide +kernel
theorem d_Rf_other_10 : decode prog_13_method_52_code 10 = .ok (.if_icmp .lt 7, 3) := by decide +kernel
theorem d_Rf_other_13 : decode prog_13_method_52_code 13 = .ok (.iconst 1, 1) := by decide +kernel
theorem d_Rf_other_14 : decode prog_13_method_52_code 14 = .ok (.goto 4, 3) := by decide +kernel
theorem d_Rf_other_17 : decode prog_13_method_52_code 17 = .ok (.iconst 0, 1) := by decide +kernel
theorem d_Rf_other_18 : decode prog_13_method_52_code 18 = .ok (.putfield 138, 3) := by decide +kernel
theorem d_Rf_other_21 : decode prog_13_method_52_code 21 = .ok (.aload_n 0, 1) := by decide +kernel
theorem d_Rf_other_22 : decode prog_13_method_52_code 22 = .ok (.getfield 138, 3) := by decide +kernel
theorem d_Rf_other_25 : decode prog_13_method_52_code 25 = .ok (.ifCond .eq 5, 3) := by decide +kernel
theorem d_Rf_other_28 : decode prog_13_method_52_code 28 = .ok (.iconst 0, 1) := by decide +kernel
theorem d_Rf_other_29 : decode prog_13_method_52_code 29 = .ok (.ireturn, 1) := by decide +kernel
theorem d_Rf_other_30 : decode prog_13_method_52_code 30 = .ok (.iconst 0, 1) := by decide +kernel
theorem d_Rf_other_31 : decode prog_13_method_52_code 31 = .ok (.istore_n 2, 1) := by decide +kernel
theorem d_Rf_other_32 : decode prog_13_method_52_code 32 = .ok (.iload_n 2, 1) := by decide +kernel
theorem d_Rf_other_33 : decode prog_13_method_52_code 33 = .ok (.bipush 80, 2) := by decide +kernel
theorem d_Rf_other_35 : decode prog_13_method_52_code 35 = .ok (.if_icmp .ge 23, 3) := by decide +kernel
theorem d_Rf_other_38 : decode prog_13_method_52_code 38 = .ok (.aload_n 0, 1) := by decide +kernel
theorem d_Rf_other_39 : decode prog_13_method_52_code 39 = .ok (.getfield 132, 3) := by decide +kernel
theorem d_Rf_other_42 : decode prog_13_method_52_code 42 = .ok (.iload_n 2, 1) := by decide +kernel
theorem d_Rf_other_43 : decode prog_13_method_52_code 43 = .ok (.iconst (-1), 1) := by decide +kernel
theorem d_Rf_other_44 : decode prog_13_method_52_code 44 = .ok (.iastore, 1) := by decide +kernel
theorem d_Rf_other_45 : decode prog_13_method_52_code 45 = .ok (.aload_n 0, 1) := by decide +kernel
theorem d_Rf_other_46 : decode prog_13_method_52_code 46 = .ok (.getfield 135, 3) := by decide +kernel
theorem d_Rf_other_49 : decode prog_13_method_52_code 49 = .ok (.iload_n 2, 1) := by decide +kernel
theorem d_Rf_other_50 : decode prog_13_method_52_code 50 = .ok (.iconst 0, 1) := by decide +kernel
theorem d_Rf_other_51 : decode prog_13_method_52_code 51 = .ok (.bastore, 1) := by decide +kernel
theorem d_Rf_other_52 : decode prog_13_method_52_code 52 = .ok (.iinc 2 1, 3) := by decide +kernel
theorem d_Rf_other_55 : decode prog_13_method_52_code 55 = .ok (.goto (-23), 3) := by decide +kernel
theorem d_Rf_other_58 : decode prog_13_method_52_code 58 = .ok (.aload_n 0, 1) := by decide +kernel
theorem d_Rf_other_59 : decode prog_13_method_52_code 59 = .ok (.invokevirtual 266, 3) := by decide +kernel
theorem d_Rf_other_62 : decode prog_13_method_52_code 62 = .ok (.istore_n 2, 1) := by decide +kernel
theorem d_Rf_other_63 : decode prog_13_method_52_code 63 = .ok (.iload_n 2, 1) := by decide +kernel
theorem d_Rf_other_64 : decode prog_13_method_52_code 64 = .ok (.ifCond .lt 32, 3) := by decide +kernel
theorem d_Rf_other_67 : decode prog_13_method_52_code 67 = .ok (.aload_n 0, 1) := by decide +kernel
theorem d_Rf_other_68 : decode prog_13_method_52_code 68 = .ok (.getfield 135, 3) := by decide +kernel
theorem d_Rf_other_71 : decode prog_13_method_52_code 71 = .ok (.iload_n 2, 1) := by decide +kernel
theorem d_Rf_other_72 : decode prog_13_method_52_code 72 = .ok (.iconst 1, 1) := by decide +kernel
theorem d_Rf_other_73 : decode prog_13_method_52_code 73 = .ok (.bastore, 1) := by decide +kernel
theorem d_Rf_other_74 : decode prog_13_method_52_code 74 = .ok (.aload_n 0, 1) := by decide +kernel
theorem d_Rf_other_75 : decode prog_13_method_52_code 75 = .ok (.getfield 132, 3) := by decide +kernel
theorem d_Rf_other_78 : decode prog_13_method_52_code 78 = .ok (.iload_n 2, 1) := by decide +kernel
theorem d_Rf_other_79 : decode prog_13_method_52_code 79 = .ok (.iaload, 1) := by decide +kernel
theorem d_Rf_other_80 : decode prog_13_method_52_code 80 = .ok (.ifCond .ge 8, 3) := by decide +kernel
theorem d_Rf_other_83 : decode prog_13_method_52_code 83 = .ok (.aload_n 0, 1) := by decide +kernel
theorem d_Rf_other_84 : decode prog_13_method_52_code 84 = .ok (.iload_n 2, 1) := by decide +kernel
theorem d_Rf_other_85 : decode prog_13_method_52_code 85 = .ok (.invokevirtual 269, 3) := by decide +kernel
theorem d_Rf_other_88 : decode prog_13_method_52_code 88 = .ok (.aload_n 0, 1) := by decide +kernel
theorem d_Rf_other_89 : decode prog_13_method_52_code 89 = .ok (.invokevirtual 266, 3) := by decide +kernel
theorem d_Rf_other_92 : decode prog_13_method_52_code 92 = .ok (.istore_n 2, 1) := by decide +kernel
theorem d_Rf_other_93 : decode prog_13_method_52_code 93 = .ok (.goto (-30), 3) := by decide +kernel
theorem d_Rf_other_96 : decode prog_13_method_52_code 96 = .ok (.aload_n 0, 1) := by decide +kernel
theorem d_Rf_other_97 : decode prog_13_method_52_code 97 = .ok (.getfield 132, 3) := by decide +kernel
theorem d_Rf_other_100 : decode prog_13_method_52_code 100 = .ok (.iload_n 1, 1) := by decide +kernel
theorem d_Rf_other_101 : decode prog_13_method_52_code 101 = .ok (.iaload, 1) := by decide +kernel
theorem d_Rf_other_102 : decode prog_13_method_52_code 102 = .ok (.ireturn, 1) := by decide +kernel
theorem q_Rf_other : (⟨"FlowShelfModel", "other", "(I)I"⟩ : MethodName).cls ≠ "java/lang/invoke/MethodHandle" ∧ (⟨"FlowShelfModel", "other", "(I)I"⟩ : MethodName).cls ≠ "java/lang/invoke/VarHandle" ∧ (parseMethodDescriptor (⟨"FlowShelfModel", "other", "(I)I"⟩ : MethodName).desc).map (fun d => d.parameters.length) = some 1 := by decide +kernel
set_option maxHeartbeats 4000000 in
set_option maxRecDepth 100000 in
theorem m_Rf_other (X : fs_X) (l : Launch) (a0 : Nat) (x1 : Int32) {r : Int32} {σ σF : fs_S} (h : (f_Rf_other a0 x1).1 σ = some (r, σF)) : fs_Met X l ⟨"FlowShelfModel", "other", "(I)I"⟩ (Cond.code ⟨"FlowShelfModel", "other", "(I)I"⟩ prog_13_method_52_code 3 (some FieldType.int)) 2 48 [.ref a0, .int x1] σ (fs_eI r) σF := by
  refine fs_ofW (by decide) ?_
  intro p e s m args below meth c s₁ B hml hT hv
  obtain ⟨rfl, hw0, hG⟩ := hv
  have hx := B.exec
  have hb := B.bytes
  have hr := B.returns
  have hk := B.notSynchronized
  have S : CallFix p m c prog_13_method_52_code 3 s _ fs_ws "FlowShelfModel" := ⟨B.exec, B.bytes, hml, findClass_of_methodNamed B.named, fun w hw => atoms_spec (ws := _ :: fs_ws) B.pre w (List.mem_cons_of_mem _ hw)⟩
  have hR := fs_hR (fr := 2) (lo := 48) ((f_Rf_other a0 x1).2 _ _ _ h)
  have hl := lv_entry ([.ref a0, .int x1]) (n := 3) (Nat.le_of_ble_eq_true rfl)
  rw [lg_entry_eq]
  generalize (lg_sl ([.ref a0, .int x1]) ++ List.replicate (3 - (lg_sl ([.ref a0, .int x1])).length) Slot.unset).toArray = ls at hl ⊢
  have hl : lv_has ls 3 [(0, .ref a0), (1, .int x1)] := hl
  refine (?_ : fs_J X p l e (fs_rm 2 48 σ σF) s m _ below meth c (fs_Q X below _ s (fs_eI r) σ σF) r σ σF (f_Rf_other a0 x1) (F0 m 0 ls [])) σ s.heap [] 0 0 h hw0 va_S.rf rfl rfl
  clear h hw0
  unfold f_Rf_other
  refine fs_lift (fun _ _ _ _ => lv_aload_n hx hb d_Rf_other_0 rfl (lv_at hl 0 rfl)) ?_
  refine fs_lift (fun _ _ _ _ => lv_iload_n hx hb d_Rf_other_1 rfl (lv_at hl 1 rfl)) ?_
  refine fs_Jlet1 (nL := 3) (pj := 18) (I := fun (v2 : Int32) => [(0, .ref a0), (1, .int x1)]) (st := fun (v2 : Int32) => [.int v2, .ref a0]) (fun v2 ls hl => ?_) (fun j18 hj18 => ?_)
  · refine fs_Jput S hG fs_in12 rfl 0 (Nat.le_of_ble_eq_true rfl) tw_5_192 (fun _ h9 => h9) fs_Y12 fs_ty12 fs_nm12 (Or.inl rfl) rfl rfl d_Rf_other_18 ?_
    refine fs_lift (fun _ _ _ _ => lv_aload_n hx hb d_Rf_other_21 rfl (lv_at hl 0 rfl)) ?_
    refine fs_Jgi S hG fs_in12 rfl 0 (Nat.le_of_ble_eq_true rfl) tw_5_192 (fun _ h9 => h9) d_Rf_other_22 (fun v3 => ?_)
    refine fs_if (fun _ _ _ _ => lv_if_eq hx hb d_Rf_other_25 rfl) ?_ ?_
    · refine fs_lift (fun _ _ _ _ => lv_iconst (v := 0) hx hb d_Rf_other_30 (by decide)) ?_
      refine fs_liftL (fun _ _ _ _ => lv_istore_n (lv' := [(2, .int 0), (0, .ref a0), (1, .int x1)]) hx hb d_Rf_other_31 rfl hl (Nat.le_of_ble_eq_true rfl) rfl) (fun ls hl => ?_)
      refine fs_Jlp1 (nL := 3) (pc := 32) (rest := []) (I := fun (v4 : Int32) => [(0, .ref a0), (1, .int x1), (2, .int v4)]) (fun k32 hk32 v4 ls hl => ?_) _ _ _ (lv_sub hl [1, 2, 0] rfl)
      refine fs_lift (fun _ _ _ _ => lv_iload_n hx hb d_Rf_other_32 rfl (lv_at hl 2 rfl)) ?_
      refine fs_lift (fun _ _ _ _ => lv_bipush (v := 80) hx hb d_Rf_other_33 (by decide)) ?_
      refine fs_if (fun _ _ _ _ => lv_icmp_ge hx hb d_Rf_other_35 rfl) ?_ ?_
      · refine fs_lift (fun _ _ _ _ => lv_aload_n hx hb d_Rf_other_58 rfl (lv_at hl 0 rfl)) ?_
        refine fs_JV S hG hR rfl [] (enc := fun r => some (.int r)) (fun zr zs zt zh => m_Rf_firstLeft X l a0 zh) tw_7_51 tw_7_53 tp_3_6 tw_7_54 tw_1_11 q_Rf_firstLeft ⟨(Nat.le_of_ble_eq_true rfl), (Nat.le_of_ble_eq_true rfl)⟩ hl.1 rfl (Nat.le_of_ble_eq_true rfl) d_Rf_other_59 (fun v5 => ?_)
        refine fs_Jeq (g2 := F0 m 62 ls [.int v5]) rfl ?_
        refine fs_liftL (fun _ _ _ _ => lv_istore_n (lv' := [(2, .int v5), (0, .ref a0), (1, .int x1)]) hx hb d_Rf_other_62 rfl hl (Nat.le_of_ble_eq_true rfl) rfl) (fun ls hl => ?_)
        refine fs_Jlp1 (nL := 3) (pc := 63) (rest := []) (I := fun (v6 : Int32) => [(0, .ref a0), (1, .int x1), (2, .int v6)]) (fun k63 hk63 v6 ls hl => ?_) _ _ _ (lv_sub hl [1, 2, 0] rfl)
        refine fs_lift (fun _ _ _ _ => lv_iload_n hx hb d_Rf_other_63 rfl (lv_at hl 2 rfl)) ?_
        refine fs_if (fun _ _ _ _ => lv_if_lt hx hb d_Rf_other_64 rfl) ?_ ?_
        · refine fs_lift (fun _ _ _ _ => lv_aload_n hx hb d_Rf_other_96 rfl (lv_at hl 0 rfl)) ?_
          refine fs_Jgr S hG fs_in12 rfl 48 (Nat.le_of_ble_eq_true rfl) tw_6_0 (fun _ h9 => h9) d_Rf_other_97 (fun r7 => ?_)
          refine fs_lift (fun _ _ _ _ => lv_iload_n hx hb d_Rf_other_100 rfl (lv_at hl 1 rfl)) ?_
          refine fs_Jai S hG d_Rf_other_101 (fun v8 => ?_)
          exact fs_Jiret S hr hk rfl d_Rf_other_102
        · refine fs_lift (fun _ _ _ _ => lv_aload_n hx hb d_Rf_other_67 rfl (lv_at hl 0 rfl)) ?_
          refine fs_Jgr S hG fs_in12 rfl 49 (Nat.le_of_ble_eq_true rfl) tw_6_1 (fun _ h9 => h9) d_Rf_other_68 (fun r9 => ?_)
          refine fs_lift (fun _ _ _ _ => lv_iload_n hx hb d_Rf_other_71 rfl (lv_at hl 2 rfl)) ?_
          refine fs_lift (fun _ _ _ _ => lv_iconst (v := 1) hx hb d_Rf_other_72 (by decide)) ?_
          refine fs_Jsz S hG d_Rf_other_73 ?_
          refine fs_lift (fun _ _ _ _ => lv_aload_n hx hb d_Rf_other_74 rfl (lv_at hl 0 rfl)) ?_
          refine fs_Jgr S hG fs_in12 rfl 48 (Nat.le_of_ble_eq_true rfl) tw_6_0 (fun _ h9 => h9) d_Rf_other_75 (fun r10 => ?_)
          refine fs_lift (fun _ _ _ _ => lv_iload_n hx hb d_Rf_other_78 rfl (lv_at hl 2 rfl)) ?_
          refine fs_Jai S hG d_Rf_other_79 (fun v11 => ?_)
          refine fs_Jlet1 (nL := 3) (pj := 88) (I := fun (_ : Unit) => [(0, .ref a0), (1, .int x1)]) (st := fun (_ : Unit) => []) (fun _ ls hl => ?_) (fun j88 hj88 => ?_)
          · refine fs_lift (fun _ _ _ _ => lv_aload_n hx hb d_Rf_other_88 rfl (lv_at hl 0 rfl)) ?_
            refine fs_JV S hG hR rfl [] (enc := fun r => some (.int r)) (fun zr zs zt zh => m_Rf_firstLeft X l a0 zh) tw_7_51 tw_7_53 tp_3_6 tw_7_54 tw_1_11 q_Rf_firstLeft ⟨(Nat.le_of_ble_eq_true rfl), (Nat.le_of_ble_eq_true rfl)⟩ hl.1 rfl (Nat.le_of_ble_eq_true rfl) d_Rf_other_89 (fun v12 => ?_)
            refine fs_Jeq (g2 := F0 m 92 ls [.int v12]) rfl ?_
            refine fs_liftL (fun _ _ _ _ => lv_istore_n (lv' := [(2, .int v12), (0, .ref a0), (1, .int x1)]) hx hb d_Rf_other_92 rfl hl (Nat.le_of_ble_eq_true rfl) rfl) (fun ls hl => ?_)
            refine fs_lift (fun _ _ _ _ => lv_goto hx hb d_Rf_other_93 rfl) ?_
            exact hk63 v12 ls (lv_sub hl [1, 2, 0] rfl)
          · refine fs_if (fun _ _ _ _ => lv_if_ge hx hb d_Rf_other_80 rfl) ?_ ?_
            · exact hj88 () ls (lv_sub hl [0, 1] rfl)
            · refine fs_lift (fun _ _ _ _ => lv_aload_n hx hb d_Rf_other_83 rfl (lv_at hl 0 rfl)) ?_
              refine fs_lift (fun _ _ _ _ => lv_iload_n hx hb d_Rf_other_84 rfl (lv_at hl 2 rfl)) ?_
              refine fs_JV S hG hR rfl [.int v6] (enc := fun _ => none) (fun zr zs zt zh => m_Rf_pairOne X l a0 v6 zh) tw_7_59 tw_7_61 tp_3_8 tw_7_62 tw_1_11 q_Rf_pairOne ⟨(Nat.le_of_ble_eq_true rfl), (Nat.le_of_ble_eq_true rfl)⟩ hl.1 rfl (Nat.le_of_ble_eq_true rfl) d_Rf_other_85 (fun _ => ?_)
              refine fs_Jeq (g2 := F0 m 88 ls []) rfl ?_
              exact hj88 () ls (lv_sub hl [0, 1] rfl)
      · refine fs_lift (fun _ _ _ _ => lv_aload_n hx hb d_Rf_other_38 rfl (lv_at hl 0 rfl)) ?_
        refine fs_Jgr S hG fs_in12 rfl 48 (Nat.le_of_ble_eq_true rfl) tw_6_0 (fun _ h9 => h9) d_Rf_other_39 (fun r13 => ?_)
        refine fs_lift (fun _ _ _ _ => lv_iload_n hx hb d_Rf_other_42 rfl (lv_at hl 2 rfl)) ?_
        refine fs_lift (fun _ _ _ _ => lv_iconst (v := (-1)) hx hb d_Rf_other_43 (by decide)) ?_
        refine fs_Jsi S hG d_Rf_other_44 ?_
        refine fs_lift (fun _ _ _ _ => lv_aload_n hx hb d_Rf_other_45 rfl (lv_at hl 0 rfl)) ?_
        refine fs_Jgr S hG fs_in12 rfl 49 (Nat.le_of_ble_eq_true rfl) tw_6_1 (fun _ h9 => h9) d_Rf_other_46 (fun r14 => ?_)
        refine fs_lift (fun _ _ _ _ => lv_iload_n hx hb d_Rf_other_49 rfl (lv_at hl 2 rfl)) ?_
        refine fs_lift (fun _ _ _ _ => lv_iconst (v := 0) hx hb d_Rf_other_50 (by decide)) ?_
        refine fs_Jsz S hG d_Rf_other_51 ?_
        refine fs_Jnm (fun v15 hv9 => ?_)
        refine fs_liftL (fun _ _ _ _ => lv_iinc (k := 2) (v := v15) (lv' := [(2, .int v15), (0, .ref a0), (1, .int x1)]) hx hb d_Rf_other_52 hl rfl (by rw [hv9]; rfl) (Nat.le_of_ble_eq_true rfl) rfl) (fun ls hl => ?_)
        refine fs_lift (fun _ _ _ _ => lv_goto hx hb d_Rf_other_55 rfl) ?_
        exact hk32 v15 ls (lv_sub hl [1, 2, 0] rfl)
    · refine fs_lift (fun _ _ _ _ => lv_iconst (v := 0) hx hb d_Rf_other_28 (by decide)) ?_
      exact fs_Jiret S hr hk rfl d_Rf_other_29
  · refine fs_Jlet1 (nL := 3) (pj := 13) (I := fun (_ : Unit) => [(0, .ref a0), (1, .int x1)]) (st := fun (_ : Unit) => [.ref a0]) (fun _ ls hl => ?_) (fun j13 hj13 => ?_)
    · refine fs_lift (fun _ _ _ _ => lv_iconst (v := 1) hx hb d_Rf_other_13 (by decide)) ?_
      refine fs_lift (fun _ _ _ _ => lv_goto hx hb d_Rf_other_14 rfl) ?_
      exact hj18 1 ls (lv_sub hl [0, 1] rfl)
    · refine fs_if (fun _ _ _ _ => lv_if_lt hx hb d_Rf_other_2 rfl) ?_ ?_
      · exact hj13 () ls (lv_sub hl [0, 1] rfl)
      · refine fs_lift (fun _ _ _ _ => lv_iload_n hx hb d_Rf_other_5 rfl (lv_at hl 1 rfl)) ?_
        refine fs_lift (fun _ _ _ _ => lv_aload_n hx hb d_Rf_other_6 rfl (lv_at hl 0 rfl)) ?_
        refine fs_Jgi S hG fs_in12 rfl 37 (Nat.le_of_ble_eq_true rfl) tw_5_229 (fun _ h9 => h9) d_Rf_other_7 (fun v1 => ?_)
        refine fs_if (fun _ _ _ _ => lv_icmp_lt hx hb d_Rf_other_10 rfl) ?_ ?_
        · refine fs_lift (fun _ _ _ _ => lv_iconst (v := 0) hx hb d_Rf_other_17 (by decide)) ?_
          exact hj18 0 ls (lv_sub hl [0, 1] rfl)
        · exact hj13 () ls (lv_sub hl [0, 1] rfl)

theorem d_Rf_lostOf_0 : decode prog_13_method_53_code 0 = .ok (.iconst 0, 1) := by decide +kernel
theorem d_Rf_lostOf_1 : decode prog_13_method_53_code 1 = .ok (.istore_n 2, 1) := by decide +kernel
theorem d_Rf_lostOf_2 : decode prog_13_method_53_code 2 = .ok (.iconst 0, 1) := by decide +kernel
theorem d_Rf_lostOf_3 : decode prog_13_method_53_code 3 = .ok (.istore_n 3, 1) := by decide +kernel
theorem d_Rf_lostOf_4 : decode prog_13_method_53_code 4 = .ok (.iload_n 3, 1) := by decide +kernel
theorem d_Rf_lostOf_5 : decode prog_13_method_53_code 5 = .ok (.bipush 6, 2) := by decide +kernel
theorem d_Rf_lostOf_7 : decode prog_13_method_53_code 7 = .ok (.if_icmp .ge 98, 3) := by decide +kernel
theorem d_Rf_lostOf_10 : decode prog_13_method_53_code 10 = .ok (.iconst (-1), 1) := by decide +kernel
theorem d_Rf_lostOf_11 : decode prog_13_method_53_code 11 = .ok (.istore 4, 2) := by decide +kernel
theorem d_Rf_lostOf_13 : decode prog_13_method_53_code 13 = .ok (.iconst (-1), 1) := by decide +kernel
theorem d_Rf_lostOf_14 : decode prog_13_method_53_code 14 = .ok (.istore 5, 2) := by decide +kernel
theorem d_Rf_lostOf_16 : decode prog_13_method_53_code 16 = .ok (.iconst 0, 1) := by decide +kernel
theorem d_Rf_lostOf_17 : decode prog_13_method_53_code 17 = .ok (.istore 6, 2) := by decide +kernel
theorem d_Rf_lostOf_19 : decode prog_13_method_53_code 19 = .ok (.iconst 0, 1) := by decide +kernel
theorem d_Rf_lostOf_20 : decode prog_13_method_53_code 20 = .ok (.istore 7, 2) := by decide +kernel
theorem d_Rf_lostOf_22 : decode prog_13_method_53_code 22 = .ok (.iload 7, 2) := by decide +kernel
theorem d_Rf_lostOf_24 : decode prog_13_method_53_code 24 = .ok (.bipush 100, 2) := by decide +kernel
theorem d_Rf_lostOf_26 : decode prog_13_method_53_code 26 = .ok (.if_icmp .ge 51, 3) := by decide +kernel
theorem d_Rf_lostOf_29 : decode prog_13_method_53_code 29 = .ok (.aload_n 0, 1) := by decide +kernel
theorem d_Rf_lostOf_30 : decode prog_13_method_53_code 30 = .ok (.getfield 103, 3) := by decide +kernel
theorem d_Rf_lostOf_33 : decode prog_13_method_53_code 33 = .ok (.sipush 600, 3) := by decide +kernel
theorem d_Rf_lostOf_36 : decode prog_13_method_53_code 36 = .ok (.iload_n 1, 1) := by decide +kernel
theorem d_Rf_lostOf_37 : decode prog_13_method_53_code 37 = .ok (.imul, 1) := by decide +kernel
theorem d_Rf_lostOf_38 : decode prog_13_method_53_code 38 = .ok (.bipush 100, 2) := by decide +kernel
theorem d_Rf_lostOf_40 : decode prog_13_method_53_code 40 = .ok (.iload_n 3, 1) := by decide +kernel
theorem d_Rf_lostOf_41 : decode prog_13_method_53_code 41 = .ok (.imul, 1) := by decide +kernel
theorem d_Rf_lostOf_42 : decode prog_13_method_53_code 42 = .ok (.iadd, 1) := by decide +kernel
theorem d_Rf_lostOf_43 : decode prog_13_method_53_code 43 = .ok (.iload 7, 2) := by decide +kernel
theorem d_Rf_lostOf_45 : decode prog_13_method_53_code 45 = .ok (.iadd, 1) := by decide +kernel
theorem d_Rf_lostOf_46 : decode prog_13_method_53_code 46 = .ok (.baload, 1) := by decide +kernel
theorem d_Rf_lostOf_47 : decode prog_13_method_53_code 47 = .ok (.ifCond .eq 24, 3) := by decide +kernel
theorem d_Rf_lostOf_50 : decode prog_13_method_53_code 50 = .ok (.iload 4, 2) := by decide +kernel
theorem d_Rf_lostOf_52 : decode prog_13_method_53_code 52 = .ok (.ifCond .ge 8, 3) := by decide +kernel
theorem d_Rf_lostOf_55 : decode prog_13_method_53_code 55 = .ok (.iload 7, 2) := by decide +kernel
theorem d_Rf_lostOf_57 : decode prog_13_method_53_code 57 = .ok (.goto 5, 3) := by decide +kernel
theorem d_Rf_lostOf_60 : decode prog_13_method_53_code 60 = .ok (.iload 4, 2) := by decide +kernel
theorem d_Rf_lostOf_62 : decode prog_13_method_53_code 62 = .ok (.istore 4, 2) := by decide +kernel
theorem d_Rf_lostOf_64 : decode prog_13_method_53_code 64 = .ok (.iload 7, 2) := by decide +kernel
theorem d_Rf_lostOf_66 : decode prog_13_method_53_code 66 = .ok (.istore 5, 2) := by decide +kernel
theorem d_Rf_lostOf_68 : decode prog_13_method_53_code 68 = .ok (.iinc 6 1, 3) := by decide +kernel
theorem d_Rf_lostOf_71 : decode prog_13_method_53_code 71 = .ok (.iinc 7 1, 3) := by decide +kernel
theorem d_Rf_lostOf_74 : decode prog_13_method_53_code 74 = .ok (.goto (-52), 3) := by decide +kernel
theorem d_Rf_lostOf_77 : decode prog_13_method_53_code 77 = .ok (.iload_n 2, 1) := by decide +kernel
theorem d_Rf_lostOf_78 : decode prog_13_method_53_code 78 = .ok (.iload 6, 2) := by decide +kernel
theorem d_Rf_lostOf_80 : decode prog_13_method_53_code 80 = .ok (.ifCond .ne 7, 3) := by decide +kernel
theorem d_Rf_lostOf_83 : decode prog_13_method_53_code 83 = .ok (.iconst 0, 1) := by decide +kernel
theorem d_Rf_lostOf_84 : decode prog_13_method_53_code 84 = .ok (.goto 13, 3) := by decide +kernel
theorem d_Rf_lostOf_87 : decode prog_13_method_53_code 87 = .ok (.iload 5, 2) := by decide +kernel
theorem d_Rf_lostOf_89 : decode prog_13_method_53_code 89 = .ok (.iload 4, 2) := by decide +kernel
theorem d_Rf_lostOf_91 : decode prog_13_method_53_code 91 = .ok (.isub, 1) := by decide +kernel
theorem d_Rf_lostOf_92 : decode prog_13_method_53_code 92 = .ok (.iconst 1, 1) := by decide +kernel
theorem d_Rf_lostOf_93 : decode prog_13_method_53_code 93 = .ok (.iadd, 1) := by decide +kernel
theorem d_Rf_lostOf_94 : decode prog_13_method_53_code 94 = .ok (.iload 6, 2) := by decide +kernel
theorem d_Rf_lostOf_96 : decode prog_13_method_53_code 96 = .ok (.isub, 1) := by decide +kernel
theorem d_Rf_lostOf_97 : decode prog_13_method_53_code 97 = .ok (.iadd, 1) := by decide +kernel
theorem d_Rf_lostOf_98 : decode prog_13_method_53_code 98 = .ok (.istore_n 2, 1) := by decide +kernel
theorem d_Rf_lostOf_99 : decode prog_13_method_53_code 99 = .ok (.iinc 3 1, 3) := by decide +kernel
theorem d_Rf_lostOf_102 : decode prog_13_method_53_code 102 = .ok (.goto (-98), 3) := by decide +kernel
theorem d_Rf_lostOf_105 : decode prog_13_method_53_code 105 = .ok (.iload_n 2, 1) := by decide +kernel
theorem d_Rf_lostOf_106 : decode prog_13_method_53_code 106 = .ok (.ireturn, 1) := by decide +kernel
theorem q_Rf_lostOf : (⟨"FlowShelfModel", "lostOf", "(I)I"⟩ : MethodName).cls ≠ "java/lang/invoke/MethodHandle" ∧ (⟨"FlowShelfModel", "lostOf", "(I)I"⟩ : MethodName).cls ≠ "java/lang/invoke/VarHandle" ∧ (parseMethodDescriptor (⟨"FlowShelfModel", "lostOf", "(I)I"⟩ : MethodName).desc).map (fun d => d.parameters.length) = some 1 := by decide +kernel
set_option maxHeartbeats 4000000 in
set_option maxRecDepth 100000 in
theorem m_Rf_lostOf (X : fs_X) (l : Launch) (a0 : Nat) (x1 : Int32) {r : Int32} {σ σF : fs_S} (h : (f_Rf_lostOf a0 x1).1 σ = some (r, σF)) : fs_Met X l ⟨"FlowShelfModel", "lostOf", "(I)I"⟩ (Cond.code ⟨"FlowShelfModel", "lostOf", "(I)I"⟩ prog_13_method_53_code 8 (some FieldType.int)) 0 0 [.ref a0, .int x1] σ (fs_eI r) σF := by
  refine fs_ofW (by decide) ?_
  intro p e s m args below meth c s₁ B hml hT hv
  obtain ⟨rfl, hw0, hG⟩ := hv
  have hx := B.exec
  have hb := B.bytes
  have hr := B.returns
  have hk := B.notSynchronized
  have S : CallFix p m c prog_13_method_53_code 8 s _ fs_ws "FlowShelfModel" := ⟨B.exec, B.bytes, hml, findClass_of_methodNamed B.named, fun w hw => atoms_spec (ws := _ :: fs_ws) B.pre w (List.mem_cons_of_mem _ hw)⟩
  have hR := fs_hR (fr := 0) (lo := 0) ((f_Rf_lostOf a0 x1).2 _ _ _ h)
  have hl := lv_entry ([.ref a0, .int x1]) (n := 8) (Nat.le_of_ble_eq_true rfl)
  rw [lg_entry_eq]
  generalize (lg_sl ([.ref a0, .int x1]) ++ List.replicate (8 - (lg_sl ([.ref a0, .int x1])).length) Slot.unset).toArray = ls at hl ⊢
  have hl : lv_has ls 8 [(0, .ref a0), (1, .int x1)] := hl
  refine (?_ : fs_J X p l e (fs_rm 0 0 σ σF) s m _ below meth c (fs_Q X below _ s (fs_eI r) σ σF) r σ σF (f_Rf_lostOf a0 x1) (F0 m 0 ls [])) σ s.heap [] 0 0 h hw0 va_S.rf rfl rfl
  clear h hw0
  unfold f_Rf_lostOf
  refine fs_lift (fun _ _ _ _ => lv_iconst (v := 0) hx hb d_Rf_lostOf_0 (by decide)) ?_
  refine fs_liftL (fun _ _ _ _ => lv_istore_n (lv' := [(2, .int 0), (0, .ref a0), (1, .int x1)]) hx hb d_Rf_lostOf_1 rfl hl (Nat.le_of_ble_eq_true rfl) rfl) (fun ls hl => ?_)
  refine fs_lift (fun _ _ _ _ => lv_iconst (v := 0) hx hb d_Rf_lostOf_2 (by decide)) ?_
  refine fs_liftL (fun _ _ _ _ => lv_istore_n (lv' := [(3, .int 0), (2, .int 0), (0, .ref a0), (1, .int x1)]) hx hb d_Rf_lostOf_3 rfl hl (Nat.le_of_ble_eq_true rfl) rfl) (fun ls hl => ?_)
  refine fs_Jlp2 (nL := 8) (pc := 4) (rest := []) (I := fun (v1 : Int32) (v2 : Int32) => [(0, .ref a0), (1, .int x1), (2, .int v1), (3, .int v2)]) (fun k4 hk4 v1 v2 ls hl => ?_) _ _ _ _ (lv_sub hl [2, 3, 1, 0] rfl)
  refine fs_lift (fun _ _ _ _ => lv_iload_n hx hb d_Rf_lostOf_4 rfl (lv_at hl 3 rfl)) ?_
  refine fs_lift (fun _ _ _ _ => lv_bipush (v := 6) hx hb d_Rf_lostOf_5 (by decide)) ?_
  refine fs_if (fun _ _ _ _ => lv_icmp_ge hx hb d_Rf_lostOf_7 rfl) ?_ ?_
  · refine fs_lift (fun _ _ _ _ => lv_iload_n hx hb d_Rf_lostOf_105 rfl (lv_at hl 2 rfl)) ?_
    exact fs_Jiret S hr hk rfl d_Rf_lostOf_106
  · refine fs_lift (fun _ _ _ _ => lv_iconst (v := (-1)) hx hb d_Rf_lostOf_10 (by decide)) ?_
    refine fs_liftL (fun _ _ _ _ => lv_istore (lv' := [(4, .int (-1)), (0, .ref a0), (1, .int x1), (2, .int v1), (3, .int v2)]) hx hb d_Rf_lostOf_11 hl (Nat.le_of_ble_eq_true rfl) rfl) (fun ls hl => ?_)
    refine fs_lift (fun _ _ _ _ => lv_iconst (v := (-1)) hx hb d_Rf_lostOf_13 (by decide)) ?_
    refine fs_liftL (fun _ _ _ _ => lv_istore (lv' := [(5, .int (-1)), (4, .int (-1)), (0, .ref a0), (1, .int x1), (2, .int v1), (3, .int v2)]) hx hb d_Rf_lostOf_14 hl (Nat.le_of_ble_eq_true rfl) rfl) (fun ls hl => ?_)
    refine fs_lift (fun _ _ _ _ => lv_iconst (v := 0) hx hb d_Rf_lostOf_16 (by decide)) ?_
    refine fs_liftL (fun _ _ _ _ => lv_istore (lv' := [(6, .int 0), (5, .int (-1)), (4, .int (-1)), (0, .ref a0), (1, .int x1), (2, .int v1), (3, .int v2)]) hx hb d_Rf_lostOf_17 hl (Nat.le_of_ble_eq_true rfl) rfl) (fun ls hl => ?_)
    refine fs_lift (fun _ _ _ _ => lv_iconst (v := 0) hx hb d_Rf_lostOf_19 (by decide)) ?_
    refine fs_liftL (fun _ _ _ _ => lv_istore (lv' := [(7, .int 0), (6, .int 0), (5, .int (-1)), (4, .int (-1)), (0, .ref a0), (1, .int x1), (2, .int v1), (3, .int v2)]) hx hb d_Rf_lostOf_20 hl (Nat.le_of_ble_eq_true rfl) rfl) (fun ls hl => ?_)
    refine fs_Jlp4 (nL := 8) (pc := 22) (rest := []) (I := fun (v3 : Int32) (v4 : Int32) (v5 : Int32) (v6 : Int32) => [(0, .ref a0), (1, .int x1), (2, .int v1), (3, .int v2), (4, .int v3), (5, .int v4), (6, .int v5), (7, .int v6)]) (fun k22 hk22 v3 v4 v5 v6 ls hl => ?_) _ _ _ _ _ _ (lv_sub hl [4, 5, 6, 7, 3, 2, 1, 0] rfl)
    refine fs_lift (fun _ _ _ _ => lv_iload hx hb d_Rf_lostOf_22 (lv_at hl 7 rfl)) ?_
    refine fs_lift (fun _ _ _ _ => lv_bipush (v := 100) hx hb d_Rf_lostOf_24 (by decide)) ?_
    refine fs_if (fun _ _ _ _ => lv_icmp_ge hx hb d_Rf_lostOf_26 rfl) ?_ ?_
    · refine fs_lift (fun _ _ _ _ => lv_iload_n hx hb d_Rf_lostOf_77 rfl (lv_at hl 2 rfl)) ?_
      refine fs_lift (fun _ _ _ _ => lv_iload hx hb d_Rf_lostOf_78 (lv_at hl 6 rfl)) ?_
      refine fs_Jlet1 (nL := 8) (pj := 97) (I := fun (v7 : Int32) => [(0, .ref a0), (1, .int x1), (3, .int v2)]) (st := fun (v7 : Int32) => [.int v7, .int v1]) (fun v7 ls hl => ?_) (fun j97 hj97 => ?_)
      · refine fs_lift (fun _ _ _ _ => lv_iadd hx hb d_Rf_lostOf_97) ?_
        refine fs_Jni (fun v8 => ?_)
        refine fs_liftL (fun _ _ _ _ => lv_istore_n (lv' := [(2, .int v8), (0, .ref a0), (1, .int x1), (3, .int v2)]) hx hb d_Rf_lostOf_98 rfl hl (Nat.le_of_ble_eq_true rfl) rfl) (fun ls hl => ?_)
        refine fs_Jnm (fun v9 hv9 => ?_)
        refine fs_liftL (fun _ _ _ _ => lv_iinc (k := 3) (v := v9) (lv' := [(3, .int v9), (2, .int v8), (0, .ref a0), (1, .int x1)]) hx hb d_Rf_lostOf_99 hl rfl (by rw [hv9]; rfl) (Nat.le_of_ble_eq_true rfl) rfl) (fun ls hl => ?_)
        refine fs_lift (fun _ _ _ _ => lv_goto hx hb d_Rf_lostOf_102 rfl) ?_
        exact hk4 v8 v9 ls (lv_sub hl [2, 3, 1, 0] rfl)
      · refine fs_ifn (fun _ _ _ _ => lv_if_ne hx hb d_Rf_lostOf_80 rfl) ?_ ?_
        · refine fs_lift (fun _ _ _ _ => lv_iconst (v := 0) hx hb d_Rf_lostOf_83 (by decide)) ?_
          refine fs_lift (fun _ _ _ _ => lv_goto hx hb d_Rf_lostOf_84 rfl) ?_
          exact hj97 0 ls (lv_sub hl [0, 1, 3] rfl)
        · refine fs_lift (fun _ _ _ _ => lv_iload hx hb d_Rf_lostOf_87 (lv_at hl 5 rfl)) ?_
          refine fs_lift (fun _ _ _ _ => lv_iload hx hb d_Rf_lostOf_89 (lv_at hl 4 rfl)) ?_
          refine fs_lift (fun _ _ _ _ => lv_isub hx hb d_Rf_lostOf_91) ?_
          refine fs_lift (fun _ _ _ _ => lv_iconst (v := 1) hx hb d_Rf_lostOf_92 (by decide)) ?_
          refine fs_lift (fun _ _ _ _ => lv_iadd hx hb d_Rf_lostOf_93) ?_
          refine fs_lift (fun _ _ _ _ => lv_iload hx hb d_Rf_lostOf_94 (lv_at hl 6 rfl)) ?_
          refine fs_lift (fun _ _ _ _ => lv_isub hx hb d_Rf_lostOf_96) ?_
          exact hj97 (((v4 - v3) + 1) - v5) ls (lv_sub hl [0, 1, 3] rfl)
    · refine fs_lift (fun _ _ _ _ => lv_aload_n hx hb d_Rf_lostOf_29 rfl (lv_at hl 0 rfl)) ?_
      refine fs_Jgr S hG fs_in12 rfl 36 (Nat.le_of_ble_eq_true rfl) tw_5_228 (fun _ h9 => h9) d_Rf_lostOf_30 (fun r10 => ?_)
      refine fs_lift (fun _ _ _ _ => lv_sipush (v := 600) hx hb d_Rf_lostOf_33 (by decide)) ?_
      refine fs_lift (fun _ _ _ _ => lv_iload_n hx hb d_Rf_lostOf_36 rfl (lv_at hl 1 rfl)) ?_
      refine fs_lift (fun _ _ _ _ => lv_imul hx hb d_Rf_lostOf_37) ?_
      refine fs_lift (fun _ _ _ _ => lv_bipush (v := 100) hx hb d_Rf_lostOf_38 (by decide)) ?_
      refine fs_lift (fun _ _ _ _ => lv_iload_n hx hb d_Rf_lostOf_40 rfl (lv_at hl 3 rfl)) ?_
      refine fs_lift (fun _ _ _ _ => lv_imul hx hb d_Rf_lostOf_41) ?_
      refine fs_lift (fun _ _ _ _ => lv_iadd hx hb d_Rf_lostOf_42) ?_
      refine fs_lift (fun _ _ _ _ => lv_iload hx hb d_Rf_lostOf_43 (lv_at hl 7 rfl)) ?_
      refine fs_lift (fun _ _ _ _ => lv_iadd hx hb d_Rf_lostOf_45) ?_
      refine fs_Jaz S hG d_Rf_lostOf_46 (fun v11 => ?_)
      refine fs_Jlet3 (nL := 8) (pj := 71) (I := fun (v14 : Int32) (v15 : Int32) (v16 : Int32) => [(0, .ref a0), (1, .int x1), (2, .int v1), (3, .int v2), (4, .int v14), (5, .int v15), (6, .int v16), (7, .int v6)]) (st := fun (v14 : Int32) (v15 : Int32) (v16 : Int32) => []) (fun v14 v15 v16 ls hl => ?_) (fun j71 hj71 => ?_)
      · refine fs_Jnm (fun v17 hv9 => ?_)
        refine fs_liftL (fun _ _ _ _ => lv_iinc (k := 7) (v := v17) (lv' := [(7, .int v17), (0, .ref a0), (1, .int x1), (2, .int v1), (3, .int v2), (4, .int v14), (5, .int v15), (6, .int v16)]) hx hb d_Rf_lostOf_71 hl rfl (by rw [hv9]; rfl) (Nat.le_of_ble_eq_true rfl) rfl) (fun ls hl => ?_)
        refine fs_lift (fun _ _ _ _ => lv_goto hx hb d_Rf_lostOf_74 rfl) ?_
        exact hk22 v14 v15 v16 v17 ls (lv_sub hl [1, 2, 3, 4, 5, 6, 7, 0] rfl)
      · refine fs_if (fun _ _ _ _ => lv_if_eq hx hb d_Rf_lostOf_47 rfl) ?_ ?_
        · exact hj71 v3 v4 v5 ls (lv_sub hl [0, 1, 2, 3, 4, 5, 6, 7] rfl)
        · refine fs_lift (fun _ _ _ _ => lv_iload hx hb d_Rf_lostOf_50 (lv_at hl 4 rfl)) ?_
          refine fs_Jlet1 (nL := 8) (pj := 62) (I := fun (v12 : Int32) => [(0, .ref a0), (1, .int x1), (2, .int v1), (3, .int v2), (6, .int v5), (7, .int v6)]) (st := fun (v12 : Int32) => [.int v12]) (fun v12 ls hl => ?_) (fun j62 hj62 => ?_)
          · refine fs_liftL (fun _ _ _ _ => lv_istore (lv' := [(4, .int v12), (0, .ref a0), (1, .int x1), (2, .int v1), (3, .int v2), (6, .int v5), (7, .int v6)]) hx hb d_Rf_lostOf_62 hl (Nat.le_of_ble_eq_true rfl) rfl) (fun ls hl => ?_)
            refine fs_lift (fun _ _ _ _ => lv_iload hx hb d_Rf_lostOf_64 (lv_at hl 6 rfl)) ?_
            refine fs_liftL (fun _ _ _ _ => lv_istore (lv' := [(5, .int v6), (4, .int v12), (0, .ref a0), (1, .int x1), (2, .int v1), (3, .int v2), (6, .int v5), (7, .int v6)]) hx hb d_Rf_lostOf_66 hl (Nat.le_of_ble_eq_true rfl) rfl) (fun ls hl => ?_)
            refine fs_Jnm (fun v13 hv9 => ?_)
            refine fs_liftL (fun _ _ _ _ => lv_iinc (k := 6) (v := v13) (lv' := [(6, .int v13), (5, .int v6), (4, .int v12), (0, .ref a0), (1, .int x1), (2, .int v1), (3, .int v2), (7, .int v6)]) hx hb d_Rf_lostOf_68 hl rfl (by rw [hv9]; rfl) (Nat.le_of_ble_eq_true rfl) rfl) (fun ls hl => ?_)
            exact hj71 v12 v6 v13 ls (lv_sub hl [3, 4, 5, 6, 2, 1, 0, 7] rfl)
          · refine fs_if (fun _ _ _ _ => lv_if_ge hx hb d_Rf_lostOf_52 rfl) ?_ ?_
            · refine fs_lift (fun _ _ _ _ => lv_iload hx hb d_Rf_lostOf_60 (lv_at hl 4 rfl)) ?_
              exact hj62 v3 ls (lv_sub hl [0, 1, 2, 3, 6, 7] rfl)
            · refine fs_lift (fun _ _ _ _ => lv_iload hx hb d_Rf_lostOf_55 (lv_at hl 7 rfl)) ?_
              refine fs_lift (fun _ _ _ _ => lv_goto hx hb d_Rf_lostOf_57 rfl) ?_
              exact hj62 v6 ls (lv_sub hl [0, 1, 2, 3, 6, 7] rfl)

