/-! contracts of methods, walked by program -/
theorem d_Rf_last_0 : decode prog_13_method_21_code 0 = .ok (.iconst (-1), 1) := by decide +kernel
theorem d_Rf_last_1 : decode prog_13_method_21_code 1 = .ok (.istore_n 2, 1) := by decide +kernel
theorem d_Rf_last_2 : decode prog_13_method_21_code 2 = .ok (.iconst 3, 1) := by decide +kernel
theorem d_Rf_last_3 : decode prog_13_method_21_code 3 = .ok (.iload_n 1, 1) := by decide +kernel
theorem d_Rf_last_4 : decode prog_13_method_21_code 4 = .ok (.imul, 1) := by decide +kernel
theorem d_Rf_last_5 : decode prog_13_method_21_code 5 = .ok (.istore_n 3, 1) := by decide +kernel
theorem d_Rf_last_6 : decode prog_13_method_21_code 6 = .ok (.iload_n 3, 1) := by decide +kernel
theorem d_Rf_last_7 : decode prog_13_method_21_code 7 = .ok (.iconst 3, 1) := by decide +kernel
theorem d_Rf_last_8 : decode prog_13_method_21_code 8 = .ok (.iload_n 1, 1) := by decide +kernel
theorem d_Rf_last_9 : decode prog_13_method_21_code 9 = .ok (.imul, 1) := by decide +kernel
theorem d_Rf_last_10 : decode prog_13_method_21_code 10 = .ok (.iconst 3, 1) := by decide +kernel
theorem d_Rf_last_11 : decode prog_13_method_21_code 11 = .ok (.iadd, 1) := by decide +kernel
theorem d_Rf_last_12 : decode prog_13_method_21_code 12 = .ok (.if_icmp .ge 43, 3) := by decide +kernel
theorem d_Rf_last_15 : decode prog_13_method_21_code 15 = .ok (.aload_n 0, 1) := by decide +kernel
theorem d_Rf_last_16 : decode prog_13_method_21_code 16 = .ok (.getfield 64, 3) := by decide +kernel
theorem d_Rf_last_19 : decode prog_13_method_21_code 19 = .ok (.iload_n 3, 1) := by decide +kernel
theorem d_Rf_last_20 : decode prog_13_method_21_code 20 = .ok (.iaload, 1) := by decide +kernel
theorem d_Rf_last_21 : decode prog_13_method_21_code 21 = .ok (.ifCond .le 26, 3) := by decide +kernel
theorem d_Rf_last_24 : decode prog_13_method_21_code 24 = .ok (.iload_n 2, 1) := by decide +kernel
theorem d_Rf_last_25 : decode prog_13_method_21_code 25 = .ok (.ifCond .lt 18, 3) := by decide +kernel
theorem d_Rf_last_28 : decode prog_13_method_21_code 28 = .ok (.aload_n 0, 1) := by decide +kernel
theorem d_Rf_last_29 : decode prog_13_method_21_code 29 = .ok (.getfield 76, 3) := by decide +kernel
theorem d_Rf_last_32 : decode prog_13_method_21_code 32 = .ok (.iload_n 3, 1) := by decide +kernel
theorem d_Rf_last_33 : decode prog_13_method_21_code 33 = .ok (.iaload, 1) := by decide +kernel
theorem d_Rf_last_34 : decode prog_13_method_21_code 34 = .ok (.aload_n 0, 1) := by decide +kernel
theorem d_Rf_last_35 : decode prog_13_method_21_code 35 = .ok (.getfield 76, 3) := by decide +kernel
theorem d_Rf_last_38 : decode prog_13_method_21_code 38 = .ok (.iload_n 2, 1) := by decide +kernel
theorem d_Rf_last_39 : decode prog_13_method_21_code 39 = .ok (.iaload, 1) := by decide +kernel
theorem d_Rf_last_40 : decode prog_13_method_21_code 40 = .ok (.if_icmp .le 7, 3) := by decide +kernel
theorem d_Rf_last_43 : decode prog_13_method_21_code 43 = .ok (.iload_n 3, 1) := by decide +kernel
theorem d_Rf_last_44 : decode prog_13_method_21_code 44 = .ok (.goto 4, 3) := by decide +kernel
theorem d_Rf_last_47 : decode prog_13_method_21_code 47 = .ok (.iload_n 2, 1) := by decide +kernel
theorem d_Rf_last_48 : decode prog_13_method_21_code 48 = .ok (.istore_n 2, 1) := by decide +kernel
theorem d_Rf_last_49 : decode prog_13_method_21_code 49 = .ok (.iinc 3 1, 3) := by decide +kernel
theorem d_Rf_last_52 : decode prog_13_method_21_code 52 = .ok (.goto (-46), 3) := by decide +kernel
theorem d_Rf_last_55 : decode prog_13_method_21_code 55 = .ok (.iload_n 2, 1) := by decide +kernel
theorem d_Rf_last_56 : decode prog_13_method_21_code 56 = .ok (.ireturn, 1) := by decide +kernel
theorem q_Rf_last : (⟨"FlowShelfModel", "last", "(I)I"⟩ : MethodName).cls ≠ "java/lang/invoke/MethodHandle" ∧ (⟨"FlowShelfModel", "last", "(I)I"⟩ : MethodName).cls ≠ "java/lang/invoke/VarHandle" ∧ (parseMethodDescriptor (⟨"FlowShelfModel", "last", "(I)I"⟩ : MethodName).desc).map (fun d => d.parameters.length) = some 1 := by decide +kernel
set_option maxHeartbeats 4000000 in
set_option maxRecDepth 100000 in
theorem m_Rf_last (X : fs_X) (l : Launch) (a0 : Nat) (x1 : Int32) {r : Int32} {σ σF : fs_S} (h : (f_Rf_last a0 x1).1 σ = some (r, σF)) : fs_Met X l ⟨"FlowShelfModel", "last", "(I)I"⟩ (Cond.code ⟨"FlowShelfModel", "last", "(I)I"⟩ prog_13_method_21_code 4 (some FieldType.int)) 0 0 [.ref a0, .int x1] σ (fs_eI r) σF := by
  refine fs_ofW (by decide) ?_
  intro p e s m args below meth c s₁ B hml hT hv
  obtain ⟨rfl, hw0, hG⟩ := hv
  have hx := B.exec
  have hb := B.bytes
  have hr := B.returns
  have hk := B.notSynchronized
  have S : CallFix p m c prog_13_method_21_code 4 s _ fs_ws "FlowShelfModel" := ⟨B.exec, B.bytes, hml, findClass_of_methodNamed B.named, fun w hw => atoms_spec (ws := _ :: fs_ws) B.pre w (List.mem_cons_of_mem _ hw)⟩
  have hR := fs_hR (fr := 0) (lo := 0) ((f_Rf_last a0 x1).2 _ _ _ h)
  have hl := lv_entry ([.ref a0, .int x1]) (n := 4) (Nat.le_of_ble_eq_true rfl)
  rw [lg_entry_eq]
  generalize (lg_sl ([.ref a0, .int x1]) ++ List.replicate (4 - (lg_sl ([.ref a0, .int x1])).length) Slot.unset).toArray = ls at hl ⊢
  have hl : lv_has ls 4 [(0, .ref a0), (1, .int x1)] := hl
  refine (?_ : fs_J X p l e (fs_rm 0 0 σ σF) s m _ below meth c (fs_Q X below _ s (fs_eI r) σ σF) r σ σF (f_Rf_last a0 x1) (F0 m 0 ls [])) σ s.heap [] 0 0 h hw0 va_S.rf rfl rfl
  clear h hw0
  unfold f_Rf_last
  refine fs_lift (fun _ _ _ _ => lv_iconst (v := (-1)) hx hb d_Rf_last_0 (by decide)) ?_
  refine fs_liftL (fun _ _ _ _ => lv_istore_n (lv' := [(2, .int (-1)), (0, .ref a0), (1, .int x1)]) hx hb d_Rf_last_1 rfl hl (Nat.le_of_ble_eq_true rfl) rfl) (fun ls hl => ?_)
  refine fs_lift (fun _ _ _ _ => lv_iconst (v := 3) hx hb d_Rf_last_2 (by decide)) ?_
  refine fs_lift (fun _ _ _ _ => lv_iload_n hx hb d_Rf_last_3 rfl (lv_at hl 2 rfl)) ?_
  refine fs_lift (fun _ _ _ _ => lv_imul hx hb d_Rf_last_4) ?_
  refine fs_Jni (fun v1 => ?_)
  refine fs_liftL (fun _ _ _ _ => lv_istore_n (lv' := [(3, .int v1), (2, .int (-1)), (0, .ref a0), (1, .int x1)]) hx hb d_Rf_last_5 rfl hl (Nat.le_of_ble_eq_true rfl) rfl) (fun ls hl => ?_)
  refine fs_Jlp2 (nL := 4) (pc := 6) (rest := []) (I := fun (v2 : Int32) (v3 : Int32) => [(0, .ref a0), (1, .int x1), (2, .int v2), (3, .int v3)]) (fun k6 hk6 v2 v3 ls hl => ?_) _ _ _ _ (lv_sub hl [2, 3, 1, 0] rfl)
  refine fs_lift (fun _ _ _ _ => lv_iload_n hx hb d_Rf_last_6 rfl (lv_at hl 3 rfl)) ?_
  refine fs_lift (fun _ _ _ _ => lv_iconst (v := 3) hx hb d_Rf_last_7 (by decide)) ?_
  refine fs_lift (fun _ _ _ _ => lv_iload_n hx hb d_Rf_last_8 rfl (lv_at hl 1 rfl)) ?_
  refine fs_lift (fun _ _ _ _ => lv_imul hx hb d_Rf_last_9) ?_
  refine fs_lift (fun _ _ _ _ => lv_iconst (v := 3) hx hb d_Rf_last_10 (by decide)) ?_
  refine fs_lift (fun _ _ _ _ => lv_iadd hx hb d_Rf_last_11) ?_
  refine fs_if (fun _ _ _ _ => lv_icmp_ge hx hb d_Rf_last_12 rfl) ?_ ?_
  · refine fs_lift (fun _ _ _ _ => lv_iload_n hx hb d_Rf_last_55 rfl (lv_at hl 2 rfl)) ?_
    exact fs_Jiret S hr hk rfl d_Rf_last_56
  · refine fs_lift (fun _ _ _ _ => lv_aload_n hx hb d_Rf_last_15 rfl (lv_at hl 0 rfl)) ?_
    refine fs_Jgr S hG fs_in12 rfl 19 (Nat.le_of_ble_eq_true rfl) tw_5_211 (fun _ h9 => h9) d_Rf_last_16 (fun r4 => ?_)
    refine fs_lift (fun _ _ _ _ => lv_iload_n hx hb d_Rf_last_19 rfl (lv_at hl 3 rfl)) ?_
    refine fs_Jai S hG d_Rf_last_20 (fun v5 => ?_)
    refine fs_Jlet1 (nL := 4) (pj := 48) (I := fun (v10 : Int32) => [(0, .ref a0), (1, .int x1), (3, .int v3)]) (st := fun (v10 : Int32) => [.int v10]) (fun v10 ls hl => ?_) (fun j48 hj48 => ?_)
    · refine fs_liftL (fun _ _ _ _ => lv_istore_n (lv' := [(2, .int v10), (0, .ref a0), (1, .int x1), (3, .int v3)]) hx hb d_Rf_last_48 rfl hl (Nat.le_of_ble_eq_true rfl) rfl) (fun ls hl => ?_)
      refine fs_Jnm (fun v11 hv9 => ?_)
      refine fs_liftL (fun _ _ _ _ => lv_iinc (k := 3) (v := v11) (lv' := [(3, .int v11), (2, .int v10), (0, .ref a0), (1, .int x1)]) hx hb d_Rf_last_49 hl rfl (by rw [hv9]; rfl) (Nat.le_of_ble_eq_true rfl) rfl) (fun ls hl => ?_)
      refine fs_lift (fun _ _ _ _ => lv_goto hx hb d_Rf_last_52 rfl) ?_
      exact hk6 v10 v11 ls (lv_sub hl [2, 3, 1, 0] rfl)
    · refine fs_Jlet1 (nL := 4) (pj := 47) (I := fun (_ : Unit) => [(0, .ref a0), (1, .int x1), (2, .int v2), (3, .int v3)]) (st := fun (_ : Unit) => []) (fun _ ls hl => ?_) (fun j47 hj47 => ?_)
      · refine fs_lift (fun _ _ _ _ => lv_iload_n hx hb d_Rf_last_47 rfl (lv_at hl 2 rfl)) ?_
        exact hj48 v2 ls (lv_sub hl [0, 1, 3] rfl)
      · refine fs_if (fun _ _ _ _ => lv_if_le hx hb d_Rf_last_21 rfl) ?_ ?_
        · exact hj47 () ls (lv_sub hl [0, 1, 2, 3] rfl)
        · refine fs_lift (fun _ _ _ _ => lv_iload_n hx hb d_Rf_last_24 rfl (lv_at hl 2 rfl)) ?_
          refine fs_Jlet1 (nL := 4) (pj := 43) (I := fun (_ : Unit) => [(0, .ref a0), (1, .int x1), (3, .int v3)]) (st := fun (_ : Unit) => []) (fun _ ls hl => ?_) (fun j43 hj43 => ?_)
          · refine fs_lift (fun _ _ _ _ => lv_iload_n hx hb d_Rf_last_43 rfl (lv_at hl 2 rfl)) ?_
            refine fs_lift (fun _ _ _ _ => lv_goto hx hb d_Rf_last_44 rfl) ?_
            exact hj48 v3 ls (lv_sub hl [0, 1, 2] rfl)
          · refine fs_if (fun _ _ _ _ => lv_if_lt hx hb d_Rf_last_25 rfl) ?_ ?_
            · exact hj43 () ls (lv_sub hl [0, 1, 3] rfl)
            · refine fs_lift (fun _ _ _ _ => lv_aload_n hx hb d_Rf_last_28 rfl (lv_at hl 0 rfl)) ?_
              refine fs_Jgr S hG fs_in12 rfl 23 (Nat.le_of_ble_eq_true rfl) tw_5_215 (fun _ h9 => h9) d_Rf_last_29 (fun r6 => ?_)
              refine fs_lift (fun _ _ _ _ => lv_iload_n hx hb d_Rf_last_32 rfl (lv_at hl 3 rfl)) ?_
              refine fs_Jai S hG d_Rf_last_33 (fun v7 => ?_)
              refine fs_lift (fun _ _ _ _ => lv_aload_n hx hb d_Rf_last_34 rfl (lv_at hl 0 rfl)) ?_
              refine fs_Jgr S hG fs_in12 rfl 23 (Nat.le_of_ble_eq_true rfl) tw_5_215 (fun _ h9 => h9) d_Rf_last_35 (fun r8 => ?_)
              refine fs_lift (fun _ _ _ _ => lv_iload_n hx hb d_Rf_last_38 rfl (lv_at hl 2 rfl)) ?_
              refine fs_Jai S hG d_Rf_last_39 (fun v9 => ?_)
              refine fs_if (fun _ _ _ _ => lv_icmp_le hx hb d_Rf_last_40 rfl) ?_ ?_
              · exact hj47 () ls (lv_sub hl [0, 1, 2, 3] rfl)
              · exact hj43 () ls (lv_sub hl [0, 1, 3] rfl)

theorem d_Rf_widthOf_0 : decode prog_13_method_22_code 0 = .ok (.iload_n 1, 1) := by decide +kernel
theorem d_Rf_widthOf_1 : decode prog_13_method_22_code 1 = .ok (.sipush 256, 3) := by decide +kernel
theorem d_Rf_widthOf_4 : decode prog_13_method_22_code 4 = .ok (.if_icmp .ge 7, 3) := by decide +kernel
theorem d_Rf_widthOf_7 : decode prog_13_method_22_code 7 = .ok (.iconst 1, 1) := by decide +kernel
theorem d_Rf_widthOf_8 : decode prog_13_method_22_code 8 = .ok (.goto 24, 3) := by decide +kernel
theorem d_Rf_widthOf_11 : decode prog_13_method_22_code 11 = .ok (.iload_n 1, 1) := by decide +kernel
theorem d_Rf_widthOf_12 : decode prog_13_method_22_code 12 = .ok (.ldc 179, 2) := by decide +kernel
theorem d_Rf_widthOf_14 : decode prog_13_method_22_code 14 = .ok (.if_icmp .ge 7, 3) := by decide +kernel
theorem d_Rf_widthOf_17 : decode prog_13_method_22_code 17 = .ok (.iconst 2, 1) := by decide +kernel
theorem d_Rf_widthOf_18 : decode prog_13_method_22_code 18 = .ok (.goto 14, 3) := by decide +kernel
theorem d_Rf_widthOf_21 : decode prog_13_method_22_code 21 = .ok (.iload_n 1, 1) := by decide +kernel
theorem d_Rf_widthOf_22 : decode prog_13_method_22_code 22 = .ok (.ldc 180, 2) := by decide +kernel
theorem d_Rf_widthOf_24 : decode prog_13_method_22_code 24 = .ok (.if_icmp .ge 7, 3) := by decide +kernel
theorem d_Rf_widthOf_27 : decode prog_13_method_22_code 27 = .ok (.iconst 3, 1) := by decide +kernel
theorem d_Rf_widthOf_28 : decode prog_13_method_22_code 28 = .ok (.goto 4, 3) := by decide +kernel
theorem d_Rf_widthOf_31 : decode prog_13_method_22_code 31 = .ok (.iconst 4, 1) := by decide +kernel
theorem d_Rf_widthOf_32 : decode prog_13_method_22_code 32 = .ok (.ireturn, 1) := by decide +kernel
theorem q_Rf_widthOf : (⟨"FlowShelfModel", "widthOf", "(I)I"⟩ : MethodName).cls ≠ "java/lang/invoke/MethodHandle" ∧ (⟨"FlowShelfModel", "widthOf", "(I)I"⟩ : MethodName).cls ≠ "java/lang/invoke/VarHandle" ∧ (parseMethodDescriptor (⟨"FlowShelfModel", "widthOf", "(I)I"⟩ : MethodName).desc).map (fun d => d.parameters.length) = some 1 := by decide +kernel
set_option maxHeartbeats 4000000 in
set_option maxRecDepth 100000 in
theorem m_Rf_widthOf (X : fs_X) (l : Launch) (a0 : Nat) (x1 : Int32) {r : Int32} {σ σF : fs_S} (h : (f_Rf_widthOf a0 x1).1 σ = some (r, σF)) : fs_Met X l ⟨"FlowShelfModel", "widthOf", "(I)I"⟩ (Cond.code ⟨"FlowShelfModel", "widthOf", "(I)I"⟩ prog_13_method_22_code 2 (some FieldType.int)) 0 0 [.ref a0, .int x1] σ (fs_eI r) σF := by
  refine fs_ofW (by decide) ?_
  intro p e s m args below meth c s₁ B hml hT hv
  obtain ⟨rfl, hw0, hG⟩ := hv
  have hx := B.exec
  have hb := B.bytes
  have hr := B.returns
  have hk := B.notSynchronized
  have S : CallFix p m c prog_13_method_22_code 2 s _ fs_ws "FlowShelfModel" := ⟨B.exec, B.bytes, hml, findClass_of_methodNamed B.named, fun w hw => atoms_spec (ws := _ :: fs_ws) B.pre w (List.mem_cons_of_mem _ hw)⟩
  have hR := fs_hR (fr := 0) (lo := 0) ((f_Rf_widthOf a0 x1).2 _ _ _ h)
  have hl := lv_entry ([.ref a0, .int x1]) (n := 2) (Nat.le_of_ble_eq_true rfl)
  rw [lg_entry_eq]
  generalize (lg_sl ([.ref a0, .int x1]) ++ List.replicate (2 - (lg_sl ([.ref a0, .int x1])).length) Slot.unset).toArray = ls at hl ⊢
  have hl : lv_has ls 2 [(0, .ref a0), (1, .int x1)] := hl
  refine (?_ : fs_J X p l e (fs_rm 0 0 σ σF) s m _ below meth c (fs_Q X below _ s (fs_eI r) σ σF) r σ σF (f_Rf_widthOf a0 x1) (F0 m 0 ls [])) σ s.heap [] 0 0 h hw0 va_S.rf rfl rfl
  clear h hw0
  unfold f_Rf_widthOf
  refine fs_lift (fun _ _ _ _ => lv_iload_n hx hb d_Rf_widthOf_0 rfl (lv_at hl 1 rfl)) ?_
  refine fs_lift (fun _ _ _ _ => lv_sipush (v := 256) hx hb d_Rf_widthOf_1 (by decide)) ?_
  refine fs_if (fun _ _ _ _ => lv_icmp_ge hx hb d_Rf_widthOf_4 rfl) ?_ ?_
  · refine fs_lift (fun _ _ _ _ => lv_iload_n hx hb d_Rf_widthOf_11 rfl (lv_at hl 1 rfl)) ?_
    refine fs_lift (fun _ _ _ _ => lv_ldc hx hb S.2.2.2.1 (S.2.2.2.2 _ tw_6_195) d_Rf_widthOf_12) ?_
    refine fs_if (fun _ _ _ _ => lv_icmp_ge hx hb d_Rf_widthOf_14 rfl) ?_ ?_
    · refine fs_lift (fun _ _ _ _ => lv_iload_n hx hb d_Rf_widthOf_21 rfl (lv_at hl 1 rfl)) ?_
      refine fs_lift (fun _ _ _ _ => lv_ldc hx hb S.2.2.2.1 (S.2.2.2.2 _ tw_6_196) d_Rf_widthOf_22) ?_
      refine fs_if (fun _ _ _ _ => lv_icmp_ge hx hb d_Rf_widthOf_24 rfl) ?_ ?_
      · refine fs_lift (fun _ _ _ _ => lv_iconst (v := 4) hx hb d_Rf_widthOf_31 (by decide)) ?_
        exact fs_Jiret S hr hk rfl d_Rf_widthOf_32
      · refine fs_lift (fun _ _ _ _ => lv_iconst (v := 3) hx hb d_Rf_widthOf_27 (by decide)) ?_
        refine fs_lift (fun _ _ _ _ => lv_goto hx hb d_Rf_widthOf_28 rfl) ?_
        exact fs_Jiret S hr hk rfl d_Rf_widthOf_32
    · refine fs_lift (fun _ _ _ _ => lv_iconst (v := 2) hx hb d_Rf_widthOf_17 (by decide)) ?_
      refine fs_lift (fun _ _ _ _ => lv_goto hx hb d_Rf_widthOf_18 rfl) ?_
      exact fs_Jiret S hr hk rfl d_Rf_widthOf_32
  · refine fs_lift (fun _ _ _ _ => lv_iconst (v := 1) hx hb d_Rf_widthOf_7 (by decide)) ?_
    refine fs_lift (fun _ _ _ _ => lv_goto hx hb d_Rf_widthOf_8 rfl) ?_
    exact fs_Jiret S hr hk rfl d_Rf_widthOf_32

theorem d_Rf_recordOf_0 : decode prog_13_method_23_code 0 = .ok (.iconst 0, 1) := by decide +kernel
theorem d_Rf_recordOf_1 : decode prog_13_method_23_code 1 = .ok (.istore 4, 2) := by decide +kernel
theorem d_Rf_recordOf_3 : decode prog_13_method_23_code 3 = .ok (.bipush 8, 2) := by decide +kernel
theorem d_Rf_recordOf_5 : decode prog_13_method_23_code 5 = .ok (.iload_n 2, 1) := by decide +kernel
theorem d_Rf_recordOf_6 : decode prog_13_method_23_code 6 = .ok (.imul, 1) := by decide +kernel
theorem d_Rf_recordOf_7 : decode prog_13_method_23_code 7 = .ok (.istore 5, 2) := by decide +kernel
theorem d_Rf_recordOf_9 : decode prog_13_method_23_code 9 = .ok (.iload 5, 2) := by decide +kernel
theorem d_Rf_recordOf_11 : decode prog_13_method_23_code 11 = .ok (.bipush 8, 2) := by decide +kernel
theorem d_Rf_recordOf_13 : decode prog_13_method_23_code 13 = .ok (.iload_n 2, 1) := by decide +kernel
theorem d_Rf_recordOf_14 : decode prog_13_method_23_code 14 = .ok (.imul, 1) := by decide +kernel
theorem d_Rf_recordOf_15 : decode prog_13_method_23_code 15 = .ok (.aload_n 0, 1) := by decide +kernel
theorem d_Rf_recordOf_16 : decode prog_13_method_23_code 16 = .ok (.getfield 67, 3) := by decide +kernel
theorem d_Rf_recordOf_19 : decode prog_13_method_23_code 19 = .ok (.iload_n 2, 1) := by decide +kernel
theorem d_Rf_recordOf_20 : decode prog_13_method_23_code 20 = .ok (.iaload, 1) := by decide +kernel
theorem d_Rf_recordOf_21 : decode prog_13_method_23_code 21 = .ok (.iadd, 1) := by decide +kernel
theorem d_Rf_recordOf_22 : decode prog_13_method_23_code 22 = .ok (.if_icmp .ge 66, 3) := by decide +kernel
theorem d_Rf_recordOf_25 : decode prog_13_method_23_code 25 = .ok (.aload_n 0, 1) := by decide +kernel
theorem d_Rf_recordOf_26 : decode prog_13_method_23_code 26 = .ok (.getfield 49, 3) := by decide +kernel
theorem d_Rf_recordOf_29 : decode prog_13_method_23_code 29 = .ok (.bipush 8, 2) := by decide +kernel
theorem d_Rf_recordOf_31 : decode prog_13_method_23_code 31 = .ok (.bipush 21, 2) := by decide +kernel
theorem d_Rf_recordOf_33 : decode prog_13_method_23_code 33 = .ok (.iload_n 1, 1) := by decide +kernel
theorem d_Rf_recordOf_34 : decode prog_13_method_23_code 34 = .ok (.imul, 1) := by decide +kernel
theorem d_Rf_recordOf_35 : decode prog_13_method_23_code 35 = .ok (.iload_n 3, 1) := by decide +kernel
theorem d_Rf_recordOf_36 : decode prog_13_method_23_code 36 = .ok (.iadd, 1) := by decide +kernel
theorem d_Rf_recordOf_37 : decode prog_13_method_23_code 37 = .ok (.imul, 1) := by decide +kernel
theorem d_Rf_recordOf_38 : decode prog_13_method_23_code 38 = .ok (.aload_n 0, 1) := by decide +kernel
theorem d_Rf_recordOf_39 : decode prog_13_method_23_code 39 = .ok (.getfield 70, 3) := by decide +kernel
theorem d_Rf_recordOf_42 : decode prog_13_method_23_code 42 = .ok (.iload 5, 2) := by decide +kernel
theorem d_Rf_recordOf_44 : decode prog_13_method_23_code 44 = .ok (.iaload, 1) := by decide +kernel
theorem d_Rf_recordOf_45 : decode prog_13_method_23_code 45 = .ok (.iadd, 1) := by decide +kernel
theorem d_Rf_recordOf_46 : decode prog_13_method_23_code 46 = .ok (.iaload, 1) := by decide +kernel
theorem d_Rf_recordOf_47 : decode prog_13_method_23_code 47 = .ok (.istore 6, 2) := by decide +kernel
theorem d_Rf_recordOf_49 : decode prog_13_method_23_code 49 = .ok (.iload 4, 2) := by decide +kernel
theorem d_Rf_recordOf_51 : decode prog_13_method_23_code 51 = .ok (.aload_n 0, 1) := by decide +kernel
theorem d_Rf_recordOf_52 : decode prog_13_method_23_code 52 = .ok (.getfield 73, 3) := by decide +kernel
theorem d_Rf_recordOf_55 : decode prog_13_method_23_code 55 = .ok (.iload 5, 2) := by decide +kernel
theorem d_Rf_recordOf_57 : decode prog_13_method_23_code 57 = .ok (.iaload, 1) := by decide +kernel
theorem d_Rf_recordOf_58 : decode prog_13_method_23_code 58 = .ok (.ifCond .ne 14, 3) := by decide +kernel
theorem d_Rf_recordOf_61 : decode prog_13_method_23_code 61 = .ok (.iconst 1, 1) := by decide +kernel
theorem d_Rf_recordOf_62 : decode prog_13_method_23_code 62 = .ok (.aload_n 0, 1) := by decide +kernel
theorem d_Rf_recordOf_63 : decode prog_13_method_23_code 63 = .ok (.iload 6, 2) := by decide +kernel
theorem d_Rf_recordOf_65 : decode prog_13_method_23_code 65 = .ok (.invokevirtual 181, 3) := by decide +kernel
theorem d_Rf_recordOf_68 : decode prog_13_method_23_code 68 = .ok (.iadd, 1) := by decide +kernel
theorem d_Rf_recordOf_69 : decode prog_13_method_23_code 69 = .ok (.goto 10, 3) := by decide +kernel
theorem d_Rf_recordOf_72 : decode prog_13_method_23_code 72 = .ok (.aload_n 0, 1) := by decide +kernel
theorem d_Rf_recordOf_73 : decode prog_13_method_23_code 73 = .ok (.getfield 73, 3) := by decide +kernel
theorem d_Rf_recordOf_76 : decode prog_13_method_23_code 76 = .ok (.iload 5, 2) := by decide +kernel
theorem d_Rf_recordOf_78 : decode prog_13_method_23_code 78 = .ok (.iaload, 1) := by decide +kernel
theorem d_Rf_recordOf_79 : decode prog_13_method_23_code 79 = .ok (.iadd, 1) := by decide +kernel
theorem d_Rf_recordOf_80 : decode prog_13_method_23_code 80 = .ok (.istore 4, 2) := by decide +kernel
theorem d_Rf_recordOf_82 : decode prog_13_method_23_code 82 = .ok (.iinc 5 1, 3) := by decide +kernel
theorem d_Rf_recordOf_85 : decode prog_13_method_23_code 85 = .ok (.goto (-76), 3) := by decide +kernel
theorem d_Rf_recordOf_88 : decode prog_13_method_23_code 88 = .ok (.iload 4, 2) := by decide +kernel
theorem d_Rf_recordOf_90 : decode prog_13_method_23_code 90 = .ok (.ireturn, 1) := by decide +kernel
theorem q_Rf_recordOf : (⟨"FlowShelfModel", "recordOf", "(III)I"⟩ : MethodName).cls ≠ "java/lang/invoke/MethodHandle" ∧ (⟨"FlowShelfModel", "recordOf", "(III)I"⟩ : MethodName).cls ≠ "java/lang/invoke/VarHandle" ∧ (parseMethodDescriptor (⟨"FlowShelfModel", "recordOf", "(III)I"⟩ : MethodName).desc).map (fun d => d.parameters.length) = some 3 := by decide +kernel
set_option maxHeartbeats 4000000 in
set_option maxRecDepth 100000 in
theorem m_Rf_recordOf (X : fs_X) (l : Launch) (a0 : Nat) (x1 : Int32) (x2 : Int32) (x3 : Int32) {r : Int32} {σ σF : fs_S} (h : (f_Rf_recordOf a0 x1 x2 x3).1 σ = some (r, σF)) : fs_Met X l ⟨"FlowShelfModel", "recordOf", "(III)I"⟩ (Cond.code ⟨"FlowShelfModel", "recordOf", "(III)I"⟩ prog_13_method_23_code 7 (some FieldType.int)) 1 21 [.ref a0, .int x1, .int x2, .int x3] σ (fs_eI r) σF := by
  refine fs_ofW (by decide) ?_
  intro p e s m args below meth c s₁ B hml hT hv
  obtain ⟨rfl, hw0, hG⟩ := hv
  have hx := B.exec
  have hb := B.bytes
  have hr := B.returns
  have hk := B.notSynchronized
  have S : CallFix p m c prog_13_method_23_code 7 s _ fs_ws "FlowShelfModel" := ⟨B.exec, B.bytes, hml, findClass_of_methodNamed B.named, fun w hw => atoms_spec (ws := _ :: fs_ws) B.pre w (List.mem_cons_of_mem _ hw)⟩
  have hR := fs_hR (fr := 1) (lo := 21) ((f_Rf_recordOf a0 x1 x2 x3).2 _ _ _ h)
  have hl := lv_entry ([.ref a0, .int x1, .int x2, .int x3]) (n := 7) (Nat.le_of_ble_eq_true rfl)
  rw [lg_entry_eq]
  generalize (lg_sl ([.ref a0, .int x1, .int x2, .int x3]) ++ List.replicate (7 - (lg_sl ([.ref a0, .int x1, .int x2, .int x3])).length) Slot.unset).toArray = ls at hl ⊢
  have hl : lv_has ls 7 [(0, .ref a0), (1, .int x1), (2, .int x2), (3, .int x3)] := hl
  refine (?_ : fs_J X p l e (fs_rm 1 21 σ σF) s m _ below meth c (fs_Q X below _ s (fs_eI r) σ σF) r σ σF (f_Rf_recordOf a0 x1 x2 x3) (F0 m 0 ls [])) σ s.heap [] 0 0 h hw0 va_S.rf rfl rfl
  clear h hw0
  unfold f_Rf_recordOf
  refine fs_lift (fun _ _ _ _ => lv_iconst (v := 0) hx hb d_Rf_recordOf_0 (by decide)) ?_
  refine fs_liftL (fun _ _ _ _ => lv_istore (lv' := [(4, .int 0), (0, .ref a0), (1, .int x1), (2, .int x2), (3, .int x3)]) hx hb d_Rf_recordOf_1 hl (Nat.le_of_ble_eq_true rfl) rfl) (fun ls hl => ?_)
  refine fs_lift (fun _ _ _ _ => lv_bipush (v := 8) hx hb d_Rf_recordOf_3 (by decide)) ?_
  refine fs_lift (fun _ _ _ _ => lv_iload_n hx hb d_Rf_recordOf_5 rfl (lv_at hl 3 rfl)) ?_
  refine fs_lift (fun _ _ _ _ => lv_imul hx hb d_Rf_recordOf_6) ?_
  refine fs_Jni (fun v1 => ?_)
  refine fs_liftL (fun _ _ _ _ => lv_istore (lv' := [(5, .int v1), (4, .int 0), (0, .ref a0), (1, .int x1), (2, .int x2), (3, .int x3)]) hx hb d_Rf_recordOf_7 hl (Nat.le_of_ble_eq_true rfl) rfl) (fun ls hl => ?_)
  refine fs_Jlp2 (nL := 7) (pc := 9) (rest := []) (I := fun (v2 : Int32) (v3 : Int32) => [(0, .ref a0), (1, .int x1), (2, .int x2), (3, .int x3), (4, .int v2), (5, .int v3)]) (fun k9 hk9 v2 v3 ls hl => ?_) _ _ _ _ (lv_sub hl [2, 3, 4, 5, 1, 0] rfl)
  refine fs_lift (fun _ _ _ _ => lv_iload hx hb d_Rf_recordOf_9 (lv_at hl 5 rfl)) ?_
  refine fs_lift (fun _ _ _ _ => lv_bipush (v := 8) hx hb d_Rf_recordOf_11 (by decide)) ?_
  refine fs_lift (fun _ _ _ _ => lv_iload_n hx hb d_Rf_recordOf_13 rfl (lv_at hl 2 rfl)) ?_
  refine fs_lift (fun _ _ _ _ => lv_imul hx hb d_Rf_recordOf_14) ?_
  refine fs_lift (fun _ _ _ _ => lv_aload_n hx hb d_Rf_recordOf_15 rfl (lv_at hl 0 rfl)) ?_
  refine fs_Jgr S hG fs_in12 rfl 20 (Nat.le_of_ble_eq_true rfl) tw_5_212 (fun _ h9 => h9) d_Rf_recordOf_16 (fun r4 => ?_)
  refine fs_lift (fun _ _ _ _ => lv_iload_n hx hb d_Rf_recordOf_19 rfl (lv_at hl 2 rfl)) ?_
  refine fs_Jai S hG d_Rf_recordOf_20 (fun v5 => ?_)
  refine fs_lift (fun _ _ _ _ => lv_iadd hx hb d_Rf_recordOf_21) ?_
  refine fs_if (fun _ _ _ _ => lv_icmp_ge hx hb d_Rf_recordOf_22 rfl) ?_ ?_
  · refine fs_lift (fun _ _ _ _ => lv_iload hx hb d_Rf_recordOf_88 (lv_at hl 4 rfl)) ?_
    exact fs_Jiret S hr hk rfl d_Rf_recordOf_90
  · refine fs_lift (fun _ _ _ _ => lv_aload_n hx hb d_Rf_recordOf_25 rfl (lv_at hl 0 rfl)) ?_
    refine fs_Jgr S hG fs_in12 rfl 14 (Nat.le_of_ble_eq_true rfl) tw_5_206 (fun _ h9 => h9) d_Rf_recordOf_26 (fun r6 => ?_)
    refine fs_lift (fun _ _ _ _ => lv_bipush (v := 8) hx hb d_Rf_recordOf_29 (by decide)) ?_
    refine fs_lift (fun _ _ _ _ => lv_bipush (v := 21) hx hb d_Rf_recordOf_31 (by decide)) ?_
    refine fs_lift (fun _ _ _ _ => lv_iload_n hx hb d_Rf_recordOf_33 rfl (lv_at hl 1 rfl)) ?_
    refine fs_lift (fun _ _ _ _ => lv_imul hx hb d_Rf_recordOf_34) ?_
    refine fs_lift (fun _ _ _ _ => lv_iload_n hx hb d_Rf_recordOf_35 rfl (lv_at hl 3 rfl)) ?_
    refine fs_lift (fun _ _ _ _ => lv_iadd hx hb d_Rf_recordOf_36) ?_
    refine fs_lift (fun _ _ _ _ => lv_imul hx hb d_Rf_recordOf_37) ?_
    refine fs_lift (fun _ _ _ _ => lv_aload_n hx hb d_Rf_recordOf_38 rfl (lv_at hl 0 rfl)) ?_
    refine fs_Jgr S hG fs_in12 rfl 21 (Nat.le_of_ble_eq_true rfl) tw_5_213 (fun _ h9 => h9) d_Rf_recordOf_39 (fun r7 => ?_)
    refine fs_lift (fun _ _ _ _ => lv_iload hx hb d_Rf_recordOf_42 (lv_at hl 5 rfl)) ?_
    refine fs_Jai S hG d_Rf_recordOf_44 (fun v8 => ?_)
    refine fs_lift (fun _ _ _ _ => lv_iadd hx hb d_Rf_recordOf_45) ?_
    refine fs_Jai S hG d_Rf_recordOf_46 (fun v9 => ?_)
    refine fs_liftL (fun _ _ _ _ => lv_istore (lv' := [(6, .int v9), (0, .ref a0), (1, .int x1), (2, .int x2), (3, .int x3), (4, .int v2), (5, .int v3)]) hx hb d_Rf_recordOf_47 hl (Nat.le_of_ble_eq_true rfl) rfl) (fun ls hl => ?_)
    refine fs_lift (fun _ _ _ _ => lv_iload hx hb d_Rf_recordOf_49 (lv_at hl 5 rfl)) ?_
    refine fs_lift (fun _ _ _ _ => lv_aload_n hx hb d_Rf_recordOf_51 rfl (lv_at hl 1 rfl)) ?_
    refine fs_Jgr S hG fs_in12 rfl 22 (Nat.le_of_ble_eq_true rfl) tw_5_214 (fun _ h9 => h9) d_Rf_recordOf_52 (fun r10 => ?_)
    refine fs_lift (fun _ _ _ _ => lv_iload hx hb d_Rf_recordOf_55 (lv_at hl 6 rfl)) ?_
    refine fs_Jai S hG d_Rf_recordOf_57 (fun v11 => ?_)
    refine fs_Jlet1 (nL := 7) (pj := 79) (I := fun (v15 : Int32) => [(0, .ref a0), (1, .int x1), (2, .int x2), (3, .int x3), (5, .int v3)]) (st := fun (v15 : Int32) => [.int v15, .int v2]) (fun v15 ls hl => ?_) (fun j79 hj79 => ?_)
    · refine fs_lift (fun _ _ _ _ => lv_iadd hx hb d_Rf_recordOf_79) ?_
      refine fs_Jni (fun v16 => ?_)
      refine fs_liftL (fun _ _ _ _ => lv_istore (lv' := [(4, .int v16), (0, .ref a0), (1, .int x1), (2, .int x2), (3, .int x3), (5, .int v3)]) hx hb d_Rf_recordOf_80 hl (Nat.le_of_ble_eq_true rfl) rfl) (fun ls hl => ?_)
      refine fs_Jnm (fun v17 hv9 => ?_)
      refine fs_liftL (fun _ _ _ _ => lv_iinc (k := 5) (v := v17) (lv' := [(5, .int v17), (4, .int v16), (0, .ref a0), (1, .int x1), (2, .int x2), (3, .int x3)]) hx hb d_Rf_recordOf_82 hl rfl (by rw [hv9]; rfl) (Nat.le_of_ble_eq_true rfl) rfl) (fun ls hl => ?_)
      refine fs_lift (fun _ _ _ _ => lv_goto hx hb d_Rf_recordOf_85 rfl) ?_
      exact hk9 v16 v17 ls (lv_sub hl [2, 3, 4, 5, 1, 0] rfl)
    · refine fs_ifn (fun _ _ _ _ => lv_if_ne hx hb d_Rf_recordOf_58 rfl) ?_ ?_
      · refine fs_lift (fun _ _ _ _ => lv_iconst (v := 1) hx hb d_Rf_recordOf_61 (by decide)) ?_
        refine fs_lift (fun _ _ _ _ => lv_aload_n hx hb d_Rf_recordOf_62 rfl (lv_at hl 1 rfl)) ?_
        refine fs_lift (fun _ _ _ _ => lv_iload hx hb d_Rf_recordOf_63 (lv_at hl 0 rfl)) ?_
        refine fs_JV S hG hR rfl [.int v9] (enc := fun r => some (.int r)) (fun zr zs zt zh => m_Rf_widthOf X l a0 v9 zh) tw_6_191 tw_6_193 tp_2_7 tw_6_194 tw_1_11 q_Rf_widthOf ⟨(Nat.le_of_ble_eq_true rfl), (Nat.le_of_ble_eq_true rfl)⟩ hl.1 rfl (Nat.le_of_ble_eq_true rfl) d_Rf_recordOf_65 (fun v14 => ?_)
        refine fs_Jeq (g2 := F0 m 68 ls [.int v14, .int 1, .int v2]) rfl ?_
        refine fs_lift (fun _ _ _ _ => lv_iadd hx hb d_Rf_recordOf_68) ?_
        refine fs_lift (fun _ _ _ _ => lv_goto hx hb d_Rf_recordOf_69 rfl) ?_
        exact hj79 (1 + v14) ls (lv_sub hl [1, 2, 3, 4, 6] rfl)
      · refine fs_lift (fun _ _ _ _ => lv_aload_n hx hb d_Rf_recordOf_72 rfl (lv_at hl 1 rfl)) ?_
        refine fs_Jgr S hG fs_in12 rfl 22 (Nat.le_of_ble_eq_true rfl) tw_5_214 (fun _ h9 => h9) d_Rf_recordOf_73 (fun r12 => ?_)
        refine fs_lift (fun _ _ _ _ => lv_iload hx hb d_Rf_recordOf_76 (lv_at hl 6 rfl)) ?_
        refine fs_Jai S hG d_Rf_recordOf_78 (fun v13 => ?_)
        exact hj79 v13 ls (lv_sub hl [1, 2, 3, 4, 6] rfl)

theorem d_Rf_writeRecord_0 : decode prog_13_method_24_code 0 = .ok (.bipush 8, 2) := by decide +kernel
theorem d_Rf_writeRecord_2 : decode prog_13_method_24_code 2 = .ok (.iload_n 2, 1) := by decide +kernel
theorem d_Rf_writeRecord_3 : decode prog_13_method_24_code 3 = .ok (.imul, 1) := by decide +kernel
theorem d_Rf_writeRecord_4 : decode prog_13_method_24_code 4 = .ok (.istore 4, 2) := by decide +kernel
theorem d_Rf_writeRecord_6 : decode prog_13_method_24_code 6 = .ok (.iload 4, 2) := by decide +kernel
theorem d_Rf_writeRecord_8 : decode prog_13_method_24_code 8 = .ok (.bipush 8, 2) := by decide +kernel
theorem d_Rf_writeRecord_10 : decode prog_13_method_24_code 10 = .ok (.iload_n 2, 1) := by decide +kernel
theorem d_Rf_writeRecord_11 : decode prog_13_method_24_code 11 = .ok (.imul, 1) := by decide +kernel
theorem d_Rf_writeRecord_12 : decode prog_13_method_24_code 12 = .ok (.aload_n 0, 1) := by decide +kernel
theorem d_Rf_writeRecord_13 : decode prog_13_method_24_code 13 = .ok (.getfield 67, 3) := by decide +kernel
theorem d_Rf_writeRecord_16 : decode prog_13_method_24_code 16 = .ok (.iload_n 2, 1) := by decide +kernel
theorem d_Rf_writeRecord_17 : decode prog_13_method_24_code 17 = .ok (.iaload, 1) := by decide +kernel
theorem d_Rf_writeRecord_18 : decode prog_13_method_24_code 18 = .ok (.iadd, 1) := by decide +kernel
theorem d_Rf_writeRecord_19 : decode prog_13_method_24_code 19 = .ok (.if_icmp .ge 94, 3) := by decide +kernel
theorem d_Rf_writeRecord_22 : decode prog_13_method_24_code 22 = .ok (.aload_n 0, 1) := by decide +kernel
theorem d_Rf_writeRecord_23 : decode prog_13_method_24_code 23 = .ok (.getfield 49, 3) := by decide +kernel
theorem d_Rf_writeRecord_26 : decode prog_13_method_24_code 26 = .ok (.bipush 8, 2) := by decide +kernel
theorem d_Rf_writeRecord_28 : decode prog_13_method_24_code 28 = .ok (.bipush 21, 2) := by decide +kernel
theorem d_Rf_writeRecord_30 : decode prog_13_method_24_code 30 = .ok (.iload_n 1, 1) := by decide +kernel
theorem d_Rf_writeRecord_31 : decode prog_13_method_24_code 31 = .ok (.imul, 1) := by decide +kernel
theorem d_Rf_writeRecord_32 : decode prog_13_method_24_code 32 = .ok (.iload_n 3, 1) := by decide +kernel
theorem d_Rf_writeRecord_33 : decode prog_13_method_24_code 33 = .ok (.iadd, 1) := by decide +kernel
theorem d_Rf_writeRecord_34 : decode prog_13_method_24_code 34 = .ok (.imul, 1) := by decide +kernel
theorem d_Rf_writeRecord_35 : decode prog_13_method_24_code 35 = .ok (.aload_n 0, 1) := by decide +kernel
theorem d_Rf_writeRecord_36 : decode prog_13_method_24_code 36 = .ok (.getfield 70, 3) := by decide +kernel
theorem d_Rf_writeRecord_39 : decode prog_13_method_24_code 39 = .ok (.iload 4, 2) := by decide +kernel
theorem d_Rf_writeRecord_41 : decode prog_13_method_24_code 41 = .ok (.iaload, 1) := by decide +kernel
theorem d_Rf_writeRecord_42 : decode prog_13_method_24_code 42 = .ok (.iadd, 1) := by decide +kernel
theorem d_Rf_writeRecord_43 : decode prog_13_method_24_code 43 = .ok (.iaload, 1) := by decide +kernel
theorem d_Rf_writeRecord_44 : decode prog_13_method_24_code 44 = .ok (.istore 5, 2) := by decide +kernel
theorem d_Rf_writeRecord_46 : decode prog_13_method_24_code 46 = .ok (.aload_n 0, 1) := by decide +kernel
theorem d_Rf_writeRecord_47 : decode prog_13_method_24_code 47 = .ok (.getfield 73, 3) := by decide +kernel
theorem d_Rf_writeRecord_50 : decode prog_13_method_24_code 50 = .ok (.iload 4, 2) := by decide +kernel
theorem d_Rf_writeRecord_52 : decode prog_13_method_24_code 52 = .ok (.iaload, 1) := by decide +kernel
theorem d_Rf_writeRecord_53 : decode prog_13_method_24_code 53 = .ok (.istore 6, 2) := by decide +kernel
theorem d_Rf_writeRecord_55 : decode prog_13_method_24_code 55 = .ok (.iload 6, 2) := by decide +kernel
theorem d_Rf_writeRecord_57 : decode prog_13_method_24_code 57 = .ok (.ifCond .ne 17, 3) := by decide +kernel
theorem d_Rf_writeRecord_60 : decode prog_13_method_24_code 60 = .ok (.aload_n 0, 1) := by decide +kernel
theorem d_Rf_writeRecord_61 : decode prog_13_method_24_code 61 = .ok (.iload 5, 2) := by decide +kernel
theorem d_Rf_writeRecord_63 : decode prog_13_method_24_code 63 = .ok (.invokevirtual 181, 3) := by decide +kernel
theorem d_Rf_writeRecord_66 : decode prog_13_method_24_code 66 = .ok (.istore 6, 2) := by decide +kernel
theorem d_Rf_writeRecord_68 : decode prog_13_method_24_code 68 = .ok (.aload_n 0, 1) := by decide +kernel
theorem d_Rf_writeRecord_69 : decode prog_13_method_24_code 69 = .ok (.iload 6, 2) := by decide +kernel
theorem d_Rf_writeRecord_71 : decode prog_13_method_24_code 71 = .ok (.invokevirtual 171, 3) := by decide +kernel
theorem d_Rf_writeRecord_74 : decode prog_13_method_24_code 74 = .ok (.iload 6, 2) := by decide +kernel
theorem d_Rf_writeRecord_76 : decode prog_13_method_24_code 76 = .ok (.iconst 1, 1) := by decide +kernel
theorem d_Rf_writeRecord_77 : decode prog_13_method_24_code 77 = .ok (.isub, 1) := by decide +kernel
theorem d_Rf_writeRecord_78 : decode prog_13_method_24_code 78 = .ok (.istore 7, 2) := by decide +kernel
theorem d_Rf_writeRecord_80 : decode prog_13_method_24_code 80 = .ok (.iload 7, 2) := by decide +kernel
theorem d_Rf_writeRecord_82 : decode prog_13_method_24_code 82 = .ok (.ifCond .lt 25, 3) := by decide +kernel
theorem d_Rf_writeRecord_85 : decode prog_13_method_24_code 85 = .ok (.aload_n 0, 1) := by decide +kernel
theorem d_Rf_writeRecord_86 : decode prog_13_method_24_code 86 = .ok (.iload 5, 2) := by decide +kernel
theorem d_Rf_writeRecord_88 : decode prog_13_method_24_code 88 = .ok (.bipush 8, 2) := by decide +kernel
theorem d_Rf_writeRecord_90 : decode prog_13_method_24_code 90 = .ok (.iload 7, 2) := by decide +kernel
theorem d_Rf_writeRecord_92 : decode prog_13_method_24_code 92 = .ok (.imul, 1) := by decide +kernel
theorem d_Rf_writeRecord_93 : decode prog_13_method_24_code 93 = .ok (.ishr, 1) := by decide +kernel
theorem d_Rf_writeRecord_94 : decode prog_13_method_24_code 94 = .ok (.sipush 255, 3) := by decide +kernel
theorem d_Rf_writeRecord_97 : decode prog_13_method_24_code 97 = .ok (.iand, 1) := by decide +kernel
theorem d_Rf_writeRecord_98 : decode prog_13_method_24_code 98 = .ok (.invokevirtual 171, 3) := by decide +kernel
theorem d_Rf_writeRecord_101 : decode prog_13_method_24_code 101 = .ok (.iinc 7 (-1), 3) := by decide +kernel
theorem d_Rf_writeRecord_104 : decode prog_13_method_24_code 104 = .ok (.goto (-24), 3) := by decide +kernel
theorem d_Rf_writeRecord_107 : decode prog_13_method_24_code 107 = .ok (.iinc 4 1, 3) := by decide +kernel
theorem d_Rf_writeRecord_110 : decode prog_13_method_24_code 110 = .ok (.goto (-104), 3) := by decide +kernel
theorem d_Rf_writeRecord_113 : decode prog_13_method_24_code 113 = .ok (.return_, 1) := by decide +kernel
theorem q_Rf_writeRecord : (⟨"FlowShelfModel", "writeRecord", "(III)V"⟩ : MethodName).cls ≠ "java/lang/invoke/MethodHandle" ∧ (⟨"FlowShelfModel", "writeRecord", "(III)V"⟩ : MethodName).cls ≠ "java/lang/invoke/VarHandle" ∧ (parseMethodDescriptor (⟨"FlowShelfModel", "writeRecord", "(III)V"⟩ : MethodName).desc).map (fun d => d.parameters.length) = some 3 := by decide +kernel
set_option maxHeartbeats 4000000 in
set_option maxRecDepth 100000 in
theorem m_Rf_writeRecord (X : fs_X) (l : Launch) (a0 : Nat) (x1 : Int32) (x2 : Int32) (x3 : Int32) {r : Unit} {σ σF : fs_S} (h : (f_Rf_writeRecord a0 x1 x2 x3).1 σ = some (r, σF)) : fs_Met X l ⟨"FlowShelfModel", "writeRecord", "(III)V"⟩ (Cond.code ⟨"FlowShelfModel", "writeRecord", "(III)V"⟩ prog_13_method_24_code 8 none) 1 21 [.ref a0, .int x1, .int x2, .int x3] σ (fs_eV r) σF := by
  refine fs_ofW (by decide) ?_
  intro p e s m args below meth c s₁ B hml hT hv
  obtain ⟨rfl, hw0, hG⟩ := hv
  have hx := B.exec
  have hb := B.bytes
  have hr := B.returns
  have hk := B.notSynchronized
  have S : CallFix p m c prog_13_method_24_code 8 s _ fs_ws "FlowShelfModel" := ⟨B.exec, B.bytes, hml, findClass_of_methodNamed B.named, fun w hw => atoms_spec (ws := _ :: fs_ws) B.pre w (List.mem_cons_of_mem _ hw)⟩
  have hR := fs_hR (fr := 1) (lo := 21) ((f_Rf_writeRecord a0 x1 x2 x3).2 _ _ _ h)
  have hl := lv_entry ([.ref a0, .int x1, .int x2, .int x3]) (n := 8) (Nat.le_of_ble_eq_true rfl)
  rw [lg_entry_eq]
  generalize (lg_sl ([.ref a0, .int x1, .int x2, .int x3]) ++ List.replicate (8 - (lg_sl ([.ref a0, .int x1, .int x2, .int x3])).length) Slot.unset).toArray = ls at hl ⊢
  have hl : lv_has ls 8 [(0, .ref a0), (1, .int x1), (2, .int x2), (3, .int x3)] := hl
  refine (?_ : fs_J X p l e (fs_rm 1 21 σ σF) s m _ below meth c (fs_Q X below _ s (fs_eV r) σ σF) r σ σF (f_Rf_writeRecord a0 x1 x2 x3) (F0 m 0 ls [])) σ s.heap [] 0 0 h hw0 va_S.rf rfl rfl
  clear h hw0
  unfold f_Rf_writeRecord
  refine fs_lift (fun _ _ _ _ => lv_bipush (v := 8) hx hb d_Rf_writeRecord_0 (by decide)) ?_
  refine fs_lift (fun _ _ _ _ => lv_iload_n hx hb d_Rf_writeRecord_2 rfl (lv_at hl 2 rfl)) ?_
  refine fs_lift (fun _ _ _ _ => lv_imul hx hb d_Rf_writeRecord_3) ?_
  refine fs_Jni (fun v1 => ?_)
  refine fs_liftL (fun _ _ _ _ => lv_istore (lv' := [(4, .int v1), (0, .ref a0), (1, .int x1), (2, .int x2), (3, .int x3)]) hx hb d_Rf_writeRecord_4 hl (Nat.le_of_ble_eq_true rfl) rfl) (fun ls hl => ?_)
  refine fs_Jlp1 (nL := 8) (pc := 6) (rest := []) (I := fun (v2 : Int32) => [(0, .ref a0), (1, .int x1), (2, .int x2), (3, .int x3), (4, .int v2)]) (fun k6 hk6 v2 ls hl => ?_) _ _ _ (lv_sub hl [1, 2, 3, 4, 0] rfl)
  refine fs_lift (fun _ _ _ _ => lv_iload hx hb d_Rf_writeRecord_6 (lv_at hl 4 rfl)) ?_
  refine fs_lift (fun _ _ _ _ => lv_bipush (v := 8) hx hb d_Rf_writeRecord_8 (by decide)) ?_
  refine fs_lift (fun _ _ _ _ => lv_iload_n hx hb d_Rf_writeRecord_10 rfl (lv_at hl 2 rfl)) ?_
  refine fs_lift (fun _ _ _ _ => lv_imul hx hb d_Rf_writeRecord_11) ?_
  refine fs_lift (fun _ _ _ _ => lv_aload_n hx hb d_Rf_writeRecord_12 rfl (lv_at hl 0 rfl)) ?_
  refine fs_Jgr S hG fs_in12 rfl 20 (Nat.le_of_ble_eq_true rfl) tw_5_212 (fun _ h9 => h9) d_Rf_writeRecord_13 (fun r3 => ?_)
  refine fs_lift (fun _ _ _ _ => lv_iload_n hx hb d_Rf_writeRecord_16 rfl (lv_at hl 2 rfl)) ?_
  refine fs_Jai S hG d_Rf_writeRecord_17 (fun v4 => ?_)
  refine fs_lift (fun _ _ _ _ => lv_iadd hx hb d_Rf_writeRecord_18) ?_
  refine fs_if (fun _ _ _ _ => lv_icmp_ge hx hb d_Rf_writeRecord_19 rfl) ?_ ?_
  · exact fs_Jvret S hr hk rfl d_Rf_writeRecord_113
  · refine fs_lift (fun _ _ _ _ => lv_aload_n hx hb d_Rf_writeRecord_22 rfl (lv_at hl 0 rfl)) ?_
    refine fs_Jgr S hG fs_in12 rfl 14 (Nat.le_of_ble_eq_true rfl) tw_5_206 (fun _ h9 => h9) d_Rf_writeRecord_23 (fun r5 => ?_)
    refine fs_lift (fun _ _ _ _ => lv_bipush (v := 8) hx hb d_Rf_writeRecord_26 (by decide)) ?_
    refine fs_lift (fun _ _ _ _ => lv_bipush (v := 21) hx hb d_Rf_writeRecord_28 (by decide)) ?_
    refine fs_lift (fun _ _ _ _ => lv_iload_n hx hb d_Rf_writeRecord_30 rfl (lv_at hl 1 rfl)) ?_
    refine fs_lift (fun _ _ _ _ => lv_imul hx hb d_Rf_writeRecord_31) ?_
    refine fs_lift (fun _ _ _ _ => lv_iload_n hx hb d_Rf_writeRecord_32 rfl (lv_at hl 3 rfl)) ?_
    refine fs_lift (fun _ _ _ _ => lv_iadd hx hb d_Rf_writeRecord_33) ?_
    refine fs_lift (fun _ _ _ _ => lv_imul hx hb d_Rf_writeRecord_34) ?_
    refine fs_lift (fun _ _ _ _ => lv_aload_n hx hb d_Rf_writeRecord_35 rfl (lv_at hl 0 rfl)) ?_
    refine fs_Jgr S hG fs_in12 rfl 21 (Nat.le_of_ble_eq_true rfl) tw_5_213 (fun _ h9 => h9) d_Rf_writeRecord_36 (fun r6 => ?_)
    refine fs_lift (fun _ _ _ _ => lv_iload hx hb d_Rf_writeRecord_39 (lv_at hl 4 rfl)) ?_
    refine fs_Jai S hG d_Rf_writeRecord_41 (fun v7 => ?_)
    refine fs_lift (fun _ _ _ _ => lv_iadd hx hb d_Rf_writeRecord_42) ?_
    refine fs_Jai S hG d_Rf_writeRecord_43 (fun v8 => ?_)
    refine fs_liftL (fun _ _ _ _ => lv_istore (lv' := [(5, .int v8), (0, .ref a0), (1, .int x1), (2, .int x2), (3, .int x3), (4, .int v2)]) hx hb d_Rf_writeRecord_44 hl (Nat.le_of_ble_eq_true rfl) rfl) (fun ls hl => ?_)
    refine fs_lift (fun _ _ _ _ => lv_aload_n hx hb d_Rf_writeRecord_46 rfl (lv_at hl 1 rfl)) ?_
    refine fs_Jgr S hG fs_in12 rfl 22 (Nat.le_of_ble_eq_true rfl) tw_5_214 (fun _ h9 => h9) d_Rf_writeRecord_47 (fun r9 => ?_)
    refine fs_lift (fun _ _ _ _ => lv_iload hx hb d_Rf_writeRecord_50 (lv_at hl 5 rfl)) ?_
    refine fs_Jai S hG d_Rf_writeRecord_52 (fun v10 => ?_)
    refine fs_liftL (fun _ _ _ _ => lv_istore (lv' := [(6, .int v10), (5, .int v8), (0, .ref a0), (1, .int x1), (2, .int x2), (3, .int x3), (4, .int v2)]) hx hb d_Rf_writeRecord_53 hl (Nat.le_of_ble_eq_true rfl) rfl) (fun ls hl => ?_)
    refine fs_lift (fun _ _ _ _ => lv_iload hx hb d_Rf_writeRecord_55 (lv_at hl 0 rfl)) ?_
    refine fs_Jlet1 (nL := 8) (pj := 74) (I := fun (v12 : Int32) => [(0, .ref a0), (1, .int x1), (2, .int x2), (3, .int x3), (4, .int v2), (5, .int v8), (6, .int v12)]) (st := fun (v12 : Int32) => []) (fun v12 ls hl => ?_) (fun j74 hj74 => ?_)
    · refine fs_lift (fun _ _ _ _ => lv_iload hx hb d_Rf_writeRecord_74 (lv_at hl 6 rfl)) ?_
      refine fs_lift (fun _ _ _ _ => lv_iconst (v := 1) hx hb d_Rf_writeRecord_76 (by decide)) ?_
      refine fs_lift (fun _ _ _ _ => lv_isub hx hb d_Rf_writeRecord_77) ?_
      refine fs_Jni (fun v13 => ?_)
      refine fs_liftL (fun _ _ _ _ => lv_istore (lv' := [(7, .int v13), (0, .ref a0), (1, .int x1), (2, .int x2), (3, .int x3), (4, .int v2), (5, .int v8), (6, .int v12)]) hx hb d_Rf_writeRecord_78 hl (Nat.le_of_ble_eq_true rfl) rfl) (fun ls hl => ?_)
      refine fs_Jlp1 (nL := 8) (pc := 80) (rest := []) (I := fun (v14 : Int32) => [(0, .ref a0), (1, .int x1), (2, .int x2), (3, .int x3), (4, .int v2), (5, .int v8), (7, .int v14)]) (fun k80 hk80 v14 ls hl => ?_) _ _ _ (lv_sub hl [1, 2, 3, 4, 5, 6, 0] rfl)
      refine fs_lift (fun _ _ _ _ => lv_iload hx hb d_Rf_writeRecord_80 (lv_at hl 6 rfl)) ?_
      refine fs_if (fun _ _ _ _ => lv_if_lt hx hb d_Rf_writeRecord_82 rfl) ?_ ?_
      · refine fs_Jnm (fun v15 hv9 => ?_)
        refine fs_liftL (fun _ _ _ _ => lv_iinc (k := 4) (v := v15) (lv' := [(4, .int v15), (0, .ref a0), (1, .int x1), (2, .int x2), (3, .int x3), (5, .int v8), (7, .int v14)]) hx hb d_Rf_writeRecord_107 hl rfl (by rw [hv9]; rfl) (Nat.le_of_ble_eq_true rfl) rfl) (fun ls hl => ?_)
        refine fs_lift (fun _ _ _ _ => lv_goto hx hb d_Rf_writeRecord_110 rfl) ?_
        exact hk6 v15 ls (lv_sub hl [1, 2, 3, 4, 0] rfl)
      · refine fs_lift (fun _ _ _ _ => lv_aload_n hx hb d_Rf_writeRecord_85 rfl (lv_at hl 0 rfl)) ?_
        refine fs_lift (fun _ _ _ _ => lv_iload hx hb d_Rf_writeRecord_86 (lv_at hl 5 rfl)) ?_
        refine fs_lift (fun _ _ _ _ => lv_bipush (v := 8) hx hb d_Rf_writeRecord_88 (by decide)) ?_
        refine fs_lift (fun _ _ _ _ => lv_iload hx hb d_Rf_writeRecord_90 (lv_at hl 6 rfl)) ?_
        refine fs_lift (fun _ _ _ _ => lv_imul hx hb d_Rf_writeRecord_92) ?_
        refine fs_lift (fun _ _ _ _ => lv_ishr hx hb d_Rf_writeRecord_93) ?_
        refine fs_lift (fun _ _ _ _ => lv_sipush (v := 255) hx hb d_Rf_writeRecord_94 (by decide)) ?_
        refine fs_lift (fun _ _ _ _ => lv_iand hx hb d_Rf_writeRecord_97) ?_
        refine fs_JV S hG hR rfl [.int ((v8 >>> ((8 * v14) &&& 31)) &&& 255)] (enc := fun _ => none) (fun zr zs zt zh => m_Rf_write X l a0 ((v8 >>> ((8 * v14) &&& 31)) &&& 255) zh) tw_6_175 tw_6_177 tp_2_4 tw_6_178 tw_1_11 q_Rf_write ⟨(Nat.le_of_ble_eq_true rfl), (Nat.le_of_ble_eq_true rfl)⟩ hl.1 rfl (Nat.le_of_ble_eq_true rfl) d_Rf_writeRecord_98 (fun _ => ?_)
        refine fs_Jeq (g2 := F0 m 101 ls []) rfl ?_
        refine fs_Jnm (fun v16 hv9 => ?_)
        refine fs_liftL (fun _ _ _ _ => lv_iinc (k := 6) (v := v16) (lv' := [(7, .int v16), (0, .ref a0), (1, .int x1), (2, .int x2), (3, .int x3), (4, .int v2), (5, .int v8)]) hx hb d_Rf_writeRecord_101 hl rfl (by rw [hv9]; rfl) (Nat.le_of_ble_eq_true rfl) rfl) (fun ls hl => ?_)
        refine fs_lift (fun _ _ _ _ => lv_goto hx hb d_Rf_writeRecord_104 rfl) ?_
        exact hk80 v16 ls (lv_sub hl [1, 2, 3, 4, 5, 6, 0] rfl)
    · refine fs_ifn (fun _ _ _ _ => lv_if_ne hx hb d_Rf_writeRecord_57 rfl) ?_ ?_
      · refine fs_lift (fun _ _ _ _ => lv_aload_n hx hb d_Rf_writeRecord_60 rfl (lv_at hl 2 rfl)) ?_
        refine fs_lift (fun _ _ _ _ => lv_iload hx hb d_Rf_writeRecord_61 (lv_at hl 1 rfl)) ?_
        refine fs_JV S hG hR rfl [.int v8] (enc := fun r => some (.int r)) (fun zr zs zt zh => m_Rf_widthOf X l a0 v8 zh) tw_6_191 tw_6_193 tp_2_7 tw_6_194 tw_1_11 q_Rf_widthOf ⟨(Nat.le_of_ble_eq_true rfl), (Nat.le_of_ble_eq_true rfl)⟩ hl.1 rfl (Nat.le_of_ble_eq_true rfl) d_Rf_writeRecord_63 (fun v11 => ?_)
        refine fs_Jeq (g2 := F0 m 66 ls [.int v11]) rfl ?_
        refine fs_liftL (fun _ _ _ _ => lv_istore (lv' := [(6, .int v11), (5, .int v8), (0, .ref a0), (1, .int x1), (2, .int x2), (3, .int x3), (4, .int v2)]) hx hb d_Rf_writeRecord_66 hl (Nat.le_of_ble_eq_true rfl) rfl) (fun ls hl => ?_)
        refine fs_lift (fun _ _ _ _ => lv_aload_n hx hb d_Rf_writeRecord_68 rfl (lv_at hl 2 rfl)) ?_
        refine fs_lift (fun _ _ _ _ => lv_iload hx hb d_Rf_writeRecord_69 (lv_at hl 0 rfl)) ?_
        refine fs_JV S hG hR rfl [.int v11] (enc := fun _ => none) (fun zr zs zt zh => m_Rf_write X l a0 v11 zh) tw_6_175 tw_6_177 tp_2_4 tw_6_178 tw_1_11 q_Rf_write ⟨(Nat.le_of_ble_eq_true rfl), (Nat.le_of_ble_eq_true rfl)⟩ hl.1 rfl (Nat.le_of_ble_eq_true rfl) d_Rf_writeRecord_71 (fun _ => ?_)
        refine fs_Jeq (g2 := F0 m 74 ls []) rfl ?_
        exact hj74 v11 ls (lv_sub hl [2, 3, 4, 5, 6, 1, 0] rfl)
      · exact hj74 v10 ls (lv_sub hl [2, 3, 4, 5, 6, 1, 0] rfl)

theorem d_Rf_report_0 : decode prog_13_method_25_code 0 = .ok (.aload_n 0, 1) := by decide +kernel
theorem d_Rf_report_1 : decode prog_13_method_25_code 1 = .ok (.aload_n 0, 1) := by decide +kernel
theorem d_Rf_report_2 : decode prog_13_method_25_code 2 = .ok (.iload_n 1, 1) := by decide +kernel
theorem d_Rf_report_3 : decode prog_13_method_25_code 3 = .ok (.invokevirtual 146, 3) := by decide +kernel
theorem d_Rf_report_6 : decode prog_13_method_25_code 6 = .ok (.ifCond .eq 7, 3) := by decide +kernel
theorem d_Rf_report_9 : decode prog_13_method_25_code 9 = .ok (.iconst 1, 1) := by decide +kernel
theorem d_Rf_report_10 : decode prog_13_method_25_code 10 = .ok (.goto 45, 3) := by decide +kernel
theorem d_Rf_report_13 : decode prog_13_method_25_code 13 = .ok (.aload_n 0, 1) := by decide +kernel
theorem d_Rf_report_14 : decode prog_13_method_25_code 14 = .ok (.getfield 46, 3) := by decide +kernel
theorem d_Rf_report_17 : decode prog_13_method_25_code 17 = .ok (.iload_n 1, 1) := by decide +kernel
theorem d_Rf_report_18 : decode prog_13_method_25_code 18 = .ok (.iaload, 1) := by decide +kernel
theorem d_Rf_report_19 : decode prog_13_method_25_code 19 = .ok (.ifCond .eq 31, 3) := by decide +kernel
theorem d_Rf_report_22 : decode prog_13_method_25_code 22 = .ok (.aload_n 0, 1) := by decide +kernel
theorem d_Rf_report_23 : decode prog_13_method_25_code 23 = .ok (.iload_n 1, 1) := by decide +kernel
theorem d_Rf_report_24 : decode prog_13_method_25_code 24 = .ok (.invokevirtual 184, 3) := by decide +kernel
theorem d_Rf_report_27 : decode prog_13_method_25_code 27 = .ok (.ifCond .lt 23, 3) := by decide +kernel
theorem d_Rf_report_30 : decode prog_13_method_25_code 30 = .ok (.aload_n 0, 1) := by decide +kernel
theorem d_Rf_report_31 : decode prog_13_method_25_code 31 = .ok (.getfield 22, 3) := by decide +kernel
theorem d_Rf_report_34 : decode prog_13_method_25_code 34 = .ok (.iload_n 1, 1) := by decide +kernel
theorem d_Rf_report_35 : decode prog_13_method_25_code 35 = .ok (.iaload, 1) := by decide +kernel
theorem d_Rf_report_36 : decode prog_13_method_25_code 36 = .ok (.bipush 100, 2) := by decide +kernel
theorem d_Rf_report_38 : decode prog_13_method_25_code 38 = .ok (.if_icmp .eq 12, 3) := by decide +kernel
theorem d_Rf_report_41 : decode prog_13_method_25_code 41 = .ok (.aload_n 0, 1) := by decide +kernel
theorem d_Rf_report_42 : decode prog_13_method_25_code 42 = .ok (.getfield 168, 3) := by decide +kernel
theorem d_Rf_report_45 : decode prog_13_method_25_code 45 = .ok (.bipush 30, 2) := by decide +kernel
theorem d_Rf_report_47 : decode prog_13_method_25_code 47 = .ok (.if_icmp .ne 7, 3) := by decide +kernel
theorem d_Rf_report_50 : decode prog_13_method_25_code 50 = .ok (.iconst 2, 1) := by decide +kernel
theorem d_Rf_report_51 : decode prog_13_method_25_code 51 = .ok (.goto 4, 3) := by decide +kernel
theorem d_Rf_report_54 : decode prog_13_method_25_code 54 = .ok (.iconst 0, 1) := by decide +kernel
theorem d_Rf_report_55 : decode prog_13_method_25_code 55 = .ok (.putfield 138, 3) := by decide +kernel
theorem d_Rf_report_58 : decode prog_13_method_25_code 58 = .ok (.aload_n 0, 1) := by decide +kernel
theorem d_Rf_report_59 : decode prog_13_method_25_code 59 = .ok (.getfield 138, 3) := by decide +kernel
theorem d_Rf_report_62 : decode prog_13_method_25_code 62 = .ok (.ifCond .eq 5, 3) := by decide +kernel
theorem d_Rf_report_65 : decode prog_13_method_25_code 65 = .ok (.iconst 0, 1) := by decide +kernel
theorem d_Rf_report_66 : decode prog_13_method_25_code 66 = .ok (.ireturn, 1) := by decide +kernel
theorem d_Rf_report_67 : decode prog_13_method_25_code 67 = .ok (.aload_n 0, 1) := by decide +kernel
theorem d_Rf_report_68 : decode prog_13_method_25_code 68 = .ok (.iload_n 1, 1) := by decide +kernel
theorem d_Rf_report_69 : decode prog_13_method_25_code 69 = .ok (.invokevirtual 184, 3) := by decide +kernel
theorem d_Rf_report_72 : decode prog_13_method_25_code 72 = .ok (.istore_n 2, 1) := by decide +kernel
theorem d_Rf_report_73 : decode prog_13_method_25_code 73 = .ok (.aload_n 0, 1) := by decide +kernel
theorem d_Rf_report_74 : decode prog_13_method_25_code 74 = .ok (.iload_n 1, 1) := by decide +kernel
theorem d_Rf_report_75 : decode prog_13_method_25_code 75 = .ok (.iconst 1, 1) := by decide +kernel
theorem d_Rf_report_76 : decode prog_13_method_25_code 76 = .ok (.invokevirtual 175, 3) := by decide +kernel
theorem d_Rf_report_79 : decode prog_13_method_25_code 79 = .ok (.aload_n 0, 1) := by decide +kernel
theorem d_Rf_report_80 : decode prog_13_method_25_code 80 = .ok (.iload_n 2, 1) := by decide +kernel
theorem d_Rf_report_81 : decode prog_13_method_25_code 81 = .ok (.iconst 3, 1) := by decide +kernel
theorem d_Rf_report_82 : decode prog_13_method_25_code 82 = .ok (.iload_n 1, 1) := by decide +kernel
theorem d_Rf_report_83 : decode prog_13_method_25_code 83 = .ok (.imul, 1) := by decide +kernel
theorem d_Rf_report_84 : decode prog_13_method_25_code 84 = .ok (.isub, 1) := by decide +kernel
theorem d_Rf_report_85 : decode prog_13_method_25_code 85 = .ok (.invokevirtual 171, 3) := by decide +kernel
theorem d_Rf_report_88 : decode prog_13_method_25_code 88 = .ok (.aload_n 0, 1) := by decide +kernel
theorem d_Rf_report_89 : decode prog_13_method_25_code 89 = .ok (.aload_n 0, 1) := by decide +kernel
theorem d_Rf_report_90 : decode prog_13_method_25_code 90 = .ok (.getfield 64, 3) := by decide +kernel
theorem d_Rf_report_93 : decode prog_13_method_25_code 93 = .ok (.iload_n 2, 1) := by decide +kernel
theorem d_Rf_report_94 : decode prog_13_method_25_code 94 = .ok (.iaload, 1) := by decide +kernel
theorem d_Rf_report_95 : decode prog_13_method_25_code 95 = .ok (.invokevirtual 171, 3) := by decide +kernel
theorem d_Rf_report_98 : decode prog_13_method_25_code 98 = .ok (.iconst 0, 1) := by decide +kernel
theorem d_Rf_report_99 : decode prog_13_method_25_code 99 = .ok (.istore_n 3, 1) := by decide +kernel
theorem d_Rf_report_100 : decode prog_13_method_25_code 100 = .ok (.bipush 57, 2) := by decide +kernel
theorem d_Rf_report_102 : decode prog_13_method_25_code 102 = .ok (.istore 4, 2) := by decide +kernel
theorem d_Rf_report_104 : decode prog_13_method_25_code 104 = .ok (.iload_n 3, 1) := by decide +kernel
theorem d_Rf_report_105 : decode prog_13_method_25_code 105 = .ok (.aload_n 0, 1) := by decide +kernel
theorem d_Rf_report_106 : decode prog_13_method_25_code 106 = .ok (.getfield 46, 3) := by decide +kernel
theorem d_Rf_report_109 : decode prog_13_method_25_code 109 = .ok (.iload_n 1, 1) := by decide +kernel
theorem d_Rf_report_110 : decode prog_13_method_25_code 110 = .ok (.iaload, 1) := by decide +kernel
theorem d_Rf_report_111 : decode prog_13_method_25_code 111 = .ok (.if_icmp .ge 46, 3) := by decide +kernel
theorem d_Rf_report_114 : decode prog_13_method_25_code 114 = .ok (.aload_n 0, 1) := by decide +kernel
theorem d_Rf_report_115 : decode prog_13_method_25_code 115 = .ok (.getfield 22, 3) := by decide +kernel
theorem d_Rf_report_118 : decode prog_13_method_25_code 118 = .ok (.iload_n 1, 1) := by decide +kernel
theorem d_Rf_report_119 : decode prog_13_method_25_code 119 = .ok (.iaload, 1) := by decide +kernel
theorem d_Rf_report_120 : decode prog_13_method_25_code 120 = .ok (.iload_n 3, 1) := by decide +kernel
theorem d_Rf_report_121 : decode prog_13_method_25_code 121 = .ok (.iadd, 1) := by decide +kernel
theorem d_Rf_report_122 : decode prog_13_method_25_code 122 = .ok (.bipush 100, 2) := by decide +kernel
theorem d_Rf_report_124 : decode prog_13_method_25_code 124 = .ok (.if_icmp .ge 33, 3) := by decide +kernel
theorem d_Rf_report_127 : decode prog_13_method_25_code 127 = .ok (.aload_n 0, 1) := by decide +kernel
theorem d_Rf_report_128 : decode prog_13_method_25_code 128 = .ok (.iload_n 1, 1) := by decide +kernel
theorem d_Rf_report_129 : decode prog_13_method_25_code 129 = .ok (.iload_n 2, 1) := by decide +kernel
theorem d_Rf_report_130 : decode prog_13_method_25_code 130 = .ok (.iload_n 3, 1) := by decide +kernel
theorem d_Rf_report_131 : decode prog_13_method_25_code 131 = .ok (.invokevirtual 187, 3) := by decide +kernel
theorem d_Rf_report_134 : decode prog_13_method_25_code 134 = .ok (.iload 4, 2) := by decide +kernel
theorem d_Rf_report_136 : decode prog_13_method_25_code 136 = .ok (.if_icmp .gt 21, 3) := by decide +kernel
theorem d_Rf_report_139 : decode prog_13_method_25_code 139 = .ok (.iload 4, 2) := by decide +kernel
theorem d_Rf_report_141 : decode prog_13_method_25_code 141 = .ok (.aload_n 0, 1) := by decide +kernel
theorem d_Rf_report_142 : decode prog_13_method_25_code 142 = .ok (.iload_n 1, 1) := by decide +kernel
theorem d_Rf_report_143 : decode prog_13_method_25_code 143 = .ok (.iload_n 2, 1) := by decide +kernel
theorem d_Rf_report_144 : decode prog_13_method_25_code 144 = .ok (.iload_n 3, 1) := by decide +kernel
theorem d_Rf_report_145 : decode prog_13_method_25_code 145 = .ok (.invokevirtual 187, 3) := by decide +kernel
theorem d_Rf_report_148 : decode prog_13_method_25_code 148 = .ok (.isub, 1) := by decide +kernel
theorem d_Rf_report_149 : decode prog_13_method_25_code 149 = .ok (.istore 4, 2) := by decide +kernel
theorem d_Rf_report_151 : decode prog_13_method_25_code 151 = .ok (.iinc 3 1, 3) := by decide +kernel
theorem d_Rf_report_154 : decode prog_13_method_25_code 154 = .ok (.goto (-50), 3) := by decide +kernel
theorem d_Rf_report_157 : decode prog_13_method_25_code 157 = .ok (.aload_n 0, 1) := by decide +kernel
theorem d_Rf_report_158 : decode prog_13_method_25_code 158 = .ok (.iload_n 3, 1) := by decide +kernel
theorem d_Rf_report_159 : decode prog_13_method_25_code 159 = .ok (.invokevirtual 171, 3) := by decide +kernel
theorem d_Rf_report_162 : decode prog_13_method_25_code 162 = .ok (.aload_n 0, 1) := by decide +kernel
theorem d_Rf_report_163 : decode prog_13_method_25_code 163 = .ok (.aload_n 0, 1) := by decide +kernel
theorem d_Rf_report_164 : decode prog_13_method_25_code 164 = .ok (.getfield 22, 3) := by decide +kernel
theorem d_Rf_report_167 : decode prog_13_method_25_code 167 = .ok (.iload_n 1, 1) := by decide +kernel
theorem d_Rf_report_168 : decode prog_13_method_25_code 168 = .ok (.iaload, 1) := by decide +kernel
theorem d_Rf_report_169 : decode prog_13_method_25_code 169 = .ok (.invokevirtual 171, 3) := by decide +kernel
theorem d_Rf_report_172 : decode prog_13_method_25_code 172 = .ok (.iconst 0, 1) := by decide +kernel
theorem d_Rf_report_173 : decode prog_13_method_25_code 173 = .ok (.istore 5, 2) := by decide +kernel
theorem d_Rf_report_175 : decode prog_13_method_25_code 175 = .ok (.iload 5, 2) := by decide +kernel
theorem d_Rf_report_177 : decode prog_13_method_25_code 177 = .ok (.iload_n 3, 1) := by decide +kernel
theorem d_Rf_report_178 : decode prog_13_method_25_code 178 = .ok (.if_icmp .ge 17, 3) := by decide +kernel
theorem d_Rf_report_181 : decode prog_13_method_25_code 181 = .ok (.aload_n 0, 1) := by decide +kernel
theorem d_Rf_report_182 : decode prog_13_method_25_code 182 = .ok (.iload_n 1, 1) := by decide +kernel
theorem d_Rf_report_183 : decode prog_13_method_25_code 183 = .ok (.iload_n 2, 1) := by decide +kernel
theorem d_Rf_report_184 : decode prog_13_method_25_code 184 = .ok (.iload 5, 2) := by decide +kernel
theorem d_Rf_report_186 : decode prog_13_method_25_code 186 = .ok (.invokevirtual 191, 3) := by decide +kernel
theorem d_Rf_report_189 : decode prog_13_method_25_code 189 = .ok (.iinc 5 1, 3) := by decide +kernel
theorem d_Rf_report_192 : decode prog_13_method_25_code 192 = .ok (.goto (-17), 3) := by decide +kernel
theorem d_Rf_report_195 : decode prog_13_method_25_code 195 = .ok (.aload_n 0, 1) := by decide +kernel
theorem d_Rf_report_196 : decode prog_13_method_25_code 196 = .ok (.getfield 46, 3) := by decide +kernel
theorem d_Rf_report_199 : decode prog_13_method_25_code 199 = .ok (.iload_n 1, 1) := by decide +kernel
theorem d_Rf_report_200 : decode prog_13_method_25_code 200 = .ok (.dup2, 1) := by decide +kernel
theorem d_Rf_report_201 : decode prog_13_method_25_code 201 = .ok (.iaload, 1) := by decide +kernel
theorem d_Rf_report_202 : decode prog_13_method_25_code 202 = .ok (.iload_n 3, 1) := by decide +kernel
theorem d_Rf_report_203 : decode prog_13_method_25_code 203 = .ok (.isub, 1) := by decide +kernel
theorem d_Rf_report_204 : decode prog_13_method_25_code 204 = .ok (.iastore, 1) := by decide +kernel
theorem d_Rf_report_205 : decode prog_13_method_25_code 205 = .ok (.sipush 168, 3) := by decide +kernel
theorem d_Rf_report_208 : decode prog_13_method_25_code 208 = .ok (.iload_n 1, 1) := by decide +kernel
theorem d_Rf_report_209 : decode prog_13_method_25_code 209 = .ok (.imul, 1) := by decide +kernel
theorem d_Rf_report_210 : decode prog_13_method_25_code 210 = .ok (.istore 5, 2) := by decide +kernel
theorem d_Rf_report_212 : decode prog_13_method_25_code 212 = .ok (.iload 5, 2) := by decide +kernel
theorem d_Rf_report_214 : decode prog_13_method_25_code 214 = .ok (.sipush 168, 3) := by decide +kernel
theorem d_Rf_report_217 : decode prog_13_method_25_code 217 = .ok (.iload_n 1, 1) := by decide +kernel
theorem d_Rf_report_218 : decode prog_13_method_25_code 218 = .ok (.imul, 1) := by decide +kernel
theorem d_Rf_report_219 : decode prog_13_method_25_code 219 = .ok (.bipush 8, 2) := by decide +kernel
theorem d_Rf_report_221 : decode prog_13_method_25_code 221 = .ok (.aload_n 0, 1) := by decide +kernel
theorem d_Rf_report_222 : decode prog_13_method_25_code 222 = .ok (.getfield 46, 3) := by decide +kernel
theorem d_Rf_report_225 : decode prog_13_method_25_code 225 = .ok (.iload_n 1, 1) := by decide +kernel
theorem d_Rf_report_226 : decode prog_13_method_25_code 226 = .ok (.iaload, 1) := by decide +kernel
theorem d_Rf_report_227 : decode prog_13_method_25_code 227 = .ok (.imul, 1) := by decide +kernel
theorem d_Rf_report_228 : decode prog_13_method_25_code 228 = .ok (.iadd, 1) := by decide +kernel
theorem d_Rf_report_229 : decode prog_13_method_25_code 229 = .ok (.if_icmp .ge 28, 3) := by decide +kernel
theorem d_Rf_report_232 : decode prog_13_method_25_code 232 = .ok (.aload_n 0, 1) := by decide +kernel
theorem d_Rf_report_233 : decode prog_13_method_25_code 233 = .ok (.getfield 49, 3) := by decide +kernel
theorem d_Rf_report_236 : decode prog_13_method_25_code 236 = .ok (.iload 5, 2) := by decide +kernel
theorem d_Rf_report_238 : decode prog_13_method_25_code 238 = .ok (.aload_n 0, 1) := by decide +kernel
theorem d_Rf_report_239 : decode prog_13_method_25_code 239 = .ok (.getfield 49, 3) := by decide +kernel
theorem d_Rf_report_242 : decode prog_13_method_25_code 242 = .ok (.iload 5, 2) := by decide +kernel
theorem d_Rf_report_244 : decode prog_13_method_25_code 244 = .ok (.bipush 8, 2) := by decide +kernel
theorem d_Rf_report_246 : decode prog_13_method_25_code 246 = .ok (.iload_n 3, 1) := by decide +kernel
theorem d_Rf_report_247 : decode prog_13_method_25_code 247 = .ok (.imul, 1) := by decide +kernel
theorem d_Rf_report_248 : decode prog_13_method_25_code 248 = .ok (.iadd, 1) := by decide +kernel
theorem d_Rf_report_249 : decode prog_13_method_25_code 249 = .ok (.iaload, 1) := by decide +kernel
theorem d_Rf_report_250 : decode prog_13_method_25_code 250 = .ok (.iastore, 1) := by decide +kernel
theorem d_Rf_report_251 : decode prog_13_method_25_code 251 = .ok (.iinc 5 1, 3) := by decide +kernel
theorem d_Rf_report_254 : decode prog_13_method_25_code 254 = .ok (.goto (-42), 3) := by decide +kernel
theorem d_Rf_report_257 : decode prog_13_method_25_code 257 = .ok (.aload_n 0, 1) := by decide +kernel
theorem d_Rf_report_258 : decode prog_13_method_25_code 258 = .ok (.getfield 22, 3) := by decide +kernel
theorem d_Rf_report_261 : decode prog_13_method_25_code 261 = .ok (.iload_n 1, 1) := by decide +kernel
theorem d_Rf_report_262 : decode prog_13_method_25_code 262 = .ok (.dup2, 1) := by decide +kernel
theorem d_Rf_report_263 : decode prog_13_method_25_code 263 = .ok (.iaload, 1) := by decide +kernel
theorem d_Rf_report_264 : decode prog_13_method_25_code 264 = .ok (.iload_n 3, 1) := by decide +kernel
theorem d_Rf_report_265 : decode prog_13_method_25_code 265 = .ok (.iadd, 1) := by decide +kernel
theorem d_Rf_report_266 : decode prog_13_method_25_code 266 = .ok (.iastore, 1) := by decide +kernel
theorem d_Rf_report_267 : decode prog_13_method_25_code 267 = .ok (.aload_n 0, 1) := by decide +kernel
theorem d_Rf_report_268 : decode prog_13_method_25_code 268 = .ok (.dup, 1) := by decide +kernel
theorem d_Rf_report_269 : decode prog_13_method_25_code 269 = .ok (.getfield 168, 3) := by decide +kernel
theorem d_Rf_report_272 : decode prog_13_method_25_code 272 = .ok (.iconst 1, 1) := by decide +kernel
theorem d_Rf_report_273 : decode prog_13_method_25_code 273 = .ok (.iadd, 1) := by decide +kernel
theorem d_Rf_report_274 : decode prog_13_method_25_code 274 = .ok (.putfield 168, 3) := by decide +kernel
theorem d_Rf_report_277 : decode prog_13_method_25_code 277 = .ok (.aload_n 0, 1) := by decide +kernel
theorem d_Rf_report_278 : decode prog_13_method_25_code 278 = .ok (.getfield 168, 3) := by decide +kernel
theorem d_Rf_report_281 : decode prog_13_method_25_code 281 = .ok (.iconst 1, 1) := by decide +kernel
theorem d_Rf_report_282 : decode prog_13_method_25_code 282 = .ok (.isub, 1) := by decide +kernel
theorem d_Rf_report_283 : decode prog_13_method_25_code 283 = .ok (.ireturn, 1) := by decide +kernel
theorem q_Rf_report : (⟨"FlowShelfModel", "report", "(I)I"⟩ : MethodName).cls ≠ "java/lang/invoke/MethodHandle" ∧ (⟨"FlowShelfModel", "report", "(I)I"⟩ : MethodName).cls ≠ "java/lang/invoke/VarHandle" ∧ (parseMethodDescriptor (⟨"FlowShelfModel", "report", "(I)I"⟩ : MethodName).desc).map (fun d => d.parameters.length) = some 1 := by decide +kernel
set_option maxHeartbeats 4000000 in
set_option maxRecDepth 100000 in
theorem m_Rf_report (X : fs_X) (l : Launch) (a0 : Nat) (x1 : Int32) {r : Int32} {σ σF : fs_S} (h : (f_Rf_report a0 x1).1 σ = some (r, σF)) : fs_Met X l ⟨"FlowShelfModel", "report", "(I)I"⟩ (Cond.code ⟨"FlowShelfModel", "report", "(I)I"⟩ prog_13_method_25_code 6 (some FieldType.int)) 2 48 [.ref a0, .int x1] σ (fs_eI r) σF := by
  refine fs_ofW (by decide) ?_
  intro p e s m args below meth c s₁ B hml hT hv
  obtain ⟨rfl, hw0, hG⟩ := hv
  have hx := B.exec
  have hb := B.bytes
  have hr := B.returns
  have hk := B.notSynchronized
  have S : CallFix p m c prog_13_method_25_code 6 s _ fs_ws "FlowShelfModel" := ⟨B.exec, B.bytes, hml, findClass_of_methodNamed B.named, fun w hw => atoms_spec (ws := _ :: fs_ws) B.pre w (List.mem_cons_of_mem _ hw)⟩
  have hR := fs_hR (fr := 2) (lo := 48) ((f_Rf_report a0 x1).2 _ _ _ h)
  have hl := lv_entry ([.ref a0, .int x1]) (n := 6) (Nat.le_of_ble_eq_true rfl)
  rw [lg_entry_eq]
  generalize (lg_sl ([.ref a0, .int x1]) ++ List.replicate (6 - (lg_sl ([.ref a0, .int x1])).length) Slot.unset).toArray = ls at hl ⊢
  have hl : lv_has ls 6 [(0, .ref a0), (1, .int x1)] := hl
  refine (?_ : fs_J X p l e (fs_rm 2 48 σ σF) s m _ below meth c (fs_Q X below _ s (fs_eI r) σ σF) r σ σF (f_Rf_report a0 x1) (F0 m 0 ls [])) σ s.heap [] 0 0 h hw0 va_S.rf rfl rfl
  clear h hw0
  unfold f_Rf_report
  refine fs_lift (fun _ _ _ _ => lv_aload_n hx hb d_Rf_report_0 rfl (lv_at hl 0 rfl)) ?_
  refine fs_lift (fun _ _ _ _ => lv_aload_n hx hb d_Rf_report_1 rfl (lv_at hl 0 rfl)) ?_
  refine fs_lift (fun _ _ _ _ => lv_iload_n hx hb d_Rf_report_2 rfl (lv_at hl 1 rfl)) ?_
  refine fs_JV S hG hR rfl [.int x1] (enc := fun r => some (.int r)) (fun zr zs zt zh => m_Rf_noExporter X l a0 x1 zh) tw_6_111 tw_6_113 tp_1_13 tw_6_114 tw_1_11 q_Rf_noExporter ⟨(Nat.le_of_ble_eq_true rfl), (Nat.le_of_ble_eq_true rfl)⟩ hl.1 rfl (Nat.le_of_ble_eq_true rfl) d_Rf_report_3 (fun v1 => ?_)
  refine fs_Jeq (g2 := F0 m 6 ls [.int v1, .ref a0]) rfl ?_
  refine fs_Jlet1 (nL := 6) (pj := 55) (I := fun (v8 : Int32) => [(0, .ref a0), (1, .int x1)]) (st := fun (v8 : Int32) => [.int v8, .ref a0]) (fun v8 ls hl => ?_) (fun j55 hj55 => ?_)
  · refine fs_Jput S hG fs_in12 rfl 0 (Nat.le_of_ble_eq_true rfl) tw_5_192 (fun _ h9 => h9) fs_Y12 fs_ty12 fs_nm12 (Or.inl rfl) rfl rfl d_Rf_report_55 ?_
    refine fs_lift (fun _ _ _ _ => lv_aload_n hx hb d_Rf_report_58 rfl (lv_at hl 0 rfl)) ?_
    refine fs_Jgi S hG fs_in12 rfl 0 (Nat.le_of_ble_eq_true rfl) tw_5_192 (fun _ h9 => h9) d_Rf_report_59 (fun v9 => ?_)
    refine fs_if (fun _ _ _ _ => lv_if_eq hx hb d_Rf_report_62 rfl) ?_ ?_
    · refine fs_lift (fun _ _ _ _ => lv_aload_n hx hb d_Rf_report_67 rfl (lv_at hl 0 rfl)) ?_
      refine fs_lift (fun _ _ _ _ => lv_iload_n hx hb d_Rf_report_68 rfl (lv_at hl 1 rfl)) ?_
      refine fs_JV S hG hR rfl [.int x1] (enc := fun r => some (.int r)) (fun zr zs zt zh => m_Rf_last X l a0 x1 zh) tw_6_183 tw_6_185 tp_2_5 tw_6_186 tw_1_11 q_Rf_last ⟨(Nat.le_of_ble_eq_true rfl), (Nat.le_of_ble_eq_true rfl)⟩ hl.1 rfl (Nat.le_of_ble_eq_true rfl) d_Rf_report_69 (fun v10 => ?_)
      refine fs_Jeq (g2 := F0 m 72 ls [.int v10]) rfl ?_
      refine fs_liftL (fun _ _ _ _ => lv_istore_n (lv' := [(2, .int v10), (0, .ref a0), (1, .int x1)]) hx hb d_Rf_report_72 rfl hl (Nat.le_of_ble_eq_true rfl) rfl) (fun ls hl => ?_)
      refine fs_lift (fun _ _ _ _ => lv_aload_n hx hb d_Rf_report_73 rfl (lv_at hl 1 rfl)) ?_
      refine fs_lift (fun _ _ _ _ => lv_iload_n hx hb d_Rf_report_74 rfl (lv_at hl 2 rfl)) ?_
      refine fs_lift (fun _ _ _ _ => lv_iconst (v := 1) hx hb d_Rf_report_75 (by decide)) ?_
      refine fs_JV S hG hR rfl [.int x1, .int 1] (enc := fun _ => none) (fun zr zs zt zh => m_Rf_head X l a0 x1 1 zh) tw_6_171 tw_6_173 tp_2_3 tw_6_174 tw_1_11 q_Rf_head ⟨(Nat.le_of_ble_eq_true rfl), (Nat.le_of_ble_eq_true rfl)⟩ hl.1 rfl (Nat.le_of_ble_eq_true rfl) d_Rf_report_76 (fun _ => ?_)
      refine fs_Jeq (g2 := F0 m 79 ls []) rfl ?_
      refine fs_lift (fun _ _ _ _ => lv_aload_n hx hb d_Rf_report_79 rfl (lv_at hl 1 rfl)) ?_
      refine fs_lift (fun _ _ _ _ => lv_iload_n hx hb d_Rf_report_80 rfl (lv_at hl 0 rfl)) ?_
      refine fs_lift (fun _ _ _ _ => lv_iconst (v := 3) hx hb d_Rf_report_81 (by decide)) ?_
      refine fs_lift (fun _ _ _ _ => lv_iload_n hx hb d_Rf_report_82 rfl (lv_at hl 2 rfl)) ?_
      refine fs_lift (fun _ _ _ _ => lv_imul hx hb d_Rf_report_83) ?_
      refine fs_lift (fun _ _ _ _ => lv_isub hx hb d_Rf_report_84) ?_
      refine fs_JV S hG hR rfl [.int (v10 - (3 * x1))] (enc := fun _ => none) (fun zr zs zt zh => m_Rf_write X l a0 (v10 - (3 * x1)) zh) tw_6_175 tw_6_177 tp_2_4 tw_6_178 tw_1_11 q_Rf_write ⟨(Nat.le_of_ble_eq_true rfl), (Nat.le_of_ble_eq_true rfl)⟩ hl.1 rfl (Nat.le_of_ble_eq_true rfl) d_Rf_report_85 (fun _ => ?_)
      refine fs_Jeq (g2 := F0 m 88 ls []) rfl ?_
      refine fs_lift (fun _ _ _ _ => lv_aload_n hx hb d_Rf_report_88 rfl (lv_at hl 1 rfl)) ?_
      refine fs_lift (fun _ _ _ _ => lv_aload_n hx hb d_Rf_report_89 rfl (lv_at hl 1 rfl)) ?_
      refine fs_Jgr S hG fs_in12 rfl 19 (Nat.le_of_ble_eq_true rfl) tw_5_211 (fun _ h9 => h9) d_Rf_report_90 (fun r11 => ?_)
      refine fs_lift (fun _ _ _ _ => lv_iload_n hx hb d_Rf_report_93 rfl (lv_at hl 0 rfl)) ?_
      refine fs_Jai S hG d_Rf_report_94 (fun v12 => ?_)
      refine fs_JV S hG hR rfl [.int v12] (enc := fun _ => none) (fun zr zs zt zh => m_Rf_write X l a0 v12 zh) tw_6_175 tw_6_177 tp_2_4 tw_6_178 tw_1_11 q_Rf_write ⟨(Nat.le_of_ble_eq_true rfl), (Nat.le_of_ble_eq_true rfl)⟩ hl.1 rfl (Nat.le_of_ble_eq_true rfl) d_Rf_report_95 (fun _ => ?_)
      refine fs_Jeq (g2 := F0 m 98 ls []) rfl ?_
      refine fs_lift (fun _ _ _ _ => lv_iconst (v := 0) hx hb d_Rf_report_98 (by decide)) ?_
      refine fs_liftL (fun _ _ _ _ => lv_istore_n (lv' := [(3, .int 0), (2, .int v10), (0, .ref a0), (1, .int x1)]) hx hb d_Rf_report_99 rfl hl (Nat.le_of_ble_eq_true rfl) rfl) (fun ls hl => ?_)
      refine fs_lift (fun _ _ _ _ => lv_bipush (v := 57) hx hb d_Rf_report_100 (by decide)) ?_
      refine fs_liftL (fun _ _ _ _ => lv_istore (lv' := [(4, .int 57), (3, .int 0), (2, .int v10), (0, .ref a0), (1, .int x1)]) hx hb d_Rf_report_102 hl (Nat.le_of_ble_eq_true rfl) rfl) (fun ls hl => ?_)
      refine fs_Jlp2 (nL := 6) (pc := 104) (rest := []) (I := fun (v13 : Int32) (v14 : Int32) => [(0, .ref a0), (1, .int x1), (2, .int v10), (3, .int v13), (4, .int v14)]) (fun k104 hk104 v13 v14 ls hl => ?_) _ _ _ _ (lv_sub hl [3, 4, 2, 1, 0] rfl)
      refine fs_lift (fun _ _ _ _ => lv_iload_n hx hb d_Rf_report_104 rfl (lv_at hl 3 rfl)) ?_
      refine fs_lift (fun _ _ _ _ => lv_aload_n hx hb d_Rf_report_105 rfl (lv_at hl 0 rfl)) ?_
      refine fs_Jgr S hG fs_in12 rfl 13 (Nat.le_of_ble_eq_true rfl) tw_5_205 (fun _ h9 => h9) d_Rf_report_106 (fun r15 => ?_)
      refine fs_lift (fun _ _ _ _ => lv_iload_n hx hb d_Rf_report_109 rfl (lv_at hl 1 rfl)) ?_
      refine fs_Jai S hG d_Rf_report_110 (fun v16 => ?_)
      refine fs_Jlet1 (nL := 6) (pj := 157) (I := fun (_ : Unit) => [(0, .ref a0), (1, .int x1), (2, .int v10), (3, .int v13)]) (st := fun (_ : Unit) => []) (fun _ ls hl => ?_) (fun j157 hj157 => ?_)
      · refine fs_lift (fun _ _ _ _ => lv_aload_n hx hb d_Rf_report_157 rfl (lv_at hl 0 rfl)) ?_
        refine fs_lift (fun _ _ _ _ => lv_iload_n hx hb d_Rf_report_158 rfl (lv_at hl 3 rfl)) ?_
        refine fs_JV S hG hR rfl [.int v13] (enc := fun _ => none) (fun zr zs zt zh => m_Rf_write X l a0 v13 zh) tw_6_175 tw_6_177 tp_2_4 tw_6_178 tw_1_11 q_Rf_write ⟨(Nat.le_of_ble_eq_true rfl), (Nat.le_of_ble_eq_true rfl)⟩ hl.1 rfl (Nat.le_of_ble_eq_true rfl) d_Rf_report_159 (fun _ => ?_)
        refine fs_Jeq (g2 := F0 m 162 ls []) rfl ?_
        refine fs_lift (fun _ _ _ _ => lv_aload_n hx hb d_Rf_report_162 rfl (lv_at hl 0 rfl)) ?_
        refine fs_lift (fun _ _ _ _ => lv_aload_n hx hb d_Rf_report_163 rfl (lv_at hl 0 rfl)) ?_
        refine fs_Jgr S hG fs_in12 rfl 5 (Nat.le_of_ble_eq_true rfl) tw_5_197 (fun _ h9 => h9) d_Rf_report_164 (fun r23 => ?_)
        refine fs_lift (fun _ _ _ _ => lv_iload_n hx hb d_Rf_report_167 rfl (lv_at hl 1 rfl)) ?_
        refine fs_Jai S hG d_Rf_report_168 (fun v24 => ?_)
        refine fs_JV S hG hR rfl [.int v24] (enc := fun _ => none) (fun zr zs zt zh => m_Rf_write X l a0 v24 zh) tw_6_175 tw_6_177 tp_2_4 tw_6_178 tw_1_11 q_Rf_write ⟨(Nat.le_of_ble_eq_true rfl), (Nat.le_of_ble_eq_true rfl)⟩ hl.1 rfl (Nat.le_of_ble_eq_true rfl) d_Rf_report_169 (fun _ => ?_)
        refine fs_Jeq (g2 := F0 m 172 ls []) rfl ?_
        refine fs_lift (fun _ _ _ _ => lv_iconst (v := 0) hx hb d_Rf_report_172 (by decide)) ?_
        refine fs_liftL (fun _ _ _ _ => lv_istore (lv' := [(5, .int 0), (0, .ref a0), (1, .int x1), (2, .int v10), (3, .int v13)]) hx hb d_Rf_report_173 hl (Nat.le_of_ble_eq_true rfl) rfl) (fun ls hl => ?_)
        refine fs_Jlp1 (nL := 6) (pc := 175) (rest := []) (I := fun (v25 : Int32) => [(0, .ref a0), (1, .int x1), (2, .int v10), (3, .int v13), (5, .int v25)]) (fun k175 hk175 v25 ls hl => ?_) _ _ _ (lv_sub hl [1, 2, 3, 4, 0] rfl)
        refine fs_lift (fun _ _ _ _ => lv_iload hx hb d_Rf_report_175 (lv_at hl 4 rfl)) ?_
        refine fs_lift (fun _ _ _ _ => lv_iload_n hx hb d_Rf_report_177 rfl (lv_at hl 3 rfl)) ?_
        refine fs_if (fun _ _ _ _ => lv_icmp_ge hx hb d_Rf_report_178 rfl) ?_ ?_
        · refine fs_lift (fun _ _ _ _ => lv_aload_n hx hb d_Rf_report_195 rfl (lv_at hl 0 rfl)) ?_
          refine fs_Jgr S hG fs_in12 rfl 13 (Nat.le_of_ble_eq_true rfl) tw_5_205 (fun _ h9 => h9) d_Rf_report_196 (fun r26 => ?_)
          refine fs_lift (fun _ _ _ _ => lv_iload_n hx hb d_Rf_report_199 rfl (lv_at hl 1 rfl)) ?_
          refine fs_lift (fun _ _ _ _ => lv_dup2_11 hx hb d_Rf_report_200 rfl rfl) ?_
          refine fs_Jai S hG d_Rf_report_201 (fun v27 => ?_)
          refine fs_lift (fun _ _ _ _ => lv_iload_n hx hb d_Rf_report_202 rfl (lv_at hl 3 rfl)) ?_
          refine fs_lift (fun _ _ _ _ => lv_isub hx hb d_Rf_report_203) ?_
          refine fs_Jsi S hG d_Rf_report_204 ?_
          refine fs_lift (fun _ _ _ _ => lv_sipush (v := 168) hx hb d_Rf_report_205 (by decide)) ?_
          refine fs_lift (fun _ _ _ _ => lv_iload_n hx hb d_Rf_report_208 rfl (lv_at hl 1 rfl)) ?_
          refine fs_lift (fun _ _ _ _ => lv_imul hx hb d_Rf_report_209) ?_
          refine fs_Jni (fun v28 => ?_)
          refine fs_liftL (fun _ _ _ _ => lv_istore (lv' := [(5, .int v28), (0, .ref a0), (1, .int x1), (2, .int v10), (3, .int v13)]) hx hb d_Rf_report_210 hl (Nat.le_of_ble_eq_true rfl) rfl) (fun ls hl => ?_)
          refine fs_Jlp1 (nL := 6) (pc := 212) (rest := []) (I := fun (v29 : Int32) => [(0, .ref a0), (1, .int x1), (3, .int v13), (5, .int v29)]) (fun k212 hk212 v29 ls hl => ?_) _ _ _ (lv_sub hl [1, 2, 4, 0] rfl)
          refine fs_lift (fun _ _ _ _ => lv_iload hx hb d_Rf_report_212 (lv_at hl 3 rfl)) ?_
          refine fs_lift (fun _ _ _ _ => lv_sipush (v := 168) hx hb d_Rf_report_214 (by decide)) ?_
          refine fs_lift (fun _ _ _ _ => lv_iload_n hx hb d_Rf_report_217 rfl (lv_at hl 1 rfl)) ?_
          refine fs_lift (fun _ _ _ _ => lv_imul hx hb d_Rf_report_218) ?_
          refine fs_lift (fun _ _ _ _ => lv_bipush (v := 8) hx hb d_Rf_report_219 (by decide)) ?_
          refine fs_lift (fun _ _ _ _ => lv_aload_n hx hb d_Rf_report_221 rfl (lv_at hl 0 rfl)) ?_
          refine fs_Jgr S hG fs_in12 rfl 13 (Nat.le_of_ble_eq_true rfl) tw_5_205 (fun _ h9 => h9) d_Rf_report_222 (fun r30 => ?_)
          refine fs_lift (fun _ _ _ _ => lv_iload_n hx hb d_Rf_report_225 rfl (lv_at hl 1 rfl)) ?_
          refine fs_Jai S hG d_Rf_report_226 (fun v31 => ?_)
          refine fs_lift (fun _ _ _ _ => lv_imul hx hb d_Rf_report_227) ?_
          refine fs_lift (fun _ _ _ _ => lv_iadd hx hb d_Rf_report_228) ?_
          refine fs_if (fun _ _ _ _ => lv_icmp_ge hx hb d_Rf_report_229 rfl) ?_ ?_
          · refine fs_lift (fun _ _ _ _ => lv_aload_n hx hb d_Rf_report_257 rfl (lv_at hl 0 rfl)) ?_
            refine fs_Jgr S hG fs_in12 rfl 5 (Nat.le_of_ble_eq_true rfl) tw_5_197 (fun _ h9 => h9) d_Rf_report_258 (fun r32 => ?_)
            refine fs_lift (fun _ _ _ _ => lv_iload_n hx hb d_Rf_report_261 rfl (lv_at hl 1 rfl)) ?_
            refine fs_lift (fun _ _ _ _ => lv_dup2_11 hx hb d_Rf_report_262 rfl rfl) ?_
            refine fs_Jai S hG d_Rf_report_263 (fun v33 => ?_)
            refine fs_lift (fun _ _ _ _ => lv_iload_n hx hb d_Rf_report_264 rfl (lv_at hl 2 rfl)) ?_
            refine fs_lift (fun _ _ _ _ => lv_iadd hx hb d_Rf_report_265) ?_
            refine fs_Jsi S hG d_Rf_report_266 ?_
            refine fs_lift (fun _ _ _ _ => lv_aload_n hx hb d_Rf_report_267 rfl (lv_at hl 0 rfl)) ?_
            refine fs_lift (fun _ _ _ _ => lv_dup hx hb d_Rf_report_268 rfl) ?_
            refine fs_Jgi S hG fs_in12 rfl 25 (Nat.le_of_ble_eq_true rfl) tw_5_217 (fun _ h9 => h9) d_Rf_report_269 (fun v34 => ?_)
            refine fs_lift (fun _ _ _ _ => lv_iconst (v := 1) hx hb d_Rf_report_272 (by decide)) ?_
            refine fs_lift (fun _ _ _ _ => lv_iadd hx hb d_Rf_report_273) ?_
            refine fs_Jput S hG fs_in12 rfl 25 (Nat.le_of_ble_eq_true rfl) tw_5_217 (fun _ h9 => h9) fs_Y12 fs_ty12 fs_nm12 (Or.inl rfl) rfl rfl d_Rf_report_274 ?_
            refine fs_lift (fun _ _ _ _ => lv_aload_n hx hb d_Rf_report_277 rfl (lv_at hl 0 rfl)) ?_
            refine fs_Jgi S hG fs_in12 rfl 25 (Nat.le_of_ble_eq_true rfl) tw_5_217 (fun _ h9 => h9) d_Rf_report_278 (fun v35 => ?_)
            refine fs_lift (fun _ _ _ _ => lv_iconst (v := 1) hx hb d_Rf_report_281 (by decide)) ?_
            refine fs_lift (fun _ _ _ _ => lv_isub hx hb d_Rf_report_282) ?_
            exact fs_Jiret S hr hk rfl d_Rf_report_283
          · refine fs_lift (fun _ _ _ _ => lv_aload_n hx hb d_Rf_report_232 rfl (lv_at hl 0 rfl)) ?_
            refine fs_Jgr S hG fs_in12 rfl 14 (Nat.le_of_ble_eq_true rfl) tw_5_206 (fun _ h9 => h9) d_Rf_report_233 (fun r36 => ?_)
            refine fs_lift (fun _ _ _ _ => lv_iload hx hb d_Rf_report_236 (lv_at hl 3 rfl)) ?_
            refine fs_lift (fun _ _ _ _ => lv_aload_n hx hb d_Rf_report_238 rfl (lv_at hl 0 rfl)) ?_
            refine fs_Jgr S hG fs_in12 rfl 14 (Nat.le_of_ble_eq_true rfl) tw_5_206 (fun _ h9 => h9) d_Rf_report_239 (fun r37 => ?_)
            refine fs_lift (fun _ _ _ _ => lv_iload hx hb d_Rf_report_242 (lv_at hl 3 rfl)) ?_
            refine fs_lift (fun _ _ _ _ => lv_bipush (v := 8) hx hb d_Rf_report_244 (by decide)) ?_
            refine fs_lift (fun _ _ _ _ => lv_iload_n hx hb d_Rf_report_246 rfl (lv_at hl 2 rfl)) ?_
            refine fs_lift (fun _ _ _ _ => lv_imul hx hb d_Rf_report_247) ?_
            refine fs_lift (fun _ _ _ _ => lv_iadd hx hb d_Rf_report_248) ?_
            refine fs_Jai S hG d_Rf_report_249 (fun v38 => ?_)
            refine fs_Jsi S hG d_Rf_report_250 ?_
            refine fs_Jnm (fun v39 hv9 => ?_)
            refine fs_liftL (fun _ _ _ _ => lv_iinc (k := 3) (v := v39) (lv' := [(5, .int v39), (0, .ref a0), (1, .int x1), (3, .int v13)]) hx hb d_Rf_report_251 hl rfl (by rw [hv9]; rfl) (Nat.le_of_ble_eq_true rfl) rfl) (fun ls hl => ?_)
            refine fs_lift (fun _ _ _ _ => lv_goto hx hb d_Rf_report_254 rfl) ?_
            exact hk212 v39 ls (lv_sub hl [1, 2, 3, 0] rfl)
        · refine fs_lift (fun _ _ _ _ => lv_aload_n hx hb d_Rf_report_181 rfl (lv_at hl 0 rfl)) ?_
          refine fs_lift (fun _ _ _ _ => lv_iload_n hx hb d_Rf_report_182 rfl (lv_at hl 1 rfl)) ?_
          refine fs_lift (fun _ _ _ _ => lv_iload_n hx hb d_Rf_report_183 rfl (lv_at hl 2 rfl)) ?_
          refine fs_lift (fun _ _ _ _ => lv_iload hx hb d_Rf_report_184 (lv_at hl 4 rfl)) ?_
          refine fs_JV S hG hR rfl [.int x1, .int v10, .int v25] (enc := fun _ => none) (fun zr zs zt zh => m_Rf_writeRecord X l a0 x1 v10 v25 zh) tw_6_197 tw_6_199 tp_2_8 tw_6_200 tw_1_11 q_Rf_writeRecord ⟨(Nat.le_of_ble_eq_true rfl), (Nat.le_of_ble_eq_true rfl)⟩ hl.1 rfl (Nat.le_of_ble_eq_true rfl) d_Rf_report_186 (fun _ => ?_)
          refine fs_Jeq (g2 := F0 m 189 ls []) rfl ?_
          refine fs_Jnm (fun v40 hv9 => ?_)
          refine fs_liftL (fun _ _ _ _ => lv_iinc (k := 4) (v := v40) (lv' := [(5, .int v40), (0, .ref a0), (1, .int x1), (2, .int v10), (3, .int v13)]) hx hb d_Rf_report_189 hl rfl (by rw [hv9]; rfl) (Nat.le_of_ble_eq_true rfl) rfl) (fun ls hl => ?_)
          refine fs_lift (fun _ _ _ _ => lv_goto hx hb d_Rf_report_192 rfl) ?_
          exact hk175 v40 ls (lv_sub hl [1, 2, 3, 4, 0] rfl)
      · refine fs_if (fun _ _ _ _ => lv_icmp_ge hx hb d_Rf_report_111 rfl) ?_ ?_
        · exact hj157 () ls (lv_sub hl [0, 1, 2, 3] rfl)
        · refine fs_lift (fun _ _ _ _ => lv_aload_n hx hb d_Rf_report_114 rfl (lv_at hl 0 rfl)) ?_
          refine fs_Jgr S hG fs_in12 rfl 5 (Nat.le_of_ble_eq_true rfl) tw_5_197 (fun _ h9 => h9) d_Rf_report_115 (fun r17 => ?_)
          refine fs_lift (fun _ _ _ _ => lv_iload_n hx hb d_Rf_report_118 rfl (lv_at hl 1 rfl)) ?_
          refine fs_Jai S hG d_Rf_report_119 (fun v18 => ?_)
          refine fs_lift (fun _ _ _ _ => lv_iload_n hx hb d_Rf_report_120 rfl (lv_at hl 3 rfl)) ?_
          refine fs_lift (fun _ _ _ _ => lv_iadd hx hb d_Rf_report_121) ?_
          refine fs_lift (fun _ _ _ _ => lv_bipush (v := 100) hx hb d_Rf_report_122 (by decide)) ?_
          refine fs_if (fun _ _ _ _ => lv_icmp_ge hx hb d_Rf_report_124 rfl) ?_ ?_
          · exact hj157 () ls (lv_sub hl [0, 1, 2, 3] rfl)
          · refine fs_lift (fun _ _ _ _ => lv_aload_n hx hb d_Rf_report_127 rfl (lv_at hl 0 rfl)) ?_
            refine fs_lift (fun _ _ _ _ => lv_iload_n hx hb d_Rf_report_128 rfl (lv_at hl 1 rfl)) ?_
            refine fs_lift (fun _ _ _ _ => lv_iload_n hx hb d_Rf_report_129 rfl (lv_at hl 2 rfl)) ?_
            refine fs_lift (fun _ _ _ _ => lv_iload_n hx hb d_Rf_report_130 rfl (lv_at hl 3 rfl)) ?_
            refine fs_JV S hG hR rfl [.int x1, .int v10, .int v13] (enc := fun r => some (.int r)) (fun zr zs zt zh => m_Rf_recordOf X l a0 x1 v10 v13 zh) tw_6_187 tw_6_189 tp_2_6 tw_6_190 tw_1_11 q_Rf_recordOf ⟨(Nat.le_of_ble_eq_true rfl), (Nat.le_of_ble_eq_true rfl)⟩ hl.1 rfl (Nat.le_of_ble_eq_true rfl) d_Rf_report_131 (fun v19 => ?_)
            refine fs_Jeq (g2 := F0 m 134 ls [.int v19]) rfl ?_
            refine fs_lift (fun _ _ _ _ => lv_iload hx hb d_Rf_report_134 (lv_at hl 4 rfl)) ?_
            refine fs_if (fun _ _ _ _ => lv_icmp_gt hx hb d_Rf_report_136 rfl) ?_ ?_
            · exact hj157 () ls (lv_sub hl [0, 1, 2, 3] rfl)
            · refine fs_lift (fun _ _ _ _ => lv_iload hx hb d_Rf_report_139 (lv_at hl 4 rfl)) ?_
              refine fs_lift (fun _ _ _ _ => lv_aload_n hx hb d_Rf_report_141 rfl (lv_at hl 0 rfl)) ?_
              refine fs_lift (fun _ _ _ _ => lv_iload_n hx hb d_Rf_report_142 rfl (lv_at hl 1 rfl)) ?_
              refine fs_lift (fun _ _ _ _ => lv_iload_n hx hb d_Rf_report_143 rfl (lv_at hl 2 rfl)) ?_
              refine fs_lift (fun _ _ _ _ => lv_iload_n hx hb d_Rf_report_144 rfl (lv_at hl 3 rfl)) ?_
              refine fs_JV S hG hR rfl [.int x1, .int v10, .int v13] (enc := fun r => some (.int r)) (fun zr zs zt zh => m_Rf_recordOf X l a0 x1 v10 v13 zh) tw_6_187 tw_6_189 tp_2_6 tw_6_190 tw_1_11 q_Rf_recordOf ⟨(Nat.le_of_ble_eq_true rfl), (Nat.le_of_ble_eq_true rfl)⟩ hl.1 rfl (Nat.le_of_ble_eq_true rfl) d_Rf_report_145 (fun v20 => ?_)
              refine fs_Jeq (g2 := F0 m 148 ls [.int v20, .int v14]) rfl ?_
              refine fs_lift (fun _ _ _ _ => lv_isub hx hb d_Rf_report_148) ?_
              refine fs_Jni (fun v21 => ?_)
              refine fs_liftL (fun _ _ _ _ => lv_istore (lv' := [(4, .int v21), (0, .ref a0), (1, .int x1), (2, .int v10), (3, .int v13)]) hx hb d_Rf_report_149 hl (Nat.le_of_ble_eq_true rfl) rfl) (fun ls hl => ?_)
              refine fs_Jnm (fun v22 hv9 => ?_)
              refine fs_liftL (fun _ _ _ _ => lv_iinc (k := 4) (v := v22) (lv' := [(3, .int v22), (4, .int v21), (0, .ref a0), (1, .int x1), (2, .int v10)]) hx hb d_Rf_report_151 hl rfl (by rw [hv9]; rfl) (Nat.le_of_ble_eq_true rfl) rfl) (fun ls hl => ?_)
              refine fs_lift (fun _ _ _ _ => lv_goto hx hb d_Rf_report_154 rfl) ?_
              exact hk104 v22 v21 ls (lv_sub hl [2, 3, 4, 0, 1] rfl)
    · refine fs_lift (fun _ _ _ _ => lv_iconst (v := 0) hx hb d_Rf_report_65 (by decide)) ?_
      exact fs_Jiret S hr hk rfl d_Rf_report_66
  · refine fs_if (fun _ _ _ _ => lv_if_eq hx hb d_Rf_report_6 rfl) ?_ ?_
    · refine fs_lift (fun _ _ _ _ => lv_aload_n hx hb d_Rf_report_13 rfl (lv_at hl 0 rfl)) ?_
      refine fs_Jgr S hG fs_in12 rfl 13 (Nat.le_of_ble_eq_true rfl) tw_5_205 (fun _ h9 => h9) d_Rf_report_14 (fun r2 => ?_)
      refine fs_lift (fun _ _ _ _ => lv_iload_n hx hb d_Rf_report_17 rfl (lv_at hl 1 rfl)) ?_
      refine fs_Jai S hG d_Rf_report_18 (fun v3 => ?_)
      refine fs_Jlet1 (nL := 6) (pj := 50) (I := fun (_ : Unit) => [(0, .ref a0), (1, .int x1)]) (st := fun (_ : Unit) => [.ref a0]) (fun _ ls hl => ?_) (fun j50 hj50 => ?_)
      · refine fs_lift (fun _ _ _ _ => lv_iconst (v := 2) hx hb d_Rf_report_50 (by decide)) ?_
        refine fs_lift (fun _ _ _ _ => lv_goto hx hb d_Rf_report_51 rfl) ?_
        exact hj55 2 ls (lv_sub hl [0, 1] rfl)
      · refine fs_if (fun _ _ _ _ => lv_if_eq hx hb d_Rf_report_19 rfl) ?_ ?_
        · exact hj50 () ls (lv_sub hl [0, 1] rfl)
        · refine fs_lift (fun _ _ _ _ => lv_aload_n hx hb d_Rf_report_22 rfl (lv_at hl 0 rfl)) ?_
          refine fs_lift (fun _ _ _ _ => lv_iload_n hx hb d_Rf_report_23 rfl (lv_at hl 1 rfl)) ?_
          refine fs_JV S hG hR rfl [.int x1] (enc := fun r => some (.int r)) (fun zr zs zt zh => m_Rf_last X l a0 x1 zh) tw_6_183 tw_6_185 tp_2_5 tw_6_186 tw_1_11 q_Rf_last ⟨(Nat.le_of_ble_eq_true rfl), (Nat.le_of_ble_eq_true rfl)⟩ hl.1 rfl (Nat.le_of_ble_eq_true rfl) d_Rf_report_24 (fun v4 => ?_)
          refine fs_Jeq (g2 := F0 m 27 ls [.int v4, .ref a0]) rfl ?_
          refine fs_if (fun _ _ _ _ => lv_if_lt hx hb d_Rf_report_27 rfl) ?_ ?_
          · exact hj50 () ls (lv_sub hl [0, 1] rfl)
          · refine fs_lift (fun _ _ _ _ => lv_aload_n hx hb d_Rf_report_30 rfl (lv_at hl 0 rfl)) ?_
            refine fs_Jgr S hG fs_in12 rfl 5 (Nat.le_of_ble_eq_true rfl) tw_5_197 (fun _ h9 => h9) d_Rf_report_31 (fun r5 => ?_)
            refine fs_lift (fun _ _ _ _ => lv_iload_n hx hb d_Rf_report_34 rfl (lv_at hl 1 rfl)) ?_
            refine fs_Jai S hG d_Rf_report_35 (fun v6 => ?_)
            refine fs_lift (fun _ _ _ _ => lv_bipush (v := 100) hx hb d_Rf_report_36 (by decide)) ?_
            refine fs_if (fun _ _ _ _ => lv_icmp_eq hx hb d_Rf_report_38 rfl) ?_ ?_
            · exact hj50 () ls (lv_sub hl [0, 1] rfl)
            · refine fs_lift (fun _ _ _ _ => lv_aload_n hx hb d_Rf_report_41 rfl (lv_at hl 0 rfl)) ?_
              refine fs_Jgi S hG fs_in12 rfl 25 (Nat.le_of_ble_eq_true rfl) tw_5_217 (fun _ h9 => h9) d_Rf_report_42 (fun v7 => ?_)
              refine fs_lift (fun _ _ _ _ => lv_bipush (v := 30) hx hb d_Rf_report_45 (by decide)) ?_
              refine fs_ifn (fun _ _ _ _ => lv_icmp_ne hx hb d_Rf_report_47 rfl) ?_ ?_
              · exact hj50 () ls (lv_sub hl [0, 1] rfl)
              · refine fs_lift (fun _ _ _ _ => lv_iconst (v := 0) hx hb d_Rf_report_54 (by decide)) ?_
                exact hj55 0 ls (lv_sub hl [0, 1] rfl)
    · refine fs_lift (fun _ _ _ _ => lv_iconst (v := 1) hx hb d_Rf_report_9 (by decide)) ?_
      refine fs_lift (fun _ _ _ _ => lv_goto hx hb d_Rf_report_10 rfl) ?_
      exact hj55 1 ls (lv_sub hl [0, 1] rfl)

theorem d_Rf_tell_0 : decode prog_13_method_26_code 0 = .ok (.aload_n 0, 1) := by decide +kernel
theorem d_Rf_tell_1 : decode prog_13_method_26_code 1 = .ok (.aload_n 0, 1) := by decide +kernel
theorem d_Rf_tell_2 : decode prog_13_method_26_code 2 = .ok (.iload_n 1, 1) := by decide +kernel
theorem d_Rf_tell_3 : decode prog_13_method_26_code 3 = .ok (.invokevirtual 146, 3) := by decide +kernel
theorem d_Rf_tell_6 : decode prog_13_method_26_code 6 = .ok (.ifCond .eq 7, 3) := by decide +kernel
theorem d_Rf_tell_9 : decode prog_13_method_26_code 9 = .ok (.iconst 1, 1) := by decide +kernel
theorem d_Rf_tell_10 : decode prog_13_method_26_code 10 = .ok (.goto 17, 3) := by decide +kernel
theorem d_Rf_tell_13 : decode prog_13_method_26_code 13 = .ok (.aload_n 0, 1) := by decide +kernel
theorem d_Rf_tell_14 : decode prog_13_method_26_code 14 = .ok (.getfield 168, 3) := by decide +kernel
theorem d_Rf_tell_17 : decode prog_13_method_26_code 17 = .ok (.bipush 30, 2) := by decide +kernel
theorem d_Rf_tell_19 : decode prog_13_method_26_code 19 = .ok (.if_icmp .ne 7, 3) := by decide +kernel
theorem d_Rf_tell_22 : decode prog_13_method_26_code 22 = .ok (.iconst 2, 1) := by decide +kernel
theorem d_Rf_tell_23 : decode prog_13_method_26_code 23 = .ok (.goto 4, 3) := by decide +kernel
theorem d_Rf_tell_26 : decode prog_13_method_26_code 26 = .ok (.iconst 0, 1) := by decide +kernel
theorem d_Rf_tell_27 : decode prog_13_method_26_code 27 = .ok (.putfield 138, 3) := by decide +kernel
theorem d_Rf_tell_30 : decode prog_13_method_26_code 30 = .ok (.aload_n 0, 1) := by decide +kernel
theorem d_Rf_tell_31 : decode prog_13_method_26_code 31 = .ok (.getfield 138, 3) := by decide +kernel
theorem d_Rf_tell_34 : decode prog_13_method_26_code 34 = .ok (.ifCond .eq 5, 3) := by decide +kernel
theorem d_Rf_tell_37 : decode prog_13_method_26_code 37 = .ok (.iconst 0, 1) := by decide +kernel
theorem d_Rf_tell_38 : decode prog_13_method_26_code 38 = .ok (.ireturn, 1) := by decide +kernel
theorem d_Rf_tell_39 : decode prog_13_method_26_code 39 = .ok (.aload_n 0, 1) := by decide +kernel
theorem d_Rf_tell_40 : decode prog_13_method_26_code 40 = .ok (.iload_n 1, 1) := by decide +kernel
theorem d_Rf_tell_41 : decode prog_13_method_26_code 41 = .ok (.iconst 2, 1) := by decide +kernel
theorem d_Rf_tell_42 : decode prog_13_method_26_code 42 = .ok (.invokevirtual 175, 3) := by decide +kernel
theorem d_Rf_tell_45 : decode prog_13_method_26_code 45 = .ok (.aload_n 0, 1) := by decide +kernel
theorem d_Rf_tell_46 : decode prog_13_method_26_code 46 = .ok (.aload_n 0, 1) := by decide +kernel
theorem d_Rf_tell_47 : decode prog_13_method_26_code 47 = .ok (.getfield 25, 3) := by decide +kernel
theorem d_Rf_tell_50 : decode prog_13_method_26_code 50 = .ok (.iload_n 1, 1) := by decide +kernel
theorem d_Rf_tell_51 : decode prog_13_method_26_code 51 = .ok (.iaload, 1) := by decide +kernel
theorem d_Rf_tell_52 : decode prog_13_method_26_code 52 = .ok (.invokevirtual 171, 3) := by decide +kernel
theorem d_Rf_tell_55 : decode prog_13_method_26_code 55 = .ok (.aload_n 0, 1) := by decide +kernel
theorem d_Rf_tell_56 : decode prog_13_method_26_code 56 = .ok (.aload_n 0, 1) := by decide +kernel
theorem d_Rf_tell_57 : decode prog_13_method_26_code 57 = .ok (.getfield 16, 3) := by decide +kernel
theorem d_Rf_tell_60 : decode prog_13_method_26_code 60 = .ok (.iload_n 1, 1) := by decide +kernel
theorem d_Rf_tell_61 : decode prog_13_method_26_code 61 = .ok (.iaload, 1) := by decide +kernel
theorem d_Rf_tell_62 : decode prog_13_method_26_code 62 = .ok (.invokevirtual 171, 3) := by decide +kernel
theorem d_Rf_tell_65 : decode prog_13_method_26_code 65 = .ok (.aload_n 0, 1) := by decide +kernel
theorem d_Rf_tell_66 : decode prog_13_method_26_code 66 = .ok (.getfield 25, 3) := by decide +kernel
theorem d_Rf_tell_69 : decode prog_13_method_26_code 69 = .ok (.iload_n 1, 1) := by decide +kernel
theorem d_Rf_tell_70 : decode prog_13_method_26_code 70 = .ok (.dup2, 1) := by decide +kernel
theorem d_Rf_tell_71 : decode prog_13_method_26_code 71 = .ok (.iaload, 1) := by decide +kernel
theorem d_Rf_tell_72 : decode prog_13_method_26_code 72 = .ok (.iconst 1, 1) := by decide +kernel
theorem d_Rf_tell_73 : decode prog_13_method_26_code 73 = .ok (.iadd, 1) := by decide +kernel
theorem d_Rf_tell_74 : decode prog_13_method_26_code 74 = .ok (.iastore, 1) := by decide +kernel
theorem d_Rf_tell_75 : decode prog_13_method_26_code 75 = .ok (.aload_n 0, 1) := by decide +kernel
theorem d_Rf_tell_76 : decode prog_13_method_26_code 76 = .ok (.dup, 1) := by decide +kernel
theorem d_Rf_tell_77 : decode prog_13_method_26_code 77 = .ok (.getfield 168, 3) := by decide +kernel
theorem d_Rf_tell_80 : decode prog_13_method_26_code 80 = .ok (.iconst 1, 1) := by decide +kernel
theorem d_Rf_tell_81 : decode prog_13_method_26_code 81 = .ok (.iadd, 1) := by decide +kernel
theorem d_Rf_tell_82 : decode prog_13_method_26_code 82 = .ok (.putfield 168, 3) := by decide +kernel
theorem d_Rf_tell_85 : decode prog_13_method_26_code 85 = .ok (.aload_n 0, 1) := by decide +kernel
theorem d_Rf_tell_86 : decode prog_13_method_26_code 86 = .ok (.getfield 168, 3) := by decide +kernel
theorem d_Rf_tell_89 : decode prog_13_method_26_code 89 = .ok (.iconst 1, 1) := by decide +kernel
theorem d_Rf_tell_90 : decode prog_13_method_26_code 90 = .ok (.isub, 1) := by decide +kernel
theorem d_Rf_tell_91 : decode prog_13_method_26_code 91 = .ok (.ireturn, 1) := by decide +kernel
theorem q_Rf_tell : (⟨"FlowShelfModel", "tell", "(I)I"⟩ : MethodName).cls ≠ "java/lang/invoke/MethodHandle" ∧ (⟨"FlowShelfModel", "tell", "(I)I"⟩ : MethodName).cls ≠ "java/lang/invoke/VarHandle" ∧ (parseMethodDescriptor (⟨"FlowShelfModel", "tell", "(I)I"⟩ : MethodName).desc).map (fun d => d.parameters.length) = some 1 := by decide +kernel
set_option maxHeartbeats 4000000 in
set_option maxRecDepth 100000 in
theorem m_Rf_tell (X : fs_X) (l : Launch) (a0 : Nat) (x1 : Int32) {r : Int32} {σ σF : fs_S} (h : (f_Rf_tell a0 x1).1 σ = some (r, σF)) : fs_Met X l ⟨"FlowShelfModel", "tell", "(I)I"⟩ (Cond.code ⟨"FlowShelfModel", "tell", "(I)I"⟩ prog_13_method_26_code 2 (some FieldType.int)) 2 43 [.ref a0, .int x1] σ (fs_eI r) σF := by
  refine fs_ofW (by decide) ?_
  intro p e s m args below meth c s₁ B hml hT hv
  obtain ⟨rfl, hw0, hG⟩ := hv
  have hx := B.exec
  have hb := B.bytes
  have hr := B.returns
  have hk := B.notSynchronized
  have S : CallFix p m c prog_13_method_26_code 2 s _ fs_ws "FlowShelfModel" := ⟨B.exec, B.bytes, hml, findClass_of_methodNamed B.named, fun w hw => atoms_spec (ws := _ :: fs_ws) B.pre w (List.mem_cons_of_mem _ hw)⟩
  have hR := fs_hR (fr := 2) (lo := 43) ((f_Rf_tell a0 x1).2 _ _ _ h)
  have hl := lv_entry ([.ref a0, .int x1]) (n := 2) (Nat.le_of_ble_eq_true rfl)
  rw [lg_entry_eq]
  generalize (lg_sl ([.ref a0, .int x1]) ++ List.replicate (2 - (lg_sl ([.ref a0, .int x1])).length) Slot.unset).toArray = ls at hl ⊢
  have hl : lv_has ls 2 [(0, .ref a0), (1, .int x1)] := hl
  refine (?_ : fs_J X p l e (fs_rm 2 43 σ σF) s m _ below meth c (fs_Q X below _ s (fs_eI r) σ σF) r σ σF (f_Rf_tell a0 x1) (F0 m 0 ls [])) σ s.heap [] 0 0 h hw0 va_S.rf rfl rfl
  clear h hw0
  unfold f_Rf_tell
  refine fs_lift (fun _ _ _ _ => lv_aload_n hx hb d_Rf_tell_0 rfl (lv_at hl 0 rfl)) ?_
  refine fs_lift (fun _ _ _ _ => lv_aload_n hx hb d_Rf_tell_1 rfl (lv_at hl 0 rfl)) ?_
  refine fs_lift (fun _ _ _ _ => lv_iload_n hx hb d_Rf_tell_2 rfl (lv_at hl 1 rfl)) ?_
  refine fs_JV S hG hR rfl [.int x1] (enc := fun r => some (.int r)) (fun zr zs zt zh => m_Rf_noExporter X l a0 x1 zh) tw_6_111 tw_6_113 tp_1_13 tw_6_114 tw_1_11 q_Rf_noExporter ⟨(Nat.le_of_ble_eq_true rfl), (Nat.le_of_ble_eq_true rfl)⟩ hl.1 rfl (Nat.le_of_ble_eq_true rfl) d_Rf_tell_3 (fun v1 => ?_)
  refine fs_Jeq (g2 := F0 m 6 ls [.int v1, .ref a0]) rfl ?_
  refine fs_Jlet1 (nL := 2) (pj := 27) (I := fun (v3 : Int32) => [(0, .ref a0), (1, .int x1)]) (st := fun (v3 : Int32) => [.int v3, .ref a0]) (fun v3 ls hl => ?_) (fun j27 hj27 => ?_)
  · refine fs_Jput S hG fs_in12 rfl 0 (Nat.le_of_ble_eq_true rfl) tw_5_192 (fun _ h9 => h9) fs_Y12 fs_ty12 fs_nm12 (Or.inl rfl) rfl rfl d_Rf_tell_27 ?_
    refine fs_lift (fun _ _ _ _ => lv_aload_n hx hb d_Rf_tell_30 rfl (lv_at hl 0 rfl)) ?_
    refine fs_Jgi S hG fs_in12 rfl 0 (Nat.le_of_ble_eq_true rfl) tw_5_192 (fun _ h9 => h9) d_Rf_tell_31 (fun v4 => ?_)
    refine fs_if (fun _ _ _ _ => lv_if_eq hx hb d_Rf_tell_34 rfl) ?_ ?_
    · refine fs_lift (fun _ _ _ _ => lv_aload_n hx hb d_Rf_tell_39 rfl (lv_at hl 0 rfl)) ?_
      refine fs_lift (fun _ _ _ _ => lv_iload_n hx hb d_Rf_tell_40 rfl (lv_at hl 1 rfl)) ?_
      refine fs_lift (fun _ _ _ _ => lv_iconst (v := 2) hx hb d_Rf_tell_41 (by decide)) ?_
      refine fs_JV S hG hR rfl [.int x1, .int 2] (enc := fun _ => none) (fun zr zs zt zh => m_Rf_head X l a0 x1 2 zh) tw_6_171 tw_6_173 tp_2_3 tw_6_174 tw_1_11 q_Rf_head ⟨(Nat.le_of_ble_eq_true rfl), (Nat.le_of_ble_eq_true rfl)⟩ hl.1 rfl (Nat.le_of_ble_eq_true rfl) d_Rf_tell_42 (fun _ => ?_)
      refine fs_Jeq (g2 := F0 m 45 ls []) rfl ?_
      refine fs_lift (fun _ _ _ _ => lv_aload_n hx hb d_Rf_tell_45 rfl (lv_at hl 0 rfl)) ?_
      refine fs_lift (fun _ _ _ _ => lv_aload_n hx hb d_Rf_tell_46 rfl (lv_at hl 0 rfl)) ?_
      refine fs_Jgr S hG fs_in12 rfl 6 (Nat.le_of_ble_eq_true rfl) tw_5_198 (fun _ h9 => h9) d_Rf_tell_47 (fun r5 => ?_)
      refine fs_lift (fun _ _ _ _ => lv_iload_n hx hb d_Rf_tell_50 rfl (lv_at hl 1 rfl)) ?_
      refine fs_Jai S hG d_Rf_tell_51 (fun v6 => ?_)
      refine fs_JV S hG hR rfl [.int v6] (enc := fun _ => none) (fun zr zs zt zh => m_Rf_write X l a0 v6 zh) tw_6_175 tw_6_177 tp_2_4 tw_6_178 tw_1_11 q_Rf_write ⟨(Nat.le_of_ble_eq_true rfl), (Nat.le_of_ble_eq_true rfl)⟩ hl.1 rfl (Nat.le_of_ble_eq_true rfl) d_Rf_tell_52 (fun _ => ?_)
      refine fs_Jeq (g2 := F0 m 55 ls []) rfl ?_
      refine fs_lift (fun _ _ _ _ => lv_aload_n hx hb d_Rf_tell_55 rfl (lv_at hl 0 rfl)) ?_
      refine fs_lift (fun _ _ _ _ => lv_aload_n hx hb d_Rf_tell_56 rfl (lv_at hl 0 rfl)) ?_
      refine fs_Jgr S hG fs_in12 rfl 3 (Nat.le_of_ble_eq_true rfl) tw_5_195 (fun _ h9 => h9) d_Rf_tell_57 (fun r7 => ?_)
      refine fs_lift (fun _ _ _ _ => lv_iload_n hx hb d_Rf_tell_60 rfl (lv_at hl 1 rfl)) ?_
      refine fs_Jai S hG d_Rf_tell_61 (fun v8 => ?_)
      refine fs_JV S hG hR rfl [.int v8] (enc := fun _ => none) (fun zr zs zt zh => m_Rf_write X l a0 v8 zh) tw_6_175 tw_6_177 tp_2_4 tw_6_178 tw_1_11 q_Rf_write ⟨(Nat.le_of_ble_eq_true rfl), (Nat.le_of_ble_eq_true rfl)⟩ hl.1 rfl (Nat.le_of_ble_eq_true rfl) d_Rf_tell_62 (fun _ => ?_)
      refine fs_Jeq (g2 := F0 m 65 ls []) rfl ?_
      refine fs_lift (fun _ _ _ _ => lv_aload_n hx hb d_Rf_tell_65 rfl (lv_at hl 0 rfl)) ?_
      refine fs_Jgr S hG fs_in12 rfl 6 (Nat.le_of_ble_eq_true rfl) tw_5_198 (fun _ h9 => h9) d_Rf_tell_66 (fun r9 => ?_)
      refine fs_lift (fun _ _ _ _ => lv_iload_n hx hb d_Rf_tell_69 rfl (lv_at hl 1 rfl)) ?_
      refine fs_lift (fun _ _ _ _ => lv_dup2_11 hx hb d_Rf_tell_70 rfl rfl) ?_
      refine fs_Jai S hG d_Rf_tell_71 (fun v10 => ?_)
      refine fs_lift (fun _ _ _ _ => lv_iconst (v := 1) hx hb d_Rf_tell_72 (by decide)) ?_
      refine fs_lift (fun _ _ _ _ => lv_iadd hx hb d_Rf_tell_73) ?_
      refine fs_Jsi S hG d_Rf_tell_74 ?_
      refine fs_lift (fun _ _ _ _ => lv_aload_n hx hb d_Rf_tell_75 rfl (lv_at hl 0 rfl)) ?_
      refine fs_lift (fun _ _ _ _ => lv_dup hx hb d_Rf_tell_76 rfl) ?_
      refine fs_Jgi S hG fs_in12 rfl 25 (Nat.le_of_ble_eq_true rfl) tw_5_217 (fun _ h9 => h9) d_Rf_tell_77 (fun v11 => ?_)
      refine fs_lift (fun _ _ _ _ => lv_iconst (v := 1) hx hb d_Rf_tell_80 (by decide)) ?_
      refine fs_lift (fun _ _ _ _ => lv_iadd hx hb d_Rf_tell_81) ?_
      refine fs_Jput S hG fs_in12 rfl 25 (Nat.le_of_ble_eq_true rfl) tw_5_217 (fun _ h9 => h9) fs_Y12 fs_ty12 fs_nm12 (Or.inl rfl) rfl rfl d_Rf_tell_82 ?_
      refine fs_lift (fun _ _ _ _ => lv_aload_n hx hb d_Rf_tell_85 rfl (lv_at hl 0 rfl)) ?_
      refine fs_Jgi S hG fs_in12 rfl 25 (Nat.le_of_ble_eq_true rfl) tw_5_217 (fun _ h9 => h9) d_Rf_tell_86 (fun v12 => ?_)
      refine fs_lift (fun _ _ _ _ => lv_iconst (v := 1) hx hb d_Rf_tell_89 (by decide)) ?_
      refine fs_lift (fun _ _ _ _ => lv_isub hx hb d_Rf_tell_90) ?_
      exact fs_Jiret S hr hk rfl d_Rf_tell_91
    · refine fs_lift (fun _ _ _ _ => lv_iconst (v := 0) hx hb d_Rf_tell_37 (by decide)) ?_
      exact fs_Jiret S hr hk rfl d_Rf_tell_38
  · refine fs_if (fun _ _ _ _ => lv_if_eq hx hb d_Rf_tell_6 rfl) ?_ ?_
    · refine fs_lift (fun _ _ _ _ => lv_aload_n hx hb d_Rf_tell_13 rfl (lv_at hl 0 rfl)) ?_
      refine fs_Jgi S hG fs_in12 rfl 25 (Nat.le_of_ble_eq_true rfl) tw_5_217 (fun _ h9 => h9) d_Rf_tell_14 (fun v2 => ?_)
      refine fs_lift (fun _ _ _ _ => lv_bipush (v := 30) hx hb d_Rf_tell_17 (by decide)) ?_
      refine fs_ifn (fun _ _ _ _ => lv_icmp_ne hx hb d_Rf_tell_19 rfl) ?_ ?_
      · refine fs_lift (fun _ _ _ _ => lv_iconst (v := 2) hx hb d_Rf_tell_22 (by decide)) ?_
        refine fs_lift (fun _ _ _ _ => lv_goto hx hb d_Rf_tell_23 rfl) ?_
        exact hj27 2 ls (lv_sub hl [0, 1] rfl)
      · refine fs_lift (fun _ _ _ _ => lv_iconst (v := 0) hx hb d_Rf_tell_26 (by decide)) ?_
        exact hj27 0 ls (lv_sub hl [0, 1] rfl)
    · refine fs_lift (fun _ _ _ _ => lv_iconst (v := 1) hx hb d_Rf_tell_9 (by decide)) ?_
      refine fs_lift (fun _ _ _ _ => lv_goto hx hb d_Rf_tell_10 rfl) ?_
      exact hj27 1 ls (lv_sub hl [0, 1] rfl)

theorem d_Rf_noReport_0 : decode prog_13_method_27_code 0 = .ok (.iload_n 1, 1) := by decide +kernel
theorem d_Rf_noReport_1 : decode prog_13_method_27_code 1 = .ok (.ifCond .lt 11, 3) := by decide +kernel
theorem d_Rf_noReport_4 : decode prog_13_method_27_code 4 = .ok (.iload_n 1, 1) := by decide +kernel
theorem d_Rf_noReport_5 : decode prog_13_method_27_code 5 = .ok (.aload_n 0, 1) := by decide +kernel
theorem d_Rf_noReport_6 : decode prog_13_method_27_code 6 = .ok (.getfield 168, 3) := by decide +kernel
theorem d_Rf_noReport_9 : decode prog_13_method_27_code 9 = .ok (.if_icmp .lt 7, 3) := by decide +kernel
theorem d_Rf_noReport_12 : decode prog_13_method_27_code 12 = .ok (.iconst 1, 1) := by decide +kernel
theorem d_Rf_noReport_13 : decode prog_13_method_27_code 13 = .ok (.goto 4, 3) := by decide +kernel
theorem d_Rf_noReport_16 : decode prog_13_method_27_code 16 = .ok (.iconst 0, 1) := by decide +kernel
theorem d_Rf_noReport_17 : decode prog_13_method_27_code 17 = .ok (.ireturn, 1) := by decide +kernel
theorem q_Rf_noReport : (⟨"FlowShelfModel", "noReport", "(I)Z"⟩ : MethodName).cls ≠ "java/lang/invoke/MethodHandle" ∧ (⟨"FlowShelfModel", "noReport", "(I)Z"⟩ : MethodName).cls ≠ "java/lang/invoke/VarHandle" ∧ (parseMethodDescriptor (⟨"FlowShelfModel", "noReport", "(I)Z"⟩ : MethodName).desc).map (fun d => d.parameters.length) = some 1 := by decide +kernel
set_option maxHeartbeats 4000000 in
set_option maxRecDepth 100000 in
theorem m_Rf_noReport (X : fs_X) (l : Launch) (a0 : Nat) (x1 : Int32) {r : Int32} {σ σF : fs_S} (h : (f_Rf_noReport a0 x1).1 σ = some (r, σF)) : fs_Met X l ⟨"FlowShelfModel", "noReport", "(I)Z"⟩ (Cond.code ⟨"FlowShelfModel", "noReport", "(I)Z"⟩ prog_13_method_27_code 2 (some FieldType.boolean)) 0 0 [.ref a0, .int x1] σ (fs_eI r) σF := by
  refine fs_ofW (by decide) ?_
  intro p e s m args below meth c s₁ B hml hT hv
  obtain ⟨rfl, hw0, hG⟩ := hv
  have hx := B.exec
  have hb := B.bytes
  have hr := B.returns
  have hk := B.notSynchronized
  have S : CallFix p m c prog_13_method_27_code 2 s _ fs_ws "FlowShelfModel" := ⟨B.exec, B.bytes, hml, findClass_of_methodNamed B.named, fun w hw => atoms_spec (ws := _ :: fs_ws) B.pre w (List.mem_cons_of_mem _ hw)⟩
  have hR := fs_hR (fr := 0) (lo := 0) ((f_Rf_noReport a0 x1).2 _ _ _ h)
  have hl := lv_entry ([.ref a0, .int x1]) (n := 2) (Nat.le_of_ble_eq_true rfl)
  rw [lg_entry_eq]
  generalize (lg_sl ([.ref a0, .int x1]) ++ List.replicate (2 - (lg_sl ([.ref a0, .int x1])).length) Slot.unset).toArray = ls at hl ⊢
  have hl : lv_has ls 2 [(0, .ref a0), (1, .int x1)] := hl
  refine (?_ : fs_J X p l e (fs_rm 0 0 σ σF) s m _ below meth c (fs_Q X below _ s (fs_eI r) σ σF) r σ σF (f_Rf_noReport a0 x1) (F0 m 0 ls [])) σ s.heap [] 0 0 h hw0 va_S.rf rfl rfl
  clear h hw0
  unfold f_Rf_noReport
  refine fs_lift (fun _ _ _ _ => lv_iload_n hx hb d_Rf_noReport_0 rfl (lv_at hl 1 rfl)) ?_
  refine fs_if (fun _ _ _ _ => lv_if_lt hx hb d_Rf_noReport_1 rfl) ?_ ?_
  · refine fs_lift (fun _ _ _ _ => lv_iconst (v := 1) hx hb d_Rf_noReport_12 (by decide)) ?_
    refine fs_lift (fun _ _ _ _ => lv_goto hx hb d_Rf_noReport_13 rfl) ?_
    exact fs_Jzret S hr hk rfl d_Rf_noReport_17
  · refine fs_lift (fun _ _ _ _ => lv_iload_n hx hb d_Rf_noReport_4 rfl (lv_at hl 1 rfl)) ?_
    refine fs_lift (fun _ _ _ _ => lv_aload_n hx hb d_Rf_noReport_5 rfl (lv_at hl 0 rfl)) ?_
    refine fs_Jgi S hG fs_in12 rfl 25 (Nat.le_of_ble_eq_true rfl) tw_5_217 (fun _ h9 => h9) d_Rf_noReport_6 (fun v1 => ?_)
    refine fs_if (fun _ _ _ _ => lv_icmp_lt hx hb d_Rf_noReport_9 rfl) ?_ ?_
    · refine fs_lift (fun _ _ _ _ => lv_iconst (v := 0) hx hb d_Rf_noReport_16 (by decide)) ?_
      exact fs_Jzret S hr hk rfl d_Rf_noReport_17
    · refine fs_lift (fun _ _ _ _ => lv_iconst (v := 1) hx hb d_Rf_noReport_12 (by decide)) ?_
      refine fs_lift (fun _ _ _ _ => lv_goto hx hb d_Rf_noReport_13 rfl) ?_
      exact fs_Jzret S hr hk rfl d_Rf_noReport_17

theorem d_Rf_size_0 : decode prog_13_method_28_code 0 = .ok (.aload_n 0, 1) := by decide +kernel
theorem d_Rf_size_1 : decode prog_13_method_28_code 1 = .ok (.iconst 0, 1) := by decide +kernel
theorem d_Rf_size_2 : decode prog_13_method_28_code 2 = .ok (.putfield 138, 3) := by decide +kernel
theorem d_Rf_size_5 : decode prog_13_method_28_code 5 = .ok (.aload_n 0, 1) := by decide +kernel
theorem d_Rf_size_6 : decode prog_13_method_28_code 6 = .ok (.iload_n 1, 1) := by decide +kernel
theorem d_Rf_size_7 : decode prog_13_method_28_code 7 = .ok (.invokevirtual 194, 3) := by decide +kernel
theorem d_Rf_size_10 : decode prog_13_method_28_code 10 = .ok (.ifCond .eq 7, 3) := by decide +kernel
theorem d_Rf_size_13 : decode prog_13_method_28_code 13 = .ok (.iconst (-1), 1) := by decide +kernel
theorem d_Rf_size_14 : decode prog_13_method_28_code 14 = .ok (.goto 9, 3) := by decide +kernel
theorem d_Rf_size_17 : decode prog_13_method_28_code 17 = .ok (.aload_n 0, 1) := by decide +kernel
theorem d_Rf_size_18 : decode prog_13_method_28_code 18 = .ok (.getfield 79, 3) := by decide +kernel
theorem d_Rf_size_21 : decode prog_13_method_28_code 21 = .ok (.iload_n 1, 1) := by decide +kernel
theorem d_Rf_size_22 : decode prog_13_method_28_code 22 = .ok (.iaload, 1) := by decide +kernel
theorem d_Rf_size_23 : decode prog_13_method_28_code 23 = .ok (.ireturn, 1) := by decide +kernel
theorem q_Rf_size : (⟨"FlowShelfModel", "size", "(I)I"⟩ : MethodName).cls ≠ "java/lang/invoke/MethodHandle" ∧ (⟨"FlowShelfModel", "size", "(I)I"⟩ : MethodName).cls ≠ "java/lang/invoke/VarHandle" ∧ (parseMethodDescriptor (⟨"FlowShelfModel", "size", "(I)I"⟩ : MethodName).desc).map (fun d => d.parameters.length) = some 1 := by decide +kernel
set_option maxHeartbeats 4000000 in
set_option maxRecDepth 100000 in
theorem m_Rf_size (X : fs_X) (l : Launch) (a0 : Nat) (x1 : Int32) {r : Int32} {σ σF : fs_S} (h : (f_Rf_size a0 x1).1 σ = some (r, σF)) : fs_Met X l ⟨"FlowShelfModel", "size", "(I)I"⟩ (Cond.code ⟨"FlowShelfModel", "size", "(I)I"⟩ prog_13_method_28_code 2 (some FieldType.int)) 1 21 [.ref a0, .int x1] σ (fs_eI r) σF := by
  refine fs_ofW (by decide) ?_
  intro p e s m args below meth c s₁ B hml hT hv
  obtain ⟨rfl, hw0, hG⟩ := hv
  have hx := B.exec
  have hb := B.bytes
  have hr := B.returns
  have hk := B.notSynchronized
  have S : CallFix p m c prog_13_method_28_code 2 s _ fs_ws "FlowShelfModel" := ⟨B.exec, B.bytes, hml, findClass_of_methodNamed B.named, fun w hw => atoms_spec (ws := _ :: fs_ws) B.pre w (List.mem_cons_of_mem _ hw)⟩
  have hR := fs_hR (fr := 1) (lo := 21) ((f_Rf_size a0 x1).2 _ _ _ h)
  have hl := lv_entry ([.ref a0, .int x1]) (n := 2) (Nat.le_of_ble_eq_true rfl)
  rw [lg_entry_eq]
  generalize (lg_sl ([.ref a0, .int x1]) ++ List.replicate (2 - (lg_sl ([.ref a0, .int x1])).length) Slot.unset).toArray = ls at hl ⊢
  have hl : lv_has ls 2 [(0, .ref a0), (1, .int x1)] := hl
  refine (?_ : fs_J X p l e (fs_rm 1 21 σ σF) s m _ below meth c (fs_Q X below _ s (fs_eI r) σ σF) r σ σF (f_Rf_size a0 x1) (F0 m 0 ls [])) σ s.heap [] 0 0 h hw0 va_S.rf rfl rfl
  clear h hw0
  unfold f_Rf_size
  refine fs_lift (fun _ _ _ _ => lv_aload_n hx hb d_Rf_size_0 rfl (lv_at hl 0 rfl)) ?_
  refine fs_lift (fun _ _ _ _ => lv_iconst (v := 0) hx hb d_Rf_size_1 (by decide)) ?_
  refine fs_Jput S hG fs_in12 rfl 0 (Nat.le_of_ble_eq_true rfl) tw_5_192 (fun _ h9 => h9) fs_Y12 fs_ty12 fs_nm12 (Or.inl rfl) rfl rfl d_Rf_size_2 ?_
  refine fs_lift (fun _ _ _ _ => lv_aload_n hx hb d_Rf_size_5 rfl (lv_at hl 0 rfl)) ?_
  refine fs_lift (fun _ _ _ _ => lv_iload_n hx hb d_Rf_size_6 rfl (lv_at hl 1 rfl)) ?_
  refine fs_JV S hG hR rfl [.int x1] (enc := fun r => some (.int r)) (fun zr zs zt zh => m_Rf_noReport X l a0 x1 zh) tw_6_209 tw_6_211 tp_2_9 tw_6_212 tw_1_11 q_Rf_noReport ⟨(Nat.le_of_ble_eq_true rfl), (Nat.le_of_ble_eq_true rfl)⟩ hl.1 rfl (Nat.le_of_ble_eq_true rfl) d_Rf_size_7 (fun v1 => ?_)
  refine fs_Jeq (g2 := F0 m 10 ls [.int v1]) rfl ?_
  refine fs_if (fun _ _ _ _ => lv_if_eq hx hb d_Rf_size_10 rfl) ?_ ?_
  · refine fs_lift (fun _ _ _ _ => lv_aload_n hx hb d_Rf_size_17 rfl (lv_at hl 0 rfl)) ?_
    refine fs_Jgr S hG fs_in12 rfl 26 (Nat.le_of_ble_eq_true rfl) tw_5_218 (fun _ h9 => h9) d_Rf_size_18 (fun r2 => ?_)
    refine fs_lift (fun _ _ _ _ => lv_iload_n hx hb d_Rf_size_21 rfl (lv_at hl 1 rfl)) ?_
    refine fs_Jai S hG d_Rf_size_22 (fun v3 => ?_)
    exact fs_Jiret S hr hk rfl d_Rf_size_23
  · refine fs_lift (fun _ _ _ _ => lv_iconst (v := (-1)) hx hb d_Rf_size_13 (by decide)) ?_
    refine fs_lift (fun _ _ _ _ => lv_goto hx hb d_Rf_size_14 rfl) ?_
    exact fs_Jiret S hr hk rfl d_Rf_size_23

theorem d_Rf_byteOf_0 : decode prog_13_method_29_code 0 = .ok (.aload_n 0, 1) := by decide +kernel
theorem d_Rf_byteOf_1 : decode prog_13_method_29_code 1 = .ok (.aload_n 0, 1) := by decide +kernel
theorem d_Rf_byteOf_2 : decode prog_13_method_29_code 2 = .ok (.iload_n 1, 1) := by decide +kernel
theorem d_Rf_byteOf_3 : decode prog_13_method_29_code 3 = .ok (.invokevirtual 194, 3) := by decide +kernel
theorem d_Rf_byteOf_6 : decode prog_13_method_29_code 6 = .ok (.ifCond .ne 29, 3) := by decide +kernel
theorem d_Rf_byteOf_9 : decode prog_13_method_29_code 9 = .ok (.iload_n 2, 1) := by decide +kernel
theorem d_Rf_byteOf_10 : decode prog_13_method_29_code 10 = .ok (.ifCond .lt 25, 3) := by decide +kernel
theorem d_Rf_byteOf_13 : decode prog_13_method_29_code 13 = .ok (.iload_n 2, 1) := by decide +kernel
theorem d_Rf_byteOf_14 : decode prog_13_method_29_code 14 = .ok (.aload_n 0, 1) := by decide +kernel
theorem d_Rf_byteOf_15 : decode prog_13_method_29_code 15 = .ok (.getfield 79, 3) := by decide +kernel
theorem d_Rf_byteOf_18 : decode prog_13_method_29_code 18 = .ok (.aload_n 0, 1) := by decide +kernel
theorem d_Rf_byteOf_19 : decode prog_13_method_29_code 19 = .ok (.iload_n 1, 1) := by decide +kernel
theorem d_Rf_byteOf_20 : decode prog_13_method_29_code 20 = .ok (.invokevirtual 194, 3) := by decide +kernel
theorem d_Rf_byteOf_23 : decode prog_13_method_29_code 23 = .ok (.ifCond .eq 7, 3) := by decide +kernel
theorem d_Rf_byteOf_26 : decode prog_13_method_29_code 26 = .ok (.iconst 0, 1) := by decide +kernel
theorem d_Rf_byteOf_27 : decode prog_13_method_29_code 27 = .ok (.goto 4, 3) := by decide +kernel
theorem d_Rf_byteOf_30 : decode prog_13_method_29_code 30 = .ok (.iload_n 1, 1) := by decide +kernel
theorem d_Rf_byteOf_31 : decode prog_13_method_29_code 31 = .ok (.iaload, 1) := by decide +kernel
theorem d_Rf_byteOf_32 : decode prog_13_method_29_code 32 = .ok (.if_icmp .lt 7, 3) := by decide +kernel
theorem d_Rf_byteOf_35 : decode prog_13_method_29_code 35 = .ok (.iconst 1, 1) := by decide +kernel
theorem d_Rf_byteOf_36 : decode prog_13_method_29_code 36 = .ok (.goto 4, 3) := by decide +kernel
theorem d_Rf_byteOf_39 : decode prog_13_method_29_code 39 = .ok (.iconst 0, 1) := by decide +kernel
theorem d_Rf_byteOf_40 : decode prog_13_method_29_code 40 = .ok (.putfield 138, 3) := by decide +kernel
theorem d_Rf_byteOf_43 : decode prog_13_method_29_code 43 = .ok (.aload_n 0, 1) := by decide +kernel
theorem d_Rf_byteOf_44 : decode prog_13_method_29_code 44 = .ok (.getfield 138, 3) := by decide +kernel
theorem d_Rf_byteOf_47 : decode prog_13_method_29_code 47 = .ok (.ifCond .ne 17, 3) := by decide +kernel
theorem d_Rf_byteOf_50 : decode prog_13_method_29_code 50 = .ok (.aload_n 0, 1) := by decide +kernel
theorem d_Rf_byteOf_51 : decode prog_13_method_29_code 51 = .ok (.getfield 82, 3) := by decide +kernel
theorem d_Rf_byteOf_54 : decode prog_13_method_29_code 54 = .ok (.bipush 64, 2) := by decide +kernel
theorem d_Rf_byteOf_56 : decode prog_13_method_29_code 56 = .ok (.iload_n 1, 1) := by decide +kernel
theorem d_Rf_byteOf_57 : decode prog_13_method_29_code 57 = .ok (.imul, 1) := by decide +kernel
theorem d_Rf_byteOf_58 : decode prog_13_method_29_code 58 = .ok (.iload_n 2, 1) := by decide +kernel
theorem d_Rf_byteOf_59 : decode prog_13_method_29_code 59 = .ok (.iadd, 1) := by decide +kernel
theorem d_Rf_byteOf_60 : decode prog_13_method_29_code 60 = .ok (.iaload, 1) := by decide +kernel
theorem d_Rf_byteOf_61 : decode prog_13_method_29_code 61 = .ok (.goto 4, 3) := by decide +kernel
theorem d_Rf_byteOf_64 : decode prog_13_method_29_code 64 = .ok (.iconst 0, 1) := by decide +kernel
theorem d_Rf_byteOf_65 : decode prog_13_method_29_code 65 = .ok (.ireturn, 1) := by decide +kernel
theorem q_Rf_byteOf : (⟨"FlowShelfModel", "byteOf", "(II)I"⟩ : MethodName).cls ≠ "java/lang/invoke/MethodHandle" ∧ (⟨"FlowShelfModel", "byteOf", "(II)I"⟩ : MethodName).cls ≠ "java/lang/invoke/VarHandle" ∧ (parseMethodDescriptor (⟨"FlowShelfModel", "byteOf", "(II)I"⟩ : MethodName).desc).map (fun d => d.parameters.length) = some 2 := by decide +kernel
set_option maxHeartbeats 4000000 in
set_option maxRecDepth 100000 in
theorem m_Rf_byteOf (X : fs_X) (l : Launch) (a0 : Nat) (x1 : Int32) (x2 : Int32) {r : Int32} {σ σF : fs_S} (h : (f_Rf_byteOf a0 x1 x2).1 σ = some (r, σF)) : fs_Met X l ⟨"FlowShelfModel", "byteOf", "(II)I"⟩ (Cond.code ⟨"FlowShelfModel", "byteOf", "(II)I"⟩ prog_13_method_29_code 3 (some FieldType.int)) 1 21 [.ref a0, .int x1, .int x2] σ (fs_eI r) σF := by
  refine fs_ofW (by decide) ?_
  intro p e s m args below meth c s₁ B hml hT hv
  obtain ⟨rfl, hw0, hG⟩ := hv
  have hx := B.exec
  have hb := B.bytes
  have hr := B.returns
  have hk := B.notSynchronized
  have S : CallFix p m c prog_13_method_29_code 3 s _ fs_ws "FlowShelfModel" := ⟨B.exec, B.bytes, hml, findClass_of_methodNamed B.named, fun w hw => atoms_spec (ws := _ :: fs_ws) B.pre w (List.mem_cons_of_mem _ hw)⟩
  have hR := fs_hR (fr := 1) (lo := 21) ((f_Rf_byteOf a0 x1 x2).2 _ _ _ h)
  have hl := lv_entry ([.ref a0, .int x1, .int x2]) (n := 3) (Nat.le_of_ble_eq_true rfl)
  rw [lg_entry_eq]
  generalize (lg_sl ([.ref a0, .int x1, .int x2]) ++ List.replicate (3 - (lg_sl ([.ref a0, .int x1, .int x2])).length) Slot.unset).toArray = ls at hl ⊢
  have hl : lv_has ls 3 [(0, .ref a0), (1, .int x1), (2, .int x2)] := hl
  refine (?_ : fs_J X p l e (fs_rm 1 21 σ σF) s m _ below meth c (fs_Q X below _ s (fs_eI r) σ σF) r σ σF (f_Rf_byteOf a0 x1 x2) (F0 m 0 ls [])) σ s.heap [] 0 0 h hw0 va_S.rf rfl rfl
  clear h hw0
  unfold f_Rf_byteOf
  refine fs_lift (fun _ _ _ _ => lv_aload_n hx hb d_Rf_byteOf_0 rfl (lv_at hl 0 rfl)) ?_
  refine fs_lift (fun _ _ _ _ => lv_aload_n hx hb d_Rf_byteOf_1 rfl (lv_at hl 0 rfl)) ?_
  refine fs_lift (fun _ _ _ _ => lv_iload_n hx hb d_Rf_byteOf_2 rfl (lv_at hl 1 rfl)) ?_
  refine fs_JV S hG hR rfl [.int x1] (enc := fun r => some (.int r)) (fun zr zs zt zh => m_Rf_noReport X l a0 x1 zh) tw_6_209 tw_6_211 tp_2_9 tw_6_212 tw_1_11 q_Rf_noReport ⟨(Nat.le_of_ble_eq_true rfl), (Nat.le_of_ble_eq_true rfl)⟩ hl.1 rfl (Nat.le_of_ble_eq_true rfl) d_Rf_byteOf_3 (fun v1 => ?_)
  refine fs_Jeq (g2 := F0 m 6 ls [.int v1, .ref a0]) rfl ?_
  refine fs_Jlet1 (nL := 3) (pj := 40) (I := fun (v6 : Int32) => [(0, .ref a0), (1, .int x1), (2, .int x2)]) (st := fun (v6 : Int32) => [.int v6, .ref a0]) (fun v6 ls hl => ?_) (fun j40 hj40 => ?_)
  · refine fs_Jput S hG fs_in12 rfl 0 (Nat.le_of_ble_eq_true rfl) tw_5_192 (fun _ h9 => h9) fs_Y12 fs_ty12 fs_nm12 (Or.inl rfl) rfl rfl d_Rf_byteOf_40 ?_
    refine fs_lift (fun _ _ _ _ => lv_aload_n hx hb d_Rf_byteOf_43 rfl (lv_at hl 0 rfl)) ?_
    refine fs_Jgi S hG fs_in12 rfl 0 (Nat.le_of_ble_eq_true rfl) tw_5_192 (fun _ h9 => h9) d_Rf_byteOf_44 (fun v7 => ?_)
    refine fs_ifn (fun _ _ _ _ => lv_if_ne hx hb d_Rf_byteOf_47 rfl) ?_ ?_
    · refine fs_lift (fun _ _ _ _ => lv_aload_n hx hb d_Rf_byteOf_50 rfl (lv_at hl 0 rfl)) ?_
      refine fs_Jgr S hG fs_in12 rfl 27 (Nat.le_of_ble_eq_true rfl) tw_5_219 (fun _ h9 => h9) d_Rf_byteOf_51 (fun r8 => ?_)
      refine fs_lift (fun _ _ _ _ => lv_bipush (v := 64) hx hb d_Rf_byteOf_54 (by decide)) ?_
      refine fs_lift (fun _ _ _ _ => lv_iload_n hx hb d_Rf_byteOf_56 rfl (lv_at hl 1 rfl)) ?_
      refine fs_lift (fun _ _ _ _ => lv_imul hx hb d_Rf_byteOf_57) ?_
      refine fs_lift (fun _ _ _ _ => lv_iload_n hx hb d_Rf_byteOf_58 rfl (lv_at hl 2 rfl)) ?_
      refine fs_lift (fun _ _ _ _ => lv_iadd hx hb d_Rf_byteOf_59) ?_
      refine fs_Jai S hG d_Rf_byteOf_60 (fun v9 => ?_)
      refine fs_lift (fun _ _ _ _ => lv_goto hx hb d_Rf_byteOf_61 rfl) ?_
      exact fs_Jiret S hr hk rfl d_Rf_byteOf_65
    · refine fs_lift (fun _ _ _ _ => lv_iconst (v := 0) hx hb d_Rf_byteOf_64 (by decide)) ?_
      exact fs_Jiret S hr hk rfl d_Rf_byteOf_65
  · refine fs_Jlet1 (nL := 3) (pj := 35) (I := fun (_ : Unit) => [(0, .ref a0), (1, .int x1), (2, .int x2)]) (st := fun (_ : Unit) => [.ref a0]) (fun _ ls hl => ?_) (fun j35 hj35 => ?_)
    · refine fs_lift (fun _ _ _ _ => lv_iconst (v := 1) hx hb d_Rf_byteOf_35 (by decide)) ?_
      refine fs_lift (fun _ _ _ _ => lv_goto hx hb d_Rf_byteOf_36 rfl) ?_
      exact hj40 1 ls (lv_sub hl [0, 1, 2] rfl)
    · refine fs_ifn (fun _ _ _ _ => lv_if_ne hx hb d_Rf_byteOf_6 rfl) ?_ ?_
      · refine fs_lift (fun _ _ _ _ => lv_iload_n hx hb d_Rf_byteOf_9 rfl (lv_at hl 2 rfl)) ?_
        refine fs_if (fun _ _ _ _ => lv_if_lt hx hb d_Rf_byteOf_10 rfl) ?_ ?_
        · exact hj35 () ls (lv_sub hl [0, 1, 2] rfl)
        · refine fs_lift (fun _ _ _ _ => lv_iload_n hx hb d_Rf_byteOf_13 rfl (lv_at hl 2 rfl)) ?_
          refine fs_lift (fun _ _ _ _ => lv_aload_n hx hb d_Rf_byteOf_14 rfl (lv_at hl 0 rfl)) ?_
          refine fs_Jgr S hG fs_in12 rfl 26 (Nat.le_of_ble_eq_true rfl) tw_5_218 (fun _ h9 => h9) d_Rf_byteOf_15 (fun r2 => ?_)
          refine fs_lift (fun _ _ _ _ => lv_aload_n hx hb d_Rf_byteOf_18 rfl (lv_at hl 0 rfl)) ?_
          refine fs_lift (fun _ _ _ _ => lv_iload_n hx hb d_Rf_byteOf_19 rfl (lv_at hl 1 rfl)) ?_
          refine fs_JV S hG hR rfl [.int x1] (enc := fun r => some (.int r)) (fun zr zs zt zh => m_Rf_noReport X l a0 x1 zh) tw_6_209 tw_6_211 tp_2_9 tw_6_212 tw_1_11 q_Rf_noReport ⟨(Nat.le_of_ble_eq_true rfl), (Nat.le_of_ble_eq_true rfl)⟩ hl.1 rfl (Nat.le_of_ble_eq_true rfl) d_Rf_byteOf_20 (fun v3 => ?_)
          refine fs_Jeq (g2 := F0 m 23 ls [.int v3, .ref r2, .int x2, .ref a0]) rfl ?_
          refine fs_Jlet1 (nL := 3) (pj := 31) (I := fun (v4 : Int32) => [(0, .ref a0), (1, .int x1), (2, .int x2)]) (st := fun (v4 : Int32) => [.int v4, .ref r2, .int x2, .ref a0]) (fun v4 ls hl => ?_) (fun j31 hj31 => ?_)
          · refine fs_Jai S hG d_Rf_byteOf_31 (fun v5 => ?_)
            refine fs_if (fun _ _ _ _ => lv_icmp_lt hx hb d_Rf_byteOf_32 rfl) ?_ ?_
            · refine fs_lift (fun _ _ _ _ => lv_iconst (v := 0) hx hb d_Rf_byteOf_39 (by decide)) ?_
              exact hj40 0 ls (lv_sub hl [0, 1, 2] rfl)
            · exact hj35 () ls (lv_sub hl [0, 1, 2] rfl)
          · refine fs_if (fun _ _ _ _ => lv_if_eq hx hb d_Rf_byteOf_23 rfl) ?_ ?_
            · refine fs_lift (fun _ _ _ _ => lv_iload_n hx hb d_Rf_byteOf_30 rfl (lv_at hl 1 rfl)) ?_
              exact hj31 x1 ls (lv_sub hl [0, 1, 2] rfl)
            · refine fs_lift (fun _ _ _ _ => lv_iconst (v := 0) hx hb d_Rf_byteOf_26 (by decide)) ?_
              refine fs_lift (fun _ _ _ _ => lv_goto hx hb d_Rf_byteOf_27 rfl) ?_
              exact hj31 0 ls (lv_sub hl [0, 1, 2] rfl)
      · exact hj35 () ls (lv_sub hl [0, 1, 2] rfl)

