/-! contracts of methods, walked by program -/
theorem d_Table_nearestReverse_0 : decode prog_11_method_9_code 0 = .ok (.aload_n 0, 1) := by decide +kernel
theorem d_Table_nearestReverse_1 : decode prog_11_method_9_code 1 = .ok (.getfield 12, 3) := by decide +kernel
theorem d_Table_nearestReverse_4 : decode prog_11_method_9_code 4 = .ok (.iload_n 1, 1) := by decide +kernel
theorem d_Table_nearestReverse_5 : decode prog_11_method_9_code 5 = .ok (.invokevirtual 37, 3) := by decide +kernel
theorem d_Table_nearestReverse_8 : decode prog_11_method_9_code 8 = .ok (.checkcast 41, 3) := by decide +kernel
theorem d_Table_nearestReverse_11 : decode prog_11_method_9_code 11 = .ok (.astore_n 2, 1) := by decide +kernel
theorem d_Table_nearestReverse_12 : decode prog_11_method_9_code 12 = .ok (.iconst (-1), 1) := by decide +kernel
theorem d_Table_nearestReverse_13 : decode prog_11_method_9_code 13 = .ok (.istore_n 3, 1) := by decide +kernel
theorem d_Table_nearestReverse_14 : decode prog_11_method_9_code 14 = .ok (.iconst 0, 1) := by decide +kernel
theorem d_Table_nearestReverse_15 : decode prog_11_method_9_code 15 = .ok (.istore 4, 2) := by decide +kernel
theorem d_Table_nearestReverse_17 : decode prog_11_method_9_code 17 = .ok (.iload 4, 2) := by decide +kernel
theorem d_Table_nearestReverse_19 : decode prog_11_method_9_code 19 = .ok (.aload_n 0, 1) := by decide +kernel
theorem d_Table_nearestReverse_20 : decode prog_11_method_9_code 20 = .ok (.getfield 12, 3) := by decide +kernel
theorem d_Table_nearestReverse_23 : decode prog_11_method_9_code 23 = .ok (.invokevirtual 25, 3) := by decide +kernel
theorem d_Table_nearestReverse_26 : decode prog_11_method_9_code 26 = .ok (.if_icmp .ge 93, 3) := by decide +kernel
theorem d_Table_nearestReverse_29 : decode prog_11_method_9_code 29 = .ok (.aload_n 0, 1) := by decide +kernel
theorem d_Table_nearestReverse_30 : decode prog_11_method_9_code 30 = .ok (.getfield 12, 3) := by decide +kernel
theorem d_Table_nearestReverse_33 : decode prog_11_method_9_code 33 = .ok (.iload 4, 2) := by decide +kernel
theorem d_Table_nearestReverse_35 : decode prog_11_method_9_code 35 = .ok (.invokevirtual 37, 3) := by decide +kernel
theorem d_Table_nearestReverse_38 : decode prog_11_method_9_code 38 = .ok (.checkcast 41, 3) := by decide +kernel
theorem d_Table_nearestReverse_41 : decode prog_11_method_9_code 41 = .ok (.astore 5, 2) := by decide +kernel
theorem d_Table_nearestReverse_43 : decode prog_11_method_9_code 43 = .ok (.iload 4, 2) := by decide +kernel
theorem d_Table_nearestReverse_45 : decode prog_11_method_9_code 45 = .ok (.iload_n 1, 1) := by decide +kernel
theorem d_Table_nearestReverse_46 : decode prog_11_method_9_code 46 = .ok (.if_icmp .eq 67, 3) := by decide +kernel
theorem d_Table_nearestReverse_49 : decode prog_11_method_9_code 49 = .ok (.aload_n 0, 1) := by decide +kernel
theorem d_Table_nearestReverse_50 : decode prog_11_method_9_code 50 = .ok (.getfield 18, 3) := by decide +kernel
theorem d_Table_nearestReverse_53 : decode prog_11_method_9_code 53 = .ok (.iload 4, 2) := by decide +kernel
theorem d_Table_nearestReverse_55 : decode prog_11_method_9_code 55 = .ok (.iaload, 1) := by decide +kernel
theorem d_Table_nearestReverse_56 : decode prog_11_method_9_code 56 = .ok (.iconst (-1), 1) := by decide +kernel
theorem d_Table_nearestReverse_57 : decode prog_11_method_9_code 57 = .ok (.if_icmp .ne 56, 3) := by decide +kernel
theorem d_Table_nearestReverse_60 : decode prog_11_method_9_code 60 = .ok (.aload 5, 2) := by decide +kernel
theorem d_Table_nearestReverse_62 : decode prog_11_method_9_code 62 = .ok (.invokevirtual 76, 3) := by decide +kernel
theorem d_Table_nearestReverse_65 : decode prog_11_method_9_code 65 = .ok (.ifCond .eq 48, 3) := by decide +kernel
theorem d_Table_nearestReverse_68 : decode prog_11_method_9_code 68 = .ok (.aload 5, 2) := by decide +kernel
theorem d_Table_nearestReverse_70 : decode prog_11_method_9_code 70 = .ok (.aload_n 2, 1) := by decide +kernel
theorem d_Table_nearestReverse_71 : decode prog_11_method_9_code 71 = .ok (.invokevirtual 84, 3) := by decide +kernel
theorem d_Table_nearestReverse_74 : decode prog_11_method_9_code 74 = .ok (.ifCond .ne 6, 3) := by decide +kernel
theorem d_Table_nearestReverse_77 : decode prog_11_method_9_code 77 = .ok (.goto 36, 3) := by decide +kernel
theorem d_Table_nearestReverse_80 : decode prog_11_method_9_code 80 = .ok (.iload_n 3, 1) := by decide +kernel
theorem d_Table_nearestReverse_81 : decode prog_11_method_9_code 81 = .ok (.iconst (-1), 1) := by decide +kernel
theorem d_Table_nearestReverse_82 : decode prog_11_method_9_code 82 = .ok (.if_icmp .eq 28, 3) := by decide +kernel
theorem d_Table_nearestReverse_85 : decode prog_11_method_9_code 85 = .ok (.aload 5, 2) := by decide +kernel
theorem d_Table_nearestReverse_87 : decode prog_11_method_9_code 87 = .ok (.aload_n 2, 1) := by decide +kernel
theorem d_Table_nearestReverse_88 : decode prog_11_method_9_code 88 = .ok (.invokevirtual 88, 3) := by decide +kernel
theorem d_Table_nearestReverse_91 : decode prog_11_method_9_code 91 = .ok (.aload_n 0, 1) := by decide +kernel
theorem d_Table_nearestReverse_92 : decode prog_11_method_9_code 92 = .ok (.getfield 12, 3) := by decide +kernel
theorem d_Table_nearestReverse_95 : decode prog_11_method_9_code 95 = .ok (.iload_n 3, 1) := by decide +kernel
theorem d_Table_nearestReverse_96 : decode prog_11_method_9_code 96 = .ok (.invokevirtual 37, 3) := by decide +kernel
theorem d_Table_nearestReverse_99 : decode prog_11_method_9_code 99 = .ok (.checkcast 41, 3) := by decide +kernel
theorem d_Table_nearestReverse_102 : decode prog_11_method_9_code 102 = .ok (.aload_n 2, 1) := by decide +kernel
theorem d_Table_nearestReverse_103 : decode prog_11_method_9_code 103 = .ok (.invokevirtual 88, 3) := by decide +kernel
theorem d_Table_nearestReverse_106 : decode prog_11_method_9_code 106 = .ok (.lcmp, 1) := by decide +kernel
theorem d_Table_nearestReverse_107 : decode prog_11_method_9_code 107 = .ok (.ifCond .ge 6, 3) := by decide +kernel
theorem d_Table_nearestReverse_110 : decode prog_11_method_9_code 110 = .ok (.iload 4, 2) := by decide +kernel
theorem d_Table_nearestReverse_112 : decode prog_11_method_9_code 112 = .ok (.istore_n 3, 1) := by decide +kernel
theorem d_Table_nearestReverse_113 : decode prog_11_method_9_code 113 = .ok (.iinc 4 1, 3) := by decide +kernel
theorem d_Table_nearestReverse_116 : decode prog_11_method_9_code 116 = .ok (.goto (-99), 3) := by decide +kernel
theorem d_Table_nearestReverse_119 : decode prog_11_method_9_code 119 = .ok (.iload_n 3, 1) := by decide +kernel
theorem d_Table_nearestReverse_120 : decode prog_11_method_9_code 120 = .ok (.ireturn, 1) := by decide +kernel
theorem q_Table_nearestReverse : (⟨"FlowShelf$Table", "nearestReverse", "(I)I"⟩ : MethodName).cls ≠ "java/lang/invoke/MethodHandle" ∧ (⟨"FlowShelf$Table", "nearestReverse", "(I)I"⟩ : MethodName).cls ≠ "java/lang/invoke/VarHandle" ∧ (parseMethodDescriptor (⟨"FlowShelf$Table", "nearestReverse", "(I)I"⟩ : MethodName).desc).map (fun d => d.parameters.length) = some 1 := by decide +kernel
set_option maxHeartbeats 4000000 in
set_option maxRecDepth 100000 in
theorem m_Table_nearestReverse (X : fs_X) (l : Launch) (a0 : Nat) (x1 : Int32) {r : Int32} {σ σF : fs_S} (h : (f_Table_nearestReverse a0 x1).1 σ = some (r, σF)) : fs_Met X l ⟨"FlowShelf$Table", "nearestReverse", "(I)I"⟩ (Cond.code ⟨"FlowShelf$Table", "nearestReverse", "(I)I"⟩ prog_11_method_9_code 6 (some FieldType.int)) 3 64 [.ref a0, .int x1] σ (fs_eI r) σF := by
  refine fs_ofW (by decide) ?_
  intro p e s m args below meth c s₁ B hml hT hv
  obtain ⟨rfl, hw0, hG⟩ := hv
  have hx := B.exec
  have hb := B.bytes
  have hr := B.returns
  have hk := B.notSynchronized
  have S : CallFix p m c prog_11_method_9_code 6 s _ fs_ws "FlowShelf$Table" := ⟨B.exec, B.bytes, hml, findClass_of_methodNamed B.named, fun w hw => atoms_spec (ws := _ :: fs_ws) B.pre w (List.mem_cons_of_mem _ hw)⟩
  have hR := fs_hR (fr := 3) (lo := 64) ((f_Table_nearestReverse a0 x1).2 _ _ _ h)
  have hl := lv_entry ([.ref a0, .int x1]) (n := 6) (Nat.le_of_ble_eq_true rfl)
  rw [lg_entry_eq]
  generalize (lg_sl ([.ref a0, .int x1]) ++ List.replicate (6 - (lg_sl ([.ref a0, .int x1])).length) Slot.unset).toArray = ls at hl ⊢
  have hl : lv_has ls 6 [(0, .ref a0), (1, .int x1)] := hl
  refine (?_ : fs_J X p l e (fs_rm 3 64 σ σF) s m _ below meth c (fs_Q X below _ s (fs_eI r) σ σF) r σ σF (f_Table_nearestReverse a0 x1) (F0 m 0 ls [])) σ s.heap [] 0 0 h hw0 va_S.rf rfl rfl
  clear h hw0
  unfold f_Table_nearestReverse
  refine fs_lift (fun _ _ _ _ => lv_aload_n hx hb d_Table_nearestReverse_0 rfl (lv_at hl 0 rfl)) ?_
  refine fs_Jgr S hG fs_in6 rfl 0 (Nat.le_of_ble_eq_true rfl) tw_1_183 (fun _ h9 => h9) d_Table_nearestReverse_1 (fun r1 => ?_)
  refine fs_lift (fun _ _ _ _ => lv_iload_n hx hb d_Table_nearestReverse_4 rfl (lv_at hl 1 rfl)) ?_
  refine fs_JV S hG hR rfl [.int x1] (enc := fun r => some (.ref r)) (fun zr zs zt zh => m_ArrayList_get X l r1 x1 zh) tw_5_114 tw_2_33 tw_2_34 tw_2_35 tw_1_5 q_ArrayList_get ⟨(Nat.le_of_ble_eq_true rfl), (Nat.le_of_ble_eq_true rfl)⟩ hl.1 rfl (Nat.le_of_ble_eq_true rfl) d_Table_nearestReverse_5 (fun r2 => ?_)
  refine fs_Jeq (g2 := F0 m 8 ls [.ref r2]) rfl ?_
  refine fs_Jck S hG rfl tw_5_115 tb_7_83 d_Table_nearestReverse_8 ?_
  refine fs_liftL (fun _ _ _ _ => lv_astore_n (lv' := [(2, .ref r2), (0, .ref a0), (1, .int x1)]) hx hb d_Table_nearestReverse_11 rfl hl (Nat.le_of_ble_eq_true rfl) rfl) (fun ls hl => ?_)
  refine fs_lift (fun _ _ _ _ => lv_iconst (v := (-1)) hx hb d_Table_nearestReverse_12 (by decide)) ?_
  refine fs_liftL (fun _ _ _ _ => lv_istore_n (lv' := [(3, .int (-1)), (2, .ref r2), (0, .ref a0), (1, .int x1)]) hx hb d_Table_nearestReverse_13 rfl hl (Nat.le_of_ble_eq_true rfl) rfl) (fun ls hl => ?_)
  refine fs_lift (fun _ _ _ _ => lv_iconst (v := 0) hx hb d_Table_nearestReverse_14 (by decide)) ?_
  refine fs_liftL (fun _ _ _ _ => lv_istore (lv' := [(4, .int 0), (3, .int (-1)), (2, .ref r2), (0, .ref a0), (1, .int x1)]) hx hb d_Table_nearestReverse_15 hl (Nat.le_of_ble_eq_true rfl) rfl) (fun ls hl => ?_)
  refine fs_Jlp2 (nL := 6) (pc := 17) (rest := []) (I := fun (v3 : Int32) (v4 : Int32) => [(0, .ref a0), (1, .int x1), (2, .ref r2), (3, .int v3), (4, .int v4)]) (fun k17 hk17 v3 v4 ls hl => ?_) _ _ _ _ (lv_sub hl [3, 4, 2, 1, 0] rfl)
  refine fs_lift (fun _ _ _ _ => lv_iload hx hb d_Table_nearestReverse_17 (lv_at hl 4 rfl)) ?_
  refine fs_lift (fun _ _ _ _ => lv_aload_n hx hb d_Table_nearestReverse_19 rfl (lv_at hl 0 rfl)) ?_
  refine fs_Jgr S hG fs_in6 rfl 0 (Nat.le_of_ble_eq_true rfl) tw_1_183 (fun _ h9 => h9) d_Table_nearestReverse_20 (fun r5 => ?_)
  refine fs_JV S hG hR rfl [] (enc := fun r => some (.int r)) (fun zr zs zt zh => m_ArrayList_size X l r5 zh) tw_4_193 tw_2_29 tw_2_30 tw_2_31 tw_1_5 q_ArrayList_size ⟨(Nat.le_of_ble_eq_true rfl), (Nat.le_of_ble_eq_true rfl)⟩ hl.1 rfl (Nat.le_of_ble_eq_true rfl) d_Table_nearestReverse_23 (fun v6 => ?_)
  refine fs_Jeq (g2 := F0 m 26 ls [.int v6, .int v4]) rfl ?_
  refine fs_if (fun _ _ _ _ => lv_icmp_ge hx hb d_Table_nearestReverse_26 rfl) ?_ ?_
  · refine fs_lift (fun _ _ _ _ => lv_iload_n hx hb d_Table_nearestReverse_119 rfl (lv_at hl 3 rfl)) ?_
    exact fs_Jiret S hr hk rfl d_Table_nearestReverse_120
  · refine fs_lift (fun _ _ _ _ => lv_aload_n hx hb d_Table_nearestReverse_29 rfl (lv_at hl 0 rfl)) ?_
    refine fs_Jgr S hG fs_in6 rfl 0 (Nat.le_of_ble_eq_true rfl) tw_1_183 (fun _ h9 => h9) d_Table_nearestReverse_30 (fun r7 => ?_)
    refine fs_lift (fun _ _ _ _ => lv_iload hx hb d_Table_nearestReverse_33 (lv_at hl 4 rfl)) ?_
    refine fs_JV S hG hR rfl [.int v4] (enc := fun r => some (.ref r)) (fun zr zs zt zh => m_ArrayList_get X l r7 v4 zh) tw_5_114 tw_2_33 tw_2_34 tw_2_35 tw_1_5 q_ArrayList_get ⟨(Nat.le_of_ble_eq_true rfl), (Nat.le_of_ble_eq_true rfl)⟩ hl.1 rfl (Nat.le_of_ble_eq_true rfl) d_Table_nearestReverse_35 (fun r8 => ?_)
    refine fs_Jeq (g2 := F0 m 38 ls [.ref r8]) rfl ?_
    refine fs_Jck S hG rfl tw_5_115 tb_7_83 d_Table_nearestReverse_38 ?_
    refine fs_liftL (fun _ _ _ _ => lv_astore (lv' := [(5, .ref r8), (0, .ref a0), (1, .int x1), (2, .ref r2), (3, .int v3), (4, .int v4)]) hx hb d_Table_nearestReverse_41 hl (Nat.le_of_ble_eq_true rfl) rfl) (fun ls hl => ?_)
    refine fs_lift (fun _ _ _ _ => lv_iload hx hb d_Table_nearestReverse_43 (lv_at hl 5 rfl)) ?_
    refine fs_lift (fun _ _ _ _ => lv_iload_n hx hb d_Table_nearestReverse_45 rfl (lv_at hl 2 rfl)) ?_
    refine fs_Jlet1 (nL := 6) (pj := 113) (I := fun (v17 : Int32) => [(0, .ref a0), (1, .int x1), (2, .ref r2), (3, .int v17), (4, .int v4)]) (st := fun (v17 : Int32) => []) (fun v17 ls hl => ?_) (fun j113 hj113 => ?_)
    · refine fs_Jnm (fun v18 hv9 => ?_)
      refine fs_liftL (fun _ _ _ _ => lv_iinc (k := 4) (v := v18) (lv' := [(4, .int v18), (0, .ref a0), (1, .int x1), (2, .ref r2), (3, .int v17)]) hx hb d_Table_nearestReverse_113 hl rfl (by rw [hv9]; rfl) (Nat.le_of_ble_eq_true rfl) rfl) (fun ls hl => ?_)
      refine fs_lift (fun _ _ _ _ => lv_goto hx hb d_Table_nearestReverse_116 rfl) ?_
      exact hk17 v17 v18 ls (lv_sub hl [1, 2, 3, 4, 0] rfl)
    · refine fs_if (fun _ _ _ _ => lv_icmp_eq hx hb d_Table_nearestReverse_46 rfl) ?_ ?_
      · exact hj113 v3 ls (lv_sub hl [1, 2, 3, 4, 5] rfl)
      · refine fs_lift (fun _ _ _ _ => lv_aload_n hx hb d_Table_nearestReverse_49 rfl (lv_at hl 1 rfl)) ?_
        refine fs_Jgr S hG fs_in6 rfl 1 (Nat.le_of_ble_eq_true rfl) tw_1_186 (fun _ h9 => h9) d_Table_nearestReverse_50 (fun r9 => ?_)
        refine fs_lift (fun _ _ _ _ => lv_iload hx hb d_Table_nearestReverse_53 (lv_at hl 5 rfl)) ?_
        refine fs_Jai S hG d_Table_nearestReverse_55 (fun v10 => ?_)
        refine fs_lift (fun _ _ _ _ => lv_iconst (v := (-1)) hx hb d_Table_nearestReverse_56 (by decide)) ?_
        refine fs_ifn (fun _ _ _ _ => lv_icmp_ne hx hb d_Table_nearestReverse_57 rfl) ?_ ?_
        · refine fs_lift (fun _ _ _ _ => lv_aload hx hb d_Table_nearestReverse_60 (lv_at hl 0 rfl)) ?_
          refine fs_JV S hG hR rfl [] (enc := fun r => some (.int r)) (fun zr zs zt zh => m_Row_canBePaired X l r8 zh) tw_5_142 tw_5_143 tw_5_144 tw_5_145 tw_1_28 q_Row_canBePaired ⟨(Nat.le_of_ble_eq_true rfl), (Nat.le_of_ble_eq_true rfl)⟩ hl.1 rfl (Nat.le_of_ble_eq_true rfl) d_Table_nearestReverse_62 (fun v11 => ?_)
          refine fs_Jeq (g2 := F0 m 65 ls [.int v11]) rfl ?_
          refine fs_if (fun _ _ _ _ => lv_if_eq hx hb d_Table_nearestReverse_65 rfl) ?_ ?_
          · exact hj113 v3 ls (lv_sub hl [1, 2, 3, 4, 5] rfl)
          · refine fs_lift (fun _ _ _ _ => lv_aload hx hb d_Table_nearestReverse_68 (lv_at hl 0 rfl)) ?_
            refine fs_lift (fun _ _ _ _ => lv_aload_n hx hb d_Table_nearestReverse_70 rfl (lv_at hl 3 rfl)) ?_
            refine fs_JV S hG hR rfl [.ref r2] (enc := fun r => some (.int r)) (fun zr zs zt zh => m_Row_isReverseOf X l r8 r2 zh) tw_5_155 tw_5_156 tw_5_157 tw_5_158 tw_1_28 q_Row_isReverseOf ⟨(Nat.le_of_ble_eq_true rfl), (Nat.le_of_ble_eq_true rfl)⟩ hl.1 rfl (Nat.le_of_ble_eq_true rfl) d_Table_nearestReverse_71 (fun v12 => ?_)
            refine fs_Jeq (g2 := F0 m 74 ls [.int v12]) rfl ?_
            refine fs_ifn (fun _ _ _ _ => lv_if_ne hx hb d_Table_nearestReverse_74 rfl) ?_ ?_
            · refine fs_lift (fun _ _ _ _ => lv_goto hx hb d_Table_nearestReverse_77 rfl) ?_
              exact hj113 v3 ls (lv_sub hl [1, 2, 3, 4, 5] rfl)
            · refine fs_lift (fun _ _ _ _ => lv_iload_n hx hb d_Table_nearestReverse_80 rfl (lv_at hl 4 rfl)) ?_
              refine fs_lift (fun _ _ _ _ => lv_iconst (v := (-1)) hx hb d_Table_nearestReverse_81 (by decide)) ?_
              refine fs_Jlet1 (nL := 6) (pj := 110) (I := fun (_ : Unit) => [(0, .ref a0), (1, .int x1), (2, .ref r2), (4, .int v4)]) (st := fun (_ : Unit) => []) (fun _ ls hl => ?_) (fun j110 hj110 => ?_)
              · refine fs_lift (fun _ _ _ _ => lv_iload hx hb d_Table_nearestReverse_110 (lv_at hl 3 rfl)) ?_
                refine fs_liftL (fun _ _ _ _ => lv_istore_n (lv' := [(3, .int v4), (0, .ref a0), (1, .int x1), (2, .ref r2), (4, .int v4)]) hx hb d_Table_nearestReverse_112 rfl hl (Nat.le_of_ble_eq_true rfl) rfl) (fun ls hl => ?_)
                exact hj113 v4 ls (lv_sub hl [1, 2, 3, 0, 4] rfl)
              · refine fs_if (fun _ _ _ _ => lv_icmp_eq hx hb d_Table_nearestReverse_82 rfl) ?_ ?_
                · exact hj110 () ls (lv_sub hl [1, 2, 3, 5] rfl)
                · refine fs_lift (fun _ _ _ _ => lv_aload hx hb d_Table_nearestReverse_85 (lv_at hl 0 rfl)) ?_
                  refine fs_lift (fun _ _ _ _ => lv_aload_n hx hb d_Table_nearestReverse_87 rfl (lv_at hl 3 rfl)) ?_
                  refine fs_JV S hG hR rfl [.ref r2] (enc := fun r => some (.long r)) (fun zr zs zt zh => m_Row_ticksBetween X l r8 r2 zh) tw_5_159 tw_5_160 tw_5_161 tw_5_162 tw_1_28 q_Row_ticksBetween ⟨(Nat.le_of_ble_eq_true rfl), (Nat.le_of_ble_eq_true rfl)⟩ hl.1 rfl (Nat.le_of_ble_eq_true rfl) d_Table_nearestReverse_88 (fun v13 => ?_)
                  refine fs_Jeq (g2 := F0 m 91 ls [.long v13]) rfl ?_
                  refine fs_lift (fun _ _ _ _ => lv_aload_n hx hb d_Table_nearestReverse_91 rfl (lv_at hl 1 rfl)) ?_
                  refine fs_Jgr S hG fs_in6 rfl 0 (Nat.le_of_ble_eq_true rfl) tw_1_183 (fun _ h9 => h9) d_Table_nearestReverse_92 (fun r14 => ?_)
                  refine fs_lift (fun _ _ _ _ => lv_iload_n hx hb d_Table_nearestReverse_95 rfl (lv_at hl 4 rfl)) ?_
                  refine fs_JV S hG hR rfl [.int v3] (enc := fun r => some (.ref r)) (fun zr zs zt zh => m_ArrayList_get X l r14 v3 zh) tw_5_114 tw_2_33 tw_2_34 tw_2_35 tw_1_5 q_ArrayList_get ⟨(Nat.le_of_ble_eq_true rfl), (Nat.le_of_ble_eq_true rfl)⟩ hl.1 rfl (Nat.le_of_ble_eq_true rfl) d_Table_nearestReverse_96 (fun r15 => ?_)
                  refine fs_Jeq (g2 := F0 m 99 ls [.ref r15, .long v13]) rfl ?_
                  refine fs_Jck S hG rfl tw_5_115 tb_7_83 d_Table_nearestReverse_99 ?_
                  refine fs_lift (fun _ _ _ _ => lv_aload_n hx hb d_Table_nearestReverse_102 rfl (lv_at hl 3 rfl)) ?_
                  refine fs_JV S hG hR rfl [.ref r2] (enc := fun r => some (.long r)) (fun zr zs zt zh => m_Row_ticksBetween X l r15 r2 zh) tw_5_159 tw_5_160 tw_5_161 tw_5_162 tw_1_28 q_Row_ticksBetween ⟨(Nat.le_of_ble_eq_true rfl), (Nat.le_of_ble_eq_true rfl)⟩ hl.1 rfl (Nat.le_of_ble_eq_true rfl) d_Table_nearestReverse_103 (fun v16 => ?_)
                  refine fs_Jeq (g2 := F0 m 106 ls [.long v16, .long v13]) rfl ?_
                  refine fs_lift (fun _ _ _ _ => W.lcmp hx hb d_Table_nearestReverse_106) ?_
                  refine fs_if (fun _ _ _ _ => lv_if_ge hx hb d_Table_nearestReverse_107 rfl) ?_ ?_
                  · exact hj113 v3 ls (lv_sub hl [1, 2, 3, 4, 5] rfl)
                  · exact hj110 () ls (lv_sub hl [1, 2, 3, 5] rfl)
        · exact hj113 v3 ls (lv_sub hl [1, 2, 3, 4, 5] rfl)

theorem d_Table_pairAll_0 : decode prog_11_method_6_code 0 = .ok (.aload_n 0, 1) := by decide +kernel
theorem d_Table_pairAll_1 : decode prog_11_method_6_code 1 = .ok (.getfield 18, 3) := by decide +kernel
theorem d_Table_pairAll_4 : decode prog_11_method_6_code 4 = .ok (.iconst (-1), 1) := by decide +kernel
theorem d_Table_pairAll_5 : decode prog_11_method_6_code 5 = .ok (.invokestatic 60, 3) := by decide +kernel
theorem d_Table_pairAll_8 : decode prog_11_method_6_code 8 = .ok (.aload_n 0, 1) := by decide +kernel
theorem d_Table_pairAll_9 : decode prog_11_method_6_code 9 = .ok (.invokevirtual 66, 3) := by decide +kernel
theorem d_Table_pairAll_12 : decode prog_11_method_6_code 12 = .ok (.iconst 0, 1) := by decide +kernel
theorem d_Table_pairAll_13 : decode prog_11_method_6_code 13 = .ok (.istore_n 1, 1) := by decide +kernel
theorem d_Table_pairAll_14 : decode prog_11_method_6_code 14 = .ok (.iload_n 1, 1) := by decide +kernel
theorem d_Table_pairAll_15 : decode prog_11_method_6_code 15 = .ok (.aload_n 0, 1) := by decide +kernel
theorem d_Table_pairAll_16 : decode prog_11_method_6_code 16 = .ok (.getfield 69, 3) := by decide +kernel
theorem d_Table_pairAll_19 : decode prog_11_method_6_code 19 = .ok (.if_icmp .ge 51, 3) := by decide +kernel
theorem d_Table_pairAll_22 : decode prog_11_method_6_code 22 = .ok (.aload_n 0, 1) := by decide +kernel
theorem d_Table_pairAll_23 : decode prog_11_method_6_code 23 = .ok (.getfield 22, 3) := by decide +kernel
theorem d_Table_pairAll_26 : decode prog_11_method_6_code 26 = .ok (.iload_n 1, 1) := by decide +kernel
theorem d_Table_pairAll_27 : decode prog_11_method_6_code 27 = .ok (.iaload, 1) := by decide +kernel
theorem d_Table_pairAll_28 : decode prog_11_method_6_code 28 = .ok (.istore_n 2, 1) := by decide +kernel
theorem d_Table_pairAll_29 : decode prog_11_method_6_code 29 = .ok (.aload_n 0, 1) := by decide +kernel
theorem d_Table_pairAll_30 : decode prog_11_method_6_code 30 = .ok (.getfield 18, 3) := by decide +kernel
theorem d_Table_pairAll_33 : decode prog_11_method_6_code 33 = .ok (.iload_n 2, 1) := by decide +kernel
theorem d_Table_pairAll_34 : decode prog_11_method_6_code 34 = .ok (.iaload, 1) := by decide +kernel
theorem d_Table_pairAll_35 : decode prog_11_method_6_code 35 = .ok (.iconst (-1), 1) := by decide +kernel
theorem d_Table_pairAll_36 : decode prog_11_method_6_code 36 = .ok (.if_icmp .ne 28, 3) := by decide +kernel
theorem d_Table_pairAll_39 : decode prog_11_method_6_code 39 = .ok (.aload_n 0, 1) := by decide +kernel
theorem d_Table_pairAll_40 : decode prog_11_method_6_code 40 = .ok (.iload_n 2, 1) := by decide +kernel
theorem d_Table_pairAll_41 : decode prog_11_method_6_code 41 = .ok (.invokevirtual 72, 3) := by decide +kernel
theorem d_Table_pairAll_44 : decode prog_11_method_6_code 44 = .ok (.istore_n 3, 1) := by decide +kernel
theorem d_Table_pairAll_45 : decode prog_11_method_6_code 45 = .ok (.iload_n 3, 1) := by decide +kernel
theorem d_Table_pairAll_46 : decode prog_11_method_6_code 46 = .ok (.iconst (-1), 1) := by decide +kernel
theorem d_Table_pairAll_47 : decode prog_11_method_6_code 47 = .ok (.if_icmp .eq 17, 3) := by decide +kernel
theorem d_Table_pairAll_50 : decode prog_11_method_6_code 50 = .ok (.aload_n 0, 1) := by decide +kernel
theorem d_Table_pairAll_51 : decode prog_11_method_6_code 51 = .ok (.getfield 18, 3) := by decide +kernel
theorem d_Table_pairAll_54 : decode prog_11_method_6_code 54 = .ok (.iload_n 2, 1) := by decide +kernel
theorem d_Table_pairAll_55 : decode prog_11_method_6_code 55 = .ok (.iload_n 3, 1) := by decide +kernel
theorem d_Table_pairAll_56 : decode prog_11_method_6_code 56 = .ok (.iastore, 1) := by decide +kernel
theorem d_Table_pairAll_57 : decode prog_11_method_6_code 57 = .ok (.aload_n 0, 1) := by decide +kernel
theorem d_Table_pairAll_58 : decode prog_11_method_6_code 58 = .ok (.getfield 18, 3) := by decide +kernel
theorem d_Table_pairAll_61 : decode prog_11_method_6_code 61 = .ok (.iload_n 3, 1) := by decide +kernel
theorem d_Table_pairAll_62 : decode prog_11_method_6_code 62 = .ok (.iload_n 2, 1) := by decide +kernel
theorem d_Table_pairAll_63 : decode prog_11_method_6_code 63 = .ok (.iastore, 1) := by decide +kernel
theorem d_Table_pairAll_64 : decode prog_11_method_6_code 64 = .ok (.iinc 1 1, 3) := by decide +kernel
theorem d_Table_pairAll_67 : decode prog_11_method_6_code 67 = .ok (.goto (-53), 3) := by decide +kernel
theorem d_Table_pairAll_70 : decode prog_11_method_6_code 70 = .ok (.aload_n 0, 1) := by decide +kernel
theorem d_Table_pairAll_71 : decode prog_11_method_6_code 71 = .ok (.aload_n 0, 1) := by decide +kernel
theorem d_Table_pairAll_72 : decode prog_11_method_6_code 72 = .ok (.getfield 12, 3) := by decide +kernel
theorem d_Table_pairAll_75 : decode prog_11_method_6_code 75 = .ok (.invokevirtual 25, 3) := by decide +kernel
theorem d_Table_pairAll_78 : decode prog_11_method_6_code 78 = .ok (.putfield 54, 3) := by decide +kernel
theorem d_Table_pairAll_81 : decode prog_11_method_6_code 81 = .ok (.return_, 1) := by decide +kernel
theorem q_Table_pairAll : (⟨"FlowShelf$Table", "pairAll", "()V"⟩ : MethodName).cls ≠ "java/lang/invoke/MethodHandle" ∧ (⟨"FlowShelf$Table", "pairAll", "()V"⟩ : MethodName).cls ≠ "java/lang/invoke/VarHandle" ∧ (parseMethodDescriptor (⟨"FlowShelf$Table", "pairAll", "()V"⟩ : MethodName).desc).map (fun d => d.parameters.length) = some 0 := by decide +kernel
set_option maxHeartbeats 4000000 in
set_option maxRecDepth 100000 in
theorem m_Table_pairAll (X : fs_X) (l : Launch) (a0 : Nat) {r : Unit} {σ σF : fs_S} (h : (f_Table_pairAll a0).1 σ = some (r, σF)) : fs_Met X l ⟨"FlowShelf$Table", "pairAll", "()V"⟩ (Cond.code ⟨"FlowShelf$Table", "pairAll", "()V"⟩ prog_11_method_6_code 4 none) 5 107 [.ref a0] σ (fs_eV r) σF := by
  refine fs_ofW (by decide) ?_
  intro p e s m args below meth c s₁ B hml hT hv
  obtain ⟨rfl, hw0, hG⟩ := hv
  have hx := B.exec
  have hb := B.bytes
  have hr := B.returns
  have hk := B.notSynchronized
  have S : CallFix p m c prog_11_method_6_code 4 s _ fs_ws "FlowShelf$Table" := ⟨B.exec, B.bytes, hml, findClass_of_methodNamed B.named, fun w hw => atoms_spec (ws := _ :: fs_ws) B.pre w (List.mem_cons_of_mem _ hw)⟩
  have hR := fs_hR (fr := 5) (lo := 107) ((f_Table_pairAll a0).2 _ _ _ h)
  have hl := lv_entry ([.ref a0]) (n := 4) (Nat.le_of_ble_eq_true rfl)
  rw [lg_entry_eq]
  generalize (lg_sl ([.ref a0]) ++ List.replicate (4 - (lg_sl ([.ref a0])).length) Slot.unset).toArray = ls at hl ⊢
  have hl : lv_has ls 4 [(0, .ref a0)] := hl
  refine (?_ : fs_J X p l e (fs_rm 5 107 σ σF) s m _ below meth c (fs_Q X below _ s (fs_eV r) σ σF) r σ σF (f_Table_pairAll a0) (F0 m 0 ls [])) σ s.heap [] 0 0 h hw0 va_S.rf rfl rfl
  clear h hw0
  unfold f_Table_pairAll
  refine fs_lift (fun _ _ _ _ => lv_aload_n hx hb d_Table_pairAll_0 rfl (lv_at hl 0 rfl)) ?_
  refine fs_Jgr S hG fs_in6 rfl 1 (Nat.le_of_ble_eq_true rfl) tw_1_186 (fun _ h9 => h9) d_Table_pairAll_1 (fun r1 => ?_)
  refine fs_lift (fun _ _ _ _ => lv_iconst (v := (-1)) hx hb d_Table_pairAll_4 (by decide)) ?_
  refine fs_JS S hG hR [.ref r1, .int (-1)] (enc := fun _ => none) (fun zr zs zt zh => m_Arrays_fill_1 X l r1 (-1) zh) tw_5_135 tw_5_136 tw_5_137 tw_1_22 q_Arrays_fill_1 ⟨(Nat.le_of_ble_eq_true rfl), (Nat.le_of_ble_eq_true rfl)⟩ hl.1 rfl (Nat.le_of_ble_eq_true rfl) d_Table_pairAll_5 (fun _ => ?_)
  refine fs_Jeq (g2 := F0 m 8 ls []) rfl ?_
  refine fs_lift (fun _ _ _ _ => lv_aload_n hx hb d_Table_pairAll_8 rfl (lv_at hl 0 rfl)) ?_
  refine fs_JV S hG hR rfl [] (enc := fun _ => none) (fun zr zs zt zh => m_Table_putInOrder X l a0 zh) tw_5_138 tw_5_139 tw_5_140 tw_5_141 tw_1_9 q_Table_putInOrder ⟨(Nat.le_of_ble_eq_true rfl), (Nat.le_of_ble_eq_true rfl)⟩ hl.1 rfl (Nat.le_of_ble_eq_true rfl) d_Table_pairAll_9 (fun _ => ?_)
  refine fs_Jeq (g2 := F0 m 12 ls []) rfl ?_
  refine fs_lift (fun _ _ _ _ => lv_iconst (v := 0) hx hb d_Table_pairAll_12 (by decide)) ?_
  refine fs_liftL (fun _ _ _ _ => lv_istore_n (lv' := [(1, .int 0), (0, .ref a0)]) hx hb d_Table_pairAll_13 rfl hl (Nat.le_of_ble_eq_true rfl) rfl) (fun ls hl => ?_)
  refine fs_Jlp1 (nL := 4) (pc := 14) (rest := []) (I := fun (v2 : Int32) => [(0, .ref a0), (1, .int v2)]) (fun k14 hk14 v2 ls hl => ?_) _ _ _ (lv_sub hl [1, 0] rfl)
  refine fs_lift (fun _ _ _ _ => lv_iload_n hx hb d_Table_pairAll_14 rfl (lv_at hl 1 rfl)) ?_
  refine fs_lift (fun _ _ _ _ => lv_aload_n hx hb d_Table_pairAll_15 rfl (lv_at hl 0 rfl)) ?_
  refine fs_Jgi S hG fs_in6 rfl 3 (Nat.le_of_ble_eq_true rfl) tw_1_188 (fun _ h9 => h9) d_Table_pairAll_16 (fun v3 => ?_)
  refine fs_if (fun _ _ _ _ => lv_icmp_ge hx hb d_Table_pairAll_19 rfl) ?_ ?_
  · refine fs_lift (fun _ _ _ _ => lv_aload_n hx hb d_Table_pairAll_70 rfl (lv_at hl 0 rfl)) ?_
    refine fs_lift (fun _ _ _ _ => lv_aload_n hx hb d_Table_pairAll_71 rfl (lv_at hl 0 rfl)) ?_
    refine fs_Jgr S hG fs_in6 rfl 0 (Nat.le_of_ble_eq_true rfl) tw_1_183 (fun _ h9 => h9) d_Table_pairAll_72 (fun r4 => ?_)
    refine fs_JV S hG hR rfl [] (enc := fun r => some (.int r)) (fun zr zs zt zh => m_ArrayList_size X l r4 zh) tw_4_193 tw_2_29 tw_2_30 tw_2_31 tw_1_5 q_ArrayList_size ⟨(Nat.le_of_ble_eq_true rfl), (Nat.le_of_ble_eq_true rfl)⟩ hl.1 rfl (Nat.le_of_ble_eq_true rfl) d_Table_pairAll_75 (fun v5 => ?_)
    refine fs_Jeq (g2 := F0 m 78 ls [.int v5, .ref a0]) rfl ?_
    refine fs_Jput S hG fs_in6 rfl 4 (Nat.le_of_ble_eq_true rfl) tw_1_189 (fun _ h9 => h9) fs_Y6 fs_ty6 fs_nm6 (Or.inl rfl) rfl rfl d_Table_pairAll_78 ?_
    exact fs_Jvret S hr hk rfl d_Table_pairAll_81
  · refine fs_lift (fun _ _ _ _ => lv_aload_n hx hb d_Table_pairAll_22 rfl (lv_at hl 0 rfl)) ?_
    refine fs_Jgr S hG fs_in6 rfl 2 (Nat.le_of_ble_eq_true rfl) tw_1_187 (fun _ h9 => h9) d_Table_pairAll_23 (fun r6 => ?_)
    refine fs_lift (fun _ _ _ _ => lv_iload_n hx hb d_Table_pairAll_26 rfl (lv_at hl 1 rfl)) ?_
    refine fs_Jai S hG d_Table_pairAll_27 (fun v7 => ?_)
    refine fs_liftL (fun _ _ _ _ => lv_istore_n (lv' := [(2, .int v7), (0, .ref a0), (1, .int v2)]) hx hb d_Table_pairAll_28 rfl hl (Nat.le_of_ble_eq_true rfl) rfl) (fun ls hl => ?_)
    refine fs_lift (fun _ _ _ _ => lv_aload_n hx hb d_Table_pairAll_29 rfl (lv_at hl 1 rfl)) ?_
    refine fs_Jgr S hG fs_in6 rfl 1 (Nat.le_of_ble_eq_true rfl) tw_1_186 (fun _ h9 => h9) d_Table_pairAll_30 (fun r8 => ?_)
    refine fs_lift (fun _ _ _ _ => lv_iload_n hx hb d_Table_pairAll_33 rfl (lv_at hl 0 rfl)) ?_
    refine fs_Jai S hG d_Table_pairAll_34 (fun v9 => ?_)
    refine fs_lift (fun _ _ _ _ => lv_iconst (v := (-1)) hx hb d_Table_pairAll_35 (by decide)) ?_
    refine fs_Jlet1 (nL := 4) (pj := 64) (I := fun (_ : Unit) => [(0, .ref a0), (1, .int v2)]) (st := fun (_ : Unit) => []) (fun _ ls hl => ?_) (fun j64 hj64 => ?_)
    · refine fs_Jnm (fun v13 hv9 => ?_)
      refine fs_liftL (fun _ _ _ _ => lv_iinc (k := 1) (v := v13) (lv' := [(1, .int v13), (0, .ref a0)]) hx hb d_Table_pairAll_64 hl rfl (by rw [hv9]; rfl) (Nat.le_of_ble_eq_true rfl) rfl) (fun ls hl => ?_)
      refine fs_lift (fun _ _ _ _ => lv_goto hx hb d_Table_pairAll_67 rfl) ?_
      exact hk14 v13 ls (lv_sub hl [1, 0] rfl)
    · refine fs_ifn (fun _ _ _ _ => lv_icmp_ne hx hb d_Table_pairAll_36 rfl) ?_ ?_
      · refine fs_lift (fun _ _ _ _ => lv_aload_n hx hb d_Table_pairAll_39 rfl (lv_at hl 1 rfl)) ?_
        refine fs_lift (fun _ _ _ _ => lv_iload_n hx hb d_Table_pairAll_40 rfl (lv_at hl 0 rfl)) ?_
        refine fs_JV S hG hR rfl [.int v7] (enc := fun r => some (.int r)) (fun zr zs zt zh => m_Table_nearestReverse X l a0 v7 zh) tw_5_151 tw_5_152 tw_5_153 tw_5_154 tw_1_9 q_Table_nearestReverse ⟨(Nat.le_of_ble_eq_true rfl), (Nat.le_of_ble_eq_true rfl)⟩ hl.1 rfl (Nat.le_of_ble_eq_true rfl) d_Table_pairAll_41 (fun v10 => ?_)
        refine fs_Jeq (g2 := F0 m 44 ls [.int v10]) rfl ?_
        refine fs_liftL (fun _ _ _ _ => lv_istore_n (lv' := [(3, .int v10), (2, .int v7), (0, .ref a0), (1, .int v2)]) hx hb d_Table_pairAll_44 rfl hl (Nat.le_of_ble_eq_true rfl) rfl) (fun ls hl => ?_)
        refine fs_lift (fun _ _ _ _ => lv_iload_n hx hb d_Table_pairAll_45 rfl (lv_at hl 0 rfl)) ?_
        refine fs_lift (fun _ _ _ _ => lv_iconst (v := (-1)) hx hb d_Table_pairAll_46 (by decide)) ?_
        refine fs_if (fun _ _ _ _ => lv_icmp_eq hx hb d_Table_pairAll_47 rfl) ?_ ?_
        · exact hj64 () ls (lv_sub hl [2, 3] rfl)
        · refine fs_lift (fun _ _ _ _ => lv_aload_n hx hb d_Table_pairAll_50 rfl (lv_at hl 2 rfl)) ?_
          refine fs_Jgr S hG fs_in6 rfl 1 (Nat.le_of_ble_eq_true rfl) tw_1_186 (fun _ h9 => h9) d_Table_pairAll_51 (fun r11 => ?_)
          refine fs_lift (fun _ _ _ _ => lv_iload_n hx hb d_Table_pairAll_54 rfl (lv_at hl 1 rfl)) ?_
          refine fs_lift (fun _ _ _ _ => lv_iload_n hx hb d_Table_pairAll_55 rfl (lv_at hl 0 rfl)) ?_
          refine fs_Jsi S hG d_Table_pairAll_56 ?_
          refine fs_lift (fun _ _ _ _ => lv_aload_n hx hb d_Table_pairAll_57 rfl (lv_at hl 2 rfl)) ?_
          refine fs_Jgr S hG fs_in6 rfl 1 (Nat.le_of_ble_eq_true rfl) tw_1_186 (fun _ h9 => h9) d_Table_pairAll_58 (fun r12 => ?_)
          refine fs_lift (fun _ _ _ _ => lv_iload_n hx hb d_Table_pairAll_61 rfl (lv_at hl 0 rfl)) ?_
          refine fs_lift (fun _ _ _ _ => lv_iload_n hx hb d_Table_pairAll_62 rfl (lv_at hl 1 rfl)) ?_
          refine fs_Jsi S hG d_Table_pairAll_63 ?_
          exact hj64 () ls (lv_sub hl [2, 3] rfl)
      · exact hj64 () ls (lv_sub hl [1, 2] rfl)

theorem d_Table_partnerOf_0 : decode prog_11_method_5_code 0 = .ok (.aload_n 0, 1) := by decide +kernel
theorem d_Table_partnerOf_1 : decode prog_11_method_5_code 1 = .ok (.getfield 54, 3) := by decide +kernel
theorem d_Table_partnerOf_4 : decode prog_11_method_5_code 4 = .ok (.aload_n 0, 1) := by decide +kernel
theorem d_Table_partnerOf_5 : decode prog_11_method_5_code 5 = .ok (.getfield 12, 3) := by decide +kernel
theorem d_Table_partnerOf_8 : decode prog_11_method_5_code 8 = .ok (.invokevirtual 25, 3) := by decide +kernel
theorem d_Table_partnerOf_11 : decode prog_11_method_5_code 11 = .ok (.if_icmp .eq 7, 3) := by decide +kernel
theorem d_Table_partnerOf_14 : decode prog_11_method_5_code 14 = .ok (.aload_n 0, 1) := by decide +kernel
theorem d_Table_partnerOf_15 : decode prog_11_method_5_code 15 = .ok (.invokevirtual 57, 3) := by decide +kernel
theorem d_Table_partnerOf_18 : decode prog_11_method_5_code 18 = .ok (.aload_n 0, 1) := by decide +kernel
theorem d_Table_partnerOf_19 : decode prog_11_method_5_code 19 = .ok (.getfield 18, 3) := by decide +kernel
theorem d_Table_partnerOf_22 : decode prog_11_method_5_code 22 = .ok (.iload_n 1, 1) := by decide +kernel
theorem d_Table_partnerOf_23 : decode prog_11_method_5_code 23 = .ok (.iaload, 1) := by decide +kernel
theorem d_Table_partnerOf_24 : decode prog_11_method_5_code 24 = .ok (.ireturn, 1) := by decide +kernel
theorem q_Table_partnerOf : (⟨"FlowShelf$Table", "partnerOf", "(I)I"⟩ : MethodName).cls ≠ "java/lang/invoke/MethodHandle" ∧ (⟨"FlowShelf$Table", "partnerOf", "(I)I"⟩ : MethodName).cls ≠ "java/lang/invoke/VarHandle" ∧ (parseMethodDescriptor (⟨"FlowShelf$Table", "partnerOf", "(I)I"⟩ : MethodName).desc).map (fun d => d.parameters.length) = some 1 := by decide +kernel
set_option maxHeartbeats 4000000 in
set_option maxRecDepth 100000 in
theorem m_Table_partnerOf (X : fs_X) (l : Launch) (a0 : Nat) (x1 : Int32) {r : Int32} {σ σF : fs_S} (h : (f_Table_partnerOf a0 x1).1 σ = some (r, σF)) : fs_Met X l ⟨"FlowShelf$Table", "partnerOf", "(I)I"⟩ (Cond.code ⟨"FlowShelf$Table", "partnerOf", "(I)I"⟩ prog_11_method_5_code 2 (some FieldType.int)) 6 130 [.ref a0, .int x1] σ (fs_eI r) σF := by
  refine fs_ofW (by decide) ?_
  intro p e s m args below meth c s₁ B hml hT hv
  obtain ⟨rfl, hw0, hG⟩ := hv
  have hx := B.exec
  have hb := B.bytes
  have hr := B.returns
  have hk := B.notSynchronized
  have S : CallFix p m c prog_11_method_5_code 2 s _ fs_ws "FlowShelf$Table" := ⟨B.exec, B.bytes, hml, findClass_of_methodNamed B.named, fun w hw => atoms_spec (ws := _ :: fs_ws) B.pre w (List.mem_cons_of_mem _ hw)⟩
  have hR := fs_hR (fr := 6) (lo := 130) ((f_Table_partnerOf a0 x1).2 _ _ _ h)
  have hl := lv_entry ([.ref a0, .int x1]) (n := 2) (Nat.le_of_ble_eq_true rfl)
  rw [lg_entry_eq]
  generalize (lg_sl ([.ref a0, .int x1]) ++ List.replicate (2 - (lg_sl ([.ref a0, .int x1])).length) Slot.unset).toArray = ls at hl ⊢
  have hl : lv_has ls 2 [(0, .ref a0), (1, .int x1)] := hl
  refine (?_ : fs_J X p l e (fs_rm 6 130 σ σF) s m _ below meth c (fs_Q X below _ s (fs_eI r) σ σF) r σ σF (f_Table_partnerOf a0 x1) (F0 m 0 ls [])) σ s.heap [] 0 0 h hw0 va_S.rf rfl rfl
  clear h hw0
  unfold f_Table_partnerOf
  refine fs_lift (fun _ _ _ _ => lv_aload_n hx hb d_Table_partnerOf_0 rfl (lv_at hl 0 rfl)) ?_
  refine fs_Jgi S hG fs_in6 rfl 4 (Nat.le_of_ble_eq_true rfl) tw_1_189 (fun _ h9 => h9) d_Table_partnerOf_1 (fun v1 => ?_)
  refine fs_lift (fun _ _ _ _ => lv_aload_n hx hb d_Table_partnerOf_4 rfl (lv_at hl 0 rfl)) ?_
  refine fs_Jgr S hG fs_in6 rfl 0 (Nat.le_of_ble_eq_true rfl) tw_1_183 (fun _ h9 => h9) d_Table_partnerOf_5 (fun r2 => ?_)
  refine fs_JV S hG hR rfl [] (enc := fun r => some (.int r)) (fun zr zs zt zh => m_ArrayList_size X l r2 zh) tw_4_193 tw_2_29 tw_2_30 tw_2_31 tw_1_5 q_ArrayList_size ⟨(Nat.le_of_ble_eq_true rfl), (Nat.le_of_ble_eq_true rfl)⟩ hl.1 rfl (Nat.le_of_ble_eq_true rfl) d_Table_partnerOf_8 (fun v3 => ?_)
  refine fs_Jeq (g2 := F0 m 11 ls [.int v3, .int v1]) rfl ?_
  refine fs_Jlet1 (nL := 2) (pj := 18) (I := fun (_ : Unit) => [(0, .ref a0), (1, .int x1)]) (st := fun (_ : Unit) => []) (fun _ ls hl => ?_) (fun j18 hj18 => ?_)
  · refine fs_lift (fun _ _ _ _ => lv_aload_n hx hb d_Table_partnerOf_18 rfl (lv_at hl 0 rfl)) ?_
    refine fs_Jgr S hG fs_in6 rfl 1 (Nat.le_of_ble_eq_true rfl) tw_1_186 (fun _ h9 => h9) d_Table_partnerOf_19 (fun r4 => ?_)
    refine fs_lift (fun _ _ _ _ => lv_iload_n hx hb d_Table_partnerOf_22 rfl (lv_at hl 1 rfl)) ?_
    refine fs_Jai S hG d_Table_partnerOf_23 (fun v5 => ?_)
    exact fs_Jiret S hr hk rfl d_Table_partnerOf_24
  · refine fs_if (fun _ _ _ _ => lv_icmp_eq hx hb d_Table_partnerOf_11 rfl) ?_ ?_
    · exact hj18 () ls (lv_sub hl [0, 1] rfl)
    · refine fs_lift (fun _ _ _ _ => lv_aload_n hx hb d_Table_partnerOf_14 rfl (lv_at hl 0 rfl)) ?_
      refine fs_JV S hG hR rfl [] (enc := fun _ => none) (fun zr zs zt zh => m_Table_pairAll X l a0 zh) tw_5_131 tw_5_132 tw_5_133 tw_5_134 tw_1_9 q_Table_pairAll ⟨(Nat.le_of_ble_eq_true rfl), (Nat.le_of_ble_eq_true rfl)⟩ hl.1 rfl (Nat.le_of_ble_eq_true rfl) d_Table_partnerOf_15 (fun _ => ?_)
      refine fs_Jeq (g2 := F0 m 18 ls []) rfl ?_
      exact hj18 () ls (lv_sub hl [0, 1] rfl)

theorem d_Fs_other_0 : decode prog_1_method_21_code 0 = .ok (.aload_n 0, 1) := by decide +kernel
theorem d_Fs_other_1 : decode prog_1_method_21_code 1 = .ok (.iload_n 1, 1) := by decide +kernel
theorem d_Fs_other_2 : decode prog_1_method_21_code 2 = .ok (.invokevirtual 256, 3) := by decide +kernel
theorem d_Fs_other_5 : decode prog_1_method_21_code 5 = .ok (.aload_n 0, 1) := by decide +kernel
theorem d_Fs_other_6 : decode prog_1_method_21_code 6 = .ok (.getfield 31, 3) := by decide +kernel
theorem d_Fs_other_9 : decode prog_1_method_21_code 9 = .ok (.getfield 247, 3) := by decide +kernel
theorem d_Fs_other_12 : decode prog_1_method_21_code 12 = .ok (.iload_n 1, 1) := by decide +kernel
theorem d_Fs_other_13 : decode prog_1_method_21_code 13 = .ok (.invokevirtual 278, 3) := by decide +kernel
theorem d_Fs_other_16 : decode prog_1_method_21_code 16 = .ok (.ireturn, 1) := by decide +kernel
theorem q_Fs_other : (⟨"FlowShelf", "other", "(I)I"⟩ : MethodName).cls ≠ "java/lang/invoke/MethodHandle" ∧ (⟨"FlowShelf", "other", "(I)I"⟩ : MethodName).cls ≠ "java/lang/invoke/VarHandle" ∧ (parseMethodDescriptor (⟨"FlowShelf", "other", "(I)I"⟩ : MethodName).desc).map (fun d => d.parameters.length) = some 1 := by decide +kernel
set_option maxHeartbeats 4000000 in
set_option maxRecDepth 100000 in
theorem m_Fs_other (X : fs_X) (l : Launch) (hl0 : l.stackTraces = false) (a0 : Nat) (x1 : Int32) {r : (Int32 ⊕ String)} {σ σF : fs_S} (h : (f_Fs_other a0 x1).1 σ = some (r, σF)) : fs_Met X l ⟨"FlowShelf", "other", "(I)I"⟩ (Cond.code ⟨"FlowShelf", "other", "(I)I"⟩ prog_1_method_21_code 2 (some FieldType.int)) 7 151 [.ref a0, .int x1] σ (fs_qI r) σF := by
  refine fs_ofW (by decide) ?_
  intro p e s m args below meth c s₁ B hml hT hv
  obtain ⟨rfl, hw0, hG⟩ := hv
  have hx := B.exec
  have hb := B.bytes
  have hr := B.returns
  have hk := B.notSynchronized
  have S : CallFix p m c prog_1_method_21_code 2 s _ fs_ws "FlowShelf" := ⟨B.exec, B.bytes, hml, findClass_of_methodNamed B.named, fun w hw => atoms_spec (ws := _ :: fs_ws) B.pre w (List.mem_cons_of_mem _ hw)⟩
  have hR := fs_hR (fr := 7) (lo := 151) ((f_Fs_other a0 x1).2 _ _ _ h)
  have hl := lv_entry ([.ref a0, .int x1]) (n := 2) (Nat.le_of_ble_eq_true rfl)
  rw [lg_entry_eq]
  generalize (lg_sl ([.ref a0, .int x1]) ++ List.replicate (2 - (lg_sl ([.ref a0, .int x1])).length) Slot.unset).toArray = ls at hl ⊢
  have hl : lv_has ls 2 [(0, .ref a0), (1, .int x1)] := hl
  refine (?_ : fs_J X p l e (fs_rm 7 151 σ σF) s m _ below meth c (fs_Q X below _ s (fs_qI r) σ σF) r σ σF (f_Fs_other a0 x1) (F0 m 0 ls [])) σ s.heap [] 0 0 h hw0 va_S.rf rfl rfl
  clear h hw0
  unfold f_Fs_other
  refine fs_lift (fun _ _ _ _ => lv_aload_n hx hb d_Fs_other_0 rfl (lv_at hl 0 rfl)) ?_
  refine fs_lift (fun _ _ _ _ => lv_iload_n hx hb d_Fs_other_1 rfl (lv_at hl 1 rfl)) ?_
  refine fs_JVx S hG hR hT hk rfl [.int x1] (fun _ => none) (encx := fs_qV) (fun _ => rfl) (fun _ => rfl) (fun zr zs zt zh => m_Fs_requireRow X l hl0 a0 x1 zh) tw_5_96 tw_5_98 tp_1_12 tw_5_99 tw_1_1 q_Fs_requireRow ⟨(Nat.le_of_ble_eq_true rfl), (Nat.le_of_ble_eq_true rfl)⟩ hl.1 rfl (Nat.le_of_ble_eq_true rfl) d_Fs_other_2 (enc := fs_qI) (fun _ => rfl) (fun _ => ?_)
  refine fs_Jeq (g2 := F0 m 5 ls []) rfl ?_
  refine fs_lift (fun _ _ _ _ => lv_aload_n hx hb d_Fs_other_5 rfl (lv_at hl 0 rfl)) ?_
  refine fs_Jgr S hG fs_in0 rfl 3 (Nat.le_of_ble_eq_true rfl) tw_2_10 (fun _ h9 => h9) d_Fs_other_6 (fun r1 => ?_)
  refine fs_Jgr S hG fs_in5 rfl 2 (Nat.le_of_ble_eq_true rfl) tw_1_233 (fun _ h9 => h9) d_Fs_other_9 (fun r2 => ?_)
  refine fs_lift (fun _ _ _ _ => lv_iload_n hx hb d_Fs_other_12 rfl (lv_at hl 1 rfl)) ?_
  refine fs_JV S hG hR rfl [.int x1] (enc := fun r => some (.int r)) (fun zr zs zt zh => m_Table_partnerOf X l r2 x1 zh) tw_5_127 tw_5_128 tw_5_129 tw_5_130 tw_1_9 q_Table_partnerOf ⟨(Nat.le_of_ble_eq_true rfl), (Nat.le_of_ble_eq_true rfl)⟩ hl.1 rfl (Nat.le_of_ble_eq_true rfl) d_Fs_other_13 (fun v3 => ?_)
  refine fs_Jeq (g2 := F0 m 16 ls [.int v3]) rfl ?_
  exact fs_Jiret S hr hk rfl d_Fs_other_16

theorem d_Ledger_lostInEpoch_0 : decode prog_7_method_5_code 0 = .ok (.iconst 0, 1) := by decide +kernel
theorem d_Ledger_lostInEpoch_1 : decode prog_7_method_5_code 1 = .ok (.istore_n 2, 1) := by decide +kernel
theorem d_Ledger_lostInEpoch_2 : decode prog_7_method_5_code 2 = .ok (.iconst 0, 1) := by decide +kernel
theorem d_Ledger_lostInEpoch_3 : decode prog_7_method_5_code 3 = .ok (.istore_n 3, 1) := by decide +kernel
theorem d_Ledger_lostInEpoch_4 : decode prog_7_method_5_code 4 = .ok (.iconst 0, 1) := by decide +kernel
theorem d_Ledger_lostInEpoch_5 : decode prog_7_method_5_code 5 = .ok (.istore 4, 2) := by decide +kernel
theorem d_Ledger_lostInEpoch_7 : decode prog_7_method_5_code 7 = .ok (.iconst 0, 1) := by decide +kernel
theorem d_Ledger_lostInEpoch_8 : decode prog_7_method_5_code 8 = .ok (.istore 5, 2) := by decide +kernel
theorem d_Ledger_lostInEpoch_10 : decode prog_7_method_5_code 10 = .ok (.iload 5, 2) := by decide +kernel
theorem d_Ledger_lostInEpoch_12 : decode prog_7_method_5_code 12 = .ok (.bipush 100, 2) := by decide +kernel
theorem d_Ledger_lostInEpoch_14 : decode prog_7_method_5_code 14 = .ok (.if_icmp .ge 44, 3) := by decide +kernel
theorem d_Ledger_lostInEpoch_17 : decode prog_7_method_5_code 17 = .ok (.aload_n 0, 1) := by decide +kernel
theorem d_Ledger_lostInEpoch_18 : decode prog_7_method_5_code 18 = .ok (.getfield 9, 3) := by decide +kernel
theorem d_Ledger_lostInEpoch_21 : decode prog_7_method_5_code 21 = .ok (.iload_n 1, 1) := by decide +kernel
theorem d_Ledger_lostInEpoch_22 : decode prog_7_method_5_code 22 = .ok (.bipush 100, 2) := by decide +kernel
theorem d_Ledger_lostInEpoch_24 : decode prog_7_method_5_code 24 = .ok (.imul, 1) := by decide +kernel
theorem d_Ledger_lostInEpoch_25 : decode prog_7_method_5_code 25 = .ok (.iload 5, 2) := by decide +kernel
theorem d_Ledger_lostInEpoch_27 : decode prog_7_method_5_code 27 = .ok (.iadd, 1) := by decide +kernel
theorem d_Ledger_lostInEpoch_28 : decode prog_7_method_5_code 28 = .ok (.baload, 1) := by decide +kernel
theorem d_Ledger_lostInEpoch_29 : decode prog_7_method_5_code 29 = .ok (.ifCond .eq 15, 3) := by decide +kernel
theorem d_Ledger_lostInEpoch_32 : decode prog_7_method_5_code 32 = .ok (.iload_n 2, 1) := by decide +kernel
theorem d_Ledger_lostInEpoch_33 : decode prog_7_method_5_code 33 = .ok (.iload_n 3, 1) := by decide +kernel
theorem d_Ledger_lostInEpoch_34 : decode prog_7_method_5_code 34 = .ok (.iadd, 1) := by decide +kernel
theorem d_Ledger_lostInEpoch_35 : decode prog_7_method_5_code 35 = .ok (.istore_n 2, 1) := by decide +kernel
theorem d_Ledger_lostInEpoch_36 : decode prog_7_method_5_code 36 = .ok (.iconst 0, 1) := by decide +kernel
theorem d_Ledger_lostInEpoch_37 : decode prog_7_method_5_code 37 = .ok (.istore_n 3, 1) := by decide +kernel
theorem d_Ledger_lostInEpoch_38 : decode prog_7_method_5_code 38 = .ok (.iconst 1, 1) := by decide +kernel
theorem d_Ledger_lostInEpoch_39 : decode prog_7_method_5_code 39 = .ok (.istore 4, 2) := by decide +kernel
theorem d_Ledger_lostInEpoch_41 : decode prog_7_method_5_code 41 = .ok (.goto 11, 3) := by decide +kernel
theorem d_Ledger_lostInEpoch_44 : decode prog_7_method_5_code 44 = .ok (.iload 4, 2) := by decide +kernel
theorem d_Ledger_lostInEpoch_46 : decode prog_7_method_5_code 46 = .ok (.ifCond .eq 6, 3) := by decide +kernel
theorem d_Ledger_lostInEpoch_49 : decode prog_7_method_5_code 49 = .ok (.iinc 3 1, 3) := by decide +kernel
theorem d_Ledger_lostInEpoch_52 : decode prog_7_method_5_code 52 = .ok (.iinc 5 1, 3) := by decide +kernel
theorem d_Ledger_lostInEpoch_55 : decode prog_7_method_5_code 55 = .ok (.goto (-45), 3) := by decide +kernel
theorem d_Ledger_lostInEpoch_58 : decode prog_7_method_5_code 58 = .ok (.iload_n 2, 1) := by decide +kernel
theorem d_Ledger_lostInEpoch_59 : decode prog_7_method_5_code 59 = .ok (.ireturn, 1) := by decide +kernel
theorem q_Ledger_lostInEpoch : (⟨"FlowShelf$Ledger", "lostInEpoch", "(I)I"⟩ : MethodName).cls ≠ "java/lang/invoke/MethodHandle" ∧ (⟨"FlowShelf$Ledger", "lostInEpoch", "(I)I"⟩ : MethodName).cls ≠ "java/lang/invoke/VarHandle" ∧ (parseMethodDescriptor (⟨"FlowShelf$Ledger", "lostInEpoch", "(I)I"⟩ : MethodName).desc).map (fun d => d.parameters.length) = some 1 := by decide +kernel
set_option maxHeartbeats 4000000 in
set_option maxRecDepth 100000 in
theorem m_Ledger_lostInEpoch (X : fs_X) (l : Launch) (a0 : Nat) (x1 : Int32) {r : Int32} {σ σF : fs_S} (h : (f_Ledger_lostInEpoch a0 x1).1 σ = some (r, σF)) : fs_Met X l ⟨"FlowShelf$Ledger", "lostInEpoch", "(I)I"⟩ (Cond.code ⟨"FlowShelf$Ledger", "lostInEpoch", "(I)I"⟩ prog_7_method_5_code 6 (some FieldType.int)) 0 0 [.ref a0, .int x1] σ (fs_eI r) σF := by
  refine fs_ofW (by decide) ?_
  intro p e s m args below meth c s₁ B hml hT hv
  obtain ⟨rfl, hw0, hG⟩ := hv
  have hx := B.exec
  have hb := B.bytes
  have hr := B.returns
  have hk := B.notSynchronized
  have S : CallFix p m c prog_7_method_5_code 6 s _ fs_ws "FlowShelf$Ledger" := ⟨B.exec, B.bytes, hml, findClass_of_methodNamed B.named, fun w hw => atoms_spec (ws := _ :: fs_ws) B.pre w (List.mem_cons_of_mem _ hw)⟩
  have hR := fs_hR (fr := 0) (lo := 0) ((f_Ledger_lostInEpoch a0 x1).2 _ _ _ h)
  have hl := lv_entry ([.ref a0, .int x1]) (n := 6) (Nat.le_of_ble_eq_true rfl)
  rw [lg_entry_eq]
  generalize (lg_sl ([.ref a0, .int x1]) ++ List.replicate (6 - (lg_sl ([.ref a0, .int x1])).length) Slot.unset).toArray = ls at hl ⊢
  have hl : lv_has ls 6 [(0, .ref a0), (1, .int x1)] := hl
  refine (?_ : fs_J X p l e (fs_rm 0 0 σ σF) s m _ below meth c (fs_Q X below _ s (fs_eI r) σ σF) r σ σF (f_Ledger_lostInEpoch a0 x1) (F0 m 0 ls [])) σ s.heap [] 0 0 h hw0 va_S.rf rfl rfl
  clear h hw0
  unfold f_Ledger_lostInEpoch
  refine fs_lift (fun _ _ _ _ => lv_iconst (v := 0) hx hb d_Ledger_lostInEpoch_0 (by decide)) ?_
  refine fs_liftL (fun _ _ _ _ => lv_istore_n (lv' := [(2, .int 0), (0, .ref a0), (1, .int x1)]) hx hb d_Ledger_lostInEpoch_1 rfl hl (Nat.le_of_ble_eq_true rfl) rfl) (fun ls hl => ?_)
  refine fs_lift (fun _ _ _ _ => lv_iconst (v := 0) hx hb d_Ledger_lostInEpoch_2 (by decide)) ?_
  refine fs_liftL (fun _ _ _ _ => lv_istore_n (lv' := [(3, .int 0), (2, .int 0), (0, .ref a0), (1, .int x1)]) hx hb d_Ledger_lostInEpoch_3 rfl hl (Nat.le_of_ble_eq_true rfl) rfl) (fun ls hl => ?_)
  refine fs_lift (fun _ _ _ _ => lv_iconst (v := 0) hx hb d_Ledger_lostInEpoch_4 (by decide)) ?_
  refine fs_liftL (fun _ _ _ _ => lv_istore (lv' := [(4, .int 0), (3, .int 0), (2, .int 0), (0, .ref a0), (1, .int x1)]) hx hb d_Ledger_lostInEpoch_5 hl (Nat.le_of_ble_eq_true rfl) rfl) (fun ls hl => ?_)
  refine fs_lift (fun _ _ _ _ => lv_iconst (v := 0) hx hb d_Ledger_lostInEpoch_7 (by decide)) ?_
  refine fs_liftL (fun _ _ _ _ => lv_istore (lv' := [(5, .int 0), (4, .int 0), (3, .int 0), (2, .int 0), (0, .ref a0), (1, .int x1)]) hx hb d_Ledger_lostInEpoch_8 hl (Nat.le_of_ble_eq_true rfl) rfl) (fun ls hl => ?_)
  refine fs_Jlp4 (nL := 6) (pc := 10) (rest := []) (I := fun (v1 : Int32) (v2 : Int32) (v3 : Int32) (v4 : Int32) => [(0, .ref a0), (1, .int x1), (2, .int v1), (3, .int v2), (4, .int v3), (5, .int v4)]) (fun k10 hk10 v1 v2 v3 v4 ls hl => ?_) _ _ _ _ _ _ (lv_sub hl [4, 5, 3, 2, 1, 0] rfl)
  refine fs_lift (fun _ _ _ _ => lv_iload hx hb d_Ledger_lostInEpoch_10 (lv_at hl 5 rfl)) ?_
  refine fs_lift (fun _ _ _ _ => lv_bipush (v := 100) hx hb d_Ledger_lostInEpoch_12 (by decide)) ?_
  refine fs_if (fun _ _ _ _ => lv_icmp_ge hx hb d_Ledger_lostInEpoch_14 rfl) ?_ ?_
  · refine fs_lift (fun _ _ _ _ => lv_iload_n hx hb d_Ledger_lostInEpoch_58 rfl (lv_at hl 2 rfl)) ?_
    exact fs_Jiret S hr hk rfl d_Ledger_lostInEpoch_59
  · refine fs_lift (fun _ _ _ _ => lv_aload_n hx hb d_Ledger_lostInEpoch_17 rfl (lv_at hl 0 rfl)) ?_
    refine fs_Jgr S hG fs_in7 rfl 0 (Nat.le_of_ble_eq_true rfl) tw_1_207 (fun _ h9 => h9) d_Ledger_lostInEpoch_18 (fun r5 => ?_)
    refine fs_lift (fun _ _ _ _ => lv_iload_n hx hb d_Ledger_lostInEpoch_21 rfl (lv_at hl 1 rfl)) ?_
    refine fs_lift (fun _ _ _ _ => lv_bipush (v := 100) hx hb d_Ledger_lostInEpoch_22 (by decide)) ?_
    refine fs_lift (fun _ _ _ _ => lv_imul hx hb d_Ledger_lostInEpoch_24) ?_
    refine fs_lift (fun _ _ _ _ => lv_iload hx hb d_Ledger_lostInEpoch_25 (lv_at hl 5 rfl)) ?_
    refine fs_lift (fun _ _ _ _ => lv_iadd hx hb d_Ledger_lostInEpoch_27) ?_
    refine fs_Jaz S hG d_Ledger_lostInEpoch_28 (fun v6 => ?_)
    refine fs_Jlet3 (nL := 6) (pj := 52) (I := fun (v9 : Int32) (v10 : Int32) (v11 : Int32) => [(0, .ref a0), (1, .int x1), (2, .int v9), (3, .int v10), (4, .int v11), (5, .int v4)]) (st := fun (v9 : Int32) (v10 : Int32) (v11 : Int32) => []) (fun v9 v10 v11 ls hl => ?_) (fun j52 hj52 => ?_)
    · refine fs_Jnm (fun v12 hv9 => ?_)
      refine fs_liftL (fun _ _ _ _ => lv_iinc (k := 5) (v := v12) (lv' := [(5, .int v12), (0, .ref a0), (1, .int x1), (2, .int v9), (3, .int v10), (4, .int v11)]) hx hb d_Ledger_lostInEpoch_52 hl rfl (by rw [hv9]; rfl) (Nat.le_of_ble_eq_true rfl) rfl) (fun ls hl => ?_)
      refine fs_lift (fun _ _ _ _ => lv_goto hx hb d_Ledger_lostInEpoch_55 rfl) ?_
      exact hk10 v9 v10 v11 v12 ls (lv_sub hl [1, 2, 3, 4, 5, 0] rfl)
    · refine fs_if (fun _ _ _ _ => lv_if_eq hx hb d_Ledger_lostInEpoch_29 rfl) ?_ ?_
      · refine fs_lift (fun _ _ _ _ => lv_iload hx hb d_Ledger_lostInEpoch_44 (lv_at hl 4 rfl)) ?_
        refine fs_if (fun _ _ _ _ => lv_if_eq hx hb d_Ledger_lostInEpoch_46 rfl) ?_ ?_
        · exact hj52 v1 v2 v3 ls (lv_sub hl [0, 1, 2, 3, 4, 5] rfl)
        · refine fs_Jnm (fun v7 hv9 => ?_)
          refine fs_liftL (fun _ _ _ _ => lv_iinc (k := 3) (v := v7) (lv' := [(3, .int v7), (0, .ref a0), (1, .int x1), (2, .int v1), (4, .int v3), (5, .int v4)]) hx hb d_Ledger_lostInEpoch_49 hl rfl (by rw [hv9]; rfl) (Nat.le_of_ble_eq_true rfl) rfl) (fun ls hl => ?_)
          exact hj52 v1 v7 v3 ls (lv_sub hl [1, 2, 3, 0, 4, 5] rfl)
      · refine fs_lift (fun _ _ _ _ => lv_iload_n hx hb d_Ledger_lostInEpoch_32 rfl (lv_at hl 2 rfl)) ?_
        refine fs_lift (fun _ _ _ _ => lv_iload_n hx hb d_Ledger_lostInEpoch_33 rfl (lv_at hl 3 rfl)) ?_
        refine fs_lift (fun _ _ _ _ => lv_iadd hx hb d_Ledger_lostInEpoch_34) ?_
        refine fs_Jni (fun v8 => ?_)
        refine fs_liftL (fun _ _ _ _ => lv_istore_n (lv' := [(2, .int v8), (0, .ref a0), (1, .int x1), (3, .int v2), (4, .int v3), (5, .int v4)]) hx hb d_Ledger_lostInEpoch_35 rfl hl (Nat.le_of_ble_eq_true rfl) rfl) (fun ls hl => ?_)
        refine fs_lift (fun _ _ _ _ => lv_iconst (v := 0) hx hb d_Ledger_lostInEpoch_36 (by decide)) ?_
        refine fs_liftL (fun _ _ _ _ => lv_istore_n (lv' := [(3, .int 0), (2, .int v8), (0, .ref a0), (1, .int x1), (4, .int v3), (5, .int v4)]) hx hb d_Ledger_lostInEpoch_37 rfl hl (Nat.le_of_ble_eq_true rfl) rfl) (fun ls hl => ?_)
        refine fs_lift (fun _ _ _ _ => lv_iconst (v := 1) hx hb d_Ledger_lostInEpoch_38 (by decide)) ?_
        refine fs_liftL (fun _ _ _ _ => lv_istore (lv' := [(4, .int 1), (3, .int 0), (2, .int v8), (0, .ref a0), (1, .int x1), (5, .int v4)]) hx hb d_Ledger_lostInEpoch_39 hl (Nat.le_of_ble_eq_true rfl) rfl) (fun ls hl => ?_)
        refine fs_lift (fun _ _ _ _ => lv_goto hx hb d_Ledger_lostInEpoch_41 rfl) ?_
        exact hj52 v8 0 1 ls (lv_sub hl [3, 4, 2, 1, 0, 5] rfl)

theorem d_Ledger_lostRecords_0 : decode prog_7_method_4_code 0 = .ok (.iconst 0, 1) := by decide +kernel
theorem d_Ledger_lostRecords_1 : decode prog_7_method_4_code 1 = .ok (.istore_n 1, 1) := by decide +kernel
theorem d_Ledger_lostRecords_2 : decode prog_7_method_4_code 2 = .ok (.iconst 0, 1) := by decide +kernel
theorem d_Ledger_lostRecords_3 : decode prog_7_method_4_code 3 = .ok (.istore_n 2, 1) := by decide +kernel
theorem d_Ledger_lostRecords_4 : decode prog_7_method_4_code 4 = .ok (.iload_n 2, 1) := by decide +kernel
theorem d_Ledger_lostRecords_5 : decode prog_7_method_4_code 5 = .ok (.iconst 5, 1) := by decide +kernel
theorem d_Ledger_lostRecords_6 : decode prog_7_method_4_code 6 = .ok (.if_icmp .gt 17, 3) := by decide +kernel
theorem d_Ledger_lostRecords_9 : decode prog_7_method_4_code 9 = .ok (.iload_n 1, 1) := by decide +kernel
theorem d_Ledger_lostRecords_10 : decode prog_7_method_4_code 10 = .ok (.aload_n 0, 1) := by decide +kernel
theorem d_Ledger_lostRecords_11 : decode prog_7_method_4_code 11 = .ok (.iload_n 2, 1) := by decide +kernel
theorem d_Ledger_lostRecords_12 : decode prog_7_method_4_code 12 = .ok (.invokevirtual 27, 3) := by decide +kernel
theorem d_Ledger_lostRecords_15 : decode prog_7_method_4_code 15 = .ok (.iadd, 1) := by decide +kernel
theorem d_Ledger_lostRecords_16 : decode prog_7_method_4_code 16 = .ok (.istore_n 1, 1) := by decide +kernel
theorem d_Ledger_lostRecords_17 : decode prog_7_method_4_code 17 = .ok (.iinc 2 1, 3) := by decide +kernel
theorem d_Ledger_lostRecords_20 : decode prog_7_method_4_code 20 = .ok (.goto (-16), 3) := by decide +kernel
theorem d_Ledger_lostRecords_23 : decode prog_7_method_4_code 23 = .ok (.iload_n 1, 1) := by decide +kernel
theorem d_Ledger_lostRecords_24 : decode prog_7_method_4_code 24 = .ok (.ireturn, 1) := by decide +kernel
theorem q_Ledger_lostRecords : (⟨"FlowShelf$Ledger", "lostRecords", "()I"⟩ : MethodName).cls ≠ "java/lang/invoke/MethodHandle" ∧ (⟨"FlowShelf$Ledger", "lostRecords", "()I"⟩ : MethodName).cls ≠ "java/lang/invoke/VarHandle" ∧ (parseMethodDescriptor (⟨"FlowShelf$Ledger", "lostRecords", "()I"⟩ : MethodName).desc).map (fun d => d.parameters.length) = some 0 := by decide +kernel
set_option maxHeartbeats 4000000 in
set_option maxRecDepth 100000 in
theorem m_Ledger_lostRecords (X : fs_X) (l : Launch) (a0 : Nat) {r : Int32} {σ σF : fs_S} (h : (f_Ledger_lostRecords a0).1 σ = some (r, σF)) : fs_Met X l ⟨"FlowShelf$Ledger", "lostRecords", "()I"⟩ (Cond.code ⟨"FlowShelf$Ledger", "lostRecords", "()I"⟩ prog_7_method_4_code 3 (some FieldType.int)) 1 25 [.ref a0] σ (fs_eI r) σF := by
  refine fs_ofW (by decide) ?_
  intro p e s m args below meth c s₁ B hml hT hv
  obtain ⟨rfl, hw0, hG⟩ := hv
  have hx := B.exec
  have hb := B.bytes
  have hr := B.returns
  have hk := B.notSynchronized
  have S : CallFix p m c prog_7_method_4_code 3 s _ fs_ws "FlowShelf$Ledger" := ⟨B.exec, B.bytes, hml, findClass_of_methodNamed B.named, fun w hw => atoms_spec (ws := _ :: fs_ws) B.pre w (List.mem_cons_of_mem _ hw)⟩
  have hR := fs_hR (fr := 1) (lo := 25) ((f_Ledger_lostRecords a0).2 _ _ _ h)
  have hl := lv_entry ([.ref a0]) (n := 3) (Nat.le_of_ble_eq_true rfl)
  rw [lg_entry_eq]
  generalize (lg_sl ([.ref a0]) ++ List.replicate (3 - (lg_sl ([.ref a0])).length) Slot.unset).toArray = ls at hl ⊢
  have hl : lv_has ls 3 [(0, .ref a0)] := hl
  refine (?_ : fs_J X p l e (fs_rm 1 25 σ σF) s m _ below meth c (fs_Q X below _ s (fs_eI r) σ σF) r σ σF (f_Ledger_lostRecords a0) (F0 m 0 ls [])) σ s.heap [] 0 0 h hw0 va_S.rf rfl rfl
  clear h hw0
  unfold f_Ledger_lostRecords
  refine fs_lift (fun _ _ _ _ => lv_iconst (v := 0) hx hb d_Ledger_lostRecords_0 (by decide)) ?_
  refine fs_liftL (fun _ _ _ _ => lv_istore_n (lv' := [(1, .int 0), (0, .ref a0)]) hx hb d_Ledger_lostRecords_1 rfl hl (Nat.le_of_ble_eq_true rfl) rfl) (fun ls hl => ?_)
  refine fs_lift (fun _ _ _ _ => lv_iconst (v := 0) hx hb d_Ledger_lostRecords_2 (by decide)) ?_
  refine fs_liftL (fun _ _ _ _ => lv_istore_n (lv' := [(2, .int 0), (1, .int 0), (0, .ref a0)]) hx hb d_Ledger_lostRecords_3 rfl hl (Nat.le_of_ble_eq_true rfl) rfl) (fun ls hl => ?_)
  refine fs_Jlp2 (nL := 3) (pc := 4) (rest := []) (I := fun (v1 : Int32) (v2 : Int32) => [(0, .ref a0), (1, .int v1), (2, .int v2)]) (fun k4 hk4 v1 v2 ls hl => ?_) _ _ _ _ (lv_sub hl [2, 1, 0] rfl)
  refine fs_lift (fun _ _ _ _ => lv_iload_n hx hb d_Ledger_lostRecords_4 rfl (lv_at hl 2 rfl)) ?_
  refine fs_lift (fun _ _ _ _ => lv_iconst (v := 5) hx hb d_Ledger_lostRecords_5 (by decide)) ?_
  refine fs_if (fun _ _ _ _ => lv_icmp_gt hx hb d_Ledger_lostRecords_6 rfl) ?_ ?_
  · refine fs_lift (fun _ _ _ _ => lv_iload_n hx hb d_Ledger_lostRecords_23 rfl (lv_at hl 1 rfl)) ?_
    exact fs_Jiret S hr hk rfl d_Ledger_lostRecords_24
  · refine fs_lift (fun _ _ _ _ => lv_iload_n hx hb d_Ledger_lostRecords_9 rfl (lv_at hl 1 rfl)) ?_
    refine fs_lift (fun _ _ _ _ => lv_aload_n hx hb d_Ledger_lostRecords_10 rfl (lv_at hl 0 rfl)) ?_
    refine fs_lift (fun _ _ _ _ => lv_iload_n hx hb d_Ledger_lostRecords_11 rfl (lv_at hl 2 rfl)) ?_
    refine fs_JV S hG hR rfl [.int v2] (enc := fun r => some (.int r)) (fun zr zs zt zh => m_Ledger_lostInEpoch X l a0 v2 zh) tw_5_177 tw_5_178 tw_5_179 tw_5_180 tw_1_10 q_Ledger_lostInEpoch ⟨(Nat.le_of_ble_eq_true rfl), (Nat.le_of_ble_eq_true rfl)⟩ hl.1 rfl (Nat.le_of_ble_eq_true rfl) d_Ledger_lostRecords_12 (fun v3 => ?_)
    refine fs_Jeq (g2 := F0 m 15 ls [.int v3, .int v1]) rfl ?_
    refine fs_lift (fun _ _ _ _ => lv_iadd hx hb d_Ledger_lostRecords_15) ?_
    refine fs_Jni (fun v4 => ?_)
    refine fs_liftL (fun _ _ _ _ => lv_istore_n (lv' := [(1, .int v4), (0, .ref a0), (2, .int v2)]) hx hb d_Ledger_lostRecords_16 rfl hl (Nat.le_of_ble_eq_true rfl) rfl) (fun ls hl => ?_)
    refine fs_Jnm (fun v5 hv9 => ?_)
    refine fs_liftL (fun _ _ _ _ => lv_iinc (k := 2) (v := v5) (lv' := [(2, .int v5), (1, .int v4), (0, .ref a0)]) hx hb d_Ledger_lostRecords_17 hl rfl (by rw [hv9]; rfl) (Nat.le_of_ble_eq_true rfl) rfl) (fun ls hl => ?_)
    refine fs_lift (fun _ _ _ _ => lv_goto hx hb d_Ledger_lostRecords_20 rfl) ?_
    exact hk4 v4 v5 ls (lv_sub hl [2, 1, 0] rfl)

theorem d_Collector_waitingOf_0 : decode prog_2_method_3_code 0 = .ok (.iconst 0, 1) := by decide +kernel
theorem d_Collector_waitingOf_1 : decode prog_2_method_3_code 1 = .ok (.istore_n 2, 1) := by decide +kernel
theorem d_Collector_waitingOf_2 : decode prog_2_method_3_code 2 = .ok (.iconst 0, 1) := by decide +kernel
theorem d_Collector_waitingOf_3 : decode prog_2_method_3_code 3 = .ok (.istore_n 3, 1) := by decide +kernel
theorem d_Collector_waitingOf_4 : decode prog_2_method_3_code 4 = .ok (.iload_n 3, 1) := by decide +kernel
theorem d_Collector_waitingOf_5 : decode prog_2_method_3_code 5 = .ok (.aload_n 0, 1) := by decide +kernel
theorem d_Collector_waitingOf_6 : decode prog_2_method_3_code 6 = .ok (.getfield 18, 3) := by decide +kernel
theorem d_Collector_waitingOf_9 : decode prog_2_method_3_code 9 = .ok (.invokevirtual 38, 3) := by decide +kernel
theorem d_Collector_waitingOf_12 : decode prog_2_method_3_code 12 = .ok (.if_icmp .ge 30, 3) := by decide +kernel
theorem d_Collector_waitingOf_15 : decode prog_2_method_3_code 15 = .ok (.aload_n 0, 1) := by decide +kernel
theorem d_Collector_waitingOf_16 : decode prog_2_method_3_code 16 = .ok (.getfield 18, 3) := by decide +kernel
theorem d_Collector_waitingOf_19 : decode prog_2_method_3_code 19 = .ok (.iload_n 3, 1) := by decide +kernel
theorem d_Collector_waitingOf_20 : decode prog_2_method_3_code 20 = .ok (.invokevirtual 42, 3) := by decide +kernel
theorem d_Collector_waitingOf_23 : decode prog_2_method_3_code 23 = .ok (.checkcast 46, 3) := by decide +kernel
theorem d_Collector_waitingOf_26 : decode prog_2_method_3_code 26 = .ok (.invokevirtual 48, 3) := by decide +kernel
theorem d_Collector_waitingOf_29 : decode prog_2_method_3_code 29 = .ok (.iload_n 1, 1) := by decide +kernel
theorem d_Collector_waitingOf_30 : decode prog_2_method_3_code 30 = .ok (.if_icmp .ne 6, 3) := by decide +kernel
theorem d_Collector_waitingOf_33 : decode prog_2_method_3_code 33 = .ok (.iinc 2 1, 3) := by decide +kernel
theorem d_Collector_waitingOf_36 : decode prog_2_method_3_code 36 = .ok (.iinc 3 1, 3) := by decide +kernel
theorem d_Collector_waitingOf_39 : decode prog_2_method_3_code 39 = .ok (.goto (-35), 3) := by decide +kernel
theorem d_Collector_waitingOf_42 : decode prog_2_method_3_code 42 = .ok (.iload_n 2, 1) := by decide +kernel
theorem d_Collector_waitingOf_43 : decode prog_2_method_3_code 43 = .ok (.ireturn, 1) := by decide +kernel
theorem q_Collector_waitingOf : (⟨"FlowShelf$Collector", "waitingOf", "(I)I"⟩ : MethodName).cls ≠ "java/lang/invoke/MethodHandle" ∧ (⟨"FlowShelf$Collector", "waitingOf", "(I)I"⟩ : MethodName).cls ≠ "java/lang/invoke/VarHandle" ∧ (parseMethodDescriptor (⟨"FlowShelf$Collector", "waitingOf", "(I)I"⟩ : MethodName).desc).map (fun d => d.parameters.length) = some 1 := by decide +kernel
set_option maxHeartbeats 4000000 in
set_option maxRecDepth 100000 in
theorem m_Collector_waitingOf (X : fs_X) (l : Launch) (a0 : Nat) (x1 : Int32) {r : Int32} {σ σF : fs_S} (h : (f_Collector_waitingOf a0 x1).1 σ = some (r, σF)) : fs_Met X l ⟨"FlowShelf$Collector", "waitingOf", "(I)I"⟩ (Cond.code ⟨"FlowShelf$Collector", "waitingOf", "(I)I"⟩ prog_2_method_3_code 4 (some FieldType.int)) 3 64 [.ref a0, .int x1] σ (fs_eI r) σF := by
  refine fs_ofW (by decide) ?_
  intro p e s m args below meth c s₁ B hml hT hv
  obtain ⟨rfl, hw0, hG⟩ := hv
  have hx := B.exec
  have hb := B.bytes
  have hr := B.returns
  have hk := B.notSynchronized
  have S : CallFix p m c prog_2_method_3_code 4 s _ fs_ws "FlowShelf$Collector" := ⟨B.exec, B.bytes, hml, findClass_of_methodNamed B.named, fun w hw => atoms_spec (ws := _ :: fs_ws) B.pre w (List.mem_cons_of_mem _ hw)⟩
  have hR := fs_hR (fr := 3) (lo := 64) ((f_Collector_waitingOf a0 x1).2 _ _ _ h)
  have hl := lv_entry ([.ref a0, .int x1]) (n := 4) (Nat.le_of_ble_eq_true rfl)
  rw [lg_entry_eq]
  generalize (lg_sl ([.ref a0, .int x1]) ++ List.replicate (4 - (lg_sl ([.ref a0, .int x1])).length) Slot.unset).toArray = ls at hl ⊢
  have hl : lv_has ls 4 [(0, .ref a0), (1, .int x1)] := hl
  refine (?_ : fs_J X p l e (fs_rm 3 64 σ σF) s m _ below meth c (fs_Q X below _ s (fs_eI r) σ σF) r σ σF (f_Collector_waitingOf a0 x1) (F0 m 0 ls [])) σ s.heap [] 0 0 h hw0 va_S.rf rfl rfl
  clear h hw0
  unfold f_Collector_waitingOf
  refine fs_lift (fun _ _ _ _ => lv_iconst (v := 0) hx hb d_Collector_waitingOf_0 (by decide)) ?_
  refine fs_liftL (fun _ _ _ _ => lv_istore_n (lv' := [(2, .int 0), (0, .ref a0), (1, .int x1)]) hx hb d_Collector_waitingOf_1 rfl hl (Nat.le_of_ble_eq_true rfl) rfl) (fun ls hl => ?_)
  refine fs_lift (fun _ _ _ _ => lv_iconst (v := 0) hx hb d_Collector_waitingOf_2 (by decide)) ?_
  refine fs_liftL (fun _ _ _ _ => lv_istore_n (lv' := [(3, .int 0), (2, .int 0), (0, .ref a0), (1, .int x1)]) hx hb d_Collector_waitingOf_3 rfl hl (Nat.le_of_ble_eq_true rfl) rfl) (fun ls hl => ?_)
  refine fs_Jlp2 (nL := 4) (pc := 4) (rest := []) (I := fun (v1 : Int32) (v2 : Int32) => [(0, .ref a0), (1, .int x1), (2, .int v1), (3, .int v2)]) (fun k4 hk4 v1 v2 ls hl => ?_) _ _ _ _ (lv_sub hl [2, 3, 1, 0] rfl)
  refine fs_lift (fun _ _ _ _ => lv_iload_n hx hb d_Collector_waitingOf_4 rfl (lv_at hl 3 rfl)) ?_
  refine fs_lift (fun _ _ _ _ => lv_aload_n hx hb d_Collector_waitingOf_5 rfl (lv_at hl 0 rfl)) ?_
  refine fs_Jgr S hG fs_in5 rfl 1 (Nat.le_of_ble_eq_true rfl) tw_1_231 (fun _ h9 => h9) d_Collector_waitingOf_6 (fun r3 => ?_)
  refine fs_JV S hG hR rfl [] (enc := fun r => some (.int r)) (fun zr zs zt zh => m_ArrayList_size X l r3 zh) tw_4_157 tw_2_29 tw_2_30 tw_2_31 tw_1_5 q_ArrayList_size ⟨(Nat.le_of_ble_eq_true rfl), (Nat.le_of_ble_eq_true rfl)⟩ hl.1 rfl (Nat.le_of_ble_eq_true rfl) d_Collector_waitingOf_9 (fun v4 => ?_)
  refine fs_Jeq (g2 := F0 m 12 ls [.int v4, .int v2]) rfl ?_
  refine fs_if (fun _ _ _ _ => lv_icmp_ge hx hb d_Collector_waitingOf_12 rfl) ?_ ?_
  · refine fs_lift (fun _ _ _ _ => lv_iload_n hx hb d_Collector_waitingOf_42 rfl (lv_at hl 2 rfl)) ?_
    exact fs_Jiret S hr hk rfl d_Collector_waitingOf_43
  · refine fs_lift (fun _ _ _ _ => lv_aload_n hx hb d_Collector_waitingOf_15 rfl (lv_at hl 0 rfl)) ?_
    refine fs_Jgr S hG fs_in5 rfl 1 (Nat.le_of_ble_eq_true rfl) tw_1_231 (fun _ h9 => h9) d_Collector_waitingOf_16 (fun r5 => ?_)
    refine fs_lift (fun _ _ _ _ => lv_iload_n hx hb d_Collector_waitingOf_19 rfl (lv_at hl 3 rfl)) ?_
    refine fs_JV S hG hR rfl [.int v2] (enc := fun r => some (.ref r)) (fun zr zs zt zh => m_ArrayList_get X l r5 v2 zh) tw_4_158 tw_2_33 tw_2_34 tw_2_35 tw_1_5 q_ArrayList_get ⟨(Nat.le_of_ble_eq_true rfl), (Nat.le_of_ble_eq_true rfl)⟩ hl.1 rfl (Nat.le_of_ble_eq_true rfl) d_Collector_waitingOf_20 (fun r6 => ?_)
    refine fs_Jeq (g2 := F0 m 23 ls [.ref r6]) rfl ?_
    refine fs_Jck S hG rfl tw_4_159 tb_7_81 d_Collector_waitingOf_23 ?_
    refine fs_JV S hG hR rfl [] (enc := fun r => some (.int r)) (fun zr zs zt zh => m_Report_exporter X l r6 zh) tw_5_19 tw_4_99 tw_4_100 tw_4_101 tw_1_25 q_Report_exporter ⟨(Nat.le_of_ble_eq_true rfl), (Nat.le_of_ble_eq_true rfl)⟩ hl.1 rfl (Nat.le_of_ble_eq_true rfl) d_Collector_waitingOf_26 (fun v7 => ?_)
    refine fs_Jeq (g2 := F0 m 29 ls [.int v7]) rfl ?_
    refine fs_lift (fun _ _ _ _ => lv_iload_n hx hb d_Collector_waitingOf_29 rfl (lv_at hl 1 rfl)) ?_
    refine fs_Jlet1 (nL := 4) (pj := 36) (I := fun (v9 : Int32) => [(0, .ref a0), (1, .int x1), (2, .int v9), (3, .int v2)]) (st := fun (v9 : Int32) => []) (fun v9 ls hl => ?_) (fun j36 hj36 => ?_)
    · refine fs_Jnm (fun v10 hv9 => ?_)
      refine fs_liftL (fun _ _ _ _ => lv_iinc (k := 3) (v := v10) (lv' := [(3, .int v10), (0, .ref a0), (1, .int x1), (2, .int v9)]) hx hb d_Collector_waitingOf_36 hl rfl (by rw [hv9]; rfl) (Nat.le_of_ble_eq_true rfl) rfl) (fun ls hl => ?_)
      refine fs_lift (fun _ _ _ _ => lv_goto hx hb d_Collector_waitingOf_39 rfl) ?_
      exact hk4 v9 v10 ls (lv_sub hl [1, 2, 3, 0] rfl)
    · refine fs_ifn (fun _ _ _ _ => lv_icmp_ne hx hb d_Collector_waitingOf_30 rfl) ?_ ?_
      · refine fs_Jnm (fun v8 hv9 => ?_)
        refine fs_liftL (fun _ _ _ _ => lv_iinc (k := 2) (v := v8) (lv' := [(2, .int v8), (0, .ref a0), (1, .int x1), (3, .int v2)]) hx hb d_Collector_waitingOf_33 hl rfl (by rw [hv9]; rfl) (Nat.le_of_ble_eq_true rfl) rfl) (fun ls hl => ?_)
        exact hj36 v8 ls (lv_sub hl [1, 2, 0, 3] rfl)
      · exact hj36 v1 ls (lv_sub hl [0, 1, 2, 3] rfl)

theorem d_Fs_count_0 : decode prog_1_method_22_code 0 = .ok (.aload_n 0, 1) := by decide +kernel
theorem d_Fs_count_1 : decode prog_1_method_22_code 1 = .ok (.iload_n 1, 1) := by decide +kernel
theorem d_Fs_count_2 : decode prog_1_method_22_code 2 = .ok (.invokevirtual 35, 3) := by decide +kernel
theorem d_Fs_count_5 : decode prog_1_method_22_code 5 = .ok (.astore_n 3, 1) := by decide +kernel
theorem d_Fs_count_6 : decode prog_1_method_22_code 6 = .ok (.aload_n 0, 1) := by decide +kernel
theorem d_Fs_count_7 : decode prog_1_method_22_code 7 = .ok (.getfield 31, 3) := by decide +kernel
theorem d_Fs_count_10 : decode prog_1_method_22_code 10 = .ok (.iload_n 1, 1) := by decide +kernel
theorem d_Fs_count_11 : decode prog_1_method_22_code 11 = .ok (.invokevirtual 237, 3) := by decide +kernel
theorem d_Fs_count_14 : decode prog_1_method_22_code 14 = .ok (.astore 4, 2) := by decide +kernel
theorem d_Fs_count_16 : decode prog_1_method_22_code 16 = .ok (.iload_n 2, 1) := by decide +kernel
theorem d_Fs_count_17 : decode prog_1_method_22_code 17 = .ok (.tableswitch 119 0 9 #[55, 60, 65, 73, 81, 86, 92, 101, 107, 113], 55) := by decide +kernel
theorem d_Fs_count_72 : decode prog_1_method_22_code 72 = .ok (.aload_n 3, 1) := by decide +kernel
theorem d_Fs_count_73 : decode prog_1_method_22_code 73 = .ok (.getfield 281, 3) := by decide +kernel
theorem d_Fs_count_76 : decode prog_1_method_22_code 76 = .ok (.ireturn, 1) := by decide +kernel
theorem d_Fs_count_77 : decode prog_1_method_22_code 77 = .ok (.aload_n 3, 1) := by decide +kernel
theorem d_Fs_count_78 : decode prog_1_method_22_code 78 = .ok (.getfield 156, 3) := by decide +kernel
theorem d_Fs_count_81 : decode prog_1_method_22_code 81 = .ok (.ireturn, 1) := by decide +kernel
theorem d_Fs_count_82 : decode prog_1_method_22_code 82 = .ok (.aload_n 3, 1) := by decide +kernel
theorem d_Fs_count_83 : decode prog_1_method_22_code 83 = .ok (.getfield 284, 3) := by decide +kernel
theorem d_Fs_count_86 : decode prog_1_method_22_code 86 = .ok (.invokevirtual 88, 3) := by decide +kernel
theorem d_Fs_count_89 : decode prog_1_method_22_code 89 = .ok (.ireturn, 1) := by decide +kernel
theorem d_Fs_count_90 : decode prog_1_method_22_code 90 = .ok (.aload_n 3, 1) := by decide +kernel
theorem d_Fs_count_91 : decode prog_1_method_22_code 91 = .ok (.getfield 85, 3) := by decide +kernel
theorem d_Fs_count_94 : decode prog_1_method_22_code 94 = .ok (.invokevirtual 88, 3) := by decide +kernel
theorem d_Fs_count_97 : decode prog_1_method_22_code 97 = .ok (.ireturn, 1) := by decide +kernel
theorem d_Fs_count_98 : decode prog_1_method_22_code 98 = .ok (.aload_n 3, 1) := by decide +kernel
theorem d_Fs_count_99 : decode prog_1_method_22_code 99 = .ok (.getfield 183, 3) := by decide +kernel
theorem d_Fs_count_102 : decode prog_1_method_22_code 102 = .ok (.ireturn, 1) := by decide +kernel
theorem d_Fs_count_103 : decode prog_1_method_22_code 103 = .ok (.aload 4, 2) := by decide +kernel
theorem d_Fs_count_105 : decode prog_1_method_22_code 105 = .ok (.invokevirtual 287, 3) := by decide +kernel
theorem d_Fs_count_108 : decode prog_1_method_22_code 108 = .ok (.ireturn, 1) := by decide +kernel
theorem d_Fs_count_109 : decode prog_1_method_22_code 109 = .ok (.aload_n 0, 1) := by decide +kernel
theorem d_Fs_count_110 : decode prog_1_method_22_code 110 = .ok (.getfield 31, 3) := by decide +kernel
theorem d_Fs_count_113 : decode prog_1_method_22_code 113 = .ok (.iload_n 1, 1) := by decide +kernel
theorem d_Fs_count_114 : decode prog_1_method_22_code 114 = .ok (.invokevirtual 290, 3) := by decide +kernel
theorem d_Fs_count_117 : decode prog_1_method_22_code 117 = .ok (.ireturn, 1) := by decide +kernel
theorem d_Fs_count_118 : decode prog_1_method_22_code 118 = .ok (.aload 4, 2) := by decide +kernel
theorem d_Fs_count_120 : decode prog_1_method_22_code 120 = .ok (.getfield 293, 3) := by decide +kernel
theorem d_Fs_count_123 : decode prog_1_method_22_code 123 = .ok (.ireturn, 1) := by decide +kernel
theorem d_Fs_count_124 : decode prog_1_method_22_code 124 = .ok (.aload 4, 2) := by decide +kernel
theorem d_Fs_count_126 : decode prog_1_method_22_code 126 = .ok (.getfield 296, 3) := by decide +kernel
theorem d_Fs_count_129 : decode prog_1_method_22_code 129 = .ok (.ireturn, 1) := by decide +kernel
theorem d_Fs_count_130 : decode prog_1_method_22_code 130 = .ok (.aload 4, 2) := by decide +kernel
theorem d_Fs_count_132 : decode prog_1_method_22_code 132 = .ok (.getfield 299, 3) := by decide +kernel
theorem d_Fs_count_135 : decode prog_1_method_22_code 135 = .ok (.ireturn, 1) := by decide +kernel
theorem d_Fs_count_136 : decode prog_1_method_22_code 136 = .ok (.new 43, 3) := by decide +kernel
theorem d_Fs_count_139 : decode prog_1_method_22_code 139 = .ok (.dup, 1) := by decide +kernel
theorem d_Fs_count_140 : decode prog_1_method_22_code 140 = .ok (.ldc_w 302, 3) := by decide +kernel
theorem d_Fs_count_143 : decode prog_1_method_22_code 143 = .ok (.invokespecial 47, 3) := by decide +kernel
theorem d_Fs_count_146 : decode prog_1_method_22_code 146 = .ok (.athrow, 1) := by decide +kernel
theorem q_Fs_count : (⟨"FlowShelf", "count", "(II)I"⟩ : MethodName).cls ≠ "java/lang/invoke/MethodHandle" ∧ (⟨"FlowShelf", "count", "(II)I"⟩ : MethodName).cls ≠ "java/lang/invoke/VarHandle" ∧ (parseMethodDescriptor (⟨"FlowShelf", "count", "(II)I"⟩ : MethodName).desc).map (fun d => d.parameters.length) = some 2 := by decide +kernel
set_option maxHeartbeats 4000000 in
set_option maxRecDepth 100000 in
theorem m_Fs_count (X : fs_X) (l : Launch) (hl0 : l.stackTraces = false) (a0 : Nat) (x1 : Int32) (x2 : Int32) {r : (Int32 ⊕ String)} {σ σF : fs_S} (h : (f_Fs_count a0 x1 x2).1 σ = some (r, σF)) : fs_Met X l ⟨"FlowShelf", "count", "(II)I"⟩ (Cond.code ⟨"FlowShelf", "count", "(II)I"⟩ prog_1_method_22_code 5 (some FieldType.int)) 7 103 [.ref a0, .int x1, .int x2] σ (fs_qI r) σF := by
  refine fs_ofW (by decide) ?_
  intro p e s m args below meth c s₁ B hml hT hv
  obtain ⟨rfl, hw0, hG⟩ := hv
  have hx := B.exec
  have hb := B.bytes
  have hr := B.returns
  have hk := B.notSynchronized
  have S : CallFix p m c prog_1_method_22_code 5 s _ fs_ws "FlowShelf" := ⟨B.exec, B.bytes, hml, findClass_of_methodNamed B.named, fun w hw => atoms_spec (ws := _ :: fs_ws) B.pre w (List.mem_cons_of_mem _ hw)⟩
  have hR := fs_hR (fr := 7) (lo := 103) ((f_Fs_count a0 x1 x2).2 _ _ _ h)
  have hl := lv_entry ([.ref a0, .int x1, .int x2]) (n := 5) (Nat.le_of_ble_eq_true rfl)
  rw [lg_entry_eq]
  generalize (lg_sl ([.ref a0, .int x1, .int x2]) ++ List.replicate (5 - (lg_sl ([.ref a0, .int x1, .int x2])).length) Slot.unset).toArray = ls at hl ⊢
  have hl : lv_has ls 5 [(0, .ref a0), (1, .int x1), (2, .int x2)] := hl
  refine (?_ : fs_J X p l e (fs_rm 7 103 σ σF) s m _ below meth c (fs_Q X below _ s (fs_qI r) σ σF) r σ σF (f_Fs_count a0 x1 x2) (F0 m 0 ls [])) σ s.heap [] 0 0 h hw0 va_S.rf rfl rfl
  clear h hw0
  unfold f_Fs_count
  refine fs_lift (fun _ _ _ _ => lv_aload_n hx hb d_Fs_count_0 rfl (lv_at hl 0 rfl)) ?_
  refine fs_lift (fun _ _ _ _ => lv_iload_n hx hb d_Fs_count_1 rfl (lv_at hl 1 rfl)) ?_
  refine fs_JVx S hG hR hT hk rfl [.int x1] (fun r => some (.ref r)) (encx := fs_qR) (fun _ => rfl) (fun _ => rfl) (fun zr zs zt zh => m_Fs_exporterOf X l hl0 a0 x1 zh) tw_2_60 tw_2_62 tp_1_1 tw_2_63 tw_1_1 q_Fs_exporterOf ⟨(Nat.le_of_ble_eq_true rfl), (Nat.le_of_ble_eq_true rfl)⟩ hl.1 rfl (Nat.le_of_ble_eq_true rfl) d_Fs_count_2 (enc := fs_qI) (fun _ => rfl) (fun r1 => ?_)
  refine fs_Jeq (g2 := F0 m 5 ls [.ref r1]) rfl ?_
  refine fs_liftL (fun _ _ _ _ => lv_astore_n (lv' := [(3, .ref r1), (0, .ref a0), (1, .int x1), (2, .int x2)]) hx hb d_Fs_count_5 rfl hl (Nat.le_of_ble_eq_true rfl) rfl) (fun ls hl => ?_)
  refine fs_lift (fun _ _ _ _ => lv_aload_n hx hb d_Fs_count_6 rfl (lv_at hl 1 rfl)) ?_
  refine fs_Jgr S hG fs_in0 rfl 3 (Nat.le_of_ble_eq_true rfl) tw_2_10 (fun _ h9 => h9) d_Fs_count_7 (fun r2 => ?_)
  refine fs_lift (fun _ _ _ _ => lv_iload_n hx hb d_Fs_count_10 rfl (lv_at hl 2 rfl)) ?_
  refine fs_JV S hG hR rfl [.int x1] (enc := fun r => some (.ref r)) (fun zr zs zt zh => m_Collector_ledgerOf X l r2 x1 zh) tw_5_79 tw_5_49 tw_5_50 tw_5_51 tw_1_8 q_Collector_ledgerOf ⟨(Nat.le_of_ble_eq_true rfl), (Nat.le_of_ble_eq_true rfl)⟩ hl.1 rfl (Nat.le_of_ble_eq_true rfl) d_Fs_count_11 (fun r3 => ?_)
  refine fs_Jeq (g2 := F0 m 14 ls [.ref r3]) rfl ?_
  refine fs_liftL (fun _ _ _ _ => lv_astore (lv' := [(4, .ref r3), (3, .ref r1), (0, .ref a0), (1, .int x1), (2, .int x2)]) hx hb d_Fs_count_14 hl (Nat.le_of_ble_eq_true rfl) rfl) (fun ls hl => ?_)
  refine fs_lift (fun _ _ _ _ => lv_iload_n hx hb d_Fs_count_16 rfl (lv_at hl 4 rfl)) ?_
  refine fs_sw (fun q9 => ?_) (fun q100 => ?_)
  · refine fs_lift (fun _ _ _ _ => lv_tableIn (off := 55) (tgt := 72) hx hb d_Fs_count_17 (by rw [q9]; decide) (by rw [q9]; decide) (by rw [q9]; rfl) rfl) ?_
    refine fs_lift (fun _ _ _ _ => lv_aload_n hx hb d_Fs_count_72 rfl (lv_at hl 1 rfl)) ?_
    refine fs_Jgi S hG fs_in1 rfl 4 (Nat.le_of_ble_eq_true rfl) tw_1_133 (fun _ h9 => h9) d_Fs_count_73 (fun v4 => ?_)
    exact fs_Jiret S hr hk rfl d_Fs_count_76
  refine fs_sw (fun q9 => ?_) (fun q101 => ?_)
  · refine fs_lift (fun _ _ _ _ => lv_tableIn (off := 60) (tgt := 77) hx hb d_Fs_count_17 (by rw [q9]; decide) (by rw [q9]; decide) (by rw [q9]; rfl) rfl) ?_
    refine fs_lift (fun _ _ _ _ => lv_aload_n hx hb d_Fs_count_77 rfl (lv_at hl 1 rfl)) ?_
    refine fs_Jgi S hG fs_in1 rfl 5 (Nat.le_of_ble_eq_true rfl) tw_1_134 (fun _ h9 => h9) d_Fs_count_78 (fun v5 => ?_)
    exact fs_Jiret S hr hk rfl d_Fs_count_81
  refine fs_sw (fun q9 => ?_) (fun q102 => ?_)
  · refine fs_lift (fun _ _ _ _ => lv_tableIn (off := 65) (tgt := 82) hx hb d_Fs_count_17 (by rw [q9]; decide) (by rw [q9]; decide) (by rw [q9]; rfl) rfl) ?_
    refine fs_lift (fun _ _ _ _ => lv_aload_n hx hb d_Fs_count_82 rfl (lv_at hl 1 rfl)) ?_
    refine fs_Jgr S hG fs_in1 rfl 1 (Nat.le_of_ble_eq_true rfl) tw_1_127 (fun _ h9 => h9) d_Fs_count_83 (fun r6 => ?_)
    refine fs_JV S hG hR rfl [] (enc := fun r => some (.int r)) (fun zr zs zt zh => m_ArrayList_size X l r6 zh) tw_2_28 tw_2_29 tw_2_30 tw_2_31 tw_1_5 q_ArrayList_size ⟨(Nat.le_of_ble_eq_true rfl), (Nat.le_of_ble_eq_true rfl)⟩ hl.1 rfl (Nat.le_of_ble_eq_true rfl) d_Fs_count_86 (fun v7 => ?_)
    refine fs_Jeq (g2 := F0 m 89 ls [.int v7]) rfl ?_
    exact fs_Jiret S hr hk rfl d_Fs_count_89
  refine fs_sw (fun q9 => ?_) (fun q103 => ?_)
  · refine fs_lift (fun _ _ _ _ => lv_tableIn (off := 73) (tgt := 90) hx hb d_Fs_count_17 (by rw [q9]; decide) (by rw [q9]; decide) (by rw [q9]; rfl) rfl) ?_
    refine fs_lift (fun _ _ _ _ => lv_aload_n hx hb d_Fs_count_90 rfl (lv_at hl 1 rfl)) ?_
    refine fs_Jgr S hG fs_in1 rfl 2 (Nat.le_of_ble_eq_true rfl) tw_1_129 (fun _ h9 => h9) d_Fs_count_91 (fun r8 => ?_)
    refine fs_JV S hG hR rfl [] (enc := fun r => some (.int r)) (fun zr zs zt zh => m_ArrayList_size X l r8 zh) tw_2_28 tw_2_29 tw_2_30 tw_2_31 tw_1_5 q_ArrayList_size ⟨(Nat.le_of_ble_eq_true rfl), (Nat.le_of_ble_eq_true rfl)⟩ hl.1 rfl (Nat.le_of_ble_eq_true rfl) d_Fs_count_94 (fun v9 => ?_)
    refine fs_Jeq (g2 := F0 m 97 ls [.int v9]) rfl ?_
    exact fs_Jiret S hr hk rfl d_Fs_count_97
  refine fs_sw (fun q9 => ?_) (fun q104 => ?_)
  · refine fs_lift (fun _ _ _ _ => lv_tableIn (off := 81) (tgt := 98) hx hb d_Fs_count_17 (by rw [q9]; decide) (by rw [q9]; decide) (by rw [q9]; rfl) rfl) ?_
    refine fs_lift (fun _ _ _ _ => lv_aload_n hx hb d_Fs_count_98 rfl (lv_at hl 1 rfl)) ?_
    refine fs_Jgi S hG fs_in1 rfl 9 (Nat.le_of_ble_eq_true rfl) tw_1_139 (fun _ h9 => h9) d_Fs_count_99 (fun v10 => ?_)
    exact fs_Jiret S hr hk rfl d_Fs_count_102
  refine fs_sw (fun q9 => ?_) (fun q105 => ?_)
  · refine fs_lift (fun _ _ _ _ => lv_tableIn (off := 86) (tgt := 103) hx hb d_Fs_count_17 (by rw [q9]; decide) (by rw [q9]; decide) (by rw [q9]; rfl) rfl) ?_
    refine fs_lift (fun _ _ _ _ => lv_aload hx hb d_Fs_count_103 (lv_at hl 0 rfl)) ?_
    refine fs_JV S hG hR rfl [] (enc := fun r => some (.int r)) (fun zr zs zt zh => m_Ledger_lostRecords X l r3 zh) tw_5_173 tw_5_174 tw_5_175 tw_5_176 tw_1_10 q_Ledger_lostRecords ⟨(Nat.le_of_ble_eq_true rfl), (Nat.le_of_ble_eq_true rfl)⟩ hl.1 rfl (Nat.le_of_ble_eq_true rfl) d_Fs_count_105 (fun v11 => ?_)
    refine fs_Jeq (g2 := F0 m 108 ls [.int v11]) rfl ?_
    exact fs_Jiret S hr hk rfl d_Fs_count_108
  refine fs_sw (fun q9 => ?_) (fun q106 => ?_)
  · refine fs_lift (fun _ _ _ _ => lv_tableIn (off := 92) (tgt := 109) hx hb d_Fs_count_17 (by rw [q9]; decide) (by rw [q9]; decide) (by rw [q9]; rfl) rfl) ?_
    refine fs_lift (fun _ _ _ _ => lv_aload_n hx hb d_Fs_count_109 rfl (lv_at hl 2 rfl)) ?_
    refine fs_Jgr S hG fs_in0 rfl 3 (Nat.le_of_ble_eq_true rfl) tw_2_10 (fun _ h9 => h9) d_Fs_count_110 (fun r12 => ?_)
    refine fs_lift (fun _ _ _ _ => lv_iload_n hx hb d_Fs_count_113 rfl (lv_at hl 3 rfl)) ?_
    refine fs_JV S hG hR rfl [.int x1] (enc := fun r => some (.int r)) (fun zr zs zt zh => m_Collector_waitingOf X l r12 x1 zh) tw_5_181 tw_5_182 tw_5_183 tw_5_184 tw_1_8 q_Collector_waitingOf ⟨(Nat.le_of_ble_eq_true rfl), (Nat.le_of_ble_eq_true rfl)⟩ hl.1 rfl (Nat.le_of_ble_eq_true rfl) d_Fs_count_114 (fun v13 => ?_)
    refine fs_Jeq (g2 := F0 m 117 ls [.int v13]) rfl ?_
    exact fs_Jiret S hr hk rfl d_Fs_count_117
  refine fs_sw (fun q9 => ?_) (fun q107 => ?_)
  · refine fs_lift (fun _ _ _ _ => lv_tableIn (off := 101) (tgt := 118) hx hb d_Fs_count_17 (by rw [q9]; decide) (by rw [q9]; decide) (by rw [q9]; rfl) rfl) ?_
    refine fs_lift (fun _ _ _ _ => lv_aload hx hb d_Fs_count_118 (lv_at hl 0 rfl)) ?_
    refine fs_Jgi S hG fs_in7 rfl 1 (Nat.le_of_ble_eq_true rfl) tw_1_209 (fun _ h9 => h9) d_Fs_count_120 (fun v14 => ?_)
    exact fs_Jiret S hr hk rfl d_Fs_count_123
  refine fs_sw (fun q9 => ?_) (fun q108 => ?_)
  · refine fs_lift (fun _ _ _ _ => lv_tableIn (off := 107) (tgt := 124) hx hb d_Fs_count_17 (by rw [q9]; decide) (by rw [q9]; decide) (by rw [q9]; rfl) rfl) ?_
    refine fs_lift (fun _ _ _ _ => lv_aload hx hb d_Fs_count_124 (lv_at hl 0 rfl)) ?_
    refine fs_Jgi S hG fs_in7 rfl 2 (Nat.le_of_ble_eq_true rfl) tw_1_211 (fun _ h9 => h9) d_Fs_count_126 (fun v15 => ?_)
    exact fs_Jiret S hr hk rfl d_Fs_count_129
  refine fs_sw (fun q9 => ?_) (fun q109 => ?_)
  · refine fs_lift (fun _ _ _ _ => lv_tableIn (off := 113) (tgt := 130) hx hb d_Fs_count_17 (by rw [q9]; decide) (by rw [q9]; decide) (by rw [q9]; rfl) rfl) ?_
    refine fs_lift (fun _ _ _ _ => lv_aload hx hb d_Fs_count_130 (lv_at hl 0 rfl)) ?_
    refine fs_Jgi S hG fs_in7 rfl 3 (Nat.le_of_ble_eq_true rfl) tw_1_213 (fun _ h9 => h9) d_Fs_count_132 (fun v16 => ?_)
    exact fs_Jiret S hr hk rfl d_Fs_count_135
  refine fs_lift (fun _ _ _ _ => lv_tableOut (tgt := 136) hx hb d_Fs_count_17 (fs_tout 9 (fun k hk => match k, hk with | 0, _ => q100 | 1, _ => q101 | 2, _ => q102 | 3, _ => q103 | 4, _ => q104 | 5, _ => q105 | 6, _ => q106 | 7, _ => q107 | 8, _ => q108 | 9, _ => q109 | n + 10, h => absurd h (by omega)) (by decide)) rfl) ?_
  exact fs_Jthrow S hG hR hl0 (names := fs_nms) (len := 3) (.ldc_w 302) (Or.inr ⟨rfl, rfl⟩) (by decide) fs_fit fs_at1 tw_2_67 tw_1_15 tb_5_185 hl.1 hT hk (Nat.le_of_ble_eq_true rfl) (Nat.le_of_ble_eq_true rfl) d_Fs_count_136 d_Fs_count_139 d_Fs_count_140 d_Fs_count_143 d_Fs_count_146 rfl

theorem d_Lw_packet_0 : decode method_3_code 0 = .ok (.aload 7, 2) := by decide +kernel
theorem d_Lw_packet_2 : decode method_3_code 2 = .ok (.iconst 0, 1) := by decide +kernel
theorem d_Lw_packet_3 : decode method_3_code 3 = .ok (.aload_n 0, 1) := by decide +kernel
theorem d_Lw_packet_4 : decode method_3_code 4 = .ok (.iload_n 1, 1) := by decide +kernel
theorem d_Lw_packet_5 : decode method_3_code 5 = .ok (.iload_n 2, 1) := by decide +kernel
theorem d_Lw_packet_6 : decode method_3_code 6 = .ok (.iload_n 3, 1) := by decide +kernel
theorem d_Lw_packet_7 : decode method_3_code 7 = .ok (.iload 4, 2) := by decide +kernel
theorem d_Lw_packet_9 : decode method_3_code 9 = .ok (.iload 5, 2) := by decide +kernel
theorem d_Lw_packet_11 : decode method_3_code 11 = .ok (.iload 6, 2) := by decide +kernel
theorem d_Lw_packet_13 : decode method_3_code 13 = .ok (.invokevirtual 7, 3) := by decide +kernel
theorem d_Lw_packet_16 : decode method_3_code 16 = .ok (.ifCond .eq 7, 3) := by decide +kernel
theorem d_Lw_packet_19 : decode method_3_code 19 = .ok (.lconst 1, 1) := by decide +kernel
theorem d_Lw_packet_20 : decode method_3_code 20 = .ok (.goto 4, 3) := by decide +kernel
theorem d_Lw_packet_23 : decode method_3_code 23 = .ok (.lconst 0, 1) := by decide +kernel
theorem d_Lw_packet_24 : decode method_3_code 24 = .ok (.lastore, 1) := by decide +kernel
theorem d_Lw_packet_25 : decode method_3_code 25 = .ok (.goto 11, 3) := by decide +kernel
theorem d_Lw_packet_28 : decode method_3_code 28 = .ok (.astore 8, 2) := by decide +kernel
theorem d_Lw_packet_30 : decode method_3_code 30 = .ok (.iconst 1, 1) := by decide +kernel
theorem d_Lw_packet_31 : decode method_3_code 31 = .ok (.ireturn, 1) := by decide +kernel
theorem d_Lw_packet_32 : decode method_3_code 32 = .ok (.astore 8, 2) := by decide +kernel
theorem d_Lw_packet_34 : decode method_3_code 34 = .ok (.iconst 2, 1) := by decide +kernel
theorem d_Lw_packet_35 : decode method_3_code 35 = .ok (.ireturn, 1) := by decide +kernel
theorem d_Lw_packet_36 : decode method_3_code 36 = .ok (.iconst 0, 1) := by decide +kernel
theorem d_Lw_packet_37 : decode method_3_code 37 = .ok (.ireturn, 1) := by decide +kernel
theorem q_Lw_packet : (⟨"FlowShelfLaw", "packet", "(LFlowShelf;IIIIIZ[J)I"⟩ : MethodName).cls ≠ "java/lang/invoke/MethodHandle" ∧ (⟨"FlowShelfLaw", "packet", "(LFlowShelf;IIIIIZ[J)I"⟩ : MethodName).cls ≠ "java/lang/invoke/VarHandle" ∧ (parseMethodDescriptor (⟨"FlowShelfLaw", "packet", "(LFlowShelf;IIIIIZ[J)I"⟩ : MethodName).desc).map (fun d => d.parameters.length) = some 8 := by decide +kernel
set_option maxHeartbeats 4000000 in
set_option maxRecDepth 100000 in
theorem m_Lw_packet (X : fs_X) (l : Launch) (hl0 : l.stackTraces = false) (a0 : Nat) (x1 : Int32) (x2 : Int32) (x3 : Int32) (x4 : Int32) (x5 : Int32) (x6 : Int32) (a7 : Nat) {r : Int32} {σ σF : fs_S} (h : (f_Lw_packet a0 x1 x2 x3 x4 x5 x6 a7).1 σ = some (r, σF)) : fs_Met X l ⟨"FlowShelfLaw", "packet", "(LFlowShelf;IIIIIZ[J)I"⟩ (Cond.codeWith ⟨"FlowShelfLaw", "packet", "(LFlowShelf;IIIIIZ[J)I"⟩ method_3_code 9 (some FieldType.int) [(0, 25, 28, 13), (0, 25, 32, 15)]) 10 267 [.ref a0, .int x1, .int x2, .int x3, .int x4, .int x5, .int x6, .ref a7] σ (fs_eI r) σF := by
  refine fs_ofWH (by decide) ?_
  intro p e s m args below meth c s₁ B hml hT hv
  obtain ⟨rfl, hw0, hG⟩ := hv
  have hx := B.exec
  have hb := B.bytes
  have hpl : e.platform.magicAccessors = ({} : Platform).magicAccessors := by rw [B.admits.platform]
  have hr := B.returns
  have hk := B.notSynchronized
  have S : CallFix p m c method_3_code 9 s _ fs_ws "FlowShelfLaw" := ⟨B.exec, B.bytes, hml, findClass_of_methodNamed B.named, fun w hw => atoms_spec (ws := _ :: fs_ws) B.pre w (List.mem_cons_of_mem _ hw)⟩
  have hR := fs_hR (fr := 10) (lo := 267) ((f_Lw_packet a0 x1 x2 x3 x4 x5 x6 a7).2 _ _ _ h)
  have hl := lv_entry ([.ref a0, .int x1, .int x2, .int x3, .int x4, .int x5, .int x6, .ref a7]) (n := 9) (Nat.le_of_ble_eq_true rfl)
  rw [lg_entry_eq]
  generalize (lg_sl ([.ref a0, .int x1, .int x2, .int x3, .int x4, .int x5, .int x6, .ref a7]) ++ List.replicate (9 - (lg_sl ([.ref a0, .int x1, .int x2, .int x3, .int x4, .int x5, .int x6, .ref a7])).length) Slot.unset).toArray = ls at hl ⊢
  have hl : lv_has ls 9 [(0, .ref a0), (1, .int x1), (2, .int x2), (3, .int x3), (4, .int x4), (5, .int x5), (6, .int x6), (7, .ref a7)] := hl
  refine (?_ : fs_J X p l e (fs_rm 10 267 σ σF) s m _ below meth c (fs_Q X below _ s (fs_eI r) σ σF) r σ σF (f_Lw_packet a0 x1 x2 x3 x4 x5 x6 a7) (F0 m 0 ls [])) σ s.heap [] 0 0 h hw0 va_S.rf rfl rfl
  clear h hw0
  unfold f_Lw_packet
  refine fs_lift (fun _ _ _ _ => lv_aload hx hb d_Lw_packet_0 (lv_at hl 7 rfl)) ?_
  refine fs_lift (fun _ _ _ _ => lv_iconst (v := 0) hx hb d_Lw_packet_2 (by decide)) ?_
  refine fs_lift (fun _ _ _ _ => lv_aload_n hx hb d_Lw_packet_3 rfl (lv_at hl 0 rfl)) ?_
  refine fs_lift (fun _ _ _ _ => lv_iload_n hx hb d_Lw_packet_4 rfl (lv_at hl 1 rfl)) ?_
  refine fs_lift (fun _ _ _ _ => lv_iload_n hx hb d_Lw_packet_5 rfl (lv_at hl 2 rfl)) ?_
  refine fs_lift (fun _ _ _ _ => lv_iload_n hx hb d_Lw_packet_6 rfl (lv_at hl 3 rfl)) ?_
  refine fs_lift (fun _ _ _ _ => lv_iload hx hb d_Lw_packet_7 (lv_at hl 4 rfl)) ?_
  refine fs_lift (fun _ _ _ _ => lv_iload hx hb d_Lw_packet_9 (lv_at hl 5 rfl)) ?_
  refine fs_lift (fun _ _ _ _ => lv_iload hx hb d_Lw_packet_11 (lv_at hl 6 rfl)) ?_
  refine fs_JVt S hG hR rfl [.int x1, .int x2, .int x3, .int x4, .int x5, .int x6] (fun r => some (.int r)) (encx := fs_qI) (fun _ => rfl) (fun _ => rfl) (fun zr zs zt zh => m_Fs_packet X l hl0 a0 x1 x2 x3 x4 x5 x6 zh) tw_2_56 tw_2_57 tw_2_58 tw_2_59 tw_1_1 q_Fs_packet ⟨(Nat.le_of_ble_eq_true rfl), (Nat.le_of_ble_eq_true rfl)⟩ hl.1 rfl (Nat.le_of_ble_eq_true rfl) d_Lw_packet_13 (fun v1 => ?_) (fun e9 => ?_)
  · refine fs_Jeq (g2 := F0 m 16 ls [.int v1, .int 0, .ref a7]) rfl ?_
    refine fs_Jlet1 (nL := 9) (pj := 24) (I := fun (v2 : Int64) => []) (st := fun (v2 : Int64) => [.long v2, .int 0, .ref a7]) (fun v2 ls hl => ?_) (fun j24 hj24 => ?_)
    · refine fs_Jsj S hG d_Lw_packet_24 ?_
      refine fs_lift (fun _ _ _ _ => lv_goto hx hb d_Lw_packet_25 rfl) ?_
      refine fs_lift (fun _ _ _ _ => lv_iconst (v := 0) hx hb d_Lw_packet_36 (by decide)) ?_
      exact fs_Jiret S hr hk rfl d_Lw_packet_37
    · refine fs_if (fun _ _ _ _ => lv_if_eq hx hb d_Lw_packet_16 rfl) ?_ ?_
      · refine fs_lift (fun _ _ _ _ => lv_lconst (v := 0) hx hb d_Lw_packet_23 (by decide)) ?_
        exact hj24 0 ls (lv_sub hl [] rfl)
      · refine fs_lift (fun _ _ _ _ => lv_lconst (v := 1) hx hb d_Lw_packet_19 (by decide)) ?_
        refine fs_lift (fun _ _ _ _ => lv_goto hx hb d_Lw_packet_20 rfl) ?_
        exact hj24 1 ls (lv_sub hl [] rfl)
  · refine fs_Hif 28 (fun a9 ce9 c9 n9 => ?_) (fun q9 => ?_) ?_
    · rw [hT]; exact fs_F.take hpl S.2.2.2.1 rfl (by decide) (S.2.2.2.2 _ tw_2_54) c9 n9 (va_Nw.use rfl (hG.castable tb_2_69))
    · refine fs_liftL (fun _ _ _ _ => lv_astore (lv' := [(8, .ref q9), (0, .ref a0), (1, .int x1), (2, .int x2), (3, .int x3), (4, .int x4), (5, .int x5), (6, .int x6), (7, .ref a7)]) hx hb d_Lw_packet_28 hl (Nat.le_of_ble_eq_true rfl) rfl) (fun ls hl => ?_)
      refine fs_lift (fun _ _ _ _ => lv_iconst (v := 1) hx hb d_Lw_packet_30 (by decide)) ?_
      exact fs_Jiret S hr hk rfl d_Lw_packet_31
    refine fs_Hif 32 (fun a9 ce9 c9 n9 => ?_) (fun q9 => ?_) ?_
    · rw [hT]; exact fs_F.pass hpl S.2.2.2.1 rfl (by decide) (S.2.2.2.2 _ tw_2_54) c9 n9 (fs_nc1 hG) (fs_F.take hpl S.2.2.2.1 rfl (by decide) (S.2.2.2.2 _ tw_2_55) c9 n9 (va_Nw.use rfl (hG.castable tb_2_148)))
    · refine fs_liftL (fun _ _ _ _ => lv_astore (lv' := [(8, .ref q9), (0, .ref a0), (1, .int x1), (2, .int x2), (3, .int x3), (4, .int x4), (5, .int x5), (6, .int x6), (7, .ref a7)]) hx hb d_Lw_packet_32 hl (Nat.le_of_ble_eq_true rfl) rfl) (fun ls hl => ?_)
      refine fs_lift (fun _ _ _ _ => lv_iconst (v := 2) hx hb d_Lw_packet_34 (by decide)) ?_
      exact fs_Jiret S hr hk rfl d_Lw_packet_35
    exact fs_Hfail

theorem d_Lw_tick_0 : decode method_4_code 0 = .ok (.aload_n 3, 1) := by decide +kernel
theorem d_Lw_tick_1 : decode method_4_code 1 = .ok (.iconst 0, 1) := by decide +kernel
theorem d_Lw_tick_2 : decode method_4_code 2 = .ok (.aload_n 0, 1) := by decide +kernel
theorem d_Lw_tick_3 : decode method_4_code 3 = .ok (.iload_n 1, 1) := by decide +kernel
theorem d_Lw_tick_4 : decode method_4_code 4 = .ok (.iload_n 2, 1) := by decide +kernel
theorem d_Lw_tick_5 : decode method_4_code 5 = .ok (.invokevirtual 17, 3) := by decide +kernel
theorem d_Lw_tick_8 : decode method_4_code 8 = .ok (.i2l, 1) := by decide +kernel
theorem d_Lw_tick_9 : decode method_4_code 9 = .ok (.lastore, 1) := by decide +kernel
theorem d_Lw_tick_10 : decode method_4_code 10 = .ok (.goto 7, 3) := by decide +kernel
theorem d_Lw_tick_13 : decode method_4_code 13 = .ok (.astore 4, 2) := by decide +kernel
theorem d_Lw_tick_15 : decode method_4_code 15 = .ok (.iconst 1, 1) := by decide +kernel
theorem d_Lw_tick_16 : decode method_4_code 16 = .ok (.ireturn, 1) := by decide +kernel
theorem d_Lw_tick_17 : decode method_4_code 17 = .ok (.iconst 0, 1) := by decide +kernel
theorem d_Lw_tick_18 : decode method_4_code 18 = .ok (.ireturn, 1) := by decide +kernel
theorem q_Lw_tick : (⟨"FlowShelfLaw", "tick", "(LFlowShelf;II[J)I"⟩ : MethodName).cls ≠ "java/lang/invoke/MethodHandle" ∧ (⟨"FlowShelfLaw", "tick", "(LFlowShelf;II[J)I"⟩ : MethodName).cls ≠ "java/lang/invoke/VarHandle" ∧ (parseMethodDescriptor (⟨"FlowShelfLaw", "tick", "(LFlowShelf;II[J)I"⟩ : MethodName).desc).map (fun d => d.parameters.length) = some 4 := by decide +kernel
set_option maxHeartbeats 4000000 in
set_option maxRecDepth 100000 in
theorem m_Lw_tick (X : fs_X) (l : Launch) (hl0 : l.stackTraces = false) (a0 : Nat) (x1 : Int32) (x2 : Int32) (a3 : Nat) {r : Int32} {σ σF : fs_S} (h : (f_Lw_tick a0 x1 x2 a3).1 σ = some (r, σF)) : fs_Met X l ⟨"FlowShelfLaw", "tick", "(LFlowShelf;II[J)I"⟩ (Cond.codeWith ⟨"FlowShelfLaw", "tick", "(LFlowShelf;II[J)I"⟩ method_4_code 5 (some FieldType.int) [(0, 10, 13, 13)]) 10 263 [.ref a0, .int x1, .int x2, .ref a3] σ (fs_eI r) σF := by
  refine fs_ofWH (by decide) ?_
  intro p e s m args below meth c s₁ B hml hT hv
  obtain ⟨rfl, hw0, hG⟩ := hv
  have hx := B.exec
  have hb := B.bytes
  have hpl : e.platform.magicAccessors = ({} : Platform).magicAccessors := by rw [B.admits.platform]
  have hr := B.returns
  have hk := B.notSynchronized
  have S : CallFix p m c method_4_code 5 s _ fs_ws "FlowShelfLaw" := ⟨B.exec, B.bytes, hml, findClass_of_methodNamed B.named, fun w hw => atoms_spec (ws := _ :: fs_ws) B.pre w (List.mem_cons_of_mem _ hw)⟩
  have hR := fs_hR (fr := 10) (lo := 263) ((f_Lw_tick a0 x1 x2 a3).2 _ _ _ h)
  have hl := lv_entry ([.ref a0, .int x1, .int x2, .ref a3]) (n := 5) (Nat.le_of_ble_eq_true rfl)
  rw [lg_entry_eq]
  generalize (lg_sl ([.ref a0, .int x1, .int x2, .ref a3]) ++ List.replicate (5 - (lg_sl ([.ref a0, .int x1, .int x2, .ref a3])).length) Slot.unset).toArray = ls at hl ⊢
  have hl : lv_has ls 5 [(0, .ref a0), (1, .int x1), (2, .int x2), (3, .ref a3)] := hl
  refine (?_ : fs_J X p l e (fs_rm 10 263 σ σF) s m _ below meth c (fs_Q X below _ s (fs_eI r) σ σF) r σ σF (f_Lw_tick a0 x1 x2 a3) (F0 m 0 ls [])) σ s.heap [] 0 0 h hw0 va_S.rf rfl rfl
  clear h hw0
  unfold f_Lw_tick
  refine fs_lift (fun _ _ _ _ => lv_aload_n hx hb d_Lw_tick_0 rfl (lv_at hl 3 rfl)) ?_
  refine fs_lift (fun _ _ _ _ => lv_iconst (v := 0) hx hb d_Lw_tick_1 (by decide)) ?_
  refine fs_lift (fun _ _ _ _ => lv_aload_n hx hb d_Lw_tick_2 rfl (lv_at hl 0 rfl)) ?_
  refine fs_lift (fun _ _ _ _ => lv_iload_n hx hb d_Lw_tick_3 rfl (lv_at hl 1 rfl)) ?_
  refine fs_lift (fun _ _ _ _ => lv_iload_n hx hb d_Lw_tick_4 rfl (lv_at hl 2 rfl)) ?_
  refine fs_JVt S hG hR rfl [.int x1, .int x2] (fun r => some (.int r)) (encx := fs_qI) (fun _ => rfl) (fun _ => rfl) (fun zr zs zt zh => m_Fs_tick X l hl0 a0 x1 x2 zh) tw_3_64 tw_3_65 tw_3_66 tw_3_67 tw_1_1 q_Fs_tick ⟨(Nat.le_of_ble_eq_true rfl), (Nat.le_of_ble_eq_true rfl)⟩ hl.1 rfl (Nat.le_of_ble_eq_true rfl) d_Lw_tick_5 (fun v1 => ?_) (fun e9 => ?_)
  · refine fs_Jeq (g2 := F0 m 8 ls [.int v1, .int 0, .ref a3]) rfl ?_
    refine fs_lift (fun _ _ _ _ => lv_i2l hx hb d_Lw_tick_8 rfl) ?_
    refine fs_Jsj S hG d_Lw_tick_9 ?_
    refine fs_lift (fun _ _ _ _ => lv_goto hx hb d_Lw_tick_10 rfl) ?_
    refine fs_lift (fun _ _ _ _ => lv_iconst (v := 0) hx hb d_Lw_tick_17 (by decide)) ?_
    exact fs_Jiret S hr hk rfl d_Lw_tick_18
  · refine fs_Hif 13 (fun a9 ce9 c9 n9 => ?_) (fun q9 => ?_) ?_
    · rw [hT]; exact fs_F.take hpl S.2.2.2.1 rfl (by decide) (S.2.2.2.2 _ tw_2_54) c9 n9 (va_Nw.use rfl (hG.castable tb_2_69))
    · refine fs_liftL (fun _ _ _ _ => lv_astore (lv' := [(4, .ref q9), (0, .ref a0), (1, .int x1), (2, .int x2), (3, .ref a3)]) hx hb d_Lw_tick_13 hl (Nat.le_of_ble_eq_true rfl) rfl) (fun ls hl => ?_)
      refine fs_lift (fun _ _ _ _ => lv_iconst (v := 1) hx hb d_Lw_tick_15 (by decide)) ?_
      exact fs_Jiret S hr hk rfl d_Lw_tick_16
    exact fs_Hfail

theorem d_Lw_flush_0 : decode method_5_code 0 = .ok (.aload_n 2, 1) := by decide +kernel
theorem d_Lw_flush_1 : decode method_5_code 1 = .ok (.iconst 0, 1) := by decide +kernel
theorem d_Lw_flush_2 : decode method_5_code 2 = .ok (.aload_n 0, 1) := by decide +kernel
theorem d_Lw_flush_3 : decode method_5_code 3 = .ok (.iload_n 1, 1) := by decide +kernel
theorem d_Lw_flush_4 : decode method_5_code 4 = .ok (.invokevirtual 21, 3) := by decide +kernel
theorem d_Lw_flush_7 : decode method_5_code 7 = .ok (.i2l, 1) := by decide +kernel
theorem d_Lw_flush_8 : decode method_5_code 8 = .ok (.lastore, 1) := by decide +kernel
theorem d_Lw_flush_9 : decode method_5_code 9 = .ok (.goto 6, 3) := by decide +kernel
theorem d_Lw_flush_12 : decode method_5_code 12 = .ok (.astore_n 3, 1) := by decide +kernel
theorem d_Lw_flush_13 : decode method_5_code 13 = .ok (.iconst 1, 1) := by decide +kernel
theorem d_Lw_flush_14 : decode method_5_code 14 = .ok (.ireturn, 1) := by decide +kernel
theorem d_Lw_flush_15 : decode method_5_code 15 = .ok (.iconst 0, 1) := by decide +kernel
theorem d_Lw_flush_16 : decode method_5_code 16 = .ok (.ireturn, 1) := by decide +kernel
theorem q_Lw_flush : (⟨"FlowShelfLaw", "flush", "(LFlowShelf;I[J)I"⟩ : MethodName).cls ≠ "java/lang/invoke/MethodHandle" ∧ (⟨"FlowShelfLaw", "flush", "(LFlowShelf;I[J)I"⟩ : MethodName).cls ≠ "java/lang/invoke/VarHandle" ∧ (parseMethodDescriptor (⟨"FlowShelfLaw", "flush", "(LFlowShelf;I[J)I"⟩ : MethodName).desc).map (fun d => d.parameters.length) = some 3 := by decide +kernel
set_option maxHeartbeats 4000000 in
set_option maxRecDepth 100000 in
theorem m_Lw_flush (X : fs_X) (l : Launch) (hl0 : l.stackTraces = false) (a0 : Nat) (x1 : Int32) (a2 : Nat) {r : Int32} {σ σF : fs_S} (h : (f_Lw_flush a0 x1 a2).1 σ = some (r, σF)) : fs_Met X l ⟨"FlowShelfLaw", "flush", "(LFlowShelf;I[J)I"⟩ (Cond.codeWith ⟨"FlowShelfLaw", "flush", "(LFlowShelf;I[J)I"⟩ method_5_code 4 (some FieldType.int) [(0, 9, 12, 13)]) 10 257 [.ref a0, .int x1, .ref a2] σ (fs_eI r) σF := by
  refine fs_ofWH (by decide) ?_
  intro p e s m args below meth c s₁ B hml hT hv
  obtain ⟨rfl, hw0, hG⟩ := hv
  have hx := B.exec
  have hb := B.bytes
  have hpl : e.platform.magicAccessors = ({} : Platform).magicAccessors := by rw [B.admits.platform]
  have hr := B.returns
  have hk := B.notSynchronized
  have S : CallFix p m c method_5_code 4 s _ fs_ws "FlowShelfLaw" := ⟨B.exec, B.bytes, hml, findClass_of_methodNamed B.named, fun w hw => atoms_spec (ws := _ :: fs_ws) B.pre w (List.mem_cons_of_mem _ hw)⟩
  have hR := fs_hR (fr := 10) (lo := 257) ((f_Lw_flush a0 x1 a2).2 _ _ _ h)
  have hl := lv_entry ([.ref a0, .int x1, .ref a2]) (n := 4) (Nat.le_of_ble_eq_true rfl)
  rw [lg_entry_eq]
  generalize (lg_sl ([.ref a0, .int x1, .ref a2]) ++ List.replicate (4 - (lg_sl ([.ref a0, .int x1, .ref a2])).length) Slot.unset).toArray = ls at hl ⊢
  have hl : lv_has ls 4 [(0, .ref a0), (1, .int x1), (2, .ref a2)] := hl
  refine (?_ : fs_J X p l e (fs_rm 10 257 σ σF) s m _ below meth c (fs_Q X below _ s (fs_eI r) σ σF) r σ σF (f_Lw_flush a0 x1 a2) (F0 m 0 ls [])) σ s.heap [] 0 0 h hw0 va_S.rf rfl rfl
  clear h hw0
  unfold f_Lw_flush
  refine fs_lift (fun _ _ _ _ => lv_aload_n hx hb d_Lw_flush_0 rfl (lv_at hl 2 rfl)) ?_
  refine fs_lift (fun _ _ _ _ => lv_iconst (v := 0) hx hb d_Lw_flush_1 (by decide)) ?_
  refine fs_lift (fun _ _ _ _ => lv_aload_n hx hb d_Lw_flush_2 rfl (lv_at hl 0 rfl)) ?_
  refine fs_lift (fun _ _ _ _ => lv_iload_n hx hb d_Lw_flush_3 rfl (lv_at hl 1 rfl)) ?_
  refine fs_JVt S hG hR rfl [.int x1] (fun r => some (.int r)) (encx := fs_qI) (fun _ => rfl) (fun _ => rfl) (fun zr zs zt zh => m_Fs_flush X l hl0 a0 x1 zh) tw_3_80 tw_3_81 tw_3_82 tw_3_83 tw_1_1 q_Fs_flush ⟨(Nat.le_of_ble_eq_true rfl), (Nat.le_of_ble_eq_true rfl)⟩ hl.1 rfl (Nat.le_of_ble_eq_true rfl) d_Lw_flush_4 (fun v1 => ?_) (fun e9 => ?_)
  · refine fs_Jeq (g2 := F0 m 7 ls [.int v1, .int 0, .ref a2]) rfl ?_
    refine fs_lift (fun _ _ _ _ => lv_i2l hx hb d_Lw_flush_7 rfl) ?_
    refine fs_Jsj S hG d_Lw_flush_8 ?_
    refine fs_lift (fun _ _ _ _ => lv_goto hx hb d_Lw_flush_9 rfl) ?_
    refine fs_lift (fun _ _ _ _ => lv_iconst (v := 0) hx hb d_Lw_flush_15 (by decide)) ?_
    exact fs_Jiret S hr hk rfl d_Lw_flush_16
  · refine fs_Hif 12 (fun a9 ce9 c9 n9 => ?_) (fun q9 => ?_) ?_
    · rw [hT]; exact fs_F.take hpl S.2.2.2.1 rfl (by decide) (S.2.2.2.2 _ tw_2_54) c9 n9 (va_Nw.use rfl (hG.castable tb_2_69))
    · refine fs_liftL (fun _ _ _ _ => lv_astore_n (lv' := [(3, .ref q9), (0, .ref a0), (1, .int x1), (2, .ref a2)]) hx hb d_Lw_flush_12 rfl hl (Nat.le_of_ble_eq_true rfl) rfl) (fun ls hl => ?_)
      refine fs_lift (fun _ _ _ _ => lv_iconst (v := 1) hx hb d_Lw_flush_13 (by decide)) ?_
      exact fs_Jiret S hr hk rfl d_Lw_flush_14
    exact fs_Hfail

theorem d_Lw_sampler_0 : decode method_6_code 0 = .ok (.aload_n 0, 1) := by decide +kernel
theorem d_Lw_sampler_1 : decode method_6_code 1 = .ok (.iload_n 1, 1) := by decide +kernel
theorem d_Lw_sampler_2 : decode method_6_code 2 = .ok (.iload_n 2, 1) := by decide +kernel
theorem d_Lw_sampler_3 : decode method_6_code 3 = .ok (.invokevirtual 25, 3) := by decide +kernel
theorem d_Lw_sampler_6 : decode method_6_code 6 = .ok (.goto 6, 3) := by decide +kernel
theorem d_Lw_sampler_9 : decode method_6_code 9 = .ok (.astore_n 3, 1) := by decide +kernel
theorem d_Lw_sampler_10 : decode method_6_code 10 = .ok (.iconst 1, 1) := by decide +kernel
theorem d_Lw_sampler_11 : decode method_6_code 11 = .ok (.ireturn, 1) := by decide +kernel
theorem d_Lw_sampler_12 : decode method_6_code 12 = .ok (.iconst 0, 1) := by decide +kernel
theorem d_Lw_sampler_13 : decode method_6_code 13 = .ok (.ireturn, 1) := by decide +kernel
theorem q_Lw_sampler : (⟨"FlowShelfLaw", "sampler", "(LFlowShelf;II)I"⟩ : MethodName).cls ≠ "java/lang/invoke/MethodHandle" ∧ (⟨"FlowShelfLaw", "sampler", "(LFlowShelf;II)I"⟩ : MethodName).cls ≠ "java/lang/invoke/VarHandle" ∧ (parseMethodDescriptor (⟨"FlowShelfLaw", "sampler", "(LFlowShelf;II)I"⟩ : MethodName).desc).map (fun d => d.parameters.length) = some 3 := by decide +kernel
set_option maxHeartbeats 4000000 in
set_option maxRecDepth 100000 in
theorem m_Lw_sampler (X : fs_X) (l : Launch) (hl0 : l.stackTraces = false) (a0 : Nat) (x1 : Int32) (x2 : Int32) {r : Int32} {σ σF : fs_S} (h : (f_Lw_sampler a0 x1 x2).1 σ = some (r, σF)) : fs_Met X l ⟨"FlowShelfLaw", "sampler", "(LFlowShelf;II)I"⟩ (Cond.codeWith ⟨"FlowShelfLaw", "sampler", "(LFlowShelf;II)I"⟩ method_6_code 4 (some FieldType.int) [(0, 6, 9, 13)]) 8 126 [.ref a0, .int x1, .int x2] σ (fs_eI r) σF := by
  refine fs_ofWH (by decide) ?_
  intro p e s m args below meth c s₁ B hml hT hv
  obtain ⟨rfl, hw0, hG⟩ := hv
  have hx := B.exec
  have hb := B.bytes
  have hpl : e.platform.magicAccessors = ({} : Platform).magicAccessors := by rw [B.admits.platform]
  have hr := B.returns
  have hk := B.notSynchronized
  have S : CallFix p m c method_6_code 4 s _ fs_ws "FlowShelfLaw" := ⟨B.exec, B.bytes, hml, findClass_of_methodNamed B.named, fun w hw => atoms_spec (ws := _ :: fs_ws) B.pre w (List.mem_cons_of_mem _ hw)⟩
  have hR := fs_hR (fr := 8) (lo := 126) ((f_Lw_sampler a0 x1 x2).2 _ _ _ h)
  have hl := lv_entry ([.ref a0, .int x1, .int x2]) (n := 4) (Nat.le_of_ble_eq_true rfl)
  rw [lg_entry_eq]
  generalize (lg_sl ([.ref a0, .int x1, .int x2]) ++ List.replicate (4 - (lg_sl ([.ref a0, .int x1, .int x2])).length) Slot.unset).toArray = ls at hl ⊢
  have hl : lv_has ls 4 [(0, .ref a0), (1, .int x1), (2, .int x2)] := hl
  refine (?_ : fs_J X p l e (fs_rm 8 126 σ σF) s m _ below meth c (fs_Q X below _ s (fs_eI r) σ σF) r σ σF (f_Lw_sampler a0 x1 x2) (F0 m 0 ls [])) σ s.heap [] 0 0 h hw0 va_S.rf rfl rfl
  clear h hw0
  unfold f_Lw_sampler
  refine fs_lift (fun _ _ _ _ => lv_aload_n hx hb d_Lw_sampler_0 rfl (lv_at hl 0 rfl)) ?_
  refine fs_lift (fun _ _ _ _ => lv_iload_n hx hb d_Lw_sampler_1 rfl (lv_at hl 1 rfl)) ?_
  refine fs_lift (fun _ _ _ _ => lv_iload_n hx hb d_Lw_sampler_2 rfl (lv_at hl 2 rfl)) ?_
  refine fs_JVt S hG hR rfl [.int x1, .int x2] (fun _ => none) (encx := fs_qV) (fun _ => rfl) (fun _ => rfl) (fun zr zs zt zh => m_Fs_sampler X l hl0 a0 x1 x2 zh) tw_3_91 tw_3_92 tw_3_93 tw_3_94 tw_1_1 q_Fs_sampler ⟨(Nat.le_of_ble_eq_true rfl), (Nat.le_of_ble_eq_true rfl)⟩ hl.1 rfl (Nat.le_of_ble_eq_true rfl) d_Lw_sampler_3 (fun _ => ?_) (fun e9 => ?_)
  · refine fs_Jeq (g2 := F0 m 6 ls []) rfl ?_
    refine fs_lift (fun _ _ _ _ => lv_goto hx hb d_Lw_sampler_6 rfl) ?_
    refine fs_lift (fun _ _ _ _ => lv_iconst (v := 0) hx hb d_Lw_sampler_12 (by decide)) ?_
    exact fs_Jiret S hr hk rfl d_Lw_sampler_13
  · refine fs_Hif 9 (fun a9 ce9 c9 n9 => ?_) (fun q9 => ?_) ?_
    · rw [hT]; exact fs_F.take hpl S.2.2.2.1 rfl (by decide) (S.2.2.2.2 _ tw_2_54) c9 n9 (va_Nw.use rfl (hG.castable tb_2_69))
    · refine fs_liftL (fun _ _ _ _ => lv_astore_n (lv' := [(3, .ref q9), (0, .ref a0), (1, .int x1), (2, .int x2)]) hx hb d_Lw_sampler_9 rfl hl (Nat.le_of_ble_eq_true rfl) rfl) (fun ls hl => ?_)
      refine fs_lift (fun _ _ _ _ => lv_iconst (v := 1) hx hb d_Lw_sampler_10 (by decide)) ?_
      exact fs_Jiret S hr hk rfl d_Lw_sampler_11
    exact fs_Hfail

theorem d_Lw_ended_0 : decode method_7_code 0 = .ok (.aload 4, 2) := by decide +kernel
theorem d_Lw_ended_2 : decode method_7_code 2 = .ok (.iconst 0, 1) := by decide +kernel
theorem d_Lw_ended_3 : decode method_7_code 3 = .ok (.aload_n 0, 1) := by decide +kernel
theorem d_Lw_ended_4 : decode method_7_code 4 = .ok (.iload_n 1, 1) := by decide +kernel
theorem d_Lw_ended_5 : decode method_7_code 5 = .ok (.iload_n 2, 1) := by decide +kernel
theorem d_Lw_ended_6 : decode method_7_code 6 = .ok (.iload_n 3, 1) := by decide +kernel
theorem d_Lw_ended_7 : decode method_7_code 7 = .ok (.invokevirtual 29, 3) := by decide +kernel
theorem d_Lw_ended_10 : decode method_7_code 10 = .ok (.i2l, 1) := by decide +kernel
theorem d_Lw_ended_11 : decode method_7_code 11 = .ok (.lastore, 1) := by decide +kernel
theorem d_Lw_ended_12 : decode method_7_code 12 = .ok (.goto 11, 3) := by decide +kernel
theorem d_Lw_ended_15 : decode method_7_code 15 = .ok (.astore 5, 2) := by decide +kernel
theorem d_Lw_ended_17 : decode method_7_code 17 = .ok (.iconst 1, 1) := by decide +kernel
theorem d_Lw_ended_18 : decode method_7_code 18 = .ok (.ireturn, 1) := by decide +kernel
theorem d_Lw_ended_19 : decode method_7_code 19 = .ok (.astore 5, 2) := by decide +kernel
theorem d_Lw_ended_21 : decode method_7_code 21 = .ok (.iconst 2, 1) := by decide +kernel
theorem d_Lw_ended_22 : decode method_7_code 22 = .ok (.ireturn, 1) := by decide +kernel
theorem d_Lw_ended_23 : decode method_7_code 23 = .ok (.iconst 0, 1) := by decide +kernel
theorem d_Lw_ended_24 : decode method_7_code 24 = .ok (.ireturn, 1) := by decide +kernel
theorem q_Lw_ended : (⟨"FlowShelfLaw", "ended", "(LFlowShelf;III[J)I"⟩ : MethodName).cls ≠ "java/lang/invoke/MethodHandle" ∧ (⟨"FlowShelfLaw", "ended", "(LFlowShelf;III[J)I"⟩ : MethodName).cls ≠ "java/lang/invoke/VarHandle" ∧ (parseMethodDescriptor (⟨"FlowShelfLaw", "ended", "(LFlowShelf;III[J)I"⟩ : MethodName).desc).map (fun d => d.parameters.length) = some 5 := by decide +kernel
set_option maxHeartbeats 4000000 in
set_option maxRecDepth 100000 in
theorem m_Lw_ended (X : fs_X) (l : Launch) (hl0 : l.stackTraces = false) (a0 : Nat) (x1 : Int32) (x2 : Int32) (x3 : Int32) (a4 : Nat) {r : Int32} {σ σF : fs_S} (h : (f_Lw_ended a0 x1 x2 x3 a4).1 σ = some (r, σF)) : fs_Met X l ⟨"FlowShelfLaw", "ended", "(LFlowShelf;III[J)I"⟩ (Cond.codeWith ⟨"FlowShelfLaw", "ended", "(LFlowShelf;III[J)I"⟩ method_7_code 6 (some FieldType.int) [(0, 12, 15, 13), (0, 12, 19, 33)]) 8 127 [.ref a0, .int x1, .int x2, .int x3, .ref a4] σ (fs_eI r) σF := by
  refine fs_ofWH (by decide) ?_
  intro p e s m args below meth c s₁ B hml hT hv
  obtain ⟨rfl, hw0, hG⟩ := hv
  have hx := B.exec
  have hb := B.bytes
  have hpl : e.platform.magicAccessors = ({} : Platform).magicAccessors := by rw [B.admits.platform]
  have hr := B.returns
  have hk := B.notSynchronized
  have S : CallFix p m c method_7_code 6 s _ fs_ws "FlowShelfLaw" := ⟨B.exec, B.bytes, hml, findClass_of_methodNamed B.named, fun w hw => atoms_spec (ws := _ :: fs_ws) B.pre w (List.mem_cons_of_mem _ hw)⟩
  have hR := fs_hR (fr := 8) (lo := 127) ((f_Lw_ended a0 x1 x2 x3 a4).2 _ _ _ h)
  have hl := lv_entry ([.ref a0, .int x1, .int x2, .int x3, .ref a4]) (n := 6) (Nat.le_of_ble_eq_true rfl)
  rw [lg_entry_eq]
  generalize (lg_sl ([.ref a0, .int x1, .int x2, .int x3, .ref a4]) ++ List.replicate (6 - (lg_sl ([.ref a0, .int x1, .int x2, .int x3, .ref a4])).length) Slot.unset).toArray = ls at hl ⊢
  have hl : lv_has ls 6 [(0, .ref a0), (1, .int x1), (2, .int x2), (3, .int x3), (4, .ref a4)] := hl
  refine (?_ : fs_J X p l e (fs_rm 8 127 σ σF) s m _ below meth c (fs_Q X below _ s (fs_eI r) σ σF) r σ σF (f_Lw_ended a0 x1 x2 x3 a4) (F0 m 0 ls [])) σ s.heap [] 0 0 h hw0 va_S.rf rfl rfl
  clear h hw0
  unfold f_Lw_ended
  refine fs_lift (fun _ _ _ _ => lv_aload hx hb d_Lw_ended_0 (lv_at hl 4 rfl)) ?_
  refine fs_lift (fun _ _ _ _ => lv_iconst (v := 0) hx hb d_Lw_ended_2 (by decide)) ?_
  refine fs_lift (fun _ _ _ _ => lv_aload_n hx hb d_Lw_ended_3 rfl (lv_at hl 0 rfl)) ?_
  refine fs_lift (fun _ _ _ _ => lv_iload_n hx hb d_Lw_ended_4 rfl (lv_at hl 1 rfl)) ?_
  refine fs_lift (fun _ _ _ _ => lv_iload_n hx hb d_Lw_ended_5 rfl (lv_at hl 2 rfl)) ?_
  refine fs_lift (fun _ _ _ _ => lv_iload_n hx hb d_Lw_ended_6 rfl (lv_at hl 3 rfl)) ?_
  refine fs_JVt S hG hR rfl [.int x1, .int x2, .int x3] (fun r => some (.int r)) (encx := fs_qI) (fun _ => rfl) (fun _ => rfl) (fun zr zs zt zh => m_Fs_ended X l hl0 a0 x1 x2 x3 zh) tw_3_104 tw_3_105 tw_3_106 tw_3_107 tw_1_1 q_Fs_ended ⟨(Nat.le_of_ble_eq_true rfl), (Nat.le_of_ble_eq_true rfl)⟩ hl.1 rfl (Nat.le_of_ble_eq_true rfl) d_Lw_ended_7 (fun v1 => ?_) (fun e9 => ?_)
  · refine fs_Jeq (g2 := F0 m 10 ls [.int v1, .int 0, .ref a4]) rfl ?_
    refine fs_lift (fun _ _ _ _ => lv_i2l hx hb d_Lw_ended_10 rfl) ?_
    refine fs_Jsj S hG d_Lw_ended_11 ?_
    refine fs_lift (fun _ _ _ _ => lv_goto hx hb d_Lw_ended_12 rfl) ?_
    refine fs_lift (fun _ _ _ _ => lv_iconst (v := 0) hx hb d_Lw_ended_23 (by decide)) ?_
    exact fs_Jiret S hr hk rfl d_Lw_ended_24
  · refine fs_Hif 15 (fun a9 ce9 c9 n9 => ?_) (fun q9 => ?_) ?_
    · rw [hT]; exact fs_F.take hpl S.2.2.2.1 rfl (by decide) (S.2.2.2.2 _ tw_2_54) c9 n9 (va_Nw.use rfl (hG.castable tb_2_69))
    · refine fs_liftL (fun _ _ _ _ => lv_astore (lv' := [(5, .ref q9), (0, .ref a0), (1, .int x1), (2, .int x2), (3, .int x3), (4, .ref a4)]) hx hb d_Lw_ended_15 hl (Nat.le_of_ble_eq_true rfl) rfl) (fun ls hl => ?_)
      refine fs_lift (fun _ _ _ _ => lv_iconst (v := 1) hx hb d_Lw_ended_17 (by decide)) ?_
      exact fs_Jiret S hr hk rfl d_Lw_ended_18
    refine fs_Hif 19 (fun a9 ce9 c9 n9 => ?_) (fun q9 => ?_) ?_
    · rw [hT]; exact fs_F.pass hpl S.2.2.2.1 rfl (by decide) (S.2.2.2.2 _ tw_2_54) c9 n9 (fs_nc2 hG) (fs_F.take hpl S.2.2.2.1 rfl (by decide) (S.2.2.2.2 _ tw_3_103) c9 n9 (va_Nw.use rfl (hG.castable tb_3_114)))
    · refine fs_liftL (fun _ _ _ _ => lv_astore (lv' := [(5, .ref q9), (0, .ref a0), (1, .int x1), (2, .int x2), (3, .int x3), (4, .ref a4)]) hx hb d_Lw_ended_19 hl (Nat.le_of_ble_eq_true rfl) rfl) (fun ls hl => ?_)
      refine fs_lift (fun _ _ _ _ => lv_iconst (v := 2) hx hb d_Lw_ended_21 (by decide)) ?_
      exact fs_Jiret S hr hk rfl d_Lw_ended_22
    exact fs_Hfail

theorem d_Lw_field_0 : decode method_8_code 0 = .ok (.aload 5, 2) := by decide +kernel
theorem d_Lw_field_2 : decode method_8_code 2 = .ok (.iconst 0, 1) := by decide +kernel
theorem d_Lw_field_3 : decode method_8_code 3 = .ok (.aload_n 0, 1) := by decide +kernel
theorem d_Lw_field_4 : decode method_8_code 4 = .ok (.iload_n 1, 1) := by decide +kernel
theorem d_Lw_field_5 : decode method_8_code 5 = .ok (.iload_n 2, 1) := by decide +kernel
theorem d_Lw_field_6 : decode method_8_code 6 = .ok (.iload_n 3, 1) := by decide +kernel
theorem d_Lw_field_7 : decode method_8_code 7 = .ok (.iload 4, 2) := by decide +kernel
theorem d_Lw_field_9 : decode method_8_code 9 = .ok (.invokevirtual 35, 3) := by decide +kernel
theorem d_Lw_field_12 : decode method_8_code 12 = .ok (.i2l, 1) := by decide +kernel
theorem d_Lw_field_13 : decode method_8_code 13 = .ok (.lastore, 1) := by decide +kernel
theorem d_Lw_field_14 : decode method_8_code 14 = .ok (.goto 11, 3) := by decide +kernel
theorem d_Lw_field_17 : decode method_8_code 17 = .ok (.astore 6, 2) := by decide +kernel
theorem d_Lw_field_19 : decode method_8_code 19 = .ok (.iconst 1, 1) := by decide +kernel
theorem d_Lw_field_20 : decode method_8_code 20 = .ok (.ireturn, 1) := by decide +kernel
theorem d_Lw_field_21 : decode method_8_code 21 = .ok (.astore 6, 2) := by decide +kernel
theorem d_Lw_field_23 : decode method_8_code 23 = .ok (.iconst 2, 1) := by decide +kernel
theorem d_Lw_field_24 : decode method_8_code 24 = .ok (.ireturn, 1) := by decide +kernel
theorem d_Lw_field_25 : decode method_8_code 25 = .ok (.iconst 0, 1) := by decide +kernel
theorem d_Lw_field_26 : decode method_8_code 26 = .ok (.ireturn, 1) := by decide +kernel
theorem q_Lw_field : (⟨"FlowShelfLaw", "field", "(LFlowShelf;IIII[J)I"⟩ : MethodName).cls ≠ "java/lang/invoke/MethodHandle" ∧ (⟨"FlowShelfLaw", "field", "(LFlowShelf;IIII[J)I"⟩ : MethodName).cls ≠ "java/lang/invoke/VarHandle" ∧ (parseMethodDescriptor (⟨"FlowShelfLaw", "field", "(LFlowShelf;IIII[J)I"⟩ : MethodName).desc).map (fun d => d.parameters.length) = some 6 := by decide +kernel
set_option maxHeartbeats 4000000 in
set_option maxRecDepth 100000 in
theorem m_Lw_field (X : fs_X) (l : Launch) (hl0 : l.stackTraces = false) (a0 : Nat) (x1 : Int32) (x2 : Int32) (x3 : Int32) (x4 : Int32) (a5 : Nat) {r : Int32} {σ σF : fs_S} (h : (f_Lw_field a0 x1 x2 x3 x4 a5).1 σ = some (r, σF)) : fs_Met X l ⟨"FlowShelfLaw", "field", "(LFlowShelf;IIII[J)I"⟩ (Cond.codeWith ⟨"FlowShelfLaw", "field", "(LFlowShelf;IIII[J)I"⟩ method_8_code 7 (some FieldType.int) [(0, 14, 17, 13), (0, 14, 21, 15)]) 9 151 [.ref a0, .int x1, .int x2, .int x3, .int x4, .ref a5] σ (fs_eI r) σF := by
  refine fs_ofWH (by decide) ?_
  intro p e s m args below meth c s₁ B hml hT hv
  obtain ⟨rfl, hw0, hG⟩ := hv
  have hx := B.exec
  have hb := B.bytes
  have hpl : e.platform.magicAccessors = ({} : Platform).magicAccessors := by rw [B.admits.platform]
  have hr := B.returns
  have hk := B.notSynchronized
  have S : CallFix p m c method_8_code 7 s _ fs_ws "FlowShelfLaw" := ⟨B.exec, B.bytes, hml, findClass_of_methodNamed B.named, fun w hw => atoms_spec (ws := _ :: fs_ws) B.pre w (List.mem_cons_of_mem _ hw)⟩
  have hR := fs_hR (fr := 9) (lo := 151) ((f_Lw_field a0 x1 x2 x3 x4 a5).2 _ _ _ h)
  have hl := lv_entry ([.ref a0, .int x1, .int x2, .int x3, .int x4, .ref a5]) (n := 7) (Nat.le_of_ble_eq_true rfl)
  rw [lg_entry_eq]
  generalize (lg_sl ([.ref a0, .int x1, .int x2, .int x3, .int x4, .ref a5]) ++ List.replicate (7 - (lg_sl ([.ref a0, .int x1, .int x2, .int x3, .int x4, .ref a5])).length) Slot.unset).toArray = ls at hl ⊢
  have hl : lv_has ls 7 [(0, .ref a0), (1, .int x1), (2, .int x2), (3, .int x3), (4, .int x4), (5, .ref a5)] := hl
  refine (?_ : fs_J X p l e (fs_rm 9 151 σ σF) s m _ below meth c (fs_Q X below _ s (fs_eI r) σ σF) r σ σF (f_Lw_field a0 x1 x2 x3 x4 a5) (F0 m 0 ls [])) σ s.heap [] 0 0 h hw0 va_S.rf rfl rfl
  clear h hw0
  unfold f_Lw_field
  refine fs_lift (fun _ _ _ _ => lv_aload hx hb d_Lw_field_0 (lv_at hl 5 rfl)) ?_
  refine fs_lift (fun _ _ _ _ => lv_iconst (v := 0) hx hb d_Lw_field_2 (by decide)) ?_
  refine fs_lift (fun _ _ _ _ => lv_aload_n hx hb d_Lw_field_3 rfl (lv_at hl 0 rfl)) ?_
  refine fs_lift (fun _ _ _ _ => lv_iload_n hx hb d_Lw_field_4 rfl (lv_at hl 1 rfl)) ?_
  refine fs_lift (fun _ _ _ _ => lv_iload_n hx hb d_Lw_field_5 rfl (lv_at hl 2 rfl)) ?_
  refine fs_lift (fun _ _ _ _ => lv_iload_n hx hb d_Lw_field_6 rfl (lv_at hl 3 rfl)) ?_
  refine fs_lift (fun _ _ _ _ => lv_iload hx hb d_Lw_field_7 (lv_at hl 4 rfl)) ?_
  refine fs_JVt S hG hR rfl [.int x1, .int x2, .int x3, .int x4] (fun r => some (.int r)) (encx := fs_qI) (fun _ => rfl) (fun _ => rfl) (fun zr zs zt zh => m_Fs_field X l hl0 a0 x1 x2 x3 x4 zh) tw_3_136 tw_3_137 tw_3_138 tw_3_139 tw_1_1 q_Fs_field ⟨(Nat.le_of_ble_eq_true rfl), (Nat.le_of_ble_eq_true rfl)⟩ hl.1 rfl (Nat.le_of_ble_eq_true rfl) d_Lw_field_9 (fun v1 => ?_) (fun e9 => ?_)
  · refine fs_Jeq (g2 := F0 m 12 ls [.int v1, .int 0, .ref a5]) rfl ?_
    refine fs_lift (fun _ _ _ _ => lv_i2l hx hb d_Lw_field_12 rfl) ?_
    refine fs_Jsj S hG d_Lw_field_13 ?_
    refine fs_lift (fun _ _ _ _ => lv_goto hx hb d_Lw_field_14 rfl) ?_
    refine fs_lift (fun _ _ _ _ => lv_iconst (v := 0) hx hb d_Lw_field_25 (by decide)) ?_
    exact fs_Jiret S hr hk rfl d_Lw_field_26
  · refine fs_Hif 17 (fun a9 ce9 c9 n9 => ?_) (fun q9 => ?_) ?_
    · rw [hT]; exact fs_F.take hpl S.2.2.2.1 rfl (by decide) (S.2.2.2.2 _ tw_2_54) c9 n9 (va_Nw.use rfl (hG.castable tb_2_69))
    · refine fs_liftL (fun _ _ _ _ => lv_astore (lv' := [(6, .ref q9), (0, .ref a0), (1, .int x1), (2, .int x2), (3, .int x3), (4, .int x4), (5, .ref a5)]) hx hb d_Lw_field_17 hl (Nat.le_of_ble_eq_true rfl) rfl) (fun ls hl => ?_)
      refine fs_lift (fun _ _ _ _ => lv_iconst (v := 1) hx hb d_Lw_field_19 (by decide)) ?_
      exact fs_Jiret S hr hk rfl d_Lw_field_20
    refine fs_Hif 21 (fun a9 ce9 c9 n9 => ?_) (fun q9 => ?_) ?_
    · rw [hT]; exact fs_F.pass hpl S.2.2.2.1 rfl (by decide) (S.2.2.2.2 _ tw_2_54) c9 n9 (fs_nc1 hG) (fs_F.take hpl S.2.2.2.1 rfl (by decide) (S.2.2.2.2 _ tw_2_55) c9 n9 (va_Nw.use rfl (hG.castable tb_2_148)))
    · refine fs_liftL (fun _ _ _ _ => lv_astore (lv' := [(6, .ref q9), (0, .ref a0), (1, .int x1), (2, .int x2), (3, .int x3), (4, .int x4), (5, .ref a5)]) hx hb d_Lw_field_21 hl (Nat.le_of_ble_eq_true rfl) rfl) (fun ls hl => ?_)
      refine fs_lift (fun _ _ _ _ => lv_iconst (v := 2) hx hb d_Lw_field_23 (by decide)) ?_
      exact fs_Jiret S hr hk rfl d_Lw_field_24
    exact fs_Hfail

theorem d_Lw_seal_0 : decode method_9_code 0 = .ok (.aload_n 3, 1) := by decide +kernel
theorem d_Lw_seal_1 : decode method_9_code 1 = .ok (.iconst 0, 1) := by decide +kernel
theorem d_Lw_seal_2 : decode method_9_code 2 = .ok (.aload_n 0, 1) := by decide +kernel
theorem d_Lw_seal_3 : decode method_9_code 3 = .ok (.iload_n 1, 1) := by decide +kernel
theorem d_Lw_seal_4 : decode method_9_code 4 = .ok (.iload_n 2, 1) := by decide +kernel
theorem d_Lw_seal_5 : decode method_9_code 5 = .ok (.invokevirtual 39, 3) := by decide +kernel
theorem d_Lw_seal_8 : decode method_9_code 8 = .ok (.i2l, 1) := by decide +kernel
theorem d_Lw_seal_9 : decode method_9_code 9 = .ok (.lastore, 1) := by decide +kernel
theorem d_Lw_seal_10 : decode method_9_code 10 = .ok (.goto 11, 3) := by decide +kernel
theorem d_Lw_seal_13 : decode method_9_code 13 = .ok (.astore 4, 2) := by decide +kernel
theorem d_Lw_seal_15 : decode method_9_code 15 = .ok (.iconst 1, 1) := by decide +kernel
theorem d_Lw_seal_16 : decode method_9_code 16 = .ok (.ireturn, 1) := by decide +kernel
theorem d_Lw_seal_17 : decode method_9_code 17 = .ok (.astore 4, 2) := by decide +kernel
theorem d_Lw_seal_19 : decode method_9_code 19 = .ok (.iconst 2, 1) := by decide +kernel
theorem d_Lw_seal_20 : decode method_9_code 20 = .ok (.ireturn, 1) := by decide +kernel
theorem d_Lw_seal_21 : decode method_9_code 21 = .ok (.iconst 0, 1) := by decide +kernel
theorem d_Lw_seal_22 : decode method_9_code 22 = .ok (.ireturn, 1) := by decide +kernel
theorem q_Lw_seal : (⟨"FlowShelfLaw", "seal", "(LFlowShelf;II[J)I"⟩ : MethodName).cls ≠ "java/lang/invoke/MethodHandle" ∧ (⟨"FlowShelfLaw", "seal", "(LFlowShelf;II[J)I"⟩ : MethodName).cls ≠ "java/lang/invoke/VarHandle" ∧ (parseMethodDescriptor (⟨"FlowShelfLaw", "seal", "(LFlowShelf;II[J)I"⟩ : MethodName).desc).map (fun d => d.parameters.length) = some 4 := by decide +kernel
set_option maxHeartbeats 4000000 in
set_option maxRecDepth 100000 in
theorem m_Lw_seal (X : fs_X) (l : Launch) (hl0 : l.stackTraces = false) (a0 : Nat) (x1 : Int32) (x2 : Int32) (a3 : Nat) {r : Int32} {σ σF : fs_S} (h : (f_Lw_seal a0 x1 x2 a3).1 σ = some (r, σF)) : fs_Met X l ⟨"FlowShelfLaw", "seal", "(LFlowShelf;II[J)I"⟩ (Cond.codeWith ⟨"FlowShelfLaw", "seal", "(LFlowShelf;II[J)I"⟩ method_9_code 5 (some FieldType.int) [(0, 10, 13, 13), (0, 10, 17, 15)]) 9 149 [.ref a0, .int x1, .int x2, .ref a3] σ (fs_eI r) σF := by
  refine fs_ofWH (by decide) ?_
  intro p e s m args below meth c s₁ B hml hT hv
  obtain ⟨rfl, hw0, hG⟩ := hv
  have hx := B.exec
  have hb := B.bytes
  have hpl : e.platform.magicAccessors = ({} : Platform).magicAccessors := by rw [B.admits.platform]
  have hr := B.returns
  have hk := B.notSynchronized
  have S : CallFix p m c method_9_code 5 s _ fs_ws "FlowShelfLaw" := ⟨B.exec, B.bytes, hml, findClass_of_methodNamed B.named, fun w hw => atoms_spec (ws := _ :: fs_ws) B.pre w (List.mem_cons_of_mem _ hw)⟩
  have hR := fs_hR (fr := 9) (lo := 149) ((f_Lw_seal a0 x1 x2 a3).2 _ _ _ h)
  have hl := lv_entry ([.ref a0, .int x1, .int x2, .ref a3]) (n := 5) (Nat.le_of_ble_eq_true rfl)
  rw [lg_entry_eq]
  generalize (lg_sl ([.ref a0, .int x1, .int x2, .ref a3]) ++ List.replicate (5 - (lg_sl ([.ref a0, .int x1, .int x2, .ref a3])).length) Slot.unset).toArray = ls at hl ⊢
  have hl : lv_has ls 5 [(0, .ref a0), (1, .int x1), (2, .int x2), (3, .ref a3)] := hl
  refine (?_ : fs_J X p l e (fs_rm 9 149 σ σF) s m _ below meth c (fs_Q X below _ s (fs_eI r) σ σF) r σ σF (f_Lw_seal a0 x1 x2 a3) (F0 m 0 ls [])) σ s.heap [] 0 0 h hw0 va_S.rf rfl rfl
  clear h hw0
  unfold f_Lw_seal
  refine fs_lift (fun _ _ _ _ => lv_aload_n hx hb d_Lw_seal_0 rfl (lv_at hl 3 rfl)) ?_
  refine fs_lift (fun _ _ _ _ => lv_iconst (v := 0) hx hb d_Lw_seal_1 (by decide)) ?_
  refine fs_lift (fun _ _ _ _ => lv_aload_n hx hb d_Lw_seal_2 rfl (lv_at hl 0 rfl)) ?_
  refine fs_lift (fun _ _ _ _ => lv_iload_n hx hb d_Lw_seal_3 rfl (lv_at hl 1 rfl)) ?_
  refine fs_lift (fun _ _ _ _ => lv_iload_n hx hb d_Lw_seal_4 rfl (lv_at hl 2 rfl)) ?_
  refine fs_JVt S hG hR rfl [.int x1, .int x2] (fun r => some (.int r)) (encx := fs_qI) (fun _ => rfl) (fun _ => rfl) (fun zr zs zt zh => m_Fs_seal X l hl0 a0 x1 x2 zh) tw_3_161 tw_3_162 tw_3_163 tw_3_164 tw_1_1 q_Fs_seal ⟨(Nat.le_of_ble_eq_true rfl), (Nat.le_of_ble_eq_true rfl)⟩ hl.1 rfl (Nat.le_of_ble_eq_true rfl) d_Lw_seal_5 (fun v1 => ?_) (fun e9 => ?_)
  · refine fs_Jeq (g2 := F0 m 8 ls [.int v1, .int 0, .ref a3]) rfl ?_
    refine fs_lift (fun _ _ _ _ => lv_i2l hx hb d_Lw_seal_8 rfl) ?_
    refine fs_Jsj S hG d_Lw_seal_9 ?_
    refine fs_lift (fun _ _ _ _ => lv_goto hx hb d_Lw_seal_10 rfl) ?_
    refine fs_lift (fun _ _ _ _ => lv_iconst (v := 0) hx hb d_Lw_seal_21 (by decide)) ?_
    exact fs_Jiret S hr hk rfl d_Lw_seal_22
  · refine fs_Hif 13 (fun a9 ce9 c9 n9 => ?_) (fun q9 => ?_) ?_
    · rw [hT]; exact fs_F.take hpl S.2.2.2.1 rfl (by decide) (S.2.2.2.2 _ tw_2_54) c9 n9 (va_Nw.use rfl (hG.castable tb_2_69))
    · refine fs_liftL (fun _ _ _ _ => lv_astore (lv' := [(4, .ref q9), (0, .ref a0), (1, .int x1), (2, .int x2), (3, .ref a3)]) hx hb d_Lw_seal_13 hl (Nat.le_of_ble_eq_true rfl) rfl) (fun ls hl => ?_)
      refine fs_lift (fun _ _ _ _ => lv_iconst (v := 1) hx hb d_Lw_seal_15 (by decide)) ?_
      exact fs_Jiret S hr hk rfl d_Lw_seal_16
    refine fs_Hif 17 (fun a9 ce9 c9 n9 => ?_) (fun q9 => ?_) ?_
    · rw [hT]; exact fs_F.pass hpl S.2.2.2.1 rfl (by decide) (S.2.2.2.2 _ tw_2_54) c9 n9 (fs_nc1 hG) (fs_F.take hpl S.2.2.2.1 rfl (by decide) (S.2.2.2.2 _ tw_2_55) c9 n9 (va_Nw.use rfl (hG.castable tb_2_148)))
    · refine fs_liftL (fun _ _ _ _ => lv_astore (lv' := [(4, .ref q9), (0, .ref a0), (1, .int x1), (2, .int x2), (3, .ref a3)]) hx hb d_Lw_seal_17 hl (Nat.le_of_ble_eq_true rfl) rfl) (fun ls hl => ?_)
      refine fs_lift (fun _ _ _ _ => lv_iconst (v := 2) hx hb d_Lw_seal_19 (by decide)) ?_
      exact fs_Jiret S hr hk rfl d_Lw_seal_20
    exact fs_Hfail

theorem d_Lw_withdraw_0 : decode method_10_code 0 = .ok (.aload_n 0, 1) := by decide +kernel
theorem d_Lw_withdraw_1 : decode method_10_code 1 = .ok (.iload_n 1, 1) := by decide +kernel
theorem d_Lw_withdraw_2 : decode method_10_code 2 = .ok (.iload_n 2, 1) := by decide +kernel
theorem d_Lw_withdraw_3 : decode method_10_code 3 = .ok (.invokevirtual 42, 3) := by decide +kernel
theorem d_Lw_withdraw_6 : decode method_10_code 6 = .ok (.goto 9, 3) := by decide +kernel
theorem d_Lw_withdraw_9 : decode method_10_code 9 = .ok (.astore_n 3, 1) := by decide +kernel
theorem d_Lw_withdraw_10 : decode method_10_code 10 = .ok (.iconst 1, 1) := by decide +kernel
theorem d_Lw_withdraw_11 : decode method_10_code 11 = .ok (.ireturn, 1) := by decide +kernel
theorem d_Lw_withdraw_12 : decode method_10_code 12 = .ok (.astore_n 3, 1) := by decide +kernel
theorem d_Lw_withdraw_13 : decode method_10_code 13 = .ok (.iconst 2, 1) := by decide +kernel
theorem d_Lw_withdraw_14 : decode method_10_code 14 = .ok (.ireturn, 1) := by decide +kernel
theorem d_Lw_withdraw_15 : decode method_10_code 15 = .ok (.iconst 0, 1) := by decide +kernel
theorem d_Lw_withdraw_16 : decode method_10_code 16 = .ok (.ireturn, 1) := by decide +kernel
theorem q_Lw_withdraw : (⟨"FlowShelfLaw", "withdraw", "(LFlowShelf;II)I"⟩ : MethodName).cls ≠ "java/lang/invoke/MethodHandle" ∧ (⟨"FlowShelfLaw", "withdraw", "(LFlowShelf;II)I"⟩ : MethodName).cls ≠ "java/lang/invoke/VarHandle" ∧ (parseMethodDescriptor (⟨"FlowShelfLaw", "withdraw", "(LFlowShelf;II)I"⟩ : MethodName).desc).map (fun d => d.parameters.length) = some 3 := by decide +kernel
set_option maxHeartbeats 4000000 in
set_option maxRecDepth 100000 in
theorem m_Lw_withdraw (X : fs_X) (l : Launch) (hl0 : l.stackTraces = false) (a0 : Nat) (x1 : Int32) (x2 : Int32) {r : Int32} {σ σF : fs_S} (h : (f_Lw_withdraw a0 x1 x2).1 σ = some (r, σF)) : fs_Met X l ⟨"FlowShelfLaw", "withdraw", "(LFlowShelf;II)I"⟩ (Cond.codeWith ⟨"FlowShelfLaw", "withdraw", "(LFlowShelf;II)I"⟩ method_10_code 4 (some FieldType.int) [(0, 6, 9, 13), (0, 6, 12, 15)]) 9 149 [.ref a0, .int x1, .int x2] σ (fs_eI r) σF := by
  refine fs_ofWH (by decide) ?_
  intro p e s m args below meth c s₁ B hml hT hv
  obtain ⟨rfl, hw0, hG⟩ := hv
  have hx := B.exec
  have hb := B.bytes
  have hpl : e.platform.magicAccessors = ({} : Platform).magicAccessors := by rw [B.admits.platform]
  have hr := B.returns
  have hk := B.notSynchronized
  have S : CallFix p m c method_10_code 4 s _ fs_ws "FlowShelfLaw" := ⟨B.exec, B.bytes, hml, findClass_of_methodNamed B.named, fun w hw => atoms_spec (ws := _ :: fs_ws) B.pre w (List.mem_cons_of_mem _ hw)⟩
  have hR := fs_hR (fr := 9) (lo := 149) ((f_Lw_withdraw a0 x1 x2).2 _ _ _ h)
  have hl := lv_entry ([.ref a0, .int x1, .int x2]) (n := 4) (Nat.le_of_ble_eq_true rfl)
  rw [lg_entry_eq]
  generalize (lg_sl ([.ref a0, .int x1, .int x2]) ++ List.replicate (4 - (lg_sl ([.ref a0, .int x1, .int x2])).length) Slot.unset).toArray = ls at hl ⊢
  have hl : lv_has ls 4 [(0, .ref a0), (1, .int x1), (2, .int x2)] := hl
  refine (?_ : fs_J X p l e (fs_rm 9 149 σ σF) s m _ below meth c (fs_Q X below _ s (fs_eI r) σ σF) r σ σF (f_Lw_withdraw a0 x1 x2) (F0 m 0 ls [])) σ s.heap [] 0 0 h hw0 va_S.rf rfl rfl
  clear h hw0
  unfold f_Lw_withdraw
  refine fs_lift (fun _ _ _ _ => lv_aload_n hx hb d_Lw_withdraw_0 rfl (lv_at hl 0 rfl)) ?_
  refine fs_lift (fun _ _ _ _ => lv_iload_n hx hb d_Lw_withdraw_1 rfl (lv_at hl 1 rfl)) ?_
  refine fs_lift (fun _ _ _ _ => lv_iload_n hx hb d_Lw_withdraw_2 rfl (lv_at hl 2 rfl)) ?_
  refine fs_JVt S hG hR rfl [.int x1, .int x2] (fun _ => none) (encx := fs_qV) (fun _ => rfl) (fun _ => rfl) (fun zr zs zt zh => m_Fs_withdraw X l hl0 a0 x1 x2 zh) tw_3_177 tw_3_178 tw_3_179 tw_3_180 tw_1_1 q_Fs_withdraw ⟨(Nat.le_of_ble_eq_true rfl), (Nat.le_of_ble_eq_true rfl)⟩ hl.1 rfl (Nat.le_of_ble_eq_true rfl) d_Lw_withdraw_3 (fun _ => ?_) (fun e9 => ?_)
  · refine fs_Jeq (g2 := F0 m 6 ls []) rfl ?_
    refine fs_lift (fun _ _ _ _ => lv_goto hx hb d_Lw_withdraw_6 rfl) ?_
    refine fs_lift (fun _ _ _ _ => lv_iconst (v := 0) hx hb d_Lw_withdraw_15 (by decide)) ?_
    exact fs_Jiret S hr hk rfl d_Lw_withdraw_16
  · refine fs_Hif 9 (fun a9 ce9 c9 n9 => ?_) (fun q9 => ?_) ?_
    · rw [hT]; exact fs_F.take hpl S.2.2.2.1 rfl (by decide) (S.2.2.2.2 _ tw_2_54) c9 n9 (va_Nw.use rfl (hG.castable tb_2_69))
    · refine fs_liftL (fun _ _ _ _ => lv_astore_n (lv' := [(3, .ref q9), (0, .ref a0), (1, .int x1), (2, .int x2)]) hx hb d_Lw_withdraw_9 rfl hl (Nat.le_of_ble_eq_true rfl) rfl) (fun ls hl => ?_)
      refine fs_lift (fun _ _ _ _ => lv_iconst (v := 1) hx hb d_Lw_withdraw_10 (by decide)) ?_
      exact fs_Jiret S hr hk rfl d_Lw_withdraw_11
    refine fs_Hif 12 (fun a9 ce9 c9 n9 => ?_) (fun q9 => ?_) ?_
    · rw [hT]; exact fs_F.pass hpl S.2.2.2.1 rfl (by decide) (S.2.2.2.2 _ tw_2_54) c9 n9 (fs_nc1 hG) (fs_F.take hpl S.2.2.2.1 rfl (by decide) (S.2.2.2.2 _ tw_2_55) c9 n9 (va_Nw.use rfl (hG.castable tb_2_148)))
    · refine fs_liftL (fun _ _ _ _ => lv_astore_n (lv' := [(3, .ref q9), (0, .ref a0), (1, .int x1), (2, .int x2)]) hx hb d_Lw_withdraw_12 rfl hl (Nat.le_of_ble_eq_true rfl) rfl) (fun ls hl => ?_)
      refine fs_lift (fun _ _ _ _ => lv_iconst (v := 2) hx hb d_Lw_withdraw_13 (by decide)) ?_
      exact fs_Jiret S hr hk rfl d_Lw_withdraw_14
    exact fs_Hfail

theorem d_Lw_restart_0 : decode method_11_code 0 = .ok (.aload_n 2, 1) := by decide +kernel
theorem d_Lw_restart_1 : decode method_11_code 1 = .ok (.iconst 0, 1) := by decide +kernel
theorem d_Lw_restart_2 : decode method_11_code 2 = .ok (.aload_n 0, 1) := by decide +kernel
theorem d_Lw_restart_3 : decode method_11_code 3 = .ok (.iload_n 1, 1) := by decide +kernel
theorem d_Lw_restart_4 : decode method_11_code 4 = .ok (.invokevirtual 45, 3) := by decide +kernel
theorem d_Lw_restart_7 : decode method_11_code 7 = .ok (.i2l, 1) := by decide +kernel
theorem d_Lw_restart_8 : decode method_11_code 8 = .ok (.lastore, 1) := by decide +kernel
theorem d_Lw_restart_9 : decode method_11_code 9 = .ok (.goto 9, 3) := by decide +kernel
theorem d_Lw_restart_12 : decode method_11_code 12 = .ok (.astore_n 3, 1) := by decide +kernel
theorem d_Lw_restart_13 : decode method_11_code 13 = .ok (.iconst 1, 1) := by decide +kernel
theorem d_Lw_restart_14 : decode method_11_code 14 = .ok (.ireturn, 1) := by decide +kernel
theorem d_Lw_restart_15 : decode method_11_code 15 = .ok (.astore_n 3, 1) := by decide +kernel
theorem d_Lw_restart_16 : decode method_11_code 16 = .ok (.iconst 2, 1) := by decide +kernel
theorem d_Lw_restart_17 : decode method_11_code 17 = .ok (.ireturn, 1) := by decide +kernel
theorem d_Lw_restart_18 : decode method_11_code 18 = .ok (.iconst 0, 1) := by decide +kernel
theorem d_Lw_restart_19 : decode method_11_code 19 = .ok (.ireturn, 1) := by decide +kernel
theorem q_Lw_restart : (⟨"FlowShelfLaw", "restart", "(LFlowShelf;I[J)I"⟩ : MethodName).cls ≠ "java/lang/invoke/MethodHandle" ∧ (⟨"FlowShelfLaw", "restart", "(LFlowShelf;I[J)I"⟩ : MethodName).cls ≠ "java/lang/invoke/VarHandle" ∧ (parseMethodDescriptor (⟨"FlowShelfLaw", "restart", "(LFlowShelf;I[J)I"⟩ : MethodName).desc).map (fun d => d.parameters.length) = some 3 := by decide +kernel
set_option maxHeartbeats 4000000 in
set_option maxRecDepth 100000 in
theorem m_Lw_restart (X : fs_X) (l : Launch) (hl0 : l.stackTraces = false) (a0 : Nat) (x1 : Int32) (a2 : Nat) {r : Int32} {σ σF : fs_S} (h : (f_Lw_restart a0 x1 a2).1 σ = some (r, σF)) : fs_Met X l ⟨"FlowShelfLaw", "restart", "(LFlowShelf;I[J)I"⟩ (Cond.codeWith ⟨"FlowShelfLaw", "restart", "(LFlowShelf;I[J)I"⟩ method_11_code 4 (some FieldType.int) [(0, 9, 12, 13), (0, 9, 15, 15)]) 8 125 [.ref a0, .int x1, .ref a2] σ (fs_eI r) σF := by
  refine fs_ofWH (by decide) ?_
  intro p e s m args below meth c s₁ B hml hT hv
  obtain ⟨rfl, hw0, hG⟩ := hv
  have hx := B.exec
  have hb := B.bytes
  have hpl : e.platform.magicAccessors = ({} : Platform).magicAccessors := by rw [B.admits.platform]
  have hr := B.returns
  have hk := B.notSynchronized
  have S : CallFix p m c method_11_code 4 s _ fs_ws "FlowShelfLaw" := ⟨B.exec, B.bytes, hml, findClass_of_methodNamed B.named, fun w hw => atoms_spec (ws := _ :: fs_ws) B.pre w (List.mem_cons_of_mem _ hw)⟩
  have hR := fs_hR (fr := 8) (lo := 125) ((f_Lw_restart a0 x1 a2).2 _ _ _ h)
  have hl := lv_entry ([.ref a0, .int x1, .ref a2]) (n := 4) (Nat.le_of_ble_eq_true rfl)
  rw [lg_entry_eq]
  generalize (lg_sl ([.ref a0, .int x1, .ref a2]) ++ List.replicate (4 - (lg_sl ([.ref a0, .int x1, .ref a2])).length) Slot.unset).toArray = ls at hl ⊢
  have hl : lv_has ls 4 [(0, .ref a0), (1, .int x1), (2, .ref a2)] := hl
  refine (?_ : fs_J X p l e (fs_rm 8 125 σ σF) s m _ below meth c (fs_Q X below _ s (fs_eI r) σ σF) r σ σF (f_Lw_restart a0 x1 a2) (F0 m 0 ls [])) σ s.heap [] 0 0 h hw0 va_S.rf rfl rfl
  clear h hw0
  unfold f_Lw_restart
  refine fs_lift (fun _ _ _ _ => lv_aload_n hx hb d_Lw_restart_0 rfl (lv_at hl 2 rfl)) ?_
  refine fs_lift (fun _ _ _ _ => lv_iconst (v := 0) hx hb d_Lw_restart_1 (by decide)) ?_
  refine fs_lift (fun _ _ _ _ => lv_aload_n hx hb d_Lw_restart_2 rfl (lv_at hl 0 rfl)) ?_
  refine fs_lift (fun _ _ _ _ => lv_iload_n hx hb d_Lw_restart_3 rfl (lv_at hl 1 rfl)) ?_
  refine fs_JVt S hG hR rfl [.int x1] (fun r => some (.int r)) (encx := fs_qI) (fun _ => rfl) (fun _ => rfl) (fun zr zs zt zh => m_Fs_restart X l hl0 a0 x1 zh) tw_3_185 tw_3_186 tw_3_187 tw_3_188 tw_1_1 q_Fs_restart ⟨(Nat.le_of_ble_eq_true rfl), (Nat.le_of_ble_eq_true rfl)⟩ hl.1 rfl (Nat.le_of_ble_eq_true rfl) d_Lw_restart_4 (fun v1 => ?_) (fun e9 => ?_)
  · refine fs_Jeq (g2 := F0 m 7 ls [.int v1, .int 0, .ref a2]) rfl ?_
    refine fs_lift (fun _ _ _ _ => lv_i2l hx hb d_Lw_restart_7 rfl) ?_
    refine fs_Jsj S hG d_Lw_restart_8 ?_
    refine fs_lift (fun _ _ _ _ => lv_goto hx hb d_Lw_restart_9 rfl) ?_
    refine fs_lift (fun _ _ _ _ => lv_iconst (v := 0) hx hb d_Lw_restart_18 (by decide)) ?_
    exact fs_Jiret S hr hk rfl d_Lw_restart_19
  · refine fs_Hif 12 (fun a9 ce9 c9 n9 => ?_) (fun q9 => ?_) ?_
    · rw [hT]; exact fs_F.take hpl S.2.2.2.1 rfl (by decide) (S.2.2.2.2 _ tw_2_54) c9 n9 (va_Nw.use rfl (hG.castable tb_2_69))
    · refine fs_liftL (fun _ _ _ _ => lv_astore_n (lv' := [(3, .ref q9), (0, .ref a0), (1, .int x1), (2, .ref a2)]) hx hb d_Lw_restart_12 rfl hl (Nat.le_of_ble_eq_true rfl) rfl) (fun ls hl => ?_)
      refine fs_lift (fun _ _ _ _ => lv_iconst (v := 1) hx hb d_Lw_restart_13 (by decide)) ?_
      exact fs_Jiret S hr hk rfl d_Lw_restart_14
    refine fs_Hif 15 (fun a9 ce9 c9 n9 => ?_) (fun q9 => ?_) ?_
    · rw [hT]; exact fs_F.pass hpl S.2.2.2.1 rfl (by decide) (S.2.2.2.2 _ tw_2_54) c9 n9 (fs_nc1 hG) (fs_F.take hpl S.2.2.2.1 rfl (by decide) (S.2.2.2.2 _ tw_2_55) c9 n9 (va_Nw.use rfl (hG.castable tb_2_148)))
    · refine fs_liftL (fun _ _ _ _ => lv_astore_n (lv' := [(3, .ref q9), (0, .ref a0), (1, .int x1), (2, .ref a2)]) hx hb d_Lw_restart_15 rfl hl (Nat.le_of_ble_eq_true rfl) rfl) (fun ls hl => ?_)
      refine fs_lift (fun _ _ _ _ => lv_iconst (v := 2) hx hb d_Lw_restart_16 (by decide)) ?_
      exact fs_Jiret S hr hk rfl d_Lw_restart_17
    exact fs_Hfail

theorem d_Lw_announce_0 : decode method_12_code 0 = .ok (.aload_n 3, 1) := by decide +kernel
theorem d_Lw_announce_1 : decode method_12_code 1 = .ok (.iconst 0, 1) := by decide +kernel
theorem d_Lw_announce_2 : decode method_12_code 2 = .ok (.aload_n 0, 1) := by decide +kernel
theorem d_Lw_announce_3 : decode method_12_code 3 = .ok (.iload_n 1, 1) := by decide +kernel
theorem d_Lw_announce_4 : decode method_12_code 4 = .ok (.iload_n 2, 1) := by decide +kernel
theorem d_Lw_announce_5 : decode method_12_code 5 = .ok (.invokevirtual 48, 3) := by decide +kernel
theorem d_Lw_announce_8 : decode method_12_code 8 = .ok (.i2l, 1) := by decide +kernel
theorem d_Lw_announce_9 : decode method_12_code 9 = .ok (.lastore, 1) := by decide +kernel
theorem d_Lw_announce_10 : decode method_12_code 10 = .ok (.goto 11, 3) := by decide +kernel
theorem d_Lw_announce_13 : decode method_12_code 13 = .ok (.astore 4, 2) := by decide +kernel
theorem d_Lw_announce_15 : decode method_12_code 15 = .ok (.iconst 1, 1) := by decide +kernel
theorem d_Lw_announce_16 : decode method_12_code 16 = .ok (.ireturn, 1) := by decide +kernel
theorem d_Lw_announce_17 : decode method_12_code 17 = .ok (.astore 4, 2) := by decide +kernel
theorem d_Lw_announce_19 : decode method_12_code 19 = .ok (.iconst 2, 1) := by decide +kernel
theorem d_Lw_announce_20 : decode method_12_code 20 = .ok (.ireturn, 1) := by decide +kernel
theorem d_Lw_announce_21 : decode method_12_code 21 = .ok (.iconst 0, 1) := by decide +kernel
theorem d_Lw_announce_22 : decode method_12_code 22 = .ok (.ireturn, 1) := by decide +kernel
theorem q_Lw_announce : (⟨"FlowShelfLaw", "announce", "(LFlowShelf;II[J)I"⟩ : MethodName).cls ≠ "java/lang/invoke/MethodHandle" ∧ (⟨"FlowShelfLaw", "announce", "(LFlowShelf;II[J)I"⟩ : MethodName).cls ≠ "java/lang/invoke/VarHandle" ∧ (parseMethodDescriptor (⟨"FlowShelfLaw", "announce", "(LFlowShelf;II[J)I"⟩ : MethodName).desc).map (fun d => d.parameters.length) = some 4 := by decide +kernel
set_option maxHeartbeats 4000000 in
set_option maxRecDepth 100000 in
theorem m_Lw_announce (X : fs_X) (l : Launch) (hl0 : l.stackTraces = false) (a0 : Nat) (x1 : Int32) (x2 : Int32) (a3 : Nat) {r : Int32} {σ σF : fs_S} (h : (f_Lw_announce a0 x1 x2 a3).1 σ = some (r, σF)) : fs_Met X l ⟨"FlowShelfLaw", "announce", "(LFlowShelf;II[J)I"⟩ (Cond.codeWith ⟨"FlowShelfLaw", "announce", "(LFlowShelf;II[J)I"⟩ method_12_code 5 (some FieldType.int) [(0, 10, 13, 13), (0, 10, 17, 15)]) 9 235 [.ref a0, .int x1, .int x2, .ref a3] σ (fs_eI r) σF := by
  refine fs_ofWH (by decide) ?_
  intro p e s m args below meth c s₁ B hml hT hv
  obtain ⟨rfl, hw0, hG⟩ := hv
  have hx := B.exec
  have hb := B.bytes
  have hpl : e.platform.magicAccessors = ({} : Platform).magicAccessors := by rw [B.admits.platform]
  have hr := B.returns
  have hk := B.notSynchronized
  have S : CallFix p m c method_12_code 5 s _ fs_ws "FlowShelfLaw" := ⟨B.exec, B.bytes, hml, findClass_of_methodNamed B.named, fun w hw => atoms_spec (ws := _ :: fs_ws) B.pre w (List.mem_cons_of_mem _ hw)⟩
  have hR := fs_hR (fr := 9) (lo := 235) ((f_Lw_announce a0 x1 x2 a3).2 _ _ _ h)
  have hl := lv_entry ([.ref a0, .int x1, .int x2, .ref a3]) (n := 5) (Nat.le_of_ble_eq_true rfl)
  rw [lg_entry_eq]
  generalize (lg_sl ([.ref a0, .int x1, .int x2, .ref a3]) ++ List.replicate (5 - (lg_sl ([.ref a0, .int x1, .int x2, .ref a3])).length) Slot.unset).toArray = ls at hl ⊢
  have hl : lv_has ls 5 [(0, .ref a0), (1, .int x1), (2, .int x2), (3, .ref a3)] := hl
  refine (?_ : fs_J X p l e (fs_rm 9 235 σ σF) s m _ below meth c (fs_Q X below _ s (fs_eI r) σ σF) r σ σF (f_Lw_announce a0 x1 x2 a3) (F0 m 0 ls [])) σ s.heap [] 0 0 h hw0 va_S.rf rfl rfl
  clear h hw0
  unfold f_Lw_announce
  refine fs_lift (fun _ _ _ _ => lv_aload_n hx hb d_Lw_announce_0 rfl (lv_at hl 3 rfl)) ?_
  refine fs_lift (fun _ _ _ _ => lv_iconst (v := 0) hx hb d_Lw_announce_1 (by decide)) ?_
  refine fs_lift (fun _ _ _ _ => lv_aload_n hx hb d_Lw_announce_2 rfl (lv_at hl 0 rfl)) ?_
  refine fs_lift (fun _ _ _ _ => lv_iload_n hx hb d_Lw_announce_3 rfl (lv_at hl 1 rfl)) ?_
  refine fs_lift (fun _ _ _ _ => lv_iload_n hx hb d_Lw_announce_4 rfl (lv_at hl 2 rfl)) ?_
  refine fs_JVt S hG hR rfl [.int x1, .int x2] (fun r => some (.int r)) (encx := fs_qI) (fun _ => rfl) (fun _ => rfl) (fun zr zs zt zh => m_Fs_announce X l hl0 a0 x1 x2 zh) tw_3_206 tw_3_207 tw_3_208 tw_3_209 tw_1_1 q_Fs_announce ⟨(Nat.le_of_ble_eq_true rfl), (Nat.le_of_ble_eq_true rfl)⟩ hl.1 rfl (Nat.le_of_ble_eq_true rfl) d_Lw_announce_5 (fun v1 => ?_) (fun e9 => ?_)
  · refine fs_Jeq (g2 := F0 m 8 ls [.int v1, .int 0, .ref a3]) rfl ?_
    refine fs_lift (fun _ _ _ _ => lv_i2l hx hb d_Lw_announce_8 rfl) ?_
    refine fs_Jsj S hG d_Lw_announce_9 ?_
    refine fs_lift (fun _ _ _ _ => lv_goto hx hb d_Lw_announce_10 rfl) ?_
    refine fs_lift (fun _ _ _ _ => lv_iconst (v := 0) hx hb d_Lw_announce_21 (by decide)) ?_
    exact fs_Jiret S hr hk rfl d_Lw_announce_22
  · refine fs_Hif 13 (fun a9 ce9 c9 n9 => ?_) (fun q9 => ?_) ?_
    · rw [hT]; exact fs_F.take hpl S.2.2.2.1 rfl (by decide) (S.2.2.2.2 _ tw_2_54) c9 n9 (va_Nw.use rfl (hG.castable tb_2_69))
    · refine fs_liftL (fun _ _ _ _ => lv_astore (lv' := [(4, .ref q9), (0, .ref a0), (1, .int x1), (2, .int x2), (3, .ref a3)]) hx hb d_Lw_announce_13 hl (Nat.le_of_ble_eq_true rfl) rfl) (fun ls hl => ?_)
      refine fs_lift (fun _ _ _ _ => lv_iconst (v := 1) hx hb d_Lw_announce_15 (by decide)) ?_
      exact fs_Jiret S hr hk rfl d_Lw_announce_16
    refine fs_Hif 17 (fun a9 ce9 c9 n9 => ?_) (fun q9 => ?_) ?_
    · rw [hT]; exact fs_F.pass hpl S.2.2.2.1 rfl (by decide) (S.2.2.2.2 _ tw_2_54) c9 n9 (fs_nc1 hG) (fs_F.take hpl S.2.2.2.1 rfl (by decide) (S.2.2.2.2 _ tw_2_55) c9 n9 (va_Nw.use rfl (hG.castable tb_2_148)))
    · refine fs_liftL (fun _ _ _ _ => lv_astore (lv' := [(4, .ref q9), (0, .ref a0), (1, .int x1), (2, .int x2), (3, .ref a3)]) hx hb d_Lw_announce_17 hl (Nat.le_of_ble_eq_true rfl) rfl) (fun ls hl => ?_)
      refine fs_lift (fun _ _ _ _ => lv_iconst (v := 2) hx hb d_Lw_announce_19 (by decide)) ?_
      exact fs_Jiret S hr hk rfl d_Lw_announce_20
    exact fs_Hfail

theorem d_Lw_report_0 : decode method_13_code 0 = .ok (.aload_n 2, 1) := by decide +kernel
theorem d_Lw_report_1 : decode method_13_code 1 = .ok (.iconst 0, 1) := by decide +kernel
theorem d_Lw_report_2 : decode method_13_code 2 = .ok (.aload_n 0, 1) := by decide +kernel
theorem d_Lw_report_3 : decode method_13_code 3 = .ok (.iload_n 1, 1) := by decide +kernel
theorem d_Lw_report_4 : decode method_13_code 4 = .ok (.invokevirtual 51, 3) := by decide +kernel
theorem d_Lw_report_7 : decode method_13_code 7 = .ok (.i2l, 1) := by decide +kernel
theorem d_Lw_report_8 : decode method_13_code 8 = .ok (.lastore, 1) := by decide +kernel
theorem d_Lw_report_9 : decode method_13_code 9 = .ok (.goto 9, 3) := by decide +kernel
theorem d_Lw_report_12 : decode method_13_code 12 = .ok (.astore_n 3, 1) := by decide +kernel
theorem d_Lw_report_13 : decode method_13_code 13 = .ok (.iconst 1, 1) := by decide +kernel
theorem d_Lw_report_14 : decode method_13_code 14 = .ok (.ireturn, 1) := by decide +kernel
theorem d_Lw_report_15 : decode method_13_code 15 = .ok (.astore_n 3, 1) := by decide +kernel
theorem d_Lw_report_16 : decode method_13_code 16 = .ok (.iconst 2, 1) := by decide +kernel
theorem d_Lw_report_17 : decode method_13_code 17 = .ok (.ireturn, 1) := by decide +kernel
theorem d_Lw_report_18 : decode method_13_code 18 = .ok (.iconst 0, 1) := by decide +kernel
theorem d_Lw_report_19 : decode method_13_code 19 = .ok (.ireturn, 1) := by decide +kernel
theorem q_Lw_report : (⟨"FlowShelfLaw", "report", "(LFlowShelf;I[J)I"⟩ : MethodName).cls ≠ "java/lang/invoke/MethodHandle" ∧ (⟨"FlowShelfLaw", "report", "(LFlowShelf;I[J)I"⟩ : MethodName).cls ≠ "java/lang/invoke/VarHandle" ∧ (parseMethodDescriptor (⟨"FlowShelfLaw", "report", "(LFlowShelf;I[J)I"⟩ : MethodName).desc).map (fun d => d.parameters.length) = some 3 := by decide +kernel
set_option maxHeartbeats 4000000 in
set_option maxRecDepth 100000 in
theorem m_Lw_report (X : fs_X) (l : Launch) (hl0 : l.stackTraces = false) (a0 : Nat) (x1 : Int32) (a2 : Nat) {r : Int32} {σ σF : fs_S} (h : (f_Lw_report a0 x1 a2).1 σ = some (r, σF)) : fs_Met X l ⟨"FlowShelfLaw", "report", "(LFlowShelf;I[J)I"⟩ (Cond.codeWith ⟨"FlowShelfLaw", "report", "(LFlowShelf;I[J)I"⟩ method_13_code 4 (some FieldType.int) [(0, 9, 12, 13), (0, 9, 15, 15)]) 9 235 [.ref a0, .int x1, .ref a2] σ (fs_eI r) σF := by
  refine fs_ofWH (by decide) ?_
  intro p e s m args below meth c s₁ B hml hT hv
  obtain ⟨rfl, hw0, hG⟩ := hv
  have hx := B.exec
  have hb := B.bytes
  have hpl : e.platform.magicAccessors = ({} : Platform).magicAccessors := by rw [B.admits.platform]
  have hr := B.returns
  have hk := B.notSynchronized
  have S : CallFix p m c method_13_code 4 s _ fs_ws "FlowShelfLaw" := ⟨B.exec, B.bytes, hml, findClass_of_methodNamed B.named, fun w hw => atoms_spec (ws := _ :: fs_ws) B.pre w (List.mem_cons_of_mem _ hw)⟩
  have hR := fs_hR (fr := 9) (lo := 235) ((f_Lw_report a0 x1 a2).2 _ _ _ h)
  have hl := lv_entry ([.ref a0, .int x1, .ref a2]) (n := 4) (Nat.le_of_ble_eq_true rfl)
  rw [lg_entry_eq]
  generalize (lg_sl ([.ref a0, .int x1, .ref a2]) ++ List.replicate (4 - (lg_sl ([.ref a0, .int x1, .ref a2])).length) Slot.unset).toArray = ls at hl ⊢
  have hl : lv_has ls 4 [(0, .ref a0), (1, .int x1), (2, .ref a2)] := hl
  refine (?_ : fs_J X p l e (fs_rm 9 235 σ σF) s m _ below meth c (fs_Q X below _ s (fs_eI r) σ σF) r σ σF (f_Lw_report a0 x1 a2) (F0 m 0 ls [])) σ s.heap [] 0 0 h hw0 va_S.rf rfl rfl
  clear h hw0
  unfold f_Lw_report
  refine fs_lift (fun _ _ _ _ => lv_aload_n hx hb d_Lw_report_0 rfl (lv_at hl 2 rfl)) ?_
  refine fs_lift (fun _ _ _ _ => lv_iconst (v := 0) hx hb d_Lw_report_1 (by decide)) ?_
  refine fs_lift (fun _ _ _ _ => lv_aload_n hx hb d_Lw_report_2 rfl (lv_at hl 0 rfl)) ?_
  refine fs_lift (fun _ _ _ _ => lv_iload_n hx hb d_Lw_report_3 rfl (lv_at hl 1 rfl)) ?_
  refine fs_JVt S hG hR rfl [.int x1] (fun r => some (.int r)) (encx := fs_qI) (fun _ => rfl) (fun _ => rfl) (fun zr zs zt zh => m_Fs_report X l hl0 a0 x1 zh) tw_4_8 tw_4_9 tw_4_10 tw_4_11 tw_1_1 q_Fs_report ⟨(Nat.le_of_ble_eq_true rfl), (Nat.le_of_ble_eq_true rfl)⟩ hl.1 rfl (Nat.le_of_ble_eq_true rfl) d_Lw_report_4 (fun v1 => ?_) (fun e9 => ?_)
  · refine fs_Jeq (g2 := F0 m 7 ls [.int v1, .int 0, .ref a2]) rfl ?_
    refine fs_lift (fun _ _ _ _ => lv_i2l hx hb d_Lw_report_7 rfl) ?_
    refine fs_Jsj S hG d_Lw_report_8 ?_
    refine fs_lift (fun _ _ _ _ => lv_goto hx hb d_Lw_report_9 rfl) ?_
    refine fs_lift (fun _ _ _ _ => lv_iconst (v := 0) hx hb d_Lw_report_18 (by decide)) ?_
    exact fs_Jiret S hr hk rfl d_Lw_report_19
  · refine fs_Hif 12 (fun a9 ce9 c9 n9 => ?_) (fun q9 => ?_) ?_
    · rw [hT]; exact fs_F.take hpl S.2.2.2.1 rfl (by decide) (S.2.2.2.2 _ tw_2_54) c9 n9 (va_Nw.use rfl (hG.castable tb_2_69))
    · refine fs_liftL (fun _ _ _ _ => lv_astore_n (lv' := [(3, .ref q9), (0, .ref a0), (1, .int x1), (2, .ref a2)]) hx hb d_Lw_report_12 rfl hl (Nat.le_of_ble_eq_true rfl) rfl) (fun ls hl => ?_)
      refine fs_lift (fun _ _ _ _ => lv_iconst (v := 1) hx hb d_Lw_report_13 (by decide)) ?_
      exact fs_Jiret S hr hk rfl d_Lw_report_14
    refine fs_Hif 15 (fun a9 ce9 c9 n9 => ?_) (fun q9 => ?_) ?_
    · rw [hT]; exact fs_F.pass hpl S.2.2.2.1 rfl (by decide) (S.2.2.2.2 _ tw_2_54) c9 n9 (fs_nc1 hG) (fs_F.take hpl S.2.2.2.1 rfl (by decide) (S.2.2.2.2 _ tw_2_55) c9 n9 (va_Nw.use rfl (hG.castable tb_2_148)))
    · refine fs_liftL (fun _ _ _ _ => lv_astore_n (lv' := [(3, .ref q9), (0, .ref a0), (1, .int x1), (2, .ref a2)]) hx hb d_Lw_report_15 rfl hl (Nat.le_of_ble_eq_true rfl) rfl) (fun ls hl => ?_)
      refine fs_lift (fun _ _ _ _ => lv_iconst (v := 2) hx hb d_Lw_report_16 (by decide)) ?_
      exact fs_Jiret S hr hk rfl d_Lw_report_17
    exact fs_Hfail

theorem d_Lw_tell_0 : decode method_14_code 0 = .ok (.aload_n 2, 1) := by decide +kernel
theorem d_Lw_tell_1 : decode method_14_code 1 = .ok (.iconst 0, 1) := by decide +kernel
theorem d_Lw_tell_2 : decode method_14_code 2 = .ok (.aload_n 0, 1) := by decide +kernel
theorem d_Lw_tell_3 : decode method_14_code 3 = .ok (.iload_n 1, 1) := by decide +kernel
theorem d_Lw_tell_4 : decode method_14_code 4 = .ok (.invokevirtual 54, 3) := by decide +kernel
theorem d_Lw_tell_7 : decode method_14_code 7 = .ok (.i2l, 1) := by decide +kernel
theorem d_Lw_tell_8 : decode method_14_code 8 = .ok (.lastore, 1) := by decide +kernel
theorem d_Lw_tell_9 : decode method_14_code 9 = .ok (.goto 9, 3) := by decide +kernel
theorem d_Lw_tell_12 : decode method_14_code 12 = .ok (.astore_n 3, 1) := by decide +kernel
theorem d_Lw_tell_13 : decode method_14_code 13 = .ok (.iconst 1, 1) := by decide +kernel
theorem d_Lw_tell_14 : decode method_14_code 14 = .ok (.ireturn, 1) := by decide +kernel
theorem d_Lw_tell_15 : decode method_14_code 15 = .ok (.astore_n 3, 1) := by decide +kernel
theorem d_Lw_tell_16 : decode method_14_code 16 = .ok (.iconst 2, 1) := by decide +kernel
theorem d_Lw_tell_17 : decode method_14_code 17 = .ok (.ireturn, 1) := by decide +kernel
theorem d_Lw_tell_18 : decode method_14_code 18 = .ok (.iconst 0, 1) := by decide +kernel
theorem d_Lw_tell_19 : decode method_14_code 19 = .ok (.ireturn, 1) := by decide +kernel
theorem q_Lw_tell : (⟨"FlowShelfLaw", "tell", "(LFlowShelf;I[J)I"⟩ : MethodName).cls ≠ "java/lang/invoke/MethodHandle" ∧ (⟨"FlowShelfLaw", "tell", "(LFlowShelf;I[J)I"⟩ : MethodName).cls ≠ "java/lang/invoke/VarHandle" ∧ (parseMethodDescriptor (⟨"FlowShelfLaw", "tell", "(LFlowShelf;I[J)I"⟩ : MethodName).desc).map (fun d => d.parameters.length) = some 3 := by decide +kernel
set_option maxHeartbeats 4000000 in
set_option maxRecDepth 100000 in
theorem m_Lw_tell (X : fs_X) (l : Launch) (hl0 : l.stackTraces = false) (a0 : Nat) (x1 : Int32) (a2 : Nat) {r : Int32} {σ σF : fs_S} (h : (f_Lw_tell a0 x1 a2).1 σ = some (r, σF)) : fs_Met X l ⟨"FlowShelfLaw", "tell", "(LFlowShelf;I[J)I"⟩ (Cond.codeWith ⟨"FlowShelfLaw", "tell", "(LFlowShelf;I[J)I"⟩ method_14_code 4 (some FieldType.int) [(0, 9, 12, 13), (0, 9, 15, 15)]) 9 234 [.ref a0, .int x1, .ref a2] σ (fs_eI r) σF := by
  refine fs_ofWH (by decide) ?_
  intro p e s m args below meth c s₁ B hml hT hv
  obtain ⟨rfl, hw0, hG⟩ := hv
  have hx := B.exec
  have hb := B.bytes
  have hpl : e.platform.magicAccessors = ({} : Platform).magicAccessors := by rw [B.admits.platform]
  have hr := B.returns
  have hk := B.notSynchronized
  have S : CallFix p m c method_14_code 4 s _ fs_ws "FlowShelfLaw" := ⟨B.exec, B.bytes, hml, findClass_of_methodNamed B.named, fun w hw => atoms_spec (ws := _ :: fs_ws) B.pre w (List.mem_cons_of_mem _ hw)⟩
  have hR := fs_hR (fr := 9) (lo := 234) ((f_Lw_tell a0 x1 a2).2 _ _ _ h)
  have hl := lv_entry ([.ref a0, .int x1, .ref a2]) (n := 4) (Nat.le_of_ble_eq_true rfl)
  rw [lg_entry_eq]
  generalize (lg_sl ([.ref a0, .int x1, .ref a2]) ++ List.replicate (4 - (lg_sl ([.ref a0, .int x1, .ref a2])).length) Slot.unset).toArray = ls at hl ⊢
  have hl : lv_has ls 4 [(0, .ref a0), (1, .int x1), (2, .ref a2)] := hl
  refine (?_ : fs_J X p l e (fs_rm 9 234 σ σF) s m _ below meth c (fs_Q X below _ s (fs_eI r) σ σF) r σ σF (f_Lw_tell a0 x1 a2) (F0 m 0 ls [])) σ s.heap [] 0 0 h hw0 va_S.rf rfl rfl
  clear h hw0
  unfold f_Lw_tell
  refine fs_lift (fun _ _ _ _ => lv_aload_n hx hb d_Lw_tell_0 rfl (lv_at hl 2 rfl)) ?_
  refine fs_lift (fun _ _ _ _ => lv_iconst (v := 0) hx hb d_Lw_tell_1 (by decide)) ?_
  refine fs_lift (fun _ _ _ _ => lv_aload_n hx hb d_Lw_tell_2 rfl (lv_at hl 0 rfl)) ?_
  refine fs_lift (fun _ _ _ _ => lv_iload_n hx hb d_Lw_tell_3 rfl (lv_at hl 1 rfl)) ?_
  refine fs_JVt S hG hR rfl [.int x1] (fun r => some (.int r)) (encx := fs_qI) (fun _ => rfl) (fun _ => rfl) (fun zr zs zt zh => m_Fs_tell X l hl0 a0 x1 zh) tw_4_52 tw_4_53 tw_4_54 tw_4_55 tw_1_1 q_Fs_tell ⟨(Nat.le_of_ble_eq_true rfl), (Nat.le_of_ble_eq_true rfl)⟩ hl.1 rfl (Nat.le_of_ble_eq_true rfl) d_Lw_tell_4 (fun v1 => ?_) (fun e9 => ?_)
  · refine fs_Jeq (g2 := F0 m 7 ls [.int v1, .int 0, .ref a2]) rfl ?_
    refine fs_lift (fun _ _ _ _ => lv_i2l hx hb d_Lw_tell_7 rfl) ?_
    refine fs_Jsj S hG d_Lw_tell_8 ?_
    refine fs_lift (fun _ _ _ _ => lv_goto hx hb d_Lw_tell_9 rfl) ?_
    refine fs_lift (fun _ _ _ _ => lv_iconst (v := 0) hx hb d_Lw_tell_18 (by decide)) ?_
    exact fs_Jiret S hr hk rfl d_Lw_tell_19
  · refine fs_Hif 12 (fun a9 ce9 c9 n9 => ?_) (fun q9 => ?_) ?_
    · rw [hT]; exact fs_F.take hpl S.2.2.2.1 rfl (by decide) (S.2.2.2.2 _ tw_2_54) c9 n9 (va_Nw.use rfl (hG.castable tb_2_69))
    · refine fs_liftL (fun _ _ _ _ => lv_astore_n (lv' := [(3, .ref q9), (0, .ref a0), (1, .int x1), (2, .ref a2)]) hx hb d_Lw_tell_12 rfl hl (Nat.le_of_ble_eq_true rfl) rfl) (fun ls hl => ?_)
      refine fs_lift (fun _ _ _ _ => lv_iconst (v := 1) hx hb d_Lw_tell_13 (by decide)) ?_
      exact fs_Jiret S hr hk rfl d_Lw_tell_14
    refine fs_Hif 15 (fun a9 ce9 c9 n9 => ?_) (fun q9 => ?_) ?_
    · rw [hT]; exact fs_F.pass hpl S.2.2.2.1 rfl (by decide) (S.2.2.2.2 _ tw_2_54) c9 n9 (fs_nc1 hG) (fs_F.take hpl S.2.2.2.1 rfl (by decide) (S.2.2.2.2 _ tw_2_55) c9 n9 (va_Nw.use rfl (hG.castable tb_2_148)))
    · refine fs_liftL (fun _ _ _ _ => lv_astore_n (lv' := [(3, .ref q9), (0, .ref a0), (1, .int x1), (2, .ref a2)]) hx hb d_Lw_tell_15 rfl hl (Nat.le_of_ble_eq_true rfl) rfl) (fun ls hl => ?_)
      refine fs_lift (fun _ _ _ _ => lv_iconst (v := 2) hx hb d_Lw_tell_16 (by decide)) ?_
      exact fs_Jiret S hr hk rfl d_Lw_tell_17
    exact fs_Hfail

theorem d_Lw_byteOf_0 : decode method_15_code 0 = .ok (.aload_n 3, 1) := by decide +kernel
theorem d_Lw_byteOf_1 : decode method_15_code 1 = .ok (.iconst 0, 1) := by decide +kernel
theorem d_Lw_byteOf_2 : decode method_15_code 2 = .ok (.aload_n 0, 1) := by decide +kernel
theorem d_Lw_byteOf_3 : decode method_15_code 3 = .ok (.iload_n 1, 1) := by decide +kernel
theorem d_Lw_byteOf_4 : decode method_15_code 4 = .ok (.iload_n 2, 1) := by decide +kernel
theorem d_Lw_byteOf_5 : decode method_15_code 5 = .ok (.invokevirtual 57, 3) := by decide +kernel
theorem d_Lw_byteOf_8 : decode method_15_code 8 = .ok (.i2l, 1) := by decide +kernel
theorem d_Lw_byteOf_9 : decode method_15_code 9 = .ok (.lastore, 1) := by decide +kernel
theorem d_Lw_byteOf_10 : decode method_15_code 10 = .ok (.goto 7, 3) := by decide +kernel
theorem d_Lw_byteOf_13 : decode method_15_code 13 = .ok (.astore 4, 2) := by decide +kernel
theorem d_Lw_byteOf_15 : decode method_15_code 15 = .ok (.iconst 1, 1) := by decide +kernel
theorem d_Lw_byteOf_16 : decode method_15_code 16 = .ok (.ireturn, 1) := by decide +kernel
theorem d_Lw_byteOf_17 : decode method_15_code 17 = .ok (.iconst 0, 1) := by decide +kernel
theorem d_Lw_byteOf_18 : decode method_15_code 18 = .ok (.ireturn, 1) := by decide +kernel
theorem q_Lw_byteOf : (⟨"FlowShelfLaw", "byteOf", "(LFlowShelf;II[J)I"⟩ : MethodName).cls ≠ "java/lang/invoke/MethodHandle" ∧ (⟨"FlowShelfLaw", "byteOf", "(LFlowShelf;II[J)I"⟩ : MethodName).cls ≠ "java/lang/invoke/VarHandle" ∧ (parseMethodDescriptor (⟨"FlowShelfLaw", "byteOf", "(LFlowShelf;II[J)I"⟩ : MethodName).desc).map (fun d => d.parameters.length) = some 4 := by decide +kernel
set_option maxHeartbeats 4000000 in
set_option maxRecDepth 100000 in
theorem m_Lw_byteOf (X : fs_X) (l : Launch) (hl0 : l.stackTraces = false) (a0 : Nat) (x1 : Int32) (x2 : Int32) (a3 : Nat) {r : Int32} {σ σF : fs_S} (h : (f_Lw_byteOf a0 x1 x2 a3).1 σ = some (r, σF)) : fs_Met X l ⟨"FlowShelfLaw", "byteOf", "(LFlowShelf;II[J)I"⟩ (Cond.codeWith ⟨"FlowShelfLaw", "byteOf", "(LFlowShelf;II[J)I"⟩ method_15_code 5 (some FieldType.int) [(0, 10, 13, 33)]) 9 148 [.ref a0, .int x1, .int x2, .ref a3] σ (fs_eI r) σF := by
  refine fs_ofWH (by decide) ?_
  intro p e s m args below meth c s₁ B hml hT hv
  obtain ⟨rfl, hw0, hG⟩ := hv
  have hx := B.exec
  have hb := B.bytes
  have hpl : e.platform.magicAccessors = ({} : Platform).magicAccessors := by rw [B.admits.platform]
  have hr := B.returns
  have hk := B.notSynchronized
  have S : CallFix p m c method_15_code 5 s _ fs_ws "FlowShelfLaw" := ⟨B.exec, B.bytes, hml, findClass_of_methodNamed B.named, fun w hw => atoms_spec (ws := _ :: fs_ws) B.pre w (List.mem_cons_of_mem _ hw)⟩
  have hR := fs_hR (fr := 9) (lo := 148) ((f_Lw_byteOf a0 x1 x2 a3).2 _ _ _ h)
  have hl := lv_entry ([.ref a0, .int x1, .int x2, .ref a3]) (n := 5) (Nat.le_of_ble_eq_true rfl)
  rw [lg_entry_eq]
  generalize (lg_sl ([.ref a0, .int x1, .int x2, .ref a3]) ++ List.replicate (5 - (lg_sl ([.ref a0, .int x1, .int x2, .ref a3])).length) Slot.unset).toArray = ls at hl ⊢
  have hl : lv_has ls 5 [(0, .ref a0), (1, .int x1), (2, .int x2), (3, .ref a3)] := hl
  refine (?_ : fs_J X p l e (fs_rm 9 148 σ σF) s m _ below meth c (fs_Q X below _ s (fs_eI r) σ σF) r σ σF (f_Lw_byteOf a0 x1 x2 a3) (F0 m 0 ls [])) σ s.heap [] 0 0 h hw0 va_S.rf rfl rfl
  clear h hw0
  unfold f_Lw_byteOf
  refine fs_lift (fun _ _ _ _ => lv_aload_n hx hb d_Lw_byteOf_0 rfl (lv_at hl 3 rfl)) ?_
  refine fs_lift (fun _ _ _ _ => lv_iconst (v := 0) hx hb d_Lw_byteOf_1 (by decide)) ?_
  refine fs_lift (fun _ _ _ _ => lv_aload_n hx hb d_Lw_byteOf_2 rfl (lv_at hl 0 rfl)) ?_
  refine fs_lift (fun _ _ _ _ => lv_iload_n hx hb d_Lw_byteOf_3 rfl (lv_at hl 1 rfl)) ?_
  refine fs_lift (fun _ _ _ _ => lv_iload_n hx hb d_Lw_byteOf_4 rfl (lv_at hl 2 rfl)) ?_
  refine fs_JVt S hG hR rfl [.int x1, .int x2] (fun r => some (.int r)) (encx := fs_qI) (fun _ => rfl) (fun _ => rfl) (fun zr zs zt zh => m_Fs_byteOf X l hl0 a0 x1 x2 zh) tw_4_64 tw_4_65 tw_4_66 tw_4_67 tw_1_1 q_Fs_byteOf ⟨(Nat.le_of_ble_eq_true rfl), (Nat.le_of_ble_eq_true rfl)⟩ hl.1 rfl (Nat.le_of_ble_eq_true rfl) d_Lw_byteOf_5 (fun v1 => ?_) (fun e9 => ?_)
  · refine fs_Jeq (g2 := F0 m 8 ls [.int v1, .int 0, .ref a3]) rfl ?_
    refine fs_lift (fun _ _ _ _ => lv_i2l hx hb d_Lw_byteOf_8 rfl) ?_
    refine fs_Jsj S hG d_Lw_byteOf_9 ?_
    refine fs_lift (fun _ _ _ _ => lv_goto hx hb d_Lw_byteOf_10 rfl) ?_
    refine fs_lift (fun _ _ _ _ => lv_iconst (v := 0) hx hb d_Lw_byteOf_17 (by decide)) ?_
    exact fs_Jiret S hr hk rfl d_Lw_byteOf_18
  · refine fs_Hif 13 (fun a9 ce9 c9 n9 => ?_) (fun q9 => ?_) ?_
    · rw [hT]; exact fs_F.take hpl S.2.2.2.1 rfl (by decide) (S.2.2.2.2 _ tw_3_103) c9 n9 (va_Nw.use rfl (hG.castable tb_3_114))
    · refine fs_liftL (fun _ _ _ _ => lv_astore (lv' := [(4, .ref q9), (0, .ref a0), (1, .int x1), (2, .int x2), (3, .ref a3)]) hx hb d_Lw_byteOf_13 hl (Nat.le_of_ble_eq_true rfl) rfl) (fun ls hl => ?_)
      refine fs_lift (fun _ _ _ _ => lv_iconst (v := 1) hx hb d_Lw_byteOf_15 (by decide)) ?_
      exact fs_Jiret S hr hk rfl d_Lw_byteOf_16
    exact fs_Hfail

