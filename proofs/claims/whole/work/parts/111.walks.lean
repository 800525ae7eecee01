/-! contracts of methods, walked by program -/
theorem d_Rf_poke_0 : decode prog_13_method_30_code 0 = .ok (.aload_n 0, 1) := by decide +kernel
theorem d_Rf_poke_1 : decode prog_13_method_30_code 1 = .ok (.aload_n 0, 1) := by decide +kernel
theorem d_Rf_poke_2 : decode prog_13_method_30_code 2 = .ok (.iload_n 1, 1) := by decide +kernel
theorem d_Rf_poke_3 : decode prog_13_method_30_code 3 = .ok (.invokevirtual 194, 3) := by decide +kernel
theorem d_Rf_poke_6 : decode prog_13_method_30_code 6 = .ok (.ifCond .ne 29, 3) := by decide +kernel
theorem d_Rf_poke_9 : decode prog_13_method_30_code 9 = .ok (.iload_n 2, 1) := by decide +kernel
theorem d_Rf_poke_10 : decode prog_13_method_30_code 10 = .ok (.ifCond .lt 25, 3) := by decide +kernel
theorem d_Rf_poke_13 : decode prog_13_method_30_code 13 = .ok (.iload_n 2, 1) := by decide +kernel
theorem d_Rf_poke_14 : decode prog_13_method_30_code 14 = .ok (.aload_n 0, 1) := by decide +kernel
theorem d_Rf_poke_15 : decode prog_13_method_30_code 15 = .ok (.getfield 79, 3) := by decide +kernel
theorem d_Rf_poke_18 : decode prog_13_method_30_code 18 = .ok (.aload_n 0, 1) := by decide +kernel
theorem d_Rf_poke_19 : decode prog_13_method_30_code 19 = .ok (.iload_n 1, 1) := by decide +kernel
theorem d_Rf_poke_20 : decode prog_13_method_30_code 20 = .ok (.invokevirtual 194, 3) := by decide +kernel
theorem d_Rf_poke_23 : decode prog_13_method_30_code 23 = .ok (.ifCond .eq 7, 3) := by decide +kernel
theorem d_Rf_poke_26 : decode prog_13_method_30_code 26 = .ok (.iconst 0, 1) := by decide +kernel
theorem d_Rf_poke_27 : decode prog_13_method_30_code 27 = .ok (.goto 4, 3) := by decide +kernel
theorem d_Rf_poke_30 : decode prog_13_method_30_code 30 = .ok (.iload_n 1, 1) := by decide +kernel
theorem d_Rf_poke_31 : decode prog_13_method_30_code 31 = .ok (.iaload, 1) := by decide +kernel
theorem d_Rf_poke_32 : decode prog_13_method_30_code 32 = .ok (.if_icmp .lt 7, 3) := by decide +kernel
theorem d_Rf_poke_35 : decode prog_13_method_30_code 35 = .ok (.iconst 1, 1) := by decide +kernel
theorem d_Rf_poke_36 : decode prog_13_method_30_code 36 = .ok (.goto 16, 3) := by decide +kernel
theorem d_Rf_poke_39 : decode prog_13_method_30_code 39 = .ok (.aload_n 0, 1) := by decide +kernel
theorem d_Rf_poke_40 : decode prog_13_method_30_code 40 = .ok (.iload_n 3, 1) := by decide +kernel
theorem d_Rf_poke_41 : decode prog_13_method_30_code 41 = .ok (.invokevirtual 150, 3) := by decide +kernel
theorem d_Rf_poke_44 : decode prog_13_method_30_code 44 = .ok (.ifCond .eq 7, 3) := by decide +kernel
theorem d_Rf_poke_47 : decode prog_13_method_30_code 47 = .ok (.iconst 2, 1) := by decide +kernel
theorem d_Rf_poke_48 : decode prog_13_method_30_code 48 = .ok (.goto 4, 3) := by decide +kernel
theorem d_Rf_poke_51 : decode prog_13_method_30_code 51 = .ok (.iconst 0, 1) := by decide +kernel
theorem d_Rf_poke_52 : decode prog_13_method_30_code 52 = .ok (.putfield 138, 3) := by decide +kernel
theorem d_Rf_poke_55 : decode prog_13_method_30_code 55 = .ok (.aload_n 0, 1) := by decide +kernel
theorem d_Rf_poke_56 : decode prog_13_method_30_code 56 = .ok (.getfield 138, 3) := by decide +kernel
theorem d_Rf_poke_59 : decode prog_13_method_30_code 59 = .ok (.ifCond .ne 15, 3) := by decide +kernel
theorem d_Rf_poke_62 : decode prog_13_method_30_code 62 = .ok (.aload_n 0, 1) := by decide +kernel
theorem d_Rf_poke_63 : decode prog_13_method_30_code 63 = .ok (.getfield 82, 3) := by decide +kernel
theorem d_Rf_poke_66 : decode prog_13_method_30_code 66 = .ok (.bipush 64, 2) := by decide +kernel
theorem d_Rf_poke_68 : decode prog_13_method_30_code 68 = .ok (.iload_n 1, 1) := by decide +kernel
theorem d_Rf_poke_69 : decode prog_13_method_30_code 69 = .ok (.imul, 1) := by decide +kernel
theorem d_Rf_poke_70 : decode prog_13_method_30_code 70 = .ok (.iload_n 2, 1) := by decide +kernel
theorem d_Rf_poke_71 : decode prog_13_method_30_code 71 = .ok (.iadd, 1) := by decide +kernel
theorem d_Rf_poke_72 : decode prog_13_method_30_code 72 = .ok (.iload_n 3, 1) := by decide +kernel
theorem d_Rf_poke_73 : decode prog_13_method_30_code 73 = .ok (.iastore, 1) := by decide +kernel
theorem d_Rf_poke_74 : decode prog_13_method_30_code 74 = .ok (.return_, 1) := by decide +kernel
theorem q_Rf_poke : (⟨"FlowShelfModel", "poke", "(III)V"⟩ : MethodName).cls ≠ "java/lang/invoke/MethodHandle" ∧ (⟨"FlowShelfModel", "poke", "(III)V"⟩ : MethodName).cls ≠ "java/lang/invoke/VarHandle" ∧ (parseMethodDescriptor (⟨"FlowShelfModel", "poke", "(III)V"⟩ : MethodName).desc).map (fun d => d.parameters.length) = some 3 := by decide +kernel
set_option maxHeartbeats 4000000 in
set_option maxRecDepth 100000 in
theorem m_Rf_poke (X : fs_X) (l : Launch) (a0 : Nat) (x1 : Int32) (x2 : Int32) (x3 : Int32) {r : Unit} {σ σF : fs_S} (h : (f_Rf_poke a0 x1 x2 x3).1 σ = some (r, σF)) : fs_Met X l ⟨"FlowShelfModel", "poke", "(III)V"⟩ (Cond.code ⟨"FlowShelfModel", "poke", "(III)V"⟩ prog_13_method_30_code 4 none) 1 21 [.ref a0, .int x1, .int x2, .int x3] σ (fs_eV r) σF := by
  refine fs_ofW (by decide) ?_
  intro p e s m args below meth c s₁ B hml hT hv
  obtain ⟨rfl, hw0, hG⟩ := hv
  have hx := B.exec
  have hb := B.bytes
  have hr := B.returns
  have hk := B.notSynchronized
  have S : CallFix p m c prog_13_method_30_code 4 s _ fs_ws "FlowShelfModel" := ⟨B.exec, B.bytes, hml, findClass_of_methodNamed B.named, fun w hw => atoms_spec (ws := _ :: fs_ws) B.pre w (List.mem_cons_of_mem _ hw)⟩
  have hR := fs_hR (fr := 1) (lo := 21) ((f_Rf_poke a0 x1 x2 x3).2 _ _ _ h)
  have hl := lv_entry ([.ref a0, .int x1, .int x2, .int x3]) (n := 4) (Nat.le_of_ble_eq_true rfl)
  rw [lg_entry_eq]
  generalize (lg_sl ([.ref a0, .int x1, .int x2, .int x3]) ++ List.replicate (4 - (lg_sl ([.ref a0, .int x1, .int x2, .int x3])).length) Slot.unset).toArray = ls at hl ⊢
  have hl : lv_has ls 4 [(0, .ref a0), (1, .int x1), (2, .int x2), (3, .int x3)] := hl
  refine (?_ : fs_J X p l e (fs_rm 1 21 σ σF) s m _ below meth c (fs_Q X below _ s (fs_eV r) σ σF) r σ σF (f_Rf_poke a0 x1 x2 x3) (F0 m 0 ls [])) σ s.heap [] 0 0 h hw0 va_S.rf rfl rfl
  clear h hw0
  unfold f_Rf_poke
  refine fs_lift (fun _ _ _ _ => lv_aload_n hx hb d_Rf_poke_0 rfl (lv_at hl 0 rfl)) ?_
  refine fs_lift (fun _ _ _ _ => lv_aload_n hx hb d_Rf_poke_1 rfl (lv_at hl 0 rfl)) ?_
  refine fs_lift (fun _ _ _ _ => lv_iload_n hx hb d_Rf_poke_2 rfl (lv_at hl 1 rfl)) ?_
  refine fs_JV S hG hR rfl [.int x1] (enc := fun r => some (.int r)) (fun zr zs zt zh => m_Rf_noReport X l a0 x1 zh) tw_6_209 tw_6_211 tp_2_9 tw_6_212 tw_1_11 q_Rf_noReport ⟨(Nat.le_of_ble_eq_true rfl), (Nat.le_of_ble_eq_true rfl)⟩ hl.1 rfl (Nat.le_of_ble_eq_true rfl) d_Rf_poke_3 (fun v1 => ?_)
  refine fs_Jeq (g2 := F0 m 6 ls [.int v1, .ref a0]) rfl ?_
  refine fs_Jlet1 (nL := 4) (pj := 52) (I := fun (v7 : Int32) => [(0, .ref a0), (1, .int x1), (2, .int x2), (3, .int x3)]) (st := fun (v7 : Int32) => [.int v7, .ref a0]) (fun v7 ls hl => ?_) (fun j52 hj52 => ?_)
  · refine fs_Jput S hG fs_in12 rfl 0 (Nat.le_of_ble_eq_true rfl) tw_5_192 (fun _ h9 => h9) fs_Y12 fs_ty12 fs_nm12 (Or.inl rfl) rfl rfl d_Rf_poke_52 ?_
    refine fs_lift (fun _ _ _ _ => lv_aload_n hx hb d_Rf_poke_55 rfl (lv_at hl 0 rfl)) ?_
    refine fs_Jgi S hG fs_in12 rfl 0 (Nat.le_of_ble_eq_true rfl) tw_5_192 (fun _ h9 => h9) d_Rf_poke_56 (fun v8 => ?_)
    refine fs_ifn (fun _ _ _ _ => lv_if_ne hx hb d_Rf_poke_59 rfl) ?_ ?_
    · refine fs_lift (fun _ _ _ _ => lv_aload_n hx hb d_Rf_poke_62 rfl (lv_at hl 0 rfl)) ?_
      refine fs_Jgr S hG fs_in12 rfl 27 (Nat.le_of_ble_eq_true rfl) tw_5_219 (fun _ h9 => h9) d_Rf_poke_63 (fun r9 => ?_)
      refine fs_lift (fun _ _ _ _ => lv_bipush (v := 64) hx hb d_Rf_poke_66 (by decide)) ?_
      refine fs_lift (fun _ _ _ _ => lv_iload_n hx hb d_Rf_poke_68 rfl (lv_at hl 1 rfl)) ?_
      refine fs_lift (fun _ _ _ _ => lv_imul hx hb d_Rf_poke_69) ?_
      refine fs_lift (fun _ _ _ _ => lv_iload_n hx hb d_Rf_poke_70 rfl (lv_at hl 2 rfl)) ?_
      refine fs_lift (fun _ _ _ _ => lv_iadd hx hb d_Rf_poke_71) ?_
      refine fs_lift (fun _ _ _ _ => lv_iload_n hx hb d_Rf_poke_72 rfl (lv_at hl 3 rfl)) ?_
      refine fs_Jsi S hG d_Rf_poke_73 ?_
      exact fs_Jvret S hr hk rfl d_Rf_poke_74
    · exact fs_Jvret S hr hk rfl d_Rf_poke_74
  · refine fs_Jlet1 (nL := 4) (pj := 35) (I := fun (_ : Unit) => [(0, .ref a0), (1, .int x1), (2, .int x2), (3, .int x3)]) (st := fun (_ : Unit) => [.ref a0]) (fun _ ls hl => ?_) (fun j35 hj35 => ?_)
    · refine fs_lift (fun _ _ _ _ => lv_iconst (v := 1) hx hb d_Rf_poke_35 (by decide)) ?_
      refine fs_lift (fun _ _ _ _ => lv_goto hx hb d_Rf_poke_36 rfl) ?_
      exact hj52 1 ls (lv_sub hl [0, 1, 2, 3] rfl)
    · refine fs_ifn (fun _ _ _ _ => lv_if_ne hx hb d_Rf_poke_6 rfl) ?_ ?_
      · refine fs_lift (fun _ _ _ _ => lv_iload_n hx hb d_Rf_poke_9 rfl (lv_at hl 2 rfl)) ?_
        refine fs_if (fun _ _ _ _ => lv_if_lt hx hb d_Rf_poke_10 rfl) ?_ ?_
        · exact hj35 () ls (lv_sub hl [0, 1, 2, 3] rfl)
        · refine fs_lift (fun _ _ _ _ => lv_iload_n hx hb d_Rf_poke_13 rfl (lv_at hl 2 rfl)) ?_
          refine fs_lift (fun _ _ _ _ => lv_aload_n hx hb d_Rf_poke_14 rfl (lv_at hl 0 rfl)) ?_
          refine fs_Jgr S hG fs_in12 rfl 26 (Nat.le_of_ble_eq_true rfl) tw_5_218 (fun _ h9 => h9) d_Rf_poke_15 (fun r2 => ?_)
          refine fs_lift (fun _ _ _ _ => lv_aload_n hx hb d_Rf_poke_18 rfl (lv_at hl 0 rfl)) ?_
          refine fs_lift (fun _ _ _ _ => lv_iload_n hx hb d_Rf_poke_19 rfl (lv_at hl 1 rfl)) ?_
          refine fs_JV S hG hR rfl [.int x1] (enc := fun r => some (.int r)) (fun zr zs zt zh => m_Rf_noReport X l a0 x1 zh) tw_6_209 tw_6_211 tp_2_9 tw_6_212 tw_1_11 q_Rf_noReport ⟨(Nat.le_of_ble_eq_true rfl), (Nat.le_of_ble_eq_true rfl)⟩ hl.1 rfl (Nat.le_of_ble_eq_true rfl) d_Rf_poke_20 (fun v3 => ?_)
          refine fs_Jeq (g2 := F0 m 23 ls [.int v3, .ref r2, .int x2, .ref a0]) rfl ?_
          refine fs_Jlet1 (nL := 4) (pj := 31) (I := fun (v4 : Int32) => [(0, .ref a0), (1, .int x1), (2, .int x2), (3, .int x3)]) (st := fun (v4 : Int32) => [.int v4, .ref r2, .int x2, .ref a0]) (fun v4 ls hl => ?_) (fun j31 hj31 => ?_)
          · refine fs_Jai S hG d_Rf_poke_31 (fun v5 => ?_)
            refine fs_if (fun _ _ _ _ => lv_icmp_lt hx hb d_Rf_poke_32 rfl) ?_ ?_
            · refine fs_lift (fun _ _ _ _ => lv_aload_n hx hb d_Rf_poke_39 rfl (lv_at hl 0 rfl)) ?_
              refine fs_lift (fun _ _ _ _ => lv_iload_n hx hb d_Rf_poke_40 rfl (lv_at hl 3 rfl)) ?_
              refine fs_JV S hG hR rfl [.int x3] (enc := fun r => some (.int r)) (fun zr zs zt zh => m_Rf_noByte X l a0 x3 zh) tw_6_115 tw_6_117 tp_1_14 tw_6_118 tw_1_11 q_Rf_noByte ⟨(Nat.le_of_ble_eq_true rfl), (Nat.le_of_ble_eq_true rfl)⟩ hl.1 rfl (Nat.le_of_ble_eq_true rfl) d_Rf_poke_41 (fun v6 => ?_)
              refine fs_Jeq (g2 := F0 m 44 ls [.int v6, .ref a0]) rfl ?_
              refine fs_if (fun _ _ _ _ => lv_if_eq hx hb d_Rf_poke_44 rfl) ?_ ?_
              · refine fs_lift (fun _ _ _ _ => lv_iconst (v := 0) hx hb d_Rf_poke_51 (by decide)) ?_
                exact hj52 0 ls (lv_sub hl [0, 1, 2, 3] rfl)
              · refine fs_lift (fun _ _ _ _ => lv_iconst (v := 2) hx hb d_Rf_poke_47 (by decide)) ?_
                refine fs_lift (fun _ _ _ _ => lv_goto hx hb d_Rf_poke_48 rfl) ?_
                exact hj52 2 ls (lv_sub hl [0, 1, 2, 3] rfl)
            · exact hj35 () ls (lv_sub hl [0, 1, 2, 3] rfl)
          · refine fs_if (fun _ _ _ _ => lv_if_eq hx hb d_Rf_poke_23 rfl) ?_ ?_
            · refine fs_lift (fun _ _ _ _ => lv_iload_n hx hb d_Rf_poke_30 rfl (lv_at hl 1 rfl)) ?_
              exact hj31 x1 ls (lv_sub hl [0, 1, 2, 3] rfl)
            · refine fs_lift (fun _ _ _ _ => lv_iconst (v := 0) hx hb d_Rf_poke_26 (by decide)) ?_
              refine fs_lift (fun _ _ _ _ => lv_goto hx hb d_Rf_poke_27 rfl) ?_
              exact hj31 0 ls (lv_sub hl [0, 1, 2, 3] rfl)
      · exact hj35 () ls (lv_sub hl [0, 1, 2, 3] rfl)

theorem d_Rf_badFields_0 : decode prog_13_method_31_code 0 = .ok (.iconst 0, 1) := by decide +kernel
theorem d_Rf_badFields_1 : decode prog_13_method_31_code 1 = .ok (.istore_n 1, 1) := by decide +kernel
theorem d_Rf_badFields_2 : decode prog_13_method_31_code 2 = .ok (.iconst 0, 1) := by decide +kernel
theorem d_Rf_badFields_3 : decode prog_13_method_31_code 3 = .ok (.istore_n 2, 1) := by decide +kernel
theorem d_Rf_badFields_4 : decode prog_13_method_31_code 4 = .ok (.iconst 0, 1) := by decide +kernel
theorem d_Rf_badFields_5 : decode prog_13_method_31_code 5 = .ok (.istore_n 3, 1) := by decide +kernel
theorem d_Rf_badFields_6 : decode prog_13_method_31_code 6 = .ok (.iload_n 3, 1) := by decide +kernel
theorem d_Rf_badFields_7 : decode prog_13_method_31_code 7 = .ok (.aload_n 0, 1) := by decide +kernel
theorem d_Rf_badFields_8 : decode prog_13_method_31_code 8 = .ok (.getfield 129, 3) := by decide +kernel
theorem d_Rf_badFields_11 : decode prog_13_method_31_code 11 = .ok (.iconst 5, 1) := by decide +kernel
theorem d_Rf_badFields_12 : decode prog_13_method_31_code 12 = .ok (.iaload, 1) := by decide +kernel
theorem d_Rf_badFields_13 : decode prog_13_method_31_code 13 = .ok (.if_icmp .ge 79, 3) := by decide +kernel
theorem d_Rf_badFields_16 : decode prog_13_method_31_code 16 = .ok (.aload_n 0, 1) := by decide +kernel
theorem d_Rf_badFields_17 : decode prog_13_method_31_code 17 = .ok (.getfield 129, 3) := by decide +kernel
theorem d_Rf_badFields_20 : decode prog_13_method_31_code 20 = .ok (.bipush 6, 2) := by decide +kernel
theorem d_Rf_badFields_22 : decode prog_13_method_31_code 22 = .ok (.iconst 2, 1) := by decide +kernel
theorem d_Rf_badFields_23 : decode prog_13_method_31_code 23 = .ok (.iload_n 3, 1) := by decide +kernel
theorem d_Rf_badFields_24 : decode prog_13_method_31_code 24 = .ok (.imul, 1) := by decide +kernel
theorem d_Rf_badFields_25 : decode prog_13_method_31_code 25 = .ok (.iadd, 1) := by decide +kernel
theorem d_Rf_badFields_26 : decode prog_13_method_31_code 26 = .ok (.iaload, 1) := by decide +kernel
theorem d_Rf_badFields_27 : decode prog_13_method_31_code 27 = .ok (.istore 4, 2) := by decide +kernel
theorem d_Rf_badFields_29 : decode prog_13_method_31_code 29 = .ok (.iload_n 2, 1) := by decide +kernel
theorem d_Rf_badFields_30 : decode prog_13_method_31_code 30 = .ok (.ifCond .ne 35, 3) := by decide +kernel
theorem d_Rf_badFields_33 : decode prog_13_method_31_code 33 = .ok (.iload 4, 2) := by decide +kernel
theorem d_Rf_badFields_35 : decode prog_13_method_31_code 35 = .ok (.bipush 7, 2) := by decide +kernel
theorem d_Rf_badFields_37 : decode prog_13_method_31_code 37 = .ok (.if_icmp .gt 28, 3) := by decide +kernel
theorem d_Rf_badFields_40 : decode prog_13_method_31_code 40 = .ok (.iload_n 1, 1) := by decide +kernel
theorem d_Rf_badFields_41 : decode prog_13_method_31_code 41 = .ok (.iload 4, 2) := by decide +kernel
theorem d_Rf_badFields_43 : decode prog_13_method_31_code 43 = .ok (.ishr, 1) := by decide +kernel
theorem d_Rf_badFields_44 : decode prog_13_method_31_code 44 = .ok (.iconst 1, 1) := by decide +kernel
theorem d_Rf_badFields_45 : decode prog_13_method_31_code 45 = .ok (.iand, 1) := by decide +kernel
theorem d_Rf_badFields_46 : decode prog_13_method_31_code 46 = .ok (.iconst 1, 1) := by decide +kernel
theorem d_Rf_badFields_47 : decode prog_13_method_31_code 47 = .ok (.if_icmp .eq 18, 3) := by decide +kernel
theorem d_Rf_badFields_50 : decode prog_13_method_31_code 50 = .ok (.aload_n 0, 1) := by decide +kernel
theorem d_Rf_badFields_51 : decode prog_13_method_31_code 51 = .ok (.getfield 129, 3) := by decide +kernel
theorem d_Rf_badFields_54 : decode prog_13_method_31_code 54 = .ok (.bipush 7, 2) := by decide +kernel
theorem d_Rf_badFields_56 : decode prog_13_method_31_code 56 = .ok (.iconst 2, 1) := by decide +kernel
theorem d_Rf_badFields_57 : decode prog_13_method_31_code 57 = .ok (.iload_n 3, 1) := by decide +kernel
theorem d_Rf_badFields_58 : decode prog_13_method_31_code 58 = .ok (.imul, 1) := by decide +kernel
theorem d_Rf_badFields_59 : decode prog_13_method_31_code 59 = .ok (.iadd, 1) := by decide +kernel
theorem d_Rf_badFields_60 : decode prog_13_method_31_code 60 = .ok (.iaload, 1) := by decide +kernel
theorem d_Rf_badFields_61 : decode prog_13_method_31_code 61 = .ok (.iconst 4, 1) := by decide +kernel
theorem d_Rf_badFields_62 : decode prog_13_method_31_code 62 = .ok (.if_icmp .le 7, 3) := by decide +kernel
theorem d_Rf_badFields_65 : decode prog_13_method_31_code 65 = .ok (.iconst 1, 1) := by decide +kernel
theorem d_Rf_badFields_66 : decode prog_13_method_31_code 66 = .ok (.goto 4, 3) := by decide +kernel
theorem d_Rf_badFields_69 : decode prog_13_method_31_code 69 = .ok (.iconst 0, 1) := by decide +kernel
theorem d_Rf_badFields_70 : decode prog_13_method_31_code 70 = .ok (.istore_n 2, 1) := by decide +kernel
theorem d_Rf_badFields_71 : decode prog_13_method_31_code 71 = .ok (.iload_n 2, 1) := by decide +kernel
theorem d_Rf_badFields_72 : decode prog_13_method_31_code 72 = .ok (.ifCond .eq 7, 3) := by decide +kernel
theorem d_Rf_badFields_75 : decode prog_13_method_31_code 75 = .ok (.iload_n 1, 1) := by decide +kernel
theorem d_Rf_badFields_76 : decode prog_13_method_31_code 76 = .ok (.goto 9, 3) := by decide +kernel
theorem d_Rf_badFields_79 : decode prog_13_method_31_code 79 = .ok (.iload_n 1, 1) := by decide +kernel
theorem d_Rf_badFields_80 : decode prog_13_method_31_code 80 = .ok (.iconst 1, 1) := by decide +kernel
theorem d_Rf_badFields_81 : decode prog_13_method_31_code 81 = .ok (.iload 4, 2) := by decide +kernel
theorem d_Rf_badFields_83 : decode prog_13_method_31_code 83 = .ok (.ishl, 1) := by decide +kernel
theorem d_Rf_badFields_84 : decode prog_13_method_31_code 84 = .ok (.ior, 1) := by decide +kernel
theorem d_Rf_badFields_85 : decode prog_13_method_31_code 85 = .ok (.istore_n 1, 1) := by decide +kernel
theorem d_Rf_badFields_86 : decode prog_13_method_31_code 86 = .ok (.iinc 3 1, 3) := by decide +kernel
theorem d_Rf_badFields_89 : decode prog_13_method_31_code 89 = .ok (.goto (-83), 3) := by decide +kernel
theorem d_Rf_badFields_92 : decode prog_13_method_31_code 92 = .ok (.iload_n 2, 1) := by decide +kernel
theorem d_Rf_badFields_93 : decode prog_13_method_31_code 93 = .ok (.ireturn, 1) := by decide +kernel
theorem q_Rf_badFields : (⟨"FlowShelfModel", "badFields", "()Z"⟩ : MethodName).cls ≠ "java/lang/invoke/MethodHandle" ∧ (⟨"FlowShelfModel", "badFields", "()Z"⟩ : MethodName).cls ≠ "java/lang/invoke/VarHandle" ∧ (parseMethodDescriptor (⟨"FlowShelfModel", "badFields", "()Z"⟩ : MethodName).desc).map (fun d => d.parameters.length) = some 0 := by decide +kernel
set_option maxHeartbeats 4000000 in
set_option maxRecDepth 100000 in
theorem m_Rf_badFields (X : fs_X) (l : Launch) (a0 : Nat) {r : Int32} {σ σF : fs_S} (h : (f_Rf_badFields a0).1 σ = some (r, σF)) : fs_Met X l ⟨"FlowShelfModel", "badFields", "()Z"⟩ (Cond.code ⟨"FlowShelfModel", "badFields", "()Z"⟩ prog_13_method_31_code 5 (some FieldType.boolean)) 0 0 [.ref a0] σ (fs_eI r) σF := by
  refine fs_ofW (by decide) ?_
  intro p e s m args below meth c s₁ B hml hT hv
  obtain ⟨rfl, hw0, hG⟩ := hv
  have hx := B.exec
  have hb := B.bytes
  have hr := B.returns
  have hk := B.notSynchronized
  have S : CallFix p m c prog_13_method_31_code 5 s _ fs_ws "FlowShelfModel" := ⟨B.exec, B.bytes, hml, findClass_of_methodNamed B.named, fun w hw => atoms_spec (ws := _ :: fs_ws) B.pre w (List.mem_cons_of_mem _ hw)⟩
  have hR := fs_hR (fr := 0) (lo := 0) ((f_Rf_badFields a0).2 _ _ _ h)
  have hl := lv_entry ([.ref a0]) (n := 5) (Nat.le_of_ble_eq_true rfl)
  rw [lg_entry_eq]
  generalize (lg_sl ([.ref a0]) ++ List.replicate (5 - (lg_sl ([.ref a0])).length) Slot.unset).toArray = ls at hl ⊢
  have hl : lv_has ls 5 [(0, .ref a0)] := hl
  refine (?_ : fs_J X p l e (fs_rm 0 0 σ σF) s m _ below meth c (fs_Q X below _ s (fs_eI r) σ σF) r σ σF (f_Rf_badFields a0) (F0 m 0 ls [])) σ s.heap [] 0 0 h hw0 va_S.rf rfl rfl
  clear h hw0
  unfold f_Rf_badFields
  refine fs_lift (fun _ _ _ _ => lv_iconst (v := 0) hx hb d_Rf_badFields_0 (by decide)) ?_
  refine fs_liftL (fun _ _ _ _ => lv_istore_n (lv' := [(1, .int 0), (0, .ref a0)]) hx hb d_Rf_badFields_1 rfl hl (Nat.le_of_ble_eq_true rfl) rfl) (fun ls hl => ?_)
  refine fs_lift (fun _ _ _ _ => lv_iconst (v := 0) hx hb d_Rf_badFields_2 (by decide)) ?_
  refine fs_liftL (fun _ _ _ _ => lv_istore_n (lv' := [(2, .int 0), (1, .int 0), (0, .ref a0)]) hx hb d_Rf_badFields_3 rfl hl (Nat.le_of_ble_eq_true rfl) rfl) (fun ls hl => ?_)
  refine fs_lift (fun _ _ _ _ => lv_iconst (v := 0) hx hb d_Rf_badFields_4 (by decide)) ?_
  refine fs_liftL (fun _ _ _ _ => lv_istore_n (lv' := [(3, .int 0), (2, .int 0), (1, .int 0), (0, .ref a0)]) hx hb d_Rf_badFields_5 rfl hl (Nat.le_of_ble_eq_true rfl) rfl) (fun ls hl => ?_)
  refine fs_Jlp3 (nL := 5) (pc := 6) (rest := []) (I := fun (v1 : Int32) (v2 : Int32) (v3 : Int32) => [(0, .ref a0), (1, .int v1), (2, .int v2), (3, .int v3)]) (fun k6 hk6 v1 v2 v3 ls hl => ?_) _ _ _ _ _ (lv_sub hl [3, 2, 1, 0] rfl)
  refine fs_lift (fun _ _ _ _ => lv_iload_n hx hb d_Rf_badFields_6 rfl (lv_at hl 3 rfl)) ?_
  refine fs_lift (fun _ _ _ _ => lv_aload_n hx hb d_Rf_badFields_7 rfl (lv_at hl 0 rfl)) ?_
  refine fs_Jgr S hG fs_in12 rfl 46 (Nat.le_of_ble_eq_true rfl) tw_5_238 (fun _ h9 => h9) d_Rf_badFields_8 (fun r4 => ?_)
  refine fs_lift (fun _ _ _ _ => lv_iconst (v := 5) hx hb d_Rf_badFields_11 (by decide)) ?_
  refine fs_Jai S hG d_Rf_badFields_12 (fun v5 => ?_)
  refine fs_if (fun _ _ _ _ => lv_icmp_ge hx hb d_Rf_badFields_13 rfl) ?_ ?_
  · refine fs_lift (fun _ _ _ _ => lv_iload_n hx hb d_Rf_badFields_92 rfl (lv_at hl 2 rfl)) ?_
    exact fs_Jzret S hr hk rfl d_Rf_badFields_93
  · refine fs_lift (fun _ _ _ _ => lv_aload_n hx hb d_Rf_badFields_16 rfl (lv_at hl 0 rfl)) ?_
    refine fs_Jgr S hG fs_in12 rfl 46 (Nat.le_of_ble_eq_true rfl) tw_5_238 (fun _ h9 => h9) d_Rf_badFields_17 (fun r6 => ?_)
    refine fs_lift (fun _ _ _ _ => lv_bipush (v := 6) hx hb d_Rf_badFields_20 (by decide)) ?_
    refine fs_lift (fun _ _ _ _ => lv_iconst (v := 2) hx hb d_Rf_badFields_22 (by decide)) ?_
    refine fs_lift (fun _ _ _ _ => lv_iload_n hx hb d_Rf_badFields_23 rfl (lv_at hl 3 rfl)) ?_
    refine fs_lift (fun _ _ _ _ => lv_imul hx hb d_Rf_badFields_24) ?_
    refine fs_lift (fun _ _ _ _ => lv_iadd hx hb d_Rf_badFields_25) ?_
    refine fs_Jai S hG d_Rf_badFields_26 (fun v7 => ?_)
    refine fs_liftL (fun _ _ _ _ => lv_istore (lv' := [(4, .int v7), (0, .ref a0), (1, .int v1), (2, .int v2), (3, .int v3)]) hx hb d_Rf_badFields_27 hl (Nat.le_of_ble_eq_true rfl) rfl) (fun ls hl => ?_)
    refine fs_lift (fun _ _ _ _ => lv_iload_n hx hb d_Rf_badFields_29 rfl (lv_at hl 3 rfl)) ?_
    refine fs_Jlet1 (nL := 5) (pj := 70) (I := fun (v10 : Int32) => [(0, .ref a0), (1, .int v1), (3, .int v3), (4, .int v7)]) (st := fun (v10 : Int32) => [.int v10]) (fun v10 ls hl => ?_) (fun j70 hj70 => ?_)
    · refine fs_liftL (fun _ _ _ _ => lv_istore_n (lv' := [(2, .int v10), (0, .ref a0), (1, .int v1), (3, .int v3), (4, .int v7)]) hx hb d_Rf_badFields_70 rfl hl (Nat.le_of_ble_eq_true rfl) rfl) (fun ls hl => ?_)
      refine fs_lift (fun _ _ _ _ => lv_iload_n hx hb d_Rf_badFields_71 rfl (lv_at hl 0 rfl)) ?_
      refine fs_Jlet1 (nL := 5) (pj := 85) (I := fun (v11 : Int32) => [(0, .ref a0), (2, .int v10), (3, .int v3)]) (st := fun (v11 : Int32) => [.int v11]) (fun v11 ls hl => ?_) (fun j85 hj85 => ?_)
      · refine fs_liftL (fun _ _ _ _ => lv_istore_n (lv' := [(1, .int v11), (0, .ref a0), (2, .int v10), (3, .int v3)]) hx hb d_Rf_badFields_85 rfl hl (Nat.le_of_ble_eq_true rfl) rfl) (fun ls hl => ?_)
        refine fs_Jnm (fun v12 hv9 => ?_)
        refine fs_liftL (fun _ _ _ _ => lv_iinc (k := 3) (v := v12) (lv' := [(3, .int v12), (1, .int v11), (0, .ref a0), (2, .int v10)]) hx hb d_Rf_badFields_86 hl rfl (by rw [hv9]; rfl) (Nat.le_of_ble_eq_true rfl) rfl) (fun ls hl => ?_)
        refine fs_lift (fun _ _ _ _ => lv_goto hx hb d_Rf_badFields_89 rfl) ?_
        exact hk6 v11 v10 v12 ls (lv_sub hl [2, 1, 3, 0] rfl)
      · refine fs_if (fun _ _ _ _ => lv_if_eq hx hb d_Rf_badFields_72 rfl) ?_ ?_
        · refine fs_lift (fun _ _ _ _ => lv_iload_n hx hb d_Rf_badFields_79 rfl (lv_at hl 2 rfl)) ?_
          refine fs_lift (fun _ _ _ _ => lv_iconst (v := 1) hx hb d_Rf_badFields_80 (by decide)) ?_
          refine fs_lift (fun _ _ _ _ => lv_iload hx hb d_Rf_badFields_81 (lv_at hl 4 rfl)) ?_
          refine fs_lift (fun _ _ _ _ => lv_ishl hx hb d_Rf_badFields_83) ?_
          refine fs_lift (fun _ _ _ _ => lv_ior hx hb d_Rf_badFields_84) ?_
          exact hj85 (v1 ||| (1 <<< (v7 &&& 31))) ls (lv_sub hl [1, 0, 3] rfl)
        · refine fs_lift (fun _ _ _ _ => lv_iload_n hx hb d_Rf_badFields_75 rfl (lv_at hl 2 rfl)) ?_
          refine fs_lift (fun _ _ _ _ => lv_goto hx hb d_Rf_badFields_76 rfl) ?_
          exact hj85 v1 ls (lv_sub hl [1, 0, 3] rfl)
    · refine fs_Jlet1 (nL := 5) (pj := 65) (I := fun (_ : Unit) => [(0, .ref a0), (1, .int v1), (3, .int v3), (4, .int v7)]) (st := fun (_ : Unit) => []) (fun _ ls hl => ?_) (fun j65 hj65 => ?_)
      · refine fs_lift (fun _ _ _ _ => lv_iconst (v := 1) hx hb d_Rf_badFields_65 (by decide)) ?_
        refine fs_lift (fun _ _ _ _ => lv_goto hx hb d_Rf_badFields_66 rfl) ?_
        exact hj70 1 ls (lv_sub hl [0, 1, 2, 3] rfl)
      · refine fs_ifn (fun _ _ _ _ => lv_if_ne hx hb d_Rf_badFields_30 rfl) ?_ ?_
        · refine fs_lift (fun _ _ _ _ => lv_iload hx hb d_Rf_badFields_33 (lv_at hl 0 rfl)) ?_
          refine fs_lift (fun _ _ _ _ => lv_bipush (v := 7) hx hb d_Rf_badFields_35 (by decide)) ?_
          refine fs_if (fun _ _ _ _ => lv_icmp_gt hx hb d_Rf_badFields_37 rfl) ?_ ?_
          · exact hj65 () ls (lv_sub hl [1, 2, 4, 0] rfl)
          · refine fs_lift (fun _ _ _ _ => lv_iload_n hx hb d_Rf_badFields_40 rfl (lv_at hl 2 rfl)) ?_
            refine fs_lift (fun _ _ _ _ => lv_iload hx hb d_Rf_badFields_41 (lv_at hl 0 rfl)) ?_
            refine fs_lift (fun _ _ _ _ => lv_ishr hx hb d_Rf_badFields_43) ?_
            refine fs_lift (fun _ _ _ _ => lv_iconst (v := 1) hx hb d_Rf_badFields_44 (by decide)) ?_
            refine fs_lift (fun _ _ _ _ => lv_iand hx hb d_Rf_badFields_45) ?_
            refine fs_lift (fun _ _ _ _ => lv_iconst (v := 1) hx hb d_Rf_badFields_46 (by decide)) ?_
            refine fs_if (fun _ _ _ _ => lv_icmp_eq hx hb d_Rf_badFields_47 rfl) ?_ ?_
            · exact hj65 () ls (lv_sub hl [1, 2, 4, 0] rfl)
            · refine fs_lift (fun _ _ _ _ => lv_aload_n hx hb d_Rf_badFields_50 rfl (lv_at hl 1 rfl)) ?_
              refine fs_Jgr S hG fs_in12 rfl 46 (Nat.le_of_ble_eq_true rfl) tw_5_238 (fun _ h9 => h9) d_Rf_badFields_51 (fun r8 => ?_)
              refine fs_lift (fun _ _ _ _ => lv_bipush (v := 7) hx hb d_Rf_badFields_54 (by decide)) ?_
              refine fs_lift (fun _ _ _ _ => lv_iconst (v := 2) hx hb d_Rf_badFields_56 (by decide)) ?_
              refine fs_lift (fun _ _ _ _ => lv_iload_n hx hb d_Rf_badFields_57 rfl (lv_at hl 4 rfl)) ?_
              refine fs_lift (fun _ _ _ _ => lv_imul hx hb d_Rf_badFields_58) ?_
              refine fs_lift (fun _ _ _ _ => lv_iadd hx hb d_Rf_badFields_59) ?_
              refine fs_Jai S hG d_Rf_badFields_60 (fun v9 => ?_)
              refine fs_lift (fun _ _ _ _ => lv_iconst (v := 4) hx hb d_Rf_badFields_61 (by decide)) ?_
              refine fs_if (fun _ _ _ _ => lv_icmp_le hx hb d_Rf_badFields_62 rfl) ?_ ?_
              · refine fs_lift (fun _ _ _ _ => lv_iconst (v := 0) hx hb d_Rf_badFields_69 (by decide)) ?_
                exact hj70 0 ls (lv_sub hl [1, 2, 4, 0] rfl)
              · exact hj65 () ls (lv_sub hl [1, 2, 4, 0] rfl)
        · exact hj65 () ls (lv_sub hl [1, 2, 4, 0] rfl)

theorem d_Rf_isBad_0 : decode prog_13_method_32_code 0 = .ok (.aload_n 0, 1) := by decide +kernel
theorem d_Rf_isBad_1 : decode prog_13_method_32_code 1 = .ok (.getfield 129, 3) := by decide +kernel
theorem d_Rf_isBad_4 : decode prog_13_method_32_code 4 = .ok (.iconst 0, 1) := by decide +kernel
theorem d_Rf_isBad_5 : decode prog_13_method_32_code 5 = .ok (.iaload, 1) := by decide +kernel
theorem d_Rf_isBad_6 : decode prog_13_method_32_code 6 = .ok (.iconst 1, 1) := by decide +kernel
theorem d_Rf_isBad_7 : decode prog_13_method_32_code 7 = .ok (.if_icmp .gt 23, 3) := by decide +kernel
theorem d_Rf_isBad_10 : decode prog_13_method_32_code 10 = .ok (.aload_n 0, 1) := by decide +kernel
theorem d_Rf_isBad_11 : decode prog_13_method_32_code 11 = .ok (.getfield 129, 3) := by decide +kernel
theorem d_Rf_isBad_14 : decode prog_13_method_32_code 14 = .ok (.iconst 1, 1) := by decide +kernel
theorem d_Rf_isBad_15 : decode prog_13_method_32_code 15 = .ok (.iaload, 1) := by decide +kernel
theorem d_Rf_isBad_16 : decode prog_13_method_32_code 16 = .ok (.iconst 5, 1) := by decide +kernel
theorem d_Rf_isBad_17 : decode prog_13_method_32_code 17 = .ok (.if_icmp .gt 13, 3) := by decide +kernel
theorem d_Rf_isBad_20 : decode prog_13_method_32_code 20 = .ok (.aload_n 0, 1) := by decide +kernel
theorem d_Rf_isBad_21 : decode prog_13_method_32_code 21 = .ok (.getfield 129, 3) := by decide +kernel
theorem d_Rf_isBad_24 : decode prog_13_method_32_code 24 = .ok (.iconst 2, 1) := by decide +kernel
theorem d_Rf_isBad_25 : decode prog_13_method_32_code 25 = .ok (.iaload, 1) := by decide +kernel
theorem d_Rf_isBad_26 : decode prog_13_method_32_code 26 = .ok (.iconst 2, 1) := by decide +kernel
theorem d_Rf_isBad_27 : decode prog_13_method_32_code 27 = .ok (.if_icmp .le 5, 3) := by decide +kernel
theorem d_Rf_isBad_30 : decode prog_13_method_32_code 30 = .ok (.iconst 1, 1) := by decide +kernel
theorem d_Rf_isBad_31 : decode prog_13_method_32_code 31 = .ok (.ireturn, 1) := by decide +kernel
theorem d_Rf_isBad_32 : decode prog_13_method_32_code 32 = .ok (.aload_n 0, 1) := by decide +kernel
theorem d_Rf_isBad_33 : decode prog_13_method_32_code 33 = .ok (.getfield 129, 3) := by decide +kernel
theorem d_Rf_isBad_36 : decode prog_13_method_32_code 36 = .ok (.iconst 2, 1) := by decide +kernel
theorem d_Rf_isBad_37 : decode prog_13_method_32_code 37 = .ok (.iaload, 1) := by decide +kernel
theorem d_Rf_isBad_38 : decode prog_13_method_32_code 38 = .ok (.iconst 2, 1) := by decide +kernel
theorem d_Rf_isBad_39 : decode prog_13_method_32_code 39 = .ok (.if_icmp .ne 38, 3) := by decide +kernel
theorem d_Rf_isBad_42 : decode prog_13_method_32_code 42 = .ok (.aload_n 0, 1) := by decide +kernel
theorem d_Rf_isBad_43 : decode prog_13_method_32_code 43 = .ok (.getfield 197, 3) := by decide +kernel
theorem d_Rf_isBad_46 : decode prog_13_method_32_code 46 = .ok (.iconst 5, 1) := by decide +kernel
theorem d_Rf_isBad_47 : decode prog_13_method_32_code 47 = .ok (.if_icmp .ne 24, 3) := by decide +kernel
theorem d_Rf_isBad_50 : decode prog_13_method_32_code 50 = .ok (.aload_n 0, 1) := by decide +kernel
theorem d_Rf_isBad_51 : decode prog_13_method_32_code 51 = .ok (.getfield 129, 3) := by decide +kernel
theorem d_Rf_isBad_54 : decode prog_13_method_32_code 54 = .ok (.iconst 4, 1) := by decide +kernel
theorem d_Rf_isBad_55 : decode prog_13_method_32_code 55 = .ok (.iaload, 1) := by decide +kernel
theorem d_Rf_isBad_56 : decode prog_13_method_32_code 56 = .ok (.iconst 1, 1) := by decide +kernel
theorem d_Rf_isBad_57 : decode prog_13_method_32_code 57 = .ok (.if_icmp .lt 14, 3) := by decide +kernel
theorem d_Rf_isBad_60 : decode prog_13_method_32_code 60 = .ok (.aload_n 0, 1) := by decide +kernel
theorem d_Rf_isBad_61 : decode prog_13_method_32_code 61 = .ok (.getfield 129, 3) := by decide +kernel
theorem d_Rf_isBad_64 : decode prog_13_method_32_code 64 = .ok (.iconst 4, 1) := by decide +kernel
theorem d_Rf_isBad_65 : decode prog_13_method_32_code 65 = .ok (.iaload, 1) := by decide +kernel
theorem d_Rf_isBad_66 : decode prog_13_method_32_code 66 = .ok (.bipush 9, 2) := by decide +kernel
theorem d_Rf_isBad_68 : decode prog_13_method_32_code 68 = .ok (.if_icmp .le 7, 3) := by decide +kernel
theorem d_Rf_isBad_71 : decode prog_13_method_32_code 71 = .ok (.iconst 1, 1) := by decide +kernel
theorem d_Rf_isBad_72 : decode prog_13_method_32_code 72 = .ok (.goto 4, 3) := by decide +kernel
theorem d_Rf_isBad_75 : decode prog_13_method_32_code 75 = .ok (.iconst 0, 1) := by decide +kernel
theorem d_Rf_isBad_76 : decode prog_13_method_32_code 76 = .ok (.ireturn, 1) := by decide +kernel
theorem d_Rf_isBad_77 : decode prog_13_method_32_code 77 = .ok (.aload_n 0, 1) := by decide +kernel
theorem d_Rf_isBad_78 : decode prog_13_method_32_code 78 = .ok (.getfield 129, 3) := by decide +kernel
theorem d_Rf_isBad_81 : decode prog_13_method_32_code 81 = .ok (.iconst 3, 1) := by decide +kernel
theorem d_Rf_isBad_82 : decode prog_13_method_32_code 82 = .ok (.iaload, 1) := by decide +kernel
theorem d_Rf_isBad_83 : decode prog_13_method_32_code 83 = .ok (.iconst 2, 1) := by decide +kernel
theorem d_Rf_isBad_84 : decode prog_13_method_32_code 84 = .ok (.if_icmp .gt 12, 3) := by decide +kernel
theorem d_Rf_isBad_87 : decode prog_13_method_32_code 87 = .ok (.aload_n 0, 1) := by decide +kernel
theorem d_Rf_isBad_88 : decode prog_13_method_32_code 88 = .ok (.getfield 129, 3) := by decide +kernel
theorem d_Rf_isBad_91 : decode prog_13_method_32_code 91 = .ok (.iconst 4, 1) := by decide +kernel
theorem d_Rf_isBad_92 : decode prog_13_method_32_code 92 = .ok (.iaload, 1) := by decide +kernel
theorem d_Rf_isBad_93 : decode prog_13_method_32_code 93 = .ok (.ifCond .ne 5, 3) := by decide +kernel
theorem d_Rf_isBad_96 : decode prog_13_method_32_code 96 = .ok (.iconst 1, 1) := by decide +kernel
theorem d_Rf_isBad_97 : decode prog_13_method_32_code 97 = .ok (.ireturn, 1) := by decide +kernel
theorem d_Rf_isBad_98 : decode prog_13_method_32_code 98 = .ok (.aload_n 0, 1) := by decide +kernel
theorem d_Rf_isBad_99 : decode prog_13_method_32_code 99 = .ok (.getfield 129, 3) := by decide +kernel
theorem d_Rf_isBad_102 : decode prog_13_method_32_code 102 = .ok (.iconst 2, 1) := by decide +kernel
theorem d_Rf_isBad_103 : decode prog_13_method_32_code 103 = .ok (.iaload, 1) := by decide +kernel
theorem d_Rf_isBad_104 : decode prog_13_method_32_code 104 = .ok (.iconst 1, 1) := by decide +kernel
theorem d_Rf_isBad_105 : decode prog_13_method_32_code 105 = .ok (.if_icmp .ne 46, 3) := by decide +kernel
theorem d_Rf_isBad_108 : decode prog_13_method_32_code 108 = .ok (.aload_n 0, 1) := by decide +kernel
theorem d_Rf_isBad_109 : decode prog_13_method_32_code 109 = .ok (.getfield 197, 3) := by decide +kernel
theorem d_Rf_isBad_112 : decode prog_13_method_32_code 112 = .ok (.bipush 7, 2) := by decide +kernel
theorem d_Rf_isBad_114 : decode prog_13_method_32_code 114 = .ok (.if_icmp .lt 31, 3) := by decide +kernel
theorem d_Rf_isBad_117 : decode prog_13_method_32_code 117 = .ok (.aload_n 0, 1) := by decide +kernel
theorem d_Rf_isBad_118 : decode prog_13_method_32_code 118 = .ok (.getfield 129, 3) := by decide +kernel
theorem d_Rf_isBad_121 : decode prog_13_method_32_code 121 = .ok (.iconst 5, 1) := by decide +kernel
theorem d_Rf_isBad_122 : decode prog_13_method_32_code 122 = .ok (.iaload, 1) := by decide +kernel
theorem d_Rf_isBad_123 : decode prog_13_method_32_code 123 = .ok (.ifCond .eq 22, 3) := by decide +kernel
theorem d_Rf_isBad_126 : decode prog_13_method_32_code 126 = .ok (.aload_n 0, 1) := by decide +kernel
theorem d_Rf_isBad_127 : decode prog_13_method_32_code 127 = .ok (.getfield 129, 3) := by decide +kernel
theorem d_Rf_isBad_130 : decode prog_13_method_32_code 130 = .ok (.bipush 6, 2) := by decide +kernel
theorem d_Rf_isBad_132 : decode prog_13_method_32_code 132 = .ok (.iaload, 1) := by decide +kernel
theorem d_Rf_isBad_133 : decode prog_13_method_32_code 133 = .ok (.aload_n 0, 1) := by decide +kernel
theorem d_Rf_isBad_134 : decode prog_13_method_32_code 134 = .ok (.getfield 129, 3) := by decide +kernel
theorem d_Rf_isBad_137 : decode prog_13_method_32_code 137 = .ok (.iconst 5, 1) := by decide +kernel
theorem d_Rf_isBad_138 : decode prog_13_method_32_code 138 = .ok (.iaload, 1) := by decide +kernel
theorem d_Rf_isBad_139 : decode prog_13_method_32_code 139 = .ok (.iadd, 1) := by decide +kernel
theorem d_Rf_isBad_140 : decode prog_13_method_32_code 140 = .ok (.bipush 100, 2) := by decide +kernel
theorem d_Rf_isBad_142 : decode prog_13_method_32_code 142 = .ok (.if_icmp .le 7, 3) := by decide +kernel
theorem d_Rf_isBad_145 : decode prog_13_method_32_code 145 = .ok (.iconst 1, 1) := by decide +kernel
theorem d_Rf_isBad_146 : decode prog_13_method_32_code 146 = .ok (.goto 4, 3) := by decide +kernel
theorem d_Rf_isBad_149 : decode prog_13_method_32_code 149 = .ok (.iconst 0, 1) := by decide +kernel
theorem d_Rf_isBad_150 : decode prog_13_method_32_code 150 = .ok (.ireturn, 1) := by decide +kernel
theorem d_Rf_isBad_151 : decode prog_13_method_32_code 151 = .ok (.aload_n 0, 1) := by decide +kernel
theorem d_Rf_isBad_152 : decode prog_13_method_32_code 152 = .ok (.getfield 197, 3) := by decide +kernel
theorem d_Rf_isBad_155 : decode prog_13_method_32_code 155 = .ok (.bipush 6, 2) := by decide +kernel
theorem d_Rf_isBad_157 : decode prog_13_method_32_code 157 = .ok (.if_icmp .lt 48, 3) := by decide +kernel
theorem d_Rf_isBad_160 : decode prog_13_method_32_code 160 = .ok (.aload_n 0, 1) := by decide +kernel
theorem d_Rf_isBad_161 : decode prog_13_method_32_code 161 = .ok (.getfield 129, 3) := by decide +kernel
theorem d_Rf_isBad_164 : decode prog_13_method_32_code 164 = .ok (.iconst 5, 1) := by decide +kernel
theorem d_Rf_isBad_165 : decode prog_13_method_32_code 165 = .ok (.iaload, 1) := by decide +kernel
theorem d_Rf_isBad_166 : decode prog_13_method_32_code 166 = .ok (.ifCond .eq 39, 3) := by decide +kernel
theorem d_Rf_isBad_169 : decode prog_13_method_32_code 169 = .ok (.aload_n 0, 1) := by decide +kernel
theorem d_Rf_isBad_170 : decode prog_13_method_32_code 170 = .ok (.getfield 129, 3) := by decide +kernel
theorem d_Rf_isBad_173 : decode prog_13_method_32_code 173 = .ok (.iconst 5, 1) := by decide +kernel
theorem d_Rf_isBad_174 : decode prog_13_method_32_code 174 = .ok (.iaload, 1) := by decide +kernel
theorem d_Rf_isBad_175 : decode prog_13_method_32_code 175 = .ok (.bipush 8, 2) := by decide +kernel
theorem d_Rf_isBad_177 : decode prog_13_method_32_code 177 = .ok (.if_icmp .gt 28, 3) := by decide +kernel
theorem d_Rf_isBad_180 : decode prog_13_method_32_code 180 = .ok (.aload_n 0, 1) := by decide +kernel
theorem d_Rf_isBad_181 : decode prog_13_method_32_code 181 = .ok (.getfield 197, 3) := by decide +kernel
theorem d_Rf_isBad_184 : decode prog_13_method_32_code 184 = .ok (.bipush 6, 2) := by decide +kernel
theorem d_Rf_isBad_186 : decode prog_13_method_32_code 186 = .ok (.iconst 2, 1) := by decide +kernel
theorem d_Rf_isBad_187 : decode prog_13_method_32_code 187 = .ok (.aload_n 0, 1) := by decide +kernel
theorem d_Rf_isBad_188 : decode prog_13_method_32_code 188 = .ok (.getfield 129, 3) := by decide +kernel
theorem d_Rf_isBad_191 : decode prog_13_method_32_code 191 = .ok (.iconst 5, 1) := by decide +kernel
theorem d_Rf_isBad_192 : decode prog_13_method_32_code 192 = .ok (.iaload, 1) := by decide +kernel
theorem d_Rf_isBad_193 : decode prog_13_method_32_code 193 = .ok (.imul, 1) := by decide +kernel
theorem d_Rf_isBad_194 : decode prog_13_method_32_code 194 = .ok (.iadd, 1) := by decide +kernel
theorem d_Rf_isBad_195 : decode prog_13_method_32_code 195 = .ok (.if_icmp .ne 10, 3) := by decide +kernel
theorem d_Rf_isBad_198 : decode prog_13_method_32_code 198 = .ok (.aload_n 0, 1) := by decide +kernel
theorem d_Rf_isBad_199 : decode prog_13_method_32_code 199 = .ok (.invokevirtual 200, 3) := by decide +kernel
theorem d_Rf_isBad_202 : decode prog_13_method_32_code 202 = .ok (.ifCond .eq 7, 3) := by decide +kernel
theorem d_Rf_isBad_205 : decode prog_13_method_32_code 205 = .ok (.iconst 1, 1) := by decide +kernel
theorem d_Rf_isBad_206 : decode prog_13_method_32_code 206 = .ok (.goto 4, 3) := by decide +kernel
theorem d_Rf_isBad_209 : decode prog_13_method_32_code 209 = .ok (.iconst 0, 1) := by decide +kernel
theorem d_Rf_isBad_210 : decode prog_13_method_32_code 210 = .ok (.ireturn, 1) := by decide +kernel
theorem q_Rf_isBad : (⟨"FlowShelfModel", "isBad", "()Z"⟩ : MethodName).cls ≠ "java/lang/invoke/MethodHandle" ∧ (⟨"FlowShelfModel", "isBad", "()Z"⟩ : MethodName).cls ≠ "java/lang/invoke/VarHandle" ∧ (parseMethodDescriptor (⟨"FlowShelfModel", "isBad", "()Z"⟩ : MethodName).desc).map (fun d => d.parameters.length) = some 0 := by decide +kernel
set_option maxHeartbeats 4000000 in
set_option maxRecDepth 100000 in
theorem m_Rf_isBad (X : fs_X) (l : Launch) (a0 : Nat) {r : Int32} {σ σF : fs_S} (h : (f_Rf_isBad a0).1 σ = some (r, σF)) : fs_Met X l ⟨"FlowShelfModel", "isBad", "()Z"⟩ (Cond.code ⟨"FlowShelfModel", "isBad", "()Z"⟩ prog_13_method_32_code 1 (some FieldType.boolean)) 1 24 [.ref a0] σ (fs_eI r) σF := by
  refine fs_ofW (by decide) ?_
  intro p e s m args below meth c s₁ B hml hT hv
  obtain ⟨rfl, hw0, hG⟩ := hv
  have hx := B.exec
  have hb := B.bytes
  have hr := B.returns
  have hk := B.notSynchronized
  have S : CallFix p m c prog_13_method_32_code 1 s _ fs_ws "FlowShelfModel" := ⟨B.exec, B.bytes, hml, findClass_of_methodNamed B.named, fun w hw => atoms_spec (ws := _ :: fs_ws) B.pre w (List.mem_cons_of_mem _ hw)⟩
  have hR := fs_hR (fr := 1) (lo := 24) ((f_Rf_isBad a0).2 _ _ _ h)
  have hl := lv_entry ([.ref a0]) (n := 1) (Nat.le_of_ble_eq_true rfl)
  rw [lg_entry_eq]
  generalize (lg_sl ([.ref a0]) ++ List.replicate (1 - (lg_sl ([.ref a0])).length) Slot.unset).toArray = ls at hl ⊢
  have hl : lv_has ls 1 [(0, .ref a0)] := hl
  refine (?_ : fs_J X p l e (fs_rm 1 24 σ σF) s m _ below meth c (fs_Q X below _ s (fs_eI r) σ σF) r σ σF (f_Rf_isBad a0) (F0 m 0 ls [])) σ s.heap [] 0 0 h hw0 va_S.rf rfl rfl
  clear h hw0
  unfold f_Rf_isBad
  refine fs_lift (fun _ _ _ _ => lv_aload_n hx hb d_Rf_isBad_0 rfl (lv_at hl 0 rfl)) ?_
  refine fs_Jgr S hG fs_in12 rfl 46 (Nat.le_of_ble_eq_true rfl) tw_5_238 (fun _ h9 => h9) d_Rf_isBad_1 (fun r1 => ?_)
  refine fs_lift (fun _ _ _ _ => lv_iconst (v := 0) hx hb d_Rf_isBad_4 (by decide)) ?_
  refine fs_Jai S hG d_Rf_isBad_5 (fun v2 => ?_)
  refine fs_lift (fun _ _ _ _ => lv_iconst (v := 1) hx hb d_Rf_isBad_6 (by decide)) ?_
  refine fs_if (fun _ _ _ _ => lv_icmp_gt hx hb d_Rf_isBad_7 rfl) ?_ ?_
  · refine fs_lift (fun _ _ _ _ => lv_iconst (v := 1) hx hb d_Rf_isBad_30 (by decide)) ?_
    exact fs_Jzret S hr hk rfl d_Rf_isBad_31
  · refine fs_lift (fun _ _ _ _ => lv_aload_n hx hb d_Rf_isBad_10 rfl (lv_at hl 0 rfl)) ?_
    refine fs_Jgr S hG fs_in12 rfl 46 (Nat.le_of_ble_eq_true rfl) tw_5_238 (fun _ h9 => h9) d_Rf_isBad_11 (fun r3 => ?_)
    refine fs_lift (fun _ _ _ _ => lv_iconst (v := 1) hx hb d_Rf_isBad_14 (by decide)) ?_
    refine fs_Jai S hG d_Rf_isBad_15 (fun v4 => ?_)
    refine fs_lift (fun _ _ _ _ => lv_iconst (v := 5) hx hb d_Rf_isBad_16 (by decide)) ?_
    refine fs_if (fun _ _ _ _ => lv_icmp_gt hx hb d_Rf_isBad_17 rfl) ?_ ?_
    · refine fs_lift (fun _ _ _ _ => lv_iconst (v := 1) hx hb d_Rf_isBad_30 (by decide)) ?_
      exact fs_Jzret S hr hk rfl d_Rf_isBad_31
    · refine fs_lift (fun _ _ _ _ => lv_aload_n hx hb d_Rf_isBad_20 rfl (lv_at hl 0 rfl)) ?_
      refine fs_Jgr S hG fs_in12 rfl 46 (Nat.le_of_ble_eq_true rfl) tw_5_238 (fun _ h9 => h9) d_Rf_isBad_21 (fun r5 => ?_)
      refine fs_lift (fun _ _ _ _ => lv_iconst (v := 2) hx hb d_Rf_isBad_24 (by decide)) ?_
      refine fs_Jai S hG d_Rf_isBad_25 (fun v6 => ?_)
      refine fs_lift (fun _ _ _ _ => lv_iconst (v := 2) hx hb d_Rf_isBad_26 (by decide)) ?_
      refine fs_if (fun _ _ _ _ => lv_icmp_le hx hb d_Rf_isBad_27 rfl) ?_ ?_
      · refine fs_lift (fun _ _ _ _ => lv_aload_n hx hb d_Rf_isBad_32 rfl (lv_at hl 0 rfl)) ?_
        refine fs_Jgr S hG fs_in12 rfl 46 (Nat.le_of_ble_eq_true rfl) tw_5_238 (fun _ h9 => h9) d_Rf_isBad_33 (fun r7 => ?_)
        refine fs_lift (fun _ _ _ _ => lv_iconst (v := 2) hx hb d_Rf_isBad_36 (by decide)) ?_
        refine fs_Jai S hG d_Rf_isBad_37 (fun v8 => ?_)
        refine fs_lift (fun _ _ _ _ => lv_iconst (v := 2) hx hb d_Rf_isBad_38 (by decide)) ?_
        refine fs_ifn (fun _ _ _ _ => lv_icmp_ne hx hb d_Rf_isBad_39 rfl) ?_ ?_
        · refine fs_lift (fun _ _ _ _ => lv_aload_n hx hb d_Rf_isBad_42 rfl (lv_at hl 0 rfl)) ?_
          refine fs_Jgi S hG fs_in12 rfl 45 (Nat.le_of_ble_eq_true rfl) tw_5_237 (fun _ h9 => h9) d_Rf_isBad_43 (fun v31 => ?_)
          refine fs_lift (fun _ _ _ _ => lv_iconst (v := 5) hx hb d_Rf_isBad_46 (by decide)) ?_
          refine fs_ifn (fun _ _ _ _ => lv_icmp_ne hx hb d_Rf_isBad_47 rfl) ?_ ?_
          · refine fs_lift (fun _ _ _ _ => lv_aload_n hx hb d_Rf_isBad_50 rfl (lv_at hl 0 rfl)) ?_
            refine fs_Jgr S hG fs_in12 rfl 46 (Nat.le_of_ble_eq_true rfl) tw_5_238 (fun _ h9 => h9) d_Rf_isBad_51 (fun r32 => ?_)
            refine fs_lift (fun _ _ _ _ => lv_iconst (v := 4) hx hb d_Rf_isBad_54 (by decide)) ?_
            refine fs_Jai S hG d_Rf_isBad_55 (fun v33 => ?_)
            refine fs_lift (fun _ _ _ _ => lv_iconst (v := 1) hx hb d_Rf_isBad_56 (by decide)) ?_
            refine fs_if (fun _ _ _ _ => lv_icmp_lt hx hb d_Rf_isBad_57 rfl) ?_ ?_
            · refine fs_lift (fun _ _ _ _ => lv_iconst (v := 1) hx hb d_Rf_isBad_71 (by decide)) ?_
              refine fs_lift (fun _ _ _ _ => lv_goto hx hb d_Rf_isBad_72 rfl) ?_
              exact fs_Jzret S hr hk rfl d_Rf_isBad_76
            · refine fs_lift (fun _ _ _ _ => lv_aload_n hx hb d_Rf_isBad_60 rfl (lv_at hl 0 rfl)) ?_
              refine fs_Jgr S hG fs_in12 rfl 46 (Nat.le_of_ble_eq_true rfl) tw_5_238 (fun _ h9 => h9) d_Rf_isBad_61 (fun r34 => ?_)
              refine fs_lift (fun _ _ _ _ => lv_iconst (v := 4) hx hb d_Rf_isBad_64 (by decide)) ?_
              refine fs_Jai S hG d_Rf_isBad_65 (fun v35 => ?_)
              refine fs_lift (fun _ _ _ _ => lv_bipush (v := 9) hx hb d_Rf_isBad_66 (by decide)) ?_
              refine fs_if (fun _ _ _ _ => lv_icmp_le hx hb d_Rf_isBad_68 rfl) ?_ ?_
              · refine fs_lift (fun _ _ _ _ => lv_iconst (v := 0) hx hb d_Rf_isBad_75 (by decide)) ?_
                exact fs_Jzret S hr hk rfl d_Rf_isBad_76
              · refine fs_lift (fun _ _ _ _ => lv_iconst (v := 1) hx hb d_Rf_isBad_71 (by decide)) ?_
                refine fs_lift (fun _ _ _ _ => lv_goto hx hb d_Rf_isBad_72 rfl) ?_
                exact fs_Jzret S hr hk rfl d_Rf_isBad_76
          · refine fs_lift (fun _ _ _ _ => lv_iconst (v := 1) hx hb d_Rf_isBad_71 (by decide)) ?_
            refine fs_lift (fun _ _ _ _ => lv_goto hx hb d_Rf_isBad_72 rfl) ?_
            exact fs_Jzret S hr hk rfl d_Rf_isBad_76
        · refine fs_lift (fun _ _ _ _ => lv_aload_n hx hb d_Rf_isBad_77 rfl (lv_at hl 0 rfl)) ?_
          refine fs_Jgr S hG fs_in12 rfl 46 (Nat.le_of_ble_eq_true rfl) tw_5_238 (fun _ h9 => h9) d_Rf_isBad_78 (fun r9 => ?_)
          refine fs_lift (fun _ _ _ _ => lv_iconst (v := 3) hx hb d_Rf_isBad_81 (by decide)) ?_
          refine fs_Jai S hG d_Rf_isBad_82 (fun v10 => ?_)
          refine fs_lift (fun _ _ _ _ => lv_iconst (v := 2) hx hb d_Rf_isBad_83 (by decide)) ?_
          refine fs_if (fun _ _ _ _ => lv_icmp_gt hx hb d_Rf_isBad_84 rfl) ?_ ?_
          · refine fs_lift (fun _ _ _ _ => lv_iconst (v := 1) hx hb d_Rf_isBad_96 (by decide)) ?_
            exact fs_Jzret S hr hk rfl d_Rf_isBad_97
          · refine fs_lift (fun _ _ _ _ => lv_aload_n hx hb d_Rf_isBad_87 rfl (lv_at hl 0 rfl)) ?_
            refine fs_Jgr S hG fs_in12 rfl 46 (Nat.le_of_ble_eq_true rfl) tw_5_238 (fun _ h9 => h9) d_Rf_isBad_88 (fun r11 => ?_)
            refine fs_lift (fun _ _ _ _ => lv_iconst (v := 4) hx hb d_Rf_isBad_91 (by decide)) ?_
            refine fs_Jai S hG d_Rf_isBad_92 (fun v12 => ?_)
            refine fs_ifn (fun _ _ _ _ => lv_if_ne hx hb d_Rf_isBad_93 rfl) ?_ ?_
            · refine fs_lift (fun _ _ _ _ => lv_iconst (v := 1) hx hb d_Rf_isBad_96 (by decide)) ?_
              exact fs_Jzret S hr hk rfl d_Rf_isBad_97
            · refine fs_lift (fun _ _ _ _ => lv_aload_n hx hb d_Rf_isBad_98 rfl (lv_at hl 0 rfl)) ?_
              refine fs_Jgr S hG fs_in12 rfl 46 (Nat.le_of_ble_eq_true rfl) tw_5_238 (fun _ h9 => h9) d_Rf_isBad_99 (fun r13 => ?_)
              refine fs_lift (fun _ _ _ _ => lv_iconst (v := 2) hx hb d_Rf_isBad_102 (by decide)) ?_
              refine fs_Jai S hG d_Rf_isBad_103 (fun v14 => ?_)
              refine fs_lift (fun _ _ _ _ => lv_iconst (v := 1) hx hb d_Rf_isBad_104 (by decide)) ?_
              refine fs_ifn (fun _ _ _ _ => lv_icmp_ne hx hb d_Rf_isBad_105 rfl) ?_ ?_
              · refine fs_lift (fun _ _ _ _ => lv_aload_n hx hb d_Rf_isBad_108 rfl (lv_at hl 0 rfl)) ?_
                refine fs_Jgi S hG fs_in12 rfl 45 (Nat.le_of_ble_eq_true rfl) tw_5_237 (fun _ h9 => h9) d_Rf_isBad_109 (fun v24 => ?_)
                refine fs_lift (fun _ _ _ _ => lv_bipush (v := 7) hx hb d_Rf_isBad_112 (by decide)) ?_
                refine fs_if (fun _ _ _ _ => lv_icmp_lt hx hb d_Rf_isBad_114 rfl) ?_ ?_
                · refine fs_lift (fun _ _ _ _ => lv_iconst (v := 1) hx hb d_Rf_isBad_145 (by decide)) ?_
                  refine fs_lift (fun _ _ _ _ => lv_goto hx hb d_Rf_isBad_146 rfl) ?_
                  exact fs_Jzret S hr hk rfl d_Rf_isBad_150
                · refine fs_lift (fun _ _ _ _ => lv_aload_n hx hb d_Rf_isBad_117 rfl (lv_at hl 0 rfl)) ?_
                  refine fs_Jgr S hG fs_in12 rfl 46 (Nat.le_of_ble_eq_true rfl) tw_5_238 (fun _ h9 => h9) d_Rf_isBad_118 (fun r25 => ?_)
                  refine fs_lift (fun _ _ _ _ => lv_iconst (v := 5) hx hb d_Rf_isBad_121 (by decide)) ?_
                  refine fs_Jai S hG d_Rf_isBad_122 (fun v26 => ?_)
                  refine fs_if (fun _ _ _ _ => lv_if_eq hx hb d_Rf_isBad_123 rfl) ?_ ?_
                  · refine fs_lift (fun _ _ _ _ => lv_iconst (v := 1) hx hb d_Rf_isBad_145 (by decide)) ?_
                    refine fs_lift (fun _ _ _ _ => lv_goto hx hb d_Rf_isBad_146 rfl) ?_
                    exact fs_Jzret S hr hk rfl d_Rf_isBad_150
                  · refine fs_lift (fun _ _ _ _ => lv_aload_n hx hb d_Rf_isBad_126 rfl (lv_at hl 0 rfl)) ?_
                    refine fs_Jgr S hG fs_in12 rfl 46 (Nat.le_of_ble_eq_true rfl) tw_5_238 (fun _ h9 => h9) d_Rf_isBad_127 (fun r27 => ?_)
                    refine fs_lift (fun _ _ _ _ => lv_bipush (v := 6) hx hb d_Rf_isBad_130 (by decide)) ?_
                    refine fs_Jai S hG d_Rf_isBad_132 (fun v28 => ?_)
                    refine fs_lift (fun _ _ _ _ => lv_aload_n hx hb d_Rf_isBad_133 rfl (lv_at hl 0 rfl)) ?_
                    refine fs_Jgr S hG fs_in12 rfl 46 (Nat.le_of_ble_eq_true rfl) tw_5_238 (fun _ h9 => h9) d_Rf_isBad_134 (fun r29 => ?_)
                    refine fs_lift (fun _ _ _ _ => lv_iconst (v := 5) hx hb d_Rf_isBad_137 (by decide)) ?_
                    refine fs_Jai S hG d_Rf_isBad_138 (fun v30 => ?_)
                    refine fs_lift (fun _ _ _ _ => lv_iadd hx hb d_Rf_isBad_139) ?_
                    refine fs_lift (fun _ _ _ _ => lv_bipush (v := 100) hx hb d_Rf_isBad_140 (by decide)) ?_
                    refine fs_if (fun _ _ _ _ => lv_icmp_le hx hb d_Rf_isBad_142 rfl) ?_ ?_
                    · refine fs_lift (fun _ _ _ _ => lv_iconst (v := 0) hx hb d_Rf_isBad_149 (by decide)) ?_
                      exact fs_Jzret S hr hk rfl d_Rf_isBad_150
                    · refine fs_lift (fun _ _ _ _ => lv_iconst (v := 1) hx hb d_Rf_isBad_145 (by decide)) ?_
                      refine fs_lift (fun _ _ _ _ => lv_goto hx hb d_Rf_isBad_146 rfl) ?_
                      exact fs_Jzret S hr hk rfl d_Rf_isBad_150
              · refine fs_lift (fun _ _ _ _ => lv_aload_n hx hb d_Rf_isBad_151 rfl (lv_at hl 0 rfl)) ?_
                refine fs_Jgi S hG fs_in12 rfl 45 (Nat.le_of_ble_eq_true rfl) tw_5_237 (fun _ h9 => h9) d_Rf_isBad_152 (fun v15 => ?_)
                refine fs_lift (fun _ _ _ _ => lv_bipush (v := 6) hx hb d_Rf_isBad_155 (by decide)) ?_
                refine fs_if (fun _ _ _ _ => lv_icmp_lt hx hb d_Rf_isBad_157 rfl) ?_ ?_
                · refine fs_lift (fun _ _ _ _ => lv_iconst (v := 1) hx hb d_Rf_isBad_205 (by decide)) ?_
                  refine fs_lift (fun _ _ _ _ => lv_goto hx hb d_Rf_isBad_206 rfl) ?_
                  exact fs_Jzret S hr hk rfl d_Rf_isBad_210
                · refine fs_lift (fun _ _ _ _ => lv_aload_n hx hb d_Rf_isBad_160 rfl (lv_at hl 0 rfl)) ?_
                  refine fs_Jgr S hG fs_in12 rfl 46 (Nat.le_of_ble_eq_true rfl) tw_5_238 (fun _ h9 => h9) d_Rf_isBad_161 (fun r16 => ?_)
                  refine fs_lift (fun _ _ _ _ => lv_iconst (v := 5) hx hb d_Rf_isBad_164 (by decide)) ?_
                  refine fs_Jai S hG d_Rf_isBad_165 (fun v17 => ?_)
                  refine fs_if (fun _ _ _ _ => lv_if_eq hx hb d_Rf_isBad_166 rfl) ?_ ?_
                  · refine fs_lift (fun _ _ _ _ => lv_iconst (v := 1) hx hb d_Rf_isBad_205 (by decide)) ?_
                    refine fs_lift (fun _ _ _ _ => lv_goto hx hb d_Rf_isBad_206 rfl) ?_
                    exact fs_Jzret S hr hk rfl d_Rf_isBad_210
                  · refine fs_lift (fun _ _ _ _ => lv_aload_n hx hb d_Rf_isBad_169 rfl (lv_at hl 0 rfl)) ?_
                    refine fs_Jgr S hG fs_in12 rfl 46 (Nat.le_of_ble_eq_true rfl) tw_5_238 (fun _ h9 => h9) d_Rf_isBad_170 (fun r18 => ?_)
                    refine fs_lift (fun _ _ _ _ => lv_iconst (v := 5) hx hb d_Rf_isBad_173 (by decide)) ?_
                    refine fs_Jai S hG d_Rf_isBad_174 (fun v19 => ?_)
                    refine fs_lift (fun _ _ _ _ => lv_bipush (v := 8) hx hb d_Rf_isBad_175 (by decide)) ?_
                    refine fs_if (fun _ _ _ _ => lv_icmp_gt hx hb d_Rf_isBad_177 rfl) ?_ ?_
                    · refine fs_lift (fun _ _ _ _ => lv_iconst (v := 1) hx hb d_Rf_isBad_205 (by decide)) ?_
                      refine fs_lift (fun _ _ _ _ => lv_goto hx hb d_Rf_isBad_206 rfl) ?_
                      exact fs_Jzret S hr hk rfl d_Rf_isBad_210
                    · refine fs_lift (fun _ _ _ _ => lv_aload_n hx hb d_Rf_isBad_180 rfl (lv_at hl 0 rfl)) ?_
                      refine fs_Jgi S hG fs_in12 rfl 45 (Nat.le_of_ble_eq_true rfl) tw_5_237 (fun _ h9 => h9) d_Rf_isBad_181 (fun v20 => ?_)
                      refine fs_lift (fun _ _ _ _ => lv_bipush (v := 6) hx hb d_Rf_isBad_184 (by decide)) ?_
                      refine fs_lift (fun _ _ _ _ => lv_iconst (v := 2) hx hb d_Rf_isBad_186 (by decide)) ?_
                      refine fs_lift (fun _ _ _ _ => lv_aload_n hx hb d_Rf_isBad_187 rfl (lv_at hl 0 rfl)) ?_
                      refine fs_Jgr S hG fs_in12 rfl 46 (Nat.le_of_ble_eq_true rfl) tw_5_238 (fun _ h9 => h9) d_Rf_isBad_188 (fun r21 => ?_)
                      refine fs_lift (fun _ _ _ _ => lv_iconst (v := 5) hx hb d_Rf_isBad_191 (by decide)) ?_
                      refine fs_Jai S hG d_Rf_isBad_192 (fun v22 => ?_)
                      refine fs_lift (fun _ _ _ _ => lv_imul hx hb d_Rf_isBad_193) ?_
                      refine fs_lift (fun _ _ _ _ => lv_iadd hx hb d_Rf_isBad_194) ?_
                      refine fs_ifn (fun _ _ _ _ => lv_icmp_ne hx hb d_Rf_isBad_195 rfl) ?_ ?_
                      · refine fs_lift (fun _ _ _ _ => lv_aload_n hx hb d_Rf_isBad_198 rfl (lv_at hl 0 rfl)) ?_
                        refine fs_JV S hG hR rfl [] (enc := fun r => some (.int r)) (fun zr zs zt zh => m_Rf_badFields X l a0 zh) tw_6_229 tw_6_231 tp_2_11 tw_6_232 tw_1_11 q_Rf_badFields ⟨(Nat.le_of_ble_eq_true rfl), (Nat.le_of_ble_eq_true rfl)⟩ hl.1 rfl (Nat.le_of_ble_eq_true rfl) d_Rf_isBad_199 (fun v23 => ?_)
                        refine fs_Jeq (g2 := F0 m 202 ls [.int v23]) rfl ?_
                        refine fs_if (fun _ _ _ _ => lv_if_eq hx hb d_Rf_isBad_202 rfl) ?_ ?_
                        · refine fs_lift (fun _ _ _ _ => lv_iconst (v := 0) hx hb d_Rf_isBad_209 (by decide)) ?_
                          exact fs_Jzret S hr hk rfl d_Rf_isBad_210
                        · refine fs_lift (fun _ _ _ _ => lv_iconst (v := 1) hx hb d_Rf_isBad_205 (by decide)) ?_
                          refine fs_lift (fun _ _ _ _ => lv_goto hx hb d_Rf_isBad_206 rfl) ?_
                          exact fs_Jzret S hr hk rfl d_Rf_isBad_210
                      · refine fs_lift (fun _ _ _ _ => lv_iconst (v := 1) hx hb d_Rf_isBad_205 (by decide)) ?_
                        refine fs_lift (fun _ _ _ _ => lv_goto hx hb d_Rf_isBad_206 rfl) ?_
                        exact fs_Jzret S hr hk rfl d_Rf_isBad_210
      · refine fs_lift (fun _ _ _ _ => lv_iconst (v := 1) hx hb d_Rf_isBad_30 (by decide)) ?_
        exact fs_Jzret S hr hk rfl d_Rf_isBad_31

theorem d_Rf_nameOf_0 : decode prog_13_method_33_code 0 = .ok (.aload_n 0, 1) := by decide +kernel
theorem d_Rf_nameOf_1 : decode prog_13_method_33_code 1 = .ok (.getfield 129, 3) := by decide +kernel
theorem d_Rf_nameOf_4 : decode prog_13_method_33_code 4 = .ok (.iconst 0, 1) := by decide +kernel
theorem d_Rf_nameOf_5 : decode prog_13_method_33_code 5 = .ok (.iaload, 1) := by decide +kernel
theorem d_Rf_nameOf_6 : decode prog_13_method_33_code 6 = .ok (.bipush 24, 2) := by decide +kernel
theorem d_Rf_nameOf_8 : decode prog_13_method_33_code 8 = .ok (.ishl, 1) := by decide +kernel
theorem d_Rf_nameOf_9 : decode prog_13_method_33_code 9 = .ok (.aload_n 0, 1) := by decide +kernel
theorem d_Rf_nameOf_10 : decode prog_13_method_33_code 10 = .ok (.getfield 129, 3) := by decide +kernel
theorem d_Rf_nameOf_13 : decode prog_13_method_33_code 13 = .ok (.iconst 1, 1) := by decide +kernel
theorem d_Rf_nameOf_14 : decode prog_13_method_33_code 14 = .ok (.iaload, 1) := by decide +kernel
theorem d_Rf_nameOf_15 : decode prog_13_method_33_code 15 = .ok (.bipush 16, 2) := by decide +kernel
theorem d_Rf_nameOf_17 : decode prog_13_method_33_code 17 = .ok (.ishl, 1) := by decide +kernel
theorem d_Rf_nameOf_18 : decode prog_13_method_33_code 18 = .ok (.ior, 1) := by decide +kernel
theorem d_Rf_nameOf_19 : decode prog_13_method_33_code 19 = .ok (.aload_n 0, 1) := by decide +kernel
theorem d_Rf_nameOf_20 : decode prog_13_method_33_code 20 = .ok (.getfield 129, 3) := by decide +kernel
theorem d_Rf_nameOf_23 : decode prog_13_method_33_code 23 = .ok (.iconst 3, 1) := by decide +kernel
theorem d_Rf_nameOf_24 : decode prog_13_method_33_code 24 = .ok (.iaload, 1) := by decide +kernel
theorem d_Rf_nameOf_25 : decode prog_13_method_33_code 25 = .ok (.bipush 8, 2) := by decide +kernel
theorem d_Rf_nameOf_27 : decode prog_13_method_33_code 27 = .ok (.ishl, 1) := by decide +kernel
theorem d_Rf_nameOf_28 : decode prog_13_method_33_code 28 = .ok (.ior, 1) := by decide +kernel
theorem d_Rf_nameOf_29 : decode prog_13_method_33_code 29 = .ok (.aload_n 0, 1) := by decide +kernel
theorem d_Rf_nameOf_30 : decode prog_13_method_33_code 30 = .ok (.getfield 129, 3) := by decide +kernel
theorem d_Rf_nameOf_33 : decode prog_13_method_33_code 33 = .ok (.iconst 4, 1) := by decide +kernel
theorem d_Rf_nameOf_34 : decode prog_13_method_33_code 34 = .ok (.iaload, 1) := by decide +kernel
theorem d_Rf_nameOf_35 : decode prog_13_method_33_code 35 = .ok (.ior, 1) := by decide +kernel
theorem d_Rf_nameOf_36 : decode prog_13_method_33_code 36 = .ok (.ireturn, 1) := by decide +kernel
theorem q_Rf_nameOf : (⟨"FlowShelfModel", "nameOf", "()I"⟩ : MethodName).cls ≠ "java/lang/invoke/MethodHandle" ∧ (⟨"FlowShelfModel", "nameOf", "()I"⟩ : MethodName).cls ≠ "java/lang/invoke/VarHandle" ∧ (parseMethodDescriptor (⟨"FlowShelfModel", "nameOf", "()I"⟩ : MethodName).desc).map (fun d => d.parameters.length) = some 0 := by decide +kernel
set_option maxHeartbeats 4000000 in
set_option maxRecDepth 100000 in
theorem m_Rf_nameOf (X : fs_X) (l : Launch) (a0 : Nat) {r : Int32} {σ σF : fs_S} (h : (f_Rf_nameOf a0).1 σ = some (r, σF)) : fs_Met X l ⟨"FlowShelfModel", "nameOf", "()I"⟩ (Cond.code ⟨"FlowShelfModel", "nameOf", "()I"⟩ prog_13_method_33_code 1 (some FieldType.int)) 0 0 [.ref a0] σ (fs_eI r) σF := by
  refine fs_ofW (by decide) ?_
  intro p e s m args below meth c s₁ B hml hT hv
  obtain ⟨rfl, hw0, hG⟩ := hv
  have hx := B.exec
  have hb := B.bytes
  have hr := B.returns
  have hk := B.notSynchronized
  have S : CallFix p m c prog_13_method_33_code 1 s _ fs_ws "FlowShelfModel" := ⟨B.exec, B.bytes, hml, findClass_of_methodNamed B.named, fun w hw => atoms_spec (ws := _ :: fs_ws) B.pre w (List.mem_cons_of_mem _ hw)⟩
  have hR := fs_hR (fr := 0) (lo := 0) ((f_Rf_nameOf a0).2 _ _ _ h)
  have hl := lv_entry ([.ref a0]) (n := 1) (Nat.le_of_ble_eq_true rfl)
  rw [lg_entry_eq]
  generalize (lg_sl ([.ref a0]) ++ List.replicate (1 - (lg_sl ([.ref a0])).length) Slot.unset).toArray = ls at hl ⊢
  have hl : lv_has ls 1 [(0, .ref a0)] := hl
  refine (?_ : fs_J X p l e (fs_rm 0 0 σ σF) s m _ below meth c (fs_Q X below _ s (fs_eI r) σ σF) r σ σF (f_Rf_nameOf a0) (F0 m 0 ls [])) σ s.heap [] 0 0 h hw0 va_S.rf rfl rfl
  clear h hw0
  unfold f_Rf_nameOf
  refine fs_lift (fun _ _ _ _ => lv_aload_n hx hb d_Rf_nameOf_0 rfl (lv_at hl 0 rfl)) ?_
  refine fs_Jgr S hG fs_in12 rfl 46 (Nat.le_of_ble_eq_true rfl) tw_5_238 (fun _ h9 => h9) d_Rf_nameOf_1 (fun r1 => ?_)
  refine fs_lift (fun _ _ _ _ => lv_iconst (v := 0) hx hb d_Rf_nameOf_4 (by decide)) ?_
  refine fs_Jai S hG d_Rf_nameOf_5 (fun v2 => ?_)
  refine fs_lift (fun _ _ _ _ => lv_bipush (v := 24) hx hb d_Rf_nameOf_6 (by decide)) ?_
  refine fs_lift (fun _ _ _ _ => lv_ishl hx hb d_Rf_nameOf_8) ?_
  refine fs_lift (fun _ _ _ _ => lv_aload_n hx hb d_Rf_nameOf_9 rfl (lv_at hl 0 rfl)) ?_
  refine fs_Jgr S hG fs_in12 rfl 46 (Nat.le_of_ble_eq_true rfl) tw_5_238 (fun _ h9 => h9) d_Rf_nameOf_10 (fun r3 => ?_)
  refine fs_lift (fun _ _ _ _ => lv_iconst (v := 1) hx hb d_Rf_nameOf_13 (by decide)) ?_
  refine fs_Jai S hG d_Rf_nameOf_14 (fun v4 => ?_)
  refine fs_lift (fun _ _ _ _ => lv_bipush (v := 16) hx hb d_Rf_nameOf_15 (by decide)) ?_
  refine fs_lift (fun _ _ _ _ => lv_ishl hx hb d_Rf_nameOf_17) ?_
  refine fs_lift (fun _ _ _ _ => lv_ior hx hb d_Rf_nameOf_18) ?_
  refine fs_lift (fun _ _ _ _ => lv_aload_n hx hb d_Rf_nameOf_19 rfl (lv_at hl 0 rfl)) ?_
  refine fs_Jgr S hG fs_in12 rfl 46 (Nat.le_of_ble_eq_true rfl) tw_5_238 (fun _ h9 => h9) d_Rf_nameOf_20 (fun r5 => ?_)
  refine fs_lift (fun _ _ _ _ => lv_iconst (v := 3) hx hb d_Rf_nameOf_23 (by decide)) ?_
  refine fs_Jai S hG d_Rf_nameOf_24 (fun v6 => ?_)
  refine fs_lift (fun _ _ _ _ => lv_bipush (v := 8) hx hb d_Rf_nameOf_25 (by decide)) ?_
  refine fs_lift (fun _ _ _ _ => lv_ishl hx hb d_Rf_nameOf_27) ?_
  refine fs_lift (fun _ _ _ _ => lv_ior hx hb d_Rf_nameOf_28) ?_
  refine fs_lift (fun _ _ _ _ => lv_aload_n hx hb d_Rf_nameOf_29 rfl (lv_at hl 0 rfl)) ?_
  refine fs_Jgr S hG fs_in12 rfl 46 (Nat.le_of_ble_eq_true rfl) tw_5_238 (fun _ h9 => h9) d_Rf_nameOf_30 (fun r7 => ?_)
  refine fs_lift (fun _ _ _ _ => lv_iconst (v := 4) hx hb d_Rf_nameOf_33 (by decide)) ?_
  refine fs_Jai S hG d_Rf_nameOf_34 (fun v8 => ?_)
  refine fs_lift (fun _ _ _ _ => lv_ior hx hb d_Rf_nameOf_35) ?_
  exact fs_Jiret S hr hk rfl d_Rf_nameOf_36

theorem d_Rf_find_0 : decode prog_13_method_34_code 0 = .ok (.iconst 0, 1) := by decide +kernel
theorem d_Rf_find_1 : decode prog_13_method_34_code 1 = .ok (.istore_n 2, 1) := by decide +kernel
theorem d_Rf_find_2 : decode prog_13_method_34_code 2 = .ok (.iload_n 2, 1) := by decide +kernel
theorem d_Rf_find_3 : decode prog_13_method_34_code 3 = .ok (.aload_n 0, 1) := by decide +kernel
theorem d_Rf_find_4 : decode prog_13_method_34_code 4 = .ok (.getfield 204, 3) := by decide +kernel
theorem d_Rf_find_7 : decode prog_13_method_34_code 7 = .ok (.if_icmp .ge 21, 3) := by decide +kernel
theorem d_Rf_find_10 : decode prog_13_method_34_code 10 = .ok (.aload_n 0, 1) := by decide +kernel
theorem d_Rf_find_11 : decode prog_13_method_34_code 11 = .ok (.getfield 85, 3) := by decide +kernel
theorem d_Rf_find_14 : decode prog_13_method_34_code 14 = .ok (.iload_n 2, 1) := by decide +kernel
theorem d_Rf_find_15 : decode prog_13_method_34_code 15 = .ok (.iaload, 1) := by decide +kernel
theorem d_Rf_find_16 : decode prog_13_method_34_code 16 = .ok (.iload_n 1, 1) := by decide +kernel
theorem d_Rf_find_17 : decode prog_13_method_34_code 17 = .ok (.if_icmp .ne 5, 3) := by decide +kernel
theorem d_Rf_find_20 : decode prog_13_method_34_code 20 = .ok (.iload_n 2, 1) := by decide +kernel
theorem d_Rf_find_21 : decode prog_13_method_34_code 21 = .ok (.ireturn, 1) := by decide +kernel
theorem d_Rf_find_22 : decode prog_13_method_34_code 22 = .ok (.iinc 2 1, 3) := by decide +kernel
theorem d_Rf_find_25 : decode prog_13_method_34_code 25 = .ok (.goto (-23), 3) := by decide +kernel
theorem d_Rf_find_28 : decode prog_13_method_34_code 28 = .ok (.iconst (-1), 1) := by decide +kernel
theorem d_Rf_find_29 : decode prog_13_method_34_code 29 = .ok (.ireturn, 1) := by decide +kernel
theorem q_Rf_find : (⟨"FlowShelfModel", "find", "(I)I"⟩ : MethodName).cls ≠ "java/lang/invoke/MethodHandle" ∧ (⟨"FlowShelfModel", "find", "(I)I"⟩ : MethodName).cls ≠ "java/lang/invoke/VarHandle" ∧ (parseMethodDescriptor (⟨"FlowShelfModel", "find", "(I)I"⟩ : MethodName).desc).map (fun d => d.parameters.length) = some 1 := by decide +kernel
set_option maxHeartbeats 4000000 in
set_option maxRecDepth 100000 in
theorem m_Rf_find (X : fs_X) (l : Launch) (a0 : Nat) (x1 : Int32) {r : Int32} {σ σF : fs_S} (h : (f_Rf_find a0 x1).1 σ = some (r, σF)) : fs_Met X l ⟨"FlowShelfModel", "find", "(I)I"⟩ (Cond.code ⟨"FlowShelfModel", "find", "(I)I"⟩ prog_13_method_34_code 3 (some FieldType.int)) 0 0 [.ref a0, .int x1] σ (fs_eI r) σF := by
  refine fs_ofW (by decide) ?_
  intro p e s m args below meth c s₁ B hml hT hv
  obtain ⟨rfl, hw0, hG⟩ := hv
  have hx := B.exec
  have hb := B.bytes
  have hr := B.returns
  have hk := B.notSynchronized
  have S : CallFix p m c prog_13_method_34_code 3 s _ fs_ws "FlowShelfModel" := ⟨B.exec, B.bytes, hml, findClass_of_methodNamed B.named, fun w hw => atoms_spec (ws := _ :: fs_ws) B.pre w (List.mem_cons_of_mem _ hw)⟩
  have hR := fs_hR (fr := 0) (lo := 0) ((f_Rf_find a0 x1).2 _ _ _ h)
  have hl := lv_entry ([.ref a0, .int x1]) (n := 3) (Nat.le_of_ble_eq_true rfl)
  rw [lg_entry_eq]
  generalize (lg_sl ([.ref a0, .int x1]) ++ List.replicate (3 - (lg_sl ([.ref a0, .int x1])).length) Slot.unset).toArray = ls at hl ⊢
  have hl : lv_has ls 3 [(0, .ref a0), (1, .int x1)] := hl
  refine (?_ : fs_J X p l e (fs_rm 0 0 σ σF) s m _ below meth c (fs_Q X below _ s (fs_eI r) σ σF) r σ σF (f_Rf_find a0 x1) (F0 m 0 ls [])) σ s.heap [] 0 0 h hw0 va_S.rf rfl rfl
  clear h hw0
  unfold f_Rf_find
  refine fs_lift (fun _ _ _ _ => lv_iconst (v := 0) hx hb d_Rf_find_0 (by decide)) ?_
  refine fs_liftL (fun _ _ _ _ => lv_istore_n (lv' := [(2, .int 0), (0, .ref a0), (1, .int x1)]) hx hb d_Rf_find_1 rfl hl (Nat.le_of_ble_eq_true rfl) rfl) (fun ls hl => ?_)
  refine fs_Jlp1 (nL := 3) (pc := 2) (rest := []) (I := fun (v1 : Int32) => [(0, .ref a0), (1, .int x1), (2, .int v1)]) (fun k2 hk2 v1 ls hl => ?_) _ _ _ (lv_sub hl [1, 2, 0] rfl)
  refine fs_lift (fun _ _ _ _ => lv_iload_n hx hb d_Rf_find_2 rfl (lv_at hl 2 rfl)) ?_
  refine fs_lift (fun _ _ _ _ => lv_aload_n hx hb d_Rf_find_3 rfl (lv_at hl 0 rfl)) ?_
  refine fs_Jgi S hG fs_in12 rfl 28 (Nat.le_of_ble_eq_true rfl) tw_5_220 (fun _ h9 => h9) d_Rf_find_4 (fun v2 => ?_)
  refine fs_if (fun _ _ _ _ => lv_icmp_ge hx hb d_Rf_find_7 rfl) ?_ ?_
  · refine fs_lift (fun _ _ _ _ => lv_iconst (v := (-1)) hx hb d_Rf_find_28 (by decide)) ?_
    exact fs_Jiret S hr hk rfl d_Rf_find_29
  · refine fs_lift (fun _ _ _ _ => lv_aload_n hx hb d_Rf_find_10 rfl (lv_at hl 0 rfl)) ?_
    refine fs_Jgr S hG fs_in12 rfl 29 (Nat.le_of_ble_eq_true rfl) tw_5_221 (fun _ h9 => h9) d_Rf_find_11 (fun r3 => ?_)
    refine fs_lift (fun _ _ _ _ => lv_iload_n hx hb d_Rf_find_14 rfl (lv_at hl 2 rfl)) ?_
    refine fs_Jai S hG d_Rf_find_15 (fun v4 => ?_)
    refine fs_lift (fun _ _ _ _ => lv_iload_n hx hb d_Rf_find_16 rfl (lv_at hl 1 rfl)) ?_
    refine fs_ifn (fun _ _ _ _ => lv_icmp_ne hx hb d_Rf_find_17 rfl) ?_ ?_
    · refine fs_lift (fun _ _ _ _ => lv_iload_n hx hb d_Rf_find_20 rfl (lv_at hl 2 rfl)) ?_
      exact fs_Jiret S hr hk rfl d_Rf_find_21
    · refine fs_Jnm (fun v5 hv9 => ?_)
      refine fs_liftL (fun _ _ _ _ => lv_iinc (k := 2) (v := v5) (lv' := [(2, .int v5), (0, .ref a0), (1, .int x1)]) hx hb d_Rf_find_22 hl rfl (by rw [hv9]; rfl) (Nat.le_of_ble_eq_true rfl) rfl) (fun ls hl => ?_)
      refine fs_lift (fun _ _ _ _ => lv_goto hx hb d_Rf_find_25 rfl) ?_
      exact hk2 v5 ls (lv_sub hl [1, 2, 0] rfl)

theorem d_Rf_waiting_0 : decode prog_13_method_40_code 0 = .ok (.iconst 0, 1) := by decide +kernel
theorem d_Rf_waiting_1 : decode prog_13_method_40_code 1 = .ok (.istore_n 2, 1) := by decide +kernel
theorem d_Rf_waiting_2 : decode prog_13_method_40_code 2 = .ok (.iconst 0, 1) := by decide +kernel
theorem d_Rf_waiting_3 : decode prog_13_method_40_code 3 = .ok (.istore_n 3, 1) := by decide +kernel
theorem d_Rf_waiting_4 : decode prog_13_method_40_code 4 = .ok (.iload_n 3, 1) := by decide +kernel
theorem d_Rf_waiting_5 : decode prog_13_method_40_code 5 = .ok (.aload_n 0, 1) := by decide +kernel
theorem d_Rf_waiting_6 : decode prog_13_method_40_code 6 = .ok (.getfield 225, 3) := by decide +kernel
theorem d_Rf_waiting_9 : decode prog_13_method_40_code 9 = .ok (.if_icmp .ge 89, 3) := by decide +kernel
theorem d_Rf_waiting_12 : decode prog_13_method_40_code 12 = .ok (.aload_n 0, 1) := by decide +kernel
theorem d_Rf_waiting_13 : decode prog_13_method_40_code 13 = .ok (.getfield 100, 3) := by decide +kernel
theorem d_Rf_waiting_16 : decode prog_13_method_40_code 16 = .ok (.bipush 64, 2) := by decide +kernel
theorem d_Rf_waiting_18 : decode prog_13_method_40_code 18 = .ok (.iload_n 3, 1) := by decide +kernel
theorem d_Rf_waiting_19 : decode prog_13_method_40_code 19 = .ok (.imul, 1) := by decide +kernel
theorem d_Rf_waiting_20 : decode prog_13_method_40_code 20 = .ok (.iaload, 1) := by decide +kernel
theorem d_Rf_waiting_21 : decode prog_13_method_40_code 21 = .ok (.bipush 24, 2) := by decide +kernel
theorem d_Rf_waiting_23 : decode prog_13_method_40_code 23 = .ok (.ishl, 1) := by decide +kernel
theorem d_Rf_waiting_24 : decode prog_13_method_40_code 24 = .ok (.aload_n 0, 1) := by decide +kernel
theorem d_Rf_waiting_25 : decode prog_13_method_40_code 25 = .ok (.getfield 100, 3) := by decide +kernel
theorem d_Rf_waiting_28 : decode prog_13_method_40_code 28 = .ok (.bipush 64, 2) := by decide +kernel
theorem d_Rf_waiting_30 : decode prog_13_method_40_code 30 = .ok (.iload_n 3, 1) := by decide +kernel
theorem d_Rf_waiting_31 : decode prog_13_method_40_code 31 = .ok (.imul, 1) := by decide +kernel
theorem d_Rf_waiting_32 : decode prog_13_method_40_code 32 = .ok (.iconst 1, 1) := by decide +kernel
theorem d_Rf_waiting_33 : decode prog_13_method_40_code 33 = .ok (.iadd, 1) := by decide +kernel
theorem d_Rf_waiting_34 : decode prog_13_method_40_code 34 = .ok (.iaload, 1) := by decide +kernel
theorem d_Rf_waiting_35 : decode prog_13_method_40_code 35 = .ok (.bipush 16, 2) := by decide +kernel
theorem d_Rf_waiting_37 : decode prog_13_method_40_code 37 = .ok (.ishl, 1) := by decide +kernel
theorem d_Rf_waiting_38 : decode prog_13_method_40_code 38 = .ok (.ior, 1) := by decide +kernel
theorem d_Rf_waiting_39 : decode prog_13_method_40_code 39 = .ok (.aload_n 0, 1) := by decide +kernel
theorem d_Rf_waiting_40 : decode prog_13_method_40_code 40 = .ok (.getfield 100, 3) := by decide +kernel
theorem d_Rf_waiting_43 : decode prog_13_method_40_code 43 = .ok (.bipush 64, 2) := by decide +kernel
theorem d_Rf_waiting_45 : decode prog_13_method_40_code 45 = .ok (.iload_n 3, 1) := by decide +kernel
theorem d_Rf_waiting_46 : decode prog_13_method_40_code 46 = .ok (.imul, 1) := by decide +kernel
theorem d_Rf_waiting_47 : decode prog_13_method_40_code 47 = .ok (.iconst 3, 1) := by decide +kernel
theorem d_Rf_waiting_48 : decode prog_13_method_40_code 48 = .ok (.iadd, 1) := by decide +kernel
theorem d_Rf_waiting_49 : decode prog_13_method_40_code 49 = .ok (.iaload, 1) := by decide +kernel
theorem d_Rf_waiting_50 : decode prog_13_method_40_code 50 = .ok (.bipush 8, 2) := by decide +kernel
theorem d_Rf_waiting_52 : decode prog_13_method_40_code 52 = .ok (.ishl, 1) := by decide +kernel
theorem d_Rf_waiting_53 : decode prog_13_method_40_code 53 = .ok (.ior, 1) := by decide +kernel
theorem d_Rf_waiting_54 : decode prog_13_method_40_code 54 = .ok (.aload_n 0, 1) := by decide +kernel
theorem d_Rf_waiting_55 : decode prog_13_method_40_code 55 = .ok (.getfield 100, 3) := by decide +kernel
theorem d_Rf_waiting_58 : decode prog_13_method_40_code 58 = .ok (.bipush 64, 2) := by decide +kernel
theorem d_Rf_waiting_60 : decode prog_13_method_40_code 60 = .ok (.iload_n 3, 1) := by decide +kernel
theorem d_Rf_waiting_61 : decode prog_13_method_40_code 61 = .ok (.imul, 1) := by decide +kernel
theorem d_Rf_waiting_62 : decode prog_13_method_40_code 62 = .ok (.iconst 4, 1) := by decide +kernel
theorem d_Rf_waiting_63 : decode prog_13_method_40_code 63 = .ok (.iadd, 1) := by decide +kernel
theorem d_Rf_waiting_64 : decode prog_13_method_40_code 64 = .ok (.iaload, 1) := by decide +kernel
theorem d_Rf_waiting_65 : decode prog_13_method_40_code 65 = .ok (.ior, 1) := by decide +kernel
theorem d_Rf_waiting_66 : decode prog_13_method_40_code 66 = .ok (.istore 4, 2) := by decide +kernel
theorem d_Rf_waiting_68 : decode prog_13_method_40_code 68 = .ok (.iload_n 2, 1) := by decide +kernel
theorem d_Rf_waiting_69 : decode prog_13_method_40_code 69 = .ok (.iload 4, 2) := by decide +kernel
theorem d_Rf_waiting_71 : decode prog_13_method_40_code 71 = .ok (.iload_n 1, 1) := by decide +kernel
theorem d_Rf_waiting_72 : decode prog_13_method_40_code 72 = .ok (.if_icmp .ne 17, 3) := by decide +kernel
theorem d_Rf_waiting_75 : decode prog_13_method_40_code 75 = .ok (.aload_n 0, 1) := by decide +kernel
theorem d_Rf_waiting_76 : decode prog_13_method_40_code 76 = .ok (.getfield 100, 3) := by decide +kernel
theorem d_Rf_waiting_79 : decode prog_13_method_40_code 79 = .ok (.bipush 64, 2) := by decide +kernel
theorem d_Rf_waiting_81 : decode prog_13_method_40_code 81 = .ok (.iload_n 3, 1) := by decide +kernel
theorem d_Rf_waiting_82 : decode prog_13_method_40_code 82 = .ok (.imul, 1) := by decide +kernel
theorem d_Rf_waiting_83 : decode prog_13_method_40_code 83 = .ok (.iconst 5, 1) := by decide +kernel
theorem d_Rf_waiting_84 : decode prog_13_method_40_code 84 = .ok (.iadd, 1) := by decide +kernel
theorem d_Rf_waiting_85 : decode prog_13_method_40_code 85 = .ok (.iaload, 1) := by decide +kernel
theorem d_Rf_waiting_86 : decode prog_13_method_40_code 86 = .ok (.goto 4, 3) := by decide +kernel
theorem d_Rf_waiting_89 : decode prog_13_method_40_code 89 = .ok (.iconst 0, 1) := by decide +kernel
theorem d_Rf_waiting_90 : decode prog_13_method_40_code 90 = .ok (.iadd, 1) := by decide +kernel
theorem d_Rf_waiting_91 : decode prog_13_method_40_code 91 = .ok (.istore_n 2, 1) := by decide +kernel
theorem d_Rf_waiting_92 : decode prog_13_method_40_code 92 = .ok (.iinc 3 1, 3) := by decide +kernel
theorem d_Rf_waiting_95 : decode prog_13_method_40_code 95 = .ok (.goto (-91), 3) := by decide +kernel
theorem d_Rf_waiting_98 : decode prog_13_method_40_code 98 = .ok (.iload_n 2, 1) := by decide +kernel
theorem d_Rf_waiting_99 : decode prog_13_method_40_code 99 = .ok (.ireturn, 1) := by decide +kernel
theorem q_Rf_waiting : (⟨"FlowShelfModel", "waiting", "(I)I"⟩ : MethodName).cls ≠ "java/lang/invoke/MethodHandle" ∧ (⟨"FlowShelfModel", "waiting", "(I)I"⟩ : MethodName).cls ≠ "java/lang/invoke/VarHandle" ∧ (parseMethodDescriptor (⟨"FlowShelfModel", "waiting", "(I)I"⟩ : MethodName).desc).map (fun d => d.parameters.length) = some 1 := by decide +kernel
set_option maxHeartbeats 4000000 in
set_option maxRecDepth 100000 in
theorem m_Rf_waiting (X : fs_X) (l : Launch) (a0 : Nat) (x1 : Int32) {r : Int32} {σ σF : fs_S} (h : (f_Rf_waiting a0 x1).1 σ = some (r, σF)) : fs_Met X l ⟨"FlowShelfModel", "waiting", "(I)I"⟩ (Cond.code ⟨"FlowShelfModel", "waiting", "(I)I"⟩ prog_13_method_40_code 5 (some FieldType.int)) 0 0 [.ref a0, .int x1] σ (fs_eI r) σF := by
  refine fs_ofW (by decide) ?_
  intro p e s m args below meth c s₁ B hml hT hv
  obtain ⟨rfl, hw0, hG⟩ := hv
  have hx := B.exec
  have hb := B.bytes
  have hr := B.returns
  have hk := B.notSynchronized
  have S : CallFix p m c prog_13_method_40_code 5 s _ fs_ws "FlowShelfModel" := ⟨B.exec, B.bytes, hml, findClass_of_methodNamed B.named, fun w hw => atoms_spec (ws := _ :: fs_ws) B.pre w (List.mem_cons_of_mem _ hw)⟩
  have hR := fs_hR (fr := 0) (lo := 0) ((f_Rf_waiting a0 x1).2 _ _ _ h)
  have hl := lv_entry ([.ref a0, .int x1]) (n := 5) (Nat.le_of_ble_eq_true rfl)
  rw [lg_entry_eq]
  generalize (lg_sl ([.ref a0, .int x1]) ++ List.replicate (5 - (lg_sl ([.ref a0, .int x1])).length) Slot.unset).toArray = ls at hl ⊢
  have hl : lv_has ls 5 [(0, .ref a0), (1, .int x1)] := hl
  refine (?_ : fs_J X p l e (fs_rm 0 0 σ σF) s m _ below meth c (fs_Q X below _ s (fs_eI r) σ σF) r σ σF (f_Rf_waiting a0 x1) (F0 m 0 ls [])) σ s.heap [] 0 0 h hw0 va_S.rf rfl rfl
  clear h hw0
  unfold f_Rf_waiting
  refine fs_lift (fun _ _ _ _ => lv_iconst (v := 0) hx hb d_Rf_waiting_0 (by decide)) ?_
  refine fs_liftL (fun _ _ _ _ => lv_istore_n (lv' := [(2, .int 0), (0, .ref a0), (1, .int x1)]) hx hb d_Rf_waiting_1 rfl hl (Nat.le_of_ble_eq_true rfl) rfl) (fun ls hl => ?_)
  refine fs_lift (fun _ _ _ _ => lv_iconst (v := 0) hx hb d_Rf_waiting_2 (by decide)) ?_
  refine fs_liftL (fun _ _ _ _ => lv_istore_n (lv' := [(3, .int 0), (2, .int 0), (0, .ref a0), (1, .int x1)]) hx hb d_Rf_waiting_3 rfl hl (Nat.le_of_ble_eq_true rfl) rfl) (fun ls hl => ?_)
  refine fs_Jlp2 (nL := 5) (pc := 4) (rest := []) (I := fun (v1 : Int32) (v2 : Int32) => [(0, .ref a0), (1, .int x1), (2, .int v1), (3, .int v2)]) (fun k4 hk4 v1 v2 ls hl => ?_) _ _ _ _ (lv_sub hl [2, 3, 1, 0] rfl)
  refine fs_lift (fun _ _ _ _ => lv_iload_n hx hb d_Rf_waiting_4 rfl (lv_at hl 3 rfl)) ?_
  refine fs_lift (fun _ _ _ _ => lv_aload_n hx hb d_Rf_waiting_5 rfl (lv_at hl 0 rfl)) ?_
  refine fs_Jgi S hG fs_in12 rfl 33 (Nat.le_of_ble_eq_true rfl) tw_5_225 (fun _ h9 => h9) d_Rf_waiting_6 (fun v3 => ?_)
  refine fs_if (fun _ _ _ _ => lv_icmp_ge hx hb d_Rf_waiting_9 rfl) ?_ ?_
  · refine fs_lift (fun _ _ _ _ => lv_iload_n hx hb d_Rf_waiting_98 rfl (lv_at hl 2 rfl)) ?_
    exact fs_Jiret S hr hk rfl d_Rf_waiting_99
  · refine fs_lift (fun _ _ _ _ => lv_aload_n hx hb d_Rf_waiting_12 rfl (lv_at hl 0 rfl)) ?_
    refine fs_Jgr S hG fs_in12 rfl 35 (Nat.le_of_ble_eq_true rfl) tw_5_227 (fun _ h9 => h9) d_Rf_waiting_13 (fun r4 => ?_)
    refine fs_lift (fun _ _ _ _ => lv_bipush (v := 64) hx hb d_Rf_waiting_16 (by decide)) ?_
    refine fs_lift (fun _ _ _ _ => lv_iload_n hx hb d_Rf_waiting_18 rfl (lv_at hl 3 rfl)) ?_
    refine fs_lift (fun _ _ _ _ => lv_imul hx hb d_Rf_waiting_19) ?_
    refine fs_Jai S hG d_Rf_waiting_20 (fun v5 => ?_)
    refine fs_lift (fun _ _ _ _ => lv_bipush (v := 24) hx hb d_Rf_waiting_21 (by decide)) ?_
    refine fs_lift (fun _ _ _ _ => lv_ishl hx hb d_Rf_waiting_23) ?_
    refine fs_lift (fun _ _ _ _ => lv_aload_n hx hb d_Rf_waiting_24 rfl (lv_at hl 0 rfl)) ?_
    refine fs_Jgr S hG fs_in12 rfl 35 (Nat.le_of_ble_eq_true rfl) tw_5_227 (fun _ h9 => h9) d_Rf_waiting_25 (fun r6 => ?_)
    refine fs_lift (fun _ _ _ _ => lv_bipush (v := 64) hx hb d_Rf_waiting_28 (by decide)) ?_
    refine fs_lift (fun _ _ _ _ => lv_iload_n hx hb d_Rf_waiting_30 rfl (lv_at hl 3 rfl)) ?_
    refine fs_lift (fun _ _ _ _ => lv_imul hx hb d_Rf_waiting_31) ?_
    refine fs_lift (fun _ _ _ _ => lv_iconst (v := 1) hx hb d_Rf_waiting_32 (by decide)) ?_
    refine fs_lift (fun _ _ _ _ => lv_iadd hx hb d_Rf_waiting_33) ?_
    refine fs_Jai S hG d_Rf_waiting_34 (fun v7 => ?_)
    refine fs_lift (fun _ _ _ _ => lv_bipush (v := 16) hx hb d_Rf_waiting_35 (by decide)) ?_
    refine fs_lift (fun _ _ _ _ => lv_ishl hx hb d_Rf_waiting_37) ?_
    refine fs_lift (fun _ _ _ _ => lv_ior hx hb d_Rf_waiting_38) ?_
    refine fs_lift (fun _ _ _ _ => lv_aload_n hx hb d_Rf_waiting_39 rfl (lv_at hl 0 rfl)) ?_
    refine fs_Jgr S hG fs_in12 rfl 35 (Nat.le_of_ble_eq_true rfl) tw_5_227 (fun _ h9 => h9) d_Rf_waiting_40 (fun r8 => ?_)
    refine fs_lift (fun _ _ _ _ => lv_bipush (v := 64) hx hb d_Rf_waiting_43 (by decide)) ?_
    refine fs_lift (fun _ _ _ _ => lv_iload_n hx hb d_Rf_waiting_45 rfl (lv_at hl 3 rfl)) ?_
    refine fs_lift (fun _ _ _ _ => lv_imul hx hb d_Rf_waiting_46) ?_
    refine fs_lift (fun _ _ _ _ => lv_iconst (v := 3) hx hb d_Rf_waiting_47 (by decide)) ?_
    refine fs_lift (fun _ _ _ _ => lv_iadd hx hb d_Rf_waiting_48) ?_
    refine fs_Jai S hG d_Rf_waiting_49 (fun v9 => ?_)
    refine fs_lift (fun _ _ _ _ => lv_bipush (v := 8) hx hb d_Rf_waiting_50 (by decide)) ?_
    refine fs_lift (fun _ _ _ _ => lv_ishl hx hb d_Rf_waiting_52) ?_
    refine fs_lift (fun _ _ _ _ => lv_ior hx hb d_Rf_waiting_53) ?_
    refine fs_lift (fun _ _ _ _ => lv_aload_n hx hb d_Rf_waiting_54 rfl (lv_at hl 0 rfl)) ?_
    refine fs_Jgr S hG fs_in12 rfl 35 (Nat.le_of_ble_eq_true rfl) tw_5_227 (fun _ h9 => h9) d_Rf_waiting_55 (fun r10 => ?_)
    refine fs_lift (fun _ _ _ _ => lv_bipush (v := 64) hx hb d_Rf_waiting_58 (by decide)) ?_
    refine fs_lift (fun _ _ _ _ => lv_iload_n hx hb d_Rf_waiting_60 rfl (lv_at hl 3 rfl)) ?_
    refine fs_lift (fun _ _ _ _ => lv_imul hx hb d_Rf_waiting_61) ?_
    refine fs_lift (fun _ _ _ _ => lv_iconst (v := 4) hx hb d_Rf_waiting_62 (by decide)) ?_
    refine fs_lift (fun _ _ _ _ => lv_iadd hx hb d_Rf_waiting_63) ?_
    refine fs_Jai S hG d_Rf_waiting_64 (fun v11 => ?_)
    refine fs_lift (fun _ _ _ _ => lv_ior hx hb d_Rf_waiting_65) ?_
    refine fs_Jni (fun v12 => ?_)
    refine fs_liftL (fun _ _ _ _ => lv_istore (lv' := [(4, .int v12), (0, .ref a0), (1, .int x1), (2, .int v1), (3, .int v2)]) hx hb d_Rf_waiting_66 hl (Nat.le_of_ble_eq_true rfl) rfl) (fun ls hl => ?_)
    refine fs_lift (fun _ _ _ _ => lv_iload_n hx hb d_Rf_waiting_68 rfl (lv_at hl 3 rfl)) ?_
    refine fs_lift (fun _ _ _ _ => lv_iload hx hb d_Rf_waiting_69 (lv_at hl 0 rfl)) ?_
    refine fs_lift (fun _ _ _ _ => lv_iload_n hx hb d_Rf_waiting_71 rfl (lv_at hl 2 rfl)) ?_
    refine fs_Jlet1 (nL := 5) (pj := 90) (I := fun (v15 : Int32) => [(0, .ref a0), (1, .int x1), (3, .int v2)]) (st := fun (v15 : Int32) => [.int v15, .int v1]) (fun v15 ls hl => ?_) (fun j90 hj90 => ?_)
    · refine fs_lift (fun _ _ _ _ => lv_iadd hx hb d_Rf_waiting_90) ?_
      refine fs_Jni (fun v16 => ?_)
      refine fs_liftL (fun _ _ _ _ => lv_istore_n (lv' := [(2, .int v16), (0, .ref a0), (1, .int x1), (3, .int v2)]) hx hb d_Rf_waiting_91 rfl hl (Nat.le_of_ble_eq_true rfl) rfl) (fun ls hl => ?_)
      refine fs_Jnm (fun v17 hv9 => ?_)
      refine fs_liftL (fun _ _ _ _ => lv_iinc (k := 3) (v := v17) (lv' := [(3, .int v17), (2, .int v16), (0, .ref a0), (1, .int x1)]) hx hb d_Rf_waiting_92 hl rfl (by rw [hv9]; rfl) (Nat.le_of_ble_eq_true rfl) rfl) (fun ls hl => ?_)
      refine fs_lift (fun _ _ _ _ => lv_goto hx hb d_Rf_waiting_95 rfl) ?_
      exact hk4 v16 v17 ls (lv_sub hl [2, 3, 1, 0] rfl)
    · refine fs_ifn (fun _ _ _ _ => lv_icmp_ne hx hb d_Rf_waiting_72 rfl) ?_ ?_
      · refine fs_lift (fun _ _ _ _ => lv_aload_n hx hb d_Rf_waiting_75 rfl (lv_at hl 1 rfl)) ?_
        refine fs_Jgr S hG fs_in12 rfl 35 (Nat.le_of_ble_eq_true rfl) tw_5_227 (fun _ h9 => h9) d_Rf_waiting_76 (fun r13 => ?_)
        refine fs_lift (fun _ _ _ _ => lv_bipush (v := 64) hx hb d_Rf_waiting_79 (by decide)) ?_
        refine fs_lift (fun _ _ _ _ => lv_iload_n hx hb d_Rf_waiting_81 rfl (lv_at hl 4 rfl)) ?_
        refine fs_lift (fun _ _ _ _ => lv_imul hx hb d_Rf_waiting_82) ?_
        refine fs_lift (fun _ _ _ _ => lv_iconst (v := 5) hx hb d_Rf_waiting_83 (by decide)) ?_
        refine fs_lift (fun _ _ _ _ => lv_iadd hx hb d_Rf_waiting_84) ?_
        refine fs_Jai S hG d_Rf_waiting_85 (fun v14 => ?_)
        refine fs_lift (fun _ _ _ _ => lv_goto hx hb d_Rf_waiting_86 rfl) ?_
        exact hj90 v14 ls (lv_sub hl [1, 2, 4] rfl)
      · refine fs_lift (fun _ _ _ _ => lv_iconst (v := 0) hx hb d_Rf_waiting_89 (by decide)) ?_
        exact hj90 0 ls (lv_sub hl [1, 2, 4] rfl)

theorem d_Rf_fetch_0 : decode prog_13_method_38_code 0 = .ok (.aload_n 0, 1) := by decide +kernel
theorem d_Rf_fetch_1 : decode prog_13_method_38_code 1 = .ok (.aload_n 0, 1) := by decide +kernel
theorem d_Rf_fetch_2 : decode prog_13_method_38_code 2 = .ok (.getfield 97, 3) := by decide +kernel
theorem d_Rf_fetch_5 : decode prog_13_method_38_code 5 = .ok (.iload_n 1, 1) := by decide +kernel
theorem d_Rf_fetch_6 : decode prog_13_method_38_code 6 = .ok (.iaload, 1) := by decide +kernel
theorem d_Rf_fetch_7 : decode prog_13_method_38_code 7 = .ok (.putfield 197, 3) := by decide +kernel
theorem d_Rf_fetch_10 : decode prog_13_method_38_code 10 = .ok (.iconst 0, 1) := by decide +kernel
theorem d_Rf_fetch_11 : decode prog_13_method_38_code 11 = .ok (.istore_n 2, 1) := by decide +kernel
theorem d_Rf_fetch_12 : decode prog_13_method_38_code 12 = .ok (.iload_n 2, 1) := by decide +kernel
theorem d_Rf_fetch_13 : decode prog_13_method_38_code 13 = .ok (.aload_n 0, 1) := by decide +kernel
theorem d_Rf_fetch_14 : decode prog_13_method_38_code 14 = .ok (.getfield 197, 3) := by decide +kernel
theorem d_Rf_fetch_17 : decode prog_13_method_38_code 17 = .ok (.if_icmp .ge 26, 3) := by decide +kernel
theorem d_Rf_fetch_20 : decode prog_13_method_38_code 20 = .ok (.aload_n 0, 1) := by decide +kernel
theorem d_Rf_fetch_21 : decode prog_13_method_38_code 21 = .ok (.getfield 129, 3) := by decide +kernel
theorem d_Rf_fetch_24 : decode prog_13_method_38_code 24 = .ok (.iload_n 2, 1) := by decide +kernel
theorem d_Rf_fetch_25 : decode prog_13_method_38_code 25 = .ok (.aload_n 0, 1) := by decide +kernel
theorem d_Rf_fetch_26 : decode prog_13_method_38_code 26 = .ok (.getfield 100, 3) := by decide +kernel
theorem d_Rf_fetch_29 : decode prog_13_method_38_code 29 = .ok (.bipush 64, 2) := by decide +kernel
theorem d_Rf_fetch_31 : decode prog_13_method_38_code 31 = .ok (.iload_n 1, 1) := by decide +kernel
theorem d_Rf_fetch_32 : decode prog_13_method_38_code 32 = .ok (.imul, 1) := by decide +kernel
theorem d_Rf_fetch_33 : decode prog_13_method_38_code 33 = .ok (.iload_n 2, 1) := by decide +kernel
theorem d_Rf_fetch_34 : decode prog_13_method_38_code 34 = .ok (.iadd, 1) := by decide +kernel
theorem d_Rf_fetch_35 : decode prog_13_method_38_code 35 = .ok (.iaload, 1) := by decide +kernel
theorem d_Rf_fetch_36 : decode prog_13_method_38_code 36 = .ok (.iastore, 1) := by decide +kernel
theorem d_Rf_fetch_37 : decode prog_13_method_38_code 37 = .ok (.iinc 2 1, 3) := by decide +kernel
theorem d_Rf_fetch_40 : decode prog_13_method_38_code 40 = .ok (.goto (-28), 3) := by decide +kernel
theorem d_Rf_fetch_43 : decode prog_13_method_38_code 43 = .ok (.return_, 1) := by decide +kernel
theorem q_Rf_fetch : (⟨"FlowShelfModel", "fetch", "(I)V"⟩ : MethodName).cls ≠ "java/lang/invoke/MethodHandle" ∧ (⟨"FlowShelfModel", "fetch", "(I)V"⟩ : MethodName).cls ≠ "java/lang/invoke/VarHandle" ∧ (parseMethodDescriptor (⟨"FlowShelfModel", "fetch", "(I)V"⟩ : MethodName).desc).map (fun d => d.parameters.length) = some 1 := by decide +kernel
set_option maxHeartbeats 4000000 in
set_option maxRecDepth 100000 in
theorem m_Rf_fetch (X : fs_X) (l : Launch) (a0 : Nat) (x1 : Int32) {r : Unit} {σ σF : fs_S} (h : (f_Rf_fetch a0 x1).1 σ = some (r, σF)) : fs_Met X l ⟨"FlowShelfModel", "fetch", "(I)V"⟩ (Cond.code ⟨"FlowShelfModel", "fetch", "(I)V"⟩ prog_13_method_38_code 3 none) 0 0 [.ref a0, .int x1] σ (fs_eV r) σF := by
  refine fs_ofW (by decide) ?_
  intro p e s m args below meth c s₁ B hml hT hv
  obtain ⟨rfl, hw0, hG⟩ := hv
  have hx := B.exec
  have hb := B.bytes
  have hr := B.returns
  have hk := B.notSynchronized
  have S : CallFix p m c prog_13_method_38_code 3 s _ fs_ws "FlowShelfModel" := ⟨B.exec, B.bytes, hml, findClass_of_methodNamed B.named, fun w hw => atoms_spec (ws := _ :: fs_ws) B.pre w (List.mem_cons_of_mem _ hw)⟩
  have hR := fs_hR (fr := 0) (lo := 0) ((f_Rf_fetch a0 x1).2 _ _ _ h)
  have hl := lv_entry ([.ref a0, .int x1]) (n := 3) (Nat.le_of_ble_eq_true rfl)
  rw [lg_entry_eq]
  generalize (lg_sl ([.ref a0, .int x1]) ++ List.replicate (3 - (lg_sl ([.ref a0, .int x1])).length) Slot.unset).toArray = ls at hl ⊢
  have hl : lv_has ls 3 [(0, .ref a0), (1, .int x1)] := hl
  refine (?_ : fs_J X p l e (fs_rm 0 0 σ σF) s m _ below meth c (fs_Q X below _ s (fs_eV r) σ σF) r σ σF (f_Rf_fetch a0 x1) (F0 m 0 ls [])) σ s.heap [] 0 0 h hw0 va_S.rf rfl rfl
  clear h hw0
  unfold f_Rf_fetch
  refine fs_lift (fun _ _ _ _ => lv_aload_n hx hb d_Rf_fetch_0 rfl (lv_at hl 0 rfl)) ?_
  refine fs_lift (fun _ _ _ _ => lv_aload_n hx hb d_Rf_fetch_1 rfl (lv_at hl 0 rfl)) ?_
  refine fs_Jgr S hG fs_in12 rfl 34 (Nat.le_of_ble_eq_true rfl) tw_5_226 (fun _ h9 => h9) d_Rf_fetch_2 (fun r1 => ?_)
  refine fs_lift (fun _ _ _ _ => lv_iload_n hx hb d_Rf_fetch_5 rfl (lv_at hl 1 rfl)) ?_
  refine fs_Jai S hG d_Rf_fetch_6 (fun v2 => ?_)
  refine fs_Jput S hG fs_in12 rfl 45 (Nat.le_of_ble_eq_true rfl) tw_5_237 (fun _ h9 => h9) fs_Y12 fs_ty12 fs_nm12 (Or.inl rfl) rfl rfl d_Rf_fetch_7 ?_
  refine fs_lift (fun _ _ _ _ => lv_iconst (v := 0) hx hb d_Rf_fetch_10 (by decide)) ?_
  refine fs_liftL (fun _ _ _ _ => lv_istore_n (lv' := [(2, .int 0), (0, .ref a0), (1, .int x1)]) hx hb d_Rf_fetch_11 rfl hl (Nat.le_of_ble_eq_true rfl) rfl) (fun ls hl => ?_)
  refine fs_Jlp1 (nL := 3) (pc := 12) (rest := []) (I := fun (v3 : Int32) => [(0, .ref a0), (1, .int x1), (2, .int v3)]) (fun k12 hk12 v3 ls hl => ?_) _ _ _ (lv_sub hl [1, 2, 0] rfl)
  refine fs_lift (fun _ _ _ _ => lv_iload_n hx hb d_Rf_fetch_12 rfl (lv_at hl 2 rfl)) ?_
  refine fs_lift (fun _ _ _ _ => lv_aload_n hx hb d_Rf_fetch_13 rfl (lv_at hl 0 rfl)) ?_
  refine fs_Jgi S hG fs_in12 rfl 45 (Nat.le_of_ble_eq_true rfl) tw_5_237 (fun _ h9 => h9) d_Rf_fetch_14 (fun v4 => ?_)
  refine fs_if (fun _ _ _ _ => lv_icmp_ge hx hb d_Rf_fetch_17 rfl) ?_ ?_
  · exact fs_Jvret S hr hk rfl d_Rf_fetch_43
  · refine fs_lift (fun _ _ _ _ => lv_aload_n hx hb d_Rf_fetch_20 rfl (lv_at hl 0 rfl)) ?_
    refine fs_Jgr S hG fs_in12 rfl 46 (Nat.le_of_ble_eq_true rfl) tw_5_238 (fun _ h9 => h9) d_Rf_fetch_21 (fun r5 => ?_)
    refine fs_lift (fun _ _ _ _ => lv_iload_n hx hb d_Rf_fetch_24 rfl (lv_at hl 2 rfl)) ?_
    refine fs_lift (fun _ _ _ _ => lv_aload_n hx hb d_Rf_fetch_25 rfl (lv_at hl 0 rfl)) ?_
    refine fs_Jgr S hG fs_in12 rfl 35 (Nat.le_of_ble_eq_true rfl) tw_5_227 (fun _ h9 => h9) d_Rf_fetch_26 (fun r6 => ?_)
    refine fs_lift (fun _ _ _ _ => lv_bipush (v := 64) hx hb d_Rf_fetch_29 (by decide)) ?_
    refine fs_lift (fun _ _ _ _ => lv_iload_n hx hb d_Rf_fetch_31 rfl (lv_at hl 1 rfl)) ?_
    refine fs_lift (fun _ _ _ _ => lv_imul hx hb d_Rf_fetch_32) ?_
    refine fs_lift (fun _ _ _ _ => lv_iload_n hx hb d_Rf_fetch_33 rfl (lv_at hl 2 rfl)) ?_
    refine fs_lift (fun _ _ _ _ => lv_iadd hx hb d_Rf_fetch_34) ?_
    refine fs_Jai S hG d_Rf_fetch_35 (fun v7 => ?_)
    refine fs_Jsi S hG d_Rf_fetch_36 ?_
    refine fs_Jnm (fun v8 hv9 => ?_)
    refine fs_liftL (fun _ _ _ _ => lv_iinc (k := 2) (v := v8) (lv' := [(2, .int v8), (0, .ref a0), (1, .int x1)]) hx hb d_Rf_fetch_37 hl rfl (by rw [hv9]; rfl) (Nat.le_of_ble_eq_true rfl) rfl) (fun ls hl => ?_)
    refine fs_lift (fun _ _ _ _ => lv_goto hx hb d_Rf_fetch_40 rfl) ?_
    exact hk12 v8 ls (lv_sub hl [1, 2, 0] rfl)

theorem d_Rf_take_0 : decode prog_13_method_35_code 0 = .ok (.iload_n 1, 1) := by decide +kernel
theorem d_Rf_take_1 : decode prog_13_method_35_code 1 = .ok (.istore_n 2, 1) := by decide +kernel
theorem d_Rf_take_2 : decode prog_13_method_35_code 2 = .ok (.iload_n 2, 1) := by decide +kernel
theorem d_Rf_take_3 : decode prog_13_method_35_code 3 = .ok (.ifCond .ne 38, 3) := by decide +kernel
theorem d_Rf_take_6 : decode prog_13_method_35_code 6 = .ok (.aload_n 0, 1) := by decide +kernel
theorem d_Rf_take_7 : decode prog_13_method_35_code 7 = .ok (.getfield 207, 3) := by decide +kernel
theorem d_Rf_take_10 : decode prog_13_method_35_code 10 = .ok (.aload_n 0, 1) := by decide +kernel
theorem d_Rf_take_11 : decode prog_13_method_35_code 11 = .ok (.getfield 197, 3) := by decide +kernel
theorem d_Rf_take_14 : decode prog_13_method_35_code 14 = .ok (.if_icmp .lt 7, 3) := by decide +kernel
theorem d_Rf_take_17 : decode prog_13_method_35_code 17 = .ok (.ldc2_w 210, 3) := by decide +kernel
theorem d_Rf_take_20 : decode prog_13_method_35_code 20 = .ok (.lreturn, 1) := by decide +kernel
theorem d_Rf_take_21 : decode prog_13_method_35_code 21 = .ok (.aload_n 0, 1) := by decide +kernel
theorem d_Rf_take_22 : decode prog_13_method_35_code 22 = .ok (.getfield 129, 3) := by decide +kernel
theorem d_Rf_take_25 : decode prog_13_method_35_code 25 = .ok (.aload_n 0, 1) := by decide +kernel
theorem d_Rf_take_26 : decode prog_13_method_35_code 26 = .ok (.getfield 207, 3) := by decide +kernel
theorem d_Rf_take_29 : decode prog_13_method_35_code 29 = .ok (.iaload, 1) := by decide +kernel
theorem d_Rf_take_30 : decode prog_13_method_35_code 30 = .ok (.istore_n 2, 1) := by decide +kernel
theorem d_Rf_take_31 : decode prog_13_method_35_code 31 = .ok (.aload_n 0, 1) := by decide +kernel
theorem d_Rf_take_32 : decode prog_13_method_35_code 32 = .ok (.dup, 1) := by decide +kernel
theorem d_Rf_take_33 : decode prog_13_method_35_code 33 = .ok (.getfield 207, 3) := by decide +kernel
theorem d_Rf_take_36 : decode prog_13_method_35_code 36 = .ok (.iconst 1, 1) := by decide +kernel
theorem d_Rf_take_37 : decode prog_13_method_35_code 37 = .ok (.iadd, 1) := by decide +kernel
theorem d_Rf_take_38 : decode prog_13_method_35_code 38 = .ok (.putfield 207, 3) := by decide +kernel
theorem d_Rf_take_41 : decode prog_13_method_35_code 41 = .ok (.iload_n 2, 1) := by decide +kernel
theorem d_Rf_take_42 : decode prog_13_method_35_code 42 = .ok (.iconst 1, 1) := by decide +kernel
theorem d_Rf_take_43 : decode prog_13_method_35_code 43 = .ok (.if_icmp .lt 21, 3) := by decide +kernel
theorem d_Rf_take_46 : decode prog_13_method_35_code 46 = .ok (.iload_n 2, 1) := by decide +kernel
theorem d_Rf_take_47 : decode prog_13_method_35_code 47 = .ok (.iconst 4, 1) := by decide +kernel
theorem d_Rf_take_48 : decode prog_13_method_35_code 48 = .ok (.if_icmp .gt 16, 3) := by decide +kernel
theorem d_Rf_take_51 : decode prog_13_method_35_code 51 = .ok (.aload_n 0, 1) := by decide +kernel
theorem d_Rf_take_52 : decode prog_13_method_35_code 52 = .ok (.getfield 207, 3) := by decide +kernel
theorem d_Rf_take_55 : decode prog_13_method_35_code 55 = .ok (.iload_n 2, 1) := by decide +kernel
theorem d_Rf_take_56 : decode prog_13_method_35_code 56 = .ok (.iadd, 1) := by decide +kernel
theorem d_Rf_take_57 : decode prog_13_method_35_code 57 = .ok (.aload_n 0, 1) := by decide +kernel
theorem d_Rf_take_58 : decode prog_13_method_35_code 58 = .ok (.getfield 197, 3) := by decide +kernel
theorem d_Rf_take_61 : decode prog_13_method_35_code 61 = .ok (.if_icmp .le 7, 3) := by decide +kernel
theorem d_Rf_take_64 : decode prog_13_method_35_code 64 = .ok (.ldc2_w 210, 3) := by decide +kernel
theorem d_Rf_take_67 : decode prog_13_method_35_code 67 = .ok (.lreturn, 1) := by decide +kernel
theorem d_Rf_take_68 : decode prog_13_method_35_code 68 = .ok (.lconst 0, 1) := by decide +kernel
theorem d_Rf_take_69 : decode prog_13_method_35_code 69 = .ok (.lstore_n 3, 1) := by decide +kernel
theorem d_Rf_take_70 : decode prog_13_method_35_code 70 = .ok (.iconst 0, 1) := by decide +kernel
theorem d_Rf_take_71 : decode prog_13_method_35_code 71 = .ok (.istore 5, 2) := by decide +kernel
theorem d_Rf_take_73 : decode prog_13_method_35_code 73 = .ok (.iload 5, 2) := by decide +kernel
theorem d_Rf_take_75 : decode prog_13_method_35_code 75 = .ok (.iload_n 2, 1) := by decide +kernel
theorem d_Rf_take_76 : decode prog_13_method_35_code 76 = .ok (.if_icmp .ge 36, 3) := by decide +kernel
theorem d_Rf_take_79 : decode prog_13_method_35_code 79 = .ok (.ldc2_w 212, 3) := by decide +kernel
theorem d_Rf_take_82 : decode prog_13_method_35_code 82 = .ok (.lload_n 3, 1) := by decide +kernel
theorem d_Rf_take_83 : decode prog_13_method_35_code 83 = .ok (.lmul, 1) := by decide +kernel
theorem d_Rf_take_84 : decode prog_13_method_35_code 84 = .ok (.aload_n 0, 1) := by decide +kernel
theorem d_Rf_take_85 : decode prog_13_method_35_code 85 = .ok (.getfield 129, 3) := by decide +kernel
theorem d_Rf_take_88 : decode prog_13_method_35_code 88 = .ok (.aload_n 0, 1) := by decide +kernel
theorem d_Rf_take_89 : decode prog_13_method_35_code 89 = .ok (.getfield 207, 3) := by decide +kernel
theorem d_Rf_take_92 : decode prog_13_method_35_code 92 = .ok (.iaload, 1) := by decide +kernel
theorem d_Rf_take_93 : decode prog_13_method_35_code 93 = .ok (.i2l, 1) := by decide +kernel
theorem d_Rf_take_94 : decode prog_13_method_35_code 94 = .ok (.ladd, 1) := by decide +kernel
theorem d_Rf_take_95 : decode prog_13_method_35_code 95 = .ok (.lstore_n 3, 1) := by decide +kernel
theorem d_Rf_take_96 : decode prog_13_method_35_code 96 = .ok (.aload_n 0, 1) := by decide +kernel
theorem d_Rf_take_97 : decode prog_13_method_35_code 97 = .ok (.dup, 1) := by decide +kernel
theorem d_Rf_take_98 : decode prog_13_method_35_code 98 = .ok (.getfield 207, 3) := by decide +kernel
theorem d_Rf_take_101 : decode prog_13_method_35_code 101 = .ok (.iconst 1, 1) := by decide +kernel
theorem d_Rf_take_102 : decode prog_13_method_35_code 102 = .ok (.iadd, 1) := by decide +kernel
theorem d_Rf_take_103 : decode prog_13_method_35_code 103 = .ok (.putfield 207, 3) := by decide +kernel
theorem d_Rf_take_106 : decode prog_13_method_35_code 106 = .ok (.iinc 5 1, 3) := by decide +kernel
theorem d_Rf_take_109 : decode prog_13_method_35_code 109 = .ok (.goto (-36), 3) := by decide +kernel
theorem d_Rf_take_112 : decode prog_13_method_35_code 112 = .ok (.lload_n 3, 1) := by decide +kernel
theorem d_Rf_take_113 : decode prog_13_method_35_code 113 = .ok (.lreturn, 1) := by decide +kernel
theorem q_Rf_take : (⟨"FlowShelfModel", "take", "(I)J"⟩ : MethodName).cls ≠ "java/lang/invoke/MethodHandle" ∧ (⟨"FlowShelfModel", "take", "(I)J"⟩ : MethodName).cls ≠ "java/lang/invoke/VarHandle" ∧ (parseMethodDescriptor (⟨"FlowShelfModel", "take", "(I)J"⟩ : MethodName).desc).map (fun d => d.parameters.length) = some 1 := by decide +kernel
set_option maxHeartbeats 4000000 in
set_option maxRecDepth 100000 in
theorem m_Rf_take (X : fs_X) (l : Launch) (a0 : Nat) (x1 : Int32) {r : Int64} {σ σF : fs_S} (h : (f_Rf_take a0 x1).1 σ = some (r, σF)) : fs_Met X l ⟨"FlowShelfModel", "take", "(I)J"⟩ (Cond.code ⟨"FlowShelfModel", "take", "(I)J"⟩ prog_13_method_35_code 6 (some FieldType.long)) 0 0 [.ref a0, .int x1] σ (fs_eJ r) σF := by
  refine fs_ofW (by decide) ?_
  intro p e s m args below meth c s₁ B hml hT hv
  obtain ⟨rfl, hw0, hG⟩ := hv
  have hx := B.exec
  have hb := B.bytes
  have hr := B.returns
  have hk := B.notSynchronized
  have S : CallFix p m c prog_13_method_35_code 6 s _ fs_ws "FlowShelfModel" := ⟨B.exec, B.bytes, hml, findClass_of_methodNamed B.named, fun w hw => atoms_spec (ws := _ :: fs_ws) B.pre w (List.mem_cons_of_mem _ hw)⟩
  have hR := fs_hR (fr := 0) (lo := 0) ((f_Rf_take a0 x1).2 _ _ _ h)
  have hl := lv_entry ([.ref a0, .int x1]) (n := 6) (Nat.le_of_ble_eq_true rfl)
  rw [lg_entry_eq]
  generalize (lg_sl ([.ref a0, .int x1]) ++ List.replicate (6 - (lg_sl ([.ref a0, .int x1])).length) Slot.unset).toArray = ls at hl ⊢
  have hl : lv_has ls 6 [(0, .ref a0), (1, .int x1)] := hl
  refine (?_ : fs_J X p l e (fs_rm 0 0 σ σF) s m _ below meth c (fs_Q X below _ s (fs_eJ r) σ σF) r σ σF (f_Rf_take a0 x1) (F0 m 0 ls [])) σ s.heap [] 0 0 h hw0 va_S.rf rfl rfl
  clear h hw0
  unfold f_Rf_take
  refine fs_lift (fun _ _ _ _ => lv_iload_n hx hb d_Rf_take_0 rfl (lv_at hl 1 rfl)) ?_
  refine fs_liftL (fun _ _ _ _ => lv_istore_n (lv' := [(2, .int x1), (0, .ref a0), (1, .int x1)]) hx hb d_Rf_take_1 rfl hl (Nat.le_of_ble_eq_true rfl) rfl) (fun ls hl => ?_)
  refine fs_lift (fun _ _ _ _ => lv_iload_n hx hb d_Rf_take_2 rfl (lv_at hl 0 rfl)) ?_
  refine fs_Jlet1 (nL := 6) (pj := 41) (I := fun (v7 : Int32) => [(0, .ref a0), (2, .int v7)]) (st := fun (v7 : Int32) => []) (fun v7 ls hl => ?_) (fun j41 hj41 => ?_)
  · refine fs_lift (fun _ _ _ _ => lv_iload_n hx hb d_Rf_take_41 rfl (lv_at hl 1 rfl)) ?_
    refine fs_lift (fun _ _ _ _ => lv_iconst (v := 1) hx hb d_Rf_take_42 (by decide)) ?_
    refine fs_Jlet1 (nL := 6) (pj := 64) (I := fun (_ : Unit) => []) (st := fun (_ : Unit) => []) (fun _ ls hl => ?_) (fun j64 hj64 => ?_)
    · refine fs_lift (fun _ _ _ _ => lv_ldc2 hx hb S.2.2.2.1 (S.2.2.2.2 _ tw_7_21) d_Rf_take_64) ?_
      exact fs_Jlret S hr hk rfl d_Rf_take_67
    · refine fs_if (fun _ _ _ _ => lv_icmp_lt hx hb d_Rf_take_43 rfl) ?_ ?_
      · exact hj64 () ls (lv_sub hl [] rfl)
      · refine fs_lift (fun _ _ _ _ => lv_iload_n hx hb d_Rf_take_46 rfl (lv_at hl 1 rfl)) ?_
        refine fs_lift (fun _ _ _ _ => lv_iconst (v := 4) hx hb d_Rf_take_47 (by decide)) ?_
        refine fs_if (fun _ _ _ _ => lv_icmp_gt hx hb d_Rf_take_48 rfl) ?_ ?_
        · exact hj64 () ls (lv_sub hl [] rfl)
        · refine fs_lift (fun _ _ _ _ => lv_aload_n hx hb d_Rf_take_51 rfl (lv_at hl 0 rfl)) ?_
          refine fs_Jgi S hG fs_in12 rfl 47 (Nat.le_of_ble_eq_true rfl) tw_5_239 (fun _ h9 => h9) d_Rf_take_52 (fun v8 => ?_)
          refine fs_lift (fun _ _ _ _ => lv_iload_n hx hb d_Rf_take_55 rfl (lv_at hl 1 rfl)) ?_
          refine fs_lift (fun _ _ _ _ => lv_iadd hx hb d_Rf_take_56) ?_
          refine fs_lift (fun _ _ _ _ => lv_aload_n hx hb d_Rf_take_57 rfl (lv_at hl 0 rfl)) ?_
          refine fs_Jgi S hG fs_in12 rfl 45 (Nat.le_of_ble_eq_true rfl) tw_5_237 (fun _ h9 => h9) d_Rf_take_58 (fun v9 => ?_)
          refine fs_if (fun _ _ _ _ => lv_icmp_le hx hb d_Rf_take_61 rfl) ?_ ?_
          · refine fs_lift (fun _ _ _ _ => lv_lconst (v := 0) hx hb d_Rf_take_68 (by decide)) ?_
            refine fs_liftL (fun _ _ _ _ => lv_lstore_n (lv' := [(3, .long 0), (0, .ref a0), (2, .int v7)]) hx hb d_Rf_take_69 rfl hl (Nat.le_of_ble_eq_true rfl) rfl) (fun ls hl => ?_)
            refine fs_lift (fun _ _ _ _ => lv_iconst (v := 0) hx hb d_Rf_take_70 (by decide)) ?_
            refine fs_liftL (fun _ _ _ _ => lv_istore (lv' := [(5, .int 0), (3, .long 0), (0, .ref a0), (2, .int v7)]) hx hb d_Rf_take_71 hl (Nat.le_of_ble_eq_true rfl) rfl) (fun ls hl => ?_)
            refine fs_Jlp2 (nL := 6) (pc := 73) (rest := []) (I := fun (v10 : Int64) (v11 : Int32) => [(0, .ref a0), (2, .int v7), (3, .long v10), (5, .int v11)]) (fun k73 hk73 v10 v11 ls hl => ?_) _ _ _ _ (lv_sub hl [2, 3, 1, 0] rfl)
            refine fs_lift (fun _ _ _ _ => lv_iload hx hb d_Rf_take_73 (lv_at hl 3 rfl)) ?_
            refine fs_lift (fun _ _ _ _ => lv_iload_n hx hb d_Rf_take_75 rfl (lv_at hl 1 rfl)) ?_
            refine fs_if (fun _ _ _ _ => lv_icmp_ge hx hb d_Rf_take_76 rfl) ?_ ?_
            · refine fs_lift (fun _ _ _ _ => lv_lload_n hx hb d_Rf_take_112 rfl (lv_at hl 2 rfl)) ?_
              exact fs_Jlret S hr hk rfl d_Rf_take_113
            · refine fs_lift (fun _ _ _ _ => lv_ldc2 hx hb S.2.2.2.1 (S.2.2.2.2 _ tw_7_26) d_Rf_take_79) ?_
              refine fs_lift (fun _ _ _ _ => lv_lload_n hx hb d_Rf_take_82 rfl (lv_at hl 2 rfl)) ?_
              refine fs_lift (fun _ _ _ _ => lv_lmul hx hb d_Rf_take_83) ?_
              refine fs_lift (fun _ _ _ _ => lv_aload_n hx hb d_Rf_take_84 rfl (lv_at hl 0 rfl)) ?_
              refine fs_Jgr S hG fs_in12 rfl 46 (Nat.le_of_ble_eq_true rfl) tw_5_238 (fun _ h9 => h9) d_Rf_take_85 (fun r12 => ?_)
              refine fs_lift (fun _ _ _ _ => lv_aload_n hx hb d_Rf_take_88 rfl (lv_at hl 0 rfl)) ?_
              refine fs_Jgi S hG fs_in12 rfl 47 (Nat.le_of_ble_eq_true rfl) tw_5_239 (fun _ h9 => h9) d_Rf_take_89 (fun v13 => ?_)
              refine fs_Jai S hG d_Rf_take_92 (fun v14 => ?_)
              refine fs_lift (fun _ _ _ _ => lv_i2l hx hb d_Rf_take_93 rfl) ?_
              refine fs_lift (fun _ _ _ _ => lv_ladd hx hb d_Rf_take_94) ?_
              refine fs_Jnj (fun v15 => ?_)
              refine fs_liftL (fun _ _ _ _ => lv_lstore_n (lv' := [(3, .long v15), (0, .ref a0), (2, .int v7), (5, .int v11)]) hx hb d_Rf_take_95 rfl hl (Nat.le_of_ble_eq_true rfl) rfl) (fun ls hl => ?_)
              refine fs_lift (fun _ _ _ _ => lv_aload_n hx hb d_Rf_take_96 rfl (lv_at hl 1 rfl)) ?_
              refine fs_lift (fun _ _ _ _ => lv_dup hx hb d_Rf_take_97 rfl) ?_
              refine fs_Jgi S hG fs_in12 rfl 47 (Nat.le_of_ble_eq_true rfl) tw_5_239 (fun _ h9 => h9) d_Rf_take_98 (fun v16 => ?_)
              refine fs_lift (fun _ _ _ _ => lv_iconst (v := 1) hx hb d_Rf_take_101 (by decide)) ?_
              refine fs_lift (fun _ _ _ _ => lv_iadd hx hb d_Rf_take_102) ?_
              refine fs_Jput S hG fs_in12 rfl 47 (Nat.le_of_ble_eq_true rfl) tw_5_239 (fun _ h9 => h9) fs_Y12 fs_ty12 fs_nm12 (Or.inl rfl) rfl rfl d_Rf_take_103 ?_
              refine fs_Jnm (fun v17 hv9 => ?_)
              refine fs_liftL (fun _ _ _ _ => lv_iinc (k := 3) (v := v17) (lv' := [(5, .int v17), (3, .long v15), (0, .ref a0), (2, .int v7)]) hx hb d_Rf_take_106 hl rfl (by rw [hv9]; rfl) (Nat.le_of_ble_eq_true rfl) rfl) (fun ls hl => ?_)
              refine fs_lift (fun _ _ _ _ => lv_goto hx hb d_Rf_take_109 rfl) ?_
              exact hk73 v15 v17 ls (lv_sub hl [2, 3, 1, 0] rfl)
          · exact hj64 () ls (lv_sub hl [] rfl)
  · refine fs_ifn (fun _ _ _ _ => lv_if_ne hx hb d_Rf_take_3 rfl) ?_ ?_
    · refine fs_lift (fun _ _ _ _ => lv_aload_n hx hb d_Rf_take_6 rfl (lv_at hl 1 rfl)) ?_
      refine fs_Jgi S hG fs_in12 rfl 47 (Nat.le_of_ble_eq_true rfl) tw_5_239 (fun _ h9 => h9) d_Rf_take_7 (fun v1 => ?_)
      refine fs_lift (fun _ _ _ _ => lv_aload_n hx hb d_Rf_take_10 rfl (lv_at hl 1 rfl)) ?_
      refine fs_Jgi S hG fs_in12 rfl 45 (Nat.le_of_ble_eq_true rfl) tw_5_237 (fun _ h9 => h9) d_Rf_take_11 (fun v2 => ?_)
      refine fs_if (fun _ _ _ _ => lv_icmp_lt hx hb d_Rf_take_14 rfl) ?_ ?_
      · refine fs_lift (fun _ _ _ _ => lv_aload_n hx hb d_Rf_take_21 rfl (lv_at hl 1 rfl)) ?_
        refine fs_Jgr S hG fs_in12 rfl 46 (Nat.le_of_ble_eq_true rfl) tw_5_238 (fun _ h9 => h9) d_Rf_take_22 (fun r3 => ?_)
        refine fs_lift (fun _ _ _ _ => lv_aload_n hx hb d_Rf_take_25 rfl (lv_at hl 1 rfl)) ?_
        refine fs_Jgi S hG fs_in12 rfl 47 (Nat.le_of_ble_eq_true rfl) tw_5_239 (fun _ h9 => h9) d_Rf_take_26 (fun v4 => ?_)
        refine fs_Jai S hG d_Rf_take_29 (fun v5 => ?_)
        refine fs_liftL (fun _ _ _ _ => lv_istore_n (lv' := [(2, .int v5), (0, .ref a0), (1, .int x1)]) hx hb d_Rf_take_30 rfl hl (Nat.le_of_ble_eq_true rfl) rfl) (fun ls hl => ?_)
        refine fs_lift (fun _ _ _ _ => lv_aload_n hx hb d_Rf_take_31 rfl (lv_at hl 1 rfl)) ?_
        refine fs_lift (fun _ _ _ _ => lv_dup hx hb d_Rf_take_32 rfl) ?_
        refine fs_Jgi S hG fs_in12 rfl 47 (Nat.le_of_ble_eq_true rfl) tw_5_239 (fun _ h9 => h9) d_Rf_take_33 (fun v6 => ?_)
        refine fs_lift (fun _ _ _ _ => lv_iconst (v := 1) hx hb d_Rf_take_36 (by decide)) ?_
        refine fs_lift (fun _ _ _ _ => lv_iadd hx hb d_Rf_take_37) ?_
        refine fs_Jput S hG fs_in12 rfl 47 (Nat.le_of_ble_eq_true rfl) tw_5_239 (fun _ h9 => h9) fs_Y12 fs_ty12 fs_nm12 (Or.inl rfl) rfl rfl d_Rf_take_38 ?_
        exact hj41 v5 ls (lv_sub hl [1, 0] rfl)
      · refine fs_lift (fun _ _ _ _ => lv_ldc2 hx hb S.2.2.2.1 (S.2.2.2.2 _ tw_7_21) d_Rf_take_17) ?_
        exact fs_Jlret S hr hk rfl d_Rf_take_20
    · exact hj41 x1 ls (lv_sub hl [1, 0] rfl)

theorem d_Rf_read_0 : decode prog_13_method_36_code 0 = .ok (.aload_n 0, 1) := by decide +kernel
theorem d_Rf_read_1 : decode prog_13_method_36_code 1 = .ok (.bipush 7, 2) := by decide +kernel
theorem d_Rf_read_3 : decode prog_13_method_36_code 3 = .ok (.putfield 207, 3) := by decide +kernel
theorem d_Rf_read_6 : decode prog_13_method_36_code 6 = .ok (.iconst 0, 1) := by decide +kernel
theorem d_Rf_read_7 : decode prog_13_method_36_code 7 = .ok (.istore_n 3, 1) := by decide +kernel
theorem d_Rf_read_8 : decode prog_13_method_36_code 8 = .ok (.iload_n 3, 1) := by decide +kernel
theorem d_Rf_read_9 : decode prog_13_method_36_code 9 = .ok (.aload_n 0, 1) := by decide +kernel
theorem d_Rf_read_10 : decode prog_13_method_36_code 10 = .ok (.getfield 129, 3) := by decide +kernel
theorem d_Rf_read_13 : decode prog_13_method_36_code 13 = .ok (.iconst 5, 1) := by decide +kernel
theorem d_Rf_read_14 : decode prog_13_method_36_code 14 = .ok (.iaload, 1) := by decide +kernel
theorem d_Rf_read_15 : decode prog_13_method_36_code 15 = .ok (.if_icmp .ge 144, 3) := by decide +kernel
theorem d_Rf_read_18 : decode prog_13_method_36_code 18 = .ok (.iload_n 2, 1) := by decide +kernel
theorem d_Rf_read_19 : decode prog_13_method_36_code 19 = .ok (.ifCond .eq 56, 3) := by decide +kernel
theorem d_Rf_read_22 : decode prog_13_method_36_code 22 = .ok (.aload_n 0, 1) := by decide +kernel
theorem d_Rf_read_23 : decode prog_13_method_36_code 23 = .ok (.getfield 107, 3) := by decide +kernel
theorem d_Rf_read_26 : decode prog_13_method_36_code 26 = .ok (.aload_n 0, 1) := by decide +kernel
theorem d_Rf_read_27 : decode prog_13_method_36_code 27 = .ok (.getfield 214, 3) := by decide +kernel
theorem d_Rf_read_30 : decode prog_13_method_36_code 30 = .ok (.iload_n 3, 1) := by decide +kernel
theorem d_Rf_read_31 : decode prog_13_method_36_code 31 = .ok (.iadd, 1) := by decide +kernel
theorem d_Rf_read_32 : decode prog_13_method_36_code 32 = .ok (.aload_n 0, 1) := by decide +kernel
theorem d_Rf_read_33 : decode prog_13_method_36_code 33 = .ok (.getfield 129, 3) := by decide +kernel
theorem d_Rf_read_36 : decode prog_13_method_36_code 36 = .ok (.iconst 0, 1) := by decide +kernel
theorem d_Rf_read_37 : decode prog_13_method_36_code 37 = .ok (.iaload, 1) := by decide +kernel
theorem d_Rf_read_38 : decode prog_13_method_36_code 38 = .ok (.iastore, 1) := by decide +kernel
theorem d_Rf_read_39 : decode prog_13_method_36_code 39 = .ok (.iconst 0, 1) := by decide +kernel
theorem d_Rf_read_40 : decode prog_13_method_36_code 40 = .ok (.istore 4, 2) := by decide +kernel
theorem d_Rf_read_42 : decode prog_13_method_36_code 42 = .ok (.iload 4, 2) := by decide +kernel
theorem d_Rf_read_44 : decode prog_13_method_36_code 44 = .ok (.bipush 8, 2) := by decide +kernel
theorem d_Rf_read_46 : decode prog_13_method_36_code 46 = .ok (.if_icmp .ge 29, 3) := by decide +kernel
theorem d_Rf_read_49 : decode prog_13_method_36_code 49 = .ok (.aload_n 0, 1) := by decide +kernel
theorem d_Rf_read_50 : decode prog_13_method_36_code 50 = .ok (.getfield 110, 3) := by decide +kernel
theorem d_Rf_read_53 : decode prog_13_method_36_code 53 = .ok (.bipush 8, 2) := by decide +kernel
theorem d_Rf_read_55 : decode prog_13_method_36_code 55 = .ok (.aload_n 0, 1) := by decide +kernel
theorem d_Rf_read_56 : decode prog_13_method_36_code 56 = .ok (.getfield 214, 3) := by decide +kernel
theorem d_Rf_read_59 : decode prog_13_method_36_code 59 = .ok (.iload_n 3, 1) := by decide +kernel
theorem d_Rf_read_60 : decode prog_13_method_36_code 60 = .ok (.iadd, 1) := by decide +kernel
theorem d_Rf_read_61 : decode prog_13_method_36_code 61 = .ok (.imul, 1) := by decide +kernel
theorem d_Rf_read_62 : decode prog_13_method_36_code 62 = .ok (.iload 4, 2) := by decide +kernel
theorem d_Rf_read_64 : decode prog_13_method_36_code 64 = .ok (.iadd, 1) := by decide +kernel
theorem d_Rf_read_65 : decode prog_13_method_36_code 65 = .ok (.ldc2_w 210, 3) := by decide +kernel
theorem d_Rf_read_68 : decode prog_13_method_36_code 68 = .ok (.lastore, 1) := by decide +kernel
theorem d_Rf_read_69 : decode prog_13_method_36_code 69 = .ok (.iinc 4 1, 3) := by decide +kernel
theorem d_Rf_read_72 : decode prog_13_method_36_code 72 = .ok (.goto (-30), 3) := by decide +kernel
theorem d_Rf_read_75 : decode prog_13_method_36_code 75 = .ok (.bipush 8, 2) := by decide +kernel
theorem d_Rf_read_77 : decode prog_13_method_36_code 77 = .ok (.iload_n 1, 1) := by decide +kernel
theorem d_Rf_read_78 : decode prog_13_method_36_code 78 = .ok (.imul, 1) := by decide +kernel
theorem d_Rf_read_79 : decode prog_13_method_36_code 79 = .ok (.istore 4, 2) := by decide +kernel
theorem d_Rf_read_81 : decode prog_13_method_36_code 81 = .ok (.iload 4, 2) := by decide +kernel
theorem d_Rf_read_83 : decode prog_13_method_36_code 83 = .ok (.bipush 8, 2) := by decide +kernel
theorem d_Rf_read_85 : decode prog_13_method_36_code 85 = .ok (.iload_n 1, 1) := by decide +kernel
theorem d_Rf_read_86 : decode prog_13_method_36_code 86 = .ok (.imul, 1) := by decide +kernel
theorem d_Rf_read_87 : decode prog_13_method_36_code 87 = .ok (.aload_n 0, 1) := by decide +kernel
theorem d_Rf_read_88 : decode prog_13_method_36_code 88 = .ok (.getfield 88, 3) := by decide +kernel
theorem d_Rf_read_91 : decode prog_13_method_36_code 91 = .ok (.iload_n 1, 1) := by decide +kernel
theorem d_Rf_read_92 : decode prog_13_method_36_code 92 = .ok (.iaload, 1) := by decide +kernel
theorem d_Rf_read_93 : decode prog_13_method_36_code 93 = .ok (.iadd, 1) := by decide +kernel
theorem d_Rf_read_94 : decode prog_13_method_36_code 94 = .ok (.if_icmp .ge 59, 3) := by decide +kernel
theorem d_Rf_read_97 : decode prog_13_method_36_code 97 = .ok (.aload_n 0, 1) := by decide +kernel
theorem d_Rf_read_98 : decode prog_13_method_36_code 98 = .ok (.aload_n 0, 1) := by decide +kernel
theorem d_Rf_read_99 : decode prog_13_method_36_code 99 = .ok (.getfield 94, 3) := by decide +kernel
theorem d_Rf_read_102 : decode prog_13_method_36_code 102 = .ok (.iload 4, 2) := by decide +kernel
theorem d_Rf_read_104 : decode prog_13_method_36_code 104 = .ok (.iaload, 1) := by decide +kernel
theorem d_Rf_read_105 : decode prog_13_method_36_code 105 = .ok (.invokevirtual 217, 3) := by decide +kernel
theorem d_Rf_read_108 : decode prog_13_method_36_code 108 = .ok (.lstore 5, 2) := by decide +kernel
theorem d_Rf_read_110 : decode prog_13_method_36_code 110 = .ok (.lload 5, 2) := by decide +kernel
theorem d_Rf_read_112 : decode prog_13_method_36_code 112 = .ok (.lconst 0, 1) := by decide +kernel
theorem d_Rf_read_113 : decode prog_13_method_36_code 113 = .ok (.lcmp, 1) := by decide +kernel
theorem d_Rf_read_114 : decode prog_13_method_36_code 114 = .ok (.ifCond .ge 5, 3) := by decide +kernel
theorem d_Rf_read_117 : decode prog_13_method_36_code 117 = .ok (.iconst 0, 1) := by decide +kernel
theorem d_Rf_read_118 : decode prog_13_method_36_code 118 = .ok (.ireturn, 1) := by decide +kernel
theorem d_Rf_read_119 : decode prog_13_method_36_code 119 = .ok (.iload_n 2, 1) := by decide +kernel
theorem d_Rf_read_120 : decode prog_13_method_36_code 120 = .ok (.ifCond .eq 27, 3) := by decide +kernel
theorem d_Rf_read_123 : decode prog_13_method_36_code 123 = .ok (.aload_n 0, 1) := by decide +kernel
theorem d_Rf_read_124 : decode prog_13_method_36_code 124 = .ok (.getfield 110, 3) := by decide +kernel
theorem d_Rf_read_127 : decode prog_13_method_36_code 127 = .ok (.bipush 8, 2) := by decide +kernel
theorem d_Rf_read_129 : decode prog_13_method_36_code 129 = .ok (.aload_n 0, 1) := by decide +kernel
theorem d_Rf_read_130 : decode prog_13_method_36_code 130 = .ok (.getfield 214, 3) := by decide +kernel
theorem d_Rf_read_133 : decode prog_13_method_36_code 133 = .ok (.iload_n 3, 1) := by decide +kernel
theorem d_Rf_read_134 : decode prog_13_method_36_code 134 = .ok (.iadd, 1) := by decide +kernel
theorem d_Rf_read_135 : decode prog_13_method_36_code 135 = .ok (.imul, 1) := by decide +kernel
theorem d_Rf_read_136 : decode prog_13_method_36_code 136 = .ok (.aload_n 0, 1) := by decide +kernel
theorem d_Rf_read_137 : decode prog_13_method_36_code 137 = .ok (.getfield 91, 3) := by decide +kernel
theorem d_Rf_read_140 : decode prog_13_method_36_code 140 = .ok (.iload 4, 2) := by decide +kernel
theorem d_Rf_read_142 : decode prog_13_method_36_code 142 = .ok (.iaload, 1) := by decide +kernel
theorem d_Rf_read_143 : decode prog_13_method_36_code 143 = .ok (.iadd, 1) := by decide +kernel
theorem d_Rf_read_144 : decode prog_13_method_36_code 144 = .ok (.lload 5, 2) := by decide +kernel
theorem d_Rf_read_146 : decode prog_13_method_36_code 146 = .ok (.lastore, 1) := by decide +kernel
theorem d_Rf_read_147 : decode prog_13_method_36_code 147 = .ok (.iinc 4 1, 3) := by decide +kernel
theorem d_Rf_read_150 : decode prog_13_method_36_code 150 = .ok (.goto (-69), 3) := by decide +kernel
theorem d_Rf_read_153 : decode prog_13_method_36_code 153 = .ok (.iinc 3 1, 3) := by decide +kernel
theorem d_Rf_read_156 : decode prog_13_method_36_code 156 = .ok (.goto (-148), 3) := by decide +kernel
theorem d_Rf_read_159 : decode prog_13_method_36_code 159 = .ok (.aload_n 0, 1) := by decide +kernel
theorem d_Rf_read_160 : decode prog_13_method_36_code 160 = .ok (.getfield 207, 3) := by decide +kernel
theorem d_Rf_read_163 : decode prog_13_method_36_code 163 = .ok (.aload_n 0, 1) := by decide +kernel
theorem d_Rf_read_164 : decode prog_13_method_36_code 164 = .ok (.getfield 197, 3) := by decide +kernel
theorem d_Rf_read_167 : decode prog_13_method_36_code 167 = .ok (.if_icmp .ne 7, 3) := by decide +kernel
theorem d_Rf_read_170 : decode prog_13_method_36_code 170 = .ok (.iconst 1, 1) := by decide +kernel
theorem d_Rf_read_171 : decode prog_13_method_36_code 171 = .ok (.goto 4, 3) := by decide +kernel
theorem d_Rf_read_174 : decode prog_13_method_36_code 174 = .ok (.iconst 0, 1) := by decide +kernel
theorem d_Rf_read_175 : decode prog_13_method_36_code 175 = .ok (.ireturn, 1) := by decide +kernel
theorem q_Rf_read : (⟨"FlowShelfModel", "read", "(IZ)Z"⟩ : MethodName).cls ≠ "java/lang/invoke/MethodHandle" ∧ (⟨"FlowShelfModel", "read", "(IZ)Z"⟩ : MethodName).cls ≠ "java/lang/invoke/VarHandle" ∧ (parseMethodDescriptor (⟨"FlowShelfModel", "read", "(IZ)Z"⟩ : MethodName).desc).map (fun d => d.parameters.length) = some 2 := by decide +kernel
set_option maxHeartbeats 4000000 in
set_option maxRecDepth 100000 in
theorem m_Rf_read (X : fs_X) (l : Launch) (a0 : Nat) (x1 : Int32) (x2 : Int32) {r : Int32} {σ σF : fs_S} (h : (f_Rf_read a0 x1 x2).1 σ = some (r, σF)) : fs_Met X l ⟨"FlowShelfModel", "read", "(IZ)Z"⟩ (Cond.code ⟨"FlowShelfModel", "read", "(IZ)Z"⟩ prog_13_method_36_code 7 (some FieldType.boolean)) 1 25 [.ref a0, .int x1, .int x2] σ (fs_eI r) σF := by
  refine fs_ofW (by decide) ?_
  intro p e s m args below meth c s₁ B hml hT hv
  obtain ⟨rfl, hw0, hG⟩ := hv
  have hx := B.exec
  have hb := B.bytes
  have hr := B.returns
  have hk := B.notSynchronized
  have S : CallFix p m c prog_13_method_36_code 7 s _ fs_ws "FlowShelfModel" := ⟨B.exec, B.bytes, hml, findClass_of_methodNamed B.named, fun w hw => atoms_spec (ws := _ :: fs_ws) B.pre w (List.mem_cons_of_mem _ hw)⟩
  have hR := fs_hR (fr := 1) (lo := 25) ((f_Rf_read a0 x1 x2).2 _ _ _ h)
  have hl := lv_entry ([.ref a0, .int x1, .int x2]) (n := 7) (Nat.le_of_ble_eq_true rfl)
  rw [lg_entry_eq]
  generalize (lg_sl ([.ref a0, .int x1, .int x2]) ++ List.replicate (7 - (lg_sl ([.ref a0, .int x1, .int x2])).length) Slot.unset).toArray = ls at hl ⊢
  have hl : lv_has ls 7 [(0, .ref a0), (1, .int x1), (2, .int x2)] := hl
  refine (?_ : fs_J X p l e (fs_rm 1 25 σ σF) s m _ below meth c (fs_Q X below _ s (fs_eI r) σ σF) r σ σF (f_Rf_read a0 x1 x2) (F0 m 0 ls [])) σ s.heap [] 0 0 h hw0 va_S.rf rfl rfl
  clear h hw0
  unfold f_Rf_read
  refine fs_lift (fun _ _ _ _ => lv_aload_n hx hb d_Rf_read_0 rfl (lv_at hl 0 rfl)) ?_
  refine fs_lift (fun _ _ _ _ => lv_bipush (v := 7) hx hb d_Rf_read_1 (by decide)) ?_
  refine fs_Jput S hG fs_in12 rfl 47 (Nat.le_of_ble_eq_true rfl) tw_5_239 (fun _ h9 => h9) fs_Y12 fs_ty12 fs_nm12 (Or.inl rfl) rfl rfl d_Rf_read_3 ?_
  refine fs_lift (fun _ _ _ _ => lv_iconst (v := 0) hx hb d_Rf_read_6 (by decide)) ?_
  refine fs_liftL (fun _ _ _ _ => lv_istore_n (lv' := [(3, .int 0), (0, .ref a0), (1, .int x1), (2, .int x2)]) hx hb d_Rf_read_7 rfl hl (Nat.le_of_ble_eq_true rfl) rfl) (fun ls hl => ?_)
  refine fs_Jlp1 (nL := 7) (pc := 8) (rest := []) (I := fun (v1 : Int32) => [(0, .ref a0), (1, .int x1), (2, .int x2), (3, .int v1)]) (fun k8 hk8 v1 ls hl => ?_) _ _ _ (lv_sub hl [1, 2, 3, 0] rfl)
  refine fs_lift (fun _ _ _ _ => lv_iload_n hx hb d_Rf_read_8 rfl (lv_at hl 3 rfl)) ?_
  refine fs_lift (fun _ _ _ _ => lv_aload_n hx hb d_Rf_read_9 rfl (lv_at hl 0 rfl)) ?_
  refine fs_Jgr S hG fs_in12 rfl 46 (Nat.le_of_ble_eq_true rfl) tw_5_238 (fun _ h9 => h9) d_Rf_read_10 (fun r2 => ?_)
  refine fs_lift (fun _ _ _ _ => lv_iconst (v := 5) hx hb d_Rf_read_13 (by decide)) ?_
  refine fs_Jai S hG d_Rf_read_14 (fun v3 => ?_)
  refine fs_if (fun _ _ _ _ => lv_icmp_ge hx hb d_Rf_read_15 rfl) ?_ ?_
  · refine fs_lift (fun _ _ _ _ => lv_aload_n hx hb d_Rf_read_159 rfl (lv_at hl 0 rfl)) ?_
    refine fs_Jgi S hG fs_in12 rfl 47 (Nat.le_of_ble_eq_true rfl) tw_5_239 (fun _ h9 => h9) d_Rf_read_160 (fun v4 => ?_)
    refine fs_lift (fun _ _ _ _ => lv_aload_n hx hb d_Rf_read_163 rfl (lv_at hl 0 rfl)) ?_
    refine fs_Jgi S hG fs_in12 rfl 45 (Nat.le_of_ble_eq_true rfl) tw_5_237 (fun _ h9 => h9) d_Rf_read_164 (fun v5 => ?_)
    refine fs_ifn (fun _ _ _ _ => lv_icmp_ne hx hb d_Rf_read_167 rfl) ?_ ?_
    · refine fs_lift (fun _ _ _ _ => lv_iconst (v := 1) hx hb d_Rf_read_170 (by decide)) ?_
      refine fs_lift (fun _ _ _ _ => lv_goto hx hb d_Rf_read_171 rfl) ?_
      exact fs_Jzret S hr hk rfl d_Rf_read_175
    · refine fs_lift (fun _ _ _ _ => lv_iconst (v := 0) hx hb d_Rf_read_174 (by decide)) ?_
      exact fs_Jzret S hr hk rfl d_Rf_read_175
  · refine fs_lift (fun _ _ _ _ => lv_iload_n hx hb d_Rf_read_18 rfl (lv_at hl 2 rfl)) ?_
    refine fs_Jlet1 (nL := 7) (pj := 75) (I := fun (_ : Unit) => [(0, .ref a0), (1, .int x1), (2, .int x2), (3, .int v1)]) (st := fun (_ : Unit) => []) (fun _ ls hl => ?_) (fun j75 hj75 => ?_)
    · refine fs_lift (fun _ _ _ _ => lv_bipush (v := 8) hx hb d_Rf_read_75 (by decide)) ?_
      refine fs_lift (fun _ _ _ _ => lv_iload_n hx hb d_Rf_read_77 rfl (lv_at hl 1 rfl)) ?_
      refine fs_lift (fun _ _ _ _ => lv_imul hx hb d_Rf_read_78) ?_
      refine fs_Jni (fun v14 => ?_)
      refine fs_liftL (fun _ _ _ _ => lv_istore (lv' := [(4, .int v14), (0, .ref a0), (1, .int x1), (2, .int x2), (3, .int v1)]) hx hb d_Rf_read_79 hl (Nat.le_of_ble_eq_true rfl) rfl) (fun ls hl => ?_)
      refine fs_Jlp1 (nL := 7) (pc := 81) (rest := []) (I := fun (v15 : Int32) => [(0, .ref a0), (1, .int x1), (2, .int x2), (3, .int v1), (4, .int v15)]) (fun k81 hk81 v15 ls hl => ?_) _ _ _ (lv_sub hl [1, 2, 3, 4, 0] rfl)
      refine fs_lift (fun _ _ _ _ => lv_iload hx hb d_Rf_read_81 (lv_at hl 4 rfl)) ?_
      refine fs_lift (fun _ _ _ _ => lv_bipush (v := 8) hx hb d_Rf_read_83 (by decide)) ?_
      refine fs_lift (fun _ _ _ _ => lv_iload_n hx hb d_Rf_read_85 rfl (lv_at hl 1 rfl)) ?_
      refine fs_lift (fun _ _ _ _ => lv_imul hx hb d_Rf_read_86) ?_
      refine fs_lift (fun _ _ _ _ => lv_aload_n hx hb d_Rf_read_87 rfl (lv_at hl 0 rfl)) ?_
      refine fs_Jgr S hG fs_in12 rfl 30 (Nat.le_of_ble_eq_true rfl) tw_5_222 (fun _ h9 => h9) d_Rf_read_88 (fun r16 => ?_)
      refine fs_lift (fun _ _ _ _ => lv_iload_n hx hb d_Rf_read_91 rfl (lv_at hl 1 rfl)) ?_
      refine fs_Jai S hG d_Rf_read_92 (fun v17 => ?_)
      refine fs_lift (fun _ _ _ _ => lv_iadd hx hb d_Rf_read_93) ?_
      refine fs_if (fun _ _ _ _ => lv_icmp_ge hx hb d_Rf_read_94 rfl) ?_ ?_
      · refine fs_Jnm (fun v18 hv9 => ?_)
        refine fs_liftL (fun _ _ _ _ => lv_iinc (k := 3) (v := v18) (lv' := [(3, .int v18), (0, .ref a0), (1, .int x1), (2, .int x2), (4, .int v15)]) hx hb d_Rf_read_153 hl rfl (by rw [hv9]; rfl) (Nat.le_of_ble_eq_true rfl) rfl) (fun ls hl => ?_)
        refine fs_lift (fun _ _ _ _ => lv_goto hx hb d_Rf_read_156 rfl) ?_
        exact hk8 v18 ls (lv_sub hl [1, 2, 3, 0] rfl)
      · refine fs_lift (fun _ _ _ _ => lv_aload_n hx hb d_Rf_read_97 rfl (lv_at hl 0 rfl)) ?_
        refine fs_lift (fun _ _ _ _ => lv_aload_n hx hb d_Rf_read_98 rfl (lv_at hl 0 rfl)) ?_
        refine fs_Jgr S hG fs_in12 rfl 32 (Nat.le_of_ble_eq_true rfl) tw_5_224 (fun _ h9 => h9) d_Rf_read_99 (fun r19 => ?_)
        refine fs_lift (fun _ _ _ _ => lv_iload hx hb d_Rf_read_102 (lv_at hl 4 rfl)) ?_
        refine fs_Jai S hG d_Rf_read_104 (fun v20 => ?_)
        refine fs_JV S hG hR rfl [.int v20] (enc := fun r => some (.long r)) (fun zr zs zt zh => m_Rf_take X l a0 v20 zh) tw_7_22 tw_7_24 tp_3_3 tw_7_25 tw_1_11 q_Rf_take ⟨(Nat.le_of_ble_eq_true rfl), (Nat.le_of_ble_eq_true rfl)⟩ hl.1 rfl (Nat.le_of_ble_eq_true rfl) d_Rf_read_105 (fun v21 => ?_)
        refine fs_Jeq (g2 := F0 m 108 ls [.long v21]) rfl ?_
        refine fs_liftL (fun _ _ _ _ => lv_lstore (lv' := [(5, .long v21), (0, .ref a0), (1, .int x1), (2, .int x2), (3, .int v1), (4, .int v15)]) hx hb d_Rf_read_108 hl (Nat.le_of_ble_eq_true rfl) rfl) (fun ls hl => ?_)
        refine fs_lift (fun _ _ _ _ => lv_lload hx hb d_Rf_read_110 (lv_at hl 0 rfl)) ?_
        refine fs_lift (fun _ _ _ _ => lv_lconst (v := 0) hx hb d_Rf_read_112 (by decide)) ?_
        refine fs_lift (fun _ _ _ _ => W.lcmp hx hb d_Rf_read_113) ?_
        refine fs_if (fun _ _ _ _ => lv_if_ge hx hb d_Rf_read_114 rfl) ?_ ?_
        · refine fs_lift (fun _ _ _ _ => lv_iload_n hx hb d_Rf_read_119 rfl (lv_at hl 3 rfl)) ?_
          refine fs_Jlet1 (nL := 7) (pj := 147) (I := fun (_ : Unit) => [(0, .ref a0), (1, .int x1), (2, .int x2), (3, .int v1), (4, .int v15)]) (st := fun (_ : Unit) => []) (fun _ ls hl => ?_) (fun j147 hj147 => ?_)
          · refine fs_Jnm (fun v26 hv9 => ?_)
            refine fs_liftL (fun _ _ _ _ => lv_iinc (k := 4) (v := v26) (lv' := [(4, .int v26), (0, .ref a0), (1, .int x1), (2, .int x2), (3, .int v1)]) hx hb d_Rf_read_147 hl rfl (by rw [hv9]; rfl) (Nat.le_of_ble_eq_true rfl) rfl) (fun ls hl => ?_)
            refine fs_lift (fun _ _ _ _ => lv_goto hx hb d_Rf_read_150 rfl) ?_
            exact hk81 v26 ls (lv_sub hl [1, 2, 3, 4, 0] rfl)
          · refine fs_if (fun _ _ _ _ => lv_if_eq hx hb d_Rf_read_120 rfl) ?_ ?_
            · exact hj147 () ls (lv_sub hl [1, 2, 3, 4, 5] rfl)
            · refine fs_lift (fun _ _ _ _ => lv_aload_n hx hb d_Rf_read_123 rfl (lv_at hl 1 rfl)) ?_
              refine fs_Jgr S hG fs_in12 rfl 39 (Nat.le_of_ble_eq_true rfl) tw_5_231 (fun _ h9 => h9) d_Rf_read_124 (fun r22 => ?_)
              refine fs_lift (fun _ _ _ _ => lv_bipush (v := 8) hx hb d_Rf_read_127 (by decide)) ?_
              refine fs_lift (fun _ _ _ _ => lv_aload_n hx hb d_Rf_read_129 rfl (lv_at hl 1 rfl)) ?_
              refine fs_Jgi S hG fs_in12 rfl 37 (Nat.le_of_ble_eq_true rfl) tw_5_229 (fun _ h9 => h9) d_Rf_read_130 (fun v23 => ?_)
              refine fs_lift (fun _ _ _ _ => lv_iload_n hx hb d_Rf_read_133 rfl (lv_at hl 4 rfl)) ?_
              refine fs_lift (fun _ _ _ _ => lv_iadd hx hb d_Rf_read_134) ?_
              refine fs_lift (fun _ _ _ _ => lv_imul hx hb d_Rf_read_135) ?_
              refine fs_lift (fun _ _ _ _ => lv_aload_n hx hb d_Rf_read_136 rfl (lv_at hl 1 rfl)) ?_
              refine fs_Jgr S hG fs_in12 rfl 31 (Nat.le_of_ble_eq_true rfl) tw_5_223 (fun _ h9 => h9) d_Rf_read_137 (fun r24 => ?_)
              refine fs_lift (fun _ _ _ _ => lv_iload hx hb d_Rf_read_140 (lv_at hl 5 rfl)) ?_
              refine fs_Jai S hG d_Rf_read_142 (fun v25 => ?_)
              refine fs_lift (fun _ _ _ _ => lv_iadd hx hb d_Rf_read_143) ?_
              refine fs_lift (fun _ _ _ _ => lv_lload hx hb d_Rf_read_144 (lv_at hl 0 rfl)) ?_
              refine fs_Jsj S hG d_Rf_read_146 ?_
              exact hj147 () ls (lv_sub hl [1, 2, 3, 4, 5] rfl)
        · refine fs_lift (fun _ _ _ _ => lv_iconst (v := 0) hx hb d_Rf_read_117 (by decide)) ?_
          exact fs_Jzret S hr hk rfl d_Rf_read_118
    · refine fs_if (fun _ _ _ _ => lv_if_eq hx hb d_Rf_read_19 rfl) ?_ ?_
      · exact hj75 () ls (lv_sub hl [0, 1, 2, 3] rfl)
      · refine fs_lift (fun _ _ _ _ => lv_aload_n hx hb d_Rf_read_22 rfl (lv_at hl 0 rfl)) ?_
        refine fs_Jgr S hG fs_in12 rfl 38 (Nat.le_of_ble_eq_true rfl) tw_5_230 (fun _ h9 => h9) d_Rf_read_23 (fun r6 => ?_)
        refine fs_lift (fun _ _ _ _ => lv_aload_n hx hb d_Rf_read_26 rfl (lv_at hl 0 rfl)) ?_
        refine fs_Jgi S hG fs_in12 rfl 37 (Nat.le_of_ble_eq_true rfl) tw_5_229 (fun _ h9 => h9) d_Rf_read_27 (fun v7 => ?_)
        refine fs_lift (fun _ _ _ _ => lv_iload_n hx hb d_Rf_read_30 rfl (lv_at hl 3 rfl)) ?_
        refine fs_lift (fun _ _ _ _ => lv_iadd hx hb d_Rf_read_31) ?_
        refine fs_lift (fun _ _ _ _ => lv_aload_n hx hb d_Rf_read_32 rfl (lv_at hl 0 rfl)) ?_
        refine fs_Jgr S hG fs_in12 rfl 46 (Nat.le_of_ble_eq_true rfl) tw_5_238 (fun _ h9 => h9) d_Rf_read_33 (fun r8 => ?_)
        refine fs_lift (fun _ _ _ _ => lv_iconst (v := 0) hx hb d_Rf_read_36 (by decide)) ?_
        refine fs_Jai S hG d_Rf_read_37 (fun v9 => ?_)
        refine fs_Jsi S hG d_Rf_read_38 ?_
        refine fs_lift (fun _ _ _ _ => lv_iconst (v := 0) hx hb d_Rf_read_39 (by decide)) ?_
        refine fs_liftL (fun _ _ _ _ => lv_istore (lv' := [(4, .int 0), (0, .ref a0), (1, .int x1), (2, .int x2), (3, .int v1)]) hx hb d_Rf_read_40 hl (Nat.le_of_ble_eq_true rfl) rfl) (fun ls hl => ?_)
        refine fs_Jlp1 (nL := 7) (pc := 42) (rest := []) (I := fun (v10 : Int32) => [(0, .ref a0), (1, .int x1), (2, .int x2), (3, .int v1), (4, .int v10)]) (fun k42 hk42 v10 ls hl => ?_) _ _ _ (lv_sub hl [1, 2, 3, 4, 0] rfl)
        refine fs_lift (fun _ _ _ _ => lv_iload hx hb d_Rf_read_42 (lv_at hl 4 rfl)) ?_
        refine fs_lift (fun _ _ _ _ => lv_bipush (v := 8) hx hb d_Rf_read_44 (by decide)) ?_
        refine fs_if (fun _ _ _ _ => lv_icmp_ge hx hb d_Rf_read_46 rfl) ?_ ?_
        · exact hj75 () ls (lv_sub hl [0, 1, 2, 3] rfl)
        · refine fs_lift (fun _ _ _ _ => lv_aload_n hx hb d_Rf_read_49 rfl (lv_at hl 0 rfl)) ?_
          refine fs_Jgr S hG fs_in12 rfl 39 (Nat.le_of_ble_eq_true rfl) tw_5_231 (fun _ h9 => h9) d_Rf_read_50 (fun r11 => ?_)
          refine fs_lift (fun _ _ _ _ => lv_bipush (v := 8) hx hb d_Rf_read_53 (by decide)) ?_
          refine fs_lift (fun _ _ _ _ => lv_aload_n hx hb d_Rf_read_55 rfl (lv_at hl 0 rfl)) ?_
          refine fs_Jgi S hG fs_in12 rfl 37 (Nat.le_of_ble_eq_true rfl) tw_5_229 (fun _ h9 => h9) d_Rf_read_56 (fun v12 => ?_)
          refine fs_lift (fun _ _ _ _ => lv_iload_n hx hb d_Rf_read_59 rfl (lv_at hl 3 rfl)) ?_
          refine fs_lift (fun _ _ _ _ => lv_iadd hx hb d_Rf_read_60) ?_
          refine fs_lift (fun _ _ _ _ => lv_imul hx hb d_Rf_read_61) ?_
          refine fs_lift (fun _ _ _ _ => lv_iload hx hb d_Rf_read_62 (lv_at hl 4 rfl)) ?_
          refine fs_lift (fun _ _ _ _ => lv_iadd hx hb d_Rf_read_64) ?_
          refine fs_lift (fun _ _ _ _ => lv_ldc2 hx hb S.2.2.2.1 (S.2.2.2.2 _ tw_7_21) d_Rf_read_65) ?_
          refine fs_Jsj S hG d_Rf_read_68 ?_
          refine fs_Jnm (fun v13 hv9 => ?_)
          refine fs_liftL (fun _ _ _ _ => lv_iinc (k := 4) (v := v13) (lv' := [(4, .int v13), (0, .ref a0), (1, .int x1), (2, .int x2), (3, .int v1)]) hx hb d_Rf_read_69 hl rfl (by rw [hv9]; rfl) (Nat.le_of_ble_eq_true rfl) rfl) (fun ls hl => ?_)
          refine fs_lift (fun _ _ _ _ => lv_goto hx hb d_Rf_read_72 rfl) ?_
          exact hk42 v13 ls (lv_sub hl [1, 2, 3, 4, 0] rfl)

