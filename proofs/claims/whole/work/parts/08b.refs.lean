/-! arrays of references, statics, class objects, copies -/
theorem fs_co : ∀ (c : Nat) (r : vw_C), fs_cl[c]? = some r → c ≠ 2 → Cond.castable r.1 "java/lang/Object" ∈ lw_tbl := fun c r h hc => match c, h, hc with
  | 0, rfl, _ => tb_7_87
  | 1, rfl, _ => tb_7_88
  | 2, _, h => absurd rfl h
  | 3, rfl, _ => tb_7_89
  | 4, rfl, _ => tb_7_90
  | 5, rfl, _ => tb_7_91
  | 6, rfl, _ => tb_7_92
  | 7, rfl, _ => tb_7_93
  | 8, rfl, _ => tb_7_95
  | 9, rfl, _ => tb_7_96
  | 10, rfl, _ => tb_7_97
  | 11, rfl, _ => tb_7_98
  | 12, rfl, _ => tb_7_94
  | n + 13, h, _ => by cases h
theorem fs_G.decl {X : fs_X} {U : State} (h : fs_G X U) {x : MethodName} (hw : Cond.declares x ∈ lw_tbl) : va_Nw (.declares x) U := va_tabs rfl (rfl : ((fs_o X).setVm U.vm).vm = U.vm) (by rw [Cond.declares_setVm h.2.1.alike]; exact h.word hw rfl)
theorem fs_G.same {X : fs_X} {U : State} (h : fs_G X U) {a b n d : String} (hw : Cond.sameMethod a b n d ∈ lw_tbl) (hg : goodWord (Cond.sameMethod a b n d) = true) (args : Array Value) : (Cond.sameMethod a b n d).before args U = true := by
  obtain ⟨⟨⟨b, hb, -⟩, -⟩, hW, -⟩ := h
  exact word_at hW (good_of_word hg) (hb _ hw)
section FSR
variable {X : fs_X} {p : Program} {l : Launch} {e : Env} {R : Room} {s : State} {m : MethodId} {args : Array Value} {below : List Frame} {meth : Method} {c : Code} {Q : State → Prop} {α β : Type} {rF : α} {σ0 σF : fs_S}
variable {cc : ByteArray} {nL : Nat} {own ref C : String} {T : u_T} {N ci index a pc : Nat} {ls : Array Slot} {rest : List Value}
theorem fs_aceq {H : Heap} {locs : List Loc} {cells slots : Nat} (hexec : p.tables.exec = Jvm.exec) (hb : c.code = cc) {x y : Nat} {off : Int} {tgt : Nat} (hdg : decode cc pc = .ok (.if_acmp .eq off, 3)) (ht : (pc : Int) + off = (tgt : Int))
    (kt : x = y → W p l e R s m args below meth c H locs cells slots Q (F0 m tgt ls rest)) (kf : ¬ x = y → W p l e R s m args below meth c H locs cells slots Q (F0 m (pc + 3) ls rest)) : W p l e R s m args below meth c H locs cells slots Q (F0 m pc ls (.ref y :: .ref x :: rest)) :=
  lv_acmp_eq (rx := some x) (ry := some y) hexec hb hdg ht (fun q => kt (Option.some.inj q)) (fun q => kf (fun e => q (by rw [e])))
theorem fs_acne {H : Heap} {locs : List Loc} {cells slots : Nat} (hexec : p.tables.exec = Jvm.exec) (hb : c.code = cc) {x y : Nat} {off : Int} {tgt : Nat} (hdg : decode cc pc = .ok (.if_acmp .ne off, 3)) (ht : (pc : Int) + off = (tgt : Int))
    (kt : ¬ x = y → W p l e R s m args below meth c H locs cells slots Q (F0 m tgt ls rest)) (kf : x = y → W p l e R s m args below meth c H locs cells slots Q (F0 m (pc + 3) ls rest)) : W p l e R s m args below meth c H locs cells slots Q (F0 m pc ls (.ref y :: .ref x :: rest)) :=
  lv_acmp_ne (rx := some x) (ry := some y) hexec hb hdg ht (fun q => kt (fun e => q (by rw [e]))) (fun q => kf (Option.some.inj q))
theorem fs_Jmax (S : CallFix p m c cc nL s args fs_ws own) (hR : fs_n σF ≤ fs_n σ0 + R.cells ∧ fs_u σF ≤ fs_u σ0 + R.slots) (hsz : ls.size = nL) (wl : Cond.methodLink own index Lib.Math.max.name ∈ fs_ws) (wt : Cond.static Lib.Math.max.name ∈ fs_ws) (wc : Cond.code Lib.Math.max.name Lib.Math.max.code 2 (some .int) ∈ fs_ws) (hfr : 1 ≤ R.frames) (hlo : (rest.map fun v => v.category).sum + 13 ≤ R.locals) {x y : Int32} (hdg : decode cc pc = .ok (.invokestatic index, 3))
    {t : fs_T α} (K : fs_J X p l e R s m args below meth c Q rF σ0 σF t (F0 m (pc + 3) ls (.int (fs_max x y) :: rest))) : fs_J X p l e R s m args below meth c Q rF σ0 σF t (F0 m pc ls (.int y :: .int x :: rest)) := by
  intro σ H locs cells slots h hw hS h4 h5
  have hm := t.2 _ _ _ h
  have hm1 := hm.1
  have hm2 := hm.2
  have hts := S.2.2.2.2
  exact va_mmax S.1 S.2.1 (by rw [S.2.2.1]; exact hsz.symm) S.2.2.2.1 (hts _ wl) (hts _ wt) (hts _ tw_1_21) (hts _ wc) hfr hlo (by omega) (by omega) hdg (K σ H locs cells slots h hw hS h4 h5)
theorem fs_Jmin (S : CallFix p m c cc nL s args fs_ws own) (hR : fs_n σF ≤ fs_n σ0 + R.cells ∧ fs_u σF ≤ fs_u σ0 + R.slots) (hsz : ls.size = nL) (wl : Cond.methodLink own index Lib.Math.min.name ∈ fs_ws) (wt : Cond.static Lib.Math.min.name ∈ fs_ws) (wc : Cond.code Lib.Math.min.name Lib.Math.min.code 2 (some .int) ∈ fs_ws) (hfr : 1 ≤ R.frames) (hlo : (rest.map fun v => v.category).sum + 13 ≤ R.locals) {x y : Int32} (hdg : decode cc pc = .ok (.invokestatic index, 3))
    {t : fs_T α} (K : fs_J X p l e R s m args below meth c Q rF σ0 σF t (F0 m (pc + 3) ls (.int (fs_min x y) :: rest))) : fs_J X p l e R s m args below meth c Q rF σ0 σF t (F0 m pc ls (.int y :: .int x :: rest)) := by
  intro σ H locs cells slots h hw hS h4 h5
  have hm := t.2 _ _ _ h
  have hm1 := hm.1
  have hm2 := hm.2
  have hts := S.2.2.2.2
  exact va_mmin S.1 S.2.1 (by rw [S.2.2.1]; exact hsz.symm) S.2.2.2.1 (hts _ wl) (hts _ wt) (hts _ tw_1_21) (hts _ wc) hfr hlo (by omega) (by omega) hdg (K σ H locs cells slots h hw hS h4 h5)
theorem fs_Jabs (S : CallFix p m c cc nL s args fs_ws own) (hR : fs_n σF ≤ fs_n σ0 + R.cells ∧ fs_u σF ≤ fs_u σ0 + R.slots) (hsz : ls.size = nL) (wl : Cond.methodLink own index Lib.MathLoose.abs_long.x ∈ fs_ws) (wt : Cond.static Lib.MathLoose.abs_long.x ∈ fs_ws) (wc : Cond.code Lib.MathLoose.abs_long.x Lib.MathLoose.abs_long.code 2 (some .long) ∈ fs_ws) (hfr : 1 ≤ R.frames) (hlo : (rest.map fun v => v.category).sum + 13 ≤ R.locals) {x : Int64} (hdg : decode cc pc = .ok (.invokestatic index, 3))
    {t : fs_T α} (K : fs_J X p l e R s m args below meth c Q rF σ0 σF t (F0 m (pc + 3) ls (.long (fs_abs x) :: rest))) : fs_J X p l e R s m args below meth c Q rF σ0 σF t (F0 m pc ls (.long x :: rest)) := by
  intro σ H locs cells slots h hw hS h4 h5
  have hm := t.2 _ _ _ h
  have hm1 := hm.1
  have hm2 := hm.2
  have hts := S.2.2.2.2
  exact va_mabs_long S.1 S.2.1 (by rw [S.2.2.1]; exact hsz.symm) S.2.2.2.1 (hts _ wl) (hts _ wt) (hts _ tw_1_21) (hts _ wc) hfr hlo (by omega) (by omega) hdg (K σ H locs cells slots h hw hS h4 h5)
theorem fs_Jar (S : CallFix p m c cc nL s args fs_ws own) (hG : fs_G X s) {i : Int32} (hdg : decode cc pc = .ok (.aaload, 1))
    {kk : Nat → fs_T α} (K : ∀ v, fs_J X p l e R s m args below meth c Q rF σ0 σF (kk v) (F0 m (pc + 1) ls (.ref v :: rest))) : fs_J X p l e R s m args below meth c Q rF σ0 σF (fs_bind (fs_ar a i) kk) (F0 m pc ls (.int i :: .ref a :: rest)) := by
  intro σ H locs cells slots h hw hS h4 h5
  obtain ⟨v, σ1, h1, h2⟩ := fs_bdT h
  obtain ⟨e, e1, e2, rfl⟩ := fs_rd_ok h1
  obtain ⟨t, n, f, rfl, ht, e3, e4⟩ := fs_xR_ok e2
  obtain ⟨C, k, hk⟩ := fs_tyR hG.2.2 ht
  rcases hw.lk e1 with q | ⟨-, -, rfl, -⟩
  · refine va_aldq (ws := [(a, .inl (fs_ta X t, n, .inr (.inr (.inr (.inr f)))))]) S.1 S.2.1 hG.2.2 (fs_one q) 0 k rfl hk e3 hdg ?_
    rw [e4]
    exact K _ _ H locs cells slots h2 hw hS h4 h5
  · exact (e3 (Or.inr (Nat.zero_le _))).elim
theorem fs_Js0 (S : CallFix p m c cc nL s args fs_ws own) (hG : fs_G X s) {i : Int32} (hdg : decode cc pc = .ok (.aastore, 1))
    {kk : Unit → fs_T α} (K : fs_J X p l e R s m args below meth c Q rF σ0 σF (kk ()) (F0 m (pc + 1) ls rest)) : fs_J X p l e R s m args below meth c Q rF σ0 σF (fs_bind (fs_s0 a i) kk) (F0 m pc ls (.null :: .int i :: .ref a :: rest)) := by
  intro σ H locs cells slots h hw hS h4 h5
  obtain ⟨u, σ1, h1, h2⟩ := fs_bdT h
  obtain ⟨e, e1, q1, q2, rfl⟩ := fs_wr_ok h1
  obtain ⟨n, f, rfl, hin, rfl⟩ := fs_y0_ok q2
  have hz := (hw.2.2.2.1 a _ q1).1
  refine va_WaastN (C := "java/lang/Object") S.1 S.2.1 (hw.2.2.2.1 a _ q1).2 ((hG.2.2.2 3 _ rfl).1 n (fun j => va_rf (f j))) (fun h => by cases h) (by show ¬ (i < 0 ∨ (arrV _ _ _).slots.size ≤ _); rw [arrV_size]; exact hin) rfl rfl hdg fun H1 e z oq => ?_
  refine K _ H1 _ cells slots h2 (hw.set q1 ?_ z oq) (fs_put hS z oq hz) h4 h5
  show H1[a]? = some (vp_cell _ _)
  rw [e]
  show some (Cell.setSlot (vp_cell _ (n, _)) _ _) = _
  rw [vp_cell_q, vp_cell_q, arrV_store]
  congr 2
  funext q
  by_cases hq : q = i.toNatClampNeg
  · subst hq
    simp [updV, va_up, va_rf]
  · simp [updV, va_up, hq]
theorem fs_Jsr (S : CallFix p m c cc nL s args fs_ws own) (hG : fs_G X s) {i : Int32} {v : Nat} (hdg : decode cc pc = .ok (.aastore, 1))
    {kk : Unit → fs_T α} (K : fs_J X p l e R s m args below meth c Q rF σ0 σF (kk ()) (F0 m (pc + 1) ls rest)) : fs_J X p l e R s m args below meth c Q rF σ0 σF (fs_bind (fs_sr a i v) kk) (F0 m pc ls (.ref v :: .int i :: .ref a :: rest)) := by
  intro σ H locs cells slots h hw hS h4 h5
  obtain ⟨u, σ1, h1, h2⟩ := fs_bdT h
  obtain ⟨ci, σ2, h3, h1b⟩ := fs_bdT (show (fs_bind (fs_rd v fs_oc) fun c => fs_wr a (fs_yC i c v)).1 σ = some (u, σ1) from h1)
  obtain ⟨e0, w1, w2, rfl⟩ := fs_rd_ok h3
  obtain ⟨vs, rfl⟩ := fs_oc_ok w2
  obtain ⟨e, e1, q1, q2, rfl⟩ := fs_wr_ok h1b
  obtain ⟨t, n, f, rfl, ht, hin, rfl⟩ := fs_yC_ok q2
  have hz := (hw.2.2.2.1 a _ q1).1
  have hlt : i.toNatClampNeg < n := Nat.not_le.mp fun q => hin (Or.inr q)
  have h0 : ¬ i < 0 := fun q => hin (Or.inl q)
  obtain ⟨r, hr, cellV, g1, g2, g3, -⟩ := hw.lko w1
  have hK := hG.2.2
  have hcls := (hK.1 ci r hr).2
  obtain ⟨kC, hkC, -⟩ := hcls.2
  have key : ∃ (kA kcomp : Class) (comp : ClassId) (ty : FieldType), s.vm.classes[fs_ta X t]? = some kA ∧ kA.kind = .array comp ty ∧ ty.isReference = true ∧ s.vm.classes[comp]? = some kcomp ∧ s.vm.assignable ((fs_D X).1 ci) comp = true := by
    rcases ht with ⟨rfl, hne⟩ | ⟨rfl, rfl⟩
    · obtain ⟨kA, comp, k1, k2, k3, -⟩ := (hK.2 3 _ rfl).2
      obtain ⟨kE, hkE, -⟩ := Vm.findClass_spec k3
      obtain ⟨c0, t1, f1, f2, f3⟩ := Cond.castable_spec (va_Nw.use (A := args) rfl (hG.castable (fs_co ci r hr hne)))
      cases hcls.1.symm.trans f1
      cases k3.symm.trans f2
      exact ⟨kA, kE, comp, _, k1, k2, rfl, hkE, f3⟩
    · obtain ⟨kA, comp, k1, k2, k3, -⟩ := (hK.2 4 _ rfl).2
      cases hr
      have hcomp : comp = (fs_D X).1 3 := Option.some.inj (k3.symm.trans hcls.1)
      subst hcomp
      exact ⟨kA, kC, _, _, k1, k2, rfl, hkC, va_assign hcls⟩
  obtain ⟨kA, kcomp, comp, ty, k1, k2, k3, k4, k5⟩ := key
  refine W.aast S.1 S.2.1 (hw.2.2.2.1 a _ q1).2 (fun q h => by cases h) (fun h => by cases h) k1 k2 k3 k4 ⟨h0, by show _ < (arrV _ _ _).slots.size; rw [arrV_size]; exact hlt⟩ g1 (fun q h => by rw [g3] at h; cases h) (by rw [g2]; exact hkC) (by rw [g2]; exact k5) rfl rfl hdg fun H1 e z oq => ?_
  refine K _ H1 _ cells slots h2 (hw.set q1 ?_ z oq) (fs_put hS z oq hz) h4 h5
  show H1[a]? = some (vp_cell _ _)
  rw [e]
  show some (Cell.setSlot (vp_cell _ (n, _)) _ _) = _
  rw [vp_cell_q, vp_cell_q, arrV_store]
  congr 2
  funext q
  by_cases hq : q = i.toNatClampNeg
  · subst hq
    simp [updV, va_up, va_rf]
  · simp [updV, va_up, hq]
/-- new Object[n], new Slot[n] -/
theorem fs_Jwr (S : CallFix p m c cc nL s args fs_ws own) (hG : fs_G X s) (hR : fs_n σF ≤ fs_n σ0 + R.cells ∧ fs_u σF ≤ fs_u σ0 + R.slots) {n : Int32} (t : Nat) (C : String) (ht : (fs_tys X)[t]? = some (fs_ta X t, .object C)) (wl : Cond.classLink own index C ∈ fs_ws) (wo : Cond.arrayOver (.object C) ∈ lw_tbl) (hdg : decode cc pc = .ok (.anewarray index, 3))
    {kk : Nat → fs_T α} (K : ∀ v, fs_J X p l e R s m args below meth c Q rF σ0 σF (kk v) (F0 m (pc + 3) ls (.ref v :: rest))) : fs_J X p l e R s m args below meth c Q rF σ0 σF (fs_bind (fs_nr t n) kk) (F0 m pc ls (.int n :: rest)) := by
  intro σ H locs cells slots h hw hS h4 h5
  obtain ⟨v, σ1, h1, h2⟩ := fs_bdT h
  unfold fs_nr at h1
  by_cases q : ¬ n < 0 ∧ n.toNatClampNeg ≤ 65536
  · rw [if_pos q] at h1
    cases h1
    have hm := (kk (fs_n σ)).2 _ _ _ h2
    have hm1 : fs_n σ + 1 ≤ fs_n σF := hm.1
    have hm2 : fs_u σ + n.toNatClampNeg ≤ fs_u σF := hm.2
    have hts := S.2.2.2.2
    refine W.anew S.1 S.2.1 S.2.2.2.1 (hts _ wl) (va_AO.use (hG.over wo)) rfl hdg rfl q.1 (by omega) (by omega) (by omega) fun cA kA comp f1 f2 f3 f4 => ?_
    obtain ⟨-, -, k1, k2, k3, k4⟩ := (hG.2.2.2 t _ ht).2
    have hcA : cA = fs_ta X t := Option.some.inj (f1.symm.trans k4)
    subst hcA
    generalize hH1 : H.push ({ cls := fs_ta X t, slots := Array.replicate n.toNatClampNeg .null, vm := .none } : Cell) = H1
    have z1 : H1.size = H.size + 1 := by rw [← hH1, Array.size_push]
    have e1 : H1[H.size]? = some (arrV (fs_ta X t) n.toNatClampNeg (fun _ => .null)) := by rw [← hH1, Array.getElem?_push_size, ← arrV_new]
    have o1 : ∀ q : Nat, q < H.size → H1[q]? = H[q]? := fun q hq => by rw [← hH1, Array.getElem?_push, if_neg (Nat.ne_of_lt hq)]
    have hz : H.size = fs_n σ := hw.1
    refine W.eq (g2 := F0 m (pc + 3) ls (.ref (fs_n σ) :: rest)) (by rw [← hz]) ?_
    exact K _ _ H1 locs (cells + 1) (slots + n.toNatClampNeg) h2 (hw.push (show H1[H.size]? = some (vp_cell _ _) by rw [vp_cell_q]; exact e1) z1 o1) (fs_new hS z1 o1) (by show _ = fs_n σ + 1; omega) (by show _ = fs_u σ + n.toNatClampNeg; omega)
  · rw [if_neg q] at h1
    cases h1
theorem fs_Jwo (S : CallFix p m c cc nL s args fs_ws own) (hG : fs_G X s) (hR : fs_n σF ≤ fs_n σ0 + R.cells ∧ fs_u σF ≤ fs_u σ0 + R.slots) {n : Int32} (wl : Cond.classLink own index "java/lang/Object" ∈ fs_ws) (wo : Cond.arrayOver (.object "java/lang/Object") ∈ lw_tbl) (hdg : decode cc pc = .ok (.anewarray index, 3))
    {kk : Nat → fs_T α} (K : ∀ v, fs_J X p l e R s m args below meth c Q rF σ0 σF (kk v) (F0 m (pc + 3) ls (.ref v :: rest))) : fs_J X p l e R s m args below meth c Q rF σ0 σF (fs_bind (fs_nr 3 n) kk) (F0 m pc ls (.int n :: rest)) := fs_Jwr S hG hR 3 _ rfl wl wo hdg K
theorem fs_Jws (S : CallFix p m c cc nL s args fs_ws own) (hG : fs_G X s) (hR : fs_n σF ≤ fs_n σ0 + R.cells ∧ fs_u σF ≤ fs_u σ0 + R.slots) {n : Int32} (wl : Cond.classLink own index "FlowShelf$Slot" ∈ fs_ws) (wo : Cond.arrayOver (.object "FlowShelf$Slot") ∈ lw_tbl) (hdg : decode cc pc = .ok (.anewarray index, 3))
    {kk : Nat → fs_T α} (K : ∀ v, fs_J X p l e R s m args below meth c Q rF σ0 σF (kk v) (F0 m (pc + 3) ls (.ref v :: rest))) : fs_J X p l e R s m args below meth c Q rF σ0 σF (fs_bind (fs_nr 4 n) kk) (F0 m pc ls (.int n :: rest)) := fs_Jwr S hG hR 4 _ rfl wl wo hdg K
/-- a static that nobody writes -/
theorem fs_Jgs (S : CallFix p m c cc nL s args fs_ws own) (hG : fs_G X s) (i : Nat) {C n d : String} (hZ : va_Z C n d (.ref (fs_cz X i)) (fs_A X) (fs_o X) (fs_o X).heap) (wl : Cond.fieldLink own index C n d ∈ fs_ws) (hdg : decode cc pc = .ok (.getstatic index, 3))
    {kk : Nat → fs_T α} (K : ∀ v, fs_J X p l e R s m args below meth c Q rF σ0 σF (kk v) (F0 m (pc + 3) ls (.ref v :: rest))) : fs_J X p l e R s m args below meth c Q rF σ0 σF (fs_bind (fs_gs i) kk) (F0 m pc ls rest) := by
  intro σ H locs cells slots h hw hS h4 h5
  obtain ⟨v, σ1, h1, h2⟩ := fs_bdT h
  cases h1
  have hv : fs_c σ i = fs_cz X i := by rw [hw.2.2.1]
  rw [hv] at h2
  have hZ1 : va_Z C n d (.ref (fs_cz X i)) (fs_A X) s H := va_Z.moved hG.2.1.alike (va_Z.kept hZ (fun q hq _ => hw.2.2.2.2.2 q hq))
  obtain ⟨cf, kf, fi, f, a, cell, z1, z2, z3, z4, z5, z6, z7, z8⟩ := hZ1
  exact W.gets S.1 S.2.1 S.2.2.2.1 (S.2.2.2.2 _ wl) z1 z2 z3 z4 z5 (fun e => by rw [e] at z6; cases z6) z7 rfl hdg (K _ _ H locs cells slots h2 hw hS h4 h5)
theorem fs_Jgs0 (S : CallFix p m c cc nL s args fs_ws own) (hG : fs_G X s) (wl : Cond.fieldLink own index "FlowShelf" "LEAST_LENGTH" "[I" ∈ fs_ws) (hdg : decode cc pc = .ok (.getstatic index, 3))
    {kk : Nat → fs_T α} (K : ∀ v, fs_J X p l e R s m args below meth c Q rF σ0 σF (kk v) (F0 m (pc + 3) ls (.ref v :: rest))) : fs_J X p l e R s m args below meth c Q rF σ0 σF (fs_bind (fs_gs 0) kk) (F0 m pc ls rest) := fs_Jgs S hG 0 hG.1.2.1 wl hdg K
theorem fs_Jgs1 (S : CallFix p m c cc nL s args fs_ws own) (hG : fs_G X s) (wl : Cond.fieldLink own index "java/util/ArrayList" "DEFAULTCAPACITY_EMPTY_ELEMENTDATA" "[Ljava/lang/Object;" ∈ fs_ws) (hdg : decode cc pc = .ok (.getstatic index, 3))
    {kk : Nat → fs_T α} (K : ∀ v, fs_J X p l e R s m args below meth c Q rF σ0 σF (kk v) (F0 m (pc + 3) ls (.ref v :: rest))) : fs_J X p l e R s m args below meth c Q rF σ0 σF (fs_bind (fs_gs 1) kk) (F0 m pc ls rest) := fs_Jgs S hG 1 hG.1.2.2.1 wl hdg K
/-- Object[].class -/
theorem fs_Jlc (S : CallFix p m c cc nL s args fs_ws own) (hG : fs_G X s) (wl : Cond.classLink own index "[Ljava/lang/Object;" ∈ fs_ws) (hdg : decode cc pc = .ok (.ldc index, 2))
    {kk : Nat → fs_T α} (K : ∀ v, fs_J X p l e R s m args below meth c Q rF σ0 σF (kk v) (F0 m (pc + 2) ls (.ref v :: rest))) : fs_J X p l e R s m args below meth c Q rF σ0 σF (fs_bind (fs_gs 2) kk) (F0 m pc ls rest) := by
  intro σ H locs cells slots h hw hS h4 h5
  obtain ⟨v, σ1, h1, h2⟩ := fs_bdT h
  cases h1
  have hv : fs_c σ 2 = fs_cz X 2 := by rw [hw.2.2.1]
  rw [hv] at h2
  exact va_ldcM S.1 S.2.1 S.2.2.2.1 (S.2.2.2.2 _ wl) (va_Mi.moved hG.2.1.alike hG.1.2.2.2) hdg (K _ _ H locs cells slots h2 hw hS h4 h5)
theorem fs_ca_ok {a : Nat} {σ σ1 : fs_S} {u : Unit} (h : (fs_ca a).1 σ = some (u, σ1)) : ∃ x, fs_m σ a = some (.inl (3, x)) ∧ σ1 = σ := by
  obtain ⟨e, e1, e2, e3⟩ := fs_rdm_ok h
  split at e2
  · rename_i t x
    split at e2
    · rename_i hc
      subst hc
      exact ⟨x, e1, e3⟩
    · cases e2
  · cases e2
theorem fs_ci_ok {a : Nat} {σ σ1 : fs_S} {u : Unit} (h : (fs_ci a).1 σ = some (u, σ1)) : ∃ x, fs_m σ a = some (.inl (0, x)) ∧ σ1 = σ := by
  obtain ⟨e, e1, e2, e3⟩ := fs_rdm_ok h
  split at e2
  · rename_i t x
    split at e2
    · rename_i hc
      subst hc
      exact ⟨x, e1, e3⟩
    · cases e2
  · cases e2
theorem fs_Jca (S : CallFix p m c cc nL s args fs_ws own) (hG : fs_G X s) (wl : Cond.classLink own index "[Ljava/lang/Object;" ∈ fs_ws) (hdg : decode cc pc = .ok (.checkcast index, 3))
    {kk : Unit → fs_T α} (K : fs_J X p l e R s m args below meth c Q rF σ0 σF (kk ()) (F0 m (pc + 3) ls (.ref a :: rest))) : fs_J X p l e R s m args below meth c Q rF σ0 σF (fs_bind (fs_ca a) kk) (F0 m pc ls (.ref a :: rest)) := by
  intro σ H locs cells slots h hw hS h4 h5
  obtain ⟨v, σ1, h1, h2⟩ := fs_bdT h
  obtain ⟨x, e1, rfl⟩ := fs_ca_ok h1
  exact va_castA (ws := [(a, .inl (fs_ta X 3, x))]) S.1 S.2.1 S.2.2.2.1 (S.2.2.2.2 _ wl) (fs_one (hw.2.2.2.1 _ _ e1).2) 0 rfl (va_nmO (hG.2.2.2 3 _ rfl).2 rfl) hdg (K _ H locs cells slots h2 hw hS h4 h5)
theorem fs_Jci (S : CallFix p m c cc nL s args fs_ws own) (hG : fs_G X s) (wl : Cond.classLink own index "[I" ∈ fs_ws) (hdg : decode cc pc = .ok (.checkcast index, 3))
    {kk : Unit → fs_T α} (K : fs_J X p l e R s m args below meth c Q rF σ0 σF (kk ()) (F0 m (pc + 3) ls (.ref a :: rest))) : fs_J X p l e R s m args below meth c Q rF σ0 σF (fs_bind (fs_ci a) kk) (F0 m pc ls (.ref a :: rest)) := by
  intro σ H locs cells slots h hw hS h4 h5
  obtain ⟨v, σ1, h1, h2⟩ := fs_bdT h
  obtain ⟨x, e1, rfl⟩ := fs_ci_ok h1
  exact va_castA (ws := [(a, .inl (fs_ta X 0, x))]) S.1 S.2.1 S.2.2.2.1 (S.2.2.2.2 _ wl) (fs_one (hw.2.2.2.1 _ _ e1).2) 0 rfl (hG.2.2.2 0 _ rfl).2 hdg (K _ H locs cells slots h2 hw hS h4 h5)
/-- getClass() of an Object[] -/
theorem fs_Jgc (S : CallFix p m c cc nL s args fs_ws own) (hG : fs_G X s) (wl : Cond.methodLink own index ⟨"java/lang/Object", "getClass", "()Ljava/lang/Class;"⟩ ∈ fs_ws) (hsz : ls.size = nL) (hfr : 1 ≤ R.frames) (hlo : (rest.map fun v => v.category).sum + 14 ≤ R.locals) (hdg : decode cc pc = .ok (.invokevirtual index, 3))
    {kk : Nat → fs_T α} (K : ∀ v, fs_J X p l e R s m args below meth c Q rF σ0 σF (kk v) (F0 m (pc + 3) ls (.ref v :: rest))) : fs_J X p l e R s m args below meth c Q rF σ0 σF (fs_bind (fs_gc a) kk) (F0 m pc ls (.ref a :: rest)) := by
  intro σ H locs cells slots h hw hS h4 h5
  obtain ⟨v, σ1, h1, h2⟩ := fs_bdT h
  obtain ⟨u, σ2, h3, h1b⟩ := fs_bdT (show (fs_bind (fs_ca a) fun _ => fs_gs 2).1 σ = some (v, σ1) from h1)
  obtain ⟨x, e1, rfl⟩ := fs_ca_ok h3
  cases h1b
  have hv : fs_c σ1 2 = fs_cz X 2 := by rw [hw.2.2.1]
  rw [hv] at h2
  have hts := S.2.2.2.2
  have hdecl : (Cond.declares ⟨"java/lang/Object", "getClass", "()Ljava/lang/Class;"⟩).before args s = true := va_Nw.use rfl (fs_G.decl hG tb_7_86)
  exact va_getC S.1 S.2.1 (by rw [S.2.2.1]; exact hsz.symm) S.2.2.2.1 (hts _ wl) hdecl (hts _ tw_7_85) (hts _ tw_2_229) (hts _ tw_3_8) (va_Mi.moved hG.2.1.alike hG.1.2.2.2)
    ⟨_, (hw.2.2.2.1 _ _ e1).2, by obtain ⟨n, f | f | f | f | f⟩ := x <;> rfl, by
      have hq : s.vm.findClass "[Ljava/lang/Object;" = some (fs_ta X 3) := va_nmO (hG.2.2.2 3 _ rfl).2 rfl
      rw [hq]
      obtain ⟨n, f | f | f | f | f⟩ := x <;> rfl⟩ hfr hlo hdg (K _ _ H locs cells slots h2 hw hS h4 h5)
theorem fs_xA_ok {e : fs_E} {q : Nat × (Nat → Int32)} (h : fs_xA e = some q) : e = .inl (0, q.1, .inl q.2) := by
  unfold fs_xA at h
  split at h
  · split at h
    · rename_i hc
      subst hc
      cases h
      rfl
    · cases h
  · cases h
/-- clone() of an int[] -/
theorem fs_Jcln (S : CallFix p m c cc nL s args fs_ws own) (hG : fs_G X s) (hR : fs_n σF ≤ fs_n σ0 + R.cells ∧ fs_u σF ≤ fs_u σ0 + R.slots) (wl : Cond.methodLink own index ⟨"[I", "clone", "()Ljava/lang/Object;"⟩ ∈ fs_ws) (hsz : ls.size = nL) (hfr : 1 ≤ R.frames) (hlo : (rest.map fun v => v.category).sum + 14 ≤ R.locals) (hdg : decode cc pc = .ok (.invokevirtual index, 3))
    {kk : Nat → fs_T α} (K : ∀ v, fs_J X p l e R s m args below meth c Q rF σ0 σF (kk v) (F0 m (pc + 3) ls (.ref v :: rest))) : fs_J X p l e R s m args below meth c Q rF σ0 σF (fs_bind (fs_cln a) kk) (F0 m pc ls (.ref a :: rest)) := by
  intro σ H locs cells slots h hw hS h4 h5
  obtain ⟨v, σ1, h1, h2⟩ := fs_bdT h
  obtain ⟨x, σ2, h3, h1b⟩ := fs_bdT (show (fs_bind (fs_rdm a fs_xA) fun q => fs_mk (.inl (0, q.1, .inl q.2)) q.1).1 σ = some (v, σ1) from h1)
  obtain ⟨e0, w1, w2, rfl⟩ := fs_rdm_ok h3
  have w3 := fs_xA_ok w2
  subst w3
  cases h1b
  have hm := (kk (fs_n σ2)).2 _ _ _ h2
  have hm1 : fs_n σ2 + 1 ≤ fs_n σF := hm.1
  have hm2 : fs_u σ2 + x.1 ≤ fs_u σF := hm.2
  have hts := S.2.2.2.2
  have hK := hG.2.2
  have hcl0 := hG.castable tb_4_206
  obtain ⟨c0, t0', f1, f2, f3⟩ := Cond.castable_spec (va_Nw.use (A := args) rfl hcl0)
  have hnm : s.vm.findClass "[I" = some (fs_ta X 0) := (hK.2 0 _ rfl).2
  cases hnm.symm.trans f1
  have hcell : H[a]? = some (arrV (fs_ta X 0) x.1 (fun j => .int (x.2 j))) := (hw.2.2.2.1 _ _ w1).2
  intro T hT XX
  have hcellT : T.heap[a]? = some (arrV (fs_ta X 0) x.1 (fun j => .int (x.2 j))) := by rw [hT]; exact hcell
  obtain ⟨-, kA, hkA, comp, hkind⟩ := State.isArrayOf_alike XX.warmed.alike ((hK.2 0 _ rfl).1 0 (fun _ => .null))
  obtain ⟨-, kS, hkS, compS, hkindS⟩ := (hK.2 0 _ rfl).1 0 (fun _ => .null)
  obtain ⟨vm', X', st⟩ := XX.cloneArray S.1 S.2.2.2.1 (hts _ wl) (hG.same tb_4_202 rfl _) (hts _ tw_4_203) (hts _ tw_4_204) (hts _ tw_4_205) (a := a) (cell := arrV (fs_ta X 0) x.1 (fun j => .int (x.2 j))) hcellT (fun k h => by cases h) (fun h => by cases h) hnm f2 f3
    (fun i v hv => by
      have hk' : T.vm.classes[fs_ta X 0]? = some kA := hkA
      have hv2 : ∃ q : Int32, v = .int q := by
        by_cases hi : i < x.1
        · rw [arrV_read _ _ hi] at hv
          cases hv
          exact ⟨_, rfl⟩
        · have := (Array.getElem?_eq_some_iff.mp hv).1
          rw [arrV_size] at this
          exact absurd this hi
      obtain ⟨q, rfl⟩ := hv2
      show T.fitsSlot (fs_ta X 0) .none i (.int q) = true
      simp [State.fitsSlot, State.slotType?, hk', hkind, fits])
    (g := F0 m pc ls (.ref a :: rest)) rfl (by rw [S.2.2.1]; exact hsz) rfl (by rw [S.2.1]; exact hdg) hfr (by show 2 * 0 + _ + 14 ≤ _; omega) (by omega) (by rw [arrV_size]; omega) (hloader := Vm.clonesLoader_of_array hkS hkindS)
  have hcellE : ({ cls := (arrV (fs_ta X 0) x.1 (fun j => .int (x.2 j))).cls, slots := (arrV (fs_ta X 0) x.1 (fun j => .int (x.2 j))).slots } : Cell) = arrV (fs_ta X 0) x.1 (fun j => .int (x.2 j)) := rfl
  rw [hcellE, arrV_size] at X'
  generalize hH1 : H.push (arrV (fs_ta X 0) x.1 (fun j => .int (x.2 j))) = H1
  have z1 : H1.size = H.size + 1 := by rw [← hH1, Array.size_push]
  have e1 : H1[H.size]? = some (arrV (fs_ta X 0) x.1 (fun j => .int (x.2 j))) := by rw [← hH1, Array.getElem?_push_size]
  have o1 : ∀ q : Nat, q < H.size → H1[q]? = H[q]? := fun q hq => by rw [← hH1, Array.getElem?_push, if_neg (Nat.ne_of_lt hq)]
  have hz : H.size = fs_n σ2 := hw.1
  obtain ⟨t, b1, b2⟩ := K (fs_n σ2) _ H1 locs (cells + 1) (slots + x.1) h2 (hw.push (show H1[H.size]? = some (vp_cell _ _) from e1) z1 o1) (fs_new hS z1 o1) (by show _ = fs_n σ2 + 1; omega) (by show _ = fs_u σ2 + x.1; omega) ((T.setVm vm').pushCell (arrV (fs_ta X 0) x.1 (fun j => .int (x.2 j)))) (by rw [← hH1, ← hT]; rfl) X'
  refine ⟨t, st t ?_, b2⟩
  rw [hcellE, hT, hz]
  exact b1
theorem fs_xQ_ok {e : fs_E} {q : Nat × (Nat → Option Nat)} (h : fs_xQ e = some q) : e = .inl (3, q.1, .inr (.inr (.inr (.inr q.2)))) := by
  unfold fs_xQ at h
  split at h
  · split at h
    · rename_i hc
      subst hc
      cases h
      rfl
    · cases h
  · cases h
theorem fs_yQ_ok {f : Nat → Option Nat} {sp dp n : Nat} {e e1 : fs_E} (h : fs_yQ f sp dp n e = some e1) : ∃ k g, e = .inl (3, k, .inr (.inr (.inr (.inr g)))) ∧ dp + n ≤ k ∧ e1 = .inl (3, k, .inr (.inr (.inr (.inr (va_cpy f g sp dp n))))) := by
  unfold fs_yQ at h
  split at h
  · rename_i t k g
    split at h
    · rename_i hc
      obtain ⟨hc1, hc2⟩ := hc
      subst hc1
      cases h
      exact ⟨k, g, rfl, hc2, rfl⟩
    · cases h
  · cases h
theorem fs_oo_ok {f : Nat → Option Nat} {sp n : Nat} {σ σ1 : fs_S} {u : Unit} (h : (fs_oo f sp n).1 σ = some (u, σ1)) : σ1 = σ ∧ ∀ i, i < n → ∀ y, f (sp + i) = some y → ∃ c fs, fs_lk σ y = some (.inr (c, fs)) ∧ c ≠ 2 := by
  unfold fs_oo at h
  dsimp only at h
  split at h
  · rename_i hall
    cases h
    refine ⟨rfl, fun i hi y hy => ?_⟩
    have h1 := List.all_eq_true.mp hall i (List.mem_range.mpr hi)
    rw [hy] at h1
    dsimp only at h1
    split at h1
    · rename_i c fs hq
      exact ⟨c, fs, hq, of_decide_eq_true h1⟩
    · cases h1
  · cases h
/-- System.arraycopy between two Object[] -/
theorem fs_Jcp (S : CallFix p m c cc nL s args fs_ws own) (hG : fs_G X s) (wl : Cond.methodLink own index arraycopyName ∈ fs_ws) (hsz : ls.size = nL) (hfr : 1 ≤ R.frames) (hlo : (rest.map fun v => v.category).sum + (nativeFrameWords "java/lang/System" "arraycopy" 5 + 11) ≤ R.locals) (hdg : decode cc pc = .ok (.invokestatic index, 3)) {b : Nat} {sp dp n : Int32}
    {kk : Unit → fs_T α} (K : fs_J X p l e R s m args below meth c Q rF σ0 σF (kk ()) (F0 m (pc + 3) ls rest)) : fs_J X p l e R s m args below meth c Q rF σ0 σF (fs_bind (fs_cp a sp b dp n) kk) (F0 m pc ls (.int n :: .int dp :: .ref b :: .int sp :: .ref a :: rest)) := by
  have nn : ∀ z : Int32, ¬ z < 0 → z.toInt = (z.toNatClampNeg : Int) := by
    intro z hz
    have hz0 : (0 : Int) ≤ z.toInt := by
      have := Int32.not_lt.mp hz
      simpa using Int32.le_iff_toInt_le.mp this
    show z.toInt = ((z.toInt.toNat : Nat) : Int)
    omega
  intro σ H locs cells slots h hw hS h4' h5'
  obtain ⟨u, σ1, h1, h2⟩ := fs_bdT h
  unfold fs_cp at h1
  obtain ⟨q, σ2, w1, h1b⟩ := fs_bdT h1
  obtain ⟨e0, w2, w3, rfl⟩ := fs_rdm_ok w1
  have w4 := fs_xQ_ok w3
  subst w4
  by_cases hq : ¬ sp < 0 ∧ ¬ dp < 0 ∧ ¬ n < 0 ∧ sp.toNatClampNeg + n.toNatClampNeg ≤ q.1
  · rw [if_pos hq] at h1b
    obtain ⟨h1', h2', h3', h4⟩ := hq
    obtain ⟨u2, σ3, w5, w6⟩ := fs_bdT h1b
    obtain ⟨rfl, hel⟩ := fs_oo_ok w5
    obtain ⟨e, e1, q1, q2, rfl⟩ := fs_wr_ok w6
    obtain ⟨k, g, rfl, h5, rfl⟩ := fs_yQ_ok q2
    have hz := (hw.2.2.2.1 b _ q1).1
    have hK := hG.2.2
    have hts := S.2.2.2.2
    have hc0 : H[a]? = some (vp_cell (fs_ta X 3) (q.1, .inr (.inr (.inr (.inr q.2))))) := (hw.2.2.2.1 _ _ w2).2
    have hc1 : H[b]? = some (vp_cell (fs_ta X 3) (k, .inr (.inr (.inr (.inr g))))) := (hw.2.2.2.1 b _ q1).2
    obtain ⟨-, k0, hk0, cm0, hkk0⟩ := (hK.2 3 _ rfl).1 q.1 (fun j => va_rf (q.2 j))
    obtain ⟨-, k1, hk1, cm1, hkk1⟩ := (hK.2 3 _ rfl).1 k (fun j => va_rf (g j))
    intro T hT XX
    obtain ⟨vm', X', step⟩ := XX.arraycopy S.1 S.2.2.2.1 (hts _ wl) (hts _ tw_2_198) (hts _ tw_2_197) (hts _ tw_1_19) (src := a) (dst := b) (cs := vp_cell (fs_ta X 3) (q.1, .inr (.inr (.inr (.inr q.2))))) (cd := vp_cell (fs_ta X 3) (k, .inr (.inr (.inr (.inr g))))) (srcPos := sp) (destPos := dp) (n := n) (by rw [hT]; exact hc0) (by rw [hT]; exact hc1)
      (fun _ h => by cases h) (fun _ h => by cases h) (fun h => by cases h) (fun h => by cases h) hk0 hk1 hkk0 hkk1 rfl h1' h2' h3'
      (by rw [nn sp h1', nn n h3']; show ¬ _ > ((arrV (fs_ta X 3) q.1 (fun j => va_rf (q.2 j))).slots.size : Int); rw [arrV_size]; omega)
      (by rw [nn dp h2', nn n h3']; show ¬ _ > ((arrV (fs_ta X 3) k (fun j => va_rf (g j))).slots.size : Int); rw [arrV_size]; omega)
      (fun vm₁ hal i hi => by
        have e : (vp_cell (fs_ta X 3) (q.1, .inr (.inr (.inr (.inr q.2))))).slots.getD (sp.toNatClampNeg + i) .null = va_rf (q.2 (sp.toNatClampNeg + i)) := by
          show (arrV (fs_ta X 3) q.1 (fun j => va_rf (q.2 j))).slots.getD _ _ = _
          rw [Array.getD_eq_getD_getElem?, arrV_read _ _ (by omega)]
          rfl
        rw [e]
        cases hy : q.2 (sp.toNatClampNeg + i) with
        | none => exact ⟨rfl, trivial⟩
        | some y =>
          obtain ⟨ci, vs, hlk, hne⟩ := hel i hi y hy
          obtain ⟨r, hr, cellV, g1, g2, g3, -⟩ := hw.lko hlk
          have hcls := (hK.1 ci r hr).2
          obtain ⟨kA, comp, r1, r2, r3, -⟩ := (hK.2 3 _ rfl).2
          cases hk1.symm.trans r1
          cases hkk1.symm.trans r2
          obtain ⟨kC, hkC, -⟩ := hcls.2
          obtain ⟨kE, hkE, -⟩ := Vm.findClass_spec r3
          obtain ⟨kC', hkC', -⟩ := hal.2.2 _ _ hkC
          obtain ⟨kE', hkE', -⟩ := hal.2.2 _ _ hkE
          obtain ⟨c0, t1, f1, f2, f3⟩ := Cond.castable_spec (va_Nw.use (A := args) rfl (hG.castable (fs_co ci r hr hne)))
          cases hcls.1.symm.trans f1
          cases r3.symm.trans f2
          refine ⟨rfl, cellV, (show T.heap[y]? = some cellV by rw [hT]; exact g1), (fun q h => by rw [g3] at h; cases h), ⟨kC', by rw [g2]; exact hkC'⟩, ?_, ?_⟩
          · exact ⟨kE', hkE'⟩
          · show vm₁.assignable _ _ = true
            rw [hal.assignable, g2]
            exact f3)
      (g := F0 m pc ls (.int n :: .int dp :: .ref b :: .int sp :: .ref a :: rest)) rfl (by rw [S.2.2.1]; exact hsz) (rest := rest) rfl (by rw [S.2.1]; exact hdg) hfr (by show 2 * 0 + _ + _ ≤ _; omega)
    have e1 : copied (vp_cell (fs_ta X 3) (q.1, .inr (.inr (.inr (.inr q.2))))) (vp_cell (fs_ta X 3) (k, .inr (.inr (.inr (.inr g))))) sp dp n = vp_cell (fs_ta X 3) (k, .inr (.inr (.inr (.inr (va_cpy q.2 g sp.toNatClampNeg dp.toNatClampNeg n.toNatClampNeg))))) := by
      rw [vp_cell_q, vp_cell_q, vp_cell_q]
      exact va_copied (fun z => va_rf z) (fs_ta X 3) (fs_ta X 3) q.2 g h4
    rw [e1] at X' step
    have hl : b < H.size := (Array.getElem?_eq_some_iff.mp hc1).1
    have hheap : ((T.setVm vm').setCell b (vp_cell (fs_ta X 3) (k, .inr (.inr (.inr (.inr (va_cpy q.2 g sp.toNatClampNeg dp.toNatClampNeg n.toNatClampNeg))))))).heap = H.setIfInBounds b (vp_cell (fs_ta X 3) (k, .inr (.inr (.inr (.inr (va_cpy q.2 g sp.toNatClampNeg dp.toNatClampNeg n.toNatClampNeg)))))) := by rw [← hT]; rfl
    have oq : ∀ z : Nat, z ≠ b → (H.setIfInBounds b (vp_cell (fs_ta X 3) (k, .inr (.inr (.inr (.inr (va_cpy q.2 g sp.toNatClampNeg dp.toNatClampNeg n.toNatClampNeg)))))))[z]? = H[z]? := fun z hz => by simp [Array.getElem?_setIfInBounds, Ne.symm hz]
    obtain ⟨t, a1, b1⟩ := K _ _ _ cells slots h2 (hw.set q1 (show (H.setIfInBounds b _)[b]? = some _ by simp [Array.getElem?_setIfInBounds, hl]) (by simp) oq) ⟨by simp; exact hS.1, fun z g1 g2 => by
        rw [oq z (fun e => g2 (by rw [e]; exact hz))]
        exact hS.2.1 z g1 g2, fun z hz2 => by
        rcases List.mem_append.mp hz2 with h | h
        · exact hS.2.2 z h
        · obtain ⟨j, -, hj⟩ := List.mem_map.mp h
          rw [← hj]
          exact hz⟩ h4' h5' _ hheap X'
    exact ⟨t, step t a1, b1⟩
  · rw [if_neg hq] at h1b
    cases h1b
end FSR
