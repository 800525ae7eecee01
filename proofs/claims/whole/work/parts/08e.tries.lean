/-! calls of what may throw: gone on, or caught -/
section FSY
variable {X : fs_X} {p : Program} {l : Launch} {e : Env} {R : Room} {s : State} {m : MethodId} {args : Array Value} {below : List Frame} {meth : Method} {c : Code} {Q : State → Prop} {α β γ : Type} {rF : α} {σ0 σF : fs_S}
variable {cc : ByteArray} {nL : Nat} {own C : String} {T : u_T} {N ci index pc : Nat} {ls : Array Slot} {rest : List Value} {locs : List Loc} {cells slots : Nat}
variable {y : MethodName} {bytes : ByteArray} {maxL fr lo b : Nat} {ret : Option FieldType} {As st0 : List Value}
theorem fs_JVx (S : CallFix p m c cc nL s args fs_ws own) (hG : fs_G X s) (hR : fs_n σF ≤ fs_n σ0 + R.cells ∧ fs_u σF ≤ fs_u σ0 + R.slots) (hT : ∀ x ∈ c.exceptionTable.toList, False) (hk : meth.locks = false) (hc : fs_cl[ci]? = some (C, T, N)) (As : List Value) {x : fs_T (β ⊕ String)} (ev : β → Option Value) {encx : β ⊕ String → Option Value ⊕ String} (hx1 : ∀ v, encx (.inl v) = .inl (ev v)) (hx2 : ∀ E, encx (.inr E) = .inr E)
    (hM : ∀ r σ σ1, x.1 σ = some (r, σ1) → fs_Met X l y (Cond.code y bytes maxL ret) fr lo (.ref b :: As) σ (encx r) σ1)
    (wl : Cond.methodLink own index y ∈ fs_ws) (wi : Cond.instanceMethod y ∈ fs_ws) (wx : Cond.selects C y y ∈ fs_ws) (wc : Cond.code y bytes maxL ret ∈ fs_ws) (wn : Cond.initialized y.cls ∈ fs_ws)
    (hd : y.cls ≠ "java/lang/invoke/MethodHandle" ∧ y.cls ≠ "java/lang/invoke/VarHandle" ∧ (parseMethodDescriptor y.desc).map (fun d => d.parameters.length) = some As.length) (hfr : fr + 1 ≤ R.frames ∧ 8 + (maxL + 11) + lo ≤ R.locals)
    (hsz : ls.size = nL) (hst : st0 = As.reverse ++ .ref b :: rest) (hW : (rest.map fun v => v.category).sum ≤ 8) (hdg : decode cc pc = .ok (.invokevirtual index, 3))
    {rF : γ ⊕ String} {enc : γ ⊕ String → Option Value ⊕ String} (he : ∀ E, enc (.inr E) = .inr E)
    {kk : β → fs_T (γ ⊕ String)} (K : ∀ r, fs_J X p l e R s m args below meth c (fs_Q X below args s (enc rF) σ0 σF) rF σ0 σF (kk r) (F0 m (pc + 3) ls ((ev r).toList ++ rest))) : fs_J X p l e R s m args below meth c (fs_Q X below args s (enc rF) σ0 σF) rF σ0 σF (fs_bindx (fs_cv b ci x) kk) (F0 m pc ls st0) := by
  intro σ H locs cells slots h hw hS h4 h5
  obtain ⟨r, σ1, h1, h2⟩ := fs_bdT h
  obtain ⟨u, σ2, h1a, h1b⟩ := fs_bdT h1
  obtain ⟨fs, e1, rfl⟩ := fs_ck_ok h1a
  have hm1 := x.2 _ _ _ h1b
  have q1 := hm1.1
  have q2 := hm1.2
  have hts := S.2.2.2.2
  have hM1 := hM r σ2 σ1 h1b
  subst hst
  cases r with
  | inl v =>
    have hm2 := (kk v).2 _ _ _ h2
    have q3 := hm2.1
    have q4 := hm2.2
    rw [hx1] at hM1
    refine fs_go (mc := fs_n σ1 - fs_n σ2) (ms := fs_u σ1 - fs_u σ2) (va_runV (As := As) (rest := rest) S hM1.ret ⟨callB_of As.length hts (fs_gd wc) rfl rfl rfl (hts _ wn) (hts _ wl) hd hfr, hts _ wi, hts _ wx⟩ ⟨fs_blind, va_recv (ws := [(b, .inr (ci, fs))]) hG.2.2 (fs_one (hw.lko e1)) hc (q0 := 0) rfl, fun U hU hW2 => ⟨rfl, by rw [hU]; exact hw, hG.moved hW2⟩⟩ rfl rfl hsz rfl (lv_room hW) hdg ⟨by omega, by omega⟩) hS (fun H1 locs1 hw1 hS1 => ?_)
    exact K v σ1 H1 locs1 _ _ h2 hw1 hS1 (by omega) (by omega)
  | inr E =>
    cases h2
    rw [hx2] at hM1
    intro T0 hT0 Y
    exact fs_out (T := T0) (fs_runVT S hG hc e1 hM1 wl wi wx wc wn hd hfr hsz hW hdg (by omega) (by omega) hT0 hw Y) hS hT hk (he E) (by omega) (by omega)
theorem fs_JSx (S : CallFix p m c cc nL s args fs_ws own) (hG : fs_G X s) (hR : fs_n σF ≤ fs_n σ0 + R.cells ∧ fs_u σF ≤ fs_u σ0 + R.slots) (hT : ∀ x ∈ c.exceptionTable.toList, False) (hk : meth.locks = false) (As : List Value) {x : fs_T (β ⊕ String)} (ev : β → Option Value) {encx : β ⊕ String → Option Value ⊕ String} (hx1 : ∀ v, encx (.inl v) = .inl (ev v)) (hx2 : ∀ E, encx (.inr E) = .inr E)
    (hM : ∀ r σ σ1, x.1 σ = some (r, σ1) → fs_Met X l y (Cond.code y bytes maxL ret) fr lo As σ (encx r) σ1)
    (wl : Cond.methodLink own index y ∈ fs_ws) (wi : Cond.static y ∈ fs_ws) (wc : Cond.code y bytes maxL ret ∈ fs_ws) (wn : Cond.initialized y.cls ∈ fs_ws)
    (hd : y.cls ≠ "java/lang/invoke/MethodHandle" ∧ y.cls ≠ "java/lang/invoke/VarHandle" ∧ (parseMethodDescriptor y.desc).map (fun d => d.parameters.length) = some As.length) (hfr : fr + 1 ≤ R.frames ∧ 8 + (maxL + 11) + lo ≤ R.locals)
    (hsz : ls.size = nL) (hst : st0 = As.reverse ++ rest) (hW : (rest.map fun v => v.category).sum ≤ 8) (hdg : decode cc pc = .ok (.invokestatic index, 3))
    {rF : γ ⊕ String} {enc : γ ⊕ String → Option Value ⊕ String} (he : ∀ E, enc (.inr E) = .inr E)
    {kk : β → fs_T (γ ⊕ String)} (K : ∀ r, fs_J X p l e R s m args below meth c (fs_Q X below args s (enc rF) σ0 σF) rF σ0 σF (kk r) (F0 m (pc + 3) ls ((ev r).toList ++ rest))) : fs_J X p l e R s m args below meth c (fs_Q X below args s (enc rF) σ0 σF) rF σ0 σF (fs_bindx x kk) (F0 m pc ls st0) := by
  intro σ H locs cells slots h hw hS h4 h5
  obtain ⟨r, σ1, h1, h2⟩ := fs_bdT h
  have hm1 := x.2 _ _ _ h1
  have q1 := hm1.1
  have q2 := hm1.2
  have hts := S.2.2.2.2
  have hM1 := hM r σ σ1 h1
  subst hst
  cases r with
  | inl v =>
    have hm2 := (kk v).2 _ _ _ h2
    have q3 := hm2.1
    have q4 := hm2.2
    rw [hx1] at hM1
    refine fs_go (mc := fs_n σ1 - fs_n σ) (ms := fs_u σ1 - fs_u σ) (va_runS (As := As) (rest := rest) S hM1.ret ⟨callB_of As.length hts (fs_gd wc) rfl rfl rfl (hts _ wn) (hts _ wl) hd hfr, hts _ wi⟩ ⟨fs_blind, fun U hU hW2 => ⟨rfl, by rw [hU]; exact hw, hG.moved hW2⟩⟩ rfl rfl hsz rfl (lv_room hW) hdg ⟨by omega, by omega⟩) hS (fun H1 locs1 hw1 hS1 => ?_)
    exact K v σ1 H1 locs1 _ _ h2 hw1 hS1 (by omega) (by omega)
  | inr E =>
    cases h2
    rw [hx2] at hM1
    intro T0 hT0 Y
    exact fs_out (T := T0) (fs_runST S hG hM1 wl wi wc wn hd hfr hsz hW hdg (by omega) (by omega) hT0 hw Y) hS hT hk (he E) (by omega) (by omega)
/-- the search through a table finds the handler h, whatever has been linked meanwhile -/
def fs_F (e : Env) (s : State) (g : JFrame) (a : Addr) (ce : Cell) (tb : List ExceptionTableEntry) (h : Nat) : Prop :=
  ∀ U : State, s.WarmedH U.vm → U.heap[a]? = some ce → ∃ vm1, s.WarmedH vm1 ∧ ∀ (Q : Handler → Pre) (E : CtlPost) (d : Bool) (acts : List Action), wp (findHandler.go g a tb) Q E e d acts U ↔ Q (.found h) d acts (U.setVm vm1)
theorem fs_row {g : JFrame} {a : Addr} {ce : Cell} {name E : String} {x : ExceptionTableEntry} {tb : List ExceptionTableEntry} (hpl : e.platform.magicAccessors = ({} : Platform).magicAccessors) (hown : s.vm.findClass own = some g.method.cls) (hx : covers x g.pc = true) (h0 : x.catchType ≠ 0) (hlink : (Cond.classLink own x.catchType name).before args s = true)
    (hcv : ce.vm = .none) (hE : s.vm.findClass E = some ce.cls) : ∃ t : ClassId, s.vm.findClass name = some t ∧ ∀ U : State, s.WarmedH U.vm → U.heap[a]? = some ce → ∃ vm1, s.WarmedH vm1 ∧ ∀ (Q : Handler → Pre) (E : CtlPost) (d : Bool) (acts : List Action),
      wp (findHandler.go g a (x :: tb)) Q E e d acts U ↔ if s.vm.assignable ce.cls t = true then Q (.found x.handlerPc) d acts (U.setVm vm1) else wp (findHandler.go g a tb) Q E e d acts (U.setVm vm1) := by
  obtain ⟨t, ht, hl⟩ := Cond.classLink_spec hown hlink e.platform hpl
  refine ⟨t, ht, fun U hW hcell => ?_⟩
  obtain ⟨dk, _, _, kt, hd, _, _, _, _, hkt, _, hopen⟩ := hl.here
  have hl0 := hW.classLinks hl
  refine ⟨U.vm.noted g.method.cls x.catchType (.cls t), hW.noted hd hopen (State.rightAt_cls hl), fun Q E d acts => ?_⟩
  have hal : U.vm.Alike (U.vm.noted g.method.cls x.catchType (.cls t)) := (Vm.Alike.refl U.vm).noted _ _ _
  obtain ⟨k0, hk0⟩ := Vm.classAt_of_findClass hE
  obtain ⟨k1, hk1, -⟩ := hW.alike.2.2 _ _ hk0
  obtain ⟨k2, hk2, -⟩ := hW.alike.2.2 _ _ hkt
  obtain ⟨k3, hk3, -⟩ := hal.2.2 _ _ hk1
  obtain ⟨k4, hk4, -⟩ := hal.2.2 _ _ hk2
  have hob : ∀ k, ce.vm ≠ .statics k := fun k h => by rw [hcv] at h; cases h
  have has : (U.vm.noted g.method.cls x.catchType (.cls t)).assignable ce.cls t = s.vm.assignable ce.cls t := by rw [hal.assignable, hW.alike.assignable]
  obtain ⟨r1, r2⟩ := (resolveClass_links e.toSetting hl0).op (op := VmOp.resolveClass g.method.cls x.catchType) rfl
  simp only [covers] at hx
  cases hf : s.vm.assignable ce.cls t <;> simp [findHandler.go, hx, h0, r1, r2, hcell, hob, hk3, hk4, has, hf, VmOp.dirties, VmOp.acts]
theorem fs_F.take {g : JFrame} {a : Addr} {ce : Cell} {E : String} {x : ExceptionTableEntry} {tb : List ExceptionTableEntry} (hpl : e.platform.magicAccessors = ({} : Platform).magicAccessors) (hown : s.vm.findClass own = some g.method.cls) (hx : covers x g.pc = true) (h0 : x.catchType ≠ 0) (hlink : (Cond.classLink own x.catchType E).before args s = true)
    (hcv : ce.vm = .none) (hE : s.vm.findClass E = some ce.cls) (hc : (Cond.castable E E).before args s = true) : fs_F e s g a ce (x :: tb) x.handlerPc := by
  obtain ⟨t, ht, hr⟩ := fs_row (a := a) (tb := tb) hpl hown hx h0 hlink hcv hE
  obtain ⟨c3, c4, hc3, hc4, has⟩ := Cond.castable_spec hc
  cases hc3.symm.trans hE
  cases hc4.symm.trans ht
  intro U hW hcell
  obtain ⟨vm1, hW1, h1⟩ := hr U hW hcell
  exact ⟨vm1, hW1, fun Q E d acts => by rw [h1 Q E d acts, if_pos has]⟩
theorem fs_F.pass {g : JFrame} {a : Addr} {ce : Cell} {E name : String} {x : ExceptionTableEntry} {tb : List ExceptionTableEntry} {h : Nat} (hpl : e.platform.magicAccessors = ({} : Platform).magicAccessors) (hown : s.vm.findClass own = some g.method.cls) (hx : covers x g.pc = true) (h0 : x.catchType ≠ 0) (hlink : (Cond.classLink own x.catchType name).before args s = true)
    (hcv : ce.vm = .none) (hE : s.vm.findClass E = some ce.cls) (hn : va_Nc E name s) (k : fs_F e s g a ce tb h) : fs_F e s g a ce (x :: tb) h := by
  obtain ⟨t, ht, hr⟩ := fs_row (a := a) (tb := tb) hpl hown hx h0 hlink hcv hE
  obtain ⟨c3, c4, hc3, hc4, has⟩ := hn
  cases hc3.symm.trans hE
  cases hc4.symm.trans ht
  intro U hW hcell
  obtain ⟨vm1, hW1, h1⟩ := hr U hW hcell
  obtain ⟨vm2, hW2, h2⟩ := k (U.setVm vm1) hW1 hcell
  exact ⟨vm2, hW2, fun Q E d acts => by rw [h1 Q E d acts, if_neg (by rw [has]; decide)]; exact h2 Q E d acts⟩
theorem fs_stepC {U : State} {a : Addr} {g : JFrame} {r : List Frame} {h : Nat} {vm1 : Vm} (hf : ∀ (Q : Handler → Pre) (E : CtlPost) (d : Bool) (acts : List Action), wp (findHandler g a) Q E e d acts U ↔ Q (.found h) d acts (U.setVm vm1)) :
    (stepThrowing e U a (.java g :: r)).1 = (U.setVm vm1).setFrames (.java { g with pc := h, stack := [.ref a] } :: r) := by
  simp only [stepThrowing, searchFrame, vmDo]
  generalize hr : Sem.go _ e false [] U = res
  obtain ⟨as, rfl, -⟩ := Sem.eq_ok_of hr (a := Handler.found h) (s' := U.setVm vm1) (acts' := []) (by simp [hf _ _ _ _])
  rfl
theorem fs_caught {V : State} (Y : Stand p l e R s m args below meth c V locs cells slots) {g : JFrame} (hg : g.method = m) {a : Addr} {ce : Cell} (hce : V.heap[a]? = some ce) {h : Nat} (hF : fs_F e s g a ce c.exceptionTable.toList h) :
    ∃ vm1, Stand p l e R s m args below meth c (V.setVm vm1) locs cells slots ∧ ∀ t, Steps p.tables e below ((V.setVm vm1).setTop { g with pc := h, stack := [.ref a] }) t → Steps p.tables e below ((V.setTop g).pushFrame (.throwing a)) t := by
  obtain ⟨vm1, hW1, h1⟩ := hF ((V.setTop g).pushFrame (.throwing a)) (by rw [Stand.throwing_vm]; exact Y.warmed) (by rw [Stand.throwing_heap]; exact hce)
  refine ⟨vm1, Y.noted hW1, fun t ht => ?_⟩
  subst hg
  obtain ⟨hgo, hw⟩ := Y.here.throwing a
  refine Steps.head hgo hw ?_
  rw [stepThread_throwing (frames_entered Y.here.top _), fs_stepC (vm1 := vm1) (h := h) (fun Q E d acts => (W.findHandler_eq (meth := meth) (code := c) (by rw [Stand.throwing_vm]; exact Y.method') Y.code).trans (h1 Q E d acts))]
  obtain ⟨g₀, hg0⟩ := Option.isSome_iff_exists.mp Y.here.top
  obtain ⟨r, hr⟩ := State.topJava?_eq_some.mp hg0
  have hr' : (V.setVm vm1).frames = .java g₀ :: r := hr
  have e1 : ∀ (u : State) (F : List Frame), (u.setFrames F).setVm vm1 = (u.setVm vm1).setFrames F := fun _ _ => rfl
  rw [State.setTop_of_frames _ hr'] at ht
  rw [hr, List.tail_cons, State.pushFrame, e1, State.setFrames_setFrames, State.setTop_of_frames _ hr, e1, State.setFrames_setFrames]
  exact ht
/-- the handlers' part of a try -/
def fs_H (X : fs_X) (p : Program) (l : Launch) (e : Env) (R : Room) (s : State) (m : MethodId) (args : Array Value) (below : List Frame) (meth : Method) (c : Code) (Q : State → Prop) {α : Type} (rF : α) (σ0 σF : fs_S) (pc : Nat) (ls : Array Slot) (rest : List Value) (t : fs_T α) (E : String) : Prop :=
  ∀ (a : Addr) (ce : Cell) (σ : fs_S), ce.vm = .none → s.vm.findClass E = some ce.cls → t.1 σ = some (rF, σF) → ∃ h, fs_F e s (F0 m pc ls rest) a ce c.exceptionTable.toList h ∧ fs_J X p l e R s m args below meth c Q rF σ0 σF t (F0 m h ls [.ref a])
theorem fs_Hif {n : String} {t1 t2 : fs_T α} {E : String} (h : Nat) (hF : ∀ (a : Addr) (ce : Cell), ce.vm = .none → s.vm.findClass n = some ce.cls → fs_F e s (F0 m pc ls rest) a ce c.exceptionTable.toList h)
    (hJ : ∀ a, fs_J X p l e R s m args below meth c Q rF σ0 σF t1 (F0 m h ls [.ref a])) (k : fs_H X p l e R s m args below meth c Q rF σ0 σF pc ls rest t2 E) : fs_H X p l e R s m args below meth c Q rF σ0 σF pc ls rest (if E = n then t1 else t2) E := by
  intro a ce σ h1 h2 h3
  by_cases q : E = n
  · subst q
    rw [if_pos rfl]
    exact ⟨h, hF a ce h1 h2, hJ a⟩
  · rw [if_neg q] at h3 ⊢
    exact k a ce σ h1 h2 h3
theorem fs_Hfail {E : String} : fs_H X p l e R s m args below meth c Q rF σ0 σF pc ls rest fs_fail E := fun _ _ _ _ _ h => by cases h
theorem fs_JVt (S : CallFix p m c cc nL s args fs_ws own) (hG : fs_G X s) (hR : fs_n σF ≤ fs_n σ0 + R.cells ∧ fs_u σF ≤ fs_u σ0 + R.slots) (hc : fs_cl[ci]? = some (C, T, N)) (As : List Value) {x : fs_T (β ⊕ String)} (ev : β → Option Value) {encx : β ⊕ String → Option Value ⊕ String} (hx1 : ∀ v, encx (.inl v) = .inl (ev v)) (hx2 : ∀ E, encx (.inr E) = .inr E)
    (hM : ∀ r σ σ1, x.1 σ = some (r, σ1) → fs_Met X l y (Cond.code y bytes maxL ret) fr lo (.ref b :: As) σ (encx r) σ1)
    (wl : Cond.methodLink own index y ∈ fs_ws) (wi : Cond.instanceMethod y ∈ fs_ws) (wx : Cond.selects C y y ∈ fs_ws) (wc : Cond.code y bytes maxL ret ∈ fs_ws) (wn : Cond.initialized y.cls ∈ fs_ws)
    (hd : y.cls ≠ "java/lang/invoke/MethodHandle" ∧ y.cls ≠ "java/lang/invoke/VarHandle" ∧ (parseMethodDescriptor y.desc).map (fun d => d.parameters.length) = some As.length) (hfr : fr + 1 ≤ R.frames ∧ 8 + (maxL + 11) + lo ≤ R.locals)
    (hsz : ls.size = nL) (hst : st0 = As.reverse ++ .ref b :: rest) (hW : (rest.map fun v => v.category).sum ≤ 8) (hdg : decode cc pc = .ok (.invokevirtual index, 3))
    {kk : β → fs_T α} {hh : String → fs_T α} (K : ∀ r, fs_J X p l e R s m args below meth c Q rF σ0 σF (kk r) (F0 m (pc + 3) ls ((ev r).toList ++ rest))) (K2 : ∀ E, fs_H X p l e R s m args below meth c Q rF σ0 σF pc ls rest (hh E) E) :
    fs_J X p l e R s m args below meth c Q rF σ0 σF (fs_try (fs_cv b ci x) kk hh) (F0 m pc ls st0) := by
  intro σ H locs cells slots h hw hS h4 h5
  obtain ⟨r, σ1, h1, h2⟩ := fs_bdT h
  obtain ⟨u, σ2, h1a, h1b⟩ := fs_bdT h1
  obtain ⟨fs, e1, rfl⟩ := fs_ck_ok h1a
  have hm1 := x.2 _ _ _ h1b
  have q1 := hm1.1
  have q2 := hm1.2
  have hts := S.2.2.2.2
  have hM1 := hM r σ2 σ1 h1b
  subst hst
  cases r with
  | inl v =>
    have hm2 := (kk v).2 _ _ _ h2
    have q3 := hm2.1
    have q4 := hm2.2
    rw [hx1] at hM1
    refine fs_go (mc := fs_n σ1 - fs_n σ2) (ms := fs_u σ1 - fs_u σ2) (va_runV (As := As) (rest := rest) S hM1.ret ⟨callB_of As.length hts (fs_gd wc) rfl rfl rfl (hts _ wn) (hts _ wl) hd hfr, hts _ wi, hts _ wx⟩ ⟨fs_blind, va_recv (ws := [(b, .inr (ci, fs))]) hG.2.2 (fs_one (hw.lko e1)) hc (q0 := 0) rfl, fun U hU hW2 => ⟨rfl, by rw [hU]; exact hw, hG.moved hW2⟩⟩ rfl rfl hsz rfl (lv_room hW) hdg ⟨by omega, by omega⟩) hS (fun H1 locs1 hw1 hS1 => ?_)
    exact K v σ1 H1 locs1 _ _ h2 hw1 hS1 (by omega) (by omega)
  | inr E =>
    have h2' : (hh E).1 σ1 = some (rF, σF) := h2
    have hm2 := (hh E).2 _ _ _ h2'
    have q3 := hm2.1
    have q4 := hm2.2
    rw [hx2] at hM1
    intro T0 hT0 Y
    obtain ⟨q, ce, V, L, YV, hwV, ⟨hz, hq⟩, hL, hce, hcv, hcl, st⟩ := fs_runVT S hG hc e1 hM1 wl wi wx wc wn hd hfr hsz hW hdg (cells := cells) (slots := slots) (by omega) (by omega) hT0 hw Y
    obtain ⟨ph, hF, hJ⟩ := K2 E q ce σ1 hcv hcl h2'
    obtain ⟨vm1, Y1, st1⟩ := fs_caught YV (g := F0 m pc ls rest) rfl hce hF
    obtain ⟨t, st2, hQ⟩ := hJ σ1 V.heap (locs ++ L) _ _ h2' hwV ⟨Nat.le_trans hS.1 hz, fun z a1 a2 => by rw [hq z (Nat.lt_of_lt_of_le a1 hS.1) a2]; exact hS.2.1 z a1 a2, fun z hz2 => by
        rcases List.mem_append.mp hz2 with h | h
        · exact hS.2.2 z h
        · exact hL z h⟩ (by omega) (by omega) (V.setVm vm1) rfl Y1
    exact ⟨t, st.trans (st1 t st2), hQ⟩
/-- a body with a table of handlers -/
theorem fs_ofWH {hs : List (Nat × Nat × Nat × Nat)} {av : List Value} {σ : fs_S} {rv : Option Value ⊕ String} (hy : plainName y.cls = true)
    (body : ∀ p e s m args below meth c s₁, BodyLoose p l y (headSpec (Cond.codeWith y cc maxL ret hs :: fs_ws) (fs_rm fr lo σ σF)) cc maxL ret e s m args below meth c s₁ → c.maxLocals = maxL → c.exceptionTable.toList = tableOf hs → fs_pre X av σ args s →
      W p l e (fs_rm fr lo σ σF) s m args below meth c s.heap [] 0 0 (fs_Q X below args s rv σ σF) (entryFrame m args maxL)) : fs_Met X l y (Cond.codeWith y cc maxL ret hs) fr lo av σ rv σF := by
  have his : ∀ args (s : State) m, (headSpec (Cond.codeWith y cc maxL ret hs :: fs_ws) (fs_rm fr lo σ σF)).pre.before args s = true → s.methodNamed? y = some m → ∃ meth c, s.vm.method? m = some meth ∧ meth.code = some c ∧ c.code = cc ∧ c.maxLocals = maxL ∧ meth.sig.returnType = ret ∧ meth.locks = false ∧ c.exceptionTable.toList = tableOf hs := by
    intro args s m h hn
    obtain ⟨m9, meth, c, hn9, h1, h2, h3, h4, h5, h6, h7, -⟩ := Cond.codeWith_spec (atoms_spec (ws := Cond.codeWith y cc maxL ret hs :: fs_ws) h _ List.mem_cons_self)
    cases hn.symm.trans hn9
    exact ⟨meth, c, h1, h2, h3, h4, h6, h7, by rw [← h5, table_eq]⟩
  refine MetFree.of_bodyS (code := cc) (maxLocals := maxL) (ret := ret) hy (fun args s m h hn => ?_) ?_
  · obtain ⟨meth, c, h1, h2, h3, h4, h5, h6, -⟩ := his args s m h hn
    exact ⟨meth, c, h1, h2, h3, h4, h5, h6⟩
  · intro p e s m args below meth c s₁ B hml hP _
    have hh0 : s₁.heap = s.heap := by rw [B.state]; rfl
    have ht : c.exceptionTable.toList = tableOf hs := by
      obtain ⟨meth9, c9, h1, h2, -, -, -, -, h7⟩ := his args s m B.pre B.named
      cases Option.some.inj (h1.symm.trans B.method)
      cases Option.some.inj (h2.symm.trans (Stand.of_body B).code)
      exact h7
    obtain ⟨t, a1, o, b1, b2, b3⟩ := body p e s m args below meth c s₁ B hml ht hP s₁ hh0 (Stand.of_body B)
    exact ⟨t, o, a1, b1, b2, b3⟩
/-- a call of such a static method -/
theorem fs_JSW (S : CallFix p m c cc nL s args fs_ws own) (hG : fs_G X s) (hR : fs_n σF ≤ fs_n σ0 + R.cells ∧ fs_u σF ≤ fs_u σ0 + R.slots) (As : List Value) {x : fs_T β} {enc : β → Option Value} {hs : List (Nat × Nat × Nat × Nat)}
    (hM : ∀ r σ σ1, x.1 σ = some (r, σ1) → fs_Met X l y (Cond.codeWith y bytes maxL ret hs) fr lo As σ (.inl (enc r)) σ1)
    (wl : Cond.methodLink own index y ∈ fs_ws) (wi : Cond.static y ∈ fs_ws) (wc : Cond.codeWith y bytes maxL ret hs ∈ fs_ws) (wn : Cond.initialized y.cls ∈ fs_ws)
    (hd : y.cls ≠ "java/lang/invoke/MethodHandle" ∧ y.cls ≠ "java/lang/invoke/VarHandle" ∧ (parseMethodDescriptor y.desc).map (fun d => d.parameters.length) = some As.length) (hfr : fr + 1 ≤ R.frames ∧ 8 + (maxL + 11) + lo ≤ R.locals)
    (hsz : ls.size = nL) (hst : st0 = As.reverse ++ rest) (hW : (rest.map fun v => v.category).sum ≤ 8) (hdg : decode cc pc = .ok (.invokestatic index, 3))
    {kk : β → fs_T α} (K : ∀ r, fs_J X p l e R s m args below meth c Q rF σ0 σF (kk r) (F0 m (pc + 3) ls ((enc r).toList ++ rest))) : fs_J X p l e R s m args below meth c Q rF σ0 σF (fs_bind x kk) (F0 m pc ls st0) := by
  intro σ H locs cells slots h hw hS h4 h5
  obtain ⟨r, σ1, h1, h2⟩ := fs_bdT h
  have hm1 := x.2 _ _ _ h1
  have hm2 := (kk r).2 _ _ _ h2
  have q1 := hm1.1
  have q2 := hm1.2
  have q3 := hm2.1
  have q4 := hm2.2
  have hts := S.2.2.2.2
  subst hst
  have hword : ∀ w ∈ fs_ws, ∀ (a : Array Value) (U : State), s.WarmedH U.vm → w.before a U = true := fun w h a U hU => word_at hU (good_of_word (List.mem_filter.mp h).2) (hts w h)
  have hK : Back l R p e below s args y 3 8 (PreOf R (fs_n σ1 - fs_n σ) (fs_u σ1 - fs_u σ) (fs_pre X As σ)) (PostOf (fs_Qr X (enc r) σ1) (fs_n σ1 - fs_n σ) (fs_u σ1 - fs_u σ) (fs_A X)) :=
    va_backW (hh := hs) (bytes := bytes) (maxL := maxL) (ret := ret) (hM r σ σ1 h1).ret fs_blind rfl rfl hfr.1 hfr.2 (fun w hw => (List.mem_cons.mp hw).elim (fun e => by rw [e]; exact hword _ wc) (fun h => hword _ h)) List.mem_cons_self (fun a U hU => hword _ wn a U hU)
  have hrun : va_Run p l e R s m args below meth c H locs cells slots (fs_n σ1 - fs_n σ) (fs_u σ1 - fs_u σ) (F0 m pc ls (As.reverse ++ rest)) rest (fs_Qr X (enc r) σ1 As.toArray) (fs_A X) := by
    intro T0 hT0 Y
    obtain ⟨mk, methM, cM, hnamed, hmethM, -, -, -, -, -, -, hsigM⟩ := Cond.codeWith_spec (hts _ wc)
    have hstatic : methM.isStatic = true := Cond.static_spec hnamed hmethM (hts _ wi)
    obtain ⟨kP, hkP, -⟩ := className_of_methodNamed hnamed
    have hinitP : kP.init = .initialized := Cond.initialized_spec (findClass_of_methodNamed hnamed) hkP (hts _ wn)
    have hlen : As.length = methM.sig.parameters.length := by
      have h2 := hd.2.2
      rw [hsigM] at h2
      exact (Option.some.inj h2).symm
    obtain ⟨vm₁, Y1, hstep⟩ := Y.invokestatic S.1 S.2.2.2.1 (hts _ wl) hnamed hmethM hstatic hkP hinitP ⟨hd.1, hd.2.1⟩ (g := F0 m pc ls (As.reverse ++ rest)) rfl (argsL := As) (rest := rest) hlen rfl (by rw [S.2.1]; exact hdg)
    obtain ⟨v, ⟨U', l2, c2, s2⟩, X', ⟨g', mk', t, L, e1, e2, hq, h1, hL, h2, h3⟩, st⟩ := hK m meth c ⟨T0.setVm vm₁, locs, cells, slots⟩ (F0 m pc ls rest) _ mk As.toArray Y1 rfl (by rw [S.2.2.1]; exact hsz) (by rw [S.2.1]; exact hdg) (lv_room hW) (Y1.named hnamed) ⟨by show cells + _ ≤ _; omega, by show slots + _ ≤ _; omega, rfl, by show fs_w X σ T0.heap; rw [hT0]; exact hw, hG.moved Y1.warmed⟩
    dsimp only [Pt.U, Pt.locs, Pt.cells, Pt.slots] at X' e1 e2 h1 h2 h3 st
    subst h1; subst h2; subst h3
    exact ⟨v, (T0.setVm vm₁).calling g' mk' As.toArray, t, U', L, hT0, X', hL, e1, e2, hq, fun target hgo => hstep _ fun acts => by rw [doInvoke_state]; exact st.trans hgo⟩
  exact fs_go hrun hS (fun H1 locs1 hw1 hS1 => K r σ1 H1 locs1 _ _ h2 hw1 hS1 (by omega) (by omega))
end FSY
