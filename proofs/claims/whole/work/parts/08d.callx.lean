/-! a callee that throws -/
section FSX
variable {X : fs_X} {p : Program} {l : Launch} {e : Env} {R : Room} {s : State} {m : MethodId} {args : Array Value} {below : List Frame} {meth : Method} {c : Code} {Q : State → Prop} {α β : Type} {rF : α} {σ0 σF : fs_S}
variable {cc : ByteArray} {nL : Nat} {own C : String} {T : u_T} {N ci index pc : Nat} {ls : Array Slot} {rest : List Value} {locs : List Loc} {cells slots : Nat}
variable {y : MethodName} {bytes : ByteArray} {maxL fr lo b : Nat} {ret : Option FieldType} {As st0 : List Value}
/-- what the caller sees of a call that threw: from T on, at the frame g (its arguments popped), with q thrown over it -/
def fs_Thr (X : fs_X) (p : Program) (l : Launch) (e : Env) (R : Room) (s : State) (m : MethodId) (args : Array Value) (below : List Frame) (meth : Method) (c : Code) (H : Heap) (locs : List Loc) (cells slots mc ms : Nat) (σ1 : fs_S) (E : String) (V0 : State) (g : JFrame) : Prop :=
  ∃ (q : Addr) (ce : Cell) (V : State) (L : List Loc), Stand p l e R s m args below meth c V (locs ++ L) (cells + mc) (slots + ms) ∧ fs_w X σ1 V.heap ∧ (H.size ≤ V.heap.size ∧ ∀ z : Nat, z < H.size → ¬ fs_A X z → V.heap[z]? = H[z]?) ∧ (∀ z ∈ L, fs_A X z.base) ∧ V.heap[q]? = some ce ∧ ce.vm = .none ∧ s.vm.findClass E = some ce.cls ∧
    Steps p.tables e below V0 ((V.setTop g).pushFrame (.throwing q))
theorem fs_backT {U : State} {av : List Value} {σ σ1 : fs_S} {E : String} (hM : fs_Met X l y (Cond.code y bytes maxL ret) fr lo av σ (.inr E) σ1) (Y : Stand p l e R s m args below meth c U locs cells slots) {g : JFrame} {ig : Instr} {len : Nat} (hg : g.method = m) (hsize : g.locals.size = c.maxLocals) (hdg : decode c.code g.pc = .ok (ig, len))
    (hW : 2 * g.monitorRoom + (g.stack.map fun v => v.category).sum ≤ 8) {mk : MethodId} (hn : U.methodNamed? y = some mk) (hts : ∀ w ∈ fs_ws, w.before args s = true) (wc : Cond.code y bytes maxL ret ∈ fs_ws) (wn : Cond.initialized y.cls ∈ fs_ws)
    (hfr : fr + 1 ≤ R.frames ∧ 8 + (maxL + 11) + lo ≤ R.locals) (hc : cells + (fs_n σ1 - fs_n σ) ≤ R.cells) (hs : slots + (fs_u σ1 - fs_u σ) ≤ R.slots) (hw : fs_w X σ U.heap) (hG : fs_G X U) :
    fs_Thr X p l e R s m args below meth c U.heap locs cells slots (fs_n σ1 - fs_n σ) (fs_u σ1 - fs_u σ) σ1 E (doInvoke e (U.setTop g) [] mk av.toArray).1 g := by
  have hword : ∀ w ∈ fs_ws, ∀ a : Array Value, w.before a U = true := fun w h a => word_at Y.warmed (good_of_word (List.mem_filter.mp h).2) (hts w h)
  have h1 : (headSpec (Cond.code y bytes maxL ret :: fs_ws) (fs_rm fr lo σ σ1)).pre.before av.toArray U = true := atoms_intro fun w hw => (List.mem_cons.mp hw).elim (fun e => by rw [e]; exact hword _ wc _) (fun h => hword _ h _)
  obtain ⟨methY, cY, hmY, hcY, -, hlY, -, -, -, -⟩ := Cond.code_spec hn (hword _ wc av.toArray)
  obtain ⟨kY, hkY, -⟩ := className_of_methodNamed hn
  have hinitY : kY.init = .initialized := Cond.initialized_spec (findClass_of_methodNamed hn) hkY (hword _ wn av.toArray)
  have h : At U g.method c below := by rw [hg]; exact Y.here
  have happ : (headSpec (Cond.code y bytes maxL ret :: fs_ws) (fs_rm fr lo σ σ1)).appliesLoose y e.platform (U.calling g mk av.toArray) = true :=
    Spec.appliesLoose_calling (g := g) h hdg hn hkY hinitY (Y.room_calling (g := g) (R' := fs_rm fr lo σ σ1) hsize hmY hcY hfr.1 (by
      have e1 : (fs_rm fr lo σ σ1).locals = lo := rfl
      rw [hlY, e1]
      omega) hc hs) h1
  obtain ⟨mid, hmid⟩ := h.above
  have hfr2 : (U.setTop g).frames = (.java g :: mid) ++ below := by rw [State.frames_setTop' g h.top, hmid]; rfl
  obtain ⟨o, s₂, hsteps, -, hend, hq⟩ := Steps.callFree hM p Y.admits Y.cas Y.clock (acts := []) hfr2 happ ⟨rfl, hw, hG.moved (State.WarmedH.refl U)⟩ trivial
  obtain ⟨⟨q, ce, rfl, hce, hcv, hcl⟩, hw1, hF, hW2, L, hsm, hL⟩ := hq
  rw [State.frames_setTop' g h.top] at hend
  obtain ⟨g₀, hg0⟩ := Option.isSome_iff_exists.mp h.top
  obtain ⟨r, hr⟩ := State.topJava?_eq_some.mp hg0
  obtain ⟨e2, q2, q3, q4, q5, q6⟩ := id hsm
  have e3 : s₂ = ({ (U.calling g mk av.toArray).setFrames s₂.frames with heap := s₂.heap, slotsUsed := s₂.slotsUsed } : State).setVm s₂.vm := by
    have : s₂ = ({ s₂ with vm := (U.calling g mk av.toArray).vm } : State).setVm s₂.vm := rfl
    rw [show ({ s₂ with vm := (U.calling g mk av.toArray).vm } : State) = _ from e2] at this
    exact this
  have hf₂ : s₂.frames = .throwing q :: .java g :: U.frames.tail := hend
  have hW' : U.WarmedH s₂.vm := hW2
  have hr' : (({ U with heap := s₂.heap, slotsUsed := s₂.slotsUsed } : State).setVm s₂.vm).frames = .java g₀ :: r := hr
  have hs₂ : s₂ = ((({ U with heap := s₂.heap, slotsUsed := s₂.slotsUsed } : State).setVm s₂.vm).setTop g).pushFrame (.throwing q) := by
    refine e3.trans ?_
    rw [hf₂, State.calling_eq h.top, State.setFrames_setFrames, State.pushFrame, State.frames_setTop _ hr', State.setTop_of_frames _ hr', State.setFrames_setFrames, hr]
    rfl
  have hsame : U.sameButNew ({ U with heap := s₂.heap, slotsUsed := s₂.slotsUsed } : State) L (fs_n σ1 - fs_n σ) (fs_u σ1 - fs_u σ) := by
    refine ⟨?_, q2, q3, q4, q5, q6⟩
    obtain ⟨t, ht, -⟩ := State.frames_cons hr
    show ({ U with heap := s₂.heap, slotsUsed := s₂.slotsUsed } : State) = { U.setFrames U.frames with heap := s₂.heap, slotsUsed := s₂.slotsUsed }
    rw [State.setFrames_self ht]
  subst hg
  refine ⟨q, ce, (({ U with heap := s₂.heap, slotsUsed := s₂.slotsUsed } : State).setVm s₂.vm), L,
    ⟨Y.admits, Y.cas, Y.clock, Y.frames, Y.room, Y.hears, Y.method, Y.code, (Y.here.setHeapUsed s₂.heap s₂.slotsUsed).setVm hW'.alike, Y.tail, State.WarmedH.trans Y.warmed hW', Y.limits, Y.bytes, Y.same.trans (hsame.setVm s.vm)⟩, hw1, hF, hL, hce, hcv, ?_, ?_⟩
  · have h9 : U.vm.findClass E = some ce.cls := hcl
    rw [Y.warmed.alike.findClass] at h9
    exact h9
  · show Steps p.tables e below _ (((({ U with heap := s₂.heap, slotsUsed := s₂.slotsUsed } : State).setVm s₂.vm).setTop g).pushFrame (.throwing q))
    rw [← hs₂]
    exact hsteps
/-- it isn't caught here -/
theorem fs_out {T : State} {H : Heap} {σ1 : fs_S} {E : String} {mc ms : Nat} {V0 : State} (hthr : fs_Thr X p l e R s m args below meth c H locs cells slots mc ms σ1 E V0 (F0 m pc ls rest)) (hS : va_S (fs_A X) s.heap H locs) (hT : ∀ x ∈ c.exceptionTable.toList, False) (hk : meth.locks = false) {rv : Option Value ⊕ String} (hrv : rv = .inr E) (h1 : fs_n σ0 + (cells + mc) = fs_n σ1) (h2 : fs_u σ0 + (slots + ms) = fs_u σ1) :
    ∃ t, Steps p.tables e below V0 t ∧ fs_Q X below args s rv σ0 σ1 t := by
  obtain ⟨q, ce, V, L, Y, hw, ⟨hz, hq⟩, hL, hce, hcv, hcl, st⟩ := hthr
  obtain ⟨st1, hrun, hend, hW, hsm⟩ := Y.leaveThrown q (g := F0 m pc ls rest) rfl rfl rfl (fun x hx => (hT x hx).elim) hk
  have e1 : fs_n σ1 - fs_n σ0 = cells + mc := by omega
  have e2 : fs_u σ1 - fs_u σ0 = slots + ms := by omega
  subst hrv
  refine ⟨_, st.trans st1, .threw q, hrun, hend, ⟨q, ce, rfl, hce, hcv, hcl⟩, hw, ⟨Nat.le_trans hS.1 hz, fun z a1 a2 => ?_⟩, hW, locs ++ L, by rw [e1, e2]; exact hsm, fun z hz2 => ?_⟩
  · show V.heap[z]? = _
    rw [hq z (Nat.lt_of_lt_of_le a1 hS.1) a2]
    exact hS.2.1 z a1 a2
  · rcases List.mem_append.mp hz2 with h | h
    · exact hS.2.2 z h
    · exact hL z h
/-- the two kinds of calls, to a callee that threw -/
theorem fs_runVT {T0 : State} {H : Heap} {σ σ1 : fs_S} {E : String} {fs : List Value} (S : CallFix p m c cc nL s args fs_ws own) (hG : fs_G X s) (hc : fs_cl[ci]? = some (C, T, N)) (e1 : fs_lk σ b = some (.inr (ci, fs))) (hM : fs_Met X l y (Cond.code y bytes maxL ret) fr lo (.ref b :: As) σ (.inr E) σ1)
    (wl : Cond.methodLink own index y ∈ fs_ws) (wi : Cond.instanceMethod y ∈ fs_ws) (wx : Cond.selects C y y ∈ fs_ws) (wc : Cond.code y bytes maxL ret ∈ fs_ws) (wn : Cond.initialized y.cls ∈ fs_ws)
    (hd : y.cls ≠ "java/lang/invoke/MethodHandle" ∧ y.cls ≠ "java/lang/invoke/VarHandle" ∧ (parseMethodDescriptor y.desc).map (fun d => d.parameters.length) = some As.length) (hfr : fr + 1 ≤ R.frames ∧ 8 + (maxL + 11) + lo ≤ R.locals)
    (hsz : ls.size = nL) (hW : (rest.map fun v => v.category).sum ≤ 8) (hdg : decode cc pc = .ok (.invokevirtual index, 3)) (hcl : cells + (fs_n σ1 - fs_n σ) ≤ R.cells) (hsl : slots + (fs_u σ1 - fs_u σ) ≤ R.slots) (hTH : T0.heap = H) (hw : fs_w X σ H) (Y : Stand p l e R s m args below meth c T0 locs cells slots) :
    fs_Thr X p l e R s m args below meth c H locs cells slots (fs_n σ1 - fs_n σ) (fs_u σ1 - fs_u σ) σ1 E (T0.setTop (F0 m pc ls (As.reverse ++ .ref b :: rest))) (F0 m pc ls rest) := by
  have hts := S.2.2.2.2
  obtain ⟨cellB, hcB, hoB, hclB⟩ := va_recv (ws := [(b, .inr (ci, fs))]) hG.2.2 (fs_one (hw.lko e1)) hc (q0 := 0) rfl
  obtain ⟨mk, methM, hnamed, hmethM, hstM, habM⟩ := Cond.instanceMethod_spec (hts _ wi)
  obtain ⟨methM', cM, hmethM', -, -, -, -, -, -, hsigM⟩ := Cond.code_spec hnamed (hts _ wc)
  cases hmethM.symm.trans hmethM'
  obtain ⟨c2, r2, m2, q1, q2, q3, q4, kP, hkP, hkPi⟩ := Cond.selects_spec (hts _ wx)
  cases hclB.symm.trans q1
  cases (State.methodFound?_of_named hnamed ⟨hd.1, hd.2.1⟩).symm.trans q2
  cases hnamed.symm.trans q3
  have hselP : selectMethod e.platform s.vm cellB.cls mk = .method mk := by rw [Launch.admits_selectMethod Y.admits]; exact q4
  have hlen : As.length = methM.sig.parameters.length := by
    have h2 := hd.2.2
    rw [hsigM] at h2
    exact (Option.some.inj h2).symm
  obtain ⟨vm₁, Y1, hstep⟩ := Y.invokevirtual S.1 S.2.2.2.1 (hts _ wl) hnamed hmethM hstM hkP hkPi ⟨hd.1, hd.2.1⟩ (a := b) (cell := cellB) (by rw [hTH]; exact hcB)
    (fun z h => by rw [h] at hoB; cases hoB) hselP hmethM habM hkP hkPi (g := F0 m pc ls (As.reverse ++ .ref b :: rest)) rfl (argsL := As) (rest := rest) hlen rfl (by rw [S.2.1]; exact hdg)
  have B := fs_backT (av := .ref b :: As) hM Y1 (g := F0 m pc ls rest) rfl (by rw [S.2.2.1]; exact hsz) (by rw [S.2.1]; exact hdg) (lv_room hW) (Y1.named hnamed) hts wc wn hfr hcl hsl (by show fs_w X σ T0.heap; rw [hTH]; exact hw) (hG.moved Y1.warmed)
  obtain ⟨q, ce, V, L, k1, k2, k3, k4, k5, k6, k7, st⟩ := B
  refine ⟨q, ce, V, L, k1, k2, by rw [← hTH]; exact k3, k4, k5, k6, k7, ?_⟩
  exact hstep _ fun acts => by rw [doInvoke_state]; exact st
theorem fs_runST {T0 : State} {H : Heap} {σ σ1 : fs_S} {E : String} (S : CallFix p m c cc nL s args fs_ws own) (hG : fs_G X s) (hM : fs_Met X l y (Cond.code y bytes maxL ret) fr lo As σ (.inr E) σ1)
    (wl : Cond.methodLink own index y ∈ fs_ws) (wi : Cond.static y ∈ fs_ws) (wc : Cond.code y bytes maxL ret ∈ fs_ws) (wn : Cond.initialized y.cls ∈ fs_ws)
    (hd : y.cls ≠ "java/lang/invoke/MethodHandle" ∧ y.cls ≠ "java/lang/invoke/VarHandle" ∧ (parseMethodDescriptor y.desc).map (fun d => d.parameters.length) = some As.length) (hfr : fr + 1 ≤ R.frames ∧ 8 + (maxL + 11) + lo ≤ R.locals)
    (hsz : ls.size = nL) (hW : (rest.map fun v => v.category).sum ≤ 8) (hdg : decode cc pc = .ok (.invokestatic index, 3)) (hcl : cells + (fs_n σ1 - fs_n σ) ≤ R.cells) (hsl : slots + (fs_u σ1 - fs_u σ) ≤ R.slots) (hTH : T0.heap = H) (hw : fs_w X σ H) (Y : Stand p l e R s m args below meth c T0 locs cells slots) :
    fs_Thr X p l e R s m args below meth c H locs cells slots (fs_n σ1 - fs_n σ) (fs_u σ1 - fs_u σ) σ1 E (T0.setTop (F0 m pc ls (As.reverse ++ rest))) (F0 m pc ls rest) := by
  have hts := S.2.2.2.2
  obtain ⟨mk, hnamed⟩ := Cond.code_named (hts _ wc)
  obtain ⟨methM, cM, hmethM, -, -, -, -, -, -, hsigM⟩ := Cond.code_spec hnamed (hts _ wc)
  have hstatic : methM.isStatic = true := Cond.static_spec hnamed hmethM (hts _ wi)
  obtain ⟨kP, hkP, -⟩ := className_of_methodNamed hnamed
  have hinitP : kP.init = .initialized := Cond.initialized_spec (findClass_of_methodNamed hnamed) hkP (hts _ wn)
  have hlen : As.length = methM.sig.parameters.length := by
    have h2 := hd.2.2
    rw [hsigM] at h2
    exact (Option.some.inj h2).symm
  obtain ⟨vm₁, Y1, hstep⟩ := Y.invokestatic S.1 S.2.2.2.1 (hts _ wl) hnamed hmethM hstatic hkP hinitP ⟨hd.1, hd.2.1⟩ (g := F0 m pc ls (As.reverse ++ rest)) rfl (argsL := As) (rest := rest) hlen rfl (by rw [S.2.1]; exact hdg)
  have B := fs_backT (av := As) hM Y1 (g := F0 m pc ls rest) rfl (by rw [S.2.2.1]; exact hsz) (by rw [S.2.1]; exact hdg) (lv_room hW) (Y1.named hnamed) hts wc wn hfr hcl hsl (by show fs_w X σ T0.heap; rw [hTH]; exact hw) (hG.moved Y1.warmed)
  obtain ⟨q, ce, V, L, k1, k2, k3, k4, k5, k6, k7, st⟩ := B
  refine ⟨q, ce, V, L, k1, k2, by rw [← hTH]; exact k3, k4, k5, k6, k7, ?_⟩
  exact hstep _ fun acts => by rw [doInvoke_state]; exact st
end FSX
