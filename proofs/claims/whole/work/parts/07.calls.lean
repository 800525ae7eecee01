/-! ends of methods, and calls that return -/
section FSC
variable {X : fs_X} {p : Program} {l : Launch} {e : Env} {R : Room} {s : State} {m : MethodId} {args : Array Value} {below : List Frame} {meth : Method} {c : Code} {Q Q2 : State → Prop} {α β : Type} {rF : α} {σ0 σF : fs_S}
variable {cc : ByteArray} {nL : Nat} {own ref C : String} {T : u_T} {N ci index a pc : Nat} {ls : Array Slot} {rest : List Value} {H : Heap} {locs : List Loc} {cells slots : Nat}
theorem fs_mono {g : JFrame} (h : ∀ t, Q t → Q2 t) (k : W p l e R s m args below meth c H locs cells slots Q g) : W p l e R s m args below meth c H locs cells slots Q2 g := by
  intro T hT X
  obtain ⟨t, a1, b1⟩ := k T hT X
  exact ⟨t, a1, h t b1⟩
theorem fs_end {rv : Option Value ⊕ String} {v : Option Value} (hv : rv = .inl v) (h4 : fs_n σ0 + cells = fs_n σF) (h5 : fs_u σ0 + slots = fs_u σF) : ∀ t, MQ below (fs_Qr X v σF) args s cells slots (fs_A X) t → fs_Q X below args s rv σ0 σF t := by
  intro t ht
  obtain ⟨o, h1, h2, ⟨ho, hw, hF⟩, L, ⟨-, hW, hsm⟩, hL⟩ := ht
  subst hv
  have e1 : fs_n σF - fs_n σ0 = cells := by omega
  have e2 : fs_u σF - fs_u σ0 = slots := by omega
  exact ⟨o, h1, h2, ho, hw, hF, hW, L, by rw [e1, e2]; exact hsm, hL⟩
theorem fs_Jiret (S : CallFix p m c cc nL s args fs_ws own) (hr : meth.sig.returnType = some .int) (hlocks : meth.locks = false) {enc : α → Option Value ⊕ String} {w : α} {x : Int32} (he : enc w = .inl (some (.int x))) (hdg : decode cc pc = .ok (.ireturn, 1)) :
    fs_J X p l e R s m args below meth c (fs_Q X below args s (enc rF) σ0 σF) rF σ0 σF (fs_ret w) (F0 m pc ls [.int x]) := by
  intro σ H locs cells slots h hw hS h4 h5
  cases h
  exact fs_mono (fs_end he h4 h5) (W.iret S.1 S.2.1 hr (fun t ht hW => ⟨rfl, by rw [ht]; exact hw, hS.F ht⟩) hS.2.2 hdg hlocks)
theorem fs_Jzret (S : CallFix p m c cc nL s args fs_ws own) (hr : meth.sig.returnType = some .boolean) (hlocks : meth.locks = false) {enc : α → Option Value ⊕ String} {w : α} {x : Int32} (he : enc w = .inl (some (.int x))) (hdg : decode cc pc = .ok (.ireturn, 1)) :
    fs_J X p l e R s m args below meth c (fs_Q X below args s (enc rF) σ0 σF) rF σ0 σF (if x = 0 ∨ x = 1 then fs_ret w else fs_fail) (F0 m pc ls [.int x]) := by
  intro σ H locs cells slots h hw hS h4 h5
  by_cases q : x = 0 ∨ x = 1
  · rw [if_pos q] at h
    cases h
    exact fs_mono (fs_end he h4 h5) (W.zret S.1 S.2.1 hr (fs_nar q) (fun t ht hW => ⟨rfl, by rw [ht]; exact hw, hS.F ht⟩) hS.2.2 hdg hlocks)
  · rw [if_neg q] at h
    cases h
theorem fs_Jlret (S : CallFix p m c cc nL s args fs_ws own) (hr : meth.sig.returnType = some .long) (hlocks : meth.locks = false) {enc : α → Option Value ⊕ String} {w : α} {x : Int64} (he : enc w = .inl (some (.long x))) (hdg : decode cc pc = .ok (.lreturn, 1)) :
    fs_J X p l e R s m args below meth c (fs_Q X below args s (enc rF) σ0 σF) rF σ0 σF (fs_ret w) (F0 m pc ls [.long x]) := by
  intro σ H locs cells slots h hw hS h4 h5
  cases h
  exact fs_mono (fs_end he h4 h5) (W.lret S.1 S.2.1 hr (fun t ht hW => ⟨rfl, by rw [ht]; exact hw, hS.F ht⟩) hS.2.2 hdg hlocks)
theorem fs_Jaret (S : CallFix p m c cc nL s args fs_ws own) {rt : FieldType} (hr : meth.sig.returnType = some rt) (hrt : (∃ n, rt = .object n) ∨ ∃ t, rt = .array t) (hlocks : meth.locks = false) {enc : α → Option Value ⊕ String} {w : α} {x : Nat} (he : enc w = .inl (some (.ref x))) (hdg : decode cc pc = .ok (.areturn, 1)) :
    fs_J X p l e R s m args below meth c (fs_Q X below args s (enc rF) σ0 σF) rF σ0 σF (fs_ret w) (F0 m pc ls [.ref x]) := by
  intro σ H locs cells slots h hw hS h4 h5
  cases h
  exact fs_mono (fs_end he h4 h5) (W.aret S.1 S.2.1 hr hrt (Or.inr ⟨x, rfl⟩) (fun t ht hW => ⟨rfl, by rw [ht]; exact hw, hS.F ht⟩) hS.2.2 hdg hlocks)
theorem fs_Jvret (S : CallFix p m c cc nL s args fs_ws own) (hr : meth.sig.returnType = none) (hlocks : meth.locks = false) {enc : α → Option Value ⊕ String} {w : α} (he : enc w = .inl none) (hdg : decode cc pc = .ok (.return_, 1)) :
    fs_J X p l e R s m args below meth c (fs_Q X below args s (enc rF) σ0 σF) rF σ0 σF (fs_ret w) (F0 m pc ls []) := by
  intro σ H locs cells slots h hw hS h4 h5
  cases h
  exact fs_mono (fs_end he h4 h5) (W.vret S.1 S.2.1 hr (fun t ht hW => ⟨rfl, by rw [ht]; exact hw, hS.F ht⟩) hS.2.2 hdg hlocks)
theorem fs_go {mc ms : Nat} {v : Option Value} {σ1 : fs_S} {a : Array Value} {st0 : List Value} (hr : va_Run p l e R s m args below meth c H locs cells slots mc ms (F0 m pc ls st0) rest (fs_Qr X v σ1 a) (fs_A X)) (hS : va_S (fs_A X) s.heap H locs)
    (kk : ∀ (H1 : Heap) (locs1 : List Loc), fs_w X σ1 H1 → va_S (fs_A X) s.heap H1 locs1 → W p l e R s m args below meth c H1 locs1 (cells + mc) (slots + ms) Q (F0 m (pc + 3) ls (v.toList ++ rest))) : W p l e R s m args below meth c H locs cells slots Q (F0 m pc ls st0) := by
  intro T hT X'
  obtain ⟨v', st₀, t, T', L, h0, XX, hL, e1, e2, ⟨hv, hw, hz, hk⟩, st⟩ := hr T hT X'
  cases hv
  rw [h0] at hz hk
  obtain ⟨t2, a1, b1⟩ := kk T'.heap (locs ++ L) (by rw [e1]; exact hw) ⟨Nat.le_trans hS.1 (by rw [e1]; exact hz), fun q h1 h2 => by rw [e1, hk q (Nat.lt_of_lt_of_le h1 hS.1) h2]; exact hS.2.1 q h1 h2, fun q hq => by
      rcases List.mem_append.mp hq with h | h
      · exact hS.2.2 q h
      · exact hL q h⟩ T' rfl XX
  exact ⟨t2, st t2 a1, b1⟩
/-- a call of an object's method: the receiver is of the class -/
def fs_cv {α : Type} (b ci : Nat) (x : fs_T α) : fs_T α := fs_bind (fs_ck b ci) fun _ => x
variable {y : MethodName} {bytes : ByteArray} {maxL fr lo b : Nat} {ret : Option FieldType} {As st0 : List Value}
theorem fs_JV (S : CallFix p m c cc nL s args fs_ws own) (hG : fs_G X s) (hR : fs_n σF ≤ fs_n σ0 + R.cells ∧ fs_u σF ≤ fs_u σ0 + R.slots) (hc : fs_cl[ci]? = some (C, T, N)) (As : List Value) {x : fs_T β} {enc : β → Option Value}
    (hM : ∀ r σ σ1, x.1 σ = some (r, σ1) → fs_Met X l y (Cond.code y bytes maxL ret) fr lo (.ref b :: As) σ (.inl (enc r)) σ1)
    (wl : Cond.methodLink own index y ∈ fs_ws) (wi : Cond.instanceMethod y ∈ fs_ws) (wx : Cond.selects C y y ∈ fs_ws) (wc : Cond.code y bytes maxL ret ∈ fs_ws) (wn : Cond.initialized y.cls ∈ fs_ws)
    (hd : y.cls ≠ "java/lang/invoke/MethodHandle" ∧ y.cls ≠ "java/lang/invoke/VarHandle" ∧ (parseMethodDescriptor y.desc).map (fun d => d.parameters.length) = some As.length) (hfr : fr + 1 ≤ R.frames ∧ 8 + (maxL + 11) + lo ≤ R.locals)
    (hsz : ls.size = nL) (hst : st0 = As.reverse ++ .ref b :: rest) (hW : (rest.map fun v => v.category).sum ≤ 8) (hdg : decode cc pc = .ok (.invokevirtual index, 3))
    {kk : β → fs_T α} (K : ∀ r, fs_J X p l e R s m args below meth c Q rF σ0 σF (kk r) (F0 m (pc + 3) ls ((enc r).toList ++ rest))) : fs_J X p l e R s m args below meth c Q rF σ0 σF (fs_bind (fs_cv b ci x) kk) (F0 m pc ls st0) := by
  intro σ H locs cells slots h hw hS h4 h5
  obtain ⟨r, σ1, h1, h2⟩ := fs_bdT h
  obtain ⟨u, σ2, h1a, h1b⟩ := fs_bdT h1
  obtain ⟨fs, e1, rfl⟩ := fs_ck_ok h1a
  have hm1 := x.2 _ _ _ h1b
  have hm2 := (kk r).2 _ _ _ h2
  have q1 := hm1.1
  have q2 := hm1.2
  have q3 := hm2.1
  have q4 := hm2.2
  have hts := S.2.2.2.2
  refine fs_go (mc := fs_n σ1 - fs_n σ2) (ms := fs_u σ1 - fs_u σ2) (va_runV (As := As) (rest := rest) S (hM r σ2 σ1 h1b).ret ⟨callB_of As.length hts (fs_gd wc) rfl rfl rfl (hts _ wn) (hts _ wl) hd hfr, hts _ wi, hts _ wx⟩ ⟨fs_blind, va_recv (ws := [(b, .inr (ci, fs))]) hG.2.2 (fs_one (hw.lko e1)) hc (q0 := 0) rfl, fun U hU hW2 => ⟨rfl, by rw [hU]; exact hw, hG.moved hW2⟩⟩ rfl rfl hsz hst (lv_room hW) hdg ⟨by omega, by omega⟩) hS (fun H1 locs1 hw1 hS1 => ?_)
  exact K r σ1 H1 locs1 _ _ h2 hw1 hS1 (by omega) (by omega)
theorem fs_JS (S : CallFix p m c cc nL s args fs_ws own) (hG : fs_G X s) (hR : fs_n σF ≤ fs_n σ0 + R.cells ∧ fs_u σF ≤ fs_u σ0 + R.slots) (As : List Value) {x : fs_T β} {enc : β → Option Value}
    (hM : ∀ r σ σ1, x.1 σ = some (r, σ1) → fs_Met X l y (Cond.code y bytes maxL ret) fr lo As σ (.inl (enc r)) σ1)
    (wl : Cond.methodLink own index y ∈ fs_ws) (wi : Cond.static y ∈ fs_ws) (wc : Cond.code y bytes maxL ret ∈ fs_ws) (wn : Cond.initialized y.cls ∈ fs_ws)
    (hd : y.cls ≠ "java/lang/invoke/MethodHandle" ∧ y.cls ≠ "java/lang/invoke/VarHandle" ∧ (parseMethodDescriptor y.desc).map (fun d => d.parameters.length) = some As.length) (hfr : fr + 1 ≤ R.frames ∧ 8 + (maxL + 11) + lo ≤ R.locals)
    (hsz : ls.size = nL) (hst : st0 = As.reverse ++ rest) (hW : (rest.map fun v => v.category).sum ≤ 8) (hdg : decode cc pc = .ok (.invokestatic index, 3))
    {kk : β → fs_T α} (K : ∀ r, fs_J X p l e R s m args below meth c Q rF σ0 σF (kk r) (F0 m (pc + 3) ls ((enc r).toList ++ rest))) : fs_J X p l e R s m args below meth c Q rF σ0 σF (fs_bind x kk) (F0 m pc ls st0) := by
  intro σ H locs cells slots h hw hS h4 h5
  obtain ⟨r, σ1, h1, h2⟩ := fs_bdT h
  have hm1 := x.2 _ _ _ h1
  have hm2 := (kk r).2 _ _ _ h2
  have q1 := hm1.1
  have q2 := hm1.2
  have q3 := hm2.1
  have q4 := hm2.2
  have hts := S.2.2.2.2
  refine fs_go (mc := fs_n σ1 - fs_n σ) (ms := fs_u σ1 - fs_u σ) (va_runS (As := As) (rest := rest) S (hM r σ σ1 h1).ret ⟨callB_of As.length hts (fs_gd wc) rfl rfl rfl (hts _ wn) (hts _ wl) hd hfr, hts _ wi⟩ ⟨fs_blind, fun U hU hW2 => ⟨rfl, by rw [hU]; exact hw, hG.moved hW2⟩⟩ rfl rfl hsz hst (lv_room hW) hdg ⟨by omega, by omega⟩) hS (fun H1 locs1 hw1 hS1 => ?_)
  exact K r σ1 H1 locs1 _ _ h2 hw1 hS1 (by omega) (by omega)
theorem fs_JI (S : CallFix p m c cc nL s args fs_ws own) (hG : fs_G X s) (hR : fs_n σF ≤ fs_n σ0 + R.cells ∧ fs_u σF ≤ fs_u σ0 + R.slots) (As : List Value) {x : fs_T Unit}
    (hM : ∀ r σ σ1, x.1 σ = some (r, σ1) → fs_Met X l y (Cond.code y bytes maxL none) fr lo (.ref b :: As) σ (.inl none) σ1)
    (wl : Cond.methodLink own index y ∈ fs_ws) (wi : Cond.instanceMethod y ∈ fs_ws) (wc : Cond.code y bytes maxL none ∈ fs_ws) (wn : Cond.initialized y.cls ∈ fs_ws) (hnm : y.name = "<init>")
    (hd : y.cls ≠ "java/lang/invoke/MethodHandle" ∧ y.cls ≠ "java/lang/invoke/VarHandle" ∧ (parseMethodDescriptor y.desc).map (fun d => d.parameters.length) = some As.length) (hfr : fr + 1 ≤ R.frames ∧ 8 + (maxL + 11) + lo ≤ R.locals)
    (hsz : ls.size = nL) (hst : st0 = As.reverse ++ .ref b :: rest) (hW : (rest.map fun v => v.category).sum ≤ 8) (hdg : decode cc pc = .ok (.invokespecial index, 3))
    {kk : Unit → fs_T α} (K : fs_J X p l e R s m args below meth c Q rF σ0 σF (kk ()) (F0 m (pc + 3) ls rest)) : fs_J X p l e R s m args below meth c Q rF σ0 σF (fs_bind x kk) (F0 m pc ls st0) := by
  intro σ H locs cells slots h hw hS h4 h5
  obtain ⟨r, σ1, h1, h2⟩ := fs_bdT h
  have hm1 := x.2 _ _ _ h1
  have hm2 := (kk r).2 _ _ _ h2
  have q1 := hm1.1
  have q2 := hm1.2
  have q3 := hm2.1
  have q4 := hm2.2
  have hts := S.2.2.2.2
  refine fs_go (mc := fs_n σ1 - fs_n σ) (ms := fs_u σ1 - fs_u σ) (va_runI (As := As) (rest := rest) S (hM r σ σ1 h1).ret ⟨callB_of As.length hts (fs_gd wc) rfl rfl rfl (hts _ wn) (hts _ wl) hd hfr, hnm, hts _ wi⟩ ⟨fs_blind, fun U hU hW2 => ⟨rfl, by rw [hU]; exact hw, hG.moved hW2⟩⟩ rfl rfl hsz hst (lv_room hW) hdg ⟨by omega, by omega⟩) hS (fun H1 locs1 hw1 hS1 => ?_)
  exact K σ1 H1 locs1 _ _ h2 hw1 hS1 (by omega) (by omega)
/-- private constructors and methods of a nest mate -/
theorem fs_JIN (S : CallFix p m c cc nL s args fs_ws own) (hG : fs_G X s) (hR : fs_n σF ≤ fs_n σ0 + R.cells ∧ fs_u σF ≤ fs_u σ0 + R.slots) (As : List Value) {x : fs_T Unit} {host : String}
    (hM : ∀ r σ σ1, x.1 σ = some (r, σ1) → fs_Met X l y (Cond.code y bytes maxL none) fr lo (.ref b :: As) σ (.inl none) σ1)
    (wl : Cond.methodLinkNest own index y host ∈ lw_tbl) (wi : Cond.instanceMethod y ∈ fs_ws) (wc : Cond.code y bytes maxL none ∈ fs_ws) (wn : Cond.initialized y.cls ∈ fs_ws) (hnm : y.name = "<init>")
    (hd : y.cls ≠ "java/lang/invoke/MethodHandle" ∧ y.cls ≠ "java/lang/invoke/VarHandle" ∧ (parseMethodDescriptor y.desc).map (fun d => d.parameters.length) = some As.length) (hfr : fr + 1 ≤ R.frames ∧ 8 + (maxL + 11) + lo ≤ R.locals)
    (hsz : ls.size = nL) (hst : st0 = As.reverse ++ .ref b :: rest) (hW : (rest.map fun v => v.category).sum ≤ 8) (hdg : decode cc pc = .ok (.invokespecial index, 3))
    {kk : Unit → fs_T α} (K : fs_J X p l e R s m args below meth c Q rF σ0 σF (kk ()) (F0 m (pc + 3) ls rest)) : fs_J X p l e R s m args below meth c Q rF σ0 σF (fs_bind x kk) (F0 m pc ls st0) := by
  intro σ H locs cells slots h hw hS h4 h5
  obtain ⟨r, σ1, h1, h2⟩ := fs_bdT h
  have hm1 := x.2 _ _ _ h1
  have hm2 := (kk r).2 _ _ _ h2
  have q1 := hm1.1
  have q2 := hm1.2
  have q3 := hm2.1
  have q4 := hm2.2
  have hts := S.2.2.2.2
  refine fs_go (mc := fs_n σ1 - fs_n σ) (ms := fs_u σ1 - fs_u σ) (va_runIN (As := As) (rest := rest) S (hM r σ σ1 h1).ret ⟨va_cnB As.length hts (fs_gd wc) rfl rfl rfl (hG.nest wl) (hts _ wn) hd hfr, hnm, hts _ wi⟩ ⟨fs_blind, fun U hU hW2 => ⟨rfl, by rw [hU]; exact hw, hG.moved hW2⟩⟩ rfl rfl hsz hst (lv_room hW) hdg ⟨by omega, by omega⟩) hS (fun H1 locs1 hw1 hS1 => ?_)
  exact K σ1 H1 locs1 _ _ h2 hw1 hS1 (by omega) (by omega)
theorem fs_JSN (S : CallFix p m c cc nL s args fs_ws own) (hG : fs_G X s) (hR : fs_n σF ≤ fs_n σ0 + R.cells ∧ fs_u σF ≤ fs_u σ0 + R.slots) (As : List Value) {x : fs_T β} {enc : β → Option Value} {host : String}
    (hM : ∀ r σ σ1, x.1 σ = some (r, σ1) → fs_Met X l y (Cond.code y bytes maxL ret) fr lo As σ (.inl (enc r)) σ1)
    (wl : Cond.methodLinkNest own index y host ∈ lw_tbl) (wi : Cond.static y ∈ fs_ws) (wc : Cond.code y bytes maxL ret ∈ fs_ws) (wn : Cond.initialized y.cls ∈ fs_ws)
    (hd : y.cls ≠ "java/lang/invoke/MethodHandle" ∧ y.cls ≠ "java/lang/invoke/VarHandle" ∧ (parseMethodDescriptor y.desc).map (fun d => d.parameters.length) = some As.length) (hfr : fr + 1 ≤ R.frames ∧ 8 + (maxL + 11) + lo ≤ R.locals)
    (hsz : ls.size = nL) (hst : st0 = As.reverse ++ rest) (hW : (rest.map fun v => v.category).sum ≤ 8) (hdg : decode cc pc = .ok (.invokestatic index, 3))
    {kk : β → fs_T α} (K : ∀ r, fs_J X p l e R s m args below meth c Q rF σ0 σF (kk r) (F0 m (pc + 3) ls ((enc r).toList ++ rest))) : fs_J X p l e R s m args below meth c Q rF σ0 σF (fs_bind x kk) (F0 m pc ls st0) := by
  intro σ H locs cells slots h hw hS h4 h5
  obtain ⟨r, σ1, h1, h2⟩ := fs_bdT h
  have hm1 := x.2 _ _ _ h1
  have hm2 := (kk r).2 _ _ _ h2
  have q1 := hm1.1
  have q2 := hm1.2
  have q3 := hm2.1
  have q4 := hm2.2
  have hts := S.2.2.2.2
  refine fs_go (mc := fs_n σ1 - fs_n σ) (ms := fs_u σ1 - fs_u σ) (va_runSN (As := As) (rest := rest) S (hM r σ σ1 h1).ret ⟨va_cnB As.length hts (fs_gd wc) rfl rfl rfl (hG.nest wl) (hts _ wn) hd hfr, hts _ wi, trivial⟩ ⟨fs_blind, fun U hU hW2 => ⟨rfl, by rw [hU]; exact hw, hG.moved hW2⟩⟩ rfl rfl hsz hst (lv_room hW) hdg ⟨by omega, by omega⟩) hS (fun H1 locs1 hw1 hS1 => ?_)
  exact K r σ1 H1 locs1 _ _ h2 hw1 hS1 (by omega) (by omega)
theorem fs_JO (S : CallFix p m c cc nL s args fs_ws own) {t : fs_T α} (wl : Cond.methodLink own index Lib.objectInit ∈ fs_ws) (wi : Cond.instanceMethod Lib.objectInit ∈ fs_ws) (wc : Cond.code Lib.objectInit ⟨#[0xb1]⟩ 1 none ∈ fs_ws) (hsz : ls.size = nL) (hfr : 1 ≤ R.frames) (hlo : (rest.map fun v => v.category).sum + 12 ≤ R.locals) (hdg : decode cc pc = .ok (.invokespecial index, 3))
    (K : fs_J X p l e R s m args below meth c Q rF σ0 σF t (F0 m (pc + 3) ls rest)) : fs_J X p l e R s m args below meth c Q rF σ0 σF t (F0 m pc ls (.ref a :: rest)) := by
  refine fs_lift (fun H locs cells slots k => ?_) K
  have hts := S.2.2.2.2
  exact W.objInit S.1 S.2.1 S.2.2.2.1 (hts _ wl) (hts _ wi) (hts _ wc) rfl (by rw [S.2.2.1]; exact hsz) rfl hdg hfr (by show 2 * 0 + _ + 12 ≤ _; omega) k
end FSC
