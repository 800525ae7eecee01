/-! an exception is made and thrown -/
theorem fs_isRef {C n d : String} {v : Value} {A : Nat → Prop} {s : State} {args : Array Value} (h : va_Z C n d v A s s.heap) (hv : v.isRef = true) : (Cond.isRef (.static C n d)).before args s = true := by
  obtain ⟨cf, kf, fi, f, a, cell, h1, h2, h3, h4, h5, h6, h7, -⟩ := h
  have he : (Term.static C n d).eval args s none [] s = some v := by simp [Term.eval, State.fieldNamed?, h1, h2, h4, h5, h6, h7]
  cases v <;> first | (simp only [Cond.before, Cond.holds, Cond.value, he]; rfl) | cases hv
theorem fs_isRefq {C n d : String} {A : Nat → Prop} {s : State} {args : Array Value} (h : va_Zq C n d A s s.heap) : (Cond.isRef (.static C n d)).before args s = true := by
  rcases h with h | ⟨t, h⟩
  · exact fs_isRef h rfl
  · exact fs_isRef h rfl
theorem fs_lays {X : fs_X} {s : State} {H : Heap} {σ : fs_S} {A : Array Value} {C n d : String} (hW : (fs_o X).WarmedH s.vm) (hw : fs_w X σ s.heap) (h : (Cond.laysStatic C n d).before A (fs_o X) = true) {B : Array Value} : (Cond.laysStatic C n d).before B s = true := by
  obtain ⟨c, k, i, f, a, cell, hc, hi, hst, ha, hcell, hs, hcls, hlt, hty⟩ := Cond.laysStatic_spec h
  obtain ⟨k', hi', hek⟩ := State.fieldFound?_setVm hW.alike hi
  have hq : s.heap[a]? = some cell := by rw [hw.2.2.2.2.2 a (Array.getElem?_eq_some_iff.mp hcell).1]; exact hcell
  exact Cond.laysStatic_of (s := s) (by rw [hW.alike.findClass]; exact hc) hi' hst (by rw [hek]; exact ha) hq hs hcls hlt (by rw [hek]; exact hty)
/-- the words of a throw, where they stand -/
def fs_tk (w : Cond) : Prop := w ∈ lw_tbl ∧ (goodWord w = true ∨ (∃ C T, w = .castable C T) ∨ (∃ x, w = .declares x) ∨ ∃ a b d, w = .laysStatic a b d) ∨
  w = .isRef (.static Bundle.tN "UNASSIGNED_STACK" Bundle.steD) ∨ w = .isRef (.static Bundle.tN "SUPPRESSED_SENTINEL" Bundle.listD)
theorem fs_zq {X : fs_X} {s : State} {σ : fs_S} (hG : fs_G X s) (hw : fs_w X σ s.heap) {C n d : String} (hl : Cond.laysStatic C n d ∈ lw_tbl) (hi : Cond.initialized C ∈ fs_ws) (hr : ∀ b : Nat, (Jvm.Cond.and given_1 narrow_1).before #[Value.ref b] (fs_o X) = true → (Cond.isRef (.static C n d)).before #[Value.ref b] (fs_o X) = true) : va_Zq C n d (fs_A X) s s.heap := by
  obtain ⟨⟨⟨b, hb, hn⟩, -⟩, hW, -⟩ := hG
  have h0 : va_Zq C n d (fs_A X) (fs_o X) (fs_o X).heap := va_Zqof (hb _ hl) (hb _ (List.mem_filter.mp hi).1) (hr b hn) (fun a ha h => absurd ha (Nat.not_lt.mpr h))
  exact va_Zq.moved hW.alike (va_Zq.kept h0 (fun q hq _ => hw.2.2.2.2.2 q hq))
theorem fs_tw {X : fs_X} {s : State} {σ : fs_S} (hG : fs_G X s) (hw : fs_w X σ s.heap) {w : Cond} (h : fs_tk w) (args : Array Value) : w.before args s = true := by
  rcases h with ⟨hm, hg | ⟨C, T, rfl⟩ | ⟨x, rfl⟩ | ⟨a, b, d, rfl⟩⟩ | rfl | rfl
  · obtain ⟨⟨⟨b, hb, -⟩, -⟩, hW, -⟩ := hG
    exact word_at hW (good_of_word hg) (hb _ hm)
  · exact va_Nw.use rfl (hG.castable hm)
  · exact va_Nw.use rfl (hG.decl hm)
  · obtain ⟨⟨⟨q, hb, -⟩, -⟩, hW, -⟩ := hG
    exact fs_lays (H := s.heap) hW hw (hb _ hm)
  · exact fs_isRefq (fs_zq hG hw tb_2_94 tw_1_12 (fun b h => flat_of_before _ h _ (by decide +kernel)))
  · exact fs_isRefq (fs_zq hG hw tb_2_96 tw_1_12 (fun b h => flat_of_before _ h _ (by decide +kernel)))
section FST
variable {X : fs_X} {p : Program} {l : Launch} {e : Env} {R : Room} {s : State} {m : MethodId} {args : Array Value} {below : List Frame} {meth : Method} {c : Code} {Q : State → Prop} {α β : Type} {rF : α} {σ0 σF : fs_S}
variable {cc : ByteArray} {nL : Nat} {own : String} {pc : Nat} {ls : Array Slot} {rest : List Value} {locs : List Loc} {cells slots : Nat}
/-- the walk, looked at as if it began here -/
theorem fs_anew {T : State} (Y : Stand p l e R s m args below meth c T locs cells slots) {R2 : Room} (h1 : R2.frames ≤ R.frames) (h2 : R2.locals ≤ R.locals) (h3 : cells + R2.cells ≤ R.cells) (h4 : slots + R2.slots ≤ R.slots) :
    Stand p l e R2 ((T.setVm s.vm).setFrames (.invoking m args :: below)) m args below meth c T [] 0 0 := by
  obtain ⟨g₀, hfr⟩ := Y.frames_eq
  have hcur : (T.setVm s.vm).cur < (T.setVm s.vm).threads.size := State.cur_lt_of_frames (s := T.setVm s.vm) hfr
  have hF : ((T.setVm s.vm).setFrames (.invoking m args :: below)).frames = .invoking m args :: below := State.frames_setFrames _ hcur
  refine ⟨Y.admits, Y.cas, Y.clock, hF, ?_, Y.hears, Y.method, Y.code, Y.here, Y.tail, Y.warmed, ?_, ?_, ?_⟩
  · have hU : ((T.setVm s.vm).setFrames (.invoking m args :: below)).localsInUse = s.localsInUse := by
      rw [State.localsInUse_invoking hF (meth := meth) (c := c) Y.method Y.code, State.localsInUse_invoking Y.frames Y.method Y.code]
    have hr := Y.room
    have k1 := Y.heapSize
    have k2 := Y.used
    have k3 : e.platform.stackLimits (T.setVm s.vm).me = e.platform.stackLimits s.me := Y.limits
    have k4 : (T.setVm s.vm).me.stackBytes = s.me.stackBytes := Y.bytes
    simp only [State.hasRoom, Bool.and_eq_true, decide_eq_true_eq] at hr ⊢
    obtain ⟨⟨⟨⟨a1, a2, a3, a4, a5, a6⟩, a7⟩, a8⟩, a9⟩ := hr
    rw [Y.frames, List.length_cons] at a2 a3
    simp only [hF, hU, List.length_cons, State.stackLimits_setFrames, State.stackBytes_setFrames, k3, k4]
    refine ⟨⟨⟨⟨by omega, by omega, by omega, by omega, by omega, a6⟩, ?_⟩, ?_⟩, Y.book⟩
    · show T.heap.size + R2.cells ≤ e.platform.maxCells
      omega
    · show T.slotsUsed + R2.slots ≤ e.platform.maxSlots
      omega
  · rw [State.stackLimits_setFrames]
    rfl
  · rw [State.stackBytes_setFrames]
    rfl
  · have hz : ((T.heap.toList.drop T.heap.size).map (·.slots.size)).sum = 0 := by
      rw [List.drop_eq_nil_of_le (Nat.le_of_eq Array.length_toList)]
      rfl
    refine ⟨?_, Nat.le_refl _, Nat.le_refl _, ?_, Nat.le_of_eq hz, fun a c9 h9 => ⟨c9, h9, rfl, rfl, fun _ _ => rfl⟩⟩
    · obtain ⟨t, ht, -⟩ := State.frames_cons hfr
      show T.setVm s.vm = { ((T.setVm s.vm).setFrames (.invoking m args :: below)).setFrames (T.setVm s.vm).frames with heap := T.heap, slotsUsed := T.slotsUsed }
      rw [State.setFrames_setFrames, State.setFrames_self (s := T.setVm s.vm) ht]
      rfl
    · show T.slotsUsed = T.slotsUsed + ((T.heap.toList.drop T.heap.size).map (·.slots.size)).sum
      rw [hz]
      rfl
/-- behind the message: the constructor and athrow -/
theorem fs_thrown {T : State} {H : Heap} {σ : fs_S} (S : CallFix p m c cc nL s args fs_ws own) (hG : fs_G X s) (hl : l.stackTraces = false) {cls text : String} {names : List String} {ik is ic : Nat} {len : Nat} (ii : Instr) (hii : ii = .ldc is ∧ len = 2 ∨ ii = .ldc_w is ∧ len = 3)
    (hcls : Bundle.fit cls = true) (hnames : ∀ n ∈ names, Bundle.fit n = true) (hat : ∀ w ∈ Bundle.ownAtoms own ic cls names, fs_tk w) (wk : Cond.classLink own ik cls ∈ fs_ws) (wi : Cond.initialized cls ∈ fs_ws) (wt : Cond.stringRef own is text ∈ lw_tbl)
    (hsz : ls.size = nL) (hT : ∀ x ∈ c.exceptionTable.toList, False) (hk : meth.locks = false) (hfr : names.length + 3 < R.frames) (hlo : (rest.map fun v => v.category).sum + (13 * (names.length + 1) + 43) ≤ R.locals) (h1 : cells + 1 ≤ R.cells) (h2 : slots + 6 ≤ R.slots)
    (d0 : decode cc pc = .ok (.new ik, 3)) (d1 : decode cc (pc + 3) = .ok (.dup, 1)) (d2 : decode cc (pc + 4) = .ok (ii, len)) (d3 : decode cc (pc + 4 + len) = .ok (.invokespecial ic, 3)) (d4 : decode cc (pc + 4 + len + 3) = .ok (.athrow, 1))
    (hTH : T.heap = H) (hw : fs_w X σ H) (Y : Stand p l e R s m args below meth c T locs cells slots) :
    ∃ (U : State) (ce : Cell), Steps p.tables e below (T.setTop (F0 m pc ls rest)) U ∧ U.status = .running ∧ Ended U below (.threw T.heap.size) ∧ s.WarmedH U.vm ∧ s.sameButNew ({ U with vm := s.vm } : State) locs (cells + 1) (slots + 6) ∧
      U.heap[T.heap.size]? = some ce ∧ ce.vm = .none ∧ s.vm.findClass cls = some ce.cls ∧ U.heap.size = H.size + 1 ∧ ∀ q : Nat, q < H.size → U.heap[q]? = H[q]? := by
  have htr : e.platform.stackTraces = false := (show e.platform.stackTraces = l.stackTraces by rw [Y.admits.platform]).trans hl
  have Z := fs_anew Y (R2 := { frames := R.frames, locals := R.locals, cells := 1, slots := 6 }) (Nat.le_refl _) (Nat.le_refl _) h1 h2
  obtain ⟨s', hs'⟩ : ∃ z, z = (T.setVm s.vm).setFrames (.invoking m args :: below) := ⟨_, rfl⟩
  rw [← hs'] at Z
  have hvm : s'.vm = s.vm := by rw [hs']; rfl
  have hhp : s'.heap = H := by rw [hs']; exact hTH
  have hW0 : s.WarmedH s'.vm := by rw [hvm]; exact State.WarmedH.refl s
  have hG' : fs_G X s' := hG.moved hW0
  have hw' : fs_w X σ s'.heap := by rw [hhp]; exact hw
  have hatom : ∀ w ∈ Bundle.ownAtoms own ic cls names, w.before args s' = true := fun w h => fs_tw hG' hw' (hat w h) args
  have hword : ∀ w ∈ fs_ws, w.before args s' = true := fun w h => word_at hW0 (good_of_word (List.mem_filter.mp h).2) (S.2.2.2.2 w h)
  have hown : s'.vm.findClass own = some m.cls := by rw [hvm]; exact S.2.2.2.1
  have hb := S.2.1
  have hexec := S.1
  obtain ⟨sa, hstr⟩ : ∃ sa, vk_R own is text sa s' := by
    obtain ⟨⟨⟨b, hb0, -⟩, -⟩, hW, -⟩ := hG'
    have hs0 := hb0 _ wt
    have hfc : ∃ d, (fs_o X).vm.findClass own = some d := ⟨m.cls, by rw [← hW.alike.findClass]; exact hown⟩
    obtain ⟨d, hd⟩ := hfc
    obtain ⟨k, cf, i, a, -, -, -, -, -, hev⟩ := Cond.stringRef_spec hd hs0
    exact ⟨a, vk_R.warm hW (vk_R.of hs0 hev)⟩
  obtain ⟨vm₁, cX, kX, hfX, hkX, -, -, Z1, st1⟩ := Z.newCold hexec (own := own) (C := cls) (index := ik) (n := 6) hown (hword _ wk) (hatom _ (by simp [Bundle.ownAtoms])) (hword _ wi) (g := F0 m pc ls rest) rfl (by rw [hb]; exact d0) (Nat.le_refl _) (Nat.le_refl _)
  generalize hT1 : (T.setVm vm₁).pushCell { cls := cX, slots := kX.instanceTypes.map defaultValue, vm := .none } = T1 at Z1 st1
  have hcellA : T1.heap[T.heap.size]? = some (freshCell cX kX) := by rw [← hT1]; exact State.heap_pushCell_size _ _
  have d1' : decode c.code (pc + 3) = .ok (.dup, 1) := by rw [hb]; exact d1
  obtain ⟨U, hsteps, hrun, hend, hW, hsame, ce, hce, hO⟩ := Z1.ctorThrowS hexec htr (own := own) (cls := cls) (names := names) (ic := ic) hown hcls hnames hatom (fun x hx => nomatch hx) hfX hkX hcellA (by rw [hhp, hTH]; exact Nat.le_refl _) (msg := .ref sa) rfl
    (g := { method := m, pc := pc + 4 + len, locals := ls, stack := .ref sa :: .ref T.heap.size :: .ref T.heap.size :: rest, locked := none }) rfl (by rw [S.2.2.1]; exact hsz) rfl rfl (rest := rest) rfl
    (by rw [hb]; exact d3) (by rw [hb]; exact d4) (fun x hx => (hT x hx).elim) hfr (by
      have e1 : (Value.ref T.heap.size).category = 1 := rfl
      simp only [List.map_cons, List.sum_cons, e1]
      show 2 * 0 + _ + _ ≤ R.locals
      omega) hk
  have hWs : s.WarmedH U.vm := State.WarmedH.trans hW0 hW
  have hall : s.sameButNew ({ U with vm := s.vm } : State) locs (cells + 1) (slots + 6) := by
    subst hs'
    obtain ⟨e1, e2⟩ := hsame
    rw [State.setFrames_setFrames] at e1
    have q2 : (T.setVm s.vm).sameButNew ({ U with vm := s.vm } : State) [] (0 + 1) (0 + 6) := ⟨e1, e2⟩
    have q3 := Y.same.trans q2
    rw [List.append_nil] at q3
    simpa using q3
  have hsz1 : s'.heap.size ≤ U.heap.size ∧ U.heap.size ≤ s'.heap.size + (0 + 1) := ⟨hsame.2.1, hsame.2.2.1⟩
  have hlt := (Array.getElem?_eq_some_iff.mp hce).1
  rw [hhp] at hsz1
  refine ⟨U, ce, ?_, hrun, hend, hWs, hall, hce, hO.vm, by have h9 := hO.cls; rw [hvm] at h9; exact h9, by rw [hTH] at hlt; omega, fun q hq => ?_⟩
  · refine st1 _ ?_
    show Steps p.tables e below (T1.setTop { method := m, pc := pc + 3, locals := ls, stack := .ref T.heap.size :: rest, locked := none }) _
    jvm_step Z1.here [Z1.here.top, hexec, d1', Value.category]
    rcases hii with ⟨rfl, rfl⟩ | ⟨rfl, rfl⟩
    · exact Z1.ldcString hexec (own := own) (text := text) (index := is) (a := sa) hown hstr.1 hstr.2 (g := { method := m, pc := pc + 4, locals := ls, stack := .ref T.heap.size :: .ref T.heap.size :: rest, locked := none }) rfl (by rw [hb]; exact d2) _ hsteps
    · exact Z1.ldcStringW hexec (own := own) (text := text) (index := is) (a := sa) hown hstr.1 hstr.2 (g := { method := m, pc := pc + 4, locals := ls, stack := .ref T.heap.size :: .ref T.heap.size :: rest, locked := none }) rfl (by rw [hb]; exact d2) _ hsteps
  · have hq' : q < s'.heap.size := by rw [hhp]; exact hq
    have h9 := hsame.old_cell (a := q) (Array.getElem?_eq_getElem hq')
    rw [← hhp, Array.getElem?_eq_getElem hq']
    exact h9
/-- 'throw new E(text)' -/
theorem fs_Jthrow (S : CallFix p m c cc nL s args fs_ws own) (hG : fs_G X s) (hR : fs_n σF ≤ fs_n σ0 + R.cells ∧ fs_u σF ≤ fs_u σ0 + R.slots) (hl : l.stackTraces = false) {cls text : String} {names : List String} {ik is ic : Nat} {len : Nat} (ii : Instr) (hii : ii = .ldc is ∧ len = 2 ∨ ii = .ldc_w is ∧ len = 3)
    (hcls : Bundle.fit cls = true) (hnames : ∀ n ∈ names, Bundle.fit n = true) (hat : ∀ w ∈ Bundle.ownAtoms own ic cls names, fs_tk w) (wk : Cond.classLink own ik cls ∈ fs_ws) (wi : Cond.initialized cls ∈ fs_ws) (wt : Cond.stringRef own is text ∈ lw_tbl)
    (hsz : ls.size = nL) (hT : ∀ x ∈ c.exceptionTable.toList, False) (hk : meth.locks = false) (hfr : names.length + 3 < R.frames) (hlo : (rest.map fun v => v.category).sum + (13 * (names.length + 1) + 43) ≤ R.locals)
    (d0 : decode cc pc = .ok (.new ik, 3)) (d1 : decode cc (pc + 3) = .ok (.dup, 1)) (d2 : decode cc (pc + 4) = .ok (ii, len)) (d3 : decode cc (pc + 4 + len) = .ok (.invokespecial ic, 3)) (d4 : decode cc (pc + 4 + len + 3) = .ok (.athrow, 1))
    {rF : β ⊕ String} {enc : β ⊕ String → Option Value ⊕ String} (he : enc (.inr cls) = .inr cls) :
    fs_J X p l e R s m args below meth c (fs_Q X below args s (enc rF) σ0 σF) rF σ0 σF (fs_throw cls) (F0 m pc ls rest) := by
  intro σ H locs cells slots h hw hS h4 h5
  cases h
  intro T hTH Y
  have q1 : fs_n (fs_m σ, fs_k σ, fs_c σ, fs_n σ + 1, fs_u σ + 6) = fs_n σ + 1 := rfl
  have q2 : fs_u (fs_m σ, fs_k σ, fs_c σ, fs_n σ + 1, fs_u σ + 6) = fs_u σ + 6 := rfl
  rw [q1, q2] at hR
  obtain ⟨U, ce, st, hrun, hend, hW, hsm, hce, hcv, hcl, hz, hq⟩ := fs_thrown S hG hl ii hii hcls hnames hat wk wi wt hsz hT hk hfr hlo (by omega) (by omega) d0 d1 d2 d3 d4 hTH hw Y
  have e1 : fs_n (fs_m σ, fs_k σ, fs_c σ, fs_n σ + 1, fs_u σ + 6) - fs_n σ0 = cells + 1 := by rw [q1]; omega
  have e2 : fs_u (fs_m σ, fs_k σ, fs_c σ, fs_n σ + 1, fs_u σ + 6) - fs_u σ0 = slots + 6 := by rw [q2]; omega
  refine ⟨U, st, .threw T.heap.size, hrun, hend, ?_, hw.more hz hq, ⟨by rw [hz]; exact Nat.le_trans hS.1 (Nat.le_succ _), fun q a1 a2 => by rw [hq q (Nat.lt_of_lt_of_le a1 hS.1)]; exact hS.2.1 q a1 a2⟩, hW, locs, by rw [e1, e2]; exact hsm, hS.2.2⟩
  rw [he]
  exact ⟨_, ce, rfl, hce, hcv, hcl⟩
end FST
