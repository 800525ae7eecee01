/-! A heap that holds a state; a walk that follows a program -/
/-- numbers of classes and slots; classes of arrays; addresses of constants; the state in which the law began -/
abbrev fs_X : Type := va_G × (Nat → ClassId) × (Nat → Nat) × State
abbrev fs_D (X : fs_X) : va_G := X.1
abbrev fs_ta (X : fs_X) : Nat → ClassId := X.2.1
abbrev fs_cz (X : fs_X) : Nat → Nat := X.2.2.1
abbrev fs_o (X : fs_X) : State := X.2.2.2
abbrev fs_z (X : fs_X) : Nat := (fs_o X).heap.size
def fs_A (X : fs_X) : Nat → Prop := fun q => fs_z X ≤ q
def fs_tr (X : fs_X) (e : fs_E) : va_E := match e with
  | .inl (t, x) => .inl (fs_ta X t, x)
  | .inr o => .inr o
abbrev fs_at (X : fs_X) (a : Nat) (e : fs_E) (H : Heap) : Prop := va_at (fs_D X) fs_cl (a, fs_tr X e) H
/-- what the state in which the law began says of a constant cell: an int[], or an Object[] of length 0 -/
def fs_ac (X : fs_X) (a : Nat) (e : fs_E) : Prop := match e with
  | .inl (t, n, .inl f) => t = 0 ∧ va_X a n f (fs_o X) (fs_o X).heap
  | .inl (t, n, .inr _) => t = 3 ∧ n = 0 ∧ ∃ scr : Cell, (fs_o X).heap[a]? = some scr ∧ (fs_o X).isArrayOf scr (.object "java/lang/Object") ∧ scr.slots.size = 0
  | .inr _ => False
def fs_w (X : fs_X) (σ : fs_S) (H : Heap) : Prop :=
  H.size = fs_n σ ∧ fs_z X ≤ fs_n σ ∧ fs_c σ = fs_cz X ∧ (∀ a e, fs_m σ a = some e → fs_z X ≤ a ∧ fs_at X a e H) ∧ (∀ a e, fs_k σ a = some e → a < fs_z X ∧ fs_ac X a e) ∧ ∀ q : Nat, q < fs_z X → H[q]? = (fs_o X).heap[q]?
theorem fs_w.lk {X : fs_X} {σ : fs_S} {H : Heap} (h : fs_w X σ H) {a : Nat} {e : fs_E} (he : fs_lk σ a = some e) : fs_at X a e H ∨ (a < fs_z X ∧ fs_ac X a e) := by
  unfold fs_lk at he
  cases hm : fs_m σ a with
  | some e1 => rw [hm] at he; cases he; exact Or.inl (h.2.2.2.1 a e hm).2
  | none => rw [hm] at he; exact Or.inr (h.2.2.2.2.1 a e he)
theorem fs_w.lko {X : fs_X} {σ : fs_S} {H : Heap} (h : fs_w X σ H) {a : Nat} {o : Nat × List Value} (he : fs_lk σ a = some (.inr o)) : fs_at X a (.inr o) H := by
  rcases h.lk he with q | ⟨-, q⟩
  · exact q
  · exact q.elim
theorem fs_w.So {X : fs_X} {σ : fs_S} {H H0 : Heap} {locs : List Loc} (h : fs_w X σ H) (hS : va_S (fs_A X) H0 H locs) : va_S (fs_A X) (fs_o X).heap H locs :=
  ⟨by rw [h.1]; exact h.2.1, fun q hq _ => h.2.2.2.2.2 q hq, hS.2.2⟩
/-- a cell is changed -/
theorem fs_w.set {X : fs_X} {σ : fs_S} {H H1 : Heap} (h : fs_w X σ H) {a : Nat} {e0 e : fs_E} (hm : fs_m σ a = some e0) (he : fs_at X a e H1) (z : H1.size = H.size) (oq : ∀ q : Nat, q ≠ a → H1[q]? = H[q]?) : fs_w X (fs_up (fs_m σ) a e, σ.2) H1 := by
  obtain ⟨h1, h2, h3, h4, h5, h6⟩ := h
  refine ⟨z.trans h1, h2, h3, fun b f hb => ?_, fun b f hb => ?_, fun q hq => (oq q (fun e1 => by
    have := (h4 a e0 hm).1
    omega)).trans (h6 q hq)⟩
  · have hb' : (if b = a then some e else fs_m σ b) = some f := hb
    by_cases hba : b = a
    · subst hba
      rw [if_pos rfl] at hb'
      cases hb'
      exact ⟨(h4 b e0 hm).1, he⟩
    · rw [if_neg hba] at hb'
      exact ⟨(h4 b f hb').1, (h4 b f hb').2.kept (oq b hba)⟩
  · exact h5 b f hb
/-- a cell is made -/
theorem fs_w.push {X : fs_X} {σ : fs_S} {H H1 : Heap} (h : fs_w X σ H) {e : fs_E} {w : Nat} (he : fs_at X H.size e H1) (z : H1.size = H.size + 1) (oq : ∀ q : Nat, q < H.size → H1[q]? = H[q]?) : fs_w X (fs_up (fs_m σ) (fs_n σ) e, fs_k σ, fs_c σ, fs_n σ + 1, fs_u σ + w) H1 := by
  obtain ⟨h1, h2, h3, h4, h5, h6⟩ := h
  refine ⟨by rw [z, h1], Nat.le_trans h2 (Nat.le_succ _), h3, fun b f hb => ?_, fun b f hb => ?_, fun q hq => (oq q (by omega)).trans (h6 q hq)⟩
  · have hb' : (if b = fs_n σ then some e else fs_m σ b) = some f := hb
    by_cases hba : b = fs_n σ
    · rw [if_pos hba] at hb'
      cases hb'
      exact ⟨by rw [hba]; exact h2, by rw [hba, ← h1]; exact he⟩
    · rw [if_neg hba] at hb'
      have q := h4 b f hb'
      exact ⟨q.1, q.2.kept (oq b q.2.lt)⟩
  · exact h5 b f hb
/-- more cells, that the state doesn't speak of -/
theorem fs_w.more {X : fs_X} {σ : fs_S} {H H1 : Heap} (h : fs_w X σ H) {w : Nat} (z : H1.size = H.size + 1) (oq : ∀ q : Nat, q < H.size → H1[q]? = H[q]?) : fs_w X (fs_m σ, fs_k σ, fs_c σ, fs_n σ + 1, fs_u σ + w) H1 := by
  obtain ⟨h1, h2, h3, h4, h5, h6⟩ := h
  refine ⟨by rw [z, h1], Nat.le_trans h2 (Nat.le_succ _), h3, fun b f hb => ?_, fun b f hb => ?_, fun q hq => (oq q (by omega)).trans (h6 q hq)⟩
  · have q := h4 b f hb
    exact ⟨q.1, q.2.kept (oq b q.2.lt)⟩
  · exact h5 b f hb
def fs_tys (X : fs_X) : List (ClassId × FieldType) := [(fs_ta X 0, .int), (fs_ta X 1, .long), (fs_ta X 2, .boolean), (fs_ta X 3, .object "java/lang/Object"), (fs_ta X 4, .object "FlowShelf$Slot")]
/-- what the Statement gives of the law's beginning; where the constants lie -/
def fs_B (X : fs_X) : Prop := (∃ b : Nat, (∀ w ∈ lw_tbl, w.before #[Value.ref b] (fs_o X) = true) ∧ (Jvm.Cond.and given_1 narrow_1).before #[Value.ref b] (fs_o X) = true) ∧
  va_Z "FlowShelf" "LEAST_LENGTH" "[I" (.ref (fs_cz X 0)) (fs_A X) (fs_o X) (fs_o X).heap ∧ va_Z "java/util/ArrayList" "DEFAULTCAPACITY_EMPTY_ELEMENTDATA" "[Ljava/lang/Object;" (.ref (fs_cz X 1)) (fs_A X) (fs_o X) (fs_o X).heap ∧
  va_Mi "[Ljava/lang/Object;" (fs_cz X 2) (fs_o X)
/-- the tables, as the law's beginning had them -/
def fs_G (X : fs_X) (U : State) : Prop := fs_B X ∧ (fs_o X).WarmedH U.vm ∧ va_K (fs_D X) fs_cl (fs_tys X) U
theorem fs_G.moved {X : fs_X} {u U : State} (hW : u.WarmedH U.vm) (h : fs_G X u) : fs_G X U := ⟨h.1, State.WarmedH.trans h.2.1 hW, va_K.moved hW.alike h.2.2⟩
theorem fs_G.word {X : fs_X} {U : State} (h : fs_G X U) {w : Cond} (hw : w ∈ lw_tbl) (ht : w.onTables = true) : va_Nw w (fs_o X) := by
  obtain ⟨⟨⟨b, hb, -⟩, -⟩, -⟩ := h
  exact va_Nw.of ht (hb w hw)
theorem fs_G.castable {X : fs_X} {U : State} (h : fs_G X U) {C T : String} (hw : Cond.castable C T ∈ lw_tbl) : va_Nw (.castable C T) U := va_Nw.warmC h.2.1 (h.word hw rfl)
theorem fs_G.nest {X : fs_X} {U : State} (h : fs_G X U) {a : String} {i : Nat} {x : MethodName} {t : String} (hw : Cond.methodLinkNest a i x t ∈ lw_tbl) : va_Nw (.methodLinkNest a i x t) U := va_Nw.warmM h.2.1 (h.word hw rfl)
theorem fs_G.over {X : fs_X} {U : State} (h : fs_G X U) {C : String} (hw : Cond.arrayOver (.object C) ∈ lw_tbl) : va_AO C U := by
  obtain ⟨⟨⟨b, hb, -⟩, -⟩, hW, -⟩ := h
  exact va_AO.moved hW.alike (va_AO.of (hb _ hw))
/-- a method's end: it has returned the value, or thrown an object of the class; the heap holds the new state; nothing that was there at the law's beginning has changed -/
def fs_End (X : fs_X) (rv : Option Value ⊕ String) (σF : fs_S) (mc ms : Nat) : Array Value → State → Outcome → State → Prop := fun _ st o t =>
  (match rv with
    | .inl v => o = .returned v
    | .inr E => ∃ (q : Addr) (ce : Cell), o = .threw q ∧ t.heap[q]? = some ce ∧ ce.vm = .none ∧ st.vm.findClass E = some ce.cls) ∧
  fs_w X σF t.heap ∧ va_F (fs_A X) st t ∧ st.WarmedH t.vm ∧ ∃ L, st.sameButNew ({ t with vm := st.vm } : State) L mc ms ∧ ∀ q ∈ L, fs_A X q.base
abbrev fs_pre (X : fs_X) (av : List Value) (σ : fs_S) : Array Value → State → Prop := va_Pc av fun U => fs_w X σ U.heap ∧ fs_G X U
abbrev fs_rm (fr lo : Nat) (σ σF : fs_S) : Room := { frames := fr, cells := fs_n σF - fs_n σ, slots := fs_u σF - fs_u σ, locals := lo }
/-- a method's contract: cy is its row of code -/
def fs_Met (X : fs_X) (l : Launch) (y : MethodName) (cy : Cond) (fr lo : Nat) (av : List Value) (σ : fs_S) (rv : Option Value ⊕ String) (σF : fs_S) : Prop :=
  MetFree l y (headSpec (cy :: fs_ws) (fs_rm fr lo σ σF)) (fs_pre X av σ) (fun _ _ _ _ _ => True) (fs_End X rv σF (fs_n σF - fs_n σ) (fs_u σF - fs_u σ))
def fs_Q (X : fs_X) (below : List Frame) (args : Array Value) (s : State) (rv : Option Value ⊕ String) (σ0 σF : fs_S) : State → Prop := fun t =>
  ∃ o, t.status = .running ∧ Ended t below o ∧ fs_End X rv σF (fs_n σF - fs_n σ0) (fs_u σF - fs_u σ0) args s o t
/-- what a call that returns says -/
def fs_Qr (X : fs_X) (v : Option Value) (σF : fs_S) : Array Value → State → Outcome → State → Prop := fun _ st o t => o = .returned v ∧ fs_w X σF t.heap ∧ va_F (fs_A X) st t
theorem fs_Met.ret {X : fs_X} {l : Launch} {y : MethodName} {cy : Cond} {fr lo : Nat} {av : List Value} {σ σF : fs_S} {v : Option Value} (h : fs_Met X l y cy fr lo av σ (.inl v) σF) :
    Met l y (cy :: fs_ws) (fs_rm fr lo σ σF) (fs_pre X av σ) (fs_Qr X v σF) (fs_n σF - fs_n σ) (fs_u σF - fs_u σ) (fs_A X) := by
  intro p e ha hc hk s m args below h1 h2 h3 h4
  obtain ⟨n, o, g1, g2, g3, g4, g5, g6, g7, L, g8, g9⟩ := h p e ha hc hk s m args below h1 h2 h3 h4
  exact ⟨n, o, g1, g2, g3, ⟨g4, g5, g6⟩, L, ⟨⟨v, g4⟩, g7, g8⟩, g9⟩
theorem fs_blind {X : fs_X} {av : List Value} {σ : fs_S} : FrameBlind (fs_pre X av σ) := fun a U g mk q => by
  obtain ⟨q0, q1, q2⟩ := q
  exact ⟨q0, q1, fs_G.moved (u := U) (U := U.calling g mk a) (State.WarmedH.refl U) q2⟩
theorem fs_gd {cy : Cond} (h : cy ∈ fs_ws) : GoodIn fs_ws (cy :: fs_ws) := fun w q => by
  have hw : w ∈ fs_ws := (List.mem_cons.mp q).elim (fun e => by rw [e]; exact h) id
  exact ⟨hw, good_of_word (List.mem_filter.mp hw).2⟩
/-- a body's walk gives the contract -/
theorem fs_ofW {X : fs_X} {l : Launch} {y : MethodName} {cc : ByteArray} {maxL : Nat} {ret : Option FieldType} {fr lo : Nat} {av : List Value} {σ σF : fs_S} {rv : Option Value ⊕ String} (hy : plainName y.cls = true)
    (body : ∀ p e s m args below meth c s₁, BodyLoose p l y (headSpec (Cond.code y cc maxL ret :: fs_ws) (fs_rm fr lo σ σF)) cc maxL ret e s m args below meth c s₁ → c.maxLocals = maxL → (∀ x ∈ c.exceptionTable.toList, False) → fs_pre X av σ args s →
      W p l e (fs_rm fr lo σ σF) s m args below meth c s.heap [] 0 0 (fs_Q X below args s rv σ σF) (entryFrame m args maxL)) : fs_Met X l y (Cond.code y cc maxL ret) fr lo av σ rv σF := by
  refine MetFree.of_bodyS (code := cc) (maxLocals := maxL) (ret := ret) hy ?_ ?_
  · intro args s m h hn
    obtain ⟨meth, c, h1, h2, h3, h4, h5, h6, -, -⟩ := Cond.code_spec hn (atoms_spec (ws := Cond.code y cc maxL ret :: fs_ws) h _ List.mem_cons_self)
    exact ⟨meth, c, h1, h2, h3, h4, h5, h6⟩
  · intro p e s m args below meth c s₁ B hml hP _
    have hh0 : s₁.heap = s.heap := by rw [B.state]; rfl
    have ht : ∀ x ∈ c.exceptionTable.toList, False := by
      obtain ⟨meth9, c9, h1, h2, -, -, -, -, h7, -⟩ := Cond.code_spec B.named (atoms_spec (ws := Cond.code y cc maxL ret :: fs_ws) B.pre _ List.mem_cons_self)
      cases Option.some.inj (h1.symm.trans B.method)
      cases Option.some.inj (h2.symm.trans (Stand.of_body B).code)
      intro x hx
      rw [Array.isEmpty_iff.mp h7] at hx
      cases hx
    obtain ⟨t, a1, o, b1, b2, b3⟩ := body p e s m args below meth c s₁ B hml ht hP s₁ hh0 (Stand.of_body B)
    exact ⟨t, o, a1, b1, b2, b3⟩
/-- the walk at g goes as the program t says -/
def fs_J (X : fs_X) (p : Program) (l : Launch) (e : Env) (R : Room) (s : State) (m : MethodId) (args : Array Value) (below : List Frame) (meth : Method) (c : Code) (Q : State → Prop) {α : Type} (rF : α) (σ0 σF : fs_S) (t : fs_T α) (g : JFrame) : Prop :=
  ∀ (σ : fs_S) (H : Heap) (locs : List Loc) (cells slots : Nat), t.1 σ = some (rF, σF) → fs_w X σ H → va_S (fs_A X) s.heap H locs → fs_n σ0 + cells = fs_n σ → fs_u σ0 + slots = fs_u σ →
    W p l e R s m args below meth c H locs cells slots Q g
section FSJ
variable {X : fs_X} {p : Program} {l : Launch} {e : Env} {R : Room} {s : State} {m : MethodId} {args : Array Value} {below : List Frame} {meth : Method} {c : Code} {Q : State → Prop} {α β : Type} {rF : α} {σ0 σF : fs_S}
variable {cc : ByteArray} {nL : Nat} {own : String} {pc : Nat} {ls : Array Slot} {rest : List Value}
theorem fs_lift {t : fs_T α} {g g2 : JFrame} (h : ∀ (H : Heap) (locs : List Loc) (cells slots : Nat), W p l e R s m args below meth c H locs cells slots Q g2 → W p l e R s m args below meth c H locs cells slots Q g)
    (k : fs_J X p l e R s m args below meth c Q rF σ0 σF t g2) : fs_J X p l e R s m args below meth c Q rF σ0 σF t g := fun σ H locs cells slots h1 h2 h3 h4 h5 => h H locs cells slots (k σ H locs cells slots h1 h2 h3 h4 h5)
theorem fs_liftL {t : fs_T α} {g : JFrame} {P : Array Slot → Prop} {g2 : Array Slot → JFrame} (h : ∀ (H : Heap) (locs : List Loc) (cells slots : Nat), (∀ ls, P ls → W p l e R s m args below meth c H locs cells slots Q (g2 ls)) → W p l e R s m args below meth c H locs cells slots Q g)
    (k : ∀ ls, P ls → fs_J X p l e R s m args below meth c Q rF σ0 σF t (g2 ls)) : fs_J X p l e R s m args below meth c Q rF σ0 σF t g := fun σ H locs cells slots h1 h2 h3 h4 h5 => h H locs cells slots (fun ls q => k ls q σ H locs cells slots h1 h2 h3 h4 h5)
theorem fs_if {t1 t2 : fs_T α} {P : Prop} [Decidable P] {g g1 g2 : JFrame} (h : ∀ (H : Heap) (locs : List Loc) (cells slots : Nat), (P → W p l e R s m args below meth c H locs cells slots Q g1) → (¬ P → W p l e R s m args below meth c H locs cells slots Q g2) → W p l e R s m args below meth c H locs cells slots Q g)
    (k1 : fs_J X p l e R s m args below meth c Q rF σ0 σF t1 g1) (k2 : fs_J X p l e R s m args below meth c Q rF σ0 σF t2 g2) : fs_J X p l e R s m args below meth c Q rF σ0 σF (if P then t1 else t2) g := by
  intro σ H locs cells slots h1 h2 h3 h4 h5
  refine h H locs cells slots (fun q => k1 σ H locs cells slots ?_ h2 h3 h4 h5) (fun q => k2 σ H locs cells slots ?_ h2 h3 h4 h5)
  · rw [if_pos q] at h1; exact h1
  · rw [if_neg q] at h1; exact h1
theorem fs_ifn {t1 t2 : fs_T α} {P : Prop} [Decidable P] {g g1 g2 : JFrame} (h : ∀ (H : Heap) (locs : List Loc) (cells slots : Nat), (¬ P → W p l e R s m args below meth c H locs cells slots Q g2) → (P → W p l e R s m args below meth c H locs cells slots Q g1) → W p l e R s m args below meth c H locs cells slots Q g)
    (k1 : fs_J X p l e R s m args below meth c Q rF σ0 σF t1 g1) (k2 : fs_J X p l e R s m args below meth c Q rF σ0 σF t2 g2) : fs_J X p l e R s m args below meth c Q rF σ0 σF (if P then t1 else t2) g := by
  refine fs_if (fun H locs cells slots a b => h H locs cells slots b a) k1 k2
/-- both roads, from the same frame -/
theorem fs_sw {t1 t2 : fs_T α} {P : Prop} [Decidable P] {g : JFrame} (k1 : P → fs_J X p l e R s m args below meth c Q rF σ0 σF t1 g) (k2 : ¬ P → fs_J X p l e R s m args below meth c Q rF σ0 σF t2 g) : fs_J X p l e R s m args below meth c Q rF σ0 σF (if P then t1 else t2) g := by
  by_cases q : P
  · rw [if_pos q]; exact k1 q
  · rw [if_neg q]; exact k2 q
theorem fs_Jnm {A : Type} {x : A} {kk : A → fs_T α} {g : JFrame} (k : ∀ v, v = x → fs_J X p l e R s m args below meth c Q rF σ0 σF (kk v) g) : fs_J X p l e R s m args below meth c Q rF σ0 σF (fs_nm x kk) g := k x rfl
theorem fs_Jni {x : Int32} {kk : Int32 → fs_T α} (k : ∀ v, fs_J X p l e R s m args below meth c Q rF σ0 σF (kk v) (F0 m pc ls (.int v :: rest))) : fs_J X p l e R s m args below meth c Q rF σ0 σF (fs_nm x kk) (F0 m pc ls (.int x :: rest)) := k x
theorem fs_Jnj {x : Int64} {kk : Int64 → fs_T α} (k : ∀ v, fs_J X p l e R s m args below meth c Q rF σ0 σF (kk v) (F0 m pc ls (.long v :: rest))) : fs_J X p l e R s m args below meth c Q rF σ0 σF (fs_nm x kk) (F0 m pc ls (.long x :: rest)) := k x
/-- a join: its rest once, then the roads to it -/
theorem fs_Jlet {A : Type} {x : A} {kk : A → fs_T α} {g : JFrame} (k : fs_J X p l e R s m args below meth c Q rF σ0 σF (kk x) g) : fs_J X p l e R s m args below meth c Q rF σ0 σF (fs_let x kk) g := k
theorem fs_Jfail {g : JFrame} : fs_J X p l e R s m args below meth c Q rF σ0 σF fs_fail g := fun _ _ _ _ _ h => by cases h
/-- loops -/
theorem fs_Jlp1 {A : Type} {b : (A → fs_T α) → A → fs_T α} {I : A → List (Nat × Value)}
    (h : ∀ rec : A → fs_T α, (∀ x ls, lv_has ls nL (I x) → fs_J X p l e R s m args below meth c Q rF σ0 σF (rec x) (F0 m pc ls rest)) → ∀ x ls, lv_has ls nL (I x) → fs_J X p l e R s m args below meth c Q rF σ0 σF (b rec x) (F0 m pc ls rest)) :
    ∀ (n : Nat) (x : A) (ls : Array Slot), lv_has ls nL (I x) → fs_J X p l e R s m args below meth c Q rF σ0 σF (fs_lp1 n b x) (F0 m pc ls rest)
  | 0, _, _, _ => fs_Jfail
  | n + 1, x, ls, q => h _ (fs_Jlp1 h n) x ls q
theorem fs_Jlp2 {A B : Type} {b : (A → B → fs_T α) → A → B → fs_T α} {I : A → B → List (Nat × Value)}
    (h : ∀ rec : A → B → fs_T α, (∀ x y ls, lv_has ls nL (I x y) → fs_J X p l e R s m args below meth c Q rF σ0 σF (rec x y) (F0 m pc ls rest)) → ∀ x y ls, lv_has ls nL (I x y) → fs_J X p l e R s m args below meth c Q rF σ0 σF (b rec x y) (F0 m pc ls rest)) :
    ∀ (n : Nat) (x : A) (y : B) (ls : Array Slot), lv_has ls nL (I x y) → fs_J X p l e R s m args below meth c Q rF σ0 σF (fs_lp2 n b x y) (F0 m pc ls rest)
  | 0, _, _, _, _ => fs_Jfail
  | n + 1, x, y, ls, q => h _ (fs_Jlp2 h n) x y ls q
theorem fs_Jlp3 {A B C : Type} {b : (A → B → C → fs_T α) → A → B → C → fs_T α} {I : A → B → C → List (Nat × Value)}
    (h : ∀ rec : A → B → C → fs_T α, (∀ x y w ls, lv_has ls nL (I x y w) → fs_J X p l e R s m args below meth c Q rF σ0 σF (rec x y w) (F0 m pc ls rest)) → ∀ x y w ls, lv_has ls nL (I x y w) → fs_J X p l e R s m args below meth c Q rF σ0 σF (b rec x y w) (F0 m pc ls rest)) :
    ∀ (n : Nat) (x : A) (y : B) (w : C) (ls : Array Slot), lv_has ls nL (I x y w) → fs_J X p l e R s m args below meth c Q rF σ0 σF (fs_lp3 n b x y w) (F0 m pc ls rest)
  | 0, _, _, _, _, _ => fs_Jfail
  | n + 1, x, y, w, ls, q => h _ (fs_Jlp3 h n) x y w ls q
theorem fs_Jlp4 {A B C D : Type} {b : (A → B → C → D → fs_T α) → A → B → C → D → fs_T α} {I : A → B → C → D → List (Nat × Value)}
    (h : ∀ rec : A → B → C → D → fs_T α, (∀ x y w v ls, lv_has ls nL (I x y w v) → fs_J X p l e R s m args below meth c Q rF σ0 σF (rec x y w v) (F0 m pc ls rest)) → ∀ x y w v ls, lv_has ls nL (I x y w v) → fs_J X p l e R s m args below meth c Q rF σ0 σF (b rec x y w v) (F0 m pc ls rest)) :
    ∀ (n : Nat) (x : A) (y : B) (w : C) (v : D) (ls : Array Slot), lv_has ls nL (I x y w v) → fs_J X p l e R s m args below meth c Q rF σ0 σF (fs_lp4 n b x y w v) (F0 m pc ls rest)
  | 0, _, _, _, _, _, _ => fs_Jfail
  | n + 1, x, y, w, v, ls, q => h _ (fs_Jlp4 h n) x y w v ls q
end FSJ
