/-! The abstract heap, and programs over it. A cell: an array (its kind, length, contents) or an object (its class's place, fields). -/
abbrev fs_E : Type := (Nat × vp_A) ⊕ (Nat × List Value)
abbrev fs_M : Type := Nat → Option fs_E
/-- live cells; constant cells; addresses of constants; how many cells the heap has; how many slots were made -/
abbrev fs_S : Type := fs_M × fs_M × (Nat → Nat) × Nat × Nat
abbrev fs_m (s : fs_S) : fs_M := s.1
abbrev fs_k (s : fs_S) : fs_M := s.2.1
abbrev fs_c (s : fs_S) : Nat → Nat := s.2.2.1
abbrev fs_n (s : fs_S) : Nat := s.2.2.2.1
abbrev fs_u (s : fs_S) : Nat := s.2.2.2.2
def fs_le (a b : fs_S) : Prop := fs_n a ≤ fs_n b ∧ fs_u a ≤ fs_u b
theorem fs_le.rf (a : fs_S) : fs_le a a := ⟨Nat.le_refl _, Nat.le_refl _⟩
theorem fs_le.tr {a b c : fs_S} (h : fs_le a b) (k : fs_le b c) : fs_le a c := ⟨Nat.le_trans h.1 k.1, Nat.le_trans h.2 k.2⟩
def fs_up (M : fs_M) (a : Nat) (e : fs_E) : fs_M := fun b => if b = a then some e else M b
def fs_lk (s : fs_S) (a : Nat) : Option fs_E := match fs_m s a with
  | some e => some e
  | none => fs_k s a
/-- a program: it may fail; it never gives room back -/
abbrev fs_T (α : Type) : Type := { f : fs_S → Option (α × fs_S) // ∀ s a t, f s = some (a, t) → fs_le s t }
def fs_ret {α : Type} (a : α) : fs_T α := ⟨fun s => some (a, s), fun s b t h => by cases h; exact fs_le.rf s⟩
def fs_fail {α : Type} : fs_T α := ⟨fun _ => none, fun _ _ _ h => by cases h⟩
theorem fs_bd {α β : Type} {x : Option α} {f : α → Option β} {r : β} (h : x.bind f = some r) : ∃ v, x = some v ∧ f v = some r := by
  cases x with
  | none => cases h
  | some v => exact ⟨v, rfl, h⟩
def fs_bind {α β : Type} (x : fs_T α) (k : α → fs_T β) : fs_T β := ⟨fun s => (x.1 s).bind fun q => (k q.1).1 q.2, fun s b t h => by
  obtain ⟨⟨v, s1⟩, h1, h2⟩ := fs_bd h
  exact (x.2 s v s1 h1).tr ((k v).2 s1 b t h2)⟩
/-- a call of what may throw: the exception goes on -/
def fs_bindx {α β : Type} (x : fs_T (α ⊕ String)) (k : α → fs_T (β ⊕ String)) : fs_T (β ⊕ String) := fs_bind x fun r => match r with
  | .inl v => k v
  | .inr e => fs_ret (.inr e)
/-- .. it is caught -/
def fs_try {α β : Type} (x : fs_T (α ⊕ String)) (k : α → fs_T β) (h : String → fs_T β) : fs_T β := fs_bind x fun r => match r with
  | .inl v => k v
  | .inr e => h e
def fs_nm {α β : Type} (x : α) (k : α → fs_T β) : fs_T β := k x
def fs_let {α β : Type} (x : α) (k : α → fs_T β) : fs_T β := k x
def fs_lp1 {A α : Type} (n : Nat) (b : (A → fs_T α) → A → fs_T α) : A → fs_T α := match n with
  | 0 => fun _ => fs_fail
  | n + 1 => b (fs_lp1 n b)
def fs_lp2 {A B α : Type} (n : Nat) (b : (A → B → fs_T α) → A → B → fs_T α) : A → B → fs_T α := match n with
  | 0 => fun _ _ => fs_fail
  | n + 1 => b (fs_lp2 n b)
def fs_lp3 {A B C α : Type} (n : Nat) (b : (A → B → C → fs_T α) → A → B → C → fs_T α) : A → B → C → fs_T α := match n with
  | 0 => fun _ _ _ => fs_fail
  | n + 1 => b (fs_lp3 n b)
def fs_lp4 {A B C D α : Type} (n : Nat) (b : (A → B → C → D → fs_T α) → A → B → C → D → fs_T α) : A → B → C → D → fs_T α := match n with
  | 0 => fun _ _ _ _ => fs_fail
  | n + 1 => b (fs_lp4 n b)
/-- reading a cell, live or constant -/
def fs_rd {α : Type} (a : Nat) (g : fs_E → Option α) : fs_T α := ⟨fun s => ((fs_lk s a).bind g).map fun v => (v, s), fun s b t h => by
  dsimp only at h
  cases h1 : (fs_lk s a).bind g with
  | none => rw [h1] at h; cases h
  | some v => rw [h1] at h; cases h; exact fs_le.rf s⟩
/-- reading a live cell -/
def fs_rdm {α : Type} (a : Nat) (g : fs_E → Option α) : fs_T α := ⟨fun s => ((fs_m s a).bind g).map fun v => (v, s), fun s b t h => by
  dsimp only at h
  cases h1 : (fs_m s a).bind g with
  | none => rw [h1] at h; cases h
  | some v => rw [h1] at h; cases h; exact fs_le.rf s⟩
/-- writing a live cell -/
def fs_wr (a : Nat) (g : fs_E → Option fs_E) : fs_T Unit := ⟨fun s => ((fs_m s a).bind g).map fun e => ((), (fs_up (fs_m s) a e, s.2)), fun s b t h => by
  dsimp only at h
  cases h1 : (fs_m s a).bind g with
  | none => rw [h1] at h; cases h
  | some v => rw [h1] at h; cases h; exact fs_le.rf s⟩
/-- making a cell -/
def fs_mk (e : fs_E) (w : Nat) : fs_T Nat := ⟨fun s => some (fs_n s, (fs_up (fs_m s) (fs_n s) e, fs_k s, fs_c s, fs_n s + 1, fs_u s + w)), fun s b t h => by
  cases h; exact ⟨Nat.le_add_right _ _, Nat.le_add_right _ _⟩⟩
/-- an exception is made and thrown -/
def fs_throw {α : Type} (c : String) : fs_T (α ⊕ String) := ⟨fun s => some (.inr c, (fs_m s, fs_k s, fs_c s, fs_n s + 1, fs_u s + 6)), fun s b t h => by
  cases h; exact ⟨Nat.le_add_right _ _, Nat.le_add_right _ _⟩⟩
def fs_chk (p : Prop) [Decidable p] : fs_T Unit := if p then fs_ret () else fs_fail
/-! what is read of a cell -/
def fs_fI (ci k : Nat) (e : fs_E) : Option Int32 := match e with
  | .inr (c, fs) => if c = ci then (match fs[k]? with
    | some (.int v) => some v
    | _ => none) else none
  | .inl _ => none
def fs_fJ (ci k : Nat) (e : fs_E) : Option Int64 := match e with
  | .inr (c, fs) => if c = ci then (match fs[k]? with
    | some (.long v) => some v
    | _ => none) else none
  | .inl _ => none
def fs_fR (ci k : Nat) (e : fs_E) : Option Nat := match e with
  | .inr (c, fs) => if c = ci then (match fs[k]? with
    | some (.ref v) => some v
    | _ => none) else none
  | .inl _ => none
def fs_fP (ci k : Nat) (v : Value) (e : fs_E) : Option fs_E := match e with
  | .inr (c, fs) => if c = ci ∧ k < fs.length then some (.inr (c, fs.set k v)) else none
  | .inl _ => none
/-- kinds of arrays: 0 int[], 1 long[], 2 boolean[], 3 Object[], 4 Slot[] -/
def fs_xI (t : Nat) (i : Int32) (e : fs_E) : Option Int32 := match e with
  | .inl (u, n, .inl f) => if u = t ∧ ¬ (i < 0 ∨ n ≤ i.toNatClampNeg) then some (f i.toNatClampNeg) else none
  | _ => none
def fs_xJ (t : Nat) (i : Int32) (e : fs_E) : Option Int64 := match e with
  | .inl (u, n, .inr (.inl f)) => if u = t ∧ ¬ (i < 0 ∨ n ≤ i.toNatClampNeg) then some (f i.toNatClampNeg) else none
  | _ => none
def fs_xR (i : Int32) (e : fs_E) : Option Nat := match e with
  | .inl (u, n, .inr (.inr (.inr (.inr f)))) => if (u = 3 ∨ u = 4) ∧ ¬ (i < 0 ∨ n ≤ i.toNatClampNeg) then f i.toNatClampNeg else none
  | _ => none
def fs_xL (e : fs_E) : Option Int32 := match e with
  | .inl (t, n, _) => if t < 5 then some (Int32.ofNat n) else none
  | .inr _ => none
def fs_yI (t : Nat) (i v : Int32) (e : fs_E) : Option fs_E := match e with
  | .inl (u, n, .inl f) => if u = t ∧ ¬ (i < 0 ∨ n ≤ i.toNatClampNeg) then some (.inl (u, n, .inl (upd f i.toNatClampNeg v))) else none
  | _ => none
def fs_yJ (t : Nat) (i : Int32) (v : Int64) (e : fs_E) : Option fs_E := match e with
  | .inl (u, n, .inr (.inl f)) => if u = t ∧ ¬ (i < 0 ∨ n ≤ i.toNatClampNeg) then some (.inl (u, n, .inr (.inl (vp_updL f i.toNatClampNeg v)))) else none
  | _ => none
def fs_y0 (i : Int32) (e : fs_E) : Option fs_E := match e with
  | .inl (u, n, .inr (.inr (.inr (.inr f)))) => if u = 3 ∧ ¬ (i < 0 ∨ n ≤ i.toNatClampNeg) then some (.inl (u, n, .inr (.inr (.inr (.inr (va_up f i.toNatClampNeg none)))))) else none
  | _ => none
/-! the instructions -/
def fs_gi (a ci k : Nat) : fs_T Int32 := fs_rd a (fs_fI ci k)
def fs_gj (a ci k : Nat) : fs_T Int64 := fs_rd a (fs_fJ ci k)
def fs_gr (a ci k : Nat) : fs_T Nat := fs_rd a (fs_fR ci k)
def fs_pi (a ci k : Nat) (v : Int32) : fs_T Unit := fs_wr a (fs_fP ci k (.int v))
def fs_pj (a ci k : Nat) (v : Int64) : fs_T Unit := fs_wr a (fs_fP ci k (.long v))
def fs_pr (a ci k : Nat) (v : Nat) : fs_T Unit := fs_wr a (fs_fP ci k (.ref v))
def fs_pz (a ci k : Nat) (v : Int32) : fs_T Unit := if v = 0 ∨ v = 1 then fs_wr a (fs_fP ci k (.int v)) else fs_fail
def fs_ai (a : Nat) (i : Int32) : fs_T Int32 := fs_rd a (fs_xI 0 i)
def fs_az (a : Nat) (i : Int32) : fs_T Int32 := fs_rd a (fs_xI 2 i)
def fs_aj (a : Nat) (i : Int32) : fs_T Int64 := fs_rd a (fs_xJ 1 i)
def fs_ar (a : Nat) (i : Int32) : fs_T Nat := fs_rd a (fs_xR i)
def fs_al (a : Nat) : fs_T Int32 := fs_rd a fs_xL
def fs_si (a : Nat) (i v : Int32) : fs_T Unit := fs_wr a (fs_yI 0 i v)
def fs_sz (a : Nat) (i v : Int32) : fs_T Unit := if v = 0 ∨ v = 1 then fs_wr a (fs_yI 2 i v) else fs_fail
def fs_sj (a : Nat) (i : Int32) (v : Int64) : fs_T Unit := fs_wr a (fs_yJ 1 i v)
/-- a reference is stored: into Object[] any object, into Slot[] a Slot -/
def fs_oc (e : fs_E) : Option Nat := match e with
  | .inr (c, _) => some c
  | .inl _ => none
def fs_yC (i : Int32) (c v : Nat) (e : fs_E) : Option fs_E := match e with
  | .inl (u, n, .inr (.inr (.inr (.inr f)))) => if (u = 3 ∧ c ≠ 2 ∨ u = 4 ∧ c = 3) ∧ ¬ (i < 0 ∨ n ≤ i.toNatClampNeg) then some (.inl (u, n, .inr (.inr (.inr (.inr (va_up f i.toNatClampNeg (some v))))))) else none
  | _ => none
def fs_sr (a : Nat) (i : Int32) (v : Nat) : fs_T Unit := fs_bind (fs_rd v fs_oc) fun c => fs_wr a (fs_yC i c v)
def fs_s0 (a : Nat) (i : Int32) : fs_T Unit := fs_wr a (fs_y0 i)
def fs_ni (n : Int32) : fs_T Nat := if ¬ n < 0 ∧ n.toNatClampNeg ≤ 65536 then fs_mk (.inl (0, n.toNatClampNeg, .inl fun _ => 0)) n.toNatClampNeg else fs_fail
def fs_nj (n : Int32) : fs_T Nat := if ¬ n < 0 ∧ n.toNatClampNeg ≤ 65536 then fs_mk (.inl (1, n.toNatClampNeg, .inr (.inl fun _ => 0))) n.toNatClampNeg else fs_fail
def fs_nz (n : Int32) : fs_T Nat := if ¬ n < 0 ∧ n.toNatClampNeg ≤ 65536 then fs_mk (.inl (2, n.toNatClampNeg, .inl fun _ => 0)) n.toNatClampNeg else fs_fail
def fs_nr (t : Nat) (n : Int32) : fs_T Nat := if ¬ n < 0 ∧ n.toNatClampNeg ≤ 65536 then fs_mk (.inl (t, n.toNatClampNeg, .inr (.inr (.inr (.inr fun _ => none))))) n.toNatClampNeg else fs_fail
def fs_ck (a ci : Nat) : fs_T Unit := fs_rd a fun e => match e with
  | .inr (c, _) => if c = ci then some () else none
  | .inl _ => none
def fs_gs (i : Nat) : fs_T Nat := ⟨fun s => some (fs_c s i, s), fun s b t h => by cases h; exact fs_le.rf s⟩
def fs_rem (x y : Int32) : fs_T Int32 := if y = 0 then fs_fail else fs_ret (x - x / y * y)
def fs_rz (v : Int32) : fs_T Int32 := if v = 0 ∨ v = 1 then fs_ret v else fs_fail
def fs_rzx (v : Int32) : fs_T (Int32 ⊕ String) := if v = 0 ∨ v = 1 then fs_ret (.inl v) else fs_fail
def fs_ushr (x y : Int32) : Int32 := (x.toUInt32 >>> (y.toUInt32 &&& Int32.toUInt32 31)).toInt32
def fs_lshl (x : Int64) (y : Int32) : Int64 := x <<< (y.toInt64 &&& 63)
def fs_dv (d : String) : Value := if d = "J" then .long 0 else if d = "I" ∨ d = "Z" then .int 0 else .null
/-- an object with its fields as they are made -/
def fs_nw (ci : Nat) (ds : List Value) : fs_T Nat := fs_mk (.inr (ci, ds)) ds.length
def fs_ca (a : Nat) : fs_T Unit := fs_rdm a fun e => match e with
  | .inl (t, _) => if t = 3 then some () else none
  | .inr _ => none
def fs_ci (a : Nat) : fs_T Unit := fs_rdm a fun e => match e with
  | .inl (t, _) => if t = 0 then some () else none
  | .inr _ => none
/-- the class object of an Object[] -/
def fs_gc (a : Nat) : fs_T Nat := fs_bind (fs_ca a) fun _ => fs_gs 2
/-- a copy of an int[] -/
def fs_xA (e : fs_E) : Option (Nat × (Nat → Int32)) := match e with
  | .inl (t, n, .inl f) => if t = 0 then some (n, f) else none
  | _ => none
def fs_cln (a : Nat) : fs_T Nat := fs_bind (fs_rdm a fs_xA) fun q => fs_mk (.inl (0, q.1, .inl q.2)) q.1
/-- System.arraycopy between arrays of objects -/
def fs_xQ (e : fs_E) : Option (Nat × (Nat → Option Nat)) := match e with
  | .inl (t, n, .inr (.inr (.inr (.inr f)))) => if t = 3 then some (n, f) else none
  | _ => none
def fs_yQ (f : Nat → Option Nat) (sp dp n : Nat) (e : fs_E) : Option fs_E := match e with
  | .inl (t, k, .inr (.inr (.inr (.inr g)))) => if t = 3 ∧ dp + n ≤ k then some (.inl (t, k, .inr (.inr (.inr (.inr (va_cpy f g sp dp n)))))) else none
  | _ => none
/-- the copied places hold objects -/
def fs_oo (f : Nat → Option Nat) (sp n : Nat) : fs_T Unit := ⟨fun s => if (List.range n).all (fun i => match f (sp + i) with
    | none => true
    | some y => (match fs_lk s y with
      | some (.inr (c, _)) => decide (c ≠ 2)
      | _ => false)) = true then some ((), s) else none, fun s b t h => by
  dsimp only at h
  split at h
  · cases h; exact fs_le.rf s
  · cases h⟩
def fs_cp (a : Nat) (sp : Int32) (b : Nat) (dp n : Int32) : fs_T Unit := fs_bind (fs_rdm a fs_xQ) fun q =>
  if ¬ sp < 0 ∧ ¬ dp < 0 ∧ ¬ n < 0 ∧ sp.toNatClampNeg + n.toNatClampNeg ≤ q.1 then
    fs_bind (fs_oo q.2 sp.toNatClampNeg n.toNatClampNeg) fun _ => fs_wr b (fs_yQ q.2 sp.toNatClampNeg dp.toNatClampNeg n.toNatClampNeg)
  else fs_fail
def fs_max (x y : Int32) : Int32 := if x < y then y else x
def fs_min (x y : Int32) : Int32 := if y < x then y else x
def fs_abs (x : Int64) : Int64 := if 0 < x then x else -x
