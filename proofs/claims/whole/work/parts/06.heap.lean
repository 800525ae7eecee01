/-! instructions that read or write the heap, as rows of fs_J -/
theorem fs_bdT {α β : Type} {x : fs_T α} {k : α → fs_T β} {σ : fs_S} {r : β × fs_S} (h : (fs_bind x k).1 σ = some r) : ∃ v σ1, x.1 σ = some (v, σ1) ∧ (k v).1 σ1 = some r := by
  have h : (x.1 σ).bind (fun q => (k q.1).1 q.2) = some r := h
  obtain ⟨⟨v, σ1⟩, h1, h2⟩ := fs_bd h
  exact ⟨v, σ1, h1, h2⟩
theorem fs_rdm_ok {α : Type} {a : Nat} {g : fs_E → Option α} {σ σ1 : fs_S} {v : α} (h : (fs_rdm a g).1 σ = some (v, σ1)) : ∃ e, fs_m σ a = some e ∧ g e = some v ∧ σ1 = σ := by
  have h' : ((fs_m σ a).bind g).map (fun v => (v, σ)) = some (v, σ1) := h
  cases h1 : (fs_m σ a).bind g with
  | none => rw [h1] at h'; cases h'
  | some w =>
    rw [h1] at h'
    cases h'
    obtain ⟨e, e1, e2⟩ := fs_bd h1
    exact ⟨e, e1, e2, rfl⟩
theorem fs_rd_ok {α : Type} {a : Nat} {g : fs_E → Option α} {σ σ1 : fs_S} {v : α} (h : (fs_rd a g).1 σ = some (v, σ1)) : ∃ e, fs_lk σ a = some e ∧ g e = some v ∧ σ1 = σ := by
  have h : ((fs_lk σ a).bind g).map (fun v => (v, σ)) = some (v, σ1) := h
  cases h1 : fs_lk σ a with
  | none => rw [h1] at h; cases h
  | some e =>
    rw [h1] at h
    have h : (g e).map (fun v => (v, σ)) = some (v, σ1) := h
    cases h2 : g e with
    | none => rw [h2] at h; cases h
    | some w => rw [h2] at h; cases h; exact ⟨e, rfl, h2, rfl⟩
theorem fs_wr_ok {a : Nat} {g : fs_E → Option fs_E} {σ σ1 : fs_S} {u : Unit} (h : (fs_wr a g).1 σ = some (u, σ1)) : ∃ e e1, fs_m σ a = some e ∧ g e = some e1 ∧ σ1 = (fs_up (fs_m σ) a e1, σ.2) := by
  have h : ((fs_m σ a).bind g).map (fun e => ((), (fs_up (fs_m σ) a e, σ.2))) = some (u, σ1) := h
  cases h1 : fs_m σ a with
  | none => rw [h1] at h; cases h
  | some e =>
    rw [h1] at h
    have h : (g e).map (fun e => ((), (fs_up (fs_m σ) a e, σ.2))) = some (u, σ1) := h
    cases h2 : g e with
    | none => rw [h2] at h; cases h
    | some w => rw [h2] at h; cases h; exact ⟨e, w, rfl, h2, rfl⟩
theorem fs_fI_ok {ci k : Nat} {e : fs_E} {v : Int32} (h : fs_fI ci k e = some v) : ∃ fs, e = .inr (ci, fs) ∧ fs[k]? = some (.int v) := by
  unfold fs_fI at h
  split at h
  · rename_i c fs
    split at h
    · rename_i hc
      subst hc
      split at h
      · rename_i w hw
        cases h
        exact ⟨fs, rfl, hw⟩
      · cases h
    · cases h
  · cases h
theorem fs_fJ_ok {ci k : Nat} {e : fs_E} {v : Int64} (h : fs_fJ ci k e = some v) : ∃ fs, e = .inr (ci, fs) ∧ fs[k]? = some (.long v) := by
  unfold fs_fJ at h
  split at h
  · rename_i c fs
    split at h
    · rename_i hc
      subst hc
      split at h
      · rename_i w hw
        cases h
        exact ⟨fs, rfl, hw⟩
      · cases h
    · cases h
  · cases h
theorem fs_fR_ok {ci k : Nat} {e : fs_E} {v : Nat} (h : fs_fR ci k e = some v) : ∃ fs, e = .inr (ci, fs) ∧ fs[k]? = some (.ref v) := by
  unfold fs_fR at h
  split at h
  · rename_i c fs
    split at h
    · rename_i hc
      subst hc
      split at h
      · rename_i w hw
        cases h
        exact ⟨fs, rfl, hw⟩
      · cases h
    · cases h
  · cases h
theorem fs_fP_ok {ci k : Nat} {v : Value} {e e1 : fs_E} (h : fs_fP ci k v e = some e1) : ∃ fs, e = .inr (ci, fs) ∧ k < fs.length ∧ e1 = .inr (ci, fs.set k v) := by
  unfold fs_fP at h
  split at h
  · rename_i c fs
    split at h
    · rename_i hc
      obtain ⟨hc, hk⟩ := hc
      subst hc
      cases h
      exact ⟨fs, rfl, hk, rfl⟩
    · cases h
  · cases h
theorem fs_xI_ok {t : Nat} {i : Int32} {e : fs_E} {v : Int32} (h : fs_xI t i e = some v) : ∃ n f, e = .inl (t, n, .inl f) ∧ vp_in i n ∧ v = f i.toNatClampNeg := by
  unfold fs_xI at h
  split at h
  · rename_i u n f
    split at h
    · rename_i hc
      obtain ⟨hc, hk⟩ := hc
      subst hc
      cases h
      exact ⟨n, f, rfl, hk, rfl⟩
    · cases h
  · cases h
theorem fs_xJ_ok {t : Nat} {i : Int32} {e : fs_E} {v : Int64} (h : fs_xJ t i e = some v) : ∃ n f, e = .inl (t, n, .inr (.inl f)) ∧ vp_in i n ∧ v = f i.toNatClampNeg := by
  unfold fs_xJ at h
  split at h
  · rename_i u n f
    split at h
    · rename_i hc
      obtain ⟨hc, hk⟩ := hc
      subst hc
      cases h
      exact ⟨n, f, rfl, hk, rfl⟩
    · cases h
  · cases h
theorem fs_yI_ok {t : Nat} {i v : Int32} {e e1 : fs_E} (h : fs_yI t i v e = some e1) : ∃ n f, e = .inl (t, n, .inl f) ∧ vp_in i n ∧ e1 = .inl (t, n, .inl (upd f i.toNatClampNeg v)) := by
  unfold fs_yI at h
  split at h
  · rename_i u n f
    split at h
    · rename_i hc
      obtain ⟨hc, hk⟩ := hc
      subst hc
      cases h
      exact ⟨n, f, rfl, hk, rfl⟩
    · cases h
  · cases h
theorem fs_yJ_ok {t : Nat} {i : Int32} {v : Int64} {e e1 : fs_E} (h : fs_yJ t i v e = some e1) : ∃ n f, e = .inl (t, n, .inr (.inl f)) ∧ vp_in i n ∧ e1 = .inl (t, n, .inr (.inl (vp_updL f i.toNatClampNeg v))) := by
  unfold fs_yJ at h
  split at h
  · rename_i u n f
    split at h
    · rename_i hc
      obtain ⟨hc, hk⟩ := hc
      subst hc
      cases h
      exact ⟨n, f, rfl, hk, rfl⟩
    · cases h
  · cases h
theorem fs_one {D : va_G} {cl : List vw_C} {q : Nat × va_E} {H : Heap} (h : va_at D cl q H) : va_P D cl [q] H := fun k x hx => by
  have hz : k < 1 := (List.getElem?_eq_some_iff.mp hx).1
  rw [show k = 0 by omega] at hx
  cases hx
  exact h
theorem fs_xR_ok {i : Int32} {e : fs_E} {v : Nat} (h : fs_xR i e = some v) : ∃ t n f, e = .inl (t, n, .inr (.inr (.inr (.inr f)))) ∧ (t = 3 ∨ t = 4) ∧ vp_in i n ∧ f i.toNatClampNeg = some v := by
  unfold fs_xR at h
  split at h
  · rename_i t n f
    split at h
    · rename_i hk
      exact ⟨t, n, f, rfl, hk.1, hk.2, h⟩
    · cases h
  · cases h
theorem fs_y0_ok {i : Int32} {e e1 : fs_E} (h : fs_y0 i e = some e1) : ∃ n f, e = .inl (3, n, .inr (.inr (.inr (.inr f)))) ∧ vp_in i n ∧ e1 = .inl (3, n, .inr (.inr (.inr (.inr (va_up f i.toNatClampNeg none))))) := by
  unfold fs_y0 at h
  split at h
  · rename_i t n f
    split at h
    · rename_i hk
      obtain ⟨hk1, hk2⟩ := hk
      subst hk1
      cases h
      exact ⟨n, f, rfl, hk2, rfl⟩
    · cases h
  · cases h
theorem fs_yC_ok {i : Int32} {c v : Nat} {e e1 : fs_E} (h : fs_yC i c v e = some e1) : ∃ t n f, e = .inl (t, n, .inr (.inr (.inr (.inr f)))) ∧ (t = 3 ∧ c ≠ 2 ∨ t = 4 ∧ c = 3) ∧ vp_in i n ∧ e1 = .inl (t, n, .inr (.inr (.inr (.inr (va_up f i.toNatClampNeg (some v)))))) := by
  unfold fs_yC at h
  split at h
  · rename_i t n f
    split at h
    · rename_i hk
      obtain ⟨hk1, hk2⟩ := hk
      cases h
      exact ⟨t, n, f, rfl, hk1, hk2, rfl⟩
    · cases h
  · cases h
theorem fs_oc_ok {e : fs_E} {c : Nat} (h : fs_oc e = some c) : ∃ fs, e = .inr (c, fs) := by
  unfold fs_oc at h
  split at h
  · cases h; exact ⟨_, rfl⟩
  · cases h
theorem fs_xL_ok {e : fs_E} {v : Int32} (h : fs_xL e = some v) : ∃ t x, e = .inl (t, x) ∧ t < 5 ∧ Int32.ofNat x.1 = v := by
  unfold fs_xL at h
  split at h
  · rename_i t n q
    split at h
    · rename_i ht
      cases h
      exact ⟨t, (n, q), rfl, ht, rfl⟩
    · cases h
  · cases h
theorem fs_ck_ok {a ci : Nat} {σ σ1 : fs_S} {u : Unit} (h : (fs_ck a ci).1 σ = some (u, σ1)) : ∃ fs, fs_lk σ a = some (.inr (ci, fs)) ∧ σ1 = σ := by
  obtain ⟨e, e1, e2, e3⟩ := fs_rd_ok h
  split at e2
  · rename_i c fs
    split at e2
    · rename_i hc
      subst hc
      exact ⟨fs, e1, e3⟩
    · cases e2
  · cases e2
/-- behind a store -/
theorem fs_put {X : fs_X} {s : State} {H H1 : Heap} {locs : List Loc} {a i : Nat} (hS : va_S (fs_A X) s.heap H locs) (z : H1.size = H.size) (oq : ∀ q : Nat, q ≠ a → H1[q]? = H[q]?) (ha : fs_z X ≤ a) : va_S (fs_A X) s.heap H1 (locs ++ [⟨a, i⟩]) := hS.put z oq ha
/-- behind a new cell -/
theorem fs_new {X : fs_X} {s : State} {H H1 : Heap} {locs : List Loc} (hS : va_S (fs_A X) s.heap H locs) (z : H1.size = H.size + 1) (oq : ∀ q : Nat, q < H.size → H1[q]? = H[q]?) : va_S (fs_A X) s.heap H1 locs :=
  ⟨Nat.le_trans hS.1 (by omega), fun q h1 h2 => (oq q (Nat.lt_of_lt_of_le h1 hS.1)).trans (hS.2.1 q h1 h2), hS.2.2⟩
section FSH
variable {X : fs_X} {p : Program} {l : Launch} {e : Env} {R : Room} {s : State} {m : MethodId} {args : Array Value} {below : List Frame} {meth : Method} {c : Code} {Q : State → Prop} {α β : Type} {rF : α} {σ0 σF : fs_S}
variable {cc : ByteArray} {nL : Nat} {own ref C : String} {T : u_T} {N ci index a pc : Nat} {Ts : List Cond} {ls : Array Slot} {rest : List Value}
theorem fs_Jgi (S : CallFix p m c cc nL s args fs_ws own) (hG : fs_G X s) (hin : ∀ w ∈ u_ws C T N, w ∈ fs_ws) (hc : fs_cl[ci]? = some (C, T, N)) (k : Nat) (hk : k < N) (hlink : Cond.fieldLink own index ref (T k).2.1 (T k).2.2.1 ∈ fs_ws) (hsame : ∀ x, s.fieldFound? (T k).1 (T k).2.1 (T k).2.2.1 = some x → s.fieldFound? ref (T k).2.1 (T k).2.2.1 = some x) (hdg : decode cc pc = .ok (.getfield index, 3))
    {kk : Int32 → fs_T α} (K : ∀ v, fs_J X p l e R s m args below meth c Q rF σ0 σF (kk v) (F0 m (pc + 3) ls (.int v :: rest))) : fs_J X p l e R s m args below meth c Q rF σ0 σF (fs_bind (fs_gi a ci k) kk) (F0 m pc ls (.ref a :: rest)) := by
  intro σ H locs cells slots h hw hS h4 h5
  obtain ⟨v, σ1, h1, h2⟩ := fs_bdT h
  obtain ⟨e, e1, e2, rfl⟩ := fs_rd_ok h1
  obtain ⟨fs, rfl, e3⟩ := fs_fI_ok e2
  exact va_get (ws := [(a, .inr (ci, fs))]) S.1 S.2.1 S.2.2.2.2 hin S.2.2.2.1 hG.2.2 (fs_one (hw.lko e1)) 0 rfl hc k hk (S.2.2.2.2 _ hlink) hsame e3 hdg (K v _ H locs cells slots h2 hw hS h4 h5)
theorem fs_Jgj (S : CallFix p m c cc nL s args fs_ws own) (hG : fs_G X s) (hin : ∀ w ∈ u_ws C T N, w ∈ fs_ws) (hc : fs_cl[ci]? = some (C, T, N)) (k : Nat) (hk : k < N) (hlink : Cond.fieldLink own index ref (T k).2.1 (T k).2.2.1 ∈ fs_ws) (hsame : ∀ x, s.fieldFound? (T k).1 (T k).2.1 (T k).2.2.1 = some x → s.fieldFound? ref (T k).2.1 (T k).2.2.1 = some x) (hdg : decode cc pc = .ok (.getfield index, 3))
    {kk : Int64 → fs_T α} (K : ∀ v, fs_J X p l e R s m args below meth c Q rF σ0 σF (kk v) (F0 m (pc + 3) ls (.long v :: rest))) : fs_J X p l e R s m args below meth c Q rF σ0 σF (fs_bind (fs_gj a ci k) kk) (F0 m pc ls (.ref a :: rest)) := by
  intro σ H locs cells slots h hw hS h4 h5
  obtain ⟨v, σ1, h1, h2⟩ := fs_bdT h
  obtain ⟨e, e1, e2, rfl⟩ := fs_rd_ok h1
  obtain ⟨fs, rfl, e3⟩ := fs_fJ_ok e2
  exact va_get (ws := [(a, .inr (ci, fs))]) S.1 S.2.1 S.2.2.2.2 hin S.2.2.2.1 hG.2.2 (fs_one (hw.lko e1)) 0 rfl hc k hk (S.2.2.2.2 _ hlink) hsame e3 hdg (K v _ H locs cells slots h2 hw hS h4 h5)
theorem fs_Jgr (S : CallFix p m c cc nL s args fs_ws own) (hG : fs_G X s) (hin : ∀ w ∈ u_ws C T N, w ∈ fs_ws) (hc : fs_cl[ci]? = some (C, T, N)) (k : Nat) (hk : k < N) (hlink : Cond.fieldLink own index ref (T k).2.1 (T k).2.2.1 ∈ fs_ws) (hsame : ∀ x, s.fieldFound? (T k).1 (T k).2.1 (T k).2.2.1 = some x → s.fieldFound? ref (T k).2.1 (T k).2.2.1 = some x) (hdg : decode cc pc = .ok (.getfield index, 3))
    {kk : Nat → fs_T α} (K : ∀ v, fs_J X p l e R s m args below meth c Q rF σ0 σF (kk v) (F0 m (pc + 3) ls (.ref v :: rest))) : fs_J X p l e R s m args below meth c Q rF σ0 σF (fs_bind (fs_gr a ci k) kk) (F0 m pc ls (.ref a :: rest)) := by
  intro σ H locs cells slots h hw hS h4 h5
  obtain ⟨v, σ1, h1, h2⟩ := fs_bdT h
  obtain ⟨e, e1, e2, rfl⟩ := fs_rd_ok h1
  obtain ⟨fs, rfl, e3⟩ := fs_fR_ok e2
  exact va_get (ws := [(a, .inr (ci, fs))]) S.1 S.2.1 S.2.2.2.2 hin S.2.2.2.1 hG.2.2 (fs_one (hw.lko e1)) 0 rfl hc k hk (S.2.2.2.2 _ hlink) hsame e3 hdg (K v _ H locs cells slots h2 hw hS h4 h5)
theorem fs_Jput (S : CallFix p m c cc nL s args fs_ws own) (hG : fs_G X s) (hin : ∀ w ∈ u_ws C T N, w ∈ fs_ws) (hc : fs_cl[ci]? = some (C, T, N)) (k : Nat) (hk : k < N) (hlink : Cond.fieldLink own index ref (T k).2.1 (T k).2.2.1 ∈ fs_ws) (hsame : ∀ x, s.fieldFound? (T k).1 (T k).2.1 (T k).2.2.1 = some x → s.fieldFound? ref (T k).2.1 (T k).2.2.1 = some x) (ty0 : Nat → FieldType) (hty : ∀ k, k < N → parseFieldDescriptor (T k).2.2.1 = some (ty0 k)) (hnm : ∀ a, a < N → ∀ b, b < N → a ≠ b → (T a).2.1 ≠ (T b).2.1)
    (hfin : (T k).2.2.2 = false ∨ (T k).2.2.2 = true ∧ meth.name = "<init>" ∧ (T k).1 = own) {v : Value} (hn : narrow (ty0 k) v = v) (hfit : fits (ty0 k) v = true) (hdg : decode cc pc = .ok (.putfield index, 3))
    {kk : Unit → fs_T α} (K : fs_J X p l e R s m args below meth c Q rF σ0 σF (kk ()) (F0 m (pc + 3) ls rest)) : fs_J X p l e R s m args below meth c Q rF σ0 σF (fs_bind (fs_wr a (fs_fP ci k v)) kk) (F0 m pc ls (v :: .ref a :: rest)) := by
  intro σ H locs cells slots h hw hS h4 h5
  obtain ⟨u, σ1, h1, h2⟩ := fs_bdT h
  obtain ⟨e, e1, q1, q2, rfl⟩ := fs_wr_ok h1
  obtain ⟨fs, rfl, hl, rfl⟩ := fs_fP_ok q2
  have hz := (hw.2.2.2.1 a _ q1).1
  have hK := hG.2.2
  have hts := S.2.2.2.2
  have hown := S.2.2.2.1
  have hap := va_apart (own := own) hts hin ty0 hty hnm hK hc
  obtain ⟨r, h1', cell, g1, g2, g3, g4⟩ := (hw.2.2.2.1 a _ q1).2
  have hr : r = (C, T, N) := Option.some.inj (h1'.symm.trans hc)
  subst hr
  obtain ⟨hSl, hfc, kC, hkC, hkind⟩ := hK.1 ci _ hc
  obtain ⟨cf, kf, fi, f, hi, hsl⟩ := hSl k hk
  have hlay := hts _ (hin _ (u_in_lay hk))
  have hst := (u_facts hfc hkC (u_lays hts hin hk) hi).1
  have fin : ∀ H1 : Heap, H1[a]? = some (cell.setSlot f.slot v) → H1.size = H.size → (∀ q, q ≠ a → H1[q]? = H[q]?) → W p l e R s m args below meth c H1 (locs ++ [⟨a, f.slot⟩]) cells slots Q (F0 m (pc + 3) ls rest) := by
    intro H1 e1 e2 e3
    rw [hsl] at e1
    exact K _ H1 _ cells slots h2 (hw.set q1 ⟨_, hc, t_OB.to (V := updV (vp_V fs) k v) ⟨_, e1, g2, g3, t_set g4 hap hk v⟩ (fun j _ => vp_updV_set hl v j)⟩ e2 e3) (fs_put hS e2 e3 hz) h4 h5
  unfold u_lay at hlay
  rcases hfin with hfin | ⟨hfin, hin2, hdecl⟩
  · rw [if_neg (by rw [hfin]; decide)] at hlay
    have h6 := u_store hfc hkC hkind hlay hi (hty k hk) hn hfit
    exact W.putK S.1 S.2.1 (f := f) ⟨hown, hts _ hlink, ⟨_, _, _, hsame _ hi⟩, hst⟩ (by rw [g2]; exact h6) g1 g3 (by rw [hsl]; exact k2_hasslot (g4 k hk)) rfl rfl hdg fin
  · rw [if_pos hfin] at hlay
    have hcf : m.cls = cf := by
      obtain ⟨_, _, c', _, _, _, -, -, hf', -, -, -, hown2, -⟩ := Cond.laysFinal_spec hlay
      have e1 : c' = cf := by have := hi.symm.trans hf'; simp at this; exact this.1.symm
      rw [hdecl] at hown2
      rw [← e1]; exact Option.some.inj (hown.symm.trans hown2)
    have h6 := u_fits hfc hkC hkind (Or.inr hlay) hi (hty k hk) hn hfit
    exact W.putFinK S.1 S.2.1 hown (hts _ hlink) (hsame _ hi) hst hcf hin2 (by rw [g2]; exact h6) g1 g3 (by rw [hsl]; exact k2_hasslot (g4 k hk)) rfl rfl hdg fin
/-- a store that fails unless its value is a boolean -/
theorem fs_Jpz {x : fs_T Unit} {v : Int32} {kk : Unit → fs_T α} {g : JFrame} (K : v = 0 ∨ v = 1 → fs_J X p l e R s m args below meth c Q rF σ0 σF (fs_bind x kk) g) : fs_J X p l e R s m args below meth c Q rF σ0 σF (fs_bind (if v = 0 ∨ v = 1 then x else fs_fail) kk) g := by
  intro σ H locs cells slots h hw hS h4 h5
  by_cases q : v = 0 ∨ v = 1
  · rw [if_pos q] at h
    exact K q σ H locs cells slots h hw hS h4 h5
  · rw [if_neg q] at h
    cases h
theorem fs_nar {v : Int32} (h : v = 0 ∨ v = 1) : narrow .boolean (.int v) = .int v := by
  rcases h with rfl | rfl <;> decide
theorem fs_Jai (S : CallFix p m c cc nL s args fs_ws own) (hG : fs_G X s) {i : Int32} (hdg : decode cc pc = .ok (.iaload, 1))
    {kk : Int32 → fs_T α} (K : ∀ v, fs_J X p l e R s m args below meth c Q rF σ0 σF (kk v) (F0 m (pc + 1) ls (.int v :: rest))) : fs_J X p l e R s m args below meth c Q rF σ0 σF (fs_bind (fs_ai a i) kk) (F0 m pc ls (.int i :: .ref a :: rest)) := by
  intro σ H locs cells slots h hw hS h4 h5
  obtain ⟨v, σ1, h1, h2⟩ := fs_bdT h
  obtain ⟨e, e1, e2, rfl⟩ := fs_rd_ok h1
  obtain ⟨n, f, rfl, e3, rfl⟩ := fs_xI_ok e2
  rcases hw.lk e1 with q | ⟨q1, -, q2⟩
  · exact va_iald (ws := [(a, .inl (fs_ta X 0, n, .inl f))]) S.1 S.2.1 hG.2.2 (fs_one q) 0 0 rfl rfl e3 hdg (K _ _ H locs cells slots h2 hw hS h4 h5)
  · exact va_sld S.1 S.2.1 (va_X.moved hG.2.1.alike q2) q1 (Nat.not_le.mpr q1) (hw.So hS) e3 hdg (K _ _ H locs cells slots h2 hw hS h4 h5)
theorem fs_Jaz (S : CallFix p m c cc nL s args fs_ws own) (hG : fs_G X s) {i : Int32} (hdg : decode cc pc = .ok (.baload, 1))
    {kk : Int32 → fs_T α} (K : ∀ v, fs_J X p l e R s m args below meth c Q rF σ0 σF (kk v) (F0 m (pc + 1) ls (.int v :: rest))) : fs_J X p l e R s m args below meth c Q rF σ0 σF (fs_bind (fs_az a i) kk) (F0 m pc ls (.int i :: .ref a :: rest)) := by
  intro σ H locs cells slots h hw hS h4 h5
  obtain ⟨v, σ1, h1, h2⟩ := fs_bdT h
  obtain ⟨e, e1, e2, rfl⟩ := fs_rd_ok h1
  obtain ⟨n, f, rfl, e3, rfl⟩ := fs_xI_ok e2
  rcases hw.lk e1 with q | ⟨-, q, -⟩
  · exact va_zald (ws := [(a, .inl (fs_ta X 2, n, .inl f))]) S.1 S.2.1 hG.2.2 (fs_one (q)) 0 2 rfl rfl e3 hdg (K _ _ H locs cells slots h2 hw hS h4 h5)
  · cases q
theorem fs_Jaj (S : CallFix p m c cc nL s args fs_ws own) (hG : fs_G X s) {i : Int32} (hdg : decode cc pc = .ok (.laload, 1))
    {kk : Int64 → fs_T α} (K : ∀ v, fs_J X p l e R s m args below meth c Q rF σ0 σF (kk v) (F0 m (pc + 1) ls (.long v :: rest))) : fs_J X p l e R s m args below meth c Q rF σ0 σF (fs_bind (fs_aj a i) kk) (F0 m pc ls (.int i :: .ref a :: rest)) := by
  intro σ H locs cells slots h hw hS h4 h5
  obtain ⟨v, σ1, h1, h2⟩ := fs_bdT h
  obtain ⟨e, e1, e2, rfl⟩ := fs_rd_ok h1
  obtain ⟨n, f, rfl, e3, rfl⟩ := fs_xJ_ok e2
  rcases hw.lk e1 with q | ⟨-, q, -⟩
  · exact va_lald (ws := [(a, .inl (fs_ta X 1, n, .inr (.inl f)))]) S.1 S.2.1 hG.2.2 (fs_one (q)) 0 1 rfl rfl e3 hdg (K _ _ H locs cells slots h2 hw hS h4 h5)
  · cases q
theorem fs_tyR {X : fs_X} {U : State} (h : va_K (fs_D X) fs_cl (fs_tys X) U) {t : Nat} (ht : t = 3 ∨ t = 4) : ∃ (C : String) (k : Nat), (fs_tys X)[k]? = some (fs_ta X t, FieldType.object C) := by
  rcases ht with rfl | rfl
  · exact ⟨_, 3, rfl⟩
  · exact ⟨_, 4, rfl⟩
theorem fs_Jsi (S : CallFix p m c cc nL s args fs_ws own) (hG : fs_G X s) {i : Int32} {v : Int32} (hdg : decode cc pc = .ok (.iastore, 1))
    {kk : Unit → fs_T α} (K : fs_J X p l e R s m args below meth c Q rF σ0 σF (kk ()) (F0 m (pc + 1) ls rest)) : fs_J X p l e R s m args below meth c Q rF σ0 σF (fs_bind (fs_si a i v) kk) (F0 m pc ls (.int v :: .int i :: .ref a :: rest)) := by
  intro σ H locs cells slots h hw hS h4 h5
  obtain ⟨u, σ1, h1, h2⟩ := fs_bdT h
  obtain ⟨e, e1, q1, q2, rfl⟩ := fs_wr_ok h1
  obtain ⟨n, f, rfl, hin, rfl⟩ := fs_yI_ok q2
  have hz := (hw.2.2.2.1 a _ q1).1
  refine W.iast S.1 S.2.1 (hw.2.2.2.1 a _ q1).2 ((hG.2.2.2 0 _ rfl).1 n (fun j => .int (f j))) (fun q => by cases q) (by show ¬ (i < 0 ∨ (arrV _ _ _).slots.size ≤ _); rw [arrV_size]; exact hin) rfl rfl hdg fun H1 e z oq => ?_
  refine K _ H1 _ cells slots h2 (hw.set q1 ?_ z oq) (fs_put hS z oq hz) h4 h5
  show H1[a]? = some (vp_cell _ _)
  rw [e]
  show some (Cell.setSlot (vp_cell _ (n, _)) _ _) = _
  rw [vp_cell_i, vp_cell_i, arrV_store]
  congr 2
  funext q
  by_cases hq : q = i.toNatClampNeg
  · subst hq
    simp [updV, upd]
  · simp [updV, upd, hq]
theorem fs_Jsj (S : CallFix p m c cc nL s args fs_ws own) (hG : fs_G X s) {i : Int32} {v : Int64} (hdg : decode cc pc = .ok (.lastore, 1))
    {kk : Unit → fs_T α} (K : fs_J X p l e R s m args below meth c Q rF σ0 σF (kk ()) (F0 m (pc + 1) ls rest)) : fs_J X p l e R s m args below meth c Q rF σ0 σF (fs_bind (fs_sj a i v) kk) (F0 m pc ls (.long v :: .int i :: .ref a :: rest)) := by
  intro σ H locs cells slots h hw hS h4 h5
  obtain ⟨u, σ1, h1, h2⟩ := fs_bdT h
  obtain ⟨e, e1, q1, q2, rfl⟩ := fs_wr_ok h1
  obtain ⟨n, f, rfl, hin, rfl⟩ := fs_yJ_ok q2
  have hz := (hw.2.2.2.1 a _ q1).1
  refine W.last S.1 S.2.1 (hw.2.2.2.1 a _ q1).2 ((hG.2.2.2 1 _ rfl).1 n (fun j => .long (f j))) (fun q => by cases q) (by show ¬ (i < 0 ∨ (arrV _ _ _).slots.size ≤ _); rw [arrV_size]; exact hin) rfl rfl hdg fun H1 e z oq => ?_
  refine K _ H1 _ cells slots h2 (hw.set q1 ?_ z oq) (fs_put hS z oq hz) h4 h5
  show H1[a]? = some (vp_cell _ _)
  rw [e]
  show some (Cell.setSlot (vp_cell _ (n, _)) _ _) = _
  rw [vp_cell_l, vp_cell_l, arrV_store]
  congr 2
  funext q
  by_cases hq : q = i.toNatClampNeg
  · subst hq
    simp [updV, vp_updL]
  · simp [updV, vp_updL, hq]
theorem fs_Jsz (S : CallFix p m c cc nL s args fs_ws own) (hG : fs_G X s) {i : Int32} {v : Int32} (hdg : decode cc pc = .ok (.bastore, 1))
    {kk : Unit → fs_T α} (K : fs_J X p l e R s m args below meth c Q rF σ0 σF (kk ()) (F0 m (pc + 1) ls rest)) : fs_J X p l e R s m args below meth c Q rF σ0 σF (fs_bind (fs_sz a i v) kk) (F0 m pc ls (.int v :: .int i :: .ref a :: rest)) := by
  refine fs_Jpz fun hv => ?_
  intro σ H locs cells slots h hw hS h4 h5
  obtain ⟨u, σ1, h1, h2⟩ := fs_bdT h
  obtain ⟨e, e1, q1, q2, rfl⟩ := fs_wr_ok h1
  obtain ⟨n, f, rfl, hin, rfl⟩ := fs_yI_ok q2
  have hz := (hw.2.2.2.1 a _ q1).1
  refine W.zast S.1 S.2.1 (hw.2.2.2.1 a _ q1).2 ((hG.2.2.2 2 _ rfl).1 n (fun j => .int (f j))) (fun q => by cases q) (by show ¬ (i < 0 ∨ (arrV _ _ _).slots.size ≤ _); rw [arrV_size]; exact hin) rfl rfl hdg fun H1 e z oq => ?_
  refine K _ H1 _ cells slots h2 (hw.set q1 ?_ z oq) (fs_put hS z oq hz) h4 h5
  show H1[a]? = some (vp_cell _ _)
  rw [e, fs_nar hv]
  show some (Cell.setSlot (vp_cell _ (n, _)) _ _) = _
  rw [vp_cell_i, vp_cell_i, arrV_store]
  congr 2
  funext q
  by_cases hq : q = i.toNatClampNeg
  · subst hq
    simp [updV, upd]
  · simp [updV, upd, hq]
theorem fs_Jal (S : CallFix p m c cc nL s args fs_ws own) (hG : fs_G X s) (hdg : decode cc pc = .ok (.arraylength, 1))
    {kk : Int32 → fs_T α} (K : ∀ v, fs_J X p l e R s m args below meth c Q rF σ0 σF (kk v) (F0 m (pc + 1) ls (.int v :: rest))) : fs_J X p l e R s m args below meth c Q rF σ0 σF (fs_bind (fs_al a) kk) (F0 m pc ls (.ref a :: rest)) := by
  intro σ H locs cells slots h hw hS h4 h5
  obtain ⟨v, σ1, h1, h2⟩ := fs_bdT h
  obtain ⟨e, e1, e2, rfl⟩ := fs_rd_ok h1
  obtain ⟨t, x, rfl, ht, rfl⟩ := fs_xL_ok e2
  have hk : ∃ (ty : FieldType) (k : Nat), (fs_tys X)[k]? = some (fs_ta X t, ty) := by
    match t, ht with
    | 0, _ => exact ⟨_, 0, rfl⟩
    | 1, _ => exact ⟨_, 1, rfl⟩
    | 2, _ => exact ⟨_, 2, rfl⟩
    | 3, _ => exact ⟨_, 3, rfl⟩
    | 4, _ => exact ⟨_, 4, rfl⟩
    | n + 5, h => exact absurd h (by omega)
  obtain ⟨ty, k, hk⟩ := hk
  rcases hw.lk e1 with q | ⟨q1, q2⟩
  · exact va_alen (ws := [(a, .inl (fs_ta X t, x))]) S.1 S.2.1 hG.2.2 (fs_one (q)) 0 k rfl hk rfl hdg (K _ _ H locs cells slots h2 hw hS h4 h5)
  · obtain ⟨n, f | f⟩ := x
    · exact va_slen S.1 S.2.1 (va_X.moved hG.2.1.alike q2.2) q1 (Nat.not_le.mpr q1) (hw.So hS) hdg (K _ _ H locs cells slots h2 hw hS h4 h5)
    · obtain ⟨-, rfl, scr, r1, r2, r3⟩ := q2
      exact W.alen (n := Int32.ofNat 0) S.1 S.2.1 (by rw [hw.2.2.2.2.2 a q1]; exact r1) (State.isArrayOf_alike hG.2.1.alike r2) (by rw [r3]) rfl rfl hdg (K _ _ H locs cells slots h2 hw hS h4 h5)
theorem fs_Jck (S : CallFix p m c cc nL s args fs_ws own) (hG : fs_G X s) (hc : fs_cl[ci]? = some (C, T, N)) (hlink : Cond.classLink own index C ∈ fs_ws) (hcast : Cond.castable C C ∈ lw_tbl) (hdg : decode cc pc = .ok (.checkcast index, 3))
    {kk : Unit → fs_T α} (K : fs_J X p l e R s m args below meth c Q rF σ0 σF (kk ()) (F0 m (pc + 3) ls (.ref a :: rest))) : fs_J X p l e R s m args below meth c Q rF σ0 σF (fs_bind (fs_ck a ci) kk) (F0 m pc ls (.ref a :: rest)) := by
  intro σ H locs cells slots h hw hS h4 h5
  obtain ⟨v, σ1, h1, h2⟩ := fs_bdT h
  obtain ⟨fs, e1, rfl⟩ := fs_ck_ok h1
  exact va_castY S.1 S.2.1 S.2.2.2.1 (S.2.2.2.2 _ hlink) (hG.castable hcast) (va_recv (ws := [(a, .inr (ci, fs))]) hG.2.2 (fs_one (hw.lko e1)) hc (q0 := 0) rfl) hdg (K _ H locs cells slots h2 hw hS h4 h5)
theorem fs_Jnw (S : CallFix p m c cc nL s args fs_ws own) (hG : fs_G X s) (hR : fs_n σF ≤ fs_n σ0 + R.cells ∧ fs_u σF ≤ fs_u σ0 + R.slots) (hin : ∀ w ∈ u_ws C T N, w ∈ fs_ws) (hc : fs_cl[ci]? = some (C, T, N)) (ty0 : Nat → FieldType) (hty : ∀ k, k < N → parseFieldDescriptor (T k).2.2.1 = some (ty0 k)) {ds : List Value} (hds : ∀ j, j < N → defaultValue (ty0 j) = vp_V ds j) (hlen : ds.length = N)
    (hlink : Cond.classLink own index C ∈ fs_ws) (hinst : Cond.instantiable C N ∈ fs_ws) (hini : Cond.initialized C ∈ fs_ws) (hdg : decode cc pc = .ok (.new index, 3))
    {kk : Nat → fs_T α} (K : ∀ v, fs_J X p l e R s m args below meth c Q rF σ0 σF (kk v) (F0 m (pc + 3) ls (.ref v :: rest))) : fs_J X p l e R s m args below meth c Q rF σ0 σF (fs_bind (fs_nw ci ds) kk) (F0 m pc ls rest) := by
  intro σ H locs cells slots h hw hS h4 h5
  obtain ⟨v, σ1, h1, h2⟩ := fs_bdT h
  cases h1
  have hm := (kk (fs_n σ)).2 _ _ _ h2
  have hm1 : fs_n σ + 1 ≤ fs_n σF := hm.1
  have hm2 : fs_u σ + ds.length ≤ fs_u σF := hm.2
  have hKn := hG.2.2.1 ci _ hc
  have hts := S.2.2.2.2
  refine W.newcK S.1 S.2.1 S.2.2.2.1 (hts _ hlink) (hts _ hinst) (hts _ hini) rfl hdg (by omega) (by omega) hKn.2.1 rfl fun H1 kC hkC e1 z1 o1 => ?_
  have hz : H.size = fs_n σ := hw.1
  rw [hz]
  refine K _ _ H1 locs (cells + 1) (slots + N) h2 (hw.push ⟨_, hc, (u_born ty0 hts hin hKn hkC e1 hty).to hds⟩ z1 o1) (fs_new hS z1 o1) (by show _ = fs_n σ + 1; omega) (by show _ = fs_u σ + ds.length; omega)
theorem fs_Jwi (S : CallFix p m c cc nL s args fs_ws own) (hG : fs_G X s) (hR : fs_n σF ≤ fs_n σ0 + R.cells ∧ fs_u σF ≤ fs_u σ0 + R.slots) {n : Int32} {at9 : ArrayType} (hat : newarray.typeOf at9 = .int) (harr : Cond.arrayClass .int ∈ fs_ws) (hdg : decode cc pc = .ok (.newarray at9, 2))
    {kk : Nat → fs_T α} (K : ∀ v, fs_J X p l e R s m args below meth c Q rF σ0 σF (kk v) (F0 m (pc + 2) ls (.ref v :: rest))) : fs_J X p l e R s m args below meth c Q rF σ0 σF (fs_bind (fs_ni n) kk) (F0 m pc ls (.int n :: rest)) := by
  intro σ H locs cells slots h hw hS h4 h5
  obtain ⟨v, σ1, h1, h2⟩ := fs_bdT h
  unfold fs_ni at h1
  by_cases q : ¬ n < 0 ∧ n.toNatClampNeg ≤ 65536
  · rw [if_pos q] at h1
    cases h1
    have hm := (kk (fs_n σ)).2 _ _ _ h2
    have hm1 : fs_n σ + 1 ≤ fs_n σF := hm.1
    have hm2 : fs_u σ + n.toNatClampNeg ≤ fs_u σF := hm.2
    have hts := S.2.2.2.2
    have hcb : componentBytes .int ≤ 8 := by decide
    have hb1 : n.toNatClampNeg * componentBytes .int ≤ 65536 * 8 := Nat.mul_le_mul q.2 hcb
    refine va_newaK S.1 S.2.1 (atype := at9) (by rw [hat]; exact hts _ harr) rfl hdg rfl q.1 rfl (by rw [hat]; omega) (by omega) (by omega) rfl fun H1 cA e1 z1 o1 hAr hNm => ?_
    rw [hat] at hNm e1
    have hcA : cA = fs_ta X 0 := Option.some.inj (hNm.symm.trans (hG.2.2.2 0 _ rfl).2)
    subst hcA
    have hz : H.size = fs_n σ := hw.1
    refine W.eq (g2 := F0 m (pc + 2) ls (.ref (fs_n σ) :: rest)) (by rw [← hz]) ?_
    exact K _ _ H1 locs (cells + 1) (slots + n.toNatClampNeg) h2 (hw.push (show H1[H.size]? = some (vp_cell _ _) by rw [vp_cell_i]; exact e1) z1 o1) (fs_new hS z1 o1) (by show _ = fs_n σ + 1; omega) (by show _ = fs_u σ + n.toNatClampNeg; omega)
  · rw [if_neg q] at h1
    cases h1
theorem fs_Jwj (S : CallFix p m c cc nL s args fs_ws own) (hG : fs_G X s) (hR : fs_n σF ≤ fs_n σ0 + R.cells ∧ fs_u σF ≤ fs_u σ0 + R.slots) {n : Int32} {at9 : ArrayType} (hat : newarray.typeOf at9 = .long) (harr : Cond.arrayClass .long ∈ fs_ws) (hdg : decode cc pc = .ok (.newarray at9, 2))
    {kk : Nat → fs_T α} (K : ∀ v, fs_J X p l e R s m args below meth c Q rF σ0 σF (kk v) (F0 m (pc + 2) ls (.ref v :: rest))) : fs_J X p l e R s m args below meth c Q rF σ0 σF (fs_bind (fs_nj n) kk) (F0 m pc ls (.int n :: rest)) := by
  intro σ H locs cells slots h hw hS h4 h5
  obtain ⟨v, σ1, h1, h2⟩ := fs_bdT h
  unfold fs_nj at h1
  by_cases q : ¬ n < 0 ∧ n.toNatClampNeg ≤ 65536
  · rw [if_pos q] at h1
    cases h1
    have hm := (kk (fs_n σ)).2 _ _ _ h2
    have hm1 : fs_n σ + 1 ≤ fs_n σF := hm.1
    have hm2 : fs_u σ + n.toNatClampNeg ≤ fs_u σF := hm.2
    have hts := S.2.2.2.2
    have hcb : componentBytes .long ≤ 8 := by decide
    have hb1 : n.toNatClampNeg * componentBytes .long ≤ 65536 * 8 := Nat.mul_le_mul q.2 hcb
    refine va_newaK S.1 S.2.1 (atype := at9) (by rw [hat]; exact hts _ harr) rfl hdg rfl q.1 rfl (by rw [hat]; omega) (by omega) (by omega) rfl fun H1 cA e1 z1 o1 hAr hNm => ?_
    rw [hat] at hNm e1
    have hcA : cA = fs_ta X 1 := Option.some.inj (hNm.symm.trans (hG.2.2.2 1 _ rfl).2)
    subst hcA
    have hz : H.size = fs_n σ := hw.1
    refine W.eq (g2 := F0 m (pc + 2) ls (.ref (fs_n σ) :: rest)) (by rw [← hz]) ?_
    exact K _ _ H1 locs (cells + 1) (slots + n.toNatClampNeg) h2 (hw.push (show H1[H.size]? = some (vp_cell _ _) by rw [vp_cell_l]; exact e1) z1 o1) (fs_new hS z1 o1) (by show _ = fs_n σ + 1; omega) (by show _ = fs_u σ + n.toNatClampNeg; omega)
  · rw [if_neg q] at h1
    cases h1
theorem fs_Jwz (S : CallFix p m c cc nL s args fs_ws own) (hG : fs_G X s) (hR : fs_n σF ≤ fs_n σ0 + R.cells ∧ fs_u σF ≤ fs_u σ0 + R.slots) {n : Int32} {at9 : ArrayType} (hat : newarray.typeOf at9 = .boolean) (harr : Cond.arrayClass .boolean ∈ fs_ws) (hdg : decode cc pc = .ok (.newarray at9, 2))
    {kk : Nat → fs_T α} (K : ∀ v, fs_J X p l e R s m args below meth c Q rF σ0 σF (kk v) (F0 m (pc + 2) ls (.ref v :: rest))) : fs_J X p l e R s m args below meth c Q rF σ0 σF (fs_bind (fs_nz n) kk) (F0 m pc ls (.int n :: rest)) := by
  intro σ H locs cells slots h hw hS h4 h5
  obtain ⟨v, σ1, h1, h2⟩ := fs_bdT h
  unfold fs_nz at h1
  by_cases q : ¬ n < 0 ∧ n.toNatClampNeg ≤ 65536
  · rw [if_pos q] at h1
    cases h1
    have hm := (kk (fs_n σ)).2 _ _ _ h2
    have hm1 : fs_n σ + 1 ≤ fs_n σF := hm.1
    have hm2 : fs_u σ + n.toNatClampNeg ≤ fs_u σF := hm.2
    have hts := S.2.2.2.2
    have hcb : componentBytes .boolean ≤ 8 := by decide
    have hb1 : n.toNatClampNeg * componentBytes .boolean ≤ 65536 * 8 := Nat.mul_le_mul q.2 hcb
    refine va_newaK S.1 S.2.1 (atype := at9) (by rw [hat]; exact hts _ harr) rfl hdg rfl q.1 rfl (by rw [hat]; omega) (by omega) (by omega) rfl fun H1 cA e1 z1 o1 hAr hNm => ?_
    rw [hat] at hNm e1
    have hcA : cA = fs_ta X 2 := Option.some.inj (hNm.symm.trans (hG.2.2.2 2 _ rfl).2)
    subst hcA
    have hz : H.size = fs_n σ := hw.1
    refine W.eq (g2 := F0 m (pc + 2) ls (.ref (fs_n σ) :: rest)) (by rw [← hz]) ?_
    exact K _ _ H1 locs (cells + 1) (slots + n.toNatClampNeg) h2 (hw.push (show H1[H.size]? = some (vp_cell _ _) by rw [vp_cell_i]; exact e1) z1 o1) (fs_new hS z1 o1) (by show _ = fs_n σ + 1; omega) (by show _ = fs_u σ + n.toNatClampNeg; omega)
  · rw [if_neg q] at h1
    cases h1
end FSH
