/-! the claim, out of what the law gives as a program -/
def lw_P (b : Addr) (xs : List Int32) (args : Array Value) (s : State) : Prop := args = #[.ref b] ∧ s.IntsAt b xs ∧ xs.length ≤ 3584 ∧ (Jvm.Cond.and given_1 narrow_1).before args s = true
def lw_Q (_ : Array Value) (s : State) (o : Outcome) (t : State) : Prop := o = .returned (some (.int 1)) ∧ Framed s o t [] 601024 7293034
def fs_Pure (f : Nat → fs_T Int32) : Prop := ∀ (b z L : Nat) (xs g : Nat → Int32) (q : Nat → Option Nat) (k0 : fs_M) (cz : Nat → Nat), L ≤ 3584 → k0 b = some (.inl (0, L, .inl xs)) → k0 (cz 0) = some (.inl (0, 8, .inl g)) → g 0 = 1 ∧ g 1 = 1 ∧ g 2 = 1 ∧ g 3 = 3 ∧ g 4 = 2 ∧ g 5 = 2 ∧ g 6 = 2 ∧ g 7 = 1 →
  k0 (cz 1) = some (.inl (3, 0, .inr (.inr (.inr (.inr q))))) → (∀ a e, k0 a = some e → a < z) → ∃ σF, (f b).1 (fun _ => none, k0, cz, z, 0) = some (1, σF) ∧ fs_n σF ≤ z + 601024 ∧ fs_u σF ≤ 7293034
theorem fs_known {s : State} {args : Array Value} (hts : ∀ w ∈ fs_ws, w.before args s = true) : ∃ D : va_G, ∀ (c : Nat) (q : vw_C), fs_cl[c]? = some q → u_Kn s q.1 q.2.1 q.2.2 (D.1 c) (D.2 c) := by
  have h : ∀ c : Nat, ∃ (cC : ClassId) (iS : Nat → Nat), ∀ q : vw_C, fs_cl[c]? = some q → u_Kn s q.1 q.2.1 q.2.2 cC iS := fun c => match c with
    | 0 => by
      obtain ⟨cC, iS, h⟩ := u_known hts fs_in0 (hts _ tw_1_30)
      exact ⟨cC, iS, fun q hq => by cases hq; exact h⟩
    | 1 => by
      obtain ⟨cC, iS, h⟩ := u_known hts fs_in1 (hts _ tw_1_38)
      exact ⟨cC, iS, fun q hq => by cases hq; exact h⟩
    | 2 => by
      obtain ⟨cC, iS, h⟩ := u_known hts fs_in2 (hts _ tw_1_44)
      exact ⟨cC, iS, fun q hq => by cases hq; exact h⟩
    | 3 => by
      obtain ⟨cC, iS, h⟩ := u_known hts fs_in3 (hts _ tw_1_71)
      exact ⟨cC, iS, fun q hq => by cases hq; exact h⟩
    | 4 => by
      obtain ⟨cC, iS, h⟩ := u_known hts fs_in4 (hts _ tw_1_77)
      exact ⟨cC, iS, fun q hq => by cases hq; exact h⟩
    | 5 => by
      obtain ⟨cC, iS, h⟩ := u_known hts fs_in5 (hts _ tw_1_168)
      exact ⟨cC, iS, fun q hq => by cases hq; exact h⟩
    | 6 => by
      obtain ⟨cC, iS, h⟩ := u_known hts fs_in6 (hts _ tw_1_176)
      exact ⟨cC, iS, fun q hq => by cases hq; exact h⟩
    | 7 => by
      obtain ⟨cC, iS, h⟩ := u_known hts fs_in7 (hts _ tw_1_202)
      exact ⟨cC, iS, fun q hq => by cases hq; exact h⟩
    | 8 => by
      obtain ⟨cC, iS, h⟩ := u_known hts fs_in8 (hts _ tw_3_21)
      exact ⟨cC, iS, fun q hq => by cases hq; exact h⟩
    | 9 => by
      obtain ⟨cC, iS, h⟩ := u_known hts fs_in9 (hts _ tw_3_220)
      exact ⟨cC, iS, fun q hq => by cases hq; exact h⟩
    | 10 => by
      obtain ⟨cC, iS, h⟩ := u_known hts fs_in10 (hts _ tw_4_223)
      exact ⟨cC, iS, fun q hq => by cases hq; exact h⟩
    | 11 => by
      obtain ⟨cC, iS, h⟩ := u_known hts fs_in11 (hts _ tw_5_18)
      exact ⟨cC, iS, fun q hq => by cases hq; exact h⟩
    | 12 => by
      obtain ⟨cC, iS, h⟩ := u_known hts fs_in12 (hts _ tw_5_187)
      exact ⟨cC, iS, fun q hq => by cases hq; exact h⟩
    | n + 13 => ⟨0, fun _ => 0, fun q hq => by cases hq⟩
  exact ⟨(fun c => Classical.choose (h c), fun c => Classical.choose (Classical.choose_spec (h c))), fun c q hq => Classical.choose_spec (Classical.choose_spec (h c)) q hq⟩
theorem fs_arr {s : State} {args : Array Value} {ty : FieldType} (hty : ∀ C, ty ≠ .object C) (h : (Cond.arrayClass ty).before args s = true) : ∃ cA, ArrOfT s cA ty ∧ va_RA s cA ty := by
  obtain ⟨c, k, comp, h1, h2, h3⟩ := Cond.arrayClass_spec h
  refine ⟨c, fun N z => ⟨(fun k h => by cases h), k, h2, comp, h3⟩, ?_⟩
  cases ty with
  | object C => exact absurd rfl (hty C)
  | _ => exact h1
theorem fs_arq {s : State} {args : Array Value} {C : String} (h : (Cond.arrayOver (.object C)).before args s = true) : ∃ cA, ArrOfT s cA (.object C) ∧ va_RA s cA (.object C) := by
  obtain ⟨comp, c, k, h1, -, h3, h4, h5⟩ := Cond.arrayOver_spec h
  exact ⟨c, fun N z => ⟨(fun k h => by cases h), k, h3, comp, h4⟩, k, comp, h3, h4, h1, h5⟩
theorem fs_room {s : State} {pl : Platform} {R R2 : Room} (h : s.hasRoom pl R = true) (h1 : R2.frames ≤ R.frames) (h2 : R2.locals ≤ R.locals) (h3 : R2.cells ≤ R.cells) (h4 : R2.slots ≤ R.slots) : s.hasRoom pl R2 = true := by
  simp only [State.hasRoom, Bool.and_eq_true, decide_eq_true_eq] at h ⊢
  obtain ⟨⟨⟨⟨a1, a2, a3, a4, a5, a6⟩, a7⟩, a8⟩, a9⟩ := h
  exact ⟨⟨⟨⟨by omega, by omega, by omega, by omega, by omega, a6⟩, by omega⟩, by omega⟩, a9⟩
theorem fs_apart {s : State} {c : Cell} {C : String} (h1 : s.isArrayOf c .int) (h2 : s.isArrayOf c (.object C)) : False := by
  obtain ⟨-, k, hk, m, hm⟩ := h1
  obtain ⟨-, k2, hk2, m2, hm2⟩ := h2
  cases hk.symm.trans hk2
  cases hm.symm.trans hm2
theorem fs_size {s : State} {args : Array Value} {tm : Term} {N : Nat} (hN : N < 2 ^ 31) {a : Addr} {c : Cell} (ht : tm.eval args s none [] s = some (.ref a)) (hat : s.arrayAt? a = some c) (hv : (Term.length tm).eval args s none [] s = some (.int (Int32.ofNat N))) : c.slots.size = N := by
  have hlt : c.slots.size < 2147483648 := by
    simp only [Term.eval, ht, hat, Option.bind_eq_bind, Option.bind_some] at hv
    by_cases hlt : c.slots.size < 2147483648
    · exact hlt
    · simp [hlt] at hv
  obtain ⟨a2, c2, t2, at2, e2⟩ := Term.length_spec hv
  cases ht.symm.trans t2
  cases hat.symm.trans at2
  have e3 : Int32.ofNat N = Int32.ofNat c.slots.size := Value.int.inj e2
  have e4 := congrArg Int32.toNatClampNeg e3
  rw [Int32.toNatClampNeg_ofNat_of_lt hN, Int32.toNatClampNeg_ofNat_of_lt hlt] at e4
  exact e4.symm
theorem fs_const {s : State} {args : Array Value} (hn : (Jvm.Cond.and given_1 narrow_1).before args s = true) (hts : ∀ w ∈ lw_tbl, w.before args s = true) : ∃ (c0 c1 c2 : Nat) (g : Nat → Int32), (g 0 = 1 ∧ g 1 = 1 ∧ g 2 = 1 ∧ g 3 = 3 ∧ g 4 = 2 ∧ g 5 = 2 ∧ g 6 = 2 ∧ g 7 = 1) ∧ va_X c0 8 g s s.heap ∧ (∃ scr : Cell, s.heap[c1]? = some scr ∧ s.isArrayOf scr (.object "java/lang/Object") ∧ scr.slots.size = 0) ∧
    va_Z "FlowShelf" "LEAST_LENGTH" "[I" (.ref c0) (fun q => s.heap.size ≤ q) s s.heap ∧ va_Z "java/util/ArrayList" "DEFAULTCAPACITY_EMPTY_ELEMENTDATA" "[Ljava/lang/Object;" (.ref c1) (fun q => s.heap.size ≤ q) s s.heap ∧ va_Mi "[Ljava/lang/Object;" c2 s := by
  have hs := flat_of_before _ hn
  have hA : ∀ a : Nat, a < s.heap.size → ¬ s.heap.size ≤ a := fun a h => Nat.not_le.mpr h
  obtain ⟨c2, hc2⟩ := va_Mi.of (hs (Cond.isRef (.mirror "[Ljava/lang/Object;")) (by decide +kernel))
  have l0 : (Term.length (Term.static "FlowShelf" "LEAST_LENGTH" "[I")).eval args s none [] s = some (.int 8) := va_eqt (hs _ (by decide +kernel))
  have l1 : (Term.length (Term.static "java/util/ArrayList" "DEFAULTCAPACITY_EMPTY_ELEMENTDATA" "[Ljava/lang/Object;")).eval args s none [] s = some (.int 0) := va_eqt (hs _ (by decide +kernel))
  obtain ⟨c0, k0, t0, at0, v0⟩ := Term.length_spec l0
  obtain ⟨c1, k1, t1, at1, v1⟩ := Term.length_spec l1
  obtain ⟨cell0, kn0, -, -⟩ := State.arrayAt?_spec at0
  obtain ⟨cell1, kn1, -, -⟩ := State.arrayAt?_spec at1
  obtain ⟨of0, -⟩ := Cond.arrayOf_spec (hs (Cond.arrayOf (Term.static "FlowShelf" "LEAST_LENGTH" "[I") .int) (by decide +kernel)) t0 cell0
  obtain ⟨of1, -⟩ := Cond.arrayOf_spec (hs (Cond.arrayOf (Term.static "java/util/ArrayList" "DEFAULTCAPACITY_EMPTY_ELEMENTDATA" "[Ljava/lang/Object;") (.object "java/lang/Object")) (by decide +kernel)) t1 cell1
  have e0 : k0.slots[0]? = some (.int 1) := by
    obtain ⟨a, i, c2, h1, h2, h3, h4, h5⟩ := Term.elem_spec (va_eqt (z := 1) (hs (Cond.eq (.elem (Term.static "FlowShelf" "LEAST_LENGTH" "[I") (.int 0)) (.int 1)) (by decide +kernel)))
    cases t0.symm.trans h1
    cases at0.symm.trans h3
    have hz : (Term.int 0).eval args s none [] s = some (.int 0) := rfl
    cases h2.symm.trans hz
    exact h5
  have e1 : k0.slots[1]? = some (.int 1) := by
    obtain ⟨a, i, c2, h1, h2, h3, h4, h5⟩ := Term.elem_spec (va_eqt (z := 1) (hs (Cond.eq (.elem (Term.static "FlowShelf" "LEAST_LENGTH" "[I") (.int 1)) (.int 1)) (by decide +kernel)))
    cases t0.symm.trans h1
    cases at0.symm.trans h3
    have hz : (Term.int 1).eval args s none [] s = some (.int 1) := rfl
    cases h2.symm.trans hz
    exact h5
  have e2 : k0.slots[2]? = some (.int 1) := by
    obtain ⟨a, i, c2, h1, h2, h3, h4, h5⟩ := Term.elem_spec (va_eqt (z := 1) (hs (Cond.eq (.elem (Term.static "FlowShelf" "LEAST_LENGTH" "[I") (.int 2)) (.int 1)) (by decide +kernel)))
    cases t0.symm.trans h1
    cases at0.symm.trans h3
    have hz : (Term.int 2).eval args s none [] s = some (.int 2) := rfl
    cases h2.symm.trans hz
    exact h5
  have e3 : k0.slots[3]? = some (.int 3) := by
    obtain ⟨a, i, c2, h1, h2, h3, h4, h5⟩ := Term.elem_spec (va_eqt (z := 3) (hs (Cond.eq (.elem (Term.static "FlowShelf" "LEAST_LENGTH" "[I") (.int 3)) (.int 3)) (by decide +kernel)))
    cases t0.symm.trans h1
    cases at0.symm.trans h3
    have hz : (Term.int 3).eval args s none [] s = some (.int 3) := rfl
    cases h2.symm.trans hz
    exact h5
  have e4 : k0.slots[4]? = some (.int 2) := by
    obtain ⟨a, i, c2, h1, h2, h3, h4, h5⟩ := Term.elem_spec (va_eqt (z := 2) (hs (Cond.eq (.elem (Term.static "FlowShelf" "LEAST_LENGTH" "[I") (.int 4)) (.int 2)) (by decide +kernel)))
    cases t0.symm.trans h1
    cases at0.symm.trans h3
    have hz : (Term.int 4).eval args s none [] s = some (.int 4) := rfl
    cases h2.symm.trans hz
    exact h5
  have e5 : k0.slots[5]? = some (.int 2) := by
    obtain ⟨a, i, c2, h1, h2, h3, h4, h5⟩ := Term.elem_spec (va_eqt (z := 2) (hs (Cond.eq (.elem (Term.static "FlowShelf" "LEAST_LENGTH" "[I") (.int 5)) (.int 2)) (by decide +kernel)))
    cases t0.symm.trans h1
    cases at0.symm.trans h3
    have hz : (Term.int 5).eval args s none [] s = some (.int 5) := rfl
    cases h2.symm.trans hz
    exact h5
  have e6 : k0.slots[6]? = some (.int 2) := by
    obtain ⟨a, i, c2, h1, h2, h3, h4, h5⟩ := Term.elem_spec (va_eqt (z := 2) (hs (Cond.eq (.elem (Term.static "FlowShelf" "LEAST_LENGTH" "[I") (.int 6)) (.int 2)) (by decide +kernel)))
    cases t0.symm.trans h1
    cases at0.symm.trans h3
    have hz : (Term.int 6).eval args s none [] s = some (.int 6) := rfl
    cases h2.symm.trans hz
    exact h5
  have e7 : k0.slots[7]? = some (.int 1) := by
    obtain ⟨a, i, c2, h1, h2, h3, h4, h5⟩ := Term.elem_spec (va_eqt (z := 1) (hs (Cond.eq (.elem (Term.static "FlowShelf" "LEAST_LENGTH" "[I") (.int 7)) (.int 1)) (by decide +kernel)))
    cases t0.symm.trans h1
    cases at0.symm.trans h3
    have hz : (Term.int 7).eval args s none [] s = some (.int 7) := rfl
    cases h2.symm.trans hz
    exact h5
  have z0 : k0.slots.size = 8 := fs_size (N := 8) (by decide) t0 at0 l0
  have z1 : k1.slots.size = 0 := fs_size (N := 0) (by decide) t1 at1 l1
  refine ⟨c0, c1, c2, fun j => match j with
    | 3 => 3
    | 4 => 2
    | 5 => 2
    | 6 => 2
    | _ => 1, by decide, ⟨k0, cell0, of0, kn0, z0, fun j hj => ?_⟩, ⟨k1, cell1, of1, z1⟩, va_Zof (hts _ tb_3_147) (hts _ (List.mem_filter.mp tw_1_1).1) t0 hA, va_Zof (hts _ tb_1_56) (hts _ (List.mem_filter.mp tw_1_5).1) t1 hA, hc2⟩
  match j, hj with
  | 0, _ => exact e0
  | 1, _ => exact e1
  | 2, _ => exact e2
  | 3, _ => exact e3
  | 4, _ => exact e4
  | 5, _ => exact e5
  | 6, _ => exact e6
  | 7, _ => exact e7
  | n + 8, h => exact absurd h (by omega)
set_option maxHeartbeats 1000000 in
theorem fs_law {f : Nat → fs_T Int32} (hP : fs_Pure f) {fr lo : Nat} (hfr : fr ≤ 16) (hlo : lo ≤ 632) {l : Launch} (hM : ∀ (X : fs_X) (a : Nat) (r : Int32) (σ σF : fs_S), (f a).1 σ = some (r, σF) → fs_Met X l x (Cond.code x code 8 ret) fr lo [.ref a] σ (fs_eI r) σF) (b : Addr) (xs : List Int32) :
    MetFree l x (headSpec (Jvm.Cond.code x code maxLocals ret :: tables_1) room_1) (lw_P b xs) (fun _ _ _ _ _ => True) lw_Q := by
  intro p e ha hc hk s m args below hf happ hpre _
  obtain ⟨rfl, hx, hbd, hgv⟩ := hpre
  obtain ⟨scr, harrAt, hlist, hof, hsmall⟩ := hx
  obtain ⟨hcb, hkn, -, -⟩ := State.arrayAt?_spec harrAt
  have hsz : scr.slots.size = xs.length := by rw [← Array.length_toList, hlist, List.length_map]
  have hval : ∀ j : Nat, j < xs.length → scr.slots[j]? = some (.int (xs.getD j 0)) := fun j hj => by
    rw [← Array.getElem?_toList, hlist]
    simp [hj]
  have hX : va_X b xs.length (fun j => xs.getD j 0) s s.heap := ⟨scr, hcb, hof, hkn, hsz, hval⟩
  obtain ⟨hrun, hable, halone, hname, hhears, hinit, hroom, hw0⟩ := (Spec.appliesLoose_iff hf).mp happ
  have hts0 : ∀ c ∈ (Jvm.Cond.code x code maxLocals ret :: tables_1), c.before #[Value.ref b] s = true := atoms_spec (ws := Jvm.Cond.code x code maxLocals ret :: tables_1) hw0
  have hts : ∀ w ∈ lw_tbl, w.before #[Value.ref b] s = true := k2_hts_sels lw_privs (fun w hw => hts0 w (List.mem_cons_of_mem _ hw)) lw_privs_ok
  have htw : ∀ w ∈ fs_ws, w.before #[Value.ref b] s = true := fun w hw => hts w (List.mem_filter.mp hw).1
  obtain ⟨c0, c1, c2, g, hg, hX0, ⟨scr1, hc1, hof1, hsz1⟩, hZ0, hZ1, hMi⟩ := fs_const hgv hts
  obtain ⟨D, hD⟩ := fs_known htw
  obtain ⟨t0, a0⟩ := fs_arr (ty := .int) (fun C h => by cases h) (htw _ tw_1_97)
  obtain ⟨t1, a1⟩ := fs_arr (ty := .long) (fun C h => by cases h) (htw _ tw_5_40)
  obtain ⟨t2, a2⟩ := fs_arr (ty := .boolean) (fun C h => by cases h) (htw _ tw_1_229)
  obtain ⟨t3, a3⟩ := fs_arq (hts _ tb_3_13)
  obtain ⟨t4, a4⟩ := fs_arq (hts _ tb_1_70)
  let X : fs_X := (D, (fun t => match t with
    | 0 => t0
    | 1 => t1
    | 2 => t2
    | 3 => t3
    | _ => t4), (fun i => match i with
    | 0 => c0
    | 1 => c1
    | _ => c2), s)
  have hK : va_K (fs_D X) fs_cl (fs_tys X) s := ⟨hD, fun k q hk => by
    match k, hk with
    | 0, h => cases h; exact a0
    | 1, h => cases h; exact a1
    | 2, h => cases h; exact a2
    | 3, h => cases h; exact a3
    | 4, h => cases h; exact a4
    | n + 5, h => cases h⟩
  have hG : fs_G X s := ⟨⟨⟨b, hts, hgv⟩, hZ0, hZ1, hMi⟩, State.WarmedH.refl s, hK⟩
  have hbz : b < s.heap.size := (Array.getElem?_eq_some_iff.mp hcb).1
  have hz1 : c1 < s.heap.size := (Array.getElem?_eq_some_iff.mp hc1).1
  have hz0 : c0 < s.heap.size := by
    obtain ⟨w, hw, -⟩ := hX0
    exact (Array.getElem?_eq_some_iff.mp hw).1
  have n1 : c1 ≠ b := fun e => by
    subst e
    cases hcb.symm.trans hc1
    exact fs_apart hof hof1
  have n2 : c1 ≠ c0 := fun e => by
    subst e
    obtain ⟨w, hw, hof2, -⟩ := hX0
    cases hw.symm.trans hc1
    exact fs_apart hof2 hof1
  have key : ∃ (L : Nat) (ys g2 : Nat → Int32) (k0 : fs_M), L ≤ 3584 ∧ k0 b = some (.inl (0, L, .inl ys)) ∧ k0 c0 = some (.inl (0, 8, .inl g2)) ∧ (g2 0 = 1 ∧ g2 1 = 1 ∧ g2 2 = 1 ∧ g2 3 = 3 ∧ g2 4 = 2 ∧ g2 5 = 2 ∧ g2 6 = 2 ∧ g2 7 = 1) ∧ k0 c1 = some (.inl (3, 0, .inr (.inr (.inr (.inr fun _ => none))))) ∧ ∀ a e, k0 a = some e → a < s.heap.size ∧ fs_ac X a e := by
    by_cases hq : b = c0
    · refine ⟨8, g, g, fun a => if a = c1 then some (.inl (3, 0, .inr (.inr (.inr (.inr fun _ => none))))) else if a = c0 then some (.inl (0, 8, .inl g)) else none, by omega, ?_, ?_, hg, ?_, ?_⟩
      · dsimp only
        rw [if_neg (Ne.symm n1), if_pos hq]
      · dsimp only
        rw [if_neg (Ne.symm n2), if_pos rfl]
      · dsimp only
        rw [if_pos rfl]
      · intro a e h
        dsimp only at h
        by_cases h1 : a = c1
        · rw [if_pos h1] at h
          cases h
          subst h1
          exact ⟨hz1, rfl, rfl, scr1, hc1, hof1, hsz1⟩
        · rw [if_neg h1] at h
          by_cases h2 : a = c0
          · rw [if_pos h2] at h
            cases h
            subst h2
            exact ⟨hz0, rfl, hX0⟩
          · rw [if_neg h2] at h
            cases h
    · refine ⟨xs.length, fun j => xs.getD j 0, g, fun a => if a = c1 then some (.inl (3, 0, .inr (.inr (.inr (.inr fun _ => none))))) else if a = c0 then some (.inl (0, 8, .inl g)) else if a = b then some (.inl (0, xs.length, .inl fun j => xs.getD j 0)) else none, hbd, ?_, ?_, hg, ?_, ?_⟩
      · dsimp only
        rw [if_neg (Ne.symm n1), if_neg hq, if_pos rfl]
      · dsimp only
        rw [if_neg (Ne.symm n2), if_pos rfl]
      · dsimp only
        rw [if_pos rfl]
      · intro a e h
        dsimp only at h
        by_cases h1 : a = c1
        · rw [if_pos h1] at h
          cases h
          subst h1
          exact ⟨hz1, rfl, rfl, scr1, hc1, hof1, hsz1⟩
        · rw [if_neg h1] at h
          by_cases h2 : a = c0
          · rw [if_pos h2] at h
            cases h
            subst h2
            exact ⟨hz0, rfl, hX0⟩
          · rw [if_neg h2] at h
            by_cases h3 : a = b
            · rw [if_pos h3] at h
              cases h
              subst h3
              exact ⟨hbz, rfl, hX⟩
            · rw [if_neg h3] at h
              cases h
  obtain ⟨L, ys, g2, k0, q1, q2, q3, q4, q5, q6⟩ := key
  obtain ⟨σF, hF, hcells, hslots⟩ := hP b s.heap.size L ys g2 (fun _ => none) k0 (fs_cz X) q1 q2 q3 q4 q5 (fun a e h => (q6 a e h).1)
  have hw : fs_w X (fun _ => none, k0, fs_cz X, s.heap.size, 0) s.heap := ⟨rfl, Nat.le_refl _, rfl, (fun a e h => by cases h), q6, fun q _ => rfl⟩
  have happ2 : (headSpec (Cond.code x code 8 ret :: fs_ws) (fs_rm fr lo (fun _ => none, k0, fs_cz X, s.heap.size, 0) σF)).appliesLoose x e.platform s = true := by
    refine (Spec.appliesLoose_iff hf).mpr ⟨hrun, hable, halone, hname, hhears, hinit, fs_room hroom hfr hlo ?_ ?_, atoms_intro fun w hw => (List.mem_cons.mp hw).elim (fun e => by rw [e]; exact hts0 _ List.mem_cons_self) (fun h => htw w h)⟩
    · show fs_n σF - s.heap.size ≤ 601024
      omega
    · show fs_u σF - 0 ≤ 7293034
      omega
  obtain ⟨n, o, h1, h2, h3, h4, h5, h6, h7, L2, h8, h9⟩ := hM X b 1 _ σF hF p e ha hc hk s m #[Value.ref b] below hf happ2 ⟨rfl, hw, hG⟩ trivial
  refine ⟨n, o, h1, h2, h3, h4, ⟨_, h4⟩, h7, ?_⟩
  have e1 : fs_n σF - fs_n (fun _ => none, k0, fs_cz X, s.heap.size, 0) ≤ 601024 := by
    show fs_n σF - s.heap.size ≤ 601024
    omega
  have e2 : fs_u σF - fs_u (fun _ => none, k0, fs_cz X, s.heap.size, 0) ≤ 7293034 := by
    show fs_u σF - 0 ≤ 7293034
    omega
  exact State.sameButNew.drop_fresh (L := []) (J := L2) (h8.mono e1 e2) (fun y hy => h9 y hy)
