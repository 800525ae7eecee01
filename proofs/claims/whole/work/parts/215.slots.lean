/-! an exporter's three slots -/
abbrev fs_Sl : Type := Nat × (Nat → Int32) × fs_Ly × fs_Ly
def fs_ts (T : fs_Sl) : List fs_C := fs_sc T.1 T.2.1 T.2.2.1 T.2.2.2
def fs_sa (S : List fs_Sl) : fs_E := fs_oa 4 3 fun i => (S[i]?).map Prod.fst
def fs_SS (sl : Nat) (S : List fs_Sl) : List fs_C := (sl, fs_sa S) :: (S.map fs_ts).flatten
theorem ss_arr {sl i : Nat} {S : List fs_Sl} {F : List fs_C} {σ : fs_S} {T : fs_Sl} {x : Int32} (ho : fs_own (fs_SS sl S ++ F) σ) (h3 : S.length = 3) (hi : S[i]? = some T) (hx : x = Int32.ofNat i) : (fs_ar sl x).1 σ = some (T.1, σ) := by
  have hl := (List.getElem?_eq_some_iff.mp hi).1
  exact x_ar (own_at ho List.mem_cons_self) (Or.inr rfl) hx (by omega) (by omega) (by rw [hi]; rfl)
theorem ss_mem {sl i : Nat} {S : List fs_Sl} {T : fs_Sl} (hi : S[i]? = some T) {q : fs_C} (hq : q ∈ fs_ts T) : q ∈ fs_SS sl S := List.mem_cons_of_mem _ (List.mem_flatten.mpr ⟨fs_ts T, List.mem_map.mpr ⟨T, List.mem_of_getElem? hi, rfl⟩, hq⟩)
theorem ts_mem (T : fs_Sl) : (T.1, fs_so T.2.1 T.2.2.1.1 T.2.2.2.1) ∈ fs_ts T := List.mem_cons_self
theorem ts_lf (T : fs_Sl) : fs_lf T.2.2.2 (fs_ts T) ∧ fs_lf T.2.2.1 (fs_ts T) := by
  constructor
  · exact ⟨by simp [fs_ts, fs_sc, fs_lc], by simp [fs_ts, fs_sc, fs_lc], by simp [fs_ts, fs_sc, fs_lc]⟩
  · exact ⟨by simp [fs_ts, fs_sc, fs_lc], by simp [fs_ts, fs_sc, fs_lc], by simp [fs_ts, fs_sc, fs_lc]⟩
theorem flat_set {α : Type} : ∀ {S : List (List α)} {i : Nat} {T : List α}, S[i]? = some T → S.flatten.Perm (T ++ (S.eraseIdx i).flatten)
  | x :: S, 0, T, h => by
    cases h
    exact List.Perm.refl _
  | x :: S, i + 1, T, h => (List.Perm.append_left x (flat_set (S := S) (i := i) h)).trans (List.perm_append_comm_assoc x T _)
/-- one slot taken out, and put back changed (its address stays) -/
theorem ss_out {sl i : Nat} {S : List fs_Sl} {T : fs_Sl} {F : List fs_C} {σ : fs_S} (hi : S[i]? = some T) (ho : fs_own (fs_SS sl S ++ F) σ) : fs_own (fs_ts T ++ ((sl, fs_sa S) :: (((S.map fs_ts).eraseIdx i).flatten ++ F))) σ := by
  refine own_perm ho ?_
  have h1 : (S.map fs_ts)[i]? = some (fs_ts T) := by rw [List.getElem?_map, hi]; rfl
  have h2 := List.Perm.append_right F (flat_set h1)
  rw [List.append_assoc] at h2
  exact (List.Perm.cons _ h2).trans List.perm_middle.symm
theorem eras_set {α : Type} : ∀ (S : List α) (i : Nat) (x : α), (S.set i x).eraseIdx i = S.eraseIdx i
  | [], _, _ => rfl
  | _ :: _, 0, _ => rfl
  | y :: S, i + 1, x => congrArg (y :: ·) (eras_set S i x)
theorem sa_set {S : List fs_Sl} {i : Nat} {T T1 : fs_Sl} (hi : S[i]? = some T) (ha : T1.1 = T.1) : fs_sa (S.set i T1) = fs_sa S := by
  unfold fs_sa
  congr 1
  funext j
  rw [List.getElem?_set]
  by_cases hj : i = j
  · subst hj
    have := (List.getElem?_eq_some_iff.mp hi).1
    rw [if_pos rfl, if_pos this, hi]
    show some T1.1 = some T.1
    rw [ha]
  · rw [if_neg hj]
theorem ss_in {sl i : Nat} {S : List fs_Sl} {T T1 : fs_Sl} {F : List fs_C} {σ : fs_S} (hi : S[i]? = some T) (ha : T1.1 = T.1) (ho : fs_own (fs_ts T1 ++ ((sl, fs_sa S) :: (((S.map fs_ts).eraseIdx i).flatten ++ F))) σ) : fs_own (fs_SS sl (S.set i T1) ++ F) σ := by
  have hl := (List.getElem?_eq_some_iff.mp hi).1
  refine own_perm ho ?_
  have h0 : (S.set i T1)[i]? = some T1 := List.getElem?_set_self hl
  have h1 : ((S.set i T1).map fs_ts)[i]? = some (fs_ts T1) := by rw [List.getElem?_map, h0]; rfl
  have h2 := List.Perm.append_right F (flat_set h1)
  rw [List.append_assoc, List.map_set, eras_set] at h2
  unfold fs_SS
  rw [sa_set hi ha, List.map_set]
  exact ((List.Perm.cons _ h2).trans List.perm_middle.symm).symm
/-- the slot sealed last -/
def fs_nb (x y : Int32) (i : Nat) (b : Option (Nat × Int32)) : Option (Nat × Int32) := if x = 0 then b else match b with
  | none => some (i, y)
  | some p => if y ≤ p.2 then some p else some (i, y)
def fs_nl : List fs_Sl → Nat → Option (Nat × Int32) → Option (Nat × Int32)
  | [], _, b => b
  | q :: l, i, b => fs_nl l (i + 1) (fs_nb (q.2.1 3) (q.2.1 5) i b)
def fs_ni_ (b : Option (Nat × Int32)) : Int32 := match b with
  | none => -1
  | some p => Int32.ofNat p.1
theorem nl_loop {ea ca en sl : Nat} {s : Nat → Int32} {S : List fs_Sl} {F : List fs_C} {σ : fs_S} (e : σ.1 ea = some (fs_xc s ca en sl)) (ho : fs_own (fs_SS sl S ++ F) σ) (h3 : S.length = 3) : ∀ (l : List fs_Sl) (fuel i : Nat) (b : Option (Nat × Int32)), S.drop i = l → i ≤ 3 → l.length < fuel → (∀ p, b = some p → ∃ T, S[p.1]? = some T ∧ T.2.1 5 = p.2) →
    (fs_lp2 fuel (fun k4 (v1 : Int32) (v2 : Int32) =>
    if 3 ≤ v2 then (
      fs_ret v1) else
    fs_bind (fs_gr ea 1 3) fun r3 =>
    fs_bind (fs_ar r3 v2) fun r4 =>
    fs_bind (fs_gi r4 3 3) fun v5 =>
    fs_let (fun (v12 : Int32) =>
      fs_nm ((v2 + 1) : Int32) fun v13 =>
      k4 v12 v13) fun j49 =>
    if v5 = 0 then (
      j49 v1) else
    fs_let (fun (_ : Unit) =>
      j49 v2) fun j47 =>
    if v1 = (-1) then (
      j47 ()) else
    fs_bind (fs_gr ea 1 3) fun r6 =>
    fs_bind (fs_ar r6 v2) fun r7 =>
    fs_bind (fs_gi r7 3 5) fun v8 =>
    fs_bind (fs_gr ea 1 3) fun r9 =>
    fs_bind (fs_ar r9 v1) fun r10 =>
    fs_bind (fs_gi r10 3 5) fun v11 =>
    if v8 ≤ v11 then (
      j49 v1) else
    j47 ()) (fs_ni_ b) (Int32.ofNat i)).1 σ = some (fs_ni_ (fs_nl l i b), σ)
  | [], fuel + 1, i, b, h1, h2, _, _ => by
    have : S.length ≤ i := List.drop_eq_nil_iff.mp h1
    have : i = 3 := by omega
    subst this
    exact r_lp2 (r_p (by decide) rfl)
  | q :: l, fuel + 1, i, b, h1, h2, hf, hb => by
    have hi : i < 3 := by
      have := congrArg List.length h1
      rw [List.length_drop, List.length_cons] at this
      omega
    have hq : S[i]? = some q := by
      have := congrArg (fun z : List fs_Sl => z[0]?) h1
      simpa using this
    have hd : S.drop (i + 1) = l := by
      have := congrArg List.tail h1
      simpa using this
    have hf' : l.length < fuel := by simp at hf; omega
    have hne : ¬ (3 : Int32) ≤ Int32.ofNat i := fun z => by
      have := (Int32.ofNat_le_ofNat (k := 3) (n := i) (by omega) (by omega)).mp z
      omega
    have eq := own_at ho (List.mem_append_left _ (ss_mem hq (ts_mem q)))
    have es : fs_nl (q :: l) i b = fs_nl l (i + 1) (fs_nb (q.2.1 3) (q.2.1 5) i b) := rfl
    rw [es]
    refine r_lp2 (r_n hne (r_b (x_gr e 3 rfl) (r_b (ss_arr ho h3 hq rfl) (r_b (x_gi eq 3 rfl) (r_l ?_)))))
    by_cases h0 : q.2.1 3 = 0
    · rw [show fs_nb (q.2.1 3) (q.2.1 5) i b = b from if_pos h0]
      refine r_p h0 (r_m ?_)
      rw [ofNat_add1]
      exact nl_loop e ho h3 l fuel (i + 1) b hd (by omega) hf' hb
    · refine r_n h0 (r_l ?_)
      cases b with
      | none =>
        rw [show fs_nb (q.2.1 3) (q.2.1 5) i none = some (i, q.2.1 5) from if_neg h0]
        refine r_p rfl (r_m ?_)
        rw [ofNat_add1]
        exact nl_loop e ho h3 l fuel (i + 1) (some (i, q.2.1 5)) hd (by omega) hf' (fun p hp => by cases hp; exact ⟨q, hq, rfl⟩)
      | some p =>
        obtain ⟨T, hT, hT5⟩ := hb p rfl
        have hp3 : p.1 < 3 := by have := (List.getElem?_eq_some_iff.mp hT).1; omega
        have eT := own_at ho (List.mem_append_left _ (ss_mem hT (ts_mem T)))
        refine r_n (ofNat_ne_m1 (by omega)) (r_b (x_gr e 3 rfl) (r_b (ss_arr ho h3 hq rfl) (r_b (x_gi eq 5 rfl) (r_b (x_gr e 3 rfl) (r_b (ss_arr ho h3 hT rfl) (r_b (x_gi eT 5 rfl) ?_))))))
        rw [hT5]
        rw [show fs_nb (q.2.1 3) (q.2.1 5) i (some p) = if q.2.1 5 ≤ p.2 then some p else some (i, q.2.1 5) from if_neg h0]
        by_cases hk : q.2.1 5 ≤ p.2
        · rw [show (if q.2.1 5 ≤ p.2 then some p else some (i, q.2.1 5)) = some p from if_pos hk]
          refine r_p hk (r_m ?_)
          rw [ofNat_add1]
          exact nl_loop e ho h3 l fuel (i + 1) (some p) hd (by omega) hf' hb
        · rw [show (if q.2.1 5 ≤ p.2 then some p else some (i, q.2.1 5)) = some (i, q.2.1 5) from if_neg hk]
          refine r_n hk (r_m ?_)
          rw [ofNat_add1]
          exact nl_loop e ho h3 l fuel (i + 1) (some (i, q.2.1 5)) hd (by omega) hf' (fun p hp => by cases hp; exact ⟨q, hq, rfl⟩)
  | _, 0, _, _, _, _, h, _ => absurd h (Nat.not_lt_zero _)
theorem p_numberSealedLast {ea ca en sl : Nat} {s : Nat → Int32} {S : List fs_Sl} {F : List fs_C} {σ : fs_S} (e : σ.1 ea = some (fs_xc s ca en sl)) (ho : fs_own (fs_SS sl S ++ F) σ) (h3 : S.length = 3) : (fs_cv ea 1 (f_Exporter_numberSealedLast ea)).1 σ = some (fs_ni_ (fs_nl S 0 none), σ) :=
  r_cv e (nl_loop e ho h3 S 4096 0 none rfl (Nat.zero_le _) (by omega) (fun p hp => by cases hp))
