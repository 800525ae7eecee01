/-! the exporter and its flows -/
abbrev fs_Fs : Type := List (Nat × (Nat → Int32))
def fs_fc (l : fs_Fs) : List fs_C := l.map fun q => (q.1, fs_fl q.2)
def fs_xc (s : Nat → Int32) (ca en sl : Nat) : fs_E := .inr (1, [.int (s 0), .ref ca, .ref en, .ref sl, .int (s 4), .int (s 5), .int (s 6), .int (s 7), .int (s 8), .int (s 9), .int (s 10)])
theorem pick_perm {α : Type} : ∀ {l : List α} {j : Nat} {x : α}, l[j]? = some x → l.Perm (x :: l.eraseIdx j)
  | y :: l, 0, x, h => by
    cases h
    exact List.Perm.refl _
  | y :: l, j + 1, x, h => (List.Perm.cons y (pick_perm (l := l) (j := j) h)).trans (List.Perm.swap _ _ _)
theorem fc_obj {l : fs_Fs} {y : Nat} (h : y ∈ l.map Prod.fst) : ∃ c fs, (y, (.inr (c, fs) : fs_E)) ∈ fs_fc l ∧ c ≠ 2 := by
  obtain ⟨q, hq, rfl⟩ := List.mem_map.mp h
  exact ⟨8, _, List.mem_map.mpr ⟨q, hq, rfl⟩, by decide⟩
theorem fc_at {l : fs_Fs} {j a : Nat} {v : Nat → Int32} (h : l[j]? = some (a, v)) : (a, fs_fl v) ∈ fs_fc l := List.mem_map.mpr ⟨(a, v), List.mem_of_getElem? h, rfl⟩
theorem map_at {l : fs_Fs} {j a : Nat} {v : Nat → Int32} (h : l[j]? = some (a, v)) : (l.map Prod.fst)[j]? = some a := by rw [List.getElem?_map, h]; rfl
/-- the parts in another order -/
theorem own_ix (L : List (List fs_C)) (is : List Nat) (hn : L.length = is.length) (hp : is.Perm (List.range is.length)) {σ : fs_S} (h : fs_own L.flatten σ) : fs_own (is.map fun i => L.getD i []).flatten σ := by
  rw [← hn] at hp
  have e : L = (List.range L.length).map fun i => L.getD i [] := by
    refine List.ext_getElem? fun i => ?_
    rw [List.getElem?_map]
    by_cases hi : i < L.length
    · rw [List.getElem?_range hi]
      simp [hi]
    · rw [List.getElem?_eq_none (by omega), List.getElem?_eq_none (by rw [List.length_range]; omega)]
      rfl
  have e2 := (hp.map fun i => L.getD i []).symm.flatten
  rw [← e] at e2
  exact own_perm h e2
theorem own_c {L : List (List fs_C)} {σ : fs_S} (ho : fs_own L.flatten σ) (i : Nat) {h : List fs_C} (hi : L[i]? = some h) {a : Nat} {e : fs_E} (hm : (a, e) ∈ h) : σ.1 a = some e := own_at ho (List.mem_flatten.mpr ⟨h, List.mem_of_getElem? hi, hm⟩)
theorem mem_c {L : List (List fs_C)} (i : Nat) {h : List fs_C} (hi : L[i]? = some h) {x : fs_C} (hm : x ∈ h) : x ∈ L.flatten := List.mem_flatten.mpr ⟨h, List.mem_of_getElem? hi, hm⟩
theorem eras_map : ∀ (l : fs_Fs) (j : Nat), (l.eraseIdx j).map Prod.fst = (l.map Prod.fst).eraseIdx j
  | [], _ => rfl
  | _ :: _, 0 => rfl
  | x :: l, j + 1 => congrArg (x.1 :: ·) (eras_map l j)
theorem own_pick {C : fs_Fs} {j a : Nat} {v : Nat → Int32} {F : List fs_C} {σ : fs_S} (hv : C[j]? = some (a, v)) (h : fs_own (fs_fc C ++ F) σ) : fs_own ([(a, fs_fl v)] ++ (fs_fc (C.eraseIdx j) ++ F)) σ :=
  own_perm h (List.Perm.append_right F ((pick_perm hv).map fun q : Nat × (Nat → Int32) => ((q.1, fs_fl q.2) : fs_C)))
theorem set_perm {α : Type} : ∀ {l : List α} {j : Nat} (x : α), j < l.length → (l.set j x).Perm (x :: l.eraseIdx j)
  | y :: l, 0, x, _ => List.Perm.refl _
  | y :: l, j + 1, x, h => (List.Perm.cons y (set_perm (l := l) x (Nat.lt_of_succ_lt_succ h))).trans (List.Perm.swap _ _ _)
theorem own_put {C : fs_Fs} {j a : Nat} {v : Nat → Int32} {F : List fs_C} {σ : fs_S} (hj : j < C.length) (h : fs_own ([(a, fs_fl v)] ++ (fs_fc (C.eraseIdx j) ++ F)) σ) : fs_own (fs_fc (C.set j (a, v)) ++ F) σ :=
  own_perm h (List.Perm.append_right F ((set_perm (a, v) hj).map fun q : Nat × (Nat → Int32) => ((q.1, fs_fl q.2) : fs_C))).symm
def fs_EF (c1 ea ca en sl : Nat) (s : Nat → Int32) (C E : fs_Fs) (h : List fs_C) : Prop := ∃ hc he, h = [[(ea, fs_xc s ca en sl)], hc, he, fs_fc C, fs_fc E].flatten ∧ fs_AL c1 ca (C.map Prod.fst) hc ∧ fs_AL c1 en (E.map Prod.fst) he
theorem flat5 (A B C D E F : List fs_C) : [A, B, C, D, E].flatten ++ F = [A, B, C, D, E, F].flatten := by simp [List.append_assoc]
theorem p_Exporter_end {c1 ea ca en sl j a : Nat} {s : Nat → Int32} {C E : fs_Fs} {h F : List fs_C} {σ : fs_S} {v : Nat → Int32} {i why : Int32} (hX : fs_EF c1 ea ca en sl s C E h) (ho : fs_own (h ++ F) σ) (hc : σ.2.2.1 1 = c1) (hk : ∃ q, σ.2.1 c1 = some (fs_oa 3 0 q))
    (hi : i = Int32.ofNat j) (hv : C[j]? = some (a, v)) (hl : C.length < 100) (hl2 : E.length < 100) : ∃ σ1 h1, (fs_cv ea 1 (f_Exporter_end ea i why)).1 σ = some ((), σ1) ∧ fs_EF c1 ea ca en sl s (C.eraseIdx j) (E ++ [(a, upd (upd v 7 (s 4)) 8 why)]) h1 ∧ fs_own (h1 ++ F) σ1 ∧ fs_st σ σ1 1 (10 + 2 * E.length) := by
  obtain ⟨hc9, he9, rfl, hA, hB⟩ := hX
  have hj : j < C.length := (List.getElem?_eq_some_iff.mp hv).1
  rw [flat5] at ho
  have e := own_c ho 0 rfl List.mem_cons_self
  have o1 := own_ix _ [1, 0, 2, 3, 4, 5] rfl (by decide) ho
  obtain ⟨σ1, h1, q1, q2, q3, q4⟩ := p_AL_remove (i := i) hA o1 hi (map_at hv) (fun y hy => by
    obtain ⟨c, fs, h1, h2⟩ := fc_obj hy
    exact ⟨c, fs, mem_c (L := [[(ea, fs_xc s ca en sl)], he9, fs_fc C, fs_fc E, F]) 2 rfl h1, h2⟩)
  have o2 := own_pick hv (own_ix [h1, [(ea, fs_xc s ca en sl)], he9, fs_fc C, fs_fc E, F] [3, 0, 1, 2, 4, 5] rfl (by decide) q3)
  have e2 := own_at o2 List.mem_cons_self
  have o3 := own_up (e1 := fs_fl (upd v 7 (s 4))) o2
  have e3 := own_at o3 List.mem_cons_self
  have o4 := own_up (e1 := fs_fl (upd (upd v 7 (s 4)) 8 why)) o3
  have ex1 := own_c (L := [[(a, fs_fl v)], fs_fc (C.eraseIdx j), h1, [(ea, fs_xc s ca en sl)], he9, fs_fc E, F]) o2 3 rfl List.mem_cons_self
  have ex4 := own_c (L := [[(a, fs_fl (upd (upd v 7 (s 4)) 8 why))], fs_fc (C.eraseIdx j), h1, [(ea, fs_xc s ca en sl)], he9, fs_fc E, F]) o4 3 rfl List.mem_cons_self
  have o5 := own_ix [[(a, fs_fl (upd (upd v 7 (s 4)) 8 why))], fs_fc (C.eraseIdx j), h1, [(ea, fs_xc s ca en sl)], he9, fs_fc E, F] [4, 0, 1, 2, 3, 5, 6] rfl (by decide) o4
  have s4 := st_tr q4 (st_tr (st_su _ a (fs_fl (upd v 7 (s 4)))) (st_su _ a (fs_fl (upd (upd v 7 (s 4)) 8 why))))
  obtain ⟨σ2, h2, w1, w2, w3, w4⟩ := p_AL_add hB o5 (by rw [s4.2.1]; exact hc) (by rw [s4.1]; exact hk) (r := a) (c := 8) List.mem_cons_self (by decide) (fun y hy => by
    obtain ⟨c, fs, h1', h2⟩ := fc_obj hy
    exact ⟨c, fs, mem_c (L := [[(a, fs_fl (upd (upd v 7 (s 4)) 8 why))], fs_fc (C.eraseIdx j), h1, [(ea, fs_xc s ca en sl)], fs_fc E, F]) 4 rfl h1', h2⟩) (by rw [List.length_map]; exact hl2)
  refine ⟨σ2, _, ?_, ⟨h1, h2, rfl, by rw [eras_map]; exact q2, by rw [List.map_append]; exact w2⟩, ?_, ?_⟩
  · refine r_cv e (r_n (by rw [hi]; exact Int32.ofNat_not_neg (by omega)) (r_b (x_gr e 1 rfl) (r_b (p_AL_size hA o1) (r_p ?_ (r_b (x_gr e 1 rfl) (r_b q1 (r_b (x_ck e2) (r_b (x_gi ex1 4 rfl) (r_b (x_pi e2 7 _ (Nat.le_of_ble_eq_true rfl)) (r_b (x_pi e3 8 _ (Nat.le_of_ble_eq_true rfl)) (r_b (x_gr ex4 2 rfl) (r_b w1 rfl))))))))))))
    rw [hi, List.length_map]
    exact (Int32.ofNat_lt_ofNat (by omega) (by omega)).mpr hj
  · rw [flat5]
    have e9 : fs_fc (E ++ [(a, upd (upd v 7 (s 4)) 8 why)]) = fs_fc E ++ [(a, fs_fl (upd (upd v 7 (s 4)) 8 why))] := List.map_append
    have := own_ix [h2, [(a, fs_fl (upd (upd v 7 (s 4)) 8 why))], fs_fc (C.eraseIdx j), h1, [(ea, fs_xc s ca en sl)], fs_fc E, F] [4, 3, 0, 2, 5, 1, 6] rfl (by decide) w3
    rw [e9]
    simpa [List.append_assoc] using this
  · have := st_tr s4 w4
    rw [List.length_map] at this
    exact st_le this (by omega) (by omega)
