/-! the next epoch -/
def fs_fg (T : fs_Sl) : fs_Sl := (T.1, upd (upd T.2.1 3 0) 4 0, fs_lz T.2.2.1, T.2.2.2)
theorem ss_forget {sl i : Nat} {S : List fs_Sl} {T : fs_Sl} {F : List fs_C} {σ : fs_S} (hi : S[i]? = some T) (ho : fs_own (fs_SS sl S ++ F) σ) : ∃ σ1, (fs_cv T.1 3 (f_Slot_forget T.1)).1 σ = some ((), σ1) ∧ fs_own (fs_SS sl (S.set i (fs_fg T)) ++ F) σ1 ∧ fs_st σ σ1 0 0 := by
  obtain ⟨σ1, w1, w2, w3⟩ := p_Slot_forget (ss_out hi ho)
  exact ⟨σ1, w1, ss_in (T1 := fs_fg T) hi rfl w2, w3⟩
theorem ef_clear {c1 ea ca en sl : Nat} {s : Nat → Int32} {C E : fs_Fs} {h F : List fs_C} {σ : fs_S} (hX : fs_EF c1 ea ca en sl s C E h) (ho : fs_own (h ++ F) σ) : ∃ σ1 σ2 h2, (fs_cv ca 2 (f_ArrayList_clear ca)).1 σ = some ((), σ1) ∧ σ1.1 ea = some (fs_xc s ca en sl) ∧ (fs_cv en 2 (f_ArrayList_clear en)).1 σ1 = some ((), σ2) ∧ fs_EF c1 ea ca en sl s [] [] h2 ∧ fs_own (h2 ++ F) σ2 ∧ fs_st σ σ2 0 0 := by
  obtain ⟨hc9, he9, rfl, hA, hB⟩ := hX
  rw [flat5] at ho
  have o1 := own_ix _ [1, 0, 2, 3, 4, 5] rfl (by decide) ho
  obtain ⟨σ1, h1, q1, q2, q3, q4⟩ := p_AL_clear hA o1
  have o2 := own_ix [h1, [(ea, fs_xc s ca en sl)], he9, fs_fc C, fs_fc E, F] [2, 0, 1, 3, 4, 5] rfl (by decide) q3
  have e := own_c (L := [h1, [(ea, fs_xc s ca en sl)], he9, fs_fc C, fs_fc E, F]) q3 1 rfl List.mem_cons_self
  obtain ⟨σ2, h2, w1, w2, w3, w4⟩ := p_AL_clear hB o2
  have o3 := own_ix [h2, h1, [(ea, fs_xc s ca en sl)], fs_fc C, fs_fc E, F] [3, 4, 2, 1, 0, 5] rfl (by decide) w3
  have o4 : fs_own ([(ea, fs_xc s ca en sl)] ++ (h1 ++ (h2 ++ (F ++ [])))) σ2 := own_drop (own_drop o3)
  exact ⟨σ1, σ2, _, q1, e, w1, ⟨h1, h2, rfl, q2, w2⟩, own_eq o4 (by simp [fs_fc]), st_tr q4 w4⟩
def fs_ne (s : Nat → Int32) : Nat → Int32 := upd (upd (upd (upd (upd s 5 (s 5 + 1)) 6 1) 7 0) 9 0) 10 0
theorem p_Exporter_beginNextEpoch {c1 ea ca en sl : Nat} {s : Nat → Int32} {C E : fs_Fs} {T0 T1 T2 : fs_Sl} {h F : List fs_C} {σ : fs_S} (hX : fs_EF c1 ea ca en sl s C E h) (ho : fs_own (h ++ (fs_SS sl [T0, T1, T2] ++ F)) σ) :
    ∃ σ1 h1, (fs_cv ea 1 (f_Exporter_beginNextEpoch ea)).1 σ = some ((), σ1) ∧ fs_EF c1 ea ca en sl (fs_ne s) [] [] h1 ∧ fs_own (h1 ++ (fs_SS sl [fs_fg T0, fs_fg T1, fs_fg T2] ++ F)) σ1 ∧ fs_st σ σ1 0 0 := by
  obtain ⟨e, -, -⟩ := ef_rd hX ho
  obtain ⟨h0, hX0, o0⟩ := ef_s hX ho (upd s 5 (s 5 + 1))
  obtain ⟨e0, -, -⟩ := ef_rd hX0 o0
  obtain ⟨σ1, σ2, h2, q1, e1, q2, hX2, o2, st2⟩ := ef_clear hX0 o0
  obtain ⟨e2, -, -⟩ := ef_rd hX2 o2
  have m2 := ef_mem hX2
  have o3 := own_sw o2
  obtain ⟨σ3, w1, w2, w3⟩ := ss_forget (i := 0) (T := T0) rfl o3
  have e3 := own_at w2 (List.mem_append_right _ (List.mem_append_left _ m2))
  obtain ⟨σ4, x1, x2, x3⟩ := ss_forget (i := 1) (T := T1) rfl w2
  have e4 := own_at x2 (List.mem_append_right _ (List.mem_append_left _ m2))
  obtain ⟨σ5, y1, y2, y3⟩ := ss_forget (i := 2) (T := T2) rfl x2
  have o5 := own_sw y2
  obtain ⟨e5, -, -⟩ := ef_rd hX2 o5
  obtain ⟨h6, hX6, o6⟩ := ef_s hX2 o5 (fs_ne s)
  have r3 := ss_arr (i := 0) (x := 0) o3 rfl rfl rfl
  have r4 := ss_arr (i := 1) (x := 0 + 1) w2 rfl rfl rfl
  have r5 := ss_arr (i := 2) (x := 0 + 1 + 1) x2 rfl rfl rfl
  refine ⟨fs_su σ5 ea (fs_xc (fs_ne s) ca en sl), h6, ?_, hX6, o6, ?_⟩
  · refine r_cv e <| r_b (x_gi e 5 rfl) <| r_b (x_pi e 5 _ (Nat.le_of_ble_eq_true rfl)) <| r_b (x_gr e0 1 rfl) <| r_b q1 <| r_b (x_gr e1 2 rfl) <| r_b q2 <| r_lp1 <| r_n (by decide) <| r_b (x_gr e2 3 rfl) <| r_b r3 <| r_b w1 <| r_m <| r_lp1 <| r_n (by decide) <| r_b (x_gr e3 3 rfl) <| r_b r4 <| r_b x1 <| r_m <| r_lp1 <| r_n (by decide) <| r_b (x_gr e4 3 rfl) <| r_b r5 <| r_b y1 <| r_m <| r_lp1 <| r_p (by decide) <| r_b (p_Exporter_sampleEvery e5 1) <| r_b (x_pi (su_at _ _ _) 9 _ (Nat.le_of_ble_eq_true rfl)) <| r_b (x_pi (su_at _ _ _) 10 _ (Nat.le_of_ble_eq_true rfl)) ?_
    rw [su_su, su_su]
    rfl
  · exact st_tr (N := 0) (U := 0) (N2 := 0) (U2 := 0) st2 (st_tr (N := 0) (U := 0) (N2 := 0) (U2 := 0) w3 (st_tr (N := 0) (U := 0) (N2 := 0) (U2 := 0) x3 (st_tr (N := 0) (U := 0) (N2 := 0) (U2 := 0) y3 (st_su _ _ _))))
