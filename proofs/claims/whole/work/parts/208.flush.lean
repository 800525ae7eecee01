theorem flush_loop {c1 ea ca en sl n : Nat} {s : Nat → Int32} {F : List fs_C} (hn : n < 90) : ∀ (C : fs_Fs) (fuel : Nat) (E : fs_Fs) (i : Nat) (σ : fs_S) (h : List fs_C), fs_EF c1 ea ca en sl s C E h → fs_own (h ++ F) σ → σ.2.2.1 1 = c1 → (∃ q, σ.2.1 c1 = some (fs_oa 3 0 q)) → i + C.length = n → C.length < fuel → C.length + E.length < 90 →
    ∃ σ1 h1, (fs_lp1 fuel (fun k10 (v3 : Int32) =>
    if Int32.ofNat n ≤ v3 then (
      fs_ret (Int32.ofNat n)) else
    fs_bind (fs_cv ea 1 (f_Exporter_end ea 0 5)) fun _ =>
    fs_nm ((v3 + 1) : Int32) fun v4 =>
    k10 v4) (Int32.ofNat i)).1 σ = some (Int32.ofNat n, σ1) ∧ fs_EF c1 ea ca en sl s [] (E ++ C.map (fs_ed (s 4) 5)) h1 ∧ fs_own (h1 ++ F) σ1 ∧ fs_st σ σ1 C.length (C.length * 200)
  | [], fuel + 1, E, i, σ, h, hX, ho, hc, hk, hi, hf, hb => by
    refine ⟨σ, h, r_lp1 (r_p ?_ rfl), by show fs_EF c1 ea ca en sl s [] (E ++ []) h; rw [List.append_nil]; exact hX, ho, st_le (st_rf σ) (Nat.zero_le _) (Nat.zero_le _)⟩
    have : i = n := by simpa using hi
    rw [this]
    exact (Int32.ofNat_le_ofNat (by omega) (by omega)).mpr (Nat.le_refl _)
  | q :: l, fuel + 1, E, i, σ, h, hX, ho, hc, hk, hi, hf, hb => by
    rw [List.length_cons] at hi hf hb
    have hne : ¬ Int32.ofNat n ≤ Int32.ofNat i := fun z => by
      have := (Int32.ofNat_le_ofNat (by omega) (by omega)).mp z
      omega
    obtain ⟨σ2, h2, w1, w2, w3, w4⟩ := p_Exporter_end (i := 0) (j := 0) (why := 5) (a := q.1) (v := q.2) hX ho hc hk rfl rfl (by rw [List.length_cons]; omega) (by omega)
    obtain ⟨σ1, h1, k1, k2, k3, k4⟩ := flush_loop hn l fuel (E ++ [(q.1, upd (upd q.2 7 (s 4)) 8 5)]) (i + 1) σ2 h2 w2 w3 (by rw [w4.2.1]; exact hc) (by rw [w4.1]; exact hk) (by omega) (by omega) (by rw [List.length_append]; simp; omega)
    refine ⟨σ1, h1, r_lp1 (r_n hne (r_b w1 (r_m ?_))), by rw [List.append_assoc] at k2; exact k2, k3, st_le (st_tr w4 k4) (by rw [List.length_cons]; omega) (by rw [List.length_cons]; omega)⟩
    rw [ofNat_add1]
    exact k1
  | _, 0, _, _, _, _, _, _, _, _, _, h, _ => absurd h (Nat.not_lt_zero _)
theorem p_Exporter_flushCache {c1 ea ca en sl : Nat} {s : Nat → Int32} {C E : fs_Fs} {h F : List fs_C} {σ : fs_S} (hX : fs_EF c1 ea ca en sl s C E h) (ho : fs_own (h ++ F) σ) (hc : σ.2.2.1 1 = c1) (hk : ∃ q, σ.2.1 c1 = some (fs_oa 3 0 q)) (hl : C.length + E.length < 90) :
    ∃ σ1 h1, (fs_cv ea 1 (f_Exporter_flushCache ea)).1 σ = some (Int32.ofNat C.length, σ1) ∧ fs_EF c1 ea ca en sl s [] (E ++ C.map (fs_ed (s 4) 5)) h1 ∧ fs_own (h1 ++ F) σ1 ∧ fs_st σ σ1 C.length (C.length * 200) := by
  obtain ⟨e, hC, -⟩ := ef_rd hX ho
  obtain ⟨σ1, h2, k1, k2, k3, k4⟩ := flush_loop (n := C.length) (by omega) C 4096 E 0 σ h hX ho hc hk (by omega) (by omega) (by omega)
  exact ⟨σ1, h2, r_cv e (r_b (x_gr e 1 rfl) (r_b hC.1 k1)), k2, k3, k4⟩
theorem p_Exporter_sampleEvery {ea ca en sl : Nat} {s : Nat → Int32} {σ : fs_S} (e : σ.1 ea = some (fs_xc s ca en sl)) (x : Int32) : (fs_cv ea 1 (f_Exporter_sampleEvery ea x)).1 σ = some ((), fs_su σ ea (fs_xc (upd (upd s 6 x) 7 0) ca en sl)) := by
  refine r_cv e (r_b (x_pi e 6 _ (Nat.le_of_ble_eq_true rfl)) (r_b (x_pi (su_at _ _ _) 7 _ (Nat.le_of_ble_eq_true rfl)) ?_))
  rw [su_su]
  rfl
