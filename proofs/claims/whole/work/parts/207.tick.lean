/-! a tick; flushing -/
def fs_rs (t : Int32) (v : Nat → Int32) : Int32 := if t - v 6 < 15 then (if t - v 3 < 60 then 0 else 2) else 1
def fs_ed (t why : Int32) (q : Nat × (Nat → Int32)) : Nat × (Nat → Int32) := (q.1, upd (upd q.2 7 t) 8 why)
def fs_kp (t : Int32) (C : fs_Fs) : fs_Fs := C.filter fun q => decide (fs_rs t q.2 = 0)
def fs_gn (t : Int32) (C : fs_Fs) : fs_Fs := (C.filter fun q => decide (¬ fs_rs t q.2 = 0)).map fun q => fs_ed t (fs_rs t q.2) q
theorem erase_mid {α : Type} : ∀ (K : List α) (q : α) (l : List α), (K ++ q :: l).eraseIdx K.length = K ++ l
  | [], _, _ => rfl
  | x :: K, q, l => congrArg (x :: ·) (erase_mid K q l)
theorem at_mid {α : Type} (K : List α) (q : α) (l : List α) : (K ++ q :: l)[K.length]? = some q := by simp
theorem kg_len (t : Int32) : ∀ C : fs_Fs, (fs_kp t C).length + (fs_gn t C).length = C.length
  | [] => rfl
  | q :: l => by
    have := kg_len t l
    by_cases h : fs_rs t q.2 = 0 <;> simp [fs_kp, fs_gn, h] at this ⊢ <;> omega
theorem tick_loop {c1 ea ca en sl n : Nat} {s : Nat → Int32} {F : List fs_C} (hn : n < 90) : ∀ (rest : fs_Fs) (fuel : Nat) (K E : fs_Fs) (i : Nat) (σ : fs_S) (h : List fs_C), fs_EF c1 ea ca en sl s (K ++ rest) E h → fs_own (h ++ F) σ → σ.2.2.1 1 = c1 → (∃ q, σ.2.1 c1 = some (fs_oa 3 0 q)) → i + rest.length = n → rest.length < fuel → K.length + rest.length + E.length < 90 →
    ∃ σ1 h1, (fs_lp2 fuel (fun k22 (v4 : Int32) (v5 : Int32) =>
    if Int32.ofNat n ≤ v5 then (
      fs_bind (fs_gr ea 1 1) fun r6 =>
      fs_bind (fs_cv r6 2 (f_ArrayList_size r6)) fun v7 =>
      fs_ret (Int32.ofNat n - v7)) else
    fs_bind (fs_gr ea 1 1) fun r8 =>
    fs_bind (fs_cv r8 2 (f_ArrayList_get r8 v4)) fun r9 =>
    fs_bind (fs_ck r9 8) fun _ =>
    fs_bind (fs_gi ea 1 4) fun v10 =>
    fs_bind (fs_cv r9 8 (f_Flow_reasonToEnd r9 v10)) fun v11 =>
    fs_let (fun (v13 : Int32) =>
      fs_nm ((v5 + 1) : Int32) fun v14 =>
      k22 v13 v14) fun j65 =>
    if v11 = 0 then (
      fs_nm ((v4 + 1) : Int32) fun v12 =>
      j65 v12) else
    fs_bind (fs_cv ea 1 (f_Exporter_end ea v4 v11)) fun _ =>
    j65 v4) (Int32.ofNat K.length) (Int32.ofNat i)).1 σ = some (Int32.ofNat n - Int32.ofNat (K.length + (fs_kp (s 4) rest).length), σ1) ∧ fs_EF c1 ea ca en sl s (K ++ fs_kp (s 4) rest) (E ++ fs_gn (s 4) rest) h1 ∧ fs_own (h1 ++ F) σ1 ∧ fs_st σ σ1 (fs_gn (s 4) rest).length ((fs_gn (s 4) rest).length * 200)
  | [], fuel + 1, K, E, i, σ, h, hX, ho, hc, hk, hi, hf, hb => by
    obtain ⟨e, hC, -⟩ := ef_rd hX ho
    have hs := hC.1
    rw [List.append_nil] at hs hX
    refine ⟨σ, h, r_lp2 (r_p ?_ (r_b (x_gr e 1 rfl) (r_b hs rfl))), by show fs_EF c1 ea ca en sl s (K ++ []) (E ++ []) h; rw [List.append_nil, List.append_nil]; exact hX, ho, st_le (st_rf σ) (Nat.zero_le _) (Nat.zero_le _)⟩
    have : i = n := by simpa using hi
    rw [this]
    exact (Int32.ofNat_le_ofNat (by omega) (by omega)).mpr (Nat.le_refl _)
  | q :: l, fuel + 1, K, E, i, σ, h, hX, ho, hc, hk, hi, hf, hb => by
    obtain ⟨e, hC, -⟩ := ef_rd hX ho
    obtain ⟨g1, g2⟩ := hC.2 K.length q.1 q.2 _ rfl (at_mid K q l)
    rw [List.length_cons] at hi hf hb
    have hne : ¬ Int32.ofNat n ≤ Int32.ofNat i := fun z => by
      have := (Int32.ofNat_le_ofNat (by omega) (by omega)).mp z
      omega
    have hrs : (fs_cv q.1 8 (f_Flow_reasonToEnd q.1 (s 4))).1 σ = some (fs_rs (s 4) q.2, σ) := r_cv g2 (p_Flow_reasonToEnd g2 (s 4))
    by_cases hz : fs_rs (s 4) q.2 = 0
    · have hX2 : fs_EF c1 ea ca en sl s ((K ++ [q]) ++ l) E h := by rw [List.append_assoc]; exact hX
      obtain ⟨σ1, h1, k1, k2, k3, k4⟩ := tick_loop hn l fuel (K ++ [q]) E (i + 1) σ h hX2 ho hc hk (by omega) (by omega) (by rw [List.length_append]; simp; omega)
      have ekp : fs_kp (s 4) (q :: l) = q :: fs_kp (s 4) l := by simp [fs_kp, hz]
      have egn : fs_gn (s 4) (q :: l) = fs_gn (s 4) l := by simp [fs_gn, hz]
      have elen : (K ++ [q]).length = K.length + 1 := by simp
      rw [elen] at k1
      refine ⟨σ1, h1, r_lp2 (r_n hne (r_b (x_gr e 1 rfl) (r_b g1 (r_b (x_ck g2) (r_b (x_gi e 4 rfl) (r_b hrs (r_l (r_p hz (r_m (r_m ?_)))))))))), by rw [ekp, egn]; rw [List.append_assoc] at k2; exact k2, k3, by rw [egn]; exact k4⟩
      rw [ofNat_add1, ofNat_add1, ekp, List.length_cons, show K.length + ((fs_kp (s 4) l).length + 1) = K.length + 1 + (fs_kp (s 4) l).length by omega]
      exact k1
    · obtain ⟨σ2, h2, w1, w2, w3, w4⟩ := p_Exporter_end (why := fs_rs (s 4) q.2) (a := q.1) (v := q.2) hX ho hc hk rfl (at_mid K q l) (by rw [List.length_append, List.length_cons]; omega) (by omega)
      rw [erase_mid] at w2
      obtain ⟨σ1, h1, k1, k2, k3, k4⟩ := tick_loop hn l fuel K (E ++ [(q.1, upd (upd q.2 7 (s 4)) 8 (fs_rs (s 4) q.2))]) (i + 1) σ2 h2 w2 w3 (by rw [w4.2.1]; exact hc) (by rw [w4.1]; exact hk) (by omega) (by omega) (by rw [List.length_append]; simp; omega)
      have ekp : fs_kp (s 4) (q :: l) = fs_kp (s 4) l := by simp [fs_kp, hz]
      have egn : fs_gn (s 4) (q :: l) = (q.1, upd (upd q.2 7 (s 4)) 8 (fs_rs (s 4) q.2)) :: fs_gn (s 4) l := by simp [fs_gn, hz, fs_ed]
      refine ⟨σ1, h1, r_lp2 (r_n hne (r_b (x_gr e 1 rfl) (r_b g1 (r_b (x_ck g2) (r_b (x_gi e 4 rfl) (r_b hrs (r_l (r_n hz (r_b w1 (r_m ?_)))))))))), by rw [ekp, egn]; rw [List.append_assoc] at k2; exact k2, k3, st_le (st_tr w4 k4) (by rw [egn, List.length_cons]; omega) (by rw [egn, List.length_cons]; omega)⟩
      rw [ofNat_add1, ekp]
      exact k1
  | _, 0, _, _, _, _, _, _, _, _, _, _, h, _ => absurd h (Nat.not_lt_zero _)
theorem p_Exporter_passTick {c1 ea ca en sl : Nat} {s : Nat → Int32} {C E : fs_Fs} {h F : List fs_C} {σ : fs_S} (hX : fs_EF c1 ea ca en sl s C E h) (ho : fs_own (h ++ F) σ) (hc : σ.2.2.1 1 = c1) (hk : ∃ q, σ.2.1 c1 = some (fs_oa 3 0 q)) (hl : C.length + E.length < 90) :
    ∃ σ1 h1, (fs_cv ea 1 (f_Exporter_passTick ea)).1 σ = some (Int32.ofNat (fs_gn (s 4 + 1) C).length, σ1) ∧ fs_EF c1 ea ca en sl (upd s 4 (s 4 + 1)) (fs_kp (s 4 + 1) C) (E ++ fs_gn (s 4 + 1) C) h1 ∧ fs_own (h1 ++ F) σ1 ∧ fs_st σ σ1 (fs_gn (s 4 + 1) C).length ((fs_gn (s 4 + 1) C).length * 200) := by
  obtain ⟨e, hC, -⟩ := ef_rd hX ho
  obtain ⟨h1, hX1, ho1⟩ := ef_s hX ho (upd s 4 (s 4 + 1))
  obtain ⟨e1, hC1, -⟩ := ef_rd hX1 ho1
  obtain ⟨σ1, h2, k1, k2, k3, k4⟩ := tick_loop (n := C.length) (by omega) C 4096 [] E 0 _ h1 hX1 ho1 (by rw [(st_su _ _ _).2.1]; exact hc) (by rw [(st_su _ _ _).1]; exact hk) (by omega) (by omega) (by simp; omega)
  have hlen := kg_len (s 4 + 1) C
  have e4 : upd s 4 (s 4 + 1) 4 = s 4 + 1 := rfl
  rw [e4] at k1 k2 k4
  have e5 : Int32.ofNat C.length - Int32.ofNat (([] : fs_Fs).length + (fs_kp (s 4 + 1) C).length) = Int32.ofNat (fs_gn (s 4 + 1) C).length := by
    rw [← Int32.ofNat_sub _ _ (by simp; omega)]
    congr 1
    simp
    omega
  rw [e5] at k1
  exact ⟨σ1, h2, r_cv e (r_b (x_gi e 4 rfl) (r_b (x_pi e 4 _ (Nat.le_of_ble_eq_true rfl)) (r_b (x_gr e1 1 rfl) (r_b hC1.1 k1)))), k2, k3, st_le (st_tr (st_su _ _ _) k4) (by omega) (by omega)⟩
