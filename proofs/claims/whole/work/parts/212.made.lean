/-! reports made -/
theorem own_sw {A B F : List fs_C} {σ : fs_S} (h : fs_own (A ++ (B ++ F)) σ) : fs_own (B ++ (A ++ F)) σ := own_perm h (List.perm_append_comm_assoc A B F)
theorem ef_mem {c1 ea ca en sl : Nat} {s : Nat → Int32} {C E : fs_Fs} {h : List fs_C} (hX : fs_EF c1 ea ca en sl s C E h) : (ea, fs_xc s ca en sl) ∈ h := by
  obtain ⟨hc9, he9, rfl, hA, hB⟩ := hX
  exact List.mem_cons_self
theorem p_Exporter_writeSampler {c1 ea ca en sl : Nat} {s : Nat → Int32} {C E : fs_Fs} {h F : List fs_C} {σ : fs_S} (hX : fs_EF c1 ea ca en sl s C E h) (ho : fs_own (h ++ F) σ) :
    ∃ σ1 h1, (fs_cv ea 1 (f_Exporter_writeSampler ea)).1 σ = some (σ.2.2.2.1, σ1) ∧ fs_EF c1 ea ca en sl (upd s 10 (s 10 + 1)) C E h1 ∧ fs_own (fs_rc (fs_ra (fs_ra (fs_rn σ.2.2.2.1 (s 0) (s 5) 2) (s 10)) (s 6)) ++ (h1 ++ F)) σ1 ∧ fs_st σ σ1 2 66 := by
  have hm : (ea, fs_xc s ca en sl) ∈ h ++ F := List.mem_append_left _ (ef_mem hX)
  have e := own_at ho hm
  obtain ⟨σ0, σ1, n1, n2, n3, n4, n5⟩ := p_Report_new ho (s 0) (s 5) 2
  have e0 := n2 _ _ hm
  have e1 := own_at n4 (List.mem_append_right _ hm)
  obtain ⟨σ2, w1, w2, w3⟩ := p_Report_append n4 (by show 3 ≤ 64; omega) (s 10)
  have hu2 := (ra_1 (fs_rn σ.2.2.2.1 (s 0) (s 5) 2) (s 10)).2 (by show 3 ≤ 64; omega)
  have e2 := own_at w2 (List.mem_append_right _ hm)
  obtain ⟨σ3, k1, k2, k3⟩ := p_Report_append w2 hu2 (s 6)
  rw [(ra_1 _ _).1] at k1
  have e3 := own_at k2 (List.mem_append_right _ hm)
  obtain ⟨h1, hX1, ho1⟩ := ef_s hX (own_sw k2) (upd s 10 (s 10 + 1))
  refine ⟨_, h1, r_cv e (r_b n1 (r_b (x_gi e0 0 rfl) (r_b (x_gi e0 5 rfl) (r_b n3 (r_b (x_gi e1 10 rfl) (r_b w1 (r_b (x_gi e2 6 rfl) (r_b k1 (r_b (x_gi e3 10 rfl) (r_b (x_pi e3 10 _ (Nat.le_of_ble_eq_true rfl)) rfl)))))))))), hX1, own_sw ho1, ?_⟩
  exact st_le (st_tr (st_tr (st_tr n5 w3) k3) (st_su _ _ _)) (by omega) (by omega)
def fs_tq (f g : Nat → Int32) : fs_Rp → Nat → Nat → fs_Rp
  | R, _, 0 => R
  | R, i, m + 1 => fs_tq f g (fs_ra (fs_ra R (f i)) (g i)) (i + 1) m
theorem tmpl_loop {L : fs_Ly} {sa b : Nat} {so : fs_E} {t : Nat → Int32} {d : Nat} {F : List fs_C} (hso : so = fs_so t d L.1) (hs : (sa, so) ∈ F) (hL : fs_lf L F) (hu : L.2.2.2.1 ≤ 8) : ∀ (m fuel i : Nat) (R : fs_Rp) (σ : fs_S), R.1 = b → fs_own (fs_rc R ++ F) σ → R.2.2.1 ≤ 64 → i + m = L.2.2.2.1 → m < fuel →
    ∃ σ1, (fs_lp1 fuel (fun k46 (v8 : Int32) =>
    fs_bind (fs_gr sa 3 2) fun r9 =>
    fs_bind (fs_gi r9 4 2) fun v10 =>
    if v10 ≤ v8 then (
      fs_ret b) else
    fs_bind (fs_gr sa 3 2) fun r11 =>
    fs_bind (fs_gr r11 4 0) fun r12 =>
    fs_bind (fs_ai r12 v8) fun v13 =>
    fs_bind (fs_cv b 9 (f_Report_append b v13)) fun _ =>
    fs_bind (fs_gr sa 3 2) fun r14 =>
    fs_bind (fs_gr r14 4 1) fun r15 =>
    fs_bind (fs_ai r15 v8) fun v16 =>
    fs_bind (fs_cv b 9 (f_Report_append b v16)) fun _ =>
    fs_nm ((v8 + 1) : Int32) fun v17 =>
    k46 v17) (Int32.ofNat i)).1 σ = some (b, σ1) ∧ fs_own (fs_rc (fs_tq L.2.2.2.2.1 L.2.2.2.2.2 R i m) ++ F) σ1 ∧ fs_st σ σ1 0 0
  | 0, fuel + 1, i, R, σ, hb, ho, hR, h, _ => by
    subst hso
    have es := own_at ho (List.mem_append_right _ hs)
    have e := own_at ho (List.mem_append_right _ hL.1)
    exact ⟨σ, r_lp1 (r_b (x_gr es 2 rfl) (r_b (x_gi e 2 rfl) (r_p ((Int32.ofNat_le_ofNat (by omega) (by omega)).mpr (by omega)) rfl))), ho, st_rf σ⟩
  | m + 1, fuel + 1, i, R, σ, hb, ho, hR, h, hf => by
    subst hb
    have hi : i < 8 := by omega
    have hne : ¬ Int32.ofNat L.2.2.2.1 ≤ Int32.ofNat i := fun z => by
      have := (Int32.ofNat_le_ofNat (by omega) (by omega)).mp z
      omega
    have es := own_at ho (List.mem_append_right _ hs)
    rw [hso] at es
    have e := own_at ho (List.mem_append_right _ hL.1)
    have ef := own_at ho (List.mem_append_right _ hL.2.1)
    obtain ⟨σ1, w1, w2, w3⟩ := p_Report_append ho hR (L.2.2.2.2.1 i)
    have es1 := own_at w2 (List.mem_append_right _ hs)
    rw [hso] at es1
    have e1 := own_at w2 (List.mem_append_right _ hL.1)
    have eg1 := own_at w2 (List.mem_append_right _ hL.2.2)
    have hu1 := (ra_1 R (L.2.2.2.2.1 i)).2 hR
    obtain ⟨σ2, k1, k2, k3⟩ := p_Report_append w2 hu1 (L.2.2.2.2.2 i)
    rw [(ra_1 _ _).1] at k1
    obtain ⟨σ3, g1, g2, g3⟩ := tmpl_loop (b := R.1) hso hs hL hu m fuel (i + 1) _ σ2 ((ra_1 _ _).1.trans (ra_1 R _).1) k2 ((ra_1 _ _).2 hu1) (by omega) (by omega)
    refine ⟨σ3, r_lp1 (r_b (x_gr es 2 rfl) (r_b (x_gi e 2 rfl) (r_n hne (r_b (x_gr es 2 rfl) (r_b (x_gr e 0 rfl) (r_b (x_ai (x_lk ef) rfl hi (by omega)) (r_b w1 (r_b (x_gr es1 2 rfl) (r_b (x_gr e1 1 rfl) (r_b (x_ai (x_lk eg1) rfl hi (by omega)) (r_b k1 (r_m ?_)))))))))))), g2, st_le (st_tr (st_tr w3 k3) g3) (by omega) (by omega)⟩
    rw [ofNat_add1]
    exact g1
  | _, 0, _, _, _, _, _, _, _, h => absurd h (Nat.not_lt_zero _)
def fs_tp (n : Nat) (s t : Nat → Int32) (L : fs_Ly) : fs_Rp := fs_tq L.2.2.2.2.1 L.2.2.2.2.2 (fs_ra (fs_ra (fs_ra (fs_rn n (s 0) (s 5) 0) (t 0)) (t 4)) (Int32.ofNat L.2.2.2.1)) 0 L.2.2.2.1
theorem p_Exporter_writeTemplate {ea ca en sl sa d : Nat} {s t : Nat → Int32} {L : fs_Ly} {F : List fs_C} {σ : fs_S} (hx : (ea, fs_xc s ca en sl) ∈ F) (hs : (sa, fs_so t d L.1) ∈ F) (hL : fs_lf L F) (hu : L.2.2.2.1 ≤ 8) (ho : fs_own F σ) :
    ∃ σ1, (fs_cv ea 1 (f_Exporter_writeTemplate ea sa)).1 σ = some (σ.2.2.2.1, σ1) ∧ fs_own (fs_rc (fs_tp σ.2.2.2.1 s t L) ++ F) σ1 ∧ fs_st σ σ1 2 66 := by
  have e := own_at ho hx
  obtain ⟨σ0, σ1, n1, n2, n3, n4, n5⟩ := p_Report_new ho (s 0) (s 5) 0
  have e0 := n2 _ _ hx
  have u1 : (fs_rn σ.2.2.2.1 (s 0) (s 5) 0).2.2.1 ≤ 64 := by show 3 ≤ 64; omega
  have es1 := own_at n4 (List.mem_append_right _ hs)
  obtain ⟨σ2, w1, w2, w3⟩ := p_Report_append n4 u1 (t 0)
  have u2 := (ra_1 (fs_rn σ.2.2.2.1 (s 0) (s 5) 0) (t 0)).2 u1
  have es2 := own_at w2 (List.mem_append_right _ hs)
  obtain ⟨σ3, k1, k2, k3⟩ := p_Report_append w2 u2 (t 4)
  rw [(ra_1 _ _).1] at k1
  have u3 := (ra_1 (fs_ra (fs_rn σ.2.2.2.1 (s 0) (s 5) 0) (t 0)) (t 4)).2 u2
  have es3 := own_at k2 (List.mem_append_right _ hs)
  have el3 := own_at k2 (List.mem_append_right _ hL.1)
  obtain ⟨σ4, j1, j2, j3⟩ := p_Report_append k2 u3 (Int32.ofNat L.2.2.2.1)
  rw [(ra_1 _ _).1, (ra_1 _ _).1] at j1
  have u4 := (ra_1 (fs_ra (fs_ra (fs_rn σ.2.2.2.1 (s 0) (s 5) 0) (t 0)) (t 4)) (Int32.ofNat L.2.2.2.1)).2 u3
  obtain ⟨σ5, g1, g2, g3⟩ := tmpl_loop (b := σ.2.2.2.1) rfl hs hL hu L.2.2.2.1 4096 0 _ σ4 (by rw [(ra_1 _ _).1, (ra_1 _ _).1, (ra_1 _ _).1]; rfl) j2 u4 (by omega) (by omega)
  refine ⟨σ5, r_cv e (r_b n1 (r_b (x_gi e0 0 rfl) (r_b (x_gi e0 5 rfl) (r_b n3 (r_b (x_gi es1 0 rfl) (r_b w1 (r_b (x_gi es2 4 rfl) (r_b k1 (r_b (x_gr es3 2 rfl) (r_b (x_gi el3 2 rfl) (r_b j1 g1))))))))))), g2, ?_⟩
  exact st_le (st_tr (st_tr (st_tr (st_tr n5 w3) k3) j3) g3) (by omega) (by omega)
