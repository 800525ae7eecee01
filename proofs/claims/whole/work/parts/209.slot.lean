/-! layouts and slots -/
theorem own_eq {H H1 : List fs_C} {σ : fs_S} (h : fs_own H σ) (e : H = H1) : fs_own H1 σ := e ▸ h
abbrev fs_Ly : Type := Nat × Nat × Nat × Nat × (Nat → Int32) × (Nat → Int32)
def fs_lo (L : fs_Ly) : fs_E := .inr (4, [.ref L.2.1, .ref L.2.2.1, .int (Int32.ofNat L.2.2.2.1)])
def fs_lc (L : fs_Ly) : List fs_C := [(L.1, fs_lo L), (L.2.1, fs_ia 8 L.2.2.2.2.1), (L.2.2.1, fs_ia 8 L.2.2.2.2.2)]
def fs_hf (f : Nat → Int32) (x : Int32) : Nat → Nat → Bool
  | _, 0 => false
  | i, m + 1 => decide (f i = x) || fs_hf f x (i + 1) m
theorem has_loop {a fa ga u : Nat} {f : Nat → Int32} {σ : fs_S} {x : Int32} (e : σ.1 a = some (.inr (4, [.ref fa, .ref ga, .int (Int32.ofNat u)]))) (e1 : σ.1 fa = some (fs_ia 8 f)) (hu : u ≤ 8) : ∀ (m fuel i : Nat), i + m = u → m < fuel →
    (fs_lp1 fuel (fun k2 (v1 : Int32) =>
    fs_bind (fs_gi a 4 2) fun v2 =>
    if v2 ≤ v1 then (
      fs_rz 0) else
    fs_bind (fs_gr a 4 0) fun r3 =>
    fs_bind (fs_ai r3 v1) fun v4 =>
    if v4 = x then (
      fs_rz 1) else
    fs_nm ((v1 + 1) : Int32) fun v5 =>
    k2 v5) (Int32.ofNat i)).1 σ = some (if fs_hf f x i m = true then 1 else 0, σ)
  | 0, fuel + 1, i, h, _ => r_lp1 (r_b (x_gi e 2 rfl) (r_p ((Int32.ofNat_le_ofNat (by omega) (by omega)).mpr (by omega)) rfl))
  | m + 1, fuel + 1, i, h, hf => by
    have hne : ¬ Int32.ofNat u ≤ Int32.ofNat i := fun z => by
      have := (Int32.ofNat_le_ofNat (by omega) (by omega)).mp z
      omega
    have es : fs_hf f x i (m + 1) = (decide (f i = x) || fs_hf f x (i + 1) m) := rfl
    by_cases hx : f i = x
    · rw [es, show (decide (f i = x)) = true from decide_eq_true hx]
      exact r_lp1 (r_b (x_gi e 2 rfl) (r_n hne (r_b (x_gr e 0 rfl) (r_b (x_ai (x_lk e1) rfl (by omega) (by omega)) (r_p hx rfl)))))
    · rw [es, show (decide (f i = x)) = false from decide_eq_false hx, Bool.false_or]
      refine r_lp1 (r_b (x_gi e 2 rfl) (r_n hne (r_b (x_gr e 0 rfl) (r_b (x_ai (x_lk e1) rfl (by omega) (by omega)) (r_n hx (r_m ?_))))))
      rw [ofNat_add1]
      exact has_loop e e1 hu m fuel (i + 1) (by omega) (by omega)
  | _, 0, _, _, h => absurd h (Nat.not_lt_zero _)
theorem p_Layout_has {L : fs_Ly} {F : List fs_C} {σ : fs_S} (ho : fs_own (fs_lc L ++ F) σ) (hu : L.2.2.2.1 ≤ 8) (x : Int32) : (fs_cv L.1 4 (f_Layout_has L.1 x)).1 σ = some (if fs_hf L.2.2.2.2.1 x 0 L.2.2.2.1 = true then 1 else 0, σ) := by
  have e := own_at ho (List.mem_cons_self)
  have e1 := own_at ho (List.mem_cons_of_mem _ List.mem_cons_self)
  exact r_cv e (has_loop e e1 hu L.2.2.2.1 4096 0 (by omega) (by omega))
def fs_la (L : fs_Ly) (x y : Int32) : fs_Ly := (L.1, L.2.1, L.2.2.1, L.2.2.2.1 + 1, upd L.2.2.2.2.1 L.2.2.2.1 x, upd L.2.2.2.2.2 L.2.2.2.1 y)
theorem p_Layout_append {L : fs_Ly} {F : List fs_C} {σ : fs_S} (ho : fs_own (fs_lc L ++ F) σ) (hu : L.2.2.2.1 < 8) (x y : Int32) : ∃ σ1, (fs_cv L.1 4 (f_Layout_append L.1 x y)).1 σ = some ((), σ1) ∧ fs_own (fs_lc (fs_la L x y) ++ F) σ1 ∧ fs_st σ σ1 0 0 := by
  obtain ⟨a, fa, ga, u, f, g⟩ := L
  have hu : u < 8 := hu
  have ho : fs_own [[(a, fs_lo (a, fa, ga, u, f, g))], [(fa, fs_ia 8 f)], [(ga, fs_ia 8 g)], F].flatten σ := by simpa [fs_lc] using ho
  have e := own_c ho 0 rfl List.mem_cons_self
  have o1 := own_up (e1 := fs_ia 8 (upd f u x)) (own_ix _ [1, 0, 2, 3] rfl (by decide) ho)
  have ea := own_c (L := [[(fa, fs_ia 8 (upd f u x))], [(a, fs_lo (a, fa, ga, u, f, g))], [(ga, fs_ia 8 g)], F]) o1 1 rfl List.mem_cons_self
  have o2 := own_ix [[(fa, fs_ia 8 (upd f u x))], [(a, fs_lo (a, fa, ga, u, f, g))], [(ga, fs_ia 8 g)], F] [2, 1, 0, 3] rfl (by decide) o1
  have e2 := own_at o2 List.mem_cons_self
  have o3 := own_ix [[(ga, fs_ia 8 (upd g u y))], [(a, fs_lo (a, fa, ga, u, f, g))], [(fa, fs_ia 8 (upd f u x))], F] [1, 2, 0, 3] rfl (by decide) (own_up (e1 := fs_ia 8 (upd g u y)) o2)
  have e3 := own_at o3 List.mem_cons_self
  have o4 := own_up (e1 := fs_lo (fs_la (a, fa, ga, u, f, g) x y)) o3
  have ef := own_c ho 1 rfl List.mem_cons_self
  refine ⟨_, r_cv e (r_b (x_gi e 2 rfl) (r_n (fun z => ?_) (r_b (x_gr e 0 rfl) (r_b (x_gi e 2 rfl) (r_b (x_si ef rfl hu (by omega)) (r_b (x_gr ea 1 rfl) (r_b (x_gi ea 2 rfl) (r_b (x_si e2 rfl hu (by omega)) (r_b (x_gi e3 2 rfl) (r_b (v := ()) (σ1 := fs_su _ a (fs_lo (fs_la (a, fa, ga, u, f, g) x y))) ?_ rfl)))))))))), own_eq o4 (by simp [fs_lc, fs_la]), ⟨rfl, rfl, Nat.le_refl _, Nat.le_refl _⟩⟩
  · have := (Int32.ofNat_le_ofNat (k := 8) (n := u) (by omega) (by omega)).mp z
    omega
  · show (fs_pi a 4 2 (Int32.ofNat u + 1)).1 _ = _
    rw [ofNat_add1]
    exact x_pi e3 2 _ (Nat.le_of_ble_eq_true rfl)
def fs_so (t : Nat → Int32) (d p : Nat) : fs_E := .inr (3, [.int (t 0), .ref d, .ref p, .int (t 3), .int (t 4), .int (t 5)])
def fs_sc (sa : Nat) (t : Nat → Int32) (D P : fs_Ly) : List fs_C := [[(sa, fs_so t D.1 P.1)], fs_lc D, fs_lc P].flatten
def fs_lz (L : fs_Ly) : fs_Ly := (L.1, L.2.1, L.2.2.1, 0, L.2.2.2.2.1, L.2.2.2.2.2)
theorem p_Slot_forget {sa : Nat} {t : Nat → Int32} {D P : fs_Ly} {F : List fs_C} {σ : fs_S} (ho : fs_own (fs_sc sa t D P ++ F) σ) : ∃ σ1, (fs_cv sa 3 (f_Slot_forget sa)).1 σ = some ((), σ1) ∧ fs_own (fs_sc sa (upd (upd t 3 0) 4 0) (fs_lz D) P ++ F) σ1 ∧ fs_st σ σ1 0 0 := by
  have ho : fs_own [[(sa, fs_so t D.1 P.1)], [(D.1, fs_lo D)], [(D.2.1, fs_ia 8 D.2.2.2.2.1), (D.2.2.1, fs_ia 8 D.2.2.2.2.2)], fs_lc P, F].flatten σ := by simpa [fs_sc, fs_lc] using ho
  have e := own_c ho 0 rfl List.mem_cons_self
  have ed := own_c ho 1 rfl List.mem_cons_self
  have o1 := own_ix [[(D.1, fs_lo (fs_lz D))], [(sa, fs_so t D.1 P.1)], [(D.2.1, fs_ia 8 D.2.2.2.2.1), (D.2.2.1, fs_ia 8 D.2.2.2.2.2)], fs_lc P, F] [1, 0, 2, 3, 4] rfl (by decide) (own_up (e1 := fs_lo (fs_lz D)) (own_ix _ [1, 0, 2, 3, 4] rfl (by decide) ho))
  have e1 := own_at o1 List.mem_cons_self
  have o2 := own_up (e1 := fs_so (upd t 3 0) D.1 P.1) o1
  have e2 := own_at o2 List.mem_cons_self
  have o3 := own_up (e1 := fs_so (upd (upd t 3 0) 4 0) D.1 P.1) o2
  refine ⟨_, r_cv e (r_b (x_gr e 1 rfl) (r_b (x_pi ed 2 _ (Nat.le_of_ble_eq_true rfl)) (r_b (x_pz e1 3 (Or.inl rfl) (Nat.le_of_ble_eq_true rfl)) (r_b (x_pi e2 4 _ (Nat.le_of_ble_eq_true rfl)) rfl)))), own_eq o3 (by simp [fs_sc, fs_lc, fs_lz]), ⟨rfl, rfl, Nat.le_refl _, Nat.le_refl _⟩⟩
theorem p_Slot_putInForce {sa : Nat} {t : Nat → Int32} {D P : fs_Ly} {F : List fs_C} {σ : fs_S} (ho : fs_own (fs_sc sa t D P ++ F) σ) (x : Int32) : ∃ σ1, (fs_cv sa 3 (f_Slot_putInForce sa x)).1 σ = some ((), σ1) ∧ fs_own (fs_sc sa (upd (upd (upd t 3 1) 4 (t 4 + 1)) 5 x) (fs_lz P) D ++ F) σ1 ∧ fs_st σ σ1 0 0 := by
  have ho : fs_own [[(sa, fs_so t D.1 P.1)], fs_lc D, [(P.1, fs_lo P)], [(P.2.1, fs_ia 8 P.2.2.2.2.1), (P.2.2.1, fs_ia 8 P.2.2.2.2.2)], F].flatten σ := by simpa [fs_sc, fs_lc] using ho
  have e := own_c ho 0 rfl List.mem_cons_self
  have o1 := own_up (e1 := fs_so t D.1 D.1) ho
  have e1 := own_at o1 List.mem_cons_self
  have o2 := own_up (e1 := fs_so t P.1 D.1) o1
  have e2 := own_at o2 List.mem_cons_self
  have o3 := own_ix [[(sa, fs_so t P.1 D.1)], fs_lc D, [(P.1, fs_lo P)], [(P.2.1, fs_ia 8 P.2.2.2.2.1), (P.2.2.1, fs_ia 8 P.2.2.2.2.2)], F] [2, 0, 1, 3, 4] rfl (by decide) o2
  have e3 := own_at o3 List.mem_cons_self
  have o4 := own_ix [[(P.1, fs_lo (fs_lz P))], [(sa, fs_so t P.1 D.1)], fs_lc D, [(P.2.1, fs_ia 8 P.2.2.2.2.1), (P.2.2.1, fs_ia 8 P.2.2.2.2.2)], F] [1, 0, 3, 2, 4] rfl (by decide) (own_up (e1 := fs_lo (fs_lz P)) o3)
  have e4 := own_at o4 List.mem_cons_self
  have o5 := own_up (e1 := fs_so (upd t 3 1) P.1 D.1) o4
  have e5 := own_at o5 List.mem_cons_self
  have o6 := own_up (e1 := fs_so (upd (upd t 3 1) 4 (t 4 + 1)) P.1 D.1) o5
  have e6 := own_at o6 List.mem_cons_self
  have o7 := own_up (e1 := fs_so (upd (upd (upd t 3 1) 4 (t 4 + 1)) 5 x) P.1 D.1) o6
  refine ⟨_, r_cv e (r_b (x_gr e 2 rfl) (r_b (x_gr e 1 rfl) (r_b (x_pr e 2 _ (Nat.le_of_ble_eq_true rfl)) (r_b (x_pr e1 1 _ (Nat.le_of_ble_eq_true rfl)) (r_b (x_gr e2 1 rfl) (r_b (x_pi e3 2 _ (Nat.le_of_ble_eq_true rfl)) (r_b (x_pz e4 3 (Or.inr rfl) (Nat.le_of_ble_eq_true rfl)) (r_b (x_gi e5 4 rfl) (r_b (x_pi e5 4 _ (Nat.le_of_ble_eq_true rfl)) (r_b (x_pi e6 5 _ (Nat.le_of_ble_eq_true rfl)) rfl)))))))))), own_eq o7 (by simp [fs_sc, fs_lc, fs_lz]), ⟨rfl, rfl, Nat.le_refl _, Nat.le_refl _⟩⟩
