/-! reports -/
abbrev fs_Rp : Type := Nat × Nat × Nat × (Nat → Int32)
def fs_ro (R : fs_Rp) : fs_E := .inr (9, [.ref R.2.1, .int (Int32.ofNat R.2.2.1)])
def fs_rc (R : fs_Rp) : List fs_C := [(R.1, fs_ro R), (R.2.1, fs_ia 64 R.2.2.2)]
def fs_ra (R : fs_Rp) (x : Int32) : fs_Rp := if R.2.2.1 < 64 then (R.1, R.2.1, R.2.2.1 + 1, upd R.2.2.2 R.2.2.1 (x &&& 255)) else R
theorem ra_1 (R : fs_Rp) (x : Int32) : (fs_ra R x).1 = R.1 ∧ (R.2.2.1 ≤ 64 → (fs_ra R x).2.2.1 ≤ 64) := by
  unfold fs_ra
  split
  · exact ⟨rfl, fun _ => by show R.2.2.1 + 1 ≤ 64; omega⟩
  · exact ⟨rfl, id⟩
theorem p_Report_append {R : fs_Rp} {F : List fs_C} {σ : fs_S} (ho : fs_own (fs_rc R ++ F) σ) (hu : R.2.2.1 ≤ 64) (x : Int32) : ∃ σ1, (fs_cv R.1 9 (f_Report_append R.1 x)).1 σ = some ((), σ1) ∧ fs_own (fs_rc (fs_ra R x) ++ F) σ1 ∧ fs_st σ σ1 0 0 := by
  obtain ⟨a, b, u, f⟩ := R
  have hu : u ≤ 64 := hu
  have e := own_at ho (List.mem_cons_self)
  have e1 := own_at ho (List.mem_cons_of_mem _ List.mem_cons_self)
  by_cases hlt : u < 64
  · have er : fs_ra (a, b, u, f) x = (a, b, u + 1, upd f u (x &&& 255)) := if_pos hlt
    have o1 := own_perm (own_up (e1 := fs_ia 64 (upd f u (x &&& 255))) (own_perm ho (List.Perm.swap _ _ _))) (List.Perm.swap _ _ _)
    have e2 := own_at o1 List.mem_cons_self
    have o2 := own_up (e1 := fs_ro (a, b, u + 1, upd f u (x &&& 255))) o1
    rw [er]
    refine ⟨_, r_cv e (r_b (x_gi e 1 rfl) (r_n (fun z => ?_) (r_b (x_gr e 0 rfl) (r_b (x_gi e 1 rfl) (r_b (x_si e1 rfl hlt (by omega)) (r_b (x_gi e2 1 rfl) (r_b (v := ()) (σ1 := fs_su _ a (fs_ro (a, b, u + 1, upd f u (x &&& 255)))) ?_ rfl))))))), o2, ⟨rfl, rfl, Nat.le_refl _, Nat.le_refl _⟩⟩
    · have := (Int32.ofNat_le_ofNat (k := 64) (n := u) (by omega) (by omega)).mp z
      omega
    · show (fs_pi a 9 1 (Int32.ofNat u + 1)).1 _ = _
      rw [ofNat_add1]
      exact x_pi e2 1 _ (Nat.le_of_ble_eq_true rfl)
  · have er : fs_ra (a, b, u, f) x = (a, b, u, f) := if_neg hlt
    rw [er]
    exact ⟨σ, r_cv e (r_b (x_gi e 1 rfl) (r_p ((Int32.ofNat_le_ofNat (k := 64) (n := u) (by omega) (by omega)).mpr (by omega)) rfl)), ho, st_rf σ⟩
def fs_an (x : Int32) : fs_Rp → Nat → fs_Rp
  | R, 0 => R
  | R, n + 1 => fs_an x (fs_ra R (fs_ushr x (8 * Int32.ofNat n))) n
theorem an_1 (x : Int32) : ∀ (n : Nat) (R : fs_Rp), (fs_an x R n).1 = R.1 ∧ (R.2.2.1 ≤ 64 → (fs_an x R n).2.2.1 ≤ 64)
  | 0, _ => ⟨rfl, id⟩
  | n + 1, R => ⟨(an_1 x n _).1.trans (ra_1 R _).1, fun h => (an_1 x n _).2 ((ra_1 R _).2 h)⟩
theorem sub_m1 (n : Nat) : Int32.ofNat n + (-1) = Int32.ofNat n - 1 := (Int32.sub_eq_add_neg _ _).symm
theorem an_loop {a : Nat} {x : Int32} {F : List fs_C} : ∀ (n fuel : Nat) (R : fs_Rp) (σ : fs_S), R.1 = a → fs_own (fs_rc R ++ F) σ → R.2.2.1 ≤ 64 → n < fuel → n ≤ 100 →
    ∃ σ1, (fs_lp1 fuel (fun k4 (v2 : Int32) =>
    if v2 < 0 then (
      fs_ret ()) else
    fs_bind (fs_cv a 9 (f_Report_append a (fs_ushr x (8 * v2)))) fun _ =>
    fs_nm ((v2 + (-1)) : Int32) fun v3 =>
    k4 v3) (Int32.ofNat n - 1)).1 σ = some ((), σ1) ∧ fs_own (fs_rc (fs_an x R n) ++ F) σ1 ∧ fs_st σ σ1 0 0
  | 0, fuel + 1, R, σ, _, ho, _, _, _ => ⟨σ, r_lp1 (r_p (by decide) rfl), ho, st_rf σ⟩
  | n + 1, fuel + 1, R, σ, ha, ho, hu, hf, hn => by
    subst ha
    rw [ofNat_sub1 (n := n + 1) (Nat.succ_pos n), Nat.add_sub_cancel]
    obtain ⟨σ1, w1, w2, w3⟩ := p_Report_append ho hu (fs_ushr x (8 * Int32.ofNat n))
    obtain ⟨σ2, k1, k2, k3⟩ := an_loop (a := R.1) (x := x) (F := F) n fuel _ σ1 (ra_1 R _).1 w2 ((ra_1 R _).2 hu) (by omega) (by omega)
    refine ⟨σ2, r_lp1 (r_n (Int32.ofNat_not_neg (by omega)) (r_b w1 (r_m ?_))), k2, st_tr w3 k3⟩
    rw [sub_m1]
    exact k1
  | _, 0, _, _, _, _, _, h, _ => absurd h (Nat.not_lt_zero _)
theorem p_Report_appendNumber {R : fs_Rp} {F : List fs_C} {σ : fs_S} (ho : fs_own (fs_rc R ++ F) σ) (hu : R.2.2.1 ≤ 64) (x : Int32) {n : Nat} (hn : n ≤ 100) : ∃ σ1, (fs_cv R.1 9 (f_Report_appendNumber R.1 x (Int32.ofNat n))).1 σ = some ((), σ1) ∧ fs_own (fs_rc (fs_an x R n) ++ F) σ1 ∧ fs_st σ σ1 0 0 := by
  have e := own_at ho (List.mem_cons_self)
  obtain ⟨σ1, k1, k2, k3⟩ := an_loop (a := R.1) (x := x) n 4096 R σ rfl ho hu (by omega) hn
  exact ⟨σ1, r_cv e (r_m k1), k2, k3⟩
theorem x_ni {σ : fs_S} {j : Nat} {i : Int32} (hi : i = Int32.ofNat j) (hj : j ≤ 65536) : (fs_ni i).1 σ = some (σ.2.2.2.1, fs_sm σ (fs_ia j fun _ => 0) j) := by
  have h1 : i.toNatClampNeg = j := by rw [hi]; exact Int32.toNatClampNeg_ofNat_of_lt (by omega)
  have h2 : ¬ i < 0 := by rw [hi]; exact Int32.ofNat_not_neg (by omega)
  unfold fs_ni
  rw [if_pos ⟨h2, by omega⟩, h1]
  rfl
/-- a new report -/
def fs_rn (n : Nat) (x y z : Int32) : fs_Rp := (n, n + 1, 3, upd (upd (upd (fun _ => 0) 0 x) 1 y) 2 z)
theorem p_Report_new {F : List fs_C} {σ : fs_S} (ho : fs_own F σ) (x y z : Int32) : ∃ σ0 σ1, (fs_nw 9 fs_d9).1 σ = some (σ.2.2.2.1, σ0) ∧ (∀ a e, (a, e) ∈ F → σ0.1 a = some e) ∧ (f_Report_init_0 σ.2.2.2.1 x y z).1 σ0 = some ((), σ1) ∧ fs_own (fs_rc (fs_rn σ.2.2.2.1 x y z) ++ F) σ1 ∧ fs_st σ σ1 2 66 := by
  have o0 := own_mk (e := .inr (9, fs_d9)) (w := 2) ho
  have e0 := own_at o0 List.mem_cons_self
  have o1 := own_mk (e := fs_ia 64 fun _ => 0) (w := 64) o0
  have o1b := own_perm o1 (List.Perm.swap _ _ _)
  have e1 := own_at o1b List.mem_cons_self
  have o2 := own_up (e1 := .inr (9, [.ref (σ.2.2.2.1 + 1), .int 0])) o1b
  have e2 := own_at o2 List.mem_cons_self
  have o3 := own_perm o2 (List.Perm.swap _ _ _)
  have e3 := own_at o3 List.mem_cons_self
  have o4 := own_up (e1 := fs_ia 64 (upd (fun _ => 0) 0 x)) o3
  have e4 := own_at o4 (List.mem_cons_of_mem _ List.mem_cons_self)
  have e4b := own_at o4 List.mem_cons_self
  have o5 := own_up (e1 := fs_ia 64 (upd (upd (fun _ => 0) 0 x) 1 y)) o4
  have e5 := own_at o5 (List.mem_cons_of_mem _ List.mem_cons_self)
  have e5b := own_at o5 List.mem_cons_self
  have o6 := own_perm (own_up (e1 := fs_ia 64 (upd (upd (upd (fun _ => 0) 0 x) 1 y) 2 z)) o5) (List.Perm.swap _ _ _)
  have e6 := own_at o6 List.mem_cons_self
  have o7 := own_up (e1 := fs_ro (fs_rn σ.2.2.2.1 x y z)) o6
  refine ⟨_, _, rfl, fun a e h => own_at o0 (List.mem_cons_of_mem _ h), r_b (x_ni (j := 64) rfl (by decide)) (r_b (x_pr e1 0 _ (Nat.le_of_ble_eq_true rfl)) (r_b (x_gr e2 0 rfl) (r_b (x_si e3 (j := 0) rfl (by decide) (by decide)) (r_b (x_gr e4 0 rfl) (r_b (x_si e4b (j := 1) rfl (by decide) (by decide)) (r_b (x_gr e5 0 rfl) (r_b (x_si e5b (j := 2) rfl (by decide) (by decide)) (r_b (x_pi e6 1 _ (Nat.le_of_ble_eq_true rfl)) rfl)))))))), o7, ⟨rfl, rfl, Nat.le_refl _, Nat.le_refl _⟩⟩
