/-! arrays of longs and of booleans -/
def fs_ja (n : Nat) (f : Nat → Int64) : fs_E := .inl (1, n, .inr (.inl f))
def fs_za (n : Nat) (f : Nat → Int32) : fs_E := .inl (2, n, .inl f)
theorem x_aj {σ : fs_S} {a n j : Nat} {f : Nat → Int64} {i : Int32} (h : σ.1 a = some (fs_ja n f)) (hi : i = Int32.ofNat j) (hj : j < n) (hn : n ≤ 65536) : (fs_aj a i).1 σ = some (f j, σ) := by
  obtain ⟨h1, h2⟩ := x_in hi hj hn
  show ((fs_lk σ a).bind _).map _ = _
  rw [x_lk h]
  simp only [Option.bind_some, fs_ja, fs_xJ]
  rw [if_pos ⟨trivial, h1⟩, h2]
  rfl
theorem x_sj {σ : fs_S} {a n j : Nat} {f : Nat → Int64} {i : Int32} {v : Int64} (h : σ.1 a = some (fs_ja n f)) (hi : i = Int32.ofNat j) (hj : j < n) (hn : n ≤ 65536) : (fs_sj a i v).1 σ = some ((), fs_su σ a (fs_ja n (vp_updL f j v))) := by
  obtain ⟨h1, h2⟩ := x_in hi hj hn
  show ((σ.1 a).bind _).map _ = _
  rw [h]
  simp only [Option.bind_some, fs_ja, fs_yJ]
  rw [if_pos ⟨trivial, h1⟩, h2]
  rfl
theorem x_nj {σ : fs_S} {j : Nat} {i : Int32} (hi : i = Int32.ofNat j) (hj : j ≤ 65536) : (fs_nj i).1 σ = some (σ.2.2.2.1, fs_sm σ (fs_ja j fun _ => 0) j) := by
  have h1 : i.toNatClampNeg = j := by rw [hi]; exact Int32.toNatClampNeg_ofNat_of_lt (by omega)
  have h2 : ¬ i < 0 := by rw [hi]; exact Int32.ofNat_not_neg (by omega)
  unfold fs_nj
  rw [if_pos ⟨h2, by omega⟩, h1]
  rfl
theorem x_az {σ : fs_S} {a n j : Nat} {f : Nat → Int32} {i : Int32} (h : σ.1 a = some (fs_za n f)) (hi : i = Int32.ofNat j) (hj : j < n) (hn : n ≤ 65536) : (fs_az a i).1 σ = some (f j, σ) := by
  obtain ⟨h1, h2⟩ := x_in hi hj hn
  show ((fs_lk σ a).bind _).map _ = _
  rw [x_lk h]
  simp only [Option.bind_some, fs_za, fs_xI]
  rw [if_pos ⟨trivial, h1⟩, h2]
  rfl
theorem x_sz {σ : fs_S} {a n j : Nat} {f : Nat → Int32} {i v : Int32} (h : σ.1 a = some (fs_za n f)) (hv : v = 0 ∨ v = 1) (hi : i = Int32.ofNat j) (hj : j < n) (hn : n ≤ 65536) : (fs_sz a i v).1 σ = some ((), fs_su σ a (fs_za n (upd f j v))) := by
  obtain ⟨h1, h2⟩ := x_in hi hj hn
  unfold fs_sz
  rw [if_pos hv]
  show ((σ.1 a).bind _).map _ = _
  rw [h]
  simp only [Option.bind_some, fs_za, fs_yI]
  rw [if_pos ⟨trivial, h1⟩, h2]
  rfl
theorem x_nz {σ : fs_S} {j : Nat} {i : Int32} (hi : i = Int32.ofNat j) (hj : j ≤ 65536) : (fs_nz i).1 σ = some (σ.2.2.2.1, fs_sm σ (fs_za j fun _ => 0) j) := by
  have h1 : i.toNatClampNeg = j := by rw [hi]; exact Int32.toNatClampNeg_ofNat_of_lt (by omega)
  have h2 : ¬ i < 0 := by rw [hi]; exact Int32.ofNat_not_neg (by omega)
  unfold fs_nz
  rw [if_pos ⟨h2, by omega⟩, h1]
  rfl
/-! the cursor -/
abbrev fs_Cu : Type := Nat × Int32
def fs_cuo (ra : Nat) (c : fs_Cu) : fs_E := .inr (10, [.ref ra, .int (Int32.ofNat c.1), .int c.2])
def fs_tb (u : Nat) (f : Nat → Int32) (c : fs_Cu) : Int32 × fs_Cu := if c.1 < u then (f c.1, c.1 + 1, c.2) else (0, c.1, 1)
theorem p_Cursor_takeByte {R : fs_Rp} {ka : Nat} {c : fs_Cu} {F : List fs_C} {σ : fs_S} (ho : fs_own ((ka, fs_cuo R.1 c) :: F) σ) (hR : (R.1, fs_ro R) ∈ F) (hB : (R.2.1, fs_ia 64 R.2.2.2) ∈ F) (hu : R.2.2.1 ≤ 64) (hc : c.1 ≤ 64) : ∃ σ1, (fs_cv ka 10 (f_Cursor_takeByte ka)).1 σ = some ((fs_tb R.2.2.1 R.2.2.2 c).1, σ1) ∧ fs_own ((ka, fs_cuo R.1 (fs_tb R.2.2.1 R.2.2.2 c).2) :: F) σ1 ∧ fs_st σ σ1 0 0 := by
  have e := own_at ho List.mem_cons_self
  have er := own_at ho (List.mem_cons_of_mem _ hR)
  have eb := own_at ho (List.mem_cons_of_mem _ hB)
  by_cases h : c.1 < R.2.2.1
  · rw [show fs_tb R.2.2.1 R.2.2.2 c = (R.2.2.2 c.1, c.1 + 1, c.2) from if_pos h]
    have o1 := own_up (e1 := fs_cuo R.1 (c.1 + 1, c.2)) ho
    refine ⟨_, r_cv e <| r_b (x_gi e 1 rfl) <| r_b (x_gr e 0 rfl) <| r_b (x_gi er 1 rfl) <| r_p ((Int32.ofNat_lt_ofNat (by omega) (by omega)).mpr h) <| r_b (x_gr e 0 rfl) <| r_b (x_gr er 0 rfl) <| r_b (x_gi e 1 rfl) <| r_b (x_ai (x_lk eb) rfl (by omega) (by decide)) <| r_b (x_gi e 1 rfl) <| r_b (v := ()) (σ1 := fs_su σ ka (fs_cuo R.1 (c.1 + 1, c.2))) ?_ rfl, o1, st_su _ _ _⟩
    rw [ofNat_add1]
    exact x_pi e 1 _ (Nat.le_of_ble_eq_true rfl)
  · rw [show fs_tb R.2.2.1 R.2.2.2 c = (0, c.1, 1) from if_neg h]
    have o1 := own_up (e1 := fs_cuo R.1 (c.1, 1)) ho
    refine ⟨_, r_cv e <| r_b (x_gi e 1 rfl) <| r_b (x_gr e 0 rfl) <| r_b (x_gi er 1 rfl) <| r_n (fun z => ?_) <| r_b (x_pz e 2 (Or.inr rfl) (Nat.le_of_ble_eq_true rfl)) rfl, o1, st_su _ _ _⟩
    exact h ((Int32.ofNat_lt_ofNat (by omega) (by omega)).mp z)
theorem tb_le {u : Nat} {f : Nat → Int32} {c : fs_Cu} (hu : u ≤ 64) (hc : c.1 ≤ 64) : (fs_tb u f c).2.1 ≤ 64 := by
  unfold fs_tb
  split
  · show c.1 + 1 ≤ 64
    omega
  · exact hc
def fs_tl (u : Nat) (f : Nat → Int32) : Nat → Int64 → fs_Cu → Int64 × fs_Cu
  | 0, v, c => (v, c)
  | m + 1, v, c => fs_tl u f m (fs_lshl v 8 ||| (fs_tb u f c).1.toInt64) (fs_tb u f c).2
theorem tl_le {u : Nat} {f : Nat → Int32} (hu : u ≤ 64) : ∀ (m : Nat) (v : Int64) (c : fs_Cu), c.1 ≤ 64 → (fs_tl u f m v c).2.1 ≤ 64
  | 0, _, _, h => h
  | m + 1, v, c, h => tl_le hu m _ _ (tb_le hu h)
theorem tl_loop {R : fs_Rp} {ka n : Nat} {F : List fs_C} (hR : (R.1, fs_ro R) ∈ F) (hB : (R.2.1, fs_ia 64 R.2.2.2) ∈ F) (hu : R.2.2.1 ≤ 64) (hn : n ≤ 100) : ∀ (m fuel i : Nat) (v : Int64) (c : fs_Cu) (σ : fs_S), i + m = n → m < fuel → c.1 ≤ 64 → fs_own ((ka, fs_cuo R.1 c) :: F) σ →
    ∃ σ1, (fs_lp2 fuel (lb_Cursor_takeField_33 ka (Int32.ofNat n)) v (Int32.ofNat i)).1 σ = some ((fs_tl R.2.2.1 R.2.2.2 m v c).1, σ1) ∧ fs_own ((ka, fs_cuo R.1 (fs_tl R.2.2.1 R.2.2.2 m v c).2) :: F) σ1 ∧ fs_st σ σ1 0 0
  | 0, fuel + 1, i, v, c, σ, h, _, _, ho => ⟨σ, r_lp2 <| r_p ((Int32.ofNat_le_ofNat (by omega) (by omega)).mpr (by omega)) rfl, ho, st_rf σ⟩
  | m + 1, fuel + 1, i, v, c, σ, h, hf, hc, ho => by
    have hne : ¬ Int32.ofNat n ≤ Int32.ofNat i := fun z => by
      have := (Int32.ofNat_le_ofNat (by omega) (by omega)).mp z
      omega
    obtain ⟨σ1, w1, w2, w3⟩ := p_Cursor_takeByte ho hR hB hu hc
    obtain ⟨σ2, k1, k2, k3⟩ := tl_loop hR hB hu hn m fuel (i + 1) (fs_lshl v 8 ||| (fs_tb R.2.2.1 R.2.2.2 c).1.toInt64) _ σ1 (by omega) (by omega) (tb_le hu hc) w2
    refine ⟨σ2, r_lp2 <| r_n hne <| r_b w1 <| r_m <| r_m ?_, k2, st_tr w3 k3⟩
    rw [ofNat_add1]
    exact k1
  | _, 0, _, _, _, _, _, h, _, _ => absurd h (Nat.not_lt_zero _)
def fs_tf (u : Nat) (f : Nat → Int32) (x : Int32) (c : fs_Cu) : Int64 × fs_Cu :=
  if x = 0 then (if (fs_tb u f c).1 < 1 then (0, (fs_tb u f c).2.1, 1) else if (fs_tb u f c).1 ≤ 4 then fs_tl u f (fs_tb u f c).1.toNatClampNeg 0 (fs_tb u f c).2 else (0, (fs_tb u f c).2.1, 1)) else fs_tl u f x.toNatClampNeg 0 c
theorem tf_le {u : Nat} {f : Nat → Int32} {x : Int32} {c : fs_Cu} (hu : u ≤ 64) (hc : c.1 ≤ 64) : (fs_tf u f x c).2.1 ≤ 64 := by
  unfold fs_tf
  split
  · split
    · exact tb_le hu hc
    · split
      · exact tl_le hu _ _ _ (tb_le hu hc)
      · exact tb_le hu hc
  · exact tl_le hu _ _ _ hc
set_option maxRecDepth 100000 in
theorem p_Cursor_takeField {R : fs_Rp} {ka n : Nat} {c : fs_Cu} {F : List fs_C} {σ : fs_S} {x : Int32} (ho : fs_own ((ka, fs_cuo R.1 c) :: F) σ) (hR : (R.1, fs_ro R) ∈ F) (hB : (R.2.1, fs_ia 64 R.2.2.2) ∈ F) (hu : R.2.2.1 ≤ 64) (hc : c.1 ≤ 64) (hx : x = Int32.ofNat n) (hn : n ≤ 4) : ∃ σ1, (fs_cv ka 10 (f_Cursor_takeField ka x)).1 σ = some ((fs_tf R.2.2.1 R.2.2.2 x c).1, σ1) ∧ fs_own ((ka, fs_cuo R.1 (fs_tf R.2.2.1 R.2.2.2 x c).2) :: F) σ1 ∧ fs_st σ σ1 0 0 := by
  have e := own_at ho List.mem_cons_self
  have key : ∀ (y : Int32) (d : fs_Cu) (τ : fs_S), y.toNatClampNeg ≤ 4 → y = Int32.ofNat y.toNatClampNeg → d.1 ≤ 64 → fs_own ((ka, fs_cuo R.1 d) :: F) τ → ∃ σ1, (fs_lp2 4096 (lb_Cursor_takeField_33 ka y) 0 0).1 τ = some ((fs_tl R.2.2.1 R.2.2.2 y.toNatClampNeg 0 d).1, σ1) ∧ fs_own ((ka, fs_cuo R.1 (fs_tl R.2.2.1 R.2.2.2 y.toNatClampNeg 0 d).2) :: F) σ1 ∧ fs_st τ σ1 0 0 := by
    intro y d τ h1 h2 h3 h4
    have := tl_loop hR hB hu (n := y.toNatClampNeg) (by omega) y.toNatClampNeg 4096 0 0 d τ (by omega) (by omega) h3 h4
    rw [← h2] at this
    exact this
  by_cases h0 : x = 0
  · obtain ⟨σ1, w1, w2, w3⟩ := p_Cursor_takeByte ho hR hB hu hc
    have e2 := own_at w2 List.mem_cons_self
    have o3 := own_up (e1 := fs_cuo R.1 ((fs_tb R.2.2.1 R.2.2.2 c).2.1, 1)) w2
    by_cases h1 : (fs_tb R.2.2.1 R.2.2.2 c).1 < 1
    · rw [show fs_tf R.2.2.1 R.2.2.2 x c = (0, (fs_tb R.2.2.1 R.2.2.2 c).2.1, 1) by unfold fs_tf; rw [if_pos h0, if_pos h1]]
      exact ⟨_, r_cv e <| r_l <| r_p h0 <| r_b w1 <| r_l <| r_p h1 <| r_b (x_pz e2 2 (Or.inr rfl) (Nat.le_of_ble_eq_true rfl)) rfl, o3, st_tr w3 (st_su _ _ _)⟩
    · by_cases h4 : (fs_tb R.2.2.1 R.2.2.2 c).1 ≤ 4
      · rw [show fs_tf R.2.2.1 R.2.2.2 x c = fs_tl R.2.2.1 R.2.2.2 (fs_tb R.2.2.1 R.2.2.2 c).1.toNatClampNeg 0 (fs_tb R.2.2.1 R.2.2.2 c).2 by unfold fs_tf; rw [if_pos h0, if_neg h1, if_pos h4]]
        have hz : ¬ (fs_tb R.2.2.1 R.2.2.2 c).1 < 0 := by
          rw [Int32.lt_iff_toInt_lt] at h1 ⊢
          have e1 : (1 : Int32).toInt = 1 := rfl
          have e0 : (0 : Int32).toInt = 0 := rfl
          omega
        obtain ⟨σ2, k1, k2, k3⟩ := key _ _ σ1 (i_le (n := 4) h4 (by decide)) (i_toN hz).1 (tb_le hu hc) w2
        exact ⟨σ2, r_cv e <| r_l <| r_p h0 <| r_b w1 <| r_l <| r_n h1 <| r_p h4 k1, k2, st_tr w3 k3⟩
      · rw [show fs_tf R.2.2.1 R.2.2.2 x c = (0, (fs_tb R.2.2.1 R.2.2.2 c).2.1, 1) by unfold fs_tf; rw [if_pos h0, if_neg h1, if_neg h4]]
        exact ⟨_, r_cv e <| r_l <| r_p h0 <| r_b w1 <| r_l <| r_n h1 <| r_n h4 <| r_b (x_pz e2 2 (Or.inr rfl) (Nat.le_of_ble_eq_true rfl)) rfl, o3, st_tr w3 (st_su _ _ _)⟩
  · rw [show fs_tf R.2.2.1 R.2.2.2 x c = fs_tl R.2.2.1 R.2.2.2 x.toNatClampNeg 0 c from if_neg h0]
    have hx2 : x.toNatClampNeg = n := by rw [hx]; exact Int32.toNatClampNeg_ofNat_of_lt (by omega)
    obtain ⟨σ2, k1, k2, k3⟩ := key x c σ (by omega) (by rw [hx2]; exact hx) hc ho
    exact ⟨σ2, r_cv e <| r_l <| r_n h0 k1, k2, k3⟩
