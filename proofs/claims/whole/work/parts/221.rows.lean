/-! records read by a template: whether they can be -/
def fs_TG (g : Nat → Int32) (nf : Nat) : Prop := g 5 = Int32.ofNat nf ∧ nf ≤ 8 ∧ ∀ i, i < nf → (∃ l, l ≤ 4 ∧ g (6 + 2 * i + 1) = Int32.ofNat l) ∧ ∃ k, k < 8 ∧ g (6 + 2 * i) = Int32.ofNat k
def fs_kf (u : Nat) (f g : Nat → Int32) : Nat → Nat → fs_Cu → fs_Cu
  | 0, _, c => c
  | m + 1, i, c => fs_kf u f g m (i + 1) (fs_tf u f (g (6 + 2 * i + 1)) c).2
def fs_kr (u : Nat) (f g : Nat → Int32) (nf : Nat) : Nat → fs_Cu → fs_Cu
  | 0, c => c
  | m + 1, c => fs_kr u f g nf m (fs_kf u f g nf 0 c)
theorem kf_le {u : Nat} {f g : Nat → Int32} (hu : u ≤ 64) : ∀ (m i : Nat) (c : fs_Cu), c.1 ≤ 64 → (fs_kf u f g m i c).1 ≤ 64
  | 0, _, _, h => h
  | m + 1, i, c, h => kf_le hu m _ _ (tf_le hu h)
theorem cr_in {R T : fs_Rp} {ka nf : Nat} {F : List fs_C} {v2 : Int32} {k12 : Int32 → fs_T Int32} (hR : (R.1, fs_ro R) ∈ F) (hB : (R.2.1, fs_ia 64 R.2.2.2) ∈ F) (hu : R.2.2.1 ≤ 64) (hT : (T.1, fs_ro T) ∈ F) (hD : (T.2.1, fs_ia 64 T.2.2.2) ∈ F) (hg : fs_TG T.2.2.2 nf) : ∀ (m fuel i : Nat) (c : fs_Cu) (σ : fs_S), i + m = nf → m < fuel → c.1 ≤ 64 → fs_own ((ka, fs_cuo R.1 c) :: F) σ →
    ∃ σ1, (fs_lp1 fuel (lb_Collector_canRead_24 T.1 v2 k12 ka) (Int32.ofNat i)).1 σ = (k12 (v2 + 1)).1 σ1 ∧ fs_own ((ka, fs_cuo R.1 (fs_kf R.2.2.1 R.2.2.2 T.2.2.2 m i c)) :: F) σ1 ∧ fs_st σ σ1 0 0
  | 0, fuel + 1, i, c, σ, h, _, _, ho => by
    have et := own_at ho (List.mem_cons_of_mem _ hT)
    have eb := own_at ho (List.mem_cons_of_mem _ hD)
    have h8 := hg.2.1
    refine ⟨σ, r_lp1 <| r_b (p_Report_templateFields et eb) <| r_p ?_ rfl, ho, st_rf σ⟩
    rw [hg.1]
    exact (Int32.ofNat_le_ofNat (by omega) (by omega)).mpr (by omega)
  | m + 1, fuel + 1, i, c, σ, h, hf, hc, ho => by
    have et := own_at ho (List.mem_cons_of_mem _ hT)
    have eb := own_at ho (List.mem_cons_of_mem _ hD)
    have h8 := hg.2.1
    obtain ⟨⟨l, hl, el⟩, -⟩ := hg.2.2 i (by omega)
    obtain ⟨σ1, w1, w2, w3⟩ := p_Cursor_takeField ho hR hB hu hc el hl
    obtain ⟨σ2, k1, k2, k3⟩ := cr_in (v2 := v2) (k12 := k12) hR hB hu hT hD hg m fuel (i + 1) _ σ1 (by omega) (by omega) (tf_le hu hc) w2
    refine ⟨σ2, r_lp1 <| r_b (p_Report_templateFields et eb) <| r_n (fun z => ?_) <| r_b (p_Report_templateLength et eb (by omega)) <| r_b w1 <| r_m ?_, k2, st_tr w3 k3⟩
    · rw [hg.1] at z
      have := (Int32.ofNat_le_ofNat (by omega) (by omega)).mp z
      omega
    · rw [ofNat_add1]
      exact k1
  | _, 0, _, _, _, _, h, _, _ => absurd h (Nat.not_lt_zero _)
set_option maxRecDepth 100000 in
theorem cr_out {R T : fs_Rp} {ka nf n : Nat} {F : List fs_C} (hR : (R.1, fs_ro R) ∈ F) (hB : (R.2.1, fs_ia 64 R.2.2.2) ∈ F) (hu : R.2.2.1 ≤ 64) (hT : (T.1, fs_ro T) ∈ F) (hD : (T.2.1, fs_ia 64 T.2.2.2) ∈ F) (hg : fs_TG T.2.2.2 nf) (hn : R.2.2.2 5 = Int32.ofNat n) (hn1 : n ≤ 1000) : ∀ (m fuel i : Nat) (c : fs_Cu) (σ : fs_S), i + m = n → m < fuel → c.1 ≤ 64 → fs_own ((ka, fs_cuo R.1 c) :: F) σ →
    ∃ σ1, (fs_lp1 fuel (lb_Collector_canRead_12 R.1 T.1 ka) (Int32.ofNat i)).1 σ = some (if (fs_kr R.2.2.1 R.2.2.2 T.2.2.2 nf m c).2 = 0 then (if (fs_kr R.2.2.1 R.2.2.2 T.2.2.2 nf m c).1 = R.2.2.1 then 1 else 0) else 0, σ1) ∧ fs_own F σ1 ∧ fs_st σ σ1 0 0
  | 0, fuel + 1, i, c, σ, h, _, hc, ho => by
    have er := own_at ho (List.mem_cons_of_mem _ hR)
    have eb := own_at ho (List.mem_cons_of_mem _ hB)
    have e := own_at ho List.mem_cons_self
    refine ⟨σ, r_lp1 <| r_b (p_Report_records er eb) <| r_p ?_ <| r_b (x_gi e 2 rfl) <| r_iv (fun _ => ?_) fun _ => rfl, own_drop (H := [_]) ho, st_rf σ⟩
    · rw [hn]
      exact (Int32.ofNat_le_ofNat (by omega) (by omega)).mpr (by omega)
    · show _ = some (if c.1 = R.2.2.1 then (1 : Int32) else 0, σ)
      by_cases hq : c.1 = R.2.2.1
      · rw [show (if c.1 = R.2.2.1 then (1 : Int32) else 0) = 1 from if_pos hq]
        exact r_b (v := (1 : Int32)) (σ1 := σ) (r_cv e <| r_b (x_gi e 1 rfl) <| r_b (x_gr e 0 rfl) <| r_b (x_gi er 1 rfl) <| r_p (congrArg Int32.ofNat hq) rfl) <| r_n (by decide) rfl
      · rw [show (if c.1 = R.2.2.1 then (1 : Int32) else 0) = 0 from if_neg hq]
        refine r_b (v := (0 : Int32)) (σ1 := σ) (r_cv e <| r_b (x_gi e 1 rfl) <| r_b (x_gr e 0 rfl) <| r_b (x_gi er 1 rfl) <| r_n (fun z => ?_) rfl) <| r_p (by decide) rfl
        have h1 : (Int32.ofNat c.1).toNatClampNeg = c.1 := Int32.toNatClampNeg_ofNat_of_lt (by omega)
        have h2 : (Int32.ofNat R.2.2.1).toNatClampNeg = R.2.2.1 := Int32.toNatClampNeg_ofNat_of_lt (by omega)
        rw [z, h2] at h1
        exact hq h1.symm
  | m + 1, fuel + 1, i, c, σ, h, hf, hc, ho => by
    have er := own_at ho (List.mem_cons_of_mem _ hR)
    have eb := own_at ho (List.mem_cons_of_mem _ hB)
    have h8 := hg.2.1
    obtain ⟨σ1, w1, w2, w3⟩ := cr_in (v2 := Int32.ofNat i) (k12 := fs_lp1 fuel (lb_Collector_canRead_12 R.1 T.1 ka)) hR hB hu hT hD hg nf 4096 0 c σ (by omega) (by omega) hc ho
    obtain ⟨σ2, k1, k2, k3⟩ := cr_out hR hB hu hT hD hg hn hn1 m fuel (i + 1) _ σ1 (by omega) (by omega) (kf_le hu _ _ _ hc) w2
    refine ⟨σ2, r_lp1 <| r_b (p_Report_records er eb) <| r_n (fun z => ?_) <| w1.trans ?_, k2, st_tr w3 k3⟩
    · rw [hn] at z
      have := (Int32.ofNat_le_ofNat (by omega) (by omega)).mp z
      omega
    · rw [ofNat_add1]
      exact k1
  | _, 0, _, _, _, _, h, _, _ => absurd h (Nat.not_lt_zero _)
def fs_cr (u : Nat) (f g : Nat → Int32) (nf n : Nat) : Bool := decide ((fs_kr u f g nf n (7, 0)).2 = 0 ∧ (fs_kr u f g nf n (7, 0)).1 = u)
set_option maxRecDepth 100000 in
theorem p_Collector_canRead {R T : fs_Rp} {co nf n : Nat} {F : List fs_C} {σ : fs_S} {cf : List Value} (hC : (co, (.inr (5, cf) : fs_E)) ∈ F) (hR : (R.1, fs_ro R) ∈ F) (hB : (R.2.1, fs_ia 64 R.2.2.2) ∈ F) (hu : R.2.2.1 ≤ 64) (hT : (T.1, fs_ro T) ∈ F) (hD : (T.2.1, fs_ia 64 T.2.2.2) ∈ F) (hg : fs_TG T.2.2.2 nf) (hn : R.2.2.2 5 = Int32.ofNat n) (hn1 : n ≤ 1000) (ho : fs_own F σ) :
    ∃ σ1, (fs_cv co 5 (f_Collector_canRead co R.1 T.1)).1 σ = some (if fs_cr R.2.2.1 R.2.2.2 T.2.2.2 nf n = true then 1 else 0, σ1) ∧ fs_own F σ1 ∧ fs_st σ σ1 1 3 := by
  have e := own_at ho hC
  have o1 := own_mk (e := .inr (10, fs_d10)) (w := 3) ho
  have e1 := own_at o1 List.mem_cons_self
  have o2 := own_up (e1 := .inr (10, [.null, .int 7, .int 0])) o1
  have e2 := own_at o2 List.mem_cons_self
  have o3 := own_up (e1 := fs_cuo R.1 (7, 0)) o2
  obtain ⟨σ2, k1, k2, k3⟩ := cr_out hR hB hu hT hD hg hn hn1 n 4096 0 (7, 0) _ (by omega) (by omega) (by decide) o3
  refine ⟨σ2, r_cv e <| r_b (x_mk _ _ _) <| r_b (v := ()) (r_b (x_pi e1 1 _ (Nat.le_of_ble_eq_true rfl)) <| r_b (x_pr e2 0 _ (Nat.le_of_ble_eq_true rfl)) rfl) <| k1.trans ?_, k2, st_tr (st_sm σ _ 3) (st_tr (st_su _ _ _) (st_tr (st_su _ _ _) k3))⟩
  unfold fs_cr
  by_cases h1 : (fs_kr R.2.2.1 R.2.2.2 T.2.2.2 nf n (7, 0)).2 = 0
  · by_cases h2 : (fs_kr R.2.2.1 R.2.2.2 T.2.2.2 nf n (7, 0)).1 = R.2.2.1 <;> simp [h1, h2]
  · simp [h1]
/-! rows -/
abbrev fs_Rw : Type := Nat × Nat × Int32 × (Nat → Int64)
def fs_wo (W : fs_Rw) : fs_E := .inr (11, [.int W.2.2.1, .ref W.2.1])
def fs_wc (W : fs_Rw) : List fs_C := [(W.1, fs_wo W), (W.2.1, fs_ja 8 W.2.2.2)]
def fs_w0 (i : Nat) : Nat → Int64 := fun k => if k < i then -1 else 0
theorem w0_up (i : Nat) : vp_updL (fs_w0 i) i (-1) = fs_w0 (i + 1) := by
  funext k
  unfold vp_updL fs_w0
  by_cases h : k = i
  · rw [if_pos h, if_pos (by omega)]
  · rw [if_neg h]
    by_cases h2 : k < i
    · rw [if_pos h2, if_pos (by omega)]
    · rw [if_neg h2, if_neg (by omega)]
theorem fill_loop {a : Nat} {F : List fs_C} : ∀ (m fuel i : Nat) (σ : fs_S), i + m = 8 → m < fuel → fs_own ((a, fs_ja 8 (fs_w0 i)) :: F) σ →
    ∃ σ1, (fs_lp1 fuel (lb_Arrays_fill_0_6 a (-1) (Int32.ofNat 8)) (Int32.ofNat i)).1 σ = some ((), σ1) ∧ fs_own ((a, fs_ja 8 (fs_w0 8)) :: F) σ1 ∧ fs_st σ σ1 0 0
  | 0, fuel + 1, i, σ, h, _, ho => by
    have : i = 8 := by omega
    subst this
    exact ⟨σ, r_lp1 <| r_p ((Int32.ofNat_le_ofNat (by omega) (by omega)).mpr (by omega)) rfl, ho, st_rf σ⟩
  | m + 1, fuel + 1, i, σ, h, hf, ho => by
    have hne : ¬ Int32.ofNat 8 ≤ Int32.ofNat i := fun z => by
      have := (Int32.ofNat_le_ofNat (by omega) (by omega)).mp z
      omega
    have o1 := own_up (e1 := fs_ja 8 (vp_updL (fs_w0 i) i (-1))) ho
    have o2 := o1
    rw [w0_up] at o2
    obtain ⟨σ2, k1, k2, k3⟩ := fill_loop m fuel (i + 1) _ (by omega) (by omega) o2
    refine ⟨σ2, r_lp1 <| r_n hne <| r_b (x_sj (own_at ho List.mem_cons_self) rfl (by omega) (by decide)) <| r_m ?_, k2, st_tr (st_su _ _ _) k3⟩
    rw [ofNat_add1]
    rw [w0_up]
    exact k1
  | _, 0, _, _, _, h, _ => absurd h (Nat.not_lt_zero _)
set_option maxRecDepth 100000 in
theorem p_Row_new {F : List fs_C} {σ : fs_S} (ho : fs_own F σ) (x : Int32) : ∃ σ0 σ1, (fs_nw 11 fs_d11).1 σ = some (σ.2.2.2.1, σ0) ∧ (∀ a e, (a, e) ∈ F → σ0.1 a = some e) ∧ (f_Row_init σ.2.2.2.1 x).1 σ0 = some ((), σ1) ∧ fs_own (fs_wc (σ.2.2.2.1, σ.2.2.2.1 + 1, x, fs_w0 8) ++ F) σ1 ∧ fs_st σ σ1 2 10 := by
  have o0 := own_mk (e := .inr (11, fs_d11)) (w := 2) ho
  have o1 := own_mk (e := fs_ja 8 fun _ => 0) (w := 8) o0
  have o1b := own_perm o1 (List.Perm.swap _ _ _)
  have e1 := own_at o1b List.mem_cons_self
  have o2 := own_up (e1 := .inr (11, [.int 0, .ref (σ.2.2.2.1 + 1)])) o1b
  have e2 := own_at o2 List.mem_cons_self
  have o3 := own_up (e1 := fs_wo (σ.2.2.2.1, σ.2.2.2.1 + 1, x, fs_w0 8)) o2
  have e3 := own_at o3 List.mem_cons_self
  have o4 := own_perm o3 (List.Perm.swap _ _ _)
  have o4b := own_eq (H1 := (σ.2.2.2.1 + 1, fs_ja 8 (fs_w0 0)) :: (σ.2.2.2.1, fs_wo (σ.2.2.2.1, σ.2.2.2.1 + 1, x, fs_w0 8)) :: F) o4 (by
    have : fs_w0 0 = fun _ => 0 := funext fun k => if_neg (Nat.not_lt_zero k)
    rw [this]
    rfl)
  have e4 := own_at o4b List.mem_cons_self
  obtain ⟨σ5, k1, k2, k3⟩ := fill_loop 8 4096 0 _ rfl (by decide) o4b
  refine ⟨_, σ5, rfl, fun a e h => own_at o0 (List.mem_cons_of_mem _ h), r_b (x_nj (j := 8) rfl (by decide)) <| r_b (x_pr e1 1 _ (Nat.le_of_ble_eq_true rfl)) <| r_b (x_pi e2 0 _ (Nat.le_of_ble_eq_true rfl)) <| r_b (x_gr e3 1 rfl) <| r_b (v := ()) (r_b (x_al (x_lk e4) (by decide)) k1) rfl, own_perm k2 (List.Perm.swap _ _ _), ?_⟩
  exact st_tr (st_sm σ _ 2) (st_tr (st_sm _ _ 8) (st_tr (st_su _ _ _) (st_tr (st_su _ _ _) k3)))
