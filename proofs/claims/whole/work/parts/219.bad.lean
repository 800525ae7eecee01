/-! whether a report is bad; its copy -/
theorem r_iv {α : Type} {c : Prop} [Decidable c] {x y : fs_T α} {p q : α} {σ τ : fs_S} (hp : c → x.1 σ = some (p, τ)) (hq : ¬ c → y.1 σ = some (q, τ)) : (if c then x else y).1 σ = some (if c then p else q, τ) := by
  by_cases h : c
  · rw [if_pos h, if_pos h]
    exact hp h
  · rw [if_neg h, if_neg h]
    exact hq h
theorem i_toN {x : Int32} (h : ¬ x < 0) : x = Int32.ofNat x.toNatClampNeg ∧ x.toNatClampNeg < 2 ^ 31 := by
  have h1 : 0 ≤ x.toInt := by
    rw [Int32.lt_iff_toInt_lt, Int32.toInt_zero] at h
    omega
  have h2 := x.toInt_lt
  have h3 : x.toNatClampNeg = x.toInt.toNat := rfl
  have h4 : x.toNatClampNeg < 2 ^ 31 := by omega
  refine ⟨?_, h4⟩
  rw [← Int32.toInt_inj, Int32.toInt_ofNat_of_lt h4]
  omega
theorem i_le {x : Int32} {n : Nat} (h : x ≤ Int32.ofNat n) (hn : n < 2 ^ 31) : x.toNatClampNeg ≤ n := by
  rw [Int32.le_iff_toInt_le, Int32.toInt_ofNat_of_lt hn] at h
  have h3 : x.toNatClampNeg = x.toInt.toNat := rfl
  omega
theorem p_isExporter {σ : fs_S} (x : Int32) : (f_Fs_isExporter x).1 σ = some (if x = 0 then 1 else if x = 1 then 1 else 0, σ) := r_iv (fun _ => rfl) fun _ => r_iv (fun _ => rfl) fun _ => rfl
theorem p_isByte {σ : fs_S} (x : Int32) : (f_Fs_isByte x).1 σ = some (if x < 0 then 0 else if 255 < x then 0 else 1, σ) := r_iv (fun _ => rfl) fun _ => r_iv (fun _ => rfl) fun _ => rfl
def fs_bt (f : Nat → Int32) : Nat → Nat → Int32 → Int32
  | 0, _, _ => 0
  | m + 1, i, sn => if 8 ≤ f (6 + 2 * i) then 1 else if sn &&& (1 <<< (f (6 + 2 * i) &&& 31)) = 0 then (if f (6 + 2 * i + 1) ≤ 4 then fs_bt f m (i + 1) (sn ||| (1 <<< (f (6 + 2 * i) &&& 31))) else 1) else 1
theorem bt_loop {R : fs_Rp} {n : Nat} {σ : fs_S} (e : σ.1 R.1 = some (fs_ro R)) (eb : σ.1 R.2.1 = some (fs_ia 64 R.2.2.2)) (hn : n ≤ 8) : ∀ (m fuel i : Nat) (sn : Int32), i + m = n → m < fuel → (fs_lp2 fuel (lb_Report_isBadTemplate_35 R.1 (Int32.ofNat n)) sn (Int32.ofNat i)).1 σ = some (fs_bt R.2.2.2 m i sn, σ)
  | 0, fuel + 1, i, sn, h, _ => r_lp2 <| r_p ((Int32.ofNat_le_ofNat (by omega) (by omega)).mpr (by omega)) rfl
  | m + 1, fuel + 1, i, sn, h, hf => by
    have hne : ¬ Int32.ofNat n ≤ Int32.ofNat i := fun z => by
      have := (Int32.ofNat_le_ofNat (by omega) (by omega)).mp z
      omega
    refine r_lp2 <| r_n hne <| r_b (p_Report_templateField e eb (by omega)) <| r_iv (fun _ => rfl) fun h1 => r_iv (fun h2 => r_b (p_Report_templateLength e eb (by omega)) <| r_iv (fun h3 => r_m <| r_m ?_) fun _ => rfl) fun _ => rfl
    rw [ofNat_add1]
    exact bt_loop e eb hn m fuel (i + 1) _ (by omega) (by omega)
  | _, 0, _, _, _, h => absurd h (Nat.not_lt_zero _)
def fs_bT (u : Nat) (f : Nat → Int32) : Int32 := if f 5 < 1 then 1 else if 8 < f 5 then 1 else if Int32.ofNat u = 6 + 2 * f 5 then fs_bt f (f 5).toNatClampNeg 0 0 else 1
theorem p_Report_isBadTemplate {R : fs_Rp} {σ : fs_S} (e : σ.1 R.1 = some (fs_ro R)) (eb : σ.1 R.2.1 = some (fs_ia 64 R.2.2.2)) : (fs_cv R.1 9 (f_Report_isBadTemplate R.1)).1 σ = some (fs_bT R.2.2.1 R.2.2.2, σ) := by
  refine r_cv e <| r_b (p_Report_templateFields e eb) <| r_iv (fun _ => rfl) fun h1 => r_iv (fun _ => rfl) fun h2 => r_b (x_gi e 1 rfl) <| r_iv (fun h3 => ?_) fun _ => rfl
  have h0 : ¬ R.2.2.2 5 < 0 := by
    rw [Int32.lt_iff_toInt_lt] at h1 ⊢
    have e1 : (1 : Int32).toInt = 1 := rfl
    have e0 : (0 : Int32).toInt = 0 := rfl
    omega
  have h8 : (R.2.2.2 5).toNatClampNeg ≤ 8 := i_le (n := 8) (Int32.not_lt.mp h2) (by decide)
  have := bt_loop e eb h8 (R.2.2.2 5).toNatClampNeg 4096 0 0 (by omega) (by omega)
  rw [← (i_toN h0).1] at this
  exact this
def fs_bD (u : Nat) (f : Nat → Int32) : Int32 :=
  if (if f 0 = 0 then (1 : Int32) else if f 0 = 1 then 1 else 0) = 0 then 1 else
  if f 1 ≤ 5 then
    (if f 2 = 0 then (if (if 3 ≤ f 3 then (1 : Int32) else if f 4 = 0 then 1 else 0) = 0 then (if fs_bT u f = 0 then 0 else 1) else 1) else
    if f 2 = 1 then (if (if 3 ≤ f 3 then (1 : Int32) else if f 4 = 0 then 1 else 0) = 0 then (if (if Int32.ofNat u < 7 ∨ f 5 = 0 ∨ ¬ f 6 + f 5 ≤ 100 then (1 : Int32) else 0) = 0 then 0 else 1) else 1) else
    if f 2 = 2 then (if Int32.ofNat u = 5 then (if f 4 < 1 then 1 else if f 4 ≤ 9 then 0 else 1) else 1) else 1)
  else 1
theorem p_Report_isBad {R : fs_Rp} {σ : fs_S} (e : σ.1 R.1 = some (fs_ro R)) (eb : σ.1 R.2.1 = some (fs_ia 64 R.2.2.2)) : (fs_cv R.1 9 (f_Report_isBad R.1)).1 σ = some (fs_bD R.2.2.1 R.2.2.2, σ) := by
  refine r_cv e <| r_b (p_Report_exporter e eb) <| r_b (p_isExporter _) <| r_iv (fun _ => rfl) fun _ => r_b (p_Report_epoch e eb) <| r_iv (fun _ => r_b (p_Report_kind e eb) <| r_iv (fun _ => r_b (p_Report_namesNoTemplate e eb) <| r_iv (fun _ => r_b (p_Report_isBadTemplate e eb) <| r_iv (fun _ => rfl) fun _ => rfl) fun _ => rfl) fun _ => r_iv (fun _ => r_b (p_Report_namesNoTemplate e eb) <| r_iv (fun _ => r_b (p_Report_isBadRecords e eb) <| r_iv (fun _ => rfl) fun _ => rfl) fun _ => rfl) fun _ => r_iv (fun _ => r_b (x_gi e 1 rfl) <| r_iv (fun _ => r_b (p_Report_samplerN e eb) <| r_iv (fun _ => rfl) fun _ => r_b (p_Report_samplerN e eb) <| r_iv (fun _ => rfl) fun _ => rfl) fun _ => rfl) fun _ => rfl) fun _ => rfl
/-- a copy -/
def fs_cpy (n : Nat) (R : fs_Rp) : fs_Rp := (n, n + 1, R.2.2.1, R.2.2.2)
theorem p_Report_copy {R : fs_Rp} {F : List fs_C} {σ : fs_S} (ho : fs_own F σ) (hR : (R.1, fs_ro R) ∈ F) (hB : (R.2.1, fs_ia 64 R.2.2.2) ∈ F) : ∃ σ0 σ1, (fs_nw 9 fs_d9).1 σ = some (σ.2.2.2.1, σ0) ∧ (∀ a e, (a, e) ∈ F → σ0.1 a = some e) ∧ (f_Report_init_1 σ.2.2.2.1 R.1).1 σ0 = some ((), σ1) ∧ fs_own (fs_rc (fs_cpy σ.2.2.2.1 R) ++ F) σ1 ∧ fs_st σ σ1 2 66 := by
  have o0 := own_mk (e := .inr (9, fs_d9)) (w := 2) ho
  have e0 := own_at o0 (List.mem_cons_of_mem _ hR)
  have b0 := own_at o0 (List.mem_cons_of_mem _ hB)
  have o1 := own_mk (e := fs_ia 64 R.2.2.2) (w := 64) o0
  have b1 := own_at o1 List.mem_cons_self
  have o1b := own_perm o1 (List.Perm.swap _ _ _)
  have e1 := own_at o1b List.mem_cons_self
  have o2 := own_up (e1 := .inr (9, [.ref (σ.2.2.2.1 + 1), .int 0])) o1b
  have e2 := own_at o2 List.mem_cons_self
  have r2 := own_at o2 (List.mem_cons_of_mem _ (List.mem_cons_of_mem _ hR))
  have o3 := own_up (e1 := fs_ro (fs_cpy σ.2.2.2.1 R)) o2
  have hcl : (f_Arrays_copyOf_2 R.2.1 (Int32.ofNat 64)).1 (fs_sm σ (.inr (9, fs_d9)) 2) = some (σ.2.2.2.1 + 1, fs_sm (fs_sm σ (.inr (9, fs_d9)) 2) (fs_ia 64 R.2.2.2) 64) := by
    refine r_b (x_al (x_lk b0) (by decide)) <| r_p rfl <| r_b (v := σ.2.2.2.1 + 1) (σ1 := fs_sm (fs_sm σ (.inr (9, fs_d9)) 2) (fs_ia 64 R.2.2.2) 64) ?_ <| r_b (v := ()) (σ1 := fs_sm (fs_sm σ (.inr (9, fs_d9)) 2) (fs_ia 64 R.2.2.2) 64) ?_ rfl
    · refine r_b (v := (64, R.2.2.2)) (σ1 := fs_sm σ (.inr (9, fs_d9)) 2) ?_ rfl
      rw [x_rdm, b0]
      rfl
    · show ((fs_m _ _).bind _).map _ = _
      rw [show fs_m (fs_sm (fs_sm σ (.inr (9, fs_d9)) 2) (fs_ia 64 R.2.2.2) 64) (σ.2.2.2.1 + 1) = some (fs_ia 64 R.2.2.2) from b1]
      rfl
  refine ⟨_, fs_su _ σ.2.2.2.1 (fs_ro (fs_cpy σ.2.2.2.1 R)), rfl, fun a e h => own_at o0 (List.mem_cons_of_mem _ h), r_b (x_gr e0 0 rfl) <| r_b (x_gr e0 0 rfl) <| r_b (x_al (x_lk b0) (by decide)) <| r_b hcl <| r_b (x_pr e1 0 _ (Nat.le_of_ble_eq_true rfl)) <| r_b (x_gi r2 1 rfl) <| r_b (x_pi e2 1 _ (Nat.le_of_ble_eq_true rfl)) rfl, own_eq o3 rfl, ⟨rfl, rfl, Nat.le_refl _, Nat.le_refl _⟩⟩
