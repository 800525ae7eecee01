/-! a report read -/
theorem p_Report_exporter {R : fs_Rp} {σ : fs_S} (e : σ.1 R.1 = some (fs_ro R)) (eb : σ.1 R.2.1 = some (fs_ia 64 R.2.2.2)) : (fs_cv R.1 9 (f_Report_exporter R.1)).1 σ = some (R.2.2.2 0, σ) := r_cv e (r_b (x_gr e 0 rfl) (r_b (x_ai (x_lk eb) (j := 0) rfl (by decide) (by decide)) rfl))
theorem p_Report_epoch {R : fs_Rp} {σ : fs_S} (e : σ.1 R.1 = some (fs_ro R)) (eb : σ.1 R.2.1 = some (fs_ia 64 R.2.2.2)) : (fs_cv R.1 9 (f_Report_epoch R.1)).1 σ = some (R.2.2.2 1, σ) := r_cv e (r_b (x_gr e 0 rfl) (r_b (x_ai (x_lk eb) (j := 1) rfl (by decide) (by decide)) rfl))
theorem p_Report_kind {R : fs_Rp} {σ : fs_S} (e : σ.1 R.1 = some (fs_ro R)) (eb : σ.1 R.2.1 = some (fs_ia 64 R.2.2.2)) : (fs_cv R.1 9 (f_Report_kind R.1)).1 σ = some (R.2.2.2 2, σ) := r_cv e (r_b (x_gr e 0 rfl) (r_b (x_ai (x_lk eb) (j := 2) rfl (by decide) (by decide)) rfl))
theorem p_Report_templateFields {R : fs_Rp} {σ : fs_S} (e : σ.1 R.1 = some (fs_ro R)) (eb : σ.1 R.2.1 = some (fs_ia 64 R.2.2.2)) : (fs_cv R.1 9 (f_Report_templateFields R.1)).1 σ = some (R.2.2.2 5, σ) := r_cv e (r_b (x_gr e 0 rfl) (r_b (x_ai (x_lk eb) (j := 5) rfl (by decide) (by decide)) rfl))
theorem p_Report_records {R : fs_Rp} {σ : fs_S} (e : σ.1 R.1 = some (fs_ro R)) (eb : σ.1 R.2.1 = some (fs_ia 64 R.2.2.2)) : (fs_cv R.1 9 (f_Report_records R.1)).1 σ = some (R.2.2.2 5, σ) := r_cv e (r_b (x_gr e 0 rfl) (r_b (x_ai (x_lk eb) (j := 5) rfl (by decide) (by decide)) rfl))
theorem p_Report_firstPlace {R : fs_Rp} {σ : fs_S} (e : σ.1 R.1 = some (fs_ro R)) (eb : σ.1 R.2.1 = some (fs_ia 64 R.2.2.2)) : (fs_cv R.1 9 (f_Report_firstPlace R.1)).1 σ = some (R.2.2.2 6, σ) := r_cv e (r_b (x_gr e 0 rfl) (r_b (x_ai (x_lk eb) (j := 6) rfl (by decide) (by decide)) rfl))
theorem p_Report_samplersBefore {R : fs_Rp} {σ : fs_S} (e : σ.1 R.1 = some (fs_ro R)) (eb : σ.1 R.2.1 = some (fs_ia 64 R.2.2.2)) : (fs_cv R.1 9 (f_Report_samplersBefore R.1)).1 σ = some (R.2.2.2 3, σ) := r_cv e (r_b (x_gr e 0 rfl) (r_b (x_ai (x_lk eb) (j := 3) rfl (by decide) (by decide)) rfl))
theorem p_Report_samplerN {R : fs_Rp} {σ : fs_S} (e : σ.1 R.1 = some (fs_ro R)) (eb : σ.1 R.2.1 = some (fs_ia 64 R.2.2.2)) : (fs_cv R.1 9 (f_Report_samplerN R.1)).1 σ = some (R.2.2.2 4, σ) := r_cv e (r_b (x_gr e 0 rfl) (r_b (x_ai (x_lk eb) (j := 4) rfl (by decide) (by decide)) rfl))
theorem p_Report_namesNoTemplate {R : fs_Rp} {σ : fs_S} (e : σ.1 R.1 = some (fs_ro R)) (eb : σ.1 R.2.1 = some (fs_ia 64 R.2.2.2)) : (fs_cv R.1 9 (f_Report_namesNoTemplate R.1)).1 σ = some (if 3 ≤ R.2.2.2 3 then 1 else if R.2.2.2 4 = 0 then 1 else 0, σ) := by
  refine r_cv e (r_b (x_gr e 0 rfl) (r_b (x_ai (x_lk eb) (j := 3) rfl (by decide) (by decide)) ?_))
  by_cases h : 3 ≤ R.2.2.2 3
  · rw [show (if 3 ≤ R.2.2.2 3 then (1 : Int32) else if R.2.2.2 4 = 0 then 1 else 0) = 1 from if_pos h]
    exact r_p h rfl
  · rw [show (if 3 ≤ R.2.2.2 3 then (1 : Int32) else if R.2.2.2 4 = 0 then 1 else 0) = if R.2.2.2 4 = 0 then 1 else 0 from if_neg h]
    refine r_n h (r_b (x_gr e 0 rfl) (r_b (x_ai (x_lk eb) (j := 4) rfl (by decide) (by decide)) ?_))
    by_cases h4 : R.2.2.2 4 = 0
    · rw [show (if R.2.2.2 4 = 0 then (1 : Int32) else 0) = 1 from if_pos h4]
      exact r_p h4 rfl
    · rw [show (if R.2.2.2 4 = 0 then (1 : Int32) else 0) = 0 from if_neg h4]
      exact r_n h4 rfl
theorem p_Report_templateField {R : fs_Rp} {σ : fs_S} (e : σ.1 R.1 = some (fs_ro R)) (eb : σ.1 R.2.1 = some (fs_ia 64 R.2.2.2)) {i : Nat} (hi : i < 8) : (fs_cv R.1 9 (f_Report_templateField R.1 (Int32.ofNat i))).1 σ = some (R.2.2.2 (6 + 2 * i), σ) := by
  refine r_cv e (r_b (x_gr e 0 rfl) (r_b (x_ai (x_lk eb) (j := 6 + 2 * i) ?_ (by omega) (by decide)) rfl))
  rw [Int32.ofNat_add, Int32.ofNat_mul]
  rfl
theorem p_Report_templateLength {R : fs_Rp} {σ : fs_S} (e : σ.1 R.1 = some (fs_ro R)) (eb : σ.1 R.2.1 = some (fs_ia 64 R.2.2.2)) {i : Nat} (hi : i < 8) : (fs_cv R.1 9 (f_Report_templateLength R.1 (Int32.ofNat i))).1 σ = some (R.2.2.2 (6 + 2 * i + 1), σ) := by
  refine r_cv e (r_b (x_gr e 0 rfl) (r_b (x_ai (x_lk eb) (j := 6 + 2 * i + 1) ?_ (by omega) (by decide)) rfl))
  rw [Int32.ofNat_add, Int32.ofNat_add, Int32.ofNat_mul]
  rfl
