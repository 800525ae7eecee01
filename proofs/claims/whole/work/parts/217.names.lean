/-! what a report names -/
def fs_sn (f g : Nat → Int32) : Prop := f 0 = g 0 ∧ f 1 = g 1 ∧ f 3 = g 3 ∧ f 4 = g 4
theorem p_Report_isBadRecords {R : fs_Rp} {σ : fs_S} (e : σ.1 R.1 = some (fs_ro R)) (eb : σ.1 R.2.1 = some (fs_ia 64 R.2.2.2)) : (fs_cv R.1 9 (f_Report_isBadRecords R.1)).1 σ = some (if Int32.ofNat R.2.2.1 < 7 ∨ R.2.2.2 5 = 0 ∨ ¬ R.2.2.2 6 + R.2.2.2 5 ≤ 100 then 1 else 0, σ) := by
  refine r_cv e (r_b (x_gi e 1 rfl) ?_)
  by_cases h1 : Int32.ofNat R.2.2.1 < 7
  · rw [show (if Int32.ofNat R.2.2.1 < 7 ∨ R.2.2.2 5 = 0 ∨ ¬ R.2.2.2 6 + R.2.2.2 5 ≤ 100 then (1 : Int32) else 0) = 1 from if_pos (Or.inl h1)]
    exact r_p h1 rfl
  · refine r_n h1 (r_b (p_Report_records e eb) ?_)
    by_cases h2 : R.2.2.2 5 = 0
    · rw [show (if Int32.ofNat R.2.2.1 < 7 ∨ R.2.2.2 5 = 0 ∨ ¬ R.2.2.2 6 + R.2.2.2 5 ≤ 100 then (1 : Int32) else 0) = 1 from if_pos (Or.inr (Or.inl h2))]
      exact r_p h2 rfl
    · refine r_n h2 (r_b (p_Report_firstPlace e eb) (r_b (p_Report_records e eb) ?_))
      by_cases h3 : R.2.2.2 6 + R.2.2.2 5 ≤ 100
      · rw [show (if Int32.ofNat R.2.2.1 < 7 ∨ R.2.2.2 5 = 0 ∨ ¬ R.2.2.2 6 + R.2.2.2 5 ≤ 100 then (1 : Int32) else 0) = 0 from if_neg (fun q => q.elim h1 (fun q => q.elim h2 (fun q => q h3)))]
        exact r_p h3 rfl
      · rw [show (if Int32.ofNat R.2.2.1 < 7 ∨ R.2.2.2 5 = 0 ∨ ¬ R.2.2.2 6 + R.2.2.2 5 ≤ 100 then (1 : Int32) else 0) = 1 from if_pos (Or.inr (Or.inr h3))]
        exact r_n h3 rfl
theorem p_Report_namesSame {R T : fs_Rp} {σ : fs_S} (e : σ.1 R.1 = some (fs_ro R)) (eb : σ.1 R.2.1 = some (fs_ia 64 R.2.2.2)) (d : σ.1 T.1 = some (fs_ro T)) (db : σ.1 T.2.1 = some (fs_ia 64 T.2.2.2)) :
    ((fs_cv R.1 9 (f_Report_namesSameTemplate R.1 T.1)).1 σ = some (1, σ) ∧ fs_sn R.2.2.2 T.2.2.2) ∨ ((fs_cv R.1 9 (f_Report_namesSameTemplate R.1 T.1)).1 σ = some (0, σ) ∧ ¬ fs_sn R.2.2.2 T.2.2.2) := by
  have rd : ∀ j, j < 64 → (fs_ai R.2.1 (Int32.ofNat j)).1 σ = some (R.2.2.2 j, σ) := fun j hj => x_ai (x_lk eb) rfl hj (by decide)
  have td : ∀ j, j < 64 → (fs_ai T.2.1 (Int32.ofNat j)).1 σ = some (T.2.2.2 j, σ) := fun j hj => x_ai (x_lk db) rfl hj (by decide)
  by_cases h0 : R.2.2.2 0 = T.2.2.2 0
  · by_cases h1 : R.2.2.2 1 = T.2.2.2 1
    · by_cases h3 : R.2.2.2 3 = T.2.2.2 3
      · by_cases h4 : R.2.2.2 4 = T.2.2.2 4
        · exact Or.inl ⟨r_cv e (r_b (x_gr e 0 rfl) (r_b (rd 0 (by decide)) (r_b (x_gr d 0 rfl) (r_b (td 0 (by decide)) (r_p h0 (r_b (x_gr e 0 rfl) (r_b (rd 1 (by decide)) (r_b (x_gr d 0 rfl) (r_b (td 1 (by decide)) (r_p h1 (r_b (x_gr e 0 rfl) (r_b (rd 3 (by decide)) (r_b (x_gr d 0 rfl) (r_b (td 3 (by decide)) (r_p h3 (r_b (x_gr e 0 rfl) (r_b (rd 4 (by decide)) (r_b (x_gr d 0 rfl) (r_b (td 4 (by decide)) (r_p h4 rfl)))))))))))))))))))), h0, h1, h3, h4⟩
        · exact Or.inr ⟨r_cv e (r_b (x_gr e 0 rfl) (r_b (rd 0 (by decide)) (r_b (x_gr d 0 rfl) (r_b (td 0 (by decide)) (r_p h0 (r_b (x_gr e 0 rfl) (r_b (rd 1 (by decide)) (r_b (x_gr d 0 rfl) (r_b (td 1 (by decide)) (r_p h1 (r_b (x_gr e 0 rfl) (r_b (rd 3 (by decide)) (r_b (x_gr d 0 rfl) (r_b (td 3 (by decide)) (r_p h3 (r_b (x_gr e 0 rfl) (r_b (rd 4 (by decide)) (r_b (x_gr d 0 rfl) (r_b (td 4 (by decide)) (r_n h4 rfl)))))))))))))))))))), fun q => h4 q.2.2.2⟩
      · exact Or.inr ⟨r_cv e (r_b (x_gr e 0 rfl) (r_b (rd 0 (by decide)) (r_b (x_gr d 0 rfl) (r_b (td 0 (by decide)) (r_p h0 (r_b (x_gr e 0 rfl) (r_b (rd 1 (by decide)) (r_b (x_gr d 0 rfl) (r_b (td 1 (by decide)) (r_p h1 (r_b (x_gr e 0 rfl) (r_b (rd 3 (by decide)) (r_b (x_gr d 0 rfl) (r_b (td 3 (by decide)) (r_n h3 rfl))))))))))))))), fun q => h3 q.2.2.1⟩
    · exact Or.inr ⟨r_cv e (r_b (x_gr e 0 rfl) (r_b (rd 0 (by decide)) (r_b (x_gr d 0 rfl) (r_b (td 0 (by decide)) (r_p h0 (r_b (x_gr e 0 rfl) (r_b (rd 1 (by decide)) (r_b (x_gr d 0 rfl) (r_b (td 1 (by decide)) (r_n h1 rfl)))))))))), fun q => h1 q.2.1⟩
  · exact Or.inr ⟨r_cv e (r_b (x_gr e 0 rfl) (r_b (rd 0 (by decide)) (r_b (x_gr d 0 rfl) (r_b (td 0 (by decide)) (r_n h0 rfl))))), fun q => h0 q.1⟩
