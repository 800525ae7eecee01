/-! Flow -/
def fs_fl (v : Nat → Int32) : fs_E := .inr (8, [.int (v 0), .int (v 1), .int (v 2), .int (v 3), .int (v 4), .int (v 5), .int (v 6), .int (v 7), .int (v 8)])
theorem p_Flow_hasKey {σ : fs_S} {a : Nat} {v : Nat → Int32} (h : σ.1 a = some (fs_fl v)) (x y w : Int32) : (f_Flow_hasKey a x y w).1 σ = some (if v 0 = x ∧ v 1 = y ∧ v 2 = w then 1 else 0, σ) := by
  unfold f_Flow_hasKey
  rw [x_bind, x_gi h 0 rfl]
  by_cases h0 : v 0 = x
  · by_cases h1 : v 1 = y
    · by_cases h2 : v 2 = w <;> simp [h0, h1, h2, x_bind, x_gi h 1 rfl, x_gi h 2 rfl, fs_rz, x_ret]
    · simp [h0, h1, x_bind, x_gi h 1 rfl, fs_rz, x_ret]
  · simp [h0, fs_rz, x_ret]
theorem p_Flow_addPacket {σ : fs_S} {a : Nat} {v : Nat → Int32} (h : σ.1 a = some (fs_fl v)) (x y : Int32) : (f_Flow_addPacket a x y).1 σ = some ((), fs_su σ a (fs_fl (upd (upd (upd v 4 (v 4 + x)) 5 (v 5 + 1)) 6 y))) := by
  unfold f_Flow_addPacket
  simp only [x_bind, x_gi h 4 rfl, Option.bind_some, x_pi h 4 _ (Nat.le_of_ble_eq_true rfl)]
  rw [x_gi (su_at _ _ _) 5 rfl, Option.bind_some, x_pi (su_at _ _ _) 5 _ (Nat.le_of_ble_eq_true rfl), Option.bind_some, x_pi (su_at _ _ _) 6 _ (Nat.le_of_ble_eq_true rfl), Option.bind_some, x_ret, su_su, su_su]
  rfl
theorem p_Flow_reasonToEnd {σ : fs_S} {a : Nat} {v : Nat → Int32} (h : σ.1 a = some (fs_fl v)) (x : Int32) : (f_Flow_reasonToEnd a x).1 σ = some (if x - v 6 < 15 then (if x - v 3 < 60 then 0 else 2) else 1, σ) := by
  unfold f_Flow_reasonToEnd
  simp only [x_bind, x_gi h 6 rfl, Option.bind_some]
  by_cases h0 : x - v 6 < 15
  · by_cases h1 : x - v 3 < 60 <;> simp [h0, h1, x_bind, x_gi h 3 rfl, x_ret]
  · simp [h0, x_ret]
