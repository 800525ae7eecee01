/-! the ledger of an exporter -/
abbrev fs_Lg : Type := Nat × Nat × (Nat → Int32) × (Nat → Int32)
def fs_lgo (G : fs_Lg) : fs_E := .inr (7, [.ref G.2.1, .int (G.2.2.2 1), .int (G.2.2.2 2), .int (G.2.2.2 3), .int (G.2.2.2 4), .int (G.2.2.2 5)])
def fs_gc_ (G : fs_Lg) : List fs_C := [(G.1, fs_lgo G), (G.2.1, fs_za 600 G.2.2.1)]
theorem ix_1 {x y z : Int32} {e p i : Nat} (h1 : x = Int32.ofNat e) (h2 : y = Int32.ofNat p) (h3 : z = Int32.ofNat i) : x * 100 + y + z = Int32.ofNat (e * 100 + p + i) := by
  rw [h1, h2, h3, Int32.ofNat_add, Int32.ofNat_add, Int32.ofNat_mul]
  rfl
def fs_ho (H : Nat → Int32) : Nat → Nat → Int32
  | 0, _ => 0
  | m + 1, a => if H a = 0 then fs_ho H m (a + 1) else 1
theorem ho_loop {G : fs_Lg} {R : fs_Rp} {b n : Nat} {x : Int32} {σ : fs_S} (e : σ.1 G.1 = some (fs_lgo G)) (eh : σ.1 G.2.1 = some (fs_za 600 G.2.2.1)) (er : σ.1 R.1 = some (fs_ro R)) (eb : σ.1 R.2.1 = some (fs_ia 64 R.2.2.2)) (hn : R.2.2.2 5 = Int32.ofNat n) (hx : ∀ i, x + Int32.ofNat i = Int32.ofNat (b + i)) (hb : b + n ≤ 600) : ∀ (m fuel i : Nat), i + m = n → m < fuel →
    (fs_lp1 fuel (lb_Ledger_heardOneOf_15 G.1 R.1 x) (Int32.ofNat i)).1 σ = some (fs_ho G.2.2.1 m (b + i), σ)
  | 0, fuel + 1, i, h, _ => by
    refine r_lp1 <| r_b (p_Report_records er eb) <| r_p ?_ rfl
    rw [hn]
    exact (Int32.ofNat_le_ofNat (by omega) (by omega)).mpr (by omega)
  | m + 1, fuel + 1, i, h, hf => by
    refine r_lp1 <| r_b (p_Report_records er eb) <| r_n (fun z => ?_) <| r_b (x_gr e 0 rfl) <| r_b (x_az eh (hx i) (by omega) (by decide)) <| r_iv (fun _ => r_m ?_) fun _ => rfl
    · rw [hn] at z
      have := (Int32.ofNat_le_ofNat (by omega) (by omega)).mp z
      omega
    · rw [ofNat_add1]
      exact ho_loop e eh er eb hn hx hb m fuel (i + 1) (by omega) (by omega)
  | _, 0, _, _, h => absurd h (Nat.not_lt_zero _)
set_option maxRecDepth 100000 in
theorem p_Ledger_heardOneOf {G : fs_Lg} {R : fs_Rp} {ep p n : Nat} {σ : fs_S} (e : σ.1 G.1 = some (fs_lgo G)) (eh : σ.1 G.2.1 = some (fs_za 600 G.2.2.1)) (er : σ.1 R.1 = some (fs_ro R)) (eb : σ.1 R.2.1 = some (fs_ia 64 R.2.2.2)) (hn : R.2.2.2 5 = Int32.ofNat n) (h1 : R.2.2.2 1 = Int32.ofNat ep) (h6 : R.2.2.2 6 = Int32.ofNat p) (he : ep ≤ 5) (hp : p + n ≤ 100) :
    (fs_cv G.1 7 (f_Ledger_heardOneOf G.1 R.1)).1 σ = some (fs_ho G.2.2.1 n (ep * 100 + p), σ) :=
  r_cv e <| r_b (p_Report_epoch er eb) <| r_b (p_Report_firstPlace er eb) <| r_m <| ho_loop (b := ep * 100 + p) e eh er eb hn (fun i => ix_1 h1 h6 rfl) (by omega) n 4096 0 (by omega) (by omega)
def fs_mh : Nat → Nat → (Nat → Int32) → Nat → Int32
  | 0, _, H => H
  | m + 1, a, H => fs_mh m (a + 1) (upd H a 1)
theorem mh_loop {ga ha : Nat} {q : Nat → Int32} {R : fs_Rp} {b n : Nat} {x : Int32} {F : List fs_C} (hR : (R.1, fs_ro R) ∈ F) (hB : (R.2.1, fs_ia 64 R.2.2.2) ∈ F) (hn : R.2.2.2 5 = Int32.ofNat n) (hx : ∀ i, x + Int32.ofNat i = Int32.ofNat (b + i)) (hb : b + n ≤ 600) : ∀ (m fuel i : Nat) (H : Nat → Int32) (σ : fs_S), i + m = n → m < fuel → fs_own (fs_gc_ (ga, ha, H, q) ++ F) σ →
    ∃ σ1, (fs_lp1 fuel (lb_Ledger_markHeard_15 ga R.1 x) (Int32.ofNat i)).1 σ = some ((), σ1) ∧ fs_own (fs_gc_ (ga, ha, fs_mh m (b + i) H, q) ++ F) σ1 ∧ fs_st σ σ1 0 0
  | 0, fuel + 1, i, H, σ, h, _, ho => by
    have er := own_at ho (List.mem_append_right _ hR)
    have eb := own_at ho (List.mem_append_right _ hB)
    refine ⟨σ, r_lp1 <| r_b (p_Report_records er eb) <| r_p ?_ rfl, ho, st_rf σ⟩
    rw [hn]
    exact (Int32.ofNat_le_ofNat (by omega) (by omega)).mpr (by omega)
  | m + 1, fuel + 1, i, H, σ, h, hf, ho => by
    have er := own_at ho (List.mem_append_right _ hR)
    have eb := own_at ho (List.mem_append_right _ hB)
    have e := own_at ho List.mem_cons_self
    have eh := own_at ho (List.mem_cons_of_mem _ List.mem_cons_self)
    have o1 := own_perm (own_up (e1 := fs_za 600 (upd H (b + i) 1)) (own_perm ho (List.Perm.swap _ _ _))) (List.Perm.swap _ _ _)
    obtain ⟨σ2, k1, k2, k3⟩ := mh_loop (ga := ga) (ha := ha) (q := q) hR hB hn hx hb m fuel (i + 1) (upd H (b + i) 1) _ (by omega) (by omega) o1
    refine ⟨σ2, r_lp1 <| r_b (p_Report_records er eb) <| r_n (fun z => ?_) <| r_b (x_gr e 0 rfl) <| r_b (x_sz eh (Or.inr rfl) (hx i) (by omega) (by decide)) <| r_m ?_, k2, st_tr (st_su _ _ _) k3⟩
    · rw [hn] at z
      have := (Int32.ofNat_le_ofNat (by omega) (by omega)).mp z
      omega
    · rw [ofNat_add1]
      exact k1
  | _, 0, _, _, _, _, h, _ => absurd h (Nat.not_lt_zero _)
set_option maxRecDepth 100000 in
theorem p_Ledger_markHeard {G : fs_Lg} {R : fs_Rp} {ep p n : Nat} {F : List fs_C} {σ : fs_S} (ho : fs_own (fs_gc_ G ++ F) σ) (hR : (R.1, fs_ro R) ∈ F) (hB : (R.2.1, fs_ia 64 R.2.2.2) ∈ F) (hn : R.2.2.2 5 = Int32.ofNat n) (h1 : R.2.2.2 1 = Int32.ofNat ep) (h6 : R.2.2.2 6 = Int32.ofNat p) (he : ep ≤ 5) (hp : p + n ≤ 100) :
    ∃ σ1, (fs_cv G.1 7 (f_Ledger_markHeard G.1 R.1)).1 σ = some ((), σ1) ∧ fs_own (fs_gc_ (G.1, G.2.1, fs_mh n (ep * 100 + p) G.2.2.1, G.2.2.2) ++ F) σ1 ∧ fs_st σ σ1 0 0 := by
  have er := own_at ho (List.mem_append_right _ hR)
  have eb := own_at ho (List.mem_append_right _ hB)
  have e := own_at ho List.mem_cons_self
  obtain ⟨σ2, k1, k2, k3⟩ := mh_loop (ga := G.1) (ha := G.2.1) (q := G.2.2.2) (b := ep * 100 + p) (x := R.2.2.2 1 * 100 + R.2.2.2 6) hR hB hn (fun i => ix_1 h1 h6 rfl) (by omega) n 4096 0 G.2.2.1 σ (by omega) (by omega) ho
  exact ⟨σ2, r_cv e <| r_b (p_Report_epoch er eb) <| r_b (p_Report_firstPlace er eb) <| r_m k1, k2, k3⟩
def fs_ns (q f : Nat → Int32) : Nat → Int32 := if q 3 = 0 ∨ q 4 < f 1 ∨ f 1 = q 4 ∧ ¬ f 3 ≤ q 5 then upd (upd (upd q 3 (f 4)) 4 (f 1)) 5 (f 3) else q
theorem p_Ledger_noteSampler {G : fs_Lg} {R : fs_Rp} {F : List fs_C} {σ : fs_S} (ho : fs_own (fs_gc_ G ++ F) σ) (hR : (R.1, fs_ro R) ∈ F) (hB : (R.2.1, fs_ia 64 R.2.2.2) ∈ F) :
    ∃ σ1, (fs_cv G.1 7 (f_Ledger_noteSampler G.1 R.1)).1 σ = some ((), σ1) ∧ fs_own (fs_gc_ (G.1, G.2.1, G.2.2.1, fs_ns G.2.2.2 R.2.2.2) ++ F) σ1 ∧ fs_st σ σ1 0 0 := by
  obtain ⟨ga, ha, H, q⟩ := G
  have er := own_at ho (List.mem_append_right _ hR)
  have eb := own_at ho (List.mem_append_right _ hB)
  have e := own_at ho List.mem_cons_self
  have o1 := own_up (e1 := fs_lgo (ga, ha, H, upd q 3 (R.2.2.2 4))) ho
  have e1 := own_at o1 List.mem_cons_self
  have er1 := own_at o1 (List.mem_append_right (_ :: [_]) hR)
  have eb1 := own_at o1 (List.mem_append_right (_ :: [_]) hB)
  have o2 := own_up (e1 := fs_lgo (ga, ha, H, upd (upd q 3 (R.2.2.2 4)) 4 (R.2.2.2 1))) o1
  have e2 := own_at o2 List.mem_cons_self
  have er2 := own_at o2 (List.mem_append_right (_ :: [_]) hR)
  have eb2 := own_at o2 (List.mem_append_right (_ :: [_]) hB)
  have o3 := own_up (e1 := fs_lgo (ga, ha, H, upd (upd (upd q 3 (R.2.2.2 4)) 4 (R.2.2.2 1)) 5 (R.2.2.2 3))) o2
  have key : ∃ σ1, (fs_bind (fs_cv R.1 9 (f_Report_samplerN R.1)) fun v10 => fs_bind (fs_pi ga 7 3 v10) fun _ => fs_bind (fs_cv R.1 9 (f_Report_epoch R.1)) fun v11 => fs_bind (fs_pi ga 7 4 v11) fun _ => fs_bind (fs_cv R.1 9 (f_Report_samplersBefore R.1)) fun v12 => fs_bind (fs_pi ga 7 5 v12) fun _ => fs_ret ()).1 σ = some ((), σ1) ∧ fs_own (fs_gc_ (ga, ha, H, upd (upd (upd q 3 (R.2.2.2 4)) 4 (R.2.2.2 1)) 5 (R.2.2.2 3)) ++ F) σ1 ∧ fs_st σ σ1 0 0 :=
    ⟨_, r_b (p_Report_samplerN er eb) <| r_b (x_pi e 3 _ (Nat.le_of_ble_eq_true rfl)) <| r_b (p_Report_epoch er1 eb1) <| r_b (x_pi e1 4 _ (Nat.le_of_ble_eq_true rfl)) <| r_b (p_Report_samplersBefore er2 eb2) <| r_b (x_pi e2 5 _ (Nat.le_of_ble_eq_true rfl)) rfl, o3, st_tr (st_su _ _ _) (st_tr (st_su _ _ _) (st_su _ _ _))⟩
  obtain ⟨σ1, k1, k2, k3⟩ := key
  by_cases h0 : q 3 = 0
  · rw [show fs_ns q R.2.2.2 = upd (upd (upd q 3 (R.2.2.2 4)) 4 (R.2.2.2 1)) 5 (R.2.2.2 3) from if_pos (Or.inl h0)]
    refine ⟨σ1, r_cv e <| r_b (x_gi e 3 rfl) <| r_l <| r_p h0 <| r_b (p_Report_epoch er eb) <| r_b (x_gi e 4 rfl) <| r_l <| r_l ?_, k2, k3⟩
    by_cases h1 : q 4 < R.2.2.2 1
    · exact r_p h1 <| r_l <| r_n (by decide) k1
    · refine r_n h1 <| r_b (p_Report_epoch er eb) <| r_b (x_gi e 4 rfl) <| r_l ?_
      by_cases h2 : R.2.2.2 1 = q 4
      · refine r_p h2 <| r_b (p_Report_samplersBefore er eb) <| r_b (x_gi e 5 rfl) ?_
        by_cases h3 : R.2.2.2 3 ≤ q 5
        · exact r_p h3 <| r_l <| r_n (by decide) k1
        · exact r_n h3 <| r_l <| r_n (by decide) k1
      · exact r_n h2 <| r_l <| r_n (by decide) k1
  · by_cases h1 : q 4 < R.2.2.2 1
    · rw [show fs_ns q R.2.2.2 = upd (upd (upd q 3 (R.2.2.2 4)) 4 (R.2.2.2 1)) 5 (R.2.2.2 3) from if_pos (Or.inr (Or.inl h1))]
      exact ⟨σ1, r_cv e <| r_b (x_gi e 3 rfl) <| r_l <| r_n h0 <| r_b (p_Report_epoch er eb) <| r_b (x_gi e 4 rfl) <| r_l <| r_l <| r_p h1 <| r_l <| r_p rfl <| r_n (by decide) k1, k2, k3⟩
    · by_cases h2 : R.2.2.2 1 = q 4
      · by_cases h3 : R.2.2.2 3 ≤ q 5
        · rw [show fs_ns q R.2.2.2 = q from if_neg (fun z => z.elim h0 (fun z => z.elim h1 (fun z => z.2 h3)))]
          exact ⟨σ, r_cv e <| r_b (x_gi e 3 rfl) <| r_l <| r_n h0 <| r_b (p_Report_epoch er eb) <| r_b (x_gi e 4 rfl) <| r_l <| r_l <| r_n h1 <| r_b (p_Report_epoch er eb) <| r_b (x_gi e 4 rfl) <| r_l <| r_p h2 <| r_b (p_Report_samplersBefore er eb) <| r_b (x_gi e 5 rfl) <| r_p h3 <| r_l <| r_p rfl <| r_p rfl rfl, ho, st_rf σ⟩
        · rw [show fs_ns q R.2.2.2 = upd (upd (upd q 3 (R.2.2.2 4)) 4 (R.2.2.2 1)) 5 (R.2.2.2 3) from if_pos (Or.inr (Or.inr ⟨h2, h3⟩))]
          exact ⟨σ1, r_cv e <| r_b (x_gi e 3 rfl) <| r_l <| r_n h0 <| r_b (p_Report_epoch er eb) <| r_b (x_gi e 4 rfl) <| r_l <| r_l <| r_n h1 <| r_b (p_Report_epoch er eb) <| r_b (x_gi e 4 rfl) <| r_l <| r_p h2 <| r_b (p_Report_samplersBefore er eb) <| r_b (x_gi e 5 rfl) <| r_n h3 <| r_l <| r_p rfl <| r_n (by decide) k1, k2, k3⟩
      · rw [show fs_ns q R.2.2.2 = q from if_neg (fun z => z.elim h0 (fun z => z.elim h1 (fun z => h2 z.1)))]
        exact ⟨σ, r_cv e <| r_b (x_gi e 3 rfl) <| r_l <| r_n h0 <| r_b (p_Report_epoch er eb) <| r_b (x_gi e 4 rfl) <| r_l <| r_l <| r_n h1 <| r_b (p_Report_epoch er eb) <| r_b (x_gi e 4 rfl) <| r_l <| r_n h2 <| r_l <| r_p rfl <| r_p rfl rfl, ho, st_rf σ⟩
/-- records lost -/
def fs_ls1 (H : Nat → Int32) (b : Nat) : Nat → Nat → Int32 → Int32 → Int32 → Int32
  | 0, _, x, _, _ => x
  | m + 1, i, x, y, z => if H (b + i) = 0 then (if z = 0 then fs_ls1 H b m (i + 1) x y z else fs_ls1 H b m (i + 1) x (y + 1) z) else fs_ls1 H b m (i + 1) (x + y) 0 1
theorem l1_loop {G : fs_Lg} {ep : Nat} {σ : fs_S} (e : σ.1 G.1 = some (fs_lgo G)) (eh : σ.1 G.2.1 = some (fs_za 600 G.2.2.1)) (he : ep ≤ 5) : ∀ (m fuel i : Nat) (x y z : Int32), i + m = 100 → m < fuel →
    (fs_lp4 fuel (lb_Ledger_lostInEpoch_10 G.1 (Int32.ofNat ep)) x y z (Int32.ofNat i)).1 σ = some (fs_ls1 G.2.2.1 (ep * 100) m i x y z, σ)
  | 0, fuel + 1, i, x, y, z, h, _ => r_lp4 <| r_p ((Int32.ofNat_le_ofNat (k := 100) (by omega) (by omega)).mpr (by omega)) rfl
  | m + 1, fuel + 1, i, x, y, z, h, hf => by
    have hne : ¬ (100 : Int32) ≤ Int32.ofNat i := fun z => by
      have := (Int32.ofNat_le_ofNat (k := 100) (by omega) (by omega)).mp z
      omega
    have hx : Int32.ofNat ep * 100 + Int32.ofNat i = Int32.ofNat (ep * 100 + i) := by
      rw [Int32.ofNat_add, Int32.ofNat_mul]
      rfl
    refine r_lp4 <| r_n hne <| r_b (x_gr e 0 rfl) <| r_b (x_az eh hx (by omega) (by decide)) <| r_l <| r_iv (fun _ => r_iv (fun _ => r_m ?_) fun _ => r_m <| r_m ?_) fun _ => r_m <| r_m ?_
    · rw [ofNat_add1]
      exact l1_loop e eh he m fuel (i + 1) x y z (by omega) (by omega)
    · rw [ofNat_add1]
      exact l1_loop e eh he m fuel (i + 1) x (y + 1) z (by omega) (by omega)
    · rw [ofNat_add1]
      exact l1_loop e eh he m fuel (i + 1) (x + y) 0 1 (by omega) (by omega)
  | _, 0, _, _, _, _, _, h => absurd h (Nat.not_lt_zero _)
def fs_ls2 (H : Nat → Int32) : Int32 := 0 + fs_ls1 H 0 100 0 0 0 0 + fs_ls1 H 100 100 0 0 0 0 + fs_ls1 H 200 100 0 0 0 0 + fs_ls1 H 300 100 0 0 0 0 + fs_ls1 H 400 100 0 0 0 0 + fs_ls1 H 500 100 0 0 0 0
set_option maxRecDepth 100000 in
theorem p_Ledger_lostRecords {G : fs_Lg} {σ : fs_S} (e : σ.1 G.1 = some (fs_lgo G)) (eh : σ.1 G.2.1 = some (fs_za 600 G.2.2.1)) : (fs_cv G.1 7 (f_Ledger_lostRecords G.1)).1 σ = some (fs_ls2 G.2.2.1, σ) := by
  have one : ∀ ep : Nat, ep ≤ 5 → (fs_cv G.1 7 (f_Ledger_lostInEpoch G.1 (Int32.ofNat ep))).1 σ = some (fs_ls1 G.2.2.1 (ep * 100) 100 0 0 0 0, σ) := fun ep he => r_cv e (l1_loop e eh he 100 4096 0 0 0 0 rfl (by decide))
  exact r_cv e <| r_lp2 <| r_n (by decide) <| r_b (one 0 (by decide)) <| r_m <| r_m <| r_lp2 <| r_n (by decide) <| r_b (one 1 (by decide)) <| r_m <| r_m <| r_lp2 <| r_n (by decide) <| r_b (one 2 (by decide)) <| r_m <| r_m <| r_lp2 <| r_n (by decide) <| r_b (one 3 (by decide)) <| r_m <| r_m <| r_lp2 <| r_n (by decide) <| r_b (one 4 (by decide)) <| r_m <| r_m <| r_lp2 <| r_n (by decide) <| r_b (one 5 (by decide)) <| r_m <| r_m <| r_lp2 <| r_p (by decide) rfl
