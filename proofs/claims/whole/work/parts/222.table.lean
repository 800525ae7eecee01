/-! the table of rows -/
def fs_LR (al : Nat) (rs : List Nat) (σ : fs_S) : Prop := (fs_cv al 2 (f_ArrayList_size al)).1 σ = some (Int32.ofNat rs.length, σ) ∧ ∀ (j r : Nat) (i : Int32), i = Int32.ofNat j → rs[j]? = some r → (fs_cv al 2 (f_ArrayList_get al i)).1 σ = some (r, σ)
theorem al_rd {c1 al : Nat} {rs : List Nat} {h F : List fs_C} {σ : fs_S} (hA : fs_AL c1 al rs h) (ho : fs_own (h ++ F) σ) : fs_LR al rs σ := ⟨p_AL_size hA ho, fun _ _ _ hi hr => p_AL_get hA ho hi hr⟩
def fs_to (la pa oa : Nat) (od pr : Int32) : fs_E := .inr (6, [.ref la, .ref pa, .ref oa, .int od, .int pr])
def fs_wcs (W : List fs_Rw) : List fs_C := (W.map fs_wc).flatten
def fs_TF (c1 ta la pa oa : Nat) (P O : Nat → Int32) (od pr : Int32) (W : List fs_Rw) (h : List fs_C) : Prop := ∃ hl, h = [[(ta, fs_to la pa oa od pr)], hl, [(pa, fs_ia 80 P)], [(oa, fs_ia 80 O)], fs_wcs W].flatten ∧ fs_AL c1 la (W.map Prod.fst) hl
theorem wcs_mem {W : List fs_Rw} {w : fs_Rw} (h : w ∈ W) : (w.1, fs_wo w) ∈ fs_wcs W ∧ (w.2.1, fs_ja 8 w.2.2.2) ∈ fs_wcs W :=
  ⟨List.mem_flatten.mpr ⟨fs_wc w, List.mem_map.mpr ⟨w, h, rfl⟩, List.mem_cons_self⟩, List.mem_flatten.mpr ⟨fs_wc w, List.mem_map.mpr ⟨w, h, rfl⟩, List.mem_cons_of_mem _ List.mem_cons_self⟩⟩
theorem wcs_obj {W : List fs_Rw} {y : Nat} (h : y ∈ W.map Prod.fst) : ∃ c fs, (y, (.inr (c, fs) : fs_E)) ∈ fs_wcs W ∧ c ≠ 2 := by
  obtain ⟨w, hw, rfl⟩ := List.mem_map.mp h
  exact ⟨11, _, (wcs_mem hw).1, by decide⟩
def fs_TR (la : Nat) (W : List fs_Rw) (σ : fs_S) : Prop := fs_LR la (W.map Prod.fst) σ ∧ ∀ w ∈ W, σ.1 w.1 = some (fs_wo w) ∧ σ.1 w.2.1 = some (fs_ja 8 w.2.2.2)
theorem tf_rd {c1 ta la pa oa : Nat} {P O : Nat → Int32} {od pr : Int32} {W : List fs_Rw} {h F : List fs_C} {σ : fs_S} (hX : fs_TF c1 ta la pa oa P O od pr W h) (ho : fs_own (h ++ F) σ) : σ.1 ta = some (fs_to la pa oa od pr) ∧ σ.1 pa = some (fs_ia 80 P) ∧ σ.1 oa = some (fs_ia 80 O) ∧ fs_TR la W σ := by
  obtain ⟨hl, rfl, hA⟩ := hX
  rw [flat5] at ho
  exact ⟨own_c ho 0 rfl List.mem_cons_self, own_c ho 2 rfl List.mem_cons_self, own_c ho 3 rfl List.mem_cons_self, al_rd hA (own_ix _ [1, 0, 2, 3, 4, 5] rfl (by decide) ho), fun w hw => ⟨own_c ho 4 rfl (wcs_mem hw).1, own_c ho 4 rfl (wcs_mem hw).2⟩⟩
theorem p_Table_hasRoomFor {ta la pa oa n : Nat} {od pr : Int32} {W : List fs_Rw} {σ : fs_S} (e : σ.1 ta = some (fs_to la pa oa od pr)) (hW : fs_TR la W σ) (hl : W.length ≤ 80) (hn : n ≤ 60000) : (fs_cv ta 6 (f_Table_hasRoomFor ta (Int32.ofNat n))).1 σ = some (if 80 < W.length + n then 0 else 1, σ) := by
  refine r_cv e <| r_b (x_gr e 0 rfl) <| r_b hW.1.1 ?_
  rw [List.length_map, ← Int32.ofNat_add]
  by_cases h : 80 < W.length + n
  · rw [show (if 80 < W.length + n then (0 : Int32) else 1) = 0 from if_pos h]
    exact r_p ((Int32.ofNat_lt_ofNat (k := 80) (by omega) (by omega)).mpr h) rfl
  · rw [show (if 80 < W.length + n then (0 : Int32) else 1) = 1 from if_neg h]
    exact r_n (fun z => h ((Int32.ofNat_lt_ofNat (k := 80) (by omega) (by omega)).mp z)) rfl
theorem p_Table_addRow {c1 ta la pa oa : Nat} {P O : Nat → Int32} {od pr : Int32} {W : List fs_Rw} {w : fs_Rw} {h F : List fs_C} {σ : fs_S} (hX : fs_TF c1 ta la pa oa P O od pr W h) (ho : fs_own (h ++ (fs_wc w ++ F)) σ) (hc : σ.2.2.1 1 = c1) (hk : ∃ q, σ.2.1 c1 = some (fs_oa 3 0 q)) (hl : W.length < 80) :
    ∃ σ1 h1, (fs_cv ta 6 (f_Table_addRow ta w.1)).1 σ = some ((), σ1) ∧ fs_TF c1 ta la pa oa P O od pr (W ++ [w]) h1 ∧ fs_own (h1 ++ F) σ1 ∧ fs_st σ σ1 1 (10 + 2 * W.length) := by
  obtain ⟨e, -, -, hW⟩ := tf_rd hX ho
  obtain ⟨hl9, rfl, hA⟩ := hX
  rw [flat5] at ho
  have o1 := own_ix _ [1, 0, 2, 3, 4, 5] rfl (by decide) ho
  obtain ⟨σ1, h1, w1, w2, w3, w4⟩ := p_AL_add hA o1 hc hk (r := w.1) (c := 11) (fs := [.int w.2.2.1, .ref w.2.1]) (mem_c (L := [[(ta, fs_to la pa oa od pr)], [(pa, fs_ia 80 P)], [(oa, fs_ia 80 O)], fs_wcs W, fs_wc w ++ F]) 4 rfl (List.mem_append_left _ List.mem_cons_self)) (by decide) (fun y hy => by
    obtain ⟨c, fs, h1', h2⟩ := wcs_obj hy
    exact ⟨c, fs, mem_c (L := [[(ta, fs_to la pa oa od pr)], [(pa, fs_ia 80 P)], [(oa, fs_ia 80 O)], fs_wcs W, fs_wc w ++ F]) 3 rfl h1', h2⟩) (by rw [List.length_map]; omega)
  refine ⟨σ1, _, r_cv e <| r_b (p_Table_hasRoomFor (n := 1) e hW (by omega) (by decide)) <| r_n ?_ <| r_b (x_gr e 0 rfl) <| r_b w1 rfl, ⟨h1, rfl, by rw [List.map_append]; exact w2⟩, ?_, by rw [List.length_map] at w4; exact w4⟩
  · rw [show (if 80 < W.length + 1 then (0 : Int32) else 1) = 1 from if_neg (by omega)]
    decide
  · rw [flat5]
    have e9 : fs_wcs (W ++ [w]) = fs_wcs W ++ fs_wc w := by simp [fs_wcs]
    rw [e9]
    exact own_eq (own_ix [h1, [(ta, fs_to la pa oa od pr)], [(pa, fs_ia 80 P)], [(oa, fs_ia 80 O)], fs_wcs W, fs_wc w ++ F] [1, 0, 2, 3, 4, 5] rfl (by decide) w3) (by simp)
/-- what the fields of one record are, and of all -/
def fs_vf (u : Nat) (f g : Nat → Int32) : Nat → Nat → fs_Cu → (Nat → Int64) → (Nat → Int64) × fs_Cu
  | 0, _, c, w => (w, c)
  | m + 1, i, c, w => fs_vf u f g m (i + 1) (fs_tf u f (g (6 + 2 * i + 1)) c).2 (vp_updL w (g (6 + 2 * i)).toNatClampNeg (fs_tf u f (g (6 + 2 * i + 1)) c).1)
def fs_mr (u : Nat) (f g : Nat → Int32) (nf : Nat) : Nat → fs_Cu → List (Int32 × (Nat → Int64))
  | 0, _ => []
  | m + 1, c => (f 0, (fs_vf u f g nf 0 c (fs_w0 8)).1) :: fs_mr u f g nf m (fs_vf u f g nf 0 c (fs_w0 8)).2
theorem vf_le {u : Nat} {f g : Nat → Int32} (hu : u ≤ 64) : ∀ (m i : Nat) (c : fs_Cu) (w : Nat → Int64), c.1 ≤ 64 → (fs_vf u f g m i c w).2.1 ≤ 64
  | 0, _, _, _, h => h
  | m + 1, i, c, w, h => vf_le hu m _ _ _ (tf_le hu h)
theorem mr_in {R T : fs_Rp} {co wa va ka nf : Nat} {F : List fs_C} {x v2 : Int32} {k12 : Int32 → fs_T Unit} (hR : (R.1, fs_ro R) ∈ F) (hB : (R.2.1, fs_ia 64 R.2.2.2) ∈ F) (hu : R.2.2.1 ≤ 64) (hT : (T.1, fs_ro T) ∈ F) (hD : (T.2.1, fs_ia 64 T.2.2.2) ∈ F) (hg : fs_TG T.2.2.2 nf) : ∀ (m fuel i : Nat) (c : fs_Cu) (w : Nat → Int64) (σ : fs_S), i + m = nf → m < fuel → c.1 ≤ 64 → fs_own ([(ka, fs_cuo R.1 c)] ++ (fs_wc (wa, va, x, w) ++ F)) σ →
    ∃ σ1, (fs_lp1 fuel (lb_Collector_makeRows_37 co T.1 wa v2 k12 ka) (Int32.ofNat i)).1 σ = (fs_bind (fs_gr co 5 2) fun r8 => fs_bind (fs_cv r8 6 (f_Table_addRow r8 wa)) fun _ => fs_nm ((v2 + 1) : Int32) fun v9 => k12 v9).1 σ1 ∧ fs_own ([(ka, fs_cuo R.1 (fs_vf R.2.2.1 R.2.2.2 T.2.2.2 m i c w).2)] ++ (fs_wc (wa, va, x, (fs_vf R.2.2.1 R.2.2.2 T.2.2.2 m i c w).1) ++ F)) σ1 ∧ fs_st σ σ1 0 0
  | 0, fuel + 1, i, c, w, σ, h, _, _, ho => by
    have et := own_at ho (List.mem_append_right _ (List.mem_append_right _ hT))
    have eb := own_at ho (List.mem_append_right _ (List.mem_append_right _ hD))
    have h8 := hg.2.1
    refine ⟨σ, r_lp1 <| r_b (p_Report_templateFields et eb) <| r_p ?_ rfl, ho, st_rf σ⟩
    rw [hg.1]
    exact (Int32.ofNat_le_ofNat (by omega) (by omega)).mpr (by omega)
  | m + 1, fuel + 1, i, c, w, σ, h, hf, hc, ho => by
    have et := own_at ho (List.mem_append_right _ (List.mem_append_right _ hT))
    have eb := own_at ho (List.mem_append_right _ (List.mem_append_right _ hD))
    have ew := own_at ho (List.mem_append_right _ (List.mem_append_left _ (List.mem_cons_self)))
    have h8 := hg.2.1
    obtain ⟨⟨l, hl, el⟩, k, hk, ek⟩ := hg.2.2 i (by omega)
    obtain ⟨σ1, w1, w2, w3⟩ := p_Cursor_takeField (F := fs_wc (wa, va, x, w) ++ F) ho (List.mem_append_right _ hR) (List.mem_append_right _ hB) hu hc el hl
    have o2 := own_ix [[(ka, fs_cuo R.1 (fs_tf R.2.2.1 R.2.2.2 (T.2.2.2 (6 + 2 * i + 1)) c).2)], [(wa, fs_wo (wa, va, x, w))], [(va, fs_ja 8 w)], F] [2, 0, 1, 3] rfl (by decide) (own_eq w2 (by simp [fs_wc]))
    have e2 := own_at o2 List.mem_cons_self
    have o3 := own_ix [[(va, fs_ja 8 (vp_updL w k (fs_tf R.2.2.1 R.2.2.2 (T.2.2.2 (6 + 2 * i + 1)) c).1))], [(ka, fs_cuo R.1 (fs_tf R.2.2.1 R.2.2.2 (T.2.2.2 (6 + 2 * i + 1)) c).2)], [(wa, fs_wo (wa, va, x, w))], F] [1, 2, 0, 3] rfl (by decide) (own_up (e1 := fs_ja 8 (vp_updL w k (fs_tf R.2.2.1 R.2.2.2 (T.2.2.2 (6 + 2 * i + 1)) c).1)) o2)
    obtain ⟨σ2, k1, k2, k3⟩ := mr_in (co := co) (wa := wa) (ka := ka) (va := va) (v2 := v2) (x := x) (k12 := k12) hR hB hu hT hD hg m fuel (i + 1) (fs_tf R.2.2.1 R.2.2.2 (T.2.2.2 (6 + 2 * i + 1)) c).2 (vp_updL w k (fs_tf R.2.2.1 R.2.2.2 (T.2.2.2 (6 + 2 * i + 1)) c).1) _ (by omega) (by omega) (tf_le hu hc) (own_eq o3 (by simp [fs_wc, fs_wo]))
    have es : fs_vf R.2.2.1 R.2.2.2 T.2.2.2 (m + 1) i c w = fs_vf R.2.2.1 R.2.2.2 T.2.2.2 m (i + 1) (fs_tf R.2.2.1 R.2.2.2 (T.2.2.2 (6 + 2 * i + 1)) c).2 (vp_updL w k (fs_tf R.2.2.1 R.2.2.2 (T.2.2.2 (6 + 2 * i + 1)) c).1) := by
      have : (T.2.2.2 (6 + 2 * i)).toNatClampNeg = k := by rw [ek]; exact Int32.toNatClampNeg_ofNat_of_lt (by omega)
      show fs_vf _ _ _ _ _ _ (vp_updL w (T.2.2.2 (6 + 2 * i)).toNatClampNeg _) = _
      rw [this]
    rw [es]
    refine ⟨σ2, r_lp1 <| r_b (p_Report_templateFields et eb) <| r_n (fun z => ?_) <| r_b (x_gr ew 1 rfl) <| r_b (p_Report_templateField et eb (by omega)) <| r_b (p_Report_templateLength et eb (by omega)) <| r_b w1 <| r_b (x_sj e2 ek hk (by decide)) <| r_m ?_, k2, st_tr w3 (st_tr (st_su _ _ _) k3)⟩
    · rw [hg.1] at z
      have := (Int32.ofNat_le_ofNat (by omega) (by omega)).mp z
      omega
    · rw [ofNat_add1]
      exact k1
  | _, 0, _, _, _, _, _, h, _, _ => absurd h (Nat.not_lt_zero _)
def fs_pot (n : Nat) : Nat := n * (n + 20)
theorem pot_s (n : Nat) : fs_pot (n + 1) = fs_pot n + (2 * n + 21) := by
  unfold fs_pot
  simp only [Nat.mul_add, Nat.add_mul]
  omega
theorem pot_m {n m : Nat} (h : n ≤ m) : fs_pot n ≤ fs_pot m := Nat.mul_le_mul h (by omega)
set_option maxRecDepth 100000 in
theorem mr_out {R T : fs_Rp} {c1 co ta la pa oa kn sh l1 l2 ka nf n : Nat} {P O : Nat → Int32} {od pr : Int32} {F : List fs_C} (hC : (co, (.inr (5, [.ref kn, .ref sh, .ref ta, .ref l1, .ref l2]) : fs_E)) ∈ F) (hR : (R.1, fs_ro R) ∈ F) (hB : (R.2.1, fs_ia 64 R.2.2.2) ∈ F) (hu : R.2.2.1 ≤ 64) (hT : (T.1, fs_ro T) ∈ F) (hD : (T.2.1, fs_ia 64 T.2.2.2) ∈ F) (hg : fs_TG T.2.2.2 nf) (hn : R.2.2.2 5 = Int32.ofNat n) (hn1 : n ≤ 1000) : ∀ (m fuel i : Nat) (c : fs_Cu) (W : List fs_Rw) (h : List fs_C) (σ : fs_S), fs_TF c1 ta la pa oa P O od pr W h → i + m = n → m < fuel → c.1 ≤ 64 → W.length + m ≤ 80 → σ.2.2.1 1 = c1 → (∃ q, σ.2.1 c1 = some (fs_oa 3 0 q)) → fs_own ([(ka, fs_cuo R.1 c)] ++ (h ++ F)) σ →
    ∃ σ1 h1 W1, (fs_lp1 fuel (lb_Collector_makeRows_12 co R.1 T.1 ka) (Int32.ofNat i)).1 σ = some ((), σ1) ∧ fs_TF c1 ta la pa oa P O od pr (W ++ W1) h1 ∧ W1.map (fun w => w.2.2) = fs_mr R.2.2.1 R.2.2.2 T.2.2.2 nf m c ∧ fs_own (h1 ++ F) σ1 ∧ fs_st σ σ1 (3 * m) (fs_pot (W.length + m) - fs_pot W.length)
  | 0, fuel + 1, i, c, W, h, σ, hX, hi, _, hc, _, _, _, ho => by
    have er := own_at ho (List.mem_append_right _ (List.mem_append_right _ hR))
    have eb := own_at ho (List.mem_append_right _ (List.mem_append_right _ hB))
    refine ⟨σ, h, [], r_lp1 <| r_b (p_Report_records er eb) <| r_p ?_ rfl, by rw [List.append_nil]; exact hX, rfl, own_drop ho, st_le (st_rf σ) (Nat.zero_le _) (Nat.zero_le _)⟩
    rw [hn]
    exact (Int32.ofNat_le_ofNat (by omega) (by omega)).mpr (by omega)
  | m + 1, fuel + 1, i, c, W, h, σ, hX, hi, hf, hc, hW, hc1, hk1, ho => by
    have er := own_at ho (List.mem_append_right _ (List.mem_append_right _ hR))
    have eb := own_at ho (List.mem_append_right _ (List.mem_append_right _ hB))
    have h8 := hg.2.1
    obtain ⟨σ0, σ1, a1, a2, a3, a4, a5⟩ := p_Row_new ho (R.2.2.2 0)
    have er0 := a2 _ _ (List.mem_append_right _ (List.mem_append_right _ hR))
    have eb0 := a2 _ _ (List.mem_append_right _ (List.mem_append_right _ hB))
    have o2 := own_sw a4
    obtain ⟨σ2, b1, b2, b3⟩ := mr_in (co := co) (wa := σ.2.2.2.1) (ka := ka) (va := σ.2.2.2.1 + 1) (x := R.2.2.2 0) (v2 := Int32.ofNat i) (k12 := fs_lp1 fuel (lb_Collector_makeRows_12 co R.1 T.1 ka)) (List.mem_append_right _ hR) (List.mem_append_right _ hB) hu (List.mem_append_right _ hT) (List.mem_append_right _ hD) hg nf 4096 0 c (fs_w0 8) σ1 (by omega) (by omega) hc o2
    have ec := own_at b2 (List.mem_append_right _ (List.mem_append_right _ (List.mem_append_right _ hC)))
    have o3 := own_ix [[(ka, fs_cuo R.1 (fs_vf R.2.2.1 R.2.2.2 T.2.2.2 nf 0 c (fs_w0 8)).2)], fs_wc (σ.2.2.2.1, σ.2.2.2.1 + 1, R.2.2.2 0, (fs_vf R.2.2.1 R.2.2.2 T.2.2.2 nf 0 c (fs_w0 8)).1), h, F] [2, 1, 0, 3] rfl (by decide) (own_eq b2 (by simp))
    obtain ⟨σ3, h3, d1, d2, d3, d4⟩ := p_Table_addRow (w := (σ.2.2.2.1, σ.2.2.2.1 + 1, R.2.2.2 0, (fs_vf R.2.2.1 R.2.2.2 T.2.2.2 nf 0 c (fs_w0 8)).1)) hX o3 (by rw [b3.2.1, a5.2.1]; exact hc1) (by rw [b3.1, a5.1]; exact hk1) (by omega)
    have s3 := st_tr a5 (st_tr b3 d4)
    obtain ⟨σ4, h4, W4, k1, k2, k3, k4, k5⟩ := mr_out (ka := ka) hC hR hB hu hT hD hg hn hn1 m fuel (i + 1) (fs_vf R.2.2.1 R.2.2.2 T.2.2.2 nf 0 c (fs_w0 8)).2 _ h3 σ3 d2 (by omega) (by omega) (vf_le hu _ _ _ _ hc) (by rw [List.length_append]; simp; omega) (by rw [s3.2.1]; exact hc1) (by rw [s3.1]; exact hk1) (own_sw (own_eq d3 (by simp)))
    refine ⟨σ4, h4, (σ.2.2.2.1, σ.2.2.2.1 + 1, R.2.2.2 0, (fs_vf R.2.2.1 R.2.2.2 T.2.2.2 nf 0 c (fs_w0 8)).1) :: W4, r_lp1 <| r_b (p_Report_records er eb) <| r_n (fun z => ?_) <| r_b a1 <| r_b (p_Report_exporter er0 eb0) <| r_b a3 <| b1.trans <| r_b (x_gr ec 2 rfl) <| r_b d1 <| r_m ?_, by rw [List.append_assoc] at k2; exact k2, ?_, k4, ?_⟩
    · rw [hn] at z
      have := (Int32.ofNat_le_ofNat (by omega) (by omega)).mp z
      omega
    · rw [ofNat_add1]
      exact k1
    · rw [List.map_cons, k3]
      rfl
    · have := st_tr s3 k5
      rw [List.length_append] at this
      have e1 : W.length + [(σ.2.2.2.1, σ.2.2.2.1 + 1, R.2.2.2 0, (fs_vf R.2.2.1 R.2.2.2 T.2.2.2 nf 0 c (fs_w0 8)).1)].length = W.length + 1 := rfl
      rw [e1, show W.length + 1 + m = W.length + (m + 1) by omega] at this
      refine st_le this (by omega) ?_
      have p1 := pot_s W.length
      have p2 : fs_pot (W.length + 1) ≤ fs_pot (W.length + (m + 1)) := pot_m (by omega)
      omega
  | _, 0, _, _, _, _, _, _, _, h, _, _, _, _, _ => absurd h (Nat.not_lt_zero _)
set_option maxRecDepth 100000 in
theorem p_Collector_makeRows {R T : fs_Rp} {c1 co ta la pa oa kn sh l1 l2 nf n : Nat} {P O : Nat → Int32} {od pr : Int32} {W : List fs_Rw} {h F : List fs_C} {σ : fs_S} (hX : fs_TF c1 ta la pa oa P O od pr W h) (hC : (co, (.inr (5, [.ref kn, .ref sh, .ref ta, .ref l1, .ref l2]) : fs_E)) ∈ F) (hR : (R.1, fs_ro R) ∈ F) (hB : (R.2.1, fs_ia 64 R.2.2.2) ∈ F) (hu : R.2.2.1 ≤ 64) (hT : (T.1, fs_ro T) ∈ F) (hD : (T.2.1, fs_ia 64 T.2.2.2) ∈ F) (hg : fs_TG T.2.2.2 nf) (hn : R.2.2.2 5 = Int32.ofNat n) (hn1 : n ≤ 1000) (hW : W.length + n ≤ 80) (hc1 : σ.2.2.1 1 = c1) (hk1 : ∃ q, σ.2.1 c1 = some (fs_oa 3 0 q)) (ho : fs_own (h ++ F) σ) :
    ∃ σ1 h1 W1, (fs_cv co 5 (f_Collector_makeRows co R.1 T.1)).1 σ = some ((), σ1) ∧ fs_TF c1 ta la pa oa P O od pr (W ++ W1) h1 ∧ W1.map (fun w => w.2.2) = fs_mr R.2.2.1 R.2.2.2 T.2.2.2 nf n (7, 0) ∧ fs_own (h1 ++ F) σ1 ∧ fs_st σ σ1 (1 + 3 * n) (3 + (fs_pot (W.length + n) - fs_pot W.length)) := by
  have e := own_at ho (List.mem_append_right _ hC)
  have o1 := own_mk (e := .inr (10, fs_d10)) (w := 3) ho
  have e1 := own_at o1 List.mem_cons_self
  have o2 := own_up (e1 := .inr (10, [.null, .int 7, .int 0])) o1
  have e2 := own_at o2 List.mem_cons_self
  have o3 := own_up (e1 := fs_cuo R.1 (7, 0)) o2
  obtain ⟨σ2, h2, W2, k1, k2, k3, k4, k5⟩ := mr_out hC hR hB hu hT hD hg hn hn1 n 4096 0 (7, 0) W h _ hX (by omega) (by omega) (by decide) hW (by exact hc1) (by exact hk1) o3
  exact ⟨σ2, h2, W2, r_cv e <| r_b (x_mk _ _ _) <| r_b (v := ()) (r_b (x_pi e1 1 _ (Nat.le_of_ble_eq_true rfl)) <| r_b (x_pr e2 0 _ (Nat.le_of_ble_eq_true rfl)) rfl) <| k1, k2, k3, k4, st_le (st_tr (st_sm σ (.inr (10, fs_d10)) 3) (st_tr (st_su _ _ _) (st_tr (st_su _ _ _) k5))) (by omega) (by omega)⟩
