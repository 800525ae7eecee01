/-! lists of reports -/
def fs_rcs (l : List fs_Rp) : List fs_C := (l.map fs_rc).flatten
def fs_RF (c1 al : Nat) (l : List fs_Rp) (h : List fs_C) : Prop := ∃ hl, h = hl ++ fs_rcs l ∧ fs_AL c1 al (l.map Prod.fst) hl
theorem rcs_mem {l : List fs_Rp} {R : fs_Rp} (h : R ∈ l) : (R.1, fs_ro R) ∈ fs_rcs l ∧ (R.2.1, fs_ia 64 R.2.2.2) ∈ fs_rcs l :=
  ⟨List.mem_flatten.mpr ⟨fs_rc R, List.mem_map.mpr ⟨R, h, rfl⟩, List.mem_cons_self⟩, List.mem_flatten.mpr ⟨fs_rc R, List.mem_map.mpr ⟨R, h, rfl⟩, List.mem_cons_of_mem _ List.mem_cons_self⟩⟩
theorem rcs_obj {l : List fs_Rp} {y : Nat} (h : y ∈ l.map Prod.fst) : ∃ c fs, (y, (.inr (c, fs) : fs_E)) ∈ fs_rcs l ∧ c ≠ 2 := by
  obtain ⟨w, hw, rfl⟩ := List.mem_map.mp h
  exact ⟨9, _, (rcs_mem hw).1, by decide⟩
def fs_RR (al : Nat) (l : List fs_Rp) (σ : fs_S) : Prop := fs_LR al (l.map Prod.fst) σ ∧ ∀ R ∈ l, σ.1 R.1 = some (fs_ro R) ∧ σ.1 R.2.1 = some (fs_ia 64 R.2.2.2)
theorem rf_rd {c1 al : Nat} {l : List fs_Rp} {h F : List fs_C} {σ : fs_S} (hX : fs_RF c1 al l h) (ho : fs_own (h ++ F) σ) : fs_RR al l σ := by
  obtain ⟨hl, rfl, hA⟩ := hX
  have o1 : fs_own (hl ++ (fs_rcs l ++ F)) σ := own_eq ho (List.append_assoc _ _ _)
  exact ⟨al_rd hA o1, fun R hR => ⟨own_at o1 (List.mem_append_right _ (List.mem_append_left _ (rcs_mem hR).1)), own_at o1 (List.mem_append_right _ (List.mem_append_left _ (rcs_mem hR).2))⟩⟩
theorem rf_mem {c1 al : Nat} {l : List fs_Rp} {h : List fs_C} {R : fs_Rp} (hX : fs_RF c1 al l h) (hR : R ∈ l) : (R.1, fs_ro R) ∈ h ∧ (R.2.1, fs_ia 64 R.2.2.2) ∈ h := by
  obtain ⟨hl, rfl, hA⟩ := hX
  exact ⟨List.mem_append_right _ (rcs_mem hR).1, List.mem_append_right _ (rcs_mem hR).2⟩
theorem rr_at {al r : Nat} {l : List fs_Rp} {σ : fs_S} (hW : fs_RR al l σ) (hr : r < l.length) : ∃ R, l[r]? = some R ∧ R ∈ l ∧ (fs_cv al 2 (f_ArrayList_get al (Int32.ofNat r))).1 σ = some (R.1, σ) ∧ σ.1 R.1 = some (fs_ro R) ∧ σ.1 R.2.1 = some (fs_ia 64 R.2.2.2) := by
  have h : l[r]? = some l[r] := List.getElem?_eq_getElem hr
  obtain ⟨h3, h4⟩ := hW.2 _ (List.mem_of_getElem? h)
  exact ⟨l[r], h, List.mem_of_getElem? h, hW.1.2 r _ _ rfl (by rw [List.getElem?_map, h]; rfl), h3, h4⟩
theorem rf_add {c1 al : Nat} {l : List fs_Rp} {R : fs_Rp} {h F : List fs_C} {σ : fs_S} (hX : fs_RF c1 al l h) (ho : fs_own (h ++ (fs_rc R ++ F)) σ) (hc : σ.2.2.1 1 = c1) (hk : ∃ q, σ.2.1 c1 = some (fs_oa 3 0 q)) (hl : l.length < 100) :
    ∃ σ1 h1, (fs_cv al 2 (f_ArrayList_add_0 al R.1)).1 σ = some (1, σ1) ∧ fs_RF c1 al (l ++ [R]) h1 ∧ fs_own (h1 ++ F) σ1 ∧ fs_st σ σ1 1 (10 + 2 * l.length) := by
  obtain ⟨hl9, rfl, hA⟩ := hX
  have o1 : fs_own (hl9 ++ (fs_rcs l ++ (fs_rc R ++ F))) σ := own_eq ho (by simp)
  obtain ⟨σ1, h1, w1, w2, w3, w4⟩ := p_AL_add hA o1 hc hk (r := R.1) (c := 9) (fs := [.ref R.2.1, .int (Int32.ofNat R.2.2.1)]) (List.mem_append_right _ (List.mem_append_left _ List.mem_cons_self)) (by decide) (fun y hy => by
    obtain ⟨c, fs, h1', h2⟩ := rcs_obj hy
    exact ⟨c, fs, List.mem_append_left _ h1', h2⟩) (by rw [List.length_map]; exact hl)
  refine ⟨σ1, _, w1, ⟨h1, rfl, by rw [List.map_append]; exact w2⟩, own_eq w3 (by simp [fs_rcs]), by rw [List.length_map] at w4; exact w4⟩
theorem eras_map2 : ∀ (l : List fs_Rp) (j : Nat), (l.eraseIdx j).map Prod.fst = (l.map Prod.fst).eraseIdx j
  | [], _ => rfl
  | _ :: _, 0 => rfl
  | x :: l, j + 1 => congrArg (x.1 :: ·) (eras_map2 l j)
theorem eras_map3 {α β : Type} (f : α → β) : ∀ (l : List α) (j : Nat), (l.eraseIdx j).map f = (l.map f).eraseIdx j
  | [], _ => rfl
  | _ :: _, 0 => rfl
  | x :: l, j + 1 => congrArg (f x :: ·) (eras_map3 f l j)
theorem rf_rem {c1 al j : Nat} {l : List fs_Rp} {R : fs_Rp} {h F : List fs_C} {σ : fs_S} (hX : fs_RF c1 al l h) (ho : fs_own (h ++ F) σ) (hR : l[j]? = some R) :
    ∃ σ1 h1, (fs_cv al 2 (f_ArrayList_remove al (Int32.ofNat j))).1 σ = some (R.1, σ1) ∧ fs_RF c1 al (l.eraseIdx j) h1 ∧ fs_own (h1 ++ (fs_rc R ++ F)) σ1 ∧ fs_st σ σ1 0 0 := by
  obtain ⟨hl9, rfl, hA⟩ := hX
  have o1 : fs_own (hl9 ++ (fs_rcs l ++ F)) σ := own_eq ho (by simp)
  obtain ⟨σ1, h1, w1, w2, w3, w4⟩ := p_AL_remove hA o1 rfl (by rw [List.getElem?_map, hR]; rfl) (fun y hy => by
    obtain ⟨c, fs, h1', h2⟩ := rcs_obj hy
    exact ⟨c, fs, List.mem_append_left _ h1', h2⟩)
  have hf : (l.map fs_rc)[j]? = some (fs_rc R) := by rw [List.getElem?_map, hR]; rfl
  refine ⟨σ1, _, w1, ⟨h1, rfl, by rw [eras_map2]; exact w2⟩, ?_, w4⟩
  have p1 : (fs_rcs l).Perm (fs_rc R ++ fs_rcs (l.eraseIdx j)) := by
    unfold fs_rcs
    rw [eras_map3]
    exact flat_set hf
  have o2 := own_perm w3 (List.Perm.append_left h1 (List.Perm.append_right F p1))
  exact own_eq (own_ix [h1, fs_rc R, fs_rcs (l.eraseIdx j), F] [0, 2, 1, 3] rfl (by decide) (own_eq o2 (by simp))) (by simp)
/-! the collector reads its lists -/
def fs_ko (A : Nat → Nat) (l1 l2 : Nat) : fs_E := .inr (5, [.ref (A 1), .ref (A 2), .ref (A 3), .ref l1, .ref l2])
def fs_sb (f g : Nat → Int32) : Bool := decide (f 0 = g 0 ∧ f 1 = g 1 ∧ f 3 = g 3 ∧ f 4 = g 4)
theorem p_namesSame {R T : fs_Rp} {σ : fs_S} (e : σ.1 R.1 = some (fs_ro R)) (eb : σ.1 R.2.1 = some (fs_ia 64 R.2.2.2)) (d : σ.1 T.1 = some (fs_ro T)) (db : σ.1 T.2.1 = some (fs_ia 64 T.2.2.2)) : (fs_cv R.1 9 (f_Report_namesSameTemplate R.1 T.1)).1 σ = some (if fs_sb R.2.2.2 T.2.2.2 = true then 1 else 0, σ) := by
  rcases p_Report_namesSame e eb d db with ⟨h1, h2⟩ | ⟨h1, h2⟩
  · rw [show fs_sb R.2.2.2 T.2.2.2 = true from decide_eq_true h2]
    exact h1
  · rw [show fs_sb R.2.2.2 T.2.2.2 = false from decide_eq_false h2]
    exact h1
def fs_kt (g : Nat → Int32) : List fs_Rp → Nat → Option Nat
  | [], _ => none
  | R :: l, i => if fs_sb R.2.2.2 g = true then some i else fs_kt g l (i + 1)
theorem kt_lt {g : Nat → Int32} : ∀ {l : List fs_Rp} {i k : Nat}, fs_kt g l i = some k → i ≤ k ∧ k < i + l.length ∧ ∃ R, l[k - i]? = some R ∧ fs_sb R.2.2.2 g = true
  | [], i, k, h => by cases h
  | R :: l, i, k, h => by
    have es : fs_kt g (R :: l) i = if fs_sb R.2.2.2 g = true then some i else fs_kt g l (i + 1) := rfl
    rw [es] at h
    by_cases hb : fs_sb R.2.2.2 g = true
    · rw [if_pos hb] at h
      cases h
      exact ⟨Nat.le_refl _, by rw [List.length_cons]; omega, R, by rw [Nat.sub_self]; rfl, hb⟩
    · rw [if_neg hb] at h
      obtain ⟨h1, h2, R2, h3, h4⟩ := kt_lt h
      exact ⟨by omega, by rw [List.length_cons]; omega, R2, by rw [show k - i = (k - (i + 1)) + 1 by omega]; exact h3, h4⟩
theorem kt_loop {A : Nat → Nat} {l1 l2 : Nat} {T : fs_Rp} {K : List fs_Rp} {σ : fs_S} (e : σ.1 (A 0) = some (fs_ko A l1 l2)) (hK : fs_RR (A 1) K σ) (d : σ.1 T.1 = some (fs_ro T)) (db : σ.1 T.2.1 = some (fs_ia 64 T.2.2.2)) (hl : K.length < 1000) : ∀ (l : List fs_Rp) (fuel i : Nat), K.drop i = l → i ≤ K.length → l.length < fuel →
    (fs_lp1 fuel (lb_Collector_knownTemplate_2 (A 0) T.1) (Int32.ofNat i)).1 σ = some (fs_o32 (fs_kt T.2.2.2 l i), σ)
  | [], fuel + 1, i, h1, h2, _ => by
    have : K.length ≤ i := List.drop_eq_nil_iff.mp h1
    refine r_lp1 <| r_b (x_gr e 0 rfl) <| r_b hK.1.1 <| r_p ?_ rfl
    rw [List.length_map]
    exact (Int32.ofNat_le_ofNat (by omega) (by omega)).mpr this
  | R :: l, fuel + 1, i, h1, h2, h3 => by
    have hi : i < K.length := by
      have := congrArg List.length h1
      rw [List.length_drop, List.length_cons] at this
      omega
    have hq : K[i]? = some R := by
      have := congrArg (fun z : List fs_Rp => z[0]?) h1
      simpa using this
    have hd : K.drop (i + 1) = l := by
      have := congrArg List.tail h1
      simpa using this
    obtain ⟨R', hR', hm, g1, g2, g3⟩ := rr_at hK hi
    obtain rfl : R = R' := by
      rw [hq] at hR'
      exact Option.some.inj hR'
    have es : fs_kt T.2.2.2 (R :: l) i = if fs_sb R.2.2.2 T.2.2.2 = true then some i else fs_kt T.2.2.2 l (i + 1) := rfl
    refine r_lp1 <| r_b (x_gr e 0 rfl) <| r_b hK.1.1 <| r_n (fun z => ?_) <| r_b (x_gr e 0 rfl) <| r_b g1 <| r_b (x_ck g2) <| r_b (p_namesSame g2 g3 d db) ?_
    · rw [List.length_map] at z
      have := (Int32.ofNat_le_ofNat (by omega) (by omega)).mp z
      omega
    · rw [es]
      cases hb : fs_sb R.2.2.2 T.2.2.2 with
      | true => exact r_n (by decide) rfl
      | false =>
        refine r_p rfl <| r_m ?_
        rw [ofNat_add1]
        exact kt_loop e hK d db hl l fuel (i + 1) hd (by omega) (by simp at h3; omega)
  | _, 0, _, _, _, h => absurd h (Nat.not_lt_zero _)
set_option maxRecDepth 100000 in
theorem p_Collector_knownTemplate {A : Nat → Nat} {l1 l2 : Nat} {T : fs_Rp} {K : List fs_Rp} {σ : fs_S} (e : σ.1 (A 0) = some (fs_ko A l1 l2)) (hK : fs_RR (A 1) K σ) (d : σ.1 T.1 = some (fs_ro T)) (db : σ.1 T.2.1 = some (fs_ia 64 T.2.2.2)) (hl : K.length < 1000) : (fs_cv (A 0) 5 (f_Collector_knownTemplate (A 0) T.1)).1 σ = some (fs_o32 (fs_kt T.2.2.2 K 0), σ) :=
  r_cv e <| kt_loop e hK d db hl K 4096 0 rfl (Nat.zero_le _) (by omega)
/-- records waiting for a template -/
def fs_rw (g : Nat → Int32) : List fs_Rp → Int32 → Int32
  | [], t => t
  | R :: l, t => fs_rw g l (if fs_sb R.2.2.2 g = true then t + R.2.2.2 5 else t)
theorem rw_loop {A : Nat → Nat} {l1 l2 : Nat} {T : fs_Rp} {K : List fs_Rp} {σ : fs_S} (e : σ.1 (A 0) = some (fs_ko A l1 l2)) (hK : fs_RR (A 2) K σ) (d : σ.1 T.1 = some (fs_ro T)) (db : σ.1 T.2.1 = some (fs_ia 64 T.2.2.2)) (hl : K.length < 1000) : ∀ (l : List fs_Rp) (fuel i : Nat) (t : Int32), K.drop i = l → i ≤ K.length → l.length < fuel →
    (fs_lp2 fuel (lb_Collector_recordsWaitingFor_4 (A 0) T.1) t (Int32.ofNat i)).1 σ = some (fs_rw T.2.2.2 l t, σ)
  | [], fuel + 1, i, t, h1, h2, _ => by
    have : K.length ≤ i := List.drop_eq_nil_iff.mp h1
    refine r_lp2 <| r_b (x_gr e 1 rfl) <| r_b hK.1.1 <| r_p ?_ rfl
    rw [List.length_map]
    exact (Int32.ofNat_le_ofNat (by omega) (by omega)).mpr this
  | R :: l, fuel + 1, i, t, h1, h2, h3 => by
    have hi : i < K.length := by
      have := congrArg List.length h1
      rw [List.length_drop, List.length_cons] at this
      omega
    have hq : K[i]? = some R := by
      have := congrArg (fun z : List fs_Rp => z[0]?) h1
      simpa using this
    have hd : K.drop (i + 1) = l := by
      have := congrArg List.tail h1
      simpa using this
    obtain ⟨R', hR', hm, g1, g2, g3⟩ := rr_at hK hi
    obtain rfl : R = R' := by
      rw [hq] at hR'
      exact Option.some.inj hR'
    have es : fs_rw T.2.2.2 (R :: l) t = fs_rw T.2.2.2 l (if fs_sb R.2.2.2 T.2.2.2 = true then t + R.2.2.2 5 else t) := rfl
    refine r_lp2 <| r_b (x_gr e 1 rfl) <| r_b hK.1.1 <| r_n (fun z => ?_) <| r_b (x_gr e 1 rfl) <| r_b g1 <| r_b (x_ck g2) <| r_b (p_namesSame g2 g3 d db) <| r_l ?_
    · rw [List.length_map] at z
      have := (Int32.ofNat_le_ofNat (by omega) (by omega)).mp z
      omega
    · rw [es]
      cases hb : fs_sb R.2.2.2 T.2.2.2 with
      | true =>
        refine r_n (by decide) <| r_b (x_gr e 1 rfl) <| r_b g1 <| r_b (x_ck g2) <| r_b (p_Report_records g2 g3) <| r_m <| r_m ?_
        rw [ofNat_add1]
        exact rw_loop e hK d db hl l fuel (i + 1) _ hd (by omega) (by simp at h3; omega)
      | false =>
        refine r_p rfl <| r_m ?_
        rw [ofNat_add1]
        exact rw_loop e hK d db hl l fuel (i + 1) _ hd (by omega) (by simp at h3; omega)
  | _, 0, _, _, _, _, h => absurd h (Nat.not_lt_zero _)
set_option maxRecDepth 100000 in
theorem p_Collector_recordsWaitingFor {A : Nat → Nat} {l1 l2 : Nat} {T : fs_Rp} {K : List fs_Rp} {σ : fs_S} (e : σ.1 (A 0) = some (fs_ko A l1 l2)) (hK : fs_RR (A 2) K σ) (d : σ.1 T.1 = some (fs_ro T)) (db : σ.1 T.2.1 = some (fs_ia 64 T.2.2.2)) (hl : K.length < 1000) : (fs_cv (A 0) 5 (f_Collector_recordsWaitingFor (A 0) T.1)).1 σ = some (fs_rw T.2.2.2 K 0, σ) :=
  r_cv e <| rw_loop e hK d db hl K 4096 0 0 rfl (Nat.zero_le _) (by omega)
/-- how many of the shelf are an exporter's -/
def fs_wt (x : Int32) : List fs_Rp → Int32 → Int32
  | [], t => t
  | R :: l, t => fs_wt x l (if R.2.2.2 0 = x then t + 1 else t)
theorem wt_loop {A : Nat → Nat} {l1 l2 : Nat} {x : Int32} {K : List fs_Rp} {σ : fs_S} (e : σ.1 (A 0) = some (fs_ko A l1 l2)) (hK : fs_RR (A 2) K σ) (hl : K.length < 1000) : ∀ (l : List fs_Rp) (fuel i : Nat) (t : Int32), K.drop i = l → i ≤ K.length → l.length < fuel →
    (fs_lp2 fuel (lb_Collector_waitingOf_4 (A 0) x) t (Int32.ofNat i)).1 σ = some (fs_wt x l t, σ)
  | [], fuel + 1, i, t, h1, h2, _ => by
    have : K.length ≤ i := List.drop_eq_nil_iff.mp h1
    refine r_lp2 <| r_b (x_gr e 1 rfl) <| r_b hK.1.1 <| r_p ?_ rfl
    rw [List.length_map]
    exact (Int32.ofNat_le_ofNat (by omega) (by omega)).mpr this
  | R :: l, fuel + 1, i, t, h1, h2, h3 => by
    have hi : i < K.length := by
      have := congrArg List.length h1
      rw [List.length_drop, List.length_cons] at this
      omega
    have hq : K[i]? = some R := by
      have := congrArg (fun z : List fs_Rp => z[0]?) h1
      simpa using this
    have hd : K.drop (i + 1) = l := by
      have := congrArg List.tail h1
      simpa using this
    obtain ⟨R', hR', hm, g1, g2, g3⟩ := rr_at hK hi
    obtain rfl : R = R' := by
      rw [hq] at hR'
      exact Option.some.inj hR'
    have es : fs_wt x (R :: l) t = fs_wt x l (if R.2.2.2 0 = x then t + 1 else t) := rfl
    refine r_lp2 <| r_b (x_gr e 1 rfl) <| r_b hK.1.1 <| r_n (fun z => ?_) <| r_b (x_gr e 1 rfl) <| r_b g1 <| r_b (x_ck g2) <| r_b (p_Report_exporter g2 g3) <| r_l ?_
    · rw [List.length_map] at z
      have := (Int32.ofNat_le_ofNat (by omega) (by omega)).mp z
      omega
    · rw [es]
      by_cases hb : R.2.2.2 0 = x
      · rw [show (if R.2.2.2 0 = x then t + 1 else t) = t + 1 from if_pos hb]
        refine r_p hb <| r_m <| r_m ?_
        rw [ofNat_add1]
        exact wt_loop e hK hl l fuel (i + 1) _ hd (by omega) (by simp at h3; omega)
      · rw [show (if R.2.2.2 0 = x then t + 1 else t) = t from if_neg hb]
        refine r_n hb <| r_m ?_
        rw [ofNat_add1]
        exact wt_loop e hK hl l fuel (i + 1) _ hd (by omega) (by simp at h3; omega)
  | _, 0, _, _, _, _, h => absurd h (Nat.not_lt_zero _)
set_option maxRecDepth 100000 in
theorem p_Collector_waitingOf {A : Nat → Nat} {l1 l2 : Nat} {x : Int32} {K : List fs_Rp} {σ : fs_S} (e : σ.1 (A 0) = some (fs_ko A l1 l2)) (hK : fs_RR (A 2) K σ) (hl : K.length < 1000) : (fs_cv (A 0) 5 (f_Collector_waitingOf (A 0) x)).1 σ = some (fs_wt x K 0, σ) :=
  r_cv e <| wt_loop e hK hl K 4096 0 0 rfl (Nat.zero_le _) (by omega)
theorem p_Collector_requireRoomFor {A : Nat → Nat} {l1 l2 n : Nat} {od pr : Int32} {W : List fs_Rw} {σ : fs_S} (e : σ.1 (A 0) = some (fs_ko A l1 l2)) (et : σ.1 (A 3) = some (fs_to (A 4) (A 5) (A 6) od pr)) (hW : fs_TR (A 4) W σ) (hl : W.length ≤ 80) (hn : n ≤ 60000) :
    (80 < W.length + n → (fs_cv (A 0) 5 (f_Collector_requireRoomFor (A 0) (Int32.ofNat n))).1 σ = some (.inr "java/lang/UnsupportedOperationException", (fs_m σ, fs_k σ, fs_c σ, fs_n σ + 1, fs_u σ + 6))) ∧ (¬ 80 < W.length + n → (fs_cv (A 0) 5 (f_Collector_requireRoomFor (A 0) (Int32.ofNat n))).1 σ = some (.inl (), σ)) := by
  have hr := p_Table_hasRoomFor et hW hl hn
  refine ⟨fun h => ?_, fun h => ?_⟩
  · rw [if_pos h] at hr
    exact r_cv e <| r_b (x_gr e 2 rfl) <| r_b hr <| r_p rfl rfl
  · rw [if_neg h] at hr
    exact r_cv e <| r_b (x_gr e 2 rfl) <| r_b hr <| r_n (by decide) rfl
theorem p_Collector_ledgerOf {A : Nat → Nat} {l1 l2 : Nat} {σ : fs_S} (e : σ.1 (A 0) = some (fs_ko A l1 l2)) (x : Int32) : (fs_cv (A 0) 5 (f_Collector_ledgerOf (A 0) x)).1 σ = some (if x = 0 then l1 else l2, σ) :=
  r_cv e <| r_iv (fun _ => r_b (x_gr e 3 rfl) rfl) fun _ => r_b (x_gr e 4 rfl) rfl
