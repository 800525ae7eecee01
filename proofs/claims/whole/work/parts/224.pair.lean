/-! the two directions of a talk -/
theorem lg_0 (x y : Int64) : lg_cmp x y = 0 ↔ x = y := by
  unfold lg_cmp
  by_cases h : x > y
  · rw [if_pos h]
    exact ⟨fun z => absurd z (by decide), fun z => by rw [z] at h; exact absurd h (Int64.lt_irrefl)⟩
  · rw [if_neg h]
    by_cases h2 : x = y
    · rw [if_pos h2]
      exact ⟨fun _ => h2, fun _ => rfl⟩
    · rw [if_neg h2]
      exact ⟨fun z => absurd z (by decide), fun z => absurd z h2⟩
theorem lg_le (x y : Int64) : lg_cmp x y ≤ 0 ↔ x ≤ y := by
  unfold lg_cmp
  by_cases h : x > y
  · rw [if_pos h]
    exact ⟨fun z => absurd z (by decide), fun z => absurd z (Int64.not_le.mpr h)⟩
  · rw [if_neg h]
    by_cases h2 : x = y
    · rw [if_pos h2]
      exact ⟨fun _ => by rw [h2]; exact Int64.le_refl _, fun _ => by decide⟩
    · rw [if_neg h2]
      exact ⟨fun _ => Int64.not_lt.mp h, fun _ => by decide⟩
theorem lg_ge (x y : Int64) : 0 ≤ lg_cmp x y ↔ y ≤ x := by
  unfold lg_cmp
  by_cases h : x > y
  · rw [if_pos h]
    exact ⟨fun _ => Int64.le_of_lt h, fun _ => by decide⟩
  · rw [if_neg h]
    by_cases h2 : x = y
    · rw [if_pos h2]
      exact ⟨fun _ => by rw [h2]; exact Int64.le_refl _, fun _ => by decide⟩
    · rw [if_neg h2]
      refine ⟨fun z => absurd z (by decide), fun z => absurd (Int64.le_antisymm (Int64.not_lt.mp h) z) h2⟩
abbrev fs_Vs : Type := List (Int32 × (Nat → Int64))
def fs_ex (V : fs_Vs) (r : Nat) : Int32 := (V.getD r (0, fun _ => 0)).1
def fs_va (V : fs_Vs) (r : Nat) : Nat → Int64 := (V.getD r (0, fun _ => 0)).2
def fs_V (W : List fs_Rw) : fs_Vs := W.map fun w => w.2.2
theorem v_at {W : List fs_Rw} {r : Nat} {w : fs_Rw} (h : W[r]? = some w) : fs_ex (fs_V W) r = w.2.2.1 ∧ fs_va (fs_V W) r = w.2.2.2 := by
  unfold fs_ex fs_va fs_V
  simp [List.getD, h]
/-- what is read of row r -/
theorem tr_at {la r : Nat} {W : List fs_Rw} {σ : fs_S} (hW : fs_TR la W σ) (hr : r < W.length) : ∃ w, W[r]? = some w ∧ (fs_cv la 2 (f_ArrayList_get la (Int32.ofNat r))).1 σ = some (w.1, σ) ∧ σ.1 w.1 = some (.inr (11, [.int (fs_ex (fs_V W) r), .ref w.2.1])) ∧ σ.1 w.2.1 = some (fs_ja 8 (fs_va (fs_V W) r)) := by
  have h : W[r]? = some W[r] := List.getElem?_eq_getElem hr
  obtain ⟨h1, h2⟩ := v_at h
  obtain ⟨h3, h4⟩ := hW.2 _ (List.mem_of_getElem? h)
  refine ⟨W[r], h, hW.1.2 r _ _ rfl (by rw [List.getElem?_map, h]; rfl), ?_, ?_⟩
  · rw [h1]; exact h3
  · rw [h2]; exact h4
theorem p_Row_has {wa va k : Nat} {x i : Int32} {v : Nat → Int64} {σ : fs_S} (e : σ.1 wa = some (.inr (11, [.int x, .ref va]))) (ev : σ.1 va = some (fs_ja 8 v)) (hi : i = Int32.ofNat k) (hk : k < 8) : (fs_cv wa 11 (f_Row_has wa i)).1 σ = some (if v k = -1 then 0 else 1, σ) := by
  refine r_cv e <| r_b (x_gr e 1 rfl) <| r_b (x_aj ev hi hk (by decide)) ?_
  by_cases h : v k = -1
  · rw [if_pos h]
    exact r_p ((lg_0 _ _).mpr h) rfl
  · rw [if_neg h]
    exact r_n (fun z => h ((lg_0 _ _).mp z)) rfl
def fs_pb (v : Nat → Int64) : Bool := decide (v 0 ≠ -1 ∧ v 1 ≠ -1 ∧ v 2 ≠ -1 ∧ v 5 ≠ -1)
theorem p_Row_canBePaired {wa va : Nat} {x : Int32} {v : Nat → Int64} {σ : fs_S} (e : σ.1 wa = some (.inr (11, [.int x, .ref va]))) (ev : σ.1 va = some (fs_ja 8 v)) : (fs_cv wa 11 (f_Row_canBePaired wa)).1 σ = some (if fs_pb v = true then 1 else 0, σ) := by
  have hh : ∀ k, k < 8 → (fs_cv wa 11 (f_Row_has wa (Int32.ofNat k))).1 σ = some (if v k = -1 then 0 else 1, σ) := fun k hk => p_Row_has e ev rfl hk
  refine r_cv e <| r_b (hh 0 (by decide)) ?_
  by_cases h0 : v 0 = -1
  · rw [show (if v 0 = -1 then (0 : Int32) else 1) = 0 from if_pos h0, show fs_pb v = false from decide_eq_false (fun z => z.1 h0)]
    exact r_p rfl rfl
  · rw [show (if v 0 = -1 then (0 : Int32) else 1) = 1 from if_neg h0]
    refine r_n (by decide) <| r_b (hh 1 (by decide)) ?_
    by_cases h1 : v 1 = -1
    · rw [show (if v 1 = -1 then (0 : Int32) else 1) = 0 from if_pos h1, show fs_pb v = false from decide_eq_false (fun z => z.2.1 h1)]
      exact r_p rfl rfl
    · rw [show (if v 1 = -1 then (0 : Int32) else 1) = 1 from if_neg h1]
      refine r_n (by decide) <| r_b (hh 2 (by decide)) ?_
      by_cases h2 : v 2 = -1
      · rw [show (if v 2 = -1 then (0 : Int32) else 1) = 0 from if_pos h2, show fs_pb v = false from decide_eq_false (fun z => z.2.2.1 h2)]
        exact r_p rfl rfl
      · rw [show (if v 2 = -1 then (0 : Int32) else 1) = 1 from if_neg h2]
        refine r_n (by decide) <| r_b (hh 5 (by decide)) ?_
        by_cases h5 : v 5 = -1
        · rw [show (if v 5 = -1 then (0 : Int32) else 1) = 0 from if_pos h5, show fs_pb v = false from decide_eq_false (fun z => z.2.2.2 h5)]
          exact r_p rfl rfl
        · rw [show (if v 5 = -1 then (0 : Int32) else 1) = 1 from if_neg h5, show fs_pb v = true from decide_eq_true ⟨h0, h1, h2, h5⟩]
          exact r_n (by decide) rfl
def fs_rv (x : Int32) (v : Nat → Int64) (y : Int32) (w : Nat → Int64) : Bool := decide (x = y ∧ v 0 = w 1 ∧ v 1 = w 0 ∧ v 2 = w 2)
theorem p_Row_isReverseOf {wa va wb vb : Nat} {x y : Int32} {v w : Nat → Int64} {σ : fs_S} (e : σ.1 wa = some (.inr (11, [.int x, .ref va]))) (ev : σ.1 va = some (fs_ja 8 v)) (d : σ.1 wb = some (.inr (11, [.int y, .ref vb]))) (dv : σ.1 vb = some (fs_ja 8 w)) : (fs_cv wa 11 (f_Row_isReverseOf wa wb)).1 σ = some (if fs_rv x v y w = true then 1 else 0, σ) := by
  have rd : ∀ k, k < 8 → (fs_aj va (Int32.ofNat k)).1 σ = some (v k, σ) := fun k hk => x_aj ev rfl hk (by decide)
  have td : ∀ k, k < 8 → (fs_aj vb (Int32.ofNat k)).1 σ = some (w k, σ) := fun k hk => x_aj dv rfl hk (by decide)
  refine r_cv e <| r_b (x_gi e 0 rfl) <| r_b (x_gi d 0 rfl) ?_
  by_cases hx : x = y
  · refine r_p hx <| r_b (x_gr e 1 rfl) <| r_b (rd 0 (by decide)) <| r_b (x_gr d 1 rfl) <| r_b (td 1 (by decide)) ?_
    by_cases h0 : v 0 = w 1
    · refine r_p ((lg_0 _ _).mpr h0) <| r_b (x_gr e 1 rfl) <| r_b (rd 1 (by decide)) <| r_b (x_gr d 1 rfl) <| r_b (td 0 (by decide)) ?_
      by_cases h1 : v 1 = w 0
      · refine r_p ((lg_0 _ _).mpr h1) <| r_b (x_gr e 1 rfl) <| r_b (rd 2 (by decide)) <| r_b (x_gr d 1 rfl) <| r_b (td 2 (by decide)) ?_
        by_cases h2 : v 2 = w 2
        · rw [show fs_rv x v y w = true from decide_eq_true ⟨hx, h0, h1, h2⟩]
          exact r_p ((lg_0 _ _).mpr h2) rfl
        · rw [show fs_rv x v y w = false from decide_eq_false (fun z => h2 z.2.2.2)]
          exact r_n (fun z => h2 ((lg_0 _ _).mp z)) rfl
      · rw [show fs_rv x v y w = false from decide_eq_false (fun z => h1 z.2.2.1)]
        exact r_n (fun z => h1 ((lg_0 _ _).mp z)) rfl
    · rw [show fs_rv x v y w = false from decide_eq_false (fun z => h0 z.2.1)]
      exact r_n (fun z => h0 ((lg_0 _ _).mp z)) rfl
  · rw [show fs_rv x v y w = false from decide_eq_false (fun z => hx z.1)]
    exact r_n hx rfl
def fs_tkd (v w : Nat → Int64) : Int64 := fs_abs (v 5 - w 5)
theorem p_Row_ticksBetween {wa va wb vb : Nat} {x y : Int32} {v w : Nat → Int64} {σ : fs_S} (e : σ.1 wa = some (.inr (11, [.int x, .ref va]))) (ev : σ.1 va = some (fs_ja 8 v)) (d : σ.1 wb = some (.inr (11, [.int y, .ref vb]))) (dv : σ.1 vb = some (fs_ja 8 w)) : (fs_cv wa 11 (f_Row_ticksBetween wa wb)).1 σ = some (fs_tkd v w, σ) :=
  r_cv e <| r_b (x_gr e 1 rfl) <| r_b (x_aj ev (j := 5) rfl (by decide) (by decide)) <| r_b (x_gr d 1 rfl) <| r_b (x_aj dv (j := 5) rfl (by decide) (by decide)) rfl
/-- the nearest reverse of row a among the rows from i -/
def fs_nk (ex : Nat → Int32) (va : Nat → Nat → Int64) (P : Nat → Int32) (a i : Nat) (b : Option Nat) : Option Nat :=
  if i = a then b else if P i = -1 then (if fs_pb (va i) = true then (if fs_rv (ex i) (va i) (ex a) (va a) = true then (match b with
    | none => some i
    | some k => if fs_tkd (va k) (va a) ≤ fs_tkd (va i) (va a) then some k else some i) else b) else b) else b
def fs_nn (ex : Nat → Int32) (va : Nat → Nat → Int64) (P : Nat → Int32) (a : Nat) : Nat → Nat → Option Nat → Option Nat
  | 0, _, b => b
  | m + 1, i, b => fs_nn ex va P a m (i + 1) (fs_nk ex va P a i b)
def fs_o32 (b : Option Nat) : Int32 := match b with
  | none => -1
  | some k => Int32.ofNat k
theorem nn_lt {ex : Nat → Int32} {va : Nat → Nat → Int64} {P : Nat → Int32} {a n : Nat} : ∀ (m i : Nat) (b : Option Nat), i + m ≤ n → (∀ k, b = some k → k < n) → ∀ k, fs_nn ex va P a m i b = some k → k < n
  | 0, _, _, _, h, k, hk => h k hk
  | m + 1, i, b, hi, h, k, hk => nn_lt m (i + 1) (fs_nk ex va P a i b) (by omega) (fun j hj => by
    unfold fs_nk at hj
    split at hj
    · exact h j hj
    · split at hj
      · split at hj
        · split at hj
          · cases b with
            | none => cases hj; omega
            | some p =>
              dsimp only at hj
              split at hj
              · exact h j hj
              · cases hj; omega
          · exact h j hj
        · exact h j hj
      · exact h j hj) k hk
set_option maxRecDepth 100000 in
theorem nn_loop {ta la pa oa a wa wv : Nat} {od pr : Int32} {P : Nat → Int32} {W : List fs_Rw} {σ : fs_S} (e : σ.1 ta = some (fs_to la pa oa od pr)) (ep : σ.1 pa = some (fs_ia 80 P)) (hW : fs_TR la W σ) (hl : W.length ≤ 80) (ha : a < W.length) (d : σ.1 wa = some (.inr (11, [.int (fs_ex (fs_V W) a), .ref wv]))) (dv : σ.1 wv = some (fs_ja 8 (fs_va (fs_V W) a))) : ∀ (m fuel i : Nat) (b : Option Nat), i + m = W.length → m < fuel → (∀ k, b = some k → k < W.length) →
    (fs_lp2 fuel (lb_Table_nearestReverse_17 ta (Int32.ofNat a) wa) (fs_o32 b) (Int32.ofNat i)).1 σ = some (fs_o32 (fs_nn (fs_ex (fs_V W)) (fs_va (fs_V W)) P a m i b), σ)
  | 0, fuel + 1, i, b, h, _, _ => by
    refine r_lp2 <| r_b (x_gr e 0 rfl) <| r_b hW.1.1 <| r_p ?_ rfl
    rw [List.length_map]
    exact (Int32.ofNat_le_ofNat (by omega) (by omega)).mpr (by omega)
  | m + 1, fuel + 1, i, b, h, hf, hb => by
    have hne : ¬ Int32.ofNat (W.map Prod.fst).length ≤ Int32.ofNat i := fun z => by
      rw [List.length_map] at z
      have := (Int32.ofNat_le_ofNat (by omega) (by omega)).mp z
      omega
    obtain ⟨w, hw, g1, g2, g3⟩ := tr_at (r := i) hW (by omega)
    have rec_ : ∀ (b' : Option Nat), (∀ k, b' = some k → k < W.length) → (fs_nm (Int32.ofNat i + 1 : Int32) fun v18 => fs_lp2 fuel (lb_Table_nearestReverse_17 ta (Int32.ofNat a) wa) (fs_o32 b') v18).1 σ = some (fs_o32 (fs_nn (fs_ex (fs_V W)) (fs_va (fs_V W)) P a m (i + 1) b'), σ) := fun b' hb' => by
      refine r_m ?_
      rw [ofNat_add1]
      exact nn_loop e ep hW hl ha d dv m fuel (i + 1) b' (by omega) (by omega) hb'
    have es : fs_nn (fs_ex (fs_V W)) (fs_va (fs_V W)) P a (m + 1) i b = fs_nn (fs_ex (fs_V W)) (fs_va (fs_V W)) P a m (i + 1) (fs_nk (fs_ex (fs_V W)) (fs_va (fs_V W)) P a i b) := rfl
    rw [es]
    refine r_lp2 <| r_b (x_gr e 0 rfl) <| r_b hW.1.1 <| r_n hne <| r_b (x_gr e 0 rfl) <| r_b g1 <| r_b (x_ck g2) <| r_l ?_
    by_cases h1 : i = a
    · rw [show fs_nk (fs_ex (fs_V W)) (fs_va (fs_V W)) P a i b = b from if_pos h1]
      exact r_p (congrArg Int32.ofNat h1) (rec_ b hb)
    · refine r_n (fun z => ?_) <| r_b (x_gr e 1 rfl) <| r_b (x_ai (x_lk ep) rfl (by omega) (by decide)) ?_
      · have h2 : (Int32.ofNat i).toNatClampNeg = i := Int32.toNatClampNeg_ofNat_of_lt (by omega)
        have h3 : (Int32.ofNat a).toNatClampNeg = a := Int32.toNatClampNeg_ofNat_of_lt (by omega)
        rw [z, h3] at h2
        exact h1 h2.symm
      · by_cases h2 : P i = -1
        · refine r_p h2 <| r_b (p_Row_canBePaired g2 g3) ?_
          cases h3 : fs_pb (fs_va (fs_V W) i) with
          | false =>
            rw [show fs_nk (fs_ex (fs_V W)) (fs_va (fs_V W)) P a i b = b by unfold fs_nk; rw [if_neg h1, if_pos h2, h3]; rfl]
            exact r_p rfl (rec_ b hb)
          | true =>
            refine r_n (by decide) <| r_b (p_Row_isReverseOf g2 g3 d dv) ?_
            cases h4 : fs_rv (fs_ex (fs_V W) i) (fs_va (fs_V W) i) (fs_ex (fs_V W) a) (fs_va (fs_V W) a) with
            | false =>
              rw [show fs_nk (fs_ex (fs_V W)) (fs_va (fs_V W)) P a i b = b by unfold fs_nk; rw [if_neg h1, if_pos h2, h3, h4]; rfl]
              exact r_p rfl (rec_ b hb)
            | true =>
              refine r_n (by decide) <| r_l ?_
              cases b with
              | none =>
                rw [show fs_nk (fs_ex (fs_V W)) (fs_va (fs_V W)) P a i none = some i by unfold fs_nk; rw [if_neg h1, if_pos h2, h3, h4]; rfl]
                exact r_p rfl (rec_ (some i) (fun k hk => by cases hk; omega))
              | some p =>
                have hp := hb p rfl
                obtain ⟨w2, hw2, q1, q2, q3⟩ := tr_at (r := p) hW hp
                refine r_n (ofNat_ne_m1 (by omega)) <| r_b (p_Row_ticksBetween g2 g3 d dv) <| r_b (x_gr e 0 rfl) <| r_b q1 <| r_b (x_ck q2) <| r_b (p_Row_ticksBetween q2 q3 d dv) ?_
                by_cases h5 : fs_tkd (fs_va (fs_V W) p) (fs_va (fs_V W) a) ≤ fs_tkd (fs_va (fs_V W) i) (fs_va (fs_V W) a)
                · rw [show fs_nk (fs_ex (fs_V W)) (fs_va (fs_V W)) P a i (some p) = some p by unfold fs_nk; rw [if_neg h1, if_pos h2, h3, h4]; exact if_pos h5]
                  exact r_p ((lg_ge _ _).mpr h5) (rec_ (some p) hb)
                · rw [show fs_nk (fs_ex (fs_V W)) (fs_va (fs_V W)) P a i (some p) = some i by unfold fs_nk; rw [if_neg h1, if_pos h2, h3, h4]; exact if_neg h5]
                  exact r_n (fun z => h5 ((lg_ge _ _).mp z)) (rec_ (some i) (fun k hk => by cases hk; omega))
        · rw [show fs_nk (fs_ex (fs_V W)) (fs_va (fs_V W)) P a i b = b by unfold fs_nk; rw [if_neg h1, if_neg h2]]
          exact r_n h2 (rec_ b hb)
  | _, 0, _, _, _, h, _ => absurd h (Nat.not_lt_zero _)
set_option maxRecDepth 100000 in
theorem p_Table_nearestReverse {ta la pa oa a : Nat} {od pr : Int32} {P : Nat → Int32} {W : List fs_Rw} {σ : fs_S} (e : σ.1 ta = some (fs_to la pa oa od pr)) (ep : σ.1 pa = some (fs_ia 80 P)) (hW : fs_TR la W σ) (hl : W.length ≤ 80) (ha : a < W.length) :
    (fs_cv ta 6 (f_Table_nearestReverse ta (Int32.ofNat a))).1 σ = some (fs_o32 (fs_nn (fs_ex (fs_V W)) (fs_va (fs_V W)) P a W.length 0 none), σ) := by
  obtain ⟨w, hw, g1, g2, g3⟩ := tr_at (r := a) hW ha
  exact r_cv e <| r_b (x_gr e 0 rfl) <| r_b g1 <| r_b (x_ck g2) <| nn_loop e ep hW hl ha g2 g3 W.length 4096 0 none (by omega) (by omega) (fun k hk => by cases hk)
