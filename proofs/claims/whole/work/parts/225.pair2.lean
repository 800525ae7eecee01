/-! rows in order, and all pairs -/
theorem tf_O {c1 ta la pa oa : Nat} {P O : Nat → Int32} {od pr : Int32} {W : List fs_Rw} {h F : List fs_C} {σ : fs_S} (hX : fs_TF c1 ta la pa oa P O od pr W h) (ho : fs_own (h ++ F) σ) (O1 : Nat → Int32) : ∃ h1, fs_TF c1 ta la pa oa P O1 od pr W h1 ∧ fs_own (h1 ++ F) (fs_su σ oa (fs_ia 80 O1)) := by
  obtain ⟨hl, rfl, hA⟩ := hX
  rw [flat5] at ho
  have o1 := own_ix [[(oa, fs_ia 80 O1)], [(ta, fs_to la pa oa od pr)], hl, [(pa, fs_ia 80 P)], fs_wcs W, F] [1, 2, 3, 0, 4, 5] rfl (by decide) (own_up (e1 := fs_ia 80 O1) (own_ix _ [3, 0, 1, 2, 4, 5] rfl (by decide) ho))
  exact ⟨_, ⟨hl, rfl, hA⟩, by rw [flat5]; exact o1⟩
theorem tf_P {c1 ta la pa oa : Nat} {P O : Nat → Int32} {od pr : Int32} {W : List fs_Rw} {h F : List fs_C} {σ : fs_S} (hX : fs_TF c1 ta la pa oa P O od pr W h) (ho : fs_own (h ++ F) σ) (P1 : Nat → Int32) : ∃ h1, fs_TF c1 ta la pa oa P1 O od pr W h1 ∧ fs_own (h1 ++ F) (fs_su σ pa (fs_ia 80 P1)) := by
  obtain ⟨hl, rfl, hA⟩ := hX
  rw [flat5] at ho
  have o1 := own_ix [[(pa, fs_ia 80 P1)], [(ta, fs_to la pa oa od pr)], hl, [(oa, fs_ia 80 O)], fs_wcs W, F] [1, 2, 0, 3, 4, 5] rfl (by decide) (own_up (e1 := fs_ia 80 P1) (own_ix _ [2, 0, 1, 3, 4, 5] rfl (by decide) ho))
  exact ⟨_, ⟨hl, rfl, hA⟩, by rw [flat5]; exact o1⟩
theorem tf_T {c1 ta la pa oa : Nat} {P O : Nat → Int32} {od pr : Int32} {W : List fs_Rw} {h F : List fs_C} {σ : fs_S} (hX : fs_TF c1 ta la pa oa P O od pr W h) (ho : fs_own (h ++ F) σ) (od1 pr1 : Int32) : ∃ h1, fs_TF c1 ta la pa oa P O od1 pr1 W h1 ∧ fs_own (h1 ++ F) (fs_su σ ta (fs_to la pa oa od1 pr1)) := by
  obtain ⟨hl, rfl, hA⟩ := hX
  exact ⟨_, ⟨hl, rfl, hA⟩, own_up ho⟩
def fs_OL (O : Nat → Int32) (L : List Nat) : Prop := ∀ i, i < L.length → O i = Int32.ofNat (L.getD i 0)
def fs_ip (bg : Nat → Int64) (x : Nat) (L : List Nat) : Nat → Nat
  | 0 => 0
  | t + 1 => if bg (L.getD t 0) ≤ bg x then t + 1 else fs_ip bg x L t
def fs_is (bg : Nat → Int64) (x : Nat) (L : List Nat) : List Nat := L.take (fs_ip bg x L L.length) ++ x :: L.drop (fs_ip bg x L L.length)
theorem ol_ins {O : Nat → Int32} {L : List Nat} {x t : Nat} (ht : t ≤ L.length) (h1 : ∀ i, i < t → O i = Int32.ofNat (L.getD i 0)) (h2 : ∀ i, t ≤ i → i < L.length → O (i + 1) = Int32.ofNat (L.getD i 0)) : fs_OL (upd O t (Int32.ofNat x)) (L.take t ++ x :: L.drop t) := by
  intro i hi
  have hl : (L.take t).length = t := by rw [List.length_take]; omega
  unfold upd
  by_cases hit : i = t
  · rw [if_pos hit, List.getD_eq_getElem?_getD, List.getElem?_append_right (by omega), hl, hit, Nat.sub_self]
    rfl
  · rw [if_neg hit]
    by_cases hlt : i < t
    · rw [h1 i hlt, List.getD_eq_getElem?_getD, List.getD_eq_getElem?_getD, List.getElem?_append_left (by omega), List.getElem?_take_of_lt hlt]
    · obtain ⟨j, rfl⟩ : ∃ j, i = j + 1 := ⟨i - 1, by omega⟩
      have hj : j < L.length := by
        rw [List.length_append, List.length_cons, List.length_drop, hl] at hi
        omega
      rw [h2 j (by omega) hj, List.getD_eq_getElem?_getD, List.getD_eq_getElem?_getD, List.getElem?_append_right (by omega), hl]
      rw [show j + 1 - t = (j - t) + 1 by omega, List.getElem?_cons_succ, List.getElem?_drop, show t + (j - t) = j by omega]
set_option maxRecDepth 100000 in
theorem ins_loop {c1 ta la pa oa x : Nat} {P : Nat → Int32} {od pr : Int32} {W : List fs_Rw} {F : List fs_C} {L : List Nat} (hl : W.length ≤ 80) (hx : x < W.length) (hL : ∀ k ∈ L, k < W.length) (hn : L.length < 80) (hod : od = Int32.ofNat L.length) : ∀ (t fuel : Nat) (O : Nat → Int32) (h : List fs_C) (σ : fs_S), fs_TF c1 ta la pa oa P O od pr W h → fs_own (h ++ F) σ → t ≤ L.length → t < fuel → (∀ i, i < t → O i = Int32.ofNat (L.getD i 0)) → (∀ i, t ≤ i → i < L.length → O (i + 1) = Int32.ofNat (L.getD i 0)) →
    ∃ σ1 h1 O1, (fs_lp1 fuel (lb_Table_insertInOrder_5 ta (Int32.ofNat x)) (Int32.ofNat t)).1 σ = some ((), σ1) ∧ fs_TF c1 ta la pa oa P O1 (Int32.ofNat (L.length + 1)) pr W h1 ∧ fs_OL O1 (L.take (fs_ip (fun r => fs_va (fs_V W) r 5) x L t) ++ x :: L.drop (fs_ip (fun r => fs_va (fs_V W) r 5) x L t)) ∧ fs_own (h1 ++ F) σ1 ∧ fs_st σ σ1 0 0 := by
  have fin : ∀ (t : Nat) (O : Nat → Int32) (h : List fs_C) (σ : fs_S), fs_TF c1 ta la pa oa P O od pr W h → fs_own (h ++ F) σ → t ≤ L.length → (∀ i, i < t → O i = Int32.ofNat (L.getD i 0)) → (∀ i, t ≤ i → i < L.length → O (i + 1) = Int32.ofNat (L.getD i 0)) →
      ∃ σ1 h1 O1, (fs_bind (fs_gr ta 6 2) fun r17 => fs_bind (fs_si r17 (Int32.ofNat t) (Int32.ofNat x)) fun _ => fs_bind (fs_gi ta 6 3) fun v18 => fs_bind (fs_pi ta 6 3 (v18 + 1)) fun _ => fs_ret ()).1 σ = some ((), σ1) ∧ fs_TF c1 ta la pa oa P O1 (Int32.ofNat (L.length + 1)) pr W h1 ∧ fs_OL O1 (L.take t ++ x :: L.drop t) ∧ fs_own (h1 ++ F) σ1 ∧ fs_st σ σ1 0 0 := by
    intro t O h σ hX ho ht h1 h2
    obtain ⟨e, ep, eo, -⟩ := tf_rd hX ho
    obtain ⟨h3, hX3, o3⟩ := tf_O hX ho (upd O t (Int32.ofNat x))
    obtain ⟨e3, -, -, -⟩ := tf_rd hX3 o3
    obtain ⟨h4, hX4, o4⟩ := tf_T hX3 o3 (Int32.ofNat (L.length + 1)) pr
    refine ⟨_, h4, _, r_b (x_gr e 2 rfl) <| r_b (x_si eo rfl (by omega) (by decide)) <| r_b (x_gi e3 3 rfl) <| r_b (v := ()) (σ1 := fs_su _ ta (fs_to la pa oa (Int32.ofNat (L.length + 1)) pr)) ?_ rfl, hX4, ol_ins ht h1 h2, o4, st_tr (st_su _ _ _) (st_su _ _ _)⟩
    rw [hod, ofNat_add1]
    exact x_pi e3 3 _ (Nat.le_of_ble_eq_true rfl)
  intro t
  induction t with
  | zero =>
    intro fuel O h σ hX ho ht hf h1 h2
    obtain ⟨fuel, rfl⟩ : ∃ f, fuel = f + 1 := ⟨fuel - 1, by omega⟩
    obtain ⟨σ1, h3, O1, k1, k2⟩ := fin 0 O h σ hX ho ht h1 h2
    exact ⟨σ1, h3, O1, r_lp1 <| r_l <| r_p (by decide) k1, k2⟩
  | succ t ih =>
    intro fuel O h σ hX ho ht hf h1 h2
    obtain ⟨fuel, rfl⟩ : ∃ f, fuel = f + 1 := ⟨fuel - 1, by omega⟩
    obtain ⟨e, ep, eo, hW⟩ := tf_rd hX ho
    have hOt := h1 t (Nat.lt_succ_self t)
    have hk : L.getD t 0 < W.length := hL _ (by
      rw [List.getD_eq_getElem?_getD, List.getElem?_eq_getElem (by omega)]
      exact List.getElem_mem _)
    obtain ⟨w, hw, g1, g2, g3⟩ := tr_at hW hk
    obtain ⟨w2, hw2, q1, q2, q3⟩ := tr_at hW hx
    have hs : Int32.ofNat (t + 1) - 1 = Int32.ofNat t := ofNat_sub1 (n := t + 1) (Nat.succ_pos t)
    have ra : (fs_ai oa (Int32.ofNat (t + 1) - 1)).1 σ = some (Int32.ofNat (L.getD t 0), σ) := by
      rw [← hOt]
      exact x_ai (x_lk eo) hs (by omega) (by decide)
    have hpos : ¬ Int32.ofNat (t + 1) ≤ 0 := fun z => by
      have := (Int32.ofNat_le_ofNat (k := t + 1) (n := 0) (by omega) (by omega)).mp z
      omega
    by_cases hq : fs_va (fs_V W) (L.getD t 0) 5 ≤ fs_va (fs_V W) x 5
    · obtain ⟨σ1, h3, O1, k1, k2⟩ := fin (t + 1) O h σ hX ho ht h1 h2
      refine ⟨σ1, h3, O1, r_lp1 <| r_l <| r_n hpos <| r_b (x_gr e 0 rfl) <| r_b (x_gr e 2 rfl) <| r_b ra <| r_b g1 <| r_b (x_ck g2) <| r_b (x_gr g2 1 rfl) <| r_b (x_aj g3 (j := 5) rfl (by decide) (by decide)) <| r_b (x_gr e 0 rfl) <| r_b q1 <| r_b (x_ck q2) <| r_b (x_gr q2 1 rfl) <| r_b (x_aj q3 (j := 5) rfl (by decide) (by decide)) <| r_p ((lg_le _ _).mpr hq) k1, ?_⟩
      rw [show fs_ip (fun r => fs_va (fs_V W) r 5) x L (t + 1) = t + 1 from if_pos hq]
      exact k2
    · obtain ⟨h3, hX3, o3⟩ := tf_O hX ho (upd O (t + 1) (Int32.ofNat (L.getD t 0)))
      obtain ⟨σ1, h4, O1, k1, k2, k3, k4, k5⟩ := ih fuel (upd O (t + 1) (Int32.ofNat (L.getD t 0))) h3 _ hX3 o3 (by omega) (by omega) (fun i hi => by
        unfold upd
        rw [if_neg (by omega)]
        exact h1 i (by omega)) (fun i hi hi2 => by
        unfold upd
        by_cases hit : i = t
        · rw [if_pos (by omega), hit]
        · rw [if_neg (by omega)]
          exact h2 i (by omega) hi2)
      refine ⟨σ1, h4, O1, r_lp1 <| r_l <| r_n hpos <| r_b (x_gr e 0 rfl) <| r_b (x_gr e 2 rfl) <| r_b ra <| r_b g1 <| r_b (x_ck g2) <| r_b (x_gr g2 1 rfl) <| r_b (x_aj g3 (j := 5) rfl (by decide) (by decide)) <| r_b (x_gr e 0 rfl) <| r_b q1 <| r_b (x_ck q2) <| r_b (x_gr q2 1 rfl) <| r_b (x_aj q3 (j := 5) rfl (by decide) (by decide)) <| r_n (fun z => hq ((lg_le _ _).mp z)) <| r_b (x_gr e 2 rfl) <| r_b (x_gr e 2 rfl) <| r_b ra <| r_b (x_si eo rfl (by omega) (by decide)) <| r_m ?_, k2, ?_, k4, st_tr (st_su _ _ _) k5⟩
      · rw [sub_m1, hs]
        exact k1
      · rw [show fs_ip (fun r => fs_va (fs_V W) r 5) x L (t + 1) = fs_ip (fun r => fs_va (fs_V W) r 5) x L t from if_neg hq]
        exact k3
set_option maxRecDepth 100000 in
theorem p_Table_insertInOrder {c1 ta la pa oa x : Nat} {P O : Nat → Int32} {od pr : Int32} {W : List fs_Rw} {h F : List fs_C} {L : List Nat} {σ : fs_S} (hX : fs_TF c1 ta la pa oa P O od pr W h) (ho : fs_own (h ++ F) σ) (hO : fs_OL O L) (hl : W.length ≤ 80) (hx : x < W.length) (hL : ∀ k ∈ L, k < W.length) (hn : L.length < 80) (hod : od = Int32.ofNat L.length) :
    ∃ σ1 h1 O1, (fs_cv ta 6 (f_Table_insertInOrder ta (Int32.ofNat x))).1 σ = some ((), σ1) ∧ fs_TF c1 ta la pa oa P O1 (Int32.ofNat (L.length + 1)) pr W h1 ∧ fs_OL O1 (fs_is (fun r => fs_va (fs_V W) r 5) x L) ∧ fs_own (h1 ++ F) σ1 ∧ fs_st σ σ1 0 0 := by
  obtain ⟨e, -, -, -⟩ := tf_rd hX ho
  obtain ⟨σ1, h1, O1, k1, k2⟩ := ins_loop hl hx hL hn hod L.length 4096 O h σ hX ho (Nat.le_refl _) (by omega) hO (fun i h1 h2 => by omega)
  refine ⟨σ1, h1, O1, r_cv e <| r_b (x_gi e 3 rfl) ?_, k2⟩
  rw [hod]
  exact k1
/-- the rows that can be paired, in order -/
def fs_od (va : Nat → Nat → Int64) : Nat → Nat → List Nat → List Nat
  | 0, _, L => L
  | m + 1, i, L => fs_od va m (i + 1) (if fs_pb (va i) = true then fs_is (fun r => va r 5) i L else L)
theorem is_len (bg : Nat → Int64) (x : Nat) (L : List Nat) : (fs_is bg x L).length = L.length + 1 := by
  unfold fs_is
  rw [List.length_append, List.length_cons, List.length_take, List.length_drop]
  have : ∀ t, fs_ip bg x L t ≤ t := fun t => by
    induction t with
    | zero => exact Nat.le_refl _
    | succ t ih =>
      show (if bg (L.getD t 0) ≤ bg x then t + 1 else fs_ip bg x L t) ≤ t + 1
      split
      · exact Nat.le_refl _
      · omega
  have := this L.length
  omega
theorem is_mem {bg : Nat → Int64} {x k : Nat} {L : List Nat} (h : k ∈ fs_is bg x L) : k = x ∨ k ∈ L := by
  unfold fs_is at h
  rcases List.mem_append.mp h with h | h
  · exact Or.inr (List.mem_of_mem_take h)
  · rcases List.mem_cons.mp h with h | h
    · exact Or.inl h
    · exact Or.inr (List.mem_of_mem_drop h)
set_option maxRecDepth 100000 in
theorem od_loop {c1 ta la pa oa : Nat} {P : Nat → Int32} {pr : Int32} {W : List fs_Rw} {F : List fs_C} (hl : W.length ≤ 80) : ∀ (m fuel i : Nat) (L : List Nat) (O : Nat → Int32) (h : List fs_C) (σ : fs_S), fs_TF c1 ta la pa oa P O (Int32.ofNat L.length) pr W h → fs_own (h ++ F) σ → fs_OL O L → i + m = W.length → m < fuel → L.length ≤ i → (∀ k ∈ L, k < i) →
    ∃ σ1 h1 O1, (fs_lp1 fuel (lb_Table_putInOrder_7 ta) (Int32.ofNat i)).1 σ = some ((), σ1) ∧ fs_TF c1 ta la pa oa P O1 (Int32.ofNat (fs_od (fs_va (fs_V W)) m i L).length) pr W h1 ∧ fs_OL O1 (fs_od (fs_va (fs_V W)) m i L) ∧ fs_own (h1 ++ F) σ1 ∧ fs_st σ σ1 0 0 ∧ (fs_od (fs_va (fs_V W)) m i L).length ≤ W.length ∧ ∀ k ∈ fs_od (fs_va (fs_V W)) m i L, k < W.length
  | 0, fuel + 1, i, L, O, h, σ, hX, ho, hO, hi, _, hLi, hLk => by
    obtain ⟨e, -, -, hW⟩ := tf_rd hX ho
    refine ⟨σ, h, O, r_lp1 <| r_b (x_gr e 0 rfl) <| r_b hW.1.1 <| r_p ?_ rfl, hX, hO, ho, st_rf σ, by show L.length ≤ _; omega, fun k hk => by have := hLk k hk; omega⟩
    rw [List.length_map]
    exact (Int32.ofNat_le_ofNat (by omega) (by omega)).mpr (by omega)
  | m + 1, fuel + 1, i, L, O, h, σ, hX, ho, hO, hi, hf, hLi, hLk => by
    obtain ⟨e, -, -, hW⟩ := tf_rd hX ho
    have hne : ¬ Int32.ofNat (W.map Prod.fst).length ≤ Int32.ofNat i := fun z => by
      rw [List.length_map] at z
      have := (Int32.ofNat_le_ofNat (by omega) (by omega)).mp z
      omega
    obtain ⟨w, hw, g1, g2, g3⟩ := tr_at (r := i) hW (by omega)
    cases hp : fs_pb (fs_va (fs_V W) i) with
    | false =>
      have es : fs_od (fs_va (fs_V W)) (m + 1) i L = fs_od (fs_va (fs_V W)) m (i + 1) L := by
        show fs_od _ m (i + 1) (if fs_pb (fs_va (fs_V W) i) = true then _ else L) = _
        rw [hp]
        rfl
      rw [es]
      obtain ⟨σ1, h1, O1, k1, k2⟩ := od_loop hl m fuel (i + 1) L O h σ hX ho hO (by omega) (by omega) (by omega) (fun k hk => by have := hLk k hk; omega)
      refine ⟨σ1, h1, O1, r_lp1 <| r_b (x_gr e 0 rfl) <| r_b hW.1.1 <| r_n hne <| r_b (x_gr e 0 rfl) <| r_b g1 <| r_b (x_ck g2) <| r_b (p_Row_canBePaired g2 g3) <| r_l <| r_p ?_ <| r_m ?_, k2⟩
      · rw [hp]; rfl
      · rw [ofNat_add1]
        exact k1
    | true =>
      have es : fs_od (fs_va (fs_V W)) (m + 1) i L = fs_od (fs_va (fs_V W)) m (i + 1) (fs_is (fun r => fs_va (fs_V W) r 5) i L) := by
        show fs_od _ m (i + 1) (if fs_pb (fs_va (fs_V W) i) = true then _ else L) = _
        rw [hp]
        rfl
      rw [es]
      obtain ⟨σ0, h0, O0, a1, a2, a3, a4, a5⟩ := p_Table_insertInOrder (x := i) hX ho hO hl (by omega) (fun k hk => by have := hLk k hk; omega) (by omega) rfl
      rw [← is_len (fun r => fs_va (fs_V W) r 5) i L] at a2
      obtain ⟨σ1, h1, O1, k1, k2, k3, k4, k5, k6⟩ := od_loop hl m fuel (i + 1) _ O0 h0 σ0 a2 a4 a3 (by omega) (by omega) (by rw [is_len]; omega) (fun k hk => by
        rcases is_mem hk with rfl | hk
        · omega
        · have := hLk k hk
          omega)
      refine ⟨σ1, h1, O1, r_lp1 <| r_b (x_gr e 0 rfl) <| r_b hW.1.1 <| r_n hne <| r_b (x_gr e 0 rfl) <| r_b g1 <| r_b (x_ck g2) <| r_b (p_Row_canBePaired g2 g3) <| r_l <| r_n ?_ <| r_b a1 <| r_m ?_, k2, k3, k4, st_tr a5 k5, k6⟩
      · rw [hp]; decide
      · rw [ofNat_add1]
        exact k1
  | _, 0, _, _, _, _, _, _, _, _, _, h, _, _ => absurd h (Nat.not_lt_zero _)
def fs_p0 (i : Nat) (P : Nat → Int32) : Nat → Int32 := fun k => if k < i then -1 else P k
theorem p0_up (i : Nat) (P : Nat → Int32) : upd (fs_p0 i P) i (-1) = fs_p0 (i + 1) P := by
  funext k
  unfold upd fs_p0
  by_cases h : k = i
  · rw [if_pos h, if_pos (by omega)]
  · rw [if_neg h]
    by_cases h2 : k < i
    · rw [if_pos h2, if_pos (by omega)]
    · rw [if_neg h2, if_neg (by omega)]
set_option maxRecDepth 100000 in
theorem fil_loop {c1 ta la pa oa : Nat} {P0 O : Nat → Int32} {od pr : Int32} {W : List fs_Rw} {F : List fs_C} : ∀ (m fuel i : Nat) (h : List fs_C) (σ : fs_S), fs_TF c1 ta la pa oa (fs_p0 i P0) O od pr W h → fs_own (h ++ F) σ → i + m = 80 → m < fuel →
    ∃ σ1 h1, (fs_lp1 fuel (lb_Arrays_fill_1_5 pa (-1) (Int32.ofNat 80)) (Int32.ofNat i)).1 σ = some ((), σ1) ∧ fs_TF c1 ta la pa oa (fs_p0 80 P0) O od pr W h1 ∧ fs_own (h1 ++ F) σ1 ∧ fs_st σ σ1 0 0
  | 0, fuel + 1, i, h, σ, hX, ho, hi, _ => by
    have : i = 80 := by omega
    subst this
    exact ⟨σ, h, r_lp1 <| r_p ((Int32.ofNat_le_ofNat (by omega) (by omega)).mpr (by omega)) rfl, hX, ho, st_rf σ⟩
  | m + 1, fuel + 1, i, h, σ, hX, ho, hi, hf => by
    have hne : ¬ Int32.ofNat 80 ≤ Int32.ofNat i := fun z => by
      have := (Int32.ofNat_le_ofNat (by omega) (by omega)).mp z
      omega
    obtain ⟨e, ep, -, -⟩ := tf_rd hX ho
    obtain ⟨h2, hX2, o2⟩ := tf_P hX ho (upd (fs_p0 i P0) i (-1))
    have hX3 := hX2
    rw [p0_up] at hX3
    obtain ⟨σ2, h3, k1, k2, k3, k4⟩ := fil_loop m fuel (i + 1) h2 _ hX3 o2 (by omega) (by omega)
    refine ⟨σ2, h3, r_lp1 <| r_n hne <| r_b (x_si ep rfl (by omega) (by decide)) <| r_m ?_, k2, k3, st_tr (st_su _ _ _) k4⟩
    rw [ofNat_add1]
    exact k1
  | _, 0, _, _, _, _, _, _, h => absurd h (Nat.not_lt_zero _)
/-- one row visited -/
def fs_vs (ex : Nat → Int32) (va : Nat → Nat → Int64) (n : Nat) (P : Nat → Int32) (a : Nat) : Nat → Int32 :=
  if P a = -1 then (match fs_nn ex va P a n 0 none with
    | none => P
    | some b => upd (upd P a (Int32.ofNat b)) b (Int32.ofNat a)) else P
set_option maxRecDepth 100000 in
theorem pr_loop {c1 ta la pa oa : Nat} {O : Nat → Int32} {pr : Int32} {W : List fs_Rw} {F : List fs_C} {L : List Nat} (hl : W.length ≤ 80) (hO : fs_OL O L) (hL : ∀ k ∈ L, k < W.length) (hn : L.length ≤ 80) : ∀ (l : List Nat) (fuel i : Nat) (P : Nat → Int32) (h : List fs_C) (σ : fs_S), fs_TF c1 ta la pa oa P O (Int32.ofNat L.length) pr W h → fs_own (h ++ F) σ → L.drop i = l → i ≤ L.length → l.length < fuel →
    ∃ σ1 h1, (fs_lp1 fuel (lb_Table_pairAll_14 ta) (Int32.ofNat i)).1 σ = some ((), σ1) ∧ fs_TF c1 ta la pa oa (l.foldl (fs_vs (fs_ex (fs_V W)) (fs_va (fs_V W)) W.length) P) O (Int32.ofNat L.length) (Int32.ofNat W.length) W h1 ∧ fs_own (h1 ++ F) σ1 ∧ fs_st σ σ1 0 0
  | [], fuel + 1, i, P, h, σ, hX, ho, hd, hi, _ => by
    have : L.length ≤ i := List.drop_eq_nil_iff.mp hd
    obtain ⟨e, -, -, hW⟩ := tf_rd hX ho
    obtain ⟨h2, hX2, o2⟩ := tf_T hX ho (Int32.ofNat L.length) (Int32.ofNat W.length)
    refine ⟨_, h2, r_lp1 <| r_b (x_gi e 3 rfl) <| r_p ((Int32.ofNat_le_ofNat (by omega) (by omega)).mpr this) <| r_b (x_gr e 0 rfl) <| r_b hW.1.1 <| r_b (v := ()) (σ1 := fs_su σ ta (fs_to la pa oa (Int32.ofNat L.length) (Int32.ofNat W.length))) ?_ rfl, hX2, o2, st_su _ _ _⟩
    rw [List.length_map]
    exact x_pi e 4 _ (Nat.le_of_ble_eq_true rfl)
  | a :: l, fuel + 1, i, P, h, σ, hX, ho, hd, hi, hf => by
    have hi2 : i < L.length := by
      have := congrArg List.length hd
      rw [List.length_drop, List.length_cons] at this
      omega
    have hq : L[i]? = some a := by
      have := congrArg (fun z : List Nat => z[0]?) hd
      simpa using this
    have hd2 : L.drop (i + 1) = l := by
      have := congrArg List.tail hd
      simpa using this
    have ha : a < W.length := hL a (List.mem_of_getElem? hq)
    have hOi : O i = Int32.ofNat a := by
      rw [hO i hi2, List.getD_eq_getElem?_getD, hq]
      rfl
    have hne : ¬ Int32.ofNat L.length ≤ Int32.ofNat i := fun z => by
      have := (Int32.ofNat_le_ofNat (by omega) (by omega)).mp z
      omega
    obtain ⟨e, ep, eo, hW⟩ := tf_rd hX ho
    have ra : (fs_ai oa (Int32.ofNat i)).1 σ = some (Int32.ofNat a, σ) := by
      rw [← hOi]
      exact x_ai (x_lk eo) rfl (by omega) (by decide)
    have es : (a :: l).foldl (fs_vs (fs_ex (fs_V W)) (fs_va (fs_V W)) W.length) P = l.foldl (fs_vs (fs_ex (fs_V W)) (fs_va (fs_V W)) W.length) (fs_vs (fs_ex (fs_V W)) (fs_va (fs_V W)) W.length P a) := rfl
    rw [es]
    have hf2 : l.length < fuel := by simp at hf; omega
    by_cases hP : P a = -1
    · have hnr := p_Table_nearestReverse e ep hW hl ha
      cases hb : fs_nn (fs_ex (fs_V W)) (fs_va (fs_V W)) P a W.length 0 none with
      | none =>
        rw [show fs_vs (fs_ex (fs_V W)) (fs_va (fs_V W)) W.length P a = P by unfold fs_vs; rw [if_pos hP, hb]]
        rw [hb] at hnr
        obtain ⟨σ1, h1, k1, k2, k3, k4⟩ := pr_loop hl hO hL hn l fuel (i + 1) P h σ hX ho hd2 hi2 hf2
        refine ⟨σ1, h1, r_lp1 <| r_b (x_gi e 3 rfl) <| r_n hne <| r_b (x_gr e 2 rfl) <| r_b ra <| r_b (x_gr e 1 rfl) <| r_b (x_ai (x_lk ep) rfl (by omega) (by decide)) <| r_l <| r_p hP <| r_b hnr <| r_p rfl <| r_m ?_, k2, k3, k4⟩
        rw [ofNat_add1]
        exact k1
      | some b =>
        have hbl : b < W.length := nn_lt W.length 0 none (by omega) (fun k hk => by cases hk) b hb
        rw [show fs_vs (fs_ex (fs_V W)) (fs_va (fs_V W)) W.length P a = upd (upd P a (Int32.ofNat b)) b (Int32.ofNat a) by unfold fs_vs; rw [if_pos hP, hb]]
        rw [hb] at hnr
        obtain ⟨h2, hX2, o2⟩ := tf_P hX ho (upd P a (Int32.ofNat b))
        obtain ⟨e2, ep2, -, -⟩ := tf_rd hX2 o2
        obtain ⟨h3, hX3, o3⟩ := tf_P hX2 o2 (upd (upd P a (Int32.ofNat b)) b (Int32.ofNat a))
        obtain ⟨σ1, h1, k1, k2, k3, k4⟩ := pr_loop hl hO hL hn l fuel (i + 1) _ h3 _ hX3 o3 hd2 hi2 hf2
        refine ⟨σ1, h1, r_lp1 <| r_b (x_gi e 3 rfl) <| r_n hne <| r_b (x_gr e 2 rfl) <| r_b ra <| r_b (x_gr e 1 rfl) <| r_b (x_ai (x_lk ep) rfl (by omega) (by decide)) <| r_l <| r_p hP <| r_b hnr <| r_n (ofNat_ne_m1 (by omega)) <| r_b (x_gr e 1 rfl) <| r_b (x_si ep rfl (by omega) (by decide)) <| r_b (x_gr e2 1 rfl) <| r_b (x_si ep2 rfl (by omega) (by decide)) <| r_m ?_, k2, k3, st_tr (st_su _ _ _) (st_tr (st_su _ _ _) k4)⟩
        rw [ofNat_add1]
        exact k1
    · rw [show fs_vs (fs_ex (fs_V W)) (fs_va (fs_V W)) W.length P a = P from if_neg hP]
      obtain ⟨σ1, h1, k1, k2, k3, k4⟩ := pr_loop hl hO hL hn l fuel (i + 1) P h σ hX ho hd2 hi2 hf2
      refine ⟨σ1, h1, r_lp1 <| r_b (x_gi e 3 rfl) <| r_n hne <| r_b (x_gr e 2 rfl) <| r_b ra <| r_b (x_gr e 1 rfl) <| r_b (x_ai (x_lk ep) rfl (by omega) (by decide)) <| r_l <| r_n hP <| r_m ?_, k2, k3, k4⟩
      rw [ofNat_add1]
      exact k1
  | _, 0, _, _, _, _, _, _, _, _, h => absurd h (Nat.not_lt_zero _)
def fs_pa (V : fs_Vs) (P : Nat → Int32) : Nat → Int32 := (fs_od (fs_va V) V.length 0 []).foldl (fs_vs (fs_ex V) (fs_va V) V.length) (fs_p0 80 P)
set_option maxRecDepth 100000 in
theorem p_Table_pairAll {c1 ta la pa oa : Nat} {P O : Nat → Int32} {od pr : Int32} {W : List fs_Rw} {h F : List fs_C} {σ : fs_S} (hX : fs_TF c1 ta la pa oa P O od pr W h) (ho : fs_own (h ++ F) σ) (hl : W.length ≤ 80) :
    ∃ σ1 h1 O1 od1, (fs_cv ta 6 (f_Table_pairAll ta)).1 σ = some ((), σ1) ∧ fs_TF c1 ta la pa oa (fs_pa (fs_V W) P) O1 od1 (Int32.ofNat W.length) W h1 ∧ fs_own (h1 ++ F) σ1 ∧ fs_st σ σ1 0 0 := by
  obtain ⟨e, ep, -, -⟩ := tf_rd hX ho
  have e0 : fs_p0 0 P = P := funext fun k => if_neg (Nat.not_lt_zero k)
  obtain ⟨σ1, h1, a1, a2, a3, a4⟩ := fil_loop (P0 := P) 80 4096 0 h σ (by rw [e0]; exact hX) ho rfl (by decide)
  obtain ⟨e1, -, -, -⟩ := tf_rd a2 a3
  obtain ⟨h2, hX2, o2⟩ := tf_T a2 a3 (Int32.ofNat ([] : List Nat).length) pr
  obtain ⟨σ3, h3, O3, b1, b2, b3, b4, b5, b6, b7⟩ := od_loop hl W.length 4096 0 [] O h2 _ hX2 o2 (fun i hi => absurd hi (Nat.not_lt_zero _)) (by omega) (by omega) (Nat.le_refl _) (fun k hk => by cases hk)
  obtain ⟨σ4, h4, d1, d2, d3, d4⟩ := pr_loop hl b3 b7 (by omega) _ 4096 0 _ h3 σ3 b2 b4 rfl (Nat.zero_le _) (by rw [List.drop_zero]; omega)
  have hVl : (fs_V W).length = W.length := List.length_map ..
  refine ⟨σ4, h4, O3, Int32.ofNat (fs_od (fs_va (fs_V W)) W.length 0 []).length, r_cv e <| r_b (x_gr e 1 rfl) <| r_b (v := ()) (r_b (x_al (x_lk ep) (by decide)) a1) <| r_b (v := ()) (r_cv e1 <| r_b (x_pi e1 3 _ (Nat.le_of_ble_eq_true rfl)) b1) d1, ?_, d3, st_tr a4 (st_tr (st_su _ _ _) (st_tr b5 d4))⟩
  rw [List.drop_zero] at d2
  unfold fs_pa
  rw [hVl]
  exact d2
set_option maxRecDepth 100000 in
theorem p_Table_partnerOf {c1 ta la pa oa r : Nat} {P O : Nat → Int32} {od pr : Int32} {W : List fs_Rw} {h F : List fs_C} {σ : fs_S} (hX : fs_TF c1 ta la pa oa P O od pr W h) (ho : fs_own (h ++ F) σ) (hl : W.length ≤ 80) (hr : r < W.length) :
    ∃ σ1 h1 P1 O1 od1, (fs_cv ta 6 (f_Table_partnerOf ta (Int32.ofNat r))).1 σ = some (P1 r, σ1) ∧ fs_TF c1 ta la pa oa P1 O1 od1 (Int32.ofNat W.length) W h1 ∧ fs_own (h1 ++ F) σ1 ∧ fs_st σ σ1 0 0 ∧ P1 = (if pr = Int32.ofNat W.length then P else fs_pa (fs_V W) P) := by
  obtain ⟨e, ep, -, hW⟩ := tf_rd hX ho
  have hm : Int32.ofNat (W.map Prod.fst).length = Int32.ofNat W.length := by rw [List.length_map]
  by_cases hp : pr = Int32.ofNat W.length
  · refine ⟨σ, h, P, O, od, r_cv e <| r_b (x_gi e 4 rfl) <| r_b (x_gr e 0 rfl) <| r_b hW.1.1 <| r_l <| r_p (hp.trans hm.symm) <| r_b (x_gr e 1 rfl) <| r_b (x_ai (x_lk ep) rfl (by omega) (by decide)) rfl, by rw [← hp]; exact hX, ho, st_rf σ, (if_pos hp).symm⟩
  · obtain ⟨σ1, h1, O1, od1, k1, k2, k3, k4⟩ := p_Table_pairAll hX ho hl
    obtain ⟨e1, ep1, -, -⟩ := tf_rd k2 k3
    exact ⟨σ1, h1, _, O1, od1, r_cv e <| r_b (x_gi e 4 rfl) <| r_b (x_gr e 0 rfl) <| r_b hW.1.1 <| r_l <| r_n (fun z => hp (z.trans hm)) <| r_b k1 <| r_b (x_gr e1 1 rfl) <| r_b (x_ai (x_lk ep1) rfl (by omega) (by decide)) rfl, k2, k3, k4, (if_neg hp).symm⟩
