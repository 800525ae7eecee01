/-! sums over rows -/
def fs_s1 (ex : Nat → Int32) (va : Nat → Nat → Int64) (x : Int32) (k : Nat) (y : Int64) (w : Nat) : Nat → Nat → Int64 → Int64
  | 0, _, t => t
  | m + 1, i, t => fs_s1 ex va x k y w m (i + 1) (if ex i = x then (if va i k = -1 then t else if va i k = y then (if va i w = -1 then t else t + va i w) else t) else t)
theorem s1_loop {ta la pa oa k w : Nat} {od pr x xk xw : Int32} {y : Int64} {W : List fs_Rw} {σ : fs_S} (e : σ.1 ta = some (fs_to la pa oa od pr)) (hW : fs_TR la W σ) (hl : W.length ≤ 80) (hk : xk = Int32.ofNat k) (hk8 : k < 8) (hw : xw = Int32.ofNat w) (hw8 : w < 8) : ∀ (m fuel i : Nat) (t : Int64), i + m = W.length → m < fuel →
    (fs_lp2 fuel (lb_Table_sumOf_6 ta x xk y xw) t (Int32.ofNat i)).1 σ = some (fs_s1 (fs_ex (fs_V W)) (fs_va (fs_V W)) x k y w m i t, σ)
  | 0, fuel + 1, i, t, h, _ => by
    refine r_lp2 <| r_b (x_gr e 0 rfl) <| r_b hW.1.1 <| r_p ?_ rfl
    rw [List.length_map]
    exact (Int32.ofNat_le_ofNat (by omega) (by omega)).mpr (by omega)
  | m + 1, fuel + 1, i, t, h, hf => by
    have hne : ¬ Int32.ofNat (W.map Prod.fst).length ≤ Int32.ofNat i := fun z => by
      rw [List.length_map] at z
      have := (Int32.ofNat_le_ofNat (by omega) (by omega)).mp z
      omega
    obtain ⟨r, hr, g1, g2, g3⟩ := tr_at (r := i) hW (by omega)
    have rec_ : ∀ t', (fs_nm (Int32.ofNat i + 1 : Int32) fun v16 => fs_lp2 fuel (lb_Table_sumOf_6 ta x xk y xw) t' v16).1 σ = some (fs_s1 (fs_ex (fs_V W)) (fs_va (fs_V W)) x k y w m (i + 1) t', σ) := fun t' => by
      refine r_m ?_
      rw [ofNat_add1]
      exact s1_loop e hW hl hk hk8 hw hw8 m fuel (i + 1) t' (by omega) (by omega)
    have es : fs_s1 (fs_ex (fs_V W)) (fs_va (fs_V W)) x k y w (m + 1) i t = fs_s1 (fs_ex (fs_V W)) (fs_va (fs_V W)) x k y w m (i + 1) (if fs_ex (fs_V W) i = x then (if fs_va (fs_V W) i k = -1 then t else if fs_va (fs_V W) i k = y then (if fs_va (fs_V W) i w = -1 then t else t + fs_va (fs_V W) i w) else t) else t) := rfl
    have h1 := p_Row_has g2 g3 hk hk8
    have h2 := p_Row_has g2 g3 hw hw8
    refine r_lp2 <| r_b (x_gr e 0 rfl) <| r_b hW.1.1 <| r_n hne <| r_b (x_gr e 0 rfl) <| r_b g1 <| r_b (x_ck g2) <| r_b (x_gi g2 0 rfl) <| r_l ?_
    rw [es]
    by_cases c1 : fs_ex (fs_V W) i = x
    · refine r_p c1 ?_
      by_cases c2 : fs_va (fs_V W) i k = -1
      · rw [show (if fs_ex (fs_V W) i = x then (if fs_va (fs_V W) i k = -1 then t else if fs_va (fs_V W) i k = y then (if fs_va (fs_V W) i w = -1 then t else t + fs_va (fs_V W) i w) else t) else t) = t by rw [if_pos c1, if_pos c2]]
        rw [if_pos c2] at h1
        exact r_b h1 <| r_p rfl (rec_ t)
      · rw [if_neg c2] at h1
        refine r_b h1 <| r_n (by decide) <| r_b (x_gr g2 1 rfl) <| r_b (x_aj g3 hk hk8 (by decide)) ?_
        by_cases c3 : fs_va (fs_V W) i k = y
        · by_cases c4 : fs_va (fs_V W) i w = -1
          · rw [show (if fs_ex (fs_V W) i = x then (if fs_va (fs_V W) i k = -1 then t else if fs_va (fs_V W) i k = y then (if fs_va (fs_V W) i w = -1 then t else t + fs_va (fs_V W) i w) else t) else t) = t by rw [if_pos c1, if_neg c2, if_pos c3, if_pos c4]]
            rw [if_pos c4] at h2
            exact r_p ((lg_0 _ _).mpr c3) <| r_b h2 <| r_p rfl (rec_ t)
          · rw [show (if fs_ex (fs_V W) i = x then (if fs_va (fs_V W) i k = -1 then t else if fs_va (fs_V W) i k = y then (if fs_va (fs_V W) i w = -1 then t else t + fs_va (fs_V W) i w) else t) else t) = t + fs_va (fs_V W) i w by rw [if_pos c1, if_neg c2, if_pos c3, if_neg c4]]
            rw [if_neg c4] at h2
            exact r_p ((lg_0 _ _).mpr c3) <| r_b h2 <| r_n (by decide) <| r_b (x_gr g2 1 rfl) <| r_b (x_aj g3 hw hw8 (by decide)) <| r_m (rec_ _)
        · rw [show (if fs_ex (fs_V W) i = x then (if fs_va (fs_V W) i k = -1 then t else if fs_va (fs_V W) i k = y then (if fs_va (fs_V W) i w = -1 then t else t + fs_va (fs_V W) i w) else t) else t) = t by rw [if_pos c1, if_neg c2, if_neg c3]]
          exact r_n (fun z => c3 ((lg_0 _ _).mp z)) (rec_ t)
    · rw [show (if fs_ex (fs_V W) i = x then (if fs_va (fs_V W) i k = -1 then t else if fs_va (fs_V W) i k = y then (if fs_va (fs_V W) i w = -1 then t else t + fs_va (fs_V W) i w) else t) else t) = t from if_neg c1]
      exact r_n c1 (rec_ t)
  | _, 0, _, _, _, h => absurd h (Nat.not_lt_zero _)
set_option maxRecDepth 100000 in
theorem p_Table_sumOf {ta la pa oa k w : Nat} {od pr x xk xw : Int32} {y : Int64} {W : List fs_Rw} {σ : fs_S} (e : σ.1 ta = some (fs_to la pa oa od pr)) (hW : fs_TR la W σ) (hl : W.length ≤ 80) (hk : xk = Int32.ofNat k) (hk8 : k < 8) (hw : xw = Int32.ofNat w) (hw8 : w < 8) : (fs_cv ta 6 (f_Table_sumOf ta x xk y xw)).1 σ = some (fs_s1 (fs_ex (fs_V W)) (fs_va (fs_V W)) x k y w W.length 0 0, σ) :=
  r_cv e <| s1_loop e hW hl hk hk8 hw hw8 W.length 4096 0 0 (by omega) (by omega)
/-! the collector -/
abbrev fs_Tq : Type := (Nat → Int32) × (Nat → Int32) × Int32 × Int32
def fs_CF (c1 : Nat) (A : Nat → Nat) (K S : List fs_Rp) (Q : fs_Tq) (W : List fs_Rw) (G1 G2 : fs_Lg) (h : List fs_C) : Prop := ∃ hk hs ht, h = [[(A 0, fs_ko A G1.1 G2.1)], hk, hs, ht, fs_gc_ G1, fs_gc_ G2].flatten ∧ fs_RF c1 (A 1) K hk ∧ fs_RF c1 (A 2) S hs ∧ fs_TF c1 (A 3) (A 4) (A 5) (A 6) Q.1 Q.2.1 Q.2.2.1 Q.2.2.2 W ht
theorem flat6 (A B C D E G F : List fs_C) : [A, B, C, D, E, G].flatten ++ F = [A, B, C, D, E, G, F].flatten := by simp [List.append_assoc]
theorem cf_rd {c1 : Nat} {A : Nat → Nat} {K S : List fs_Rp} {Q : fs_Tq} {W : List fs_Rw} {G1 G2 : fs_Lg} {h F : List fs_C} {σ : fs_S} (hX : fs_CF c1 A K S Q W G1 G2 h) (ho : fs_own (h ++ F) σ) :
    σ.1 (A 0) = some (fs_ko A G1.1 G2.1) ∧ fs_RR (A 1) K σ ∧ fs_RR (A 2) S σ ∧ (σ.1 (A 3) = some (fs_to (A 4) (A 5) (A 6) Q.2.2.1 Q.2.2.2) ∧ fs_TR (A 4) W σ) ∧ (σ.1 G1.1 = some (fs_lgo G1) ∧ σ.1 G1.2.1 = some (fs_za 600 G1.2.2.1)) ∧ σ.1 G2.1 = some (fs_lgo G2) ∧ σ.1 G2.2.1 = some (fs_za 600 G2.2.2.1) := by
  obtain ⟨hk, hs, ht, rfl, hK, hS, hT⟩ := hX
  rw [flat6] at ho
  obtain ⟨t1, -, -, t2⟩ := tf_rd hT (own_ix _ [3, 0, 1, 2, 4, 5, 6] rfl (by decide) ho)
  exact ⟨own_c ho 0 rfl List.mem_cons_self, rf_rd hK (own_ix _ [1, 0, 2, 3, 4, 5, 6] rfl (by decide) ho), rf_rd hS (own_ix _ [2, 0, 1, 3, 4, 5, 6] rfl (by decide) ho), ⟨t1, t2⟩, ⟨own_c ho 4 rfl List.mem_cons_self, own_c ho 4 rfl (List.mem_cons_of_mem _ List.mem_cons_self)⟩, own_c ho 5 rfl List.mem_cons_self, own_c ho 5 rfl (List.mem_cons_of_mem _ List.mem_cons_self)⟩
/-- one ledger taken out, and put back -/
theorem cf_g1 {c1 : Nat} {A : Nat → Nat} {K S : List fs_Rp} {Q : fs_Tq} {W : List fs_Rw} {G1 G2 : fs_Lg} {h F : List fs_C} {σ : fs_S} (hX : fs_CF c1 A K S Q W G1 G2 h) (ho : fs_own (h ++ F) σ) : ∃ F1, fs_own (fs_gc_ G1 ++ (F1 ++ F)) σ ∧ ∀ (G : fs_Lg) (σ1 : fs_S), G.1 = G1.1 → fs_own (fs_gc_ G ++ (F1 ++ F)) σ1 → ∃ h1, fs_CF c1 A K S Q W G G2 h1 ∧ fs_own (h1 ++ F) σ1 := by
  obtain ⟨hk, hs, ht, rfl, hK, hS, hT⟩ := hX
  rw [flat6] at ho
  refine ⟨[[(A 0, fs_ko A G1.1 G2.1)], hk, hs, ht, fs_gc_ G2].flatten, own_eq (own_ix _ [4, 0, 1, 2, 3, 5, 6] rfl (by decide) ho) (by simp), fun G σ1 hg o1 => ⟨_, ⟨hk, hs, ht, rfl, hK, hS, hT⟩, ?_⟩⟩
  rw [flat6, hg]
  exact own_ix [fs_gc_ G, [(A 0, fs_ko A G1.1 G2.1)], hk, hs, ht, fs_gc_ G2, F] [1, 2, 3, 4, 0, 5, 6] rfl (by decide) (own_eq o1 (by simp))
theorem cf_g2 {c1 : Nat} {A : Nat → Nat} {K S : List fs_Rp} {Q : fs_Tq} {W : List fs_Rw} {G1 G2 : fs_Lg} {h F : List fs_C} {σ : fs_S} (hX : fs_CF c1 A K S Q W G1 G2 h) (ho : fs_own (h ++ F) σ) : ∃ F1, fs_own (fs_gc_ G2 ++ (F1 ++ F)) σ ∧ ∀ (G : fs_Lg) (σ1 : fs_S), G.1 = G2.1 → fs_own (fs_gc_ G ++ (F1 ++ F)) σ1 → ∃ h1, fs_CF c1 A K S Q W G1 G h1 ∧ fs_own (h1 ++ F) σ1 := by
  obtain ⟨hk, hs, ht, rfl, hK, hS, hT⟩ := hX
  rw [flat6] at ho
  refine ⟨[[(A 0, fs_ko A G1.1 G2.1)], hk, hs, ht, fs_gc_ G1].flatten, own_eq (own_ix _ [5, 0, 1, 2, 3, 4, 6] rfl (by decide) ho) (by simp), fun G σ1 hg o1 => ⟨_, ⟨hk, hs, ht, rfl, hK, hS, hT⟩, ?_⟩⟩
  rw [flat6, hg]
  exact own_ix [fs_gc_ G, [(A 0, fs_ko A G1.1 G2.1)], hk, hs, ht, fs_gc_ G1, F] [1, 2, 3, 4, 5, 0, 6] rfl (by decide) (own_eq o1 (by simp))
theorem cf_mem {c1 : Nat} {A : Nat → Nat} {K S : List fs_Rp} {Q : fs_Tq} {W : List fs_Rw} {G1 G2 : fs_Lg} {h : List fs_C} (hX : fs_CF c1 A K S Q W G1 G2 h) : (A 0, fs_ko A G1.1 G2.1) ∈ h ∧ (∀ R ∈ K, (R.1, fs_ro R) ∈ h ∧ (R.2.1, fs_ia 64 R.2.2.2) ∈ h) := by
  obtain ⟨hk, hs, ht, rfl, hK, hS, hT⟩ := hX
  exact ⟨mem_c 0 rfl List.mem_cons_self, fun R hR => ⟨mem_c 1 rfl (rf_mem hK hR).1, mem_c 1 rfl (rf_mem hK hR).2⟩⟩
theorem cf_known {c1 : Nat} {A : Nat → Nat} {K S : List fs_Rp} {Q : fs_Tq} {W : List fs_Rw} {G1 G2 : fs_Lg} {R : fs_Rp} {h F : List fs_C} {σ : fs_S} (hX : fs_CF c1 A K S Q W G1 G2 h) (ho : fs_own (h ++ (fs_rc R ++ F)) σ) (hc : σ.2.2.1 1 = c1) (hk1 : ∃ q, σ.2.1 c1 = some (fs_oa 3 0 q)) (hl : K.length < 100) :
    ∃ σ1 h1, (fs_cv (A 1) 2 (f_ArrayList_add_0 (A 1) R.1)).1 σ = some (1, σ1) ∧ fs_CF c1 A (K ++ [R]) S Q W G1 G2 h1 ∧ fs_own (h1 ++ F) σ1 ∧ fs_st σ σ1 1 (10 + 2 * K.length) := by
  obtain ⟨hk, hs, ht, rfl, hK, hS, hT⟩ := hX
  rw [flat6] at ho
  obtain ⟨σ1, h1, w1, w2, w3, w4⟩ := rf_add (R := R) (F := [[(A 0, fs_ko A G1.1 G2.1)], hs, ht, fs_gc_ G1, fs_gc_ G2, F].flatten) hK (own_eq (own_ix [[(A 0, fs_ko A G1.1 G2.1)], hk, hs, ht, fs_gc_ G1, fs_gc_ G2, fs_rc R, F] [1, 6, 0, 2, 3, 4, 5, 7] rfl (by decide) (own_eq ho (by simp))) (by simp)) hc hk1 hl
  exact ⟨σ1, _, w1, ⟨h1, hs, ht, rfl, w2, hS, hT⟩, by rw [flat6]; exact own_ix [h1, [(A 0, fs_ko A G1.1 G2.1)], hs, ht, fs_gc_ G1, fs_gc_ G2, F] [1, 0, 2, 3, 4, 5, 6] rfl (by decide) (own_eq w3 (by simp)), w4⟩
theorem cf_shelf {c1 : Nat} {A : Nat → Nat} {K S : List fs_Rp} {Q : fs_Tq} {W : List fs_Rw} {G1 G2 : fs_Lg} {R : fs_Rp} {h F : List fs_C} {σ : fs_S} (hX : fs_CF c1 A K S Q W G1 G2 h) (ho : fs_own (h ++ (fs_rc R ++ F)) σ) (hc : σ.2.2.1 1 = c1) (hk1 : ∃ q, σ.2.1 c1 = some (fs_oa 3 0 q)) (hl : S.length < 100) :
    ∃ σ1 h1, (fs_cv (A 2) 2 (f_ArrayList_add_0 (A 2) R.1)).1 σ = some (1, σ1) ∧ fs_CF c1 A K (S ++ [R]) Q W G1 G2 h1 ∧ fs_own (h1 ++ F) σ1 ∧ fs_st σ σ1 1 (10 + 2 * S.length) := by
  obtain ⟨hk, hs, ht, rfl, hK, hS, hT⟩ := hX
  rw [flat6] at ho
  obtain ⟨σ1, h1, w1, w2, w3, w4⟩ := rf_add (R := R) (F := [[(A 0, fs_ko A G1.1 G2.1)], hk, ht, fs_gc_ G1, fs_gc_ G2, F].flatten) hS (own_eq (own_ix [[(A 0, fs_ko A G1.1 G2.1)], hk, hs, ht, fs_gc_ G1, fs_gc_ G2, fs_rc R, F] [2, 6, 0, 1, 3, 4, 5, 7] rfl (by decide) (own_eq ho (by simp))) (by simp)) hc hk1 hl
  exact ⟨σ1, _, w1, ⟨hk, h1, ht, rfl, hK, w2, hT⟩, by rw [flat6]; exact own_ix [h1, [(A 0, fs_ko A G1.1 G2.1)], hk, ht, fs_gc_ G1, fs_gc_ G2, F] [1, 2, 0, 3, 4, 5, 6] rfl (by decide) (own_eq w3 (by simp)), w4⟩
theorem cf_unshelf {c1 j : Nat} {A : Nat → Nat} {K S : List fs_Rp} {Q : fs_Tq} {W : List fs_Rw} {G1 G2 : fs_Lg} {R : fs_Rp} {h F : List fs_C} {σ : fs_S} (hX : fs_CF c1 A K S Q W G1 G2 h) (ho : fs_own (h ++ F) σ) (hR : S[j]? = some R) :
    ∃ σ1 h1, (fs_cv (A 2) 2 (f_ArrayList_remove (A 2) (Int32.ofNat j))).1 σ = some (R.1, σ1) ∧ fs_CF c1 A K (S.eraseIdx j) Q W G1 G2 h1 ∧ fs_own (h1 ++ (fs_rc R ++ F)) σ1 ∧ fs_st σ σ1 0 0 := by
  obtain ⟨hk, hs, ht, rfl, hK, hS, hT⟩ := hX
  rw [flat6] at ho
  obtain ⟨σ1, h1, w1, w2, w3, w4⟩ := rf_rem hS (own_ix _ [2, 0, 1, 3, 4, 5, 6] rfl (by decide) ho) hR
  exact ⟨σ1, _, w1, ⟨hk, h1, ht, rfl, hK, w2, hT⟩, by rw [flat6]; exact own_eq (own_ix [h1, fs_rc R, [(A 0, fs_ko A G1.1 G2.1)], hk, ht, fs_gc_ G1, fs_gc_ G2, F] [2, 3, 0, 4, 5, 6, 1, 7] rfl (by decide) (own_eq w3 (by simp))) (by simp), w4⟩
set_option maxRecDepth 100000 in
theorem cf_rows {R T : fs_Rp} {c1 nf n : Nat} {A : Nat → Nat} {K S : List fs_Rp} {Q : fs_Tq} {W : List fs_Rw} {G1 G2 : fs_Lg} {h F : List fs_C} {σ : fs_S} (hX : fs_CF c1 A K S Q W G1 G2 h) (hR : (R.1, fs_ro R) ∈ F) (hB : (R.2.1, fs_ia 64 R.2.2.2) ∈ F) (hu : R.2.2.1 ≤ 64) (hTK : T ∈ K ∨ (T.1, fs_ro T) ∈ F ∧ (T.2.1, fs_ia 64 T.2.2.2) ∈ F) (hg : fs_TG T.2.2.2 nf) (hn : R.2.2.2 5 = Int32.ofNat n) (hn1 : n ≤ 1000) (hW : W.length + n ≤ 80) (hc1 : σ.2.2.1 1 = c1) (hk1 : ∃ q, σ.2.1 c1 = some (fs_oa 3 0 q)) (ho : fs_own (h ++ F) σ) :
    ∃ σ1 h1 W1, (fs_cv (A 0) 5 (f_Collector_makeRows (A 0) R.1 T.1)).1 σ = some ((), σ1) ∧ fs_CF c1 A K S Q (W ++ W1) G1 G2 h1 ∧ W1.map (fun w => w.2.2) = fs_mr R.2.2.1 R.2.2.2 T.2.2.2 nf n (7, 0) ∧ fs_own (h1 ++ F) σ1 ∧ fs_st σ σ1 (1 + 3 * n) (3 + (fs_pot (W.length + n) - fs_pot W.length)) := by
  obtain ⟨hk, hs, ht, rfl, hK, hS, hTF⟩ := hX
  rw [flat6] at ho
  have hT2 : (T.1, fs_ro T) ∈ [[(A 0, fs_ko A G1.1 G2.1)], hk, hs, fs_gc_ G1, fs_gc_ G2, F].flatten ∧ (T.2.1, fs_ia 64 T.2.2.2) ∈ [[(A 0, fs_ko A G1.1 G2.1)], hk, hs, fs_gc_ G1, fs_gc_ G2, F].flatten := by
    rcases hTK with h | h
    · exact ⟨mem_c 1 rfl (rf_mem hK h).1, mem_c 1 rfl (rf_mem hK h).2⟩
    · exact ⟨mem_c 5 rfl h.1, mem_c 5 rfl h.2⟩
  obtain ⟨σ1, h1, W1, k1, k2, k3, k4, k5⟩ := p_Collector_makeRows (co := A 0) (F := [[(A 0, fs_ko A G1.1 G2.1)], hk, hs, fs_gc_ G1, fs_gc_ G2, F].flatten) hTF (mem_c 0 rfl List.mem_cons_self) (mem_c 5 rfl hR) (mem_c 5 rfl hB) hu hT2.1 hT2.2 hg hn hn1 hW hc1 hk1 (own_eq (own_ix _ [3, 0, 1, 2, 4, 5, 6] rfl (by decide) ho) (by simp))
  exact ⟨σ1, _, W1, k1, ⟨hk, hs, h1, rfl, hK, hS, k2⟩, k3, by rw [flat6]; exact own_ix [h1, [(A 0, fs_ko A G1.1 G2.1)], hk, hs, fs_gc_ G1, fs_gc_ G2, F] [1, 2, 3, 0, 4, 5, 6] rfl (by decide) (own_eq k4 (by simp)), k5⟩
