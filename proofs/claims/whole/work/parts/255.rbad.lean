theorem bt_01 (f : Nat → Int32) : ∀ (m i : Nat) (s : Int32), fs_bt f m i s = 0 ∨ fs_bt f m i s = 1
  | 0, _, _ => Or.inl rfl
  | m + 1, i, s => by
    have es : fs_bt f (m + 1) i s = if 8 ≤ f (6 + 2 * i) then 1 else if s &&& (1 <<< (f (6 + 2 * i) &&& 31)) = 0 then (if f (6 + 2 * i + 1) ≤ 4 then fs_bt f m (i + 1) (s ||| (1 <<< (f (6 + 2 * i) &&& 31))) else 1) else 1 := rfl
    rw [es]
    split
    · exact Or.inr rfl
    · split
      · split
        · exact bt_01 f m (i + 1) _
        · exact Or.inr rfl
      · exact Or.inr rfl
theorem lt_le1 {x : Int32} {n : Nat} (hn : n + 1 < 2 ^ 31) : Int32.ofNat n < x ↔ Int32.ofNat (n + 1) ≤ x := by
  rw [Int32.lt_iff_toInt_lt, Int32.le_iff_toInt_le, Int32.toInt_ofNat_of_lt (by omega), Int32.toInt_ofNat_of_lt hn]
  omega
theorem w_bf {A : Nat → Nat} {u n : Nat} {f : Nat → Int32} {S : fs_R} (hb : fs_buf u f S) (hf : fs_by f) (h5 : f 5 = Int32.ofNat n) (hn : n ≤ 8) (hu : u = 6 + 2 * n) : ∀ (m fuel i s : Nat) (b : Int32), i + m = n → m < fuel → s < 256 → b = 0 ∨ b = 1 →
    fs_W A (fs_lp3 fuel (lb_Rf_badFields_6 (A 0)) (Int32.ofNat s) b (Int32.ofNat i)) S fun r S1 => S1 = S ∧ r = if b = 0 then fs_bt f m i (Int32.ofNat s) else 1
  | 0, fuel + 1, i, s, b, hi, _, _, hb01 => by
    refine w_lp3 <| w_gr 46 rfl <| w_ai (j := 5) m46 rfl (by omega) ?_
    rw [hb.2 5 (by omega), h5]
    refine w_p ((n_le (by omega) (by omega)).mpr (by omega)) <| w_rz hb01 ⟨rfl, ?_⟩
    rcases hb01 with rfl | rfl
    · rfl
    · rfl
  | m + 1, fuel + 1, i, s, b, hi, hfu, hs, hb01 => by
    have e6 : (6 : Int32) + 2 * Int32.ofNat i = Int32.ofNat (6 + 2 * i) := by
      rw [Int32.ofNat_add, Int32.ofNat_mul]
      rfl
    have e7 : (7 : Int32) + 2 * Int32.ofNat i = Int32.ofNat (6 + 2 * i + 1) := by
      rw [show 6 + 2 * i + 1 = 7 + 2 * i by omega, Int32.ofNat_add, Int32.ofNat_mul]
      rfl
    obtain ⟨p1, p2⟩ := by_ge hf (6 + 2 * i)
    have es : fs_bt f (m + 1) i (Int32.ofNat s) = if 8 ≤ f (6 + 2 * i) then 1 else if Int32.ofNat s &&& (1 <<< (f (6 + 2 * i) &&& 31)) = 0 then (if f (6 + 2 * i + 1) ≤ 4 then fs_bt f m (i + 1) (Int32.ofNat s ||| (1 <<< (f (6 + 2 * i) &&& 31))) else 1) else 1 := rfl
    have one : ∀ s', s' < 256 → fs_W A (fs_lp3 fuel (lb_Rf_badFields_6 (A 0)) (Int32.ofNat s') 1 (Int32.ofNat i + 1)) S fun r S1 => S1 = S ∧ r = 1 := fun s' hs' => by
      rw [ofNat_add1]
      exact w_mono (w_bf hb hf h5 hn hu m fuel (i + 1) s' 1 (by omega) (by omega) hs' (Or.inr rfl)) fun r S1 ⟨a, b⟩ => ⟨a, b⟩
    refine w_lp3 <| w_gr 46 rfl <| w_ai (j := 5) m46 rfl (by omega) ?_
    rw [hb.2 5 (by omega), h5]
    refine w_n (fun z => ?_) <| w_gr 46 rfl <| w_ai (j := 6 + 2 * i) m46 e6 (by omega) ?_
    · have := (n_le (by omega) (by omega)).mp z
      omega
    · rw [hb.2 _ (by omega)]
      refine w_l <| w_l ?_
      rcases hb01 with rfl | rfl
      · refine w_mono (P := fun r S1 => S1 = S ∧ r = fs_bt f (m + 1) i (Int32.ofNat s)) ?_ (fun r S1 h => h)
        refine w_p rfl ?_
        by_cases h8 : 8 ≤ f (6 + 2 * i)
        · exact w_p ((lt_le1 (n := 7) (by decide)).mpr h8) <| w_l <| w_n (by decide) <| w_m <| w_mono (one s hs) fun r S1 ⟨a, b⟩ => ⟨a, by rw [b, es, if_pos h8]⟩
        · have hj8 : (f (6 + 2 * i)).toNatClampNeg < 8 := by
            rw [p1] at h8
            exact Nat.lt_of_not_le fun z => h8 ((n_le (x := 8) (by decide) (by omega)).mpr z)
          obtain ⟨b1, b2⟩ := seen_i hs hj8
          rw [← p1] at b1 b2
          refine w_n (fun z => h8 ((lt_le1 (n := 7) (by decide)).mp z)) ?_
          by_cases hz : Int32.ofNat s &&& (1 <<< (f (6 + 2 * i) &&& 31)) = 0
          · refine w_n (b1.mp hz) <| w_gr 46 rfl <| w_ai (j := 6 + 2 * i + 1) m46 e7 (by omega) ?_
            rw [hb.2 _ (by omega)]
            by_cases h4 : f (6 + 2 * i + 1) ≤ 4
            · refine w_p h4 <| w_l <| w_p rfl <| w_m ?_
              rw [b2, ofNat_add1]
              exact w_mono (w_bf hb hf h5 hn hu m fuel (i + 1) _ 0 (by omega) (by omega) (seen_bit s hs _ hj8).2 (Or.inl rfl)) fun r S1 ⟨a, b⟩ => ⟨a, by rw [b, if_pos rfl, es, if_neg h8, if_pos hz, if_pos h4, b2]⟩
            · exact w_n h4 <| w_l <| w_n (by decide) <| w_m <| w_mono (one s hs) fun r S1 ⟨a, b⟩ => ⟨a, by rw [b, es, if_neg h8, if_pos hz, if_neg h4]⟩
          · have h1 : ((Int32.ofNat s >>> (f (6 + 2 * i) &&& 31)) &&& 1) = 1 := Decidable.byContradiction fun w => hz (b1.mpr w)
            exact w_p h1 <| w_l <| w_n (by decide) <| w_m <| w_mono (one s hs) fun r S1 ⟨a, b⟩ => ⟨a, by rw [b, es, if_neg h8, if_neg hz]⟩
      · exact w_n (by decide) <| w_l <| w_n (by decide) <| w_m <| one s hs
  | _, 0, _, _, _, _, h, _, _ => absurd h (Nat.not_lt_zero _)
theorem bD_T {u : Nat} {f : Nat → Int32} (h0 : f 0 = 0 ∨ f 0 = 1) (h1 : f 1 ≤ 5) : fs_bD u f = (if f 2 = 0 then (if (if 3 ≤ f 3 then (1 : Int32) else if f 4 = 0 then 1 else 0) = 0 then (if fs_bT u f = 0 then 0 else 1) else 1) else if f 2 = 1 then (if (if 3 ≤ f 3 then (1 : Int32) else if f 4 = 0 then 1 else 0) = 0 then (if (if Int32.ofNat u < 7 ∨ f 5 = 0 ∨ ¬ f 6 + f 5 ≤ 100 then (1 : Int32) else 0) = 0 then 0 else 1) else 1) else if f 2 = 2 then (if Int32.ofNat u = 5 then (if f 4 < 1 then 1 else if f 4 ≤ 9 then 0 else 1) else 1) else 1) := by
  unfold fs_bD
  have e0 : ¬ (if f 0 = 0 then (1 : Int32) else if f 0 = 1 then 1 else 0) = 0 := by
    rcases h0 with h0 | h0
    · rw [if_pos h0]; decide
    · by_cases z : f 0 = 0
      · rw [if_pos z]; decide
      · rw [if_neg z, if_pos h0]; decide
  rw [if_neg e0, if_pos h1]
set_option maxRecDepth 100000 in
theorem w_isBad {A : Nat → Nat} {u : Nat} {f : Nat → Int32} {S : fs_R} (hb : fs_buf u f S) (hf : fs_by f) (hu5 : 5 ≤ u) (hu : u ≤ 64) : fs_W A (fs_cv (A 0) 12 (f_Rf_isBad (A 0))) S fun r S1 => S1 = S ∧ r = fs_bD u f := by
  obtain ⟨a0, b0⟩ := by_ge hf 0
  obtain ⟨a2, b2⟩ := by_ge hf 2
  obtain ⟨a5, b5⟩ := by_ge hf 5
  have h5u : u < 2 ^ 31 := by omega
  refine w_cv <| w_gr 46 rfl <| w_ai (j := 0) m46 rfl (by decide) ?_
  rw [hb.2 0 (by omega)]
  refine w_i (fun h => w_rz (Or.inr rfl) ⟨rfl, ?_⟩) fun h0 => ?_
  · have hn : ¬ (f 0 = 0 ∨ f 0 = 1) := fun z => by
      rcases z with z | z
      · rw [z] at h; exact absurd h (by decide)
      · rw [z] at h; exact absurd h (by decide)
    unfold fs_bD
    rw [if_neg (fun z => hn (Or.inl z)), if_neg (fun z => hn (Or.inr z)), if_pos rfl]
  · have h01 : f 0 = 0 ∨ f 0 = 1 := by
      rw [a0] at h0 ⊢
      have : (f 0).toNatClampNeg ≤ 1 := Nat.le_of_not_lt fun z => h0 ((n_lt (x := 1) (by decide) (by omega)).mpr z)
      have h2 : (f 0).toNatClampNeg = 0 ∨ (f 0).toNatClampNeg = 1 := by omega
      rcases h2 with h2 | h2
      · rw [h2]; exact Or.inl rfl
      · rw [h2]; exact Or.inr rfl
    refine w_gr 46 rfl <| w_ai (j := 1) m46 rfl (by decide) ?_
    rw [hb.2 1 (by omega)]
    refine w_i (fun h => w_rz (Or.inr rfl) ⟨rfl, ?_⟩) fun h1 => ?_
    · unfold fs_bD
      by_cases e0 : (if f 0 = 0 then (1 : Int32) else if f 0 = 1 then 1 else 0) = 0
      · rw [if_pos e0]
      · rw [if_neg e0, if_neg (Int32.not_le.mpr h)]
    · have h15 : f 1 ≤ 5 := Int32.not_lt.mp h1
      have hd := bD_T (u := u) h01 h15
      refine w_gr 46 rfl <| w_ai (j := 2) m46 rfl (by decide) ?_
      rw [hb.2 2 (by omega)]
      refine w_i (fun h2 => ?_) fun h2 => w_rz (Or.inr rfl) ⟨rfl, ?_⟩
      · refine w_gr 46 rfl <| w_ai (j := 2) m46 rfl (by decide) ?_
        rw [hb.2 2 (by omega)]
        by_cases k2 : f 2 = 2
        · rw [if_neg (by rw [k2]; decide), if_neg (by rw [k2]; decide), if_pos k2] at hd
          refine w_p k2 <| w_gi 45 rfl ?_
          rw [hb.1]
          by_cases hu5' : Int32.ofNat u = 5
          · refine w_p hu5' <| w_gr 46 rfl <| w_ai (j := 4) m46 rfl (by decide) ?_
            rw [hb.2 4 (by omega)]
            by_cases h41 : f 4 < 1
            · exact w_p h41 <| w_rz (Or.inr rfl) ⟨rfl, by rw [hd, if_pos hu5', if_pos h41]⟩
            · refine w_n h41 <| w_gr 46 rfl <| w_ai (j := 4) m46 rfl (by decide) ?_
              rw [hb.2 4 (by omega)]
              by_cases h49 : f 4 ≤ 9
              · exact w_p h49 <| w_rz (Or.inl rfl) ⟨rfl, by rw [hd, if_pos hu5', if_neg h41, if_pos h49]⟩
              · exact w_n h49 <| w_rz (Or.inr rfl) ⟨rfl, by rw [hd, if_pos hu5', if_neg h41, if_neg h49]⟩
          · exact w_n hu5' <| w_rz (Or.inr rfl) ⟨rfl, by rw [hd, if_neg hu5']⟩
        · refine w_n k2 <| w_gr 46 rfl <| w_ai (j := 3) m46 rfl (by decide) ?_
          rw [hb.2 3 (by omega)]
          have k01 : f 2 = 0 ∨ f 2 = 1 := by
            have : (f 2).toNatClampNeg ≤ 2 := i_le (n := 2) h2 (by decide)
            have h3 : (f 2).toNatClampNeg = 0 ∨ (f 2).toNatClampNeg = 1 ∨ (f 2).toNatClampNeg = 2 := by omega
            rcases h3 with h3 | h3 | h3
            · exact Or.inl (by rw [a2, h3]; rfl)
            · exact Or.inr (by rw [a2, h3]; rfl)
            · exact absurd (show f 2 = 2 by rw [a2, h3]; rfl) k2
          have hall : fs_bD u f = 1 ∨ ¬ 3 ≤ f 3 ∧ ¬ f 4 = 0 := by
            by_cases c3 : 3 ≤ f 3
            · refine Or.inl ?_
              rw [hd]
              rcases k01 with k | k
              · rw [if_pos k, if_pos c3]; rfl
              · rw [if_neg (by rw [k]; decide), if_pos k, if_pos c3]; rfl
            · by_cases c4 : f 4 = 0
              · refine Or.inl ?_
                rw [hd]
                rcases k01 with k | k
                · rw [if_pos k, if_neg c3, if_pos c4]; rfl
                · rw [if_neg (by rw [k]; decide), if_pos k, if_neg c3, if_pos c4]; rfl
              · exact Or.inr ⟨c3, c4⟩
          refine w_i (fun c3 => w_rz (Or.inr rfl) ⟨rfl, ?_⟩) fun c3 => ?_
          · exact (hall.elim id (fun z => absurd ((lt_le1 (n := 2) (by decide)).mp c3) z.1)).symm
          · have c3' : ¬ 3 ≤ f 3 := fun z => c3 ((lt_le1 (n := 2) (by decide)).mpr z)
            refine w_gr 46 rfl <| w_ai (j := 4) m46 rfl (by decide) ?_
            rw [hb.2 4 (by omega)]
            refine w_i (fun c4 => w_rz (Or.inr rfl) ⟨rfl, ?_⟩) fun c4 => ?_
            · exact (hall.elim id (fun z => absurd c4 z.2)).symm
            · have e34 : (if 3 ≤ f 3 then (1 : Int32) else if f 4 = 0 then 1 else 0) = 0 := by rw [if_neg c3', if_neg c4]
              rw [e34] at hd
              refine w_gr 46 rfl <| w_ai (j := 2) m46 rfl (by decide) ?_
              rw [hb.2 2 (by omega)]
              rcases k01 with k | k
              · rw [if_pos k, if_pos rfl] at hd
                refine w_n (by rw [k]; decide) <| w_gi 45 rfl ?_
                rw [hb.1]
                have hbT : fs_bT u f = if f 5 < 1 then 1 else if 8 < f 5 then 1 else if Int32.ofNat u = 6 + 2 * f 5 then fs_bt f (f 5).toNatClampNeg 0 0 else 1 := rfl
                have e62 : (6 : Int32) + 2 * f 5 = Int32.ofNat (6 + 2 * (f 5).toNatClampNeg) := by
                  conv => lhs; rw [a5]
                  rw [Int32.ofNat_add, Int32.ofNat_mul]
                  rfl
                have bad1 : fs_bT u f = 1 → (1 : Int32) = fs_bD u f := fun z => by
                  rw [hd, z]
                  rfl
                by_cases hu6 : u < 6
                · have hbT1 : fs_bT u f = 1 := by
                    rw [hbT]
                    by_cases q1 : f 5 < 1
                    · rw [if_pos q1]
                    · rw [if_neg q1]
                      by_cases q2 : 8 < f 5
                      · rw [if_pos q2]
                      · rw [if_neg q2, if_neg]
                        rw [e62]
                        exact fun z => by have := n_inj h5u (by omega) z; omega
                  exact w_p ((n_lt (y := 6) (by omega) (by decide)).mpr hu6) <| w_rz (Or.inr rfl) ⟨rfl, bad1 hbT1⟩
                · refine w_n (fun z => hu6 ((n_lt (y := 6) (by omega) (by decide)).mp z)) <| w_gr 46 rfl <| w_ai (j := 5) m46 rfl (by decide) ?_
                  rw [hb.2 5 (by omega)]
                  by_cases q0 : f 5 = 0
                  · have hbT1 : fs_bT u f = 1 := by rw [hbT, if_pos (by rw [q0]; decide)]
                    exact w_p q0 <| w_rz (Or.inr rfl) ⟨rfl, bad1 hbT1⟩
                  · have q1 : ¬ f 5 < 1 := fun z => q0 (by
                      rw [a5] at z ⊢
                      have := (n_lt (y := 1) (by omega) (by decide)).mp z
                      have h00 : (f 5).toNatClampNeg = 0 := by omega
                      rw [h00]; rfl)
                    rw [if_neg q1] at hbT
                    refine w_n q0 <| w_gr 46 rfl <| w_ai (j := 5) m46 rfl (by decide) ?_
                    rw [hb.2 5 (by omega)]
                    by_cases q8 : 8 < f 5
                    · rw [if_pos q8] at hbT
                      exact w_p q8 <| w_rz (Or.inr rfl) ⟨rfl, bad1 hbT⟩
                    · rw [if_neg q8] at hbT
                      refine w_n q8 <| w_gi 45 rfl <| w_gr 46 rfl <| w_ai (j := 5) m46 rfl (by decide) ?_
                      rw [hb.1, hb.2 5 (by omega)]
                      by_cases q6 : Int32.ofNat u = 6 + 2 * f 5
                      · rw [if_pos q6] at hbT
                        have hun : u = 6 + 2 * (f 5).toNatClampNeg := n_inj h5u (by omega) (q6.trans e62)
                        have hn8 : (f 5).toNatClampNeg ≤ 8 := i_le (n := 8) (Int32.not_lt.mp q8) (by decide)
                        refine w_p q6 <| w_b (w_cv (w_bf hb hf a5 hn8 hun (f 5).toNatClampNeg 4096 0 0 0 (by omega) (by omega) (by decide) (Or.inl rfl))) fun r S1 ⟨g1, g2⟩ => ?_
                        subst g1
                        have g3 : r = fs_bT u f := g2.trans hbT.symm
                        subst g3
                        exact w_i (fun z => w_rz (Or.inl rfl) ⟨rfl, by rw [hd, if_pos z]⟩) fun z => w_rz (Or.inr rfl) ⟨rfl, by rw [hd, if_neg z]⟩
                      · rw [if_neg q6] at hbT
                        exact w_n q6 <| w_rz (Or.inr rfl) ⟨rfl, bad1 hbT⟩
              · rw [if_neg (by rw [k]; decide), if_pos k, if_pos rfl] at hd
                have bad2 : (Int32.ofNat u < 7 ∨ f 5 = 0 ∨ ¬ f 6 + f 5 ≤ 100) → (1 : Int32) = fs_bD u f := fun z => by
                  rw [hd, if_pos z]
                  rfl
                refine w_p k <| w_gi 45 rfl ?_
                rw [hb.1]
                by_cases hu7 : Int32.ofNat u < 7
                · exact w_p hu7 <| w_rz (Or.inr rfl) ⟨rfl, bad2 (Or.inl hu7)⟩
                · have hu7' : 7 ≤ u := Nat.le_of_not_lt fun z => hu7 ((n_lt (y := 7) (by omega) (by decide)).mpr z)
                  refine w_n hu7 <| w_gr 46 rfl <| w_ai (j := 5) m46 rfl (by decide) ?_
                  rw [hb.2 5 (by omega)]
                  by_cases q0 : f 5 = 0
                  · exact w_p q0 <| w_rz (Or.inr rfl) ⟨rfl, bad2 (Or.inr (Or.inl q0))⟩
                  · refine w_n q0 <| w_gr 46 rfl <| w_ai (j := 6) m46 rfl (by decide) <| w_gr 46 rfl <| w_ai (j := 5) m46 rfl (by decide) ?_
                    rw [hb.2 6 (by omega), hb.2 5 (by omega)]
                    by_cases q6 : f 6 + f 5 ≤ 100
                    · refine w_p q6 <| w_rz (Or.inl rfl) ⟨rfl, ?_⟩
                      rw [hd, if_neg (show ¬ (Int32.ofNat u < 7 ∨ f 5 = 0 ∨ ¬ f 6 + f 5 ≤ 100) from fun z => z.elim hu7 (fun z => z.elim q0 (fun z => z q6)))]
                      rfl
                    · exact w_n q6 <| w_rz (Or.inr rfl) ⟨rfl, bad2 (Or.inr (Or.inr q6))⟩
      · rw [hd, if_neg (fun z => h2 (by rw [z]; decide)), if_neg (fun z => h2 (by rw [z]; decide)), if_neg (fun z => h2 (by rw [z]; decide))]
