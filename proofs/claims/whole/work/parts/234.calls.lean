/-! hearing, and what the collector tells -/
def fs_by (f : Nat → Int32) : Prop := ∀ i, ∃ b, b ≤ 255 ∧ f i = Int32.ofNat b
theorem by_ge {f : Nat → Int32} (h : fs_by f) (i : Nat) : f i = Int32.ofNat (f i).toNatClampNeg ∧ (f i).toNatClampNeg ≤ 255 := by
  obtain ⟨b, hb, e⟩ := h i
  have : (f i).toNatClampNeg = b := by rw [e]; exact Int32.toNatClampNeg_ofNat_of_lt (by omega)
  rw [this]
  exact ⟨e, hb⟩
theorem bt_good {f : Nat → Int32} (hf : fs_by f) : ∀ (m i : Nat) (sn : Int32), fs_bt f m i sn = 0 → ∀ j, i ≤ j → j < i + m → (∃ l, l ≤ 4 ∧ f (6 + 2 * j + 1) = Int32.ofNat l) ∧ ∃ k, k < 8 ∧ f (6 + 2 * j) = Int32.ofNat k
  | 0, i, sn, _, j, h1, h2 => by omega
  | m + 1, i, sn, h, j, h1, h2 => by
    have es : fs_bt f (m + 1) i sn = if 8 ≤ f (6 + 2 * i) then 1 else if sn &&& (1 <<< (f (6 + 2 * i) &&& 31)) = 0 then (if f (6 + 2 * i + 1) ≤ 4 then fs_bt f m (i + 1) (sn ||| (1 <<< (f (6 + 2 * i) &&& 31))) else 1) else 1 := rfl
    rw [es] at h
    by_cases c1 : 8 ≤ f (6 + 2 * i)
    · rw [if_pos c1] at h
      cases h
    · rw [if_neg c1] at h
      by_cases c2 : sn &&& (1 <<< (f (6 + 2 * i) &&& 31)) = 0
      · rw [if_pos c2] at h
        by_cases c3 : f (6 + 2 * i + 1) ≤ 4
        · rw [if_pos c3] at h
          by_cases hj : j = i
          · subst hj
            obtain ⟨a1, a2⟩ := by_ge hf (6 + 2 * j)
            obtain ⟨b1, b2⟩ := by_ge hf (6 + 2 * j + 1)
            refine ⟨⟨_, ?_, b1⟩, _, ?_, a1⟩
            · rw [b1] at c3
              exact (Int32.ofNat_le_ofNat (n := 4) (by omega) (by omega)).mp c3
            · rw [a1] at c1
              exact Nat.lt_of_not_le fun z => c1 ((Int32.ofNat_le_ofNat (k := 8) (by omega) (by omega)).mpr z)
          · exact bt_good hf m (i + 1) _ h j (by omega) (by omega)
        · rw [if_neg c3] at h
          cases h
      · rw [if_neg c2] at h
        cases h
theorem bD_0 {u : Nat} {f : Nat → Int32} (hb : fs_bD u f = 0) : (f 0 = 0 ∨ f 0 = 1) ∧ f 1 ≤ 5 ∧ ((f 2 = 0 ∧ ¬ 3 ≤ f 3 ∧ ¬ f 4 = 0 ∧ fs_bT u f = 0) ∨ (f 2 = 1 ∧ ¬ 3 ≤ f 3 ∧ ¬ f 4 = 0 ∧ ¬ Int32.ofNat u < 7 ∧ ¬ f 5 = 0 ∧ f 6 + f 5 ≤ 100) ∨ (¬ f 2 = 0 ∧ ¬ f 2 = 1 ∧ f 2 = 2)) := by
  unfold fs_bD at hb
  by_cases h0 : f 0 = 0 ∨ f 0 = 1
  · have e0 : ¬ (if f 0 = 0 then (1 : Int32) else if f 0 = 1 then 1 else 0) = 0 := by
      rcases h0 with h0 | h0
      · rw [if_pos h0]; decide
      · by_cases z : f 0 = 0
        · rw [if_pos z]; decide
        · rw [if_neg z, if_pos h0]; decide
    rw [if_neg e0] at hb
    by_cases h1 : f 1 ≤ 5
    · rw [if_pos h1] at hb
      refine ⟨h0, h1, ?_⟩
      have e3 : ((if 3 ≤ f 3 then (1 : Int32) else if f 4 = 0 then 1 else 0) = 0) → ¬ 3 ≤ f 3 ∧ ¬ f 4 = 0 := fun z => by
        by_cases c : 3 ≤ f 3
        · rw [if_pos c] at z; cases z
        · rw [if_neg c] at z
          by_cases d : f 4 = 0
          · rw [if_pos d] at z; cases z
          · exact ⟨c, d⟩
      by_cases k0 : f 2 = 0
      · rw [if_pos k0] at hb
        by_cases c : (if 3 ≤ f 3 then (1 : Int32) else if f 4 = 0 then 1 else 0) = 0
        · rw [if_pos c] at hb
          by_cases d : fs_bT u f = 0
          · exact Or.inl ⟨k0, (e3 c).1, (e3 c).2, d⟩
          · rw [if_neg d] at hb; cases hb
        · rw [if_neg c] at hb; cases hb
      · rw [if_neg k0] at hb
        by_cases k1 : f 2 = 1
        · rw [if_pos k1] at hb
          by_cases c : (if 3 ≤ f 3 then (1 : Int32) else if f 4 = 0 then 1 else 0) = 0
          · rw [if_pos c] at hb
            by_cases d : Int32.ofNat u < 7 ∨ f 5 = 0 ∨ ¬ f 6 + f 5 ≤ 100
            · rw [if_pos d] at hb; cases hb
            · exact Or.inr (Or.inl ⟨k1, (e3 c).1, (e3 c).2, fun z => d (Or.inl z), fun z => d (Or.inr (Or.inl z)), Decidable.byContradiction fun z => d (Or.inr (Or.inr z))⟩)
          · rw [if_neg c] at hb; cases hb
        · rw [if_neg k1] at hb
          by_cases k2 : f 2 = 2
          · exact Or.inr (Or.inr ⟨k0, k1, k2⟩)
          · rw [if_neg k2] at hb; cases hb
    · rw [if_neg h1] at hb; cases hb
  · have e0 : (if f 0 = 0 then (1 : Int32) else if f 0 = 1 then 1 else 0) = 0 := by
      rw [if_neg (fun z => h0 (Or.inl z)), if_neg (fun z => h0 (Or.inr z))]
    rw [if_pos e0] at hb
    cases hb
theorem good_T {u : Nat} {f : Nat → Int32} (hf : fs_by f) (hb : fs_bT u f = 0) : fs_TG f (f 5).toNatClampNeg ∧ 1 ≤ (f 5).toNatClampNeg := by
  unfold fs_bT at hb
  obtain ⟨a1, a2⟩ := by_ge hf 5
  by_cases c1 : f 5 < 1
  · rw [if_pos c1] at hb; cases hb
  · rw [if_neg c1] at hb
    by_cases c2 : 8 < f 5
    · rw [if_pos c2] at hb; cases hb
    · rw [if_neg c2] at hb
      by_cases c3 : Int32.ofNat u = 6 + 2 * f 5
      · rw [if_pos c3] at hb
        refine ⟨⟨a1, i_le (n := 8) (Int32.not_lt.mp c2) (by decide), fun i hi => bt_good hf _ 0 0 hb i (Nat.zero_le _) (by omega)⟩, ?_⟩
        rw [a1] at c1
        exact Nat.le_of_not_lt fun z => c1 ((Int32.ofNat_lt_ofNat (n := 1) (by omega) (by omega)).mpr z)
      · rw [if_neg c3] at hb; cases hb
theorem good_R {u : Nat} {f : Nat → Int32} (hf : fs_by f) (h1 : f 1 ≤ 5) (h65 : f 6 + f 5 ≤ 100) : f 5 = Int32.ofNat (fs_nR f) ∧ f 1 = Int32.ofNat (f 1).toNatClampNeg ∧ f 6 = Int32.ofNat (f 6).toNatClampNeg ∧ (f 1).toNatClampNeg ≤ 5 ∧ (f 6).toNatClampNeg + fs_nR f ≤ 100 := by
  obtain ⟨a1, a2⟩ := by_ge hf 5
  obtain ⟨b1, b2⟩ := by_ge hf 6
  obtain ⟨c1, c2⟩ := by_ge hf 1
  refine ⟨a1, c1, b1, i_le (n := 5) h1 (by decide), ?_⟩
  have a3 : fs_nR f ≤ 255 := a2
  have a4 : f 5 = Int32.ofNat (fs_nR f) := a1
  rw [a4, b1, ← Int32.ofNat_add] at h65
  exact (Int32.ofNat_le_ofNat (n := 100) (by omega) (by omega)).mp h65
def fs_two {α : Type} (a b : α) : Nat → α := fun k => if k = 0 then a else b
theorem c_hear0 {c1 : Nat} {A : Nat → Nat} {Z : fs_Z} {h F : List fs_C} {σ : fs_S} (hX : fs_WF c1 A Z h) (ho : fs_own (h ++ F) σ) (hl : (z_R Z).length ≤ 30) (x : Int32) :
    ((x < 0 ∨ Int32.ofNat (z_R Z).length ≤ x) → fs_Rn c1 A F σ (fs_cv (A 7) 0 (f_Fs_hear (A 7) x)) (.inr fs_IOB) Z) ∧
    (∀ r R, x = Int32.ofNat r → (z_R Z)[r]? = some R → ¬ fs_bD R.2.2.1 R.2.2.2 = 0 → fs_Rn c1 A F σ (fs_cv (A 7) 0 (f_Fs_hear (A 7) x)) (.inr fs_IAE) Z) := by
  have e := (wf_rd hX ho).1
  obtain ⟨h1, h2⟩ := p_reportOf hX ho hl x
  refine ⟨fun hb => rn_thr hX ho (r_cv e <| r_be (h1 hb)), fun r R hx hR hb => ?_⟩
  obtain ⟨q1, q2, q3⟩ := h2 r R hx hR
  exact rn_thr hX ho (r_cv e <| r_bx q1 <| r_b (p_Report_isBad q2 q3) <| r_n hb (x_throw _ _))
theorem c_hearT {c1 r : Nat} {A : Nat → Nat} {Z : fs_Z} {R : fs_Rp} {h F : List fs_C} {σ : fs_S} (hX : fs_WF c1 A Z h) (ho : fs_own (h ++ F) σ) (hc : fs_kc c1 σ) (hl : (z_R Z).length ≤ 30) (hR : (z_R Z)[r]? = some R) (hb : fs_bD R.2.2.1 R.2.2.2 = 0) (h2 : R.2.2.2 2 = 0) (hf : fs_by R.2.2.2) (hK : (z_K Z).length ≤ 20) (hS : (z_S Z).length ≤ 5) (hSG : ∀ R ∈ z_S Z, fs_RG R) (hW : (z_W Z).length ≤ 80) :
    ∃ ans K1 S1 W1 p1 p2, fs_Rn c1 A F σ (fs_cv (A 7) 0 (f_Fs_hear (A 7) (Int32.ofNat r))) ans (Z.1, Z.2.1, K1, S1, z_Q Z, W1, z_H Z, fs_two p1 p2) ∧
      ((fs_kt R.2.2.2 (z_K Z) 0 ≠ none ∧ ans = .inl 0 ∧ K1 = z_K Z ∧ S1 = z_S Z ∧ W1 = z_W Z ∧ p1 = z_q Z 0 ∧ p2 = z_q Z 1) ∨
       (fs_kt R.2.2.2 (z_K Z) 0 = none ∧ (20 ≤ (z_K Z).length ∨ 80 < (z_W Z).length + fs_rwn R.2.2.2 (z_S Z)) ∧ ans = .inr "java/lang/UnsupportedOperationException" ∧ K1 = z_K Z ∧ S1 = z_S Z ∧ W1 = z_W Z ∧ p1 = z_q Z 0 ∧ p2 = z_q Z 1) ∨
       (fs_kt R.2.2.2 (z_K Z) 0 = none ∧ ¬ (20 ≤ (z_K Z).length ∨ 80 < (z_W Z).length + fs_rwn R.2.2.2 (z_S Z)) ∧ ans = .inl (Int32.ofNat W1.length - Int32.ofNat (z_W Z).length) ∧ (∃ R1, K1 = z_K Z ++ [R1] ∧ R1.2.2 = R.2.2) ∧ S1 = fs_kept R.2.2.2 (z_S Z) ∧ (fs_V W1, p1, p2) = fs_rsh R.2.2.2 (R.2.2.2 5).toNatClampNeg (z_S Z) (fs_V (z_W Z), z_q Z 0, z_q Z 1) ∧ W1.length ≤ 80)) := by
  have e := (wf_rd hX ho).1
  obtain ⟨q1, q2, q3⟩ := (p_reportOf hX ho hl _).2 r R rfl hR
  obtain ⟨-, -, hd⟩ := bD_0 hb
  have hbT : fs_bT R.2.2.1 R.2.2.2 = 0 := hd.elim (fun z => z.2.2.2) (fun z => z.elim (fun z => by rw [h2] at z; exact absurd z.1 (by decide)) (fun z => absurd h2 z.1))
  obtain ⟨hg, -⟩ := good_T hf hbT
  obtain ⟨hc9, F1, g1, g2, g3, g4⟩ := wf_c hX ho
  obtain ⟨m1, m2⟩ := g3 R (List.mem_of_getElem? hR)
  obtain ⟨ans, σ1, h1, K1, S1, W1, p1, p2, k1, k2, k3, k4, k5⟩ := p_Collector_hearTemplate g1 g2 (List.mem_append_left _ m1) (List.mem_append_left _ m2) hg hK hS hSG hW hc.1 hc.2
  obtain ⟨h6, n1, n2⟩ := g4 K1 S1 (z_Q Z) W1 (z_H Z) (fs_two p1 p2) h1 σ1 k2 k3
  refine ⟨ans, K1, S1, W1, p1, p2, ⟨σ1, h6, r_cv e <| r_bx q1 <| r_b (p_Report_isBad q2 q3) <| r_p hb <| r_b (p_Report_kind q2 q3) <| r_p h2 <| r_b (x_gr e 3 rfl) ?_, n1, n2, k4⟩, k5⟩
  cases ans with
  | inl v => exact r_bx k1 rfl
  | inr s => exact r_be k1
theorem c_hearR {c1 r : Nat} {A : Nat → Nat} {Z : fs_Z} {R : fs_Rp} {h F : List fs_C} {σ : fs_S} (hX : fs_WF c1 A Z h) (ho : fs_own (h ++ F) σ) (hc : fs_kc c1 σ) (hl : (z_R Z).length ≤ 30) (hR : (z_R Z)[r]? = some R) (hb : fs_bD R.2.2.1 R.2.2.2 = 0) (h2 : R.2.2.2 2 = 1) (hf : fs_by R.2.2.2) (hu : R.2.2.1 ≤ 64) (hK : (z_K Z).length ≤ 20) (hS : (z_S Z).length ≤ 5) (hKG : ∀ T ∈ z_K Z, ∃ nf, fs_TG T.2.2.2 nf) (hW : (z_W Z).length ≤ 80) :
    ∃ ans S1 W1 I1 I2 p1 p2, fs_Rn c1 A F σ (fs_cv (A 7) 0 (f_Fs_hear (A 7) (Int32.ofNat r))) ans (Z.1, Z.2.1, z_K Z, S1, z_Q Z, W1, fs_two I1 I2, fs_two p1 p2) ∧
      ((¬ fs_ho (if R.2.2.2 0 = 0 then z_H Z 0 else z_H Z 1) (fs_nR R.2.2.2) ((R.2.2.2 1).toNatClampNeg * 100 + (R.2.2.2 6).toNatClampNeg) = 0 ∧ ans = .inl 0 ∧ S1 = z_S Z ∧ W1 = z_W Z ∧ I1 = z_H Z 0 ∧ I2 = z_H Z 1 ∧ p1 = z_q Z 0 ∧ p2 = z_q Z 1) ∨
       (fs_ho (if R.2.2.2 0 = 0 then z_H Z 0 else z_H Z 1) (fs_nR R.2.2.2) ((R.2.2.2 1).toNatClampNeg * 100 + (R.2.2.2 6).toNatClampNeg) = 0 ∧ fs_kt R.2.2.2 (z_K Z) 0 = none ∧ ans = .inl 0 ∧ (∃ R1, S1 = fs_ds (z_S Z) ++ [R1] ∧ R1.2.2 = R.2.2) ∧ W1 = z_W Z ∧ I1 = (if R.2.2.2 0 = 0 then fs_mh (fs_nR R.2.2.2) ((R.2.2.2 1).toNatClampNeg * 100 + (R.2.2.2 6).toNatClampNeg) (z_H Z 0) else z_H Z 0) ∧ I2 = (if R.2.2.2 0 = 0 then z_H Z 1 else fs_mh (fs_nR R.2.2.2) ((R.2.2.2 1).toNatClampNeg * 100 + (R.2.2.2 6).toNatClampNeg) (z_H Z 1)) ∧ (p1, p2) = fs_dq (z_S Z) (z_q Z 0, z_q Z 1)) ∨
       (fs_ho (if R.2.2.2 0 = 0 then z_H Z 0 else z_H Z 1) (fs_nR R.2.2.2) ((R.2.2.2 1).toNatClampNeg * 100 + (R.2.2.2 6).toNatClampNeg) = 0 ∧ ∃ k T nf, fs_kt R.2.2.2 (z_K Z) 0 = some k ∧ (z_K Z)[k]? = some T ∧ fs_TG T.2.2.2 nf ∧ S1 = z_S Z ∧ p1 = z_q Z 0 ∧ p2 = z_q Z 1 ∧
         ((fs_cr R.2.2.1 R.2.2.2 T.2.2.2 nf (fs_nR R.2.2.2) = false ∧ ans = .inr "java/lang/IllegalArgumentException" ∧ W1 = z_W Z ∧ I1 = z_H Z 0 ∧ I2 = z_H Z 1) ∨
          (fs_cr R.2.2.1 R.2.2.2 T.2.2.2 nf (fs_nR R.2.2.2) = true ∧ 80 < (z_W Z).length + fs_nR R.2.2.2 ∧ ans = .inr "java/lang/UnsupportedOperationException" ∧ W1 = z_W Z ∧ I1 = z_H Z 0 ∧ I2 = z_H Z 1) ∨
          (fs_cr R.2.2.1 R.2.2.2 T.2.2.2 nf (fs_nR R.2.2.2) = true ∧ ¬ 80 < (z_W Z).length + fs_nR R.2.2.2 ∧ ans = .inl (Int32.ofNat ((z_W Z).length + fs_nR R.2.2.2) - Int32.ofNat (z_W Z).length) ∧ fs_V W1 = fs_V (z_W Z) ++ fs_mr R.2.2.1 R.2.2.2 T.2.2.2 nf (fs_nR R.2.2.2) (7, 0) ∧ I1 = (if R.2.2.2 0 = 0 then fs_mh (fs_nR R.2.2.2) ((R.2.2.2 1).toNatClampNeg * 100 + (R.2.2.2 6).toNatClampNeg) (z_H Z 0) else z_H Z 0) ∧ I2 = (if R.2.2.2 0 = 0 then z_H Z 1 else fs_mh (fs_nR R.2.2.2) ((R.2.2.2 1).toNatClampNeg * 100 + (R.2.2.2 6).toNatClampNeg) (z_H Z 1)))))) := by
  have e := (wf_rd hX ho).1
  obtain ⟨q1, q2, q3⟩ := (p_reportOf hX ho hl _).2 r R rfl hR
  obtain ⟨-, h15, hd⟩ := bD_0 hb
  have h65 : R.2.2.2 6 + R.2.2.2 5 ≤ 100 := hd.elim (fun z => by rw [h2] at z; exact absurd z.1 (by decide)) (fun z => z.elim (fun z => z.2.2.2.2.2) (fun z => absurd h2 z.2.1))
  obtain ⟨r1, r2, r3, r4, r5⟩ := good_R (u := R.2.2.1) hf h15 h65
  obtain ⟨hc9, F1, g1, g2, g3, g4⟩ := wf_c hX ho
  obtain ⟨m1, m2⟩ := g3 R (List.mem_of_getElem? hR)
  obtain ⟨ans, σ1, h1, S1, W1, I1, I2, p1, p2, k1, k2, k3, k4, k5⟩ := p_Collector_hearRecords g1 g2 (List.mem_append_left _ m1) (List.mem_append_left _ m2) ⟨hu, r1, by omega⟩ r2 r3 r4 r5 hK hS hKG hW hc.1 hc.2
  obtain ⟨h6, n1, n2⟩ := g4 (z_K Z) S1 (z_Q Z) W1 (fs_two I1 I2) (fs_two p1 p2) h1 σ1 k2 k3
  refine ⟨ans, S1, W1, I1, I2, p1, p2, ⟨σ1, h6, r_cv e <| r_bx q1 <| r_b (p_Report_isBad q2 q3) <| r_p hb <| r_b (p_Report_kind q2 q3) <| r_n (by rw [h2]; decide) <| r_p h2 <| r_b (x_gr e 3 rfl) ?_, n1, n2, k4⟩, k5⟩
  cases ans with
  | inl v => exact r_bx k1 rfl
  | inr s => exact r_be k1
theorem c_hearS {c1 r n : Nat} {A : Nat → Nat} {Z : fs_Z} {R : fs_Rp} {h F : List fs_C} {σ : fs_S} (hX : fs_WF c1 A Z h) (ho : fs_own (h ++ F) σ) (hl : (z_R Z).length ≤ 30) (hR : (z_R Z)[r]? = some R) (hb : fs_bD R.2.2.1 R.2.2.2 = 0) (h0 : ¬ R.2.2.2 2 = 0) (h1 : ¬ R.2.2.2 2 = 1) (hn : n < 2) (hx : R.2.2.2 0 = Int32.ofNat n) :
    fs_Rn c1 A F σ (fs_cv (A 7) 0 (f_Fs_hear (A 7) (Int32.ofNat r))) (.inl 0) (Z.1, Z.2.1, z_K Z, z_S Z, z_Q Z, z_W Z, z_H Z, va_up (z_q Z) n (fs_ns (z_q Z n) R.2.2.2)) := by
  have e := (wf_rd hX ho).1
  obtain ⟨q1, q2, q3⟩ := (p_reportOf hX ho hl _).2 r R rfl hR
  obtain ⟨hc9, F1, g1, g2, g3, g4⟩ := wf_c hX ho
  obtain ⟨m1, m2⟩ := g3 R (List.mem_of_getElem? hR)
  obtain ⟨e2, -⟩ := cf_rd g1 g2
  have hn2 : n = 0 ∨ n = 1 := by omega
  rcases hn2 with rfl | rfl
  · obtain ⟨F2, o3, bk⟩ := cf_g1 g1 g2
    obtain ⟨σ1, k1, k2, k3⟩ := p_Ledger_noteSampler o3 (List.mem_append_right _ (List.mem_append_left _ m1)) (List.mem_append_right _ (List.mem_append_left _ m2))
    obtain ⟨h5, hX5, o5⟩ := bk (A 30, A 31, z_H Z 0, fs_ns (z_q Z 0) R.2.2.2) σ1 rfl k2
    obtain ⟨h6, n1, n2⟩ := g4 (z_K Z) (z_S Z) (z_Q Z) (z_W Z) (z_H Z) (va_up (z_q Z) 0 (fs_ns (z_q Z 0) R.2.2.2)) h5 σ1 hX5 o5
    refine ⟨σ1, h6, r_cv e <| r_bx q1 <| r_b (p_Report_isBad q2 q3) <| r_p hb <| r_b (p_Report_kind q2 q3) <| r_n h0 <| r_n h1 <| r_b (x_gr e 3 rfl) <| r_b (p_Report_exporter q2 q3) <| r_b (p_Collector_ledgerOf e2 _) ?_, n1, n2, st_le k3 (by omega) (by omega)⟩
    rw [if_pos (show R.2.2.2 0 = 0 from hx)]
    exact r_b k1 rfl
  · obtain ⟨F2, o3, bk⟩ := cf_g2 g1 g2
    obtain ⟨σ1, k1, k2, k3⟩ := p_Ledger_noteSampler o3 (List.mem_append_right _ (List.mem_append_left _ m1)) (List.mem_append_right _ (List.mem_append_left _ m2))
    obtain ⟨h5, hX5, o5⟩ := bk (A 32, A 33, z_H Z 1, fs_ns (z_q Z 1) R.2.2.2) σ1 rfl k2
    obtain ⟨h6, n1, n2⟩ := g4 (z_K Z) (z_S Z) (z_Q Z) (z_W Z) (z_H Z) (va_up (z_q Z) 1 (fs_ns (z_q Z 1) R.2.2.2)) h5 σ1 hX5 o5
    refine ⟨σ1, h6, r_cv e <| r_bx q1 <| r_b (p_Report_isBad q2 q3) <| r_p hb <| r_b (p_Report_kind q2 q3) <| r_n h0 <| r_n h1 <| r_b (x_gr e 3 rfl) <| r_b (p_Report_exporter q2 q3) <| r_b (p_Collector_ledgerOf e2 _) ?_, n1, n2, st_le k3 (by omega) (by omega)⟩
    rw [if_neg (by rw [hx]; decide)]
    exact r_b k1 rfl
theorem wf_w {c1 : Nat} {A : Nat → Nat} {Z : fs_Z} {h F : List fs_C} {σ : fs_S} (hX : fs_WF c1 A Z h) (ho : fs_own (h ++ F) σ) : σ.1 (A 0) = some (fs_ko A (A 30) (A 32)) ∧ σ.1 (A 3) = some (fs_to (A 4) (A 5) (A 6) (z_Q Z).2.2.1 (z_Q Z).2.2.2) ∧ fs_TR (A 4) (z_W Z) σ := by
  obtain ⟨hc9, F1, g1, g2, g3, g4⟩ := wf_c hX ho
  obtain ⟨e2, -, -, ⟨e3, e4⟩, -⟩ := cf_rd g1 g2
  exact ⟨e2, e3, e4⟩
theorem c_rows {c1 : Nat} {A : Nat → Nat} {Z : fs_Z} {h F : List fs_C} {σ : fs_S} (hX : fs_WF c1 A Z h) (ho : fs_own (h ++ F) σ) : fs_Rn c1 A F σ (fs_cv (A 7) 0 (f_Fs_rows (A 7))) (Int32.ofNat (z_W Z).length) Z := by
  have e := (wf_rd hX ho).1
  obtain ⟨e2, e3, e4⟩ := wf_w hX ho
  have hs := e4.1.1
  rw [List.length_map] at hs
  exact rn_rf hX ho (r_cv e <| r_b (x_gr e 3 rfl) <| r_b (x_gr e2 2 rfl) <| r_b (x_gr e3 0 rfl) <| r_b hs rfl)
theorem p_requireRow {c1 : Nat} {A : Nat → Nat} {Z : fs_Z} {h F : List fs_C} {σ : fs_S} (hX : fs_WF c1 A Z h) (ho : fs_own (h ++ F) σ) (x : Int32) : (x < 0 ∨ ¬ x < Int32.ofNat (z_W Z).length → (fs_cv (A 7) 0 (f_Fs_requireRow (A 7) x)).1 σ = some (.inr fs_IOB, fs_thr σ)) ∧ (¬ x < 0 → x < Int32.ofNat (z_W Z).length → (fs_cv (A 7) 0 (f_Fs_requireRow (A 7) x)).1 σ = some (.inl (), σ)) := by
  have e := (wf_rd hX ho).1
  obtain ⟨e2, e3, e4⟩ := wf_w hX ho
  have hs := e4.1.1
  rw [List.length_map] at hs
  refine ⟨fun hb => r_cv e <| r_l ?_, fun h1 h2 => r_cv e <| r_l <| r_n h1 <| r_b (x_gr e 3 rfl) <| r_b (x_gr e2 2 rfl) <| r_b (x_gr e3 0 rfl) <| r_b hs <| r_p h2 rfl⟩
  by_cases h0 : x < 0
  · exact r_p h0 (x_throw _ _)
  · exact r_n h0 <| r_b (x_gr e 3 rfl) <| r_b (x_gr e2 2 rfl) <| r_b (x_gr e3 0 rfl) <| r_b hs <| r_n (fun z => hb.elim h0 (fun w => w z)) (x_throw _ _)
theorem c_row {c1 : Nat} {A : Nat → Nat} {Z : fs_Z} {h F : List fs_C} {σ : fs_S} (hX : fs_WF c1 A Z h) (ho : fs_own (h ++ F) σ) (hW : (z_W Z).length ≤ 80) (x f : Int32) :
    (x < 0 ∨ ¬ x < Int32.ofNat (z_W Z).length → fs_Rn c1 A F σ (fs_cv (A 7) 0 (f_Fs_row (A 7) x f)) (.inr fs_IOB) Z) ∧
    (∀ r, x = Int32.ofNat r → r < (z_W Z).length → (f < 0 ∨ ¬ f ≤ 8 → fs_Rn c1 A F σ (fs_cv (A 7) 0 (f_Fs_row (A 7) x f)) (.inr fs_IAE) Z) ∧ (f = 8 → fs_Rn c1 A F σ (fs_cv (A 7) 0 (f_Fs_row (A 7) x f)) (.inl (Int32.toInt64 (fs_ex (fs_V (z_W Z)) r))) Z) ∧ (∀ k, f = Int32.ofNat k → k < 8 → fs_Rn c1 A F σ (fs_cv (A 7) 0 (f_Fs_row (A 7) x f)) (.inl (fs_va (fs_V (z_W Z)) r k)) Z)) := by
  have e := (wf_rd hX ho).1
  obtain ⟨e2, e3, e4⟩ := wf_w hX ho
  obtain ⟨h1, h2⟩ := p_requireRow hX ho x
  refine ⟨fun hb => rn_thr hX ho (r_cv e <| r_be (h1 hb)), fun r hx hr => ?_⟩
  subst hx
  have hq := h2 (Int32.ofNat_not_neg (by omega)) ((Int32.ofNat_lt_ofNat (by omega) (by omega)).mpr hr)
  obtain ⟨w, hw, g1, g2, g3⟩ := tr_at e4 hr
  refine ⟨fun hb => ?_, fun h8 => ?_, fun k hk hk8 => ?_⟩
  · refine rn_thr hX ho (r_cv e <| r_bx hq <| r_l ?_)
    by_cases h0 : f < 0
    · exact r_p h0 (x_throw _ _)
    · exact r_n h0 <| r_n (hb.elim (fun z => absurd z h0) id) (x_throw _ _)
  · subst h8
    exact rn_rf hX ho (r_cv e <| r_bx hq <| r_l <| r_n (by decide) <| r_p (by decide) <| r_b (x_gr e 3 rfl) <| r_b (x_gr e2 2 rfl) <| r_b (x_gr e3 0 rfl) <| r_b g1 <| r_b (x_ck g2) <| r_p rfl <| r_b (x_gi g2 0 rfl) rfl)
  · subst hk
    refine rn_rf hX ho (r_cv e <| r_bx hq <| r_l <| r_n (Int32.ofNat_not_neg (by omega)) <| r_p ((Int32.ofNat_le_ofNat (n := 8) (by omega) (by omega)).mpr (by omega)) <| r_b (x_gr e 3 rfl) <| r_b (x_gr e2 2 rfl) <| r_b (x_gr e3 0 rfl) <| r_b g1 <| r_b (x_ck g2) <| r_n (fun z => ?_) <| r_b (x_gr g2 1 rfl) <| r_b (x_aj g3 rfl hk8 (by decide)) rfl)
    have a1 : (Int32.ofNat k).toNatClampNeg = k := Int32.toNatClampNeg_ofNat_of_lt (by omega)
    rw [z] at a1
    have a2 : (8 : Int32).toNatClampNeg = 8 := by decide
    omega
theorem c_total {c1 : Nat} {A : Nat → Nat} {Z : fs_Z} {h F : List fs_C} {σ : fs_S} (hX : fs_WF c1 A Z h) (ho : fs_own (h ++ F) σ) (hW : (z_W Z).length ≤ 80) (x f : Int32) (y : Int64) (w : Int32) :
    (¬ (x = 0 ∨ x = 1) ∨ f < 0 ∨ ¬ f < 8 ∨ w < 0 ∨ ¬ w < 8 → fs_Rn c1 A F σ (fs_cv (A 7) 0 (f_Fs_total (A 7) x f y w)) (.inr fs_IAE) Z) ∧
    (∀ k j, (x = 0 ∨ x = 1) → f = Int32.ofNat k → w = Int32.ofNat j → k < 8 → j < 8 → fs_Rn c1 A F σ (fs_cv (A 7) 0 (f_Fs_total (A 7) x f y w)) (.inl (fs_s1 (fs_ex (fs_V (z_W Z))) (fs_va (fs_V (z_W Z))) x k y j (z_W Z).length 0 0)) Z) := by
  have e := (wf_rd hX ho).1
  obtain ⟨e2, e3, e4⟩ := wf_w hX ho
  have hex : (x = 0 ∨ x = 1) → ¬ (if x = 0 then (1 : Int32) else if x = 1 then 1 else 0) = 0 := fun h0 => by
    rcases h0 with h0 | h0
    · rw [if_pos h0]; decide
    · by_cases z : x = 0
      · rw [if_pos z]; decide
      · rw [if_neg z, if_pos h0]; decide
  refine ⟨fun hb => rn_thr hX ho (r_cv e <| r_b (p_isExporter x) ?_), fun k j hx hf hw hk hj => ?_⟩
  · by_cases hx : x = 0 ∨ x = 1
    · refine r_n (hex hx) ?_
      by_cases hf : f < 0 ∨ ¬ f < 8
      · exact r_be (p_requireField.1 hf)
      · have hf2 : ¬ f < 0 := fun z => hf (Or.inl z)
        have hf3 : f < 8 := Decidable.byContradiction fun z => hf (Or.inr z)
        exact r_bx (p_requireField.2 hf2 hf3) <| r_be (p_requireField.1 (hb.elim (fun z => absurd hx z) (fun z => z.elim (fun z => absurd z hf2) (fun z => z.elim (fun z => absurd hf3 z) id))))
    · refine r_p ?_ (x_throw _ _)
      rw [if_neg (fun z => hx (Or.inl z)), if_neg (fun z => hx (Or.inr z))]
  · have b1 : ¬ f < 0 ∧ f < 8 := by
      rw [hf]
      exact ⟨Int32.ofNat_not_neg (by omega), (Int32.ofNat_lt_ofNat (n := 8) (by omega) (by omega)).mpr hk⟩
    have b2 : ¬ w < 0 ∧ w < 8 := by
      rw [hw]
      exact ⟨Int32.ofNat_not_neg (by omega), (Int32.ofNat_lt_ofNat (n := 8) (by omega) (by omega)).mpr hj⟩
    exact rn_rf hX ho (r_cv e <| r_b (p_isExporter x) <| r_n (hex hx) <| r_bx (p_requireField.2 b1.1 b1.2) <| r_bx (p_requireField.2 b2.1 b2.2) <| r_b (x_gr e 3 rfl) <| r_b (x_gr e2 2 rfl) <| r_b (p_Table_sumOf e3 e4 hW hf hk hw hj) rfl)
theorem c_other {c1 : Nat} {A : Nat → Nat} {Z : fs_Z} {h F : List fs_C} {σ : fs_S} (hX : fs_WF c1 A Z h) (ho : fs_own (h ++ F) σ) (hW : (z_W Z).length ≤ 80) (x : Int32) :
    (x < 0 ∨ ¬ x < Int32.ofNat (z_W Z).length → fs_Rn c1 A F σ (fs_cv (A 7) 0 (f_Fs_other (A 7) x)) (.inr fs_IOB) Z) ∧
    (∀ r, x = Int32.ofNat r → r < (z_W Z).length → ∃ P1 O1 od1, P1 = (if (z_Q Z).2.2.2 = Int32.ofNat (z_W Z).length then (z_Q Z).1 else fs_pa (fs_V (z_W Z)) (z_Q Z).1) ∧ fs_Rn c1 A F σ (fs_cv (A 7) 0 (f_Fs_other (A 7) x)) (.inl (P1 r)) (Z.1, Z.2.1, z_K Z, z_S Z, (P1, O1, od1, Int32.ofNat (z_W Z).length), z_W Z, z_H Z, z_q Z)) := by
  have e := (wf_rd hX ho).1
  obtain ⟨e2, e3, e4⟩ := wf_w hX ho
  obtain ⟨h1, h2⟩ := p_requireRow hX ho x
  refine ⟨fun hb => rn_thr hX ho (r_cv e <| r_be (h1 hb)), fun r hx hr => ?_⟩
  subst hx
  have hq := h2 (Int32.ofNat_not_neg (by omega)) ((Int32.ofNat_lt_ofNat (by omega) (by omega)).mpr hr)
  obtain ⟨hc9, F1, g1, g2, g3, g4⟩ := wf_c hX ho
  obtain ⟨hk, hs, ht, rfl, c2, c3, c4⟩ := g1
  rw [flat6] at g2
  obtain ⟨σ1, h5, P1, O1, od1, k1, k2, k3, k4, k5⟩ := p_Table_partnerOf (F := [[(A 0, fs_ko A (A 30) (A 32))], hk, hs, fs_gc_ (A 30, A 31, z_H Z 0, z_q Z 0), fs_gc_ (A 32, A 33, z_H Z 1, z_q Z 1), F1 ++ F].flatten) c4 (own_eq (own_ix _ [3, 0, 1, 2, 4, 5, 6] rfl (by decide) g2) (by simp)) hW hr
  obtain ⟨h6, n1, n2⟩ := g4 (z_K Z) (z_S Z) (P1, O1, od1, Int32.ofNat (z_W Z).length) (z_W Z) (z_H Z) (z_q Z) _ σ1 ⟨hk, hs, h5, rfl, c2, c3, k2⟩ (by
    rw [flat6]
    exact own_ix [h5, [(A 0, fs_ko A (A 30) (A 32))], hk, hs, fs_gc_ (A 30, A 31, z_H Z 0, z_q Z 0), fs_gc_ (A 32, A 33, z_H Z 1, z_q Z 1), F1 ++ F] [1, 2, 3, 0, 4, 5, 6] rfl (by decide) (own_eq k3 (by simp)))
  exact ⟨P1, O1, od1, k5, σ1, h6, r_cv e <| r_bx hq <| r_b (x_gr e 3 rfl) <| r_b (x_gr e2 2 rfl) <| r_b k1 rfl, n1, n2, st_le k4 (by omega) (by omega)⟩
/-- what count answers -/
def fs_cn (Z : fs_Z) (n : Nat) (w : Nat) : Int32 := match w with
  | 0 => (z_X Z n).1 4
  | 1 => (z_X Z n).1 5
  | 2 => Int32.ofNat (z_X Z n).2.1.length
  | 3 => Int32.ofNat (z_X Z n).2.2.1.length
  | 4 => (z_X Z n).1 9
  | 5 => fs_ls2 (z_H Z n)
  | 6 => fs_wt (Int32.ofNat n) (z_S Z) 0
  | 7 => z_q Z n 1
  | 8 => z_q Z n 2
  | _ => z_q Z n 3
theorem c_count {c1 : Nat} {A : Nat → Nat} {Z : fs_Z} {h F : List fs_C} {σ : fs_S} (hX : fs_WF c1 A Z h) (ho : fs_own (h ++ F) σ) (hS : (z_S Z).length ≤ 5) (x w : Int32) :
    (¬ (x = 0 ∨ x = 1) ∨ (∀ k, k < 10 → ¬ w = Int32.ofNat k) → fs_Rn c1 A F σ (fs_cv (A 7) 0 (f_Fs_count (A 7) x w)) (.inr fs_IAE) Z) ∧
    (∀ n k, n < 2 → x = Int32.ofNat n → k < 10 → w = Int32.ofNat k → fs_Rn c1 A F σ (fs_cv (A 7) 0 (f_Fs_count (A 7) x w)) (.inl (fs_cn Z n k)) Z) := by
  have e := (wf_rd hX ho).1
  obtain ⟨e2, e3, e4⟩ := wf_w hX ho
  refine ⟨fun hb => ?_, fun n k hn hx hk hw => ?_⟩
  · by_cases hx : x = 0 ∨ x = 1
    · obtain ⟨n, hn, rfl⟩ := x01 hx
      obtain ⟨B, hx9, F1, g1, g2, -, g3, -, g4⟩ := wf_x hX ho hn
      have hw := hb.elim (fun z => absurd hx z) id
      exact rn_thr hX ho (r_cv e <| r_bx g3 <| r_b (x_gr e 3 rfl) <| r_b (p_Collector_ledgerOf e2 _) <| r_n (hw 0 (by decide)) <| r_n (hw 1 (by decide)) <| r_n (hw 2 (by decide)) <| r_n (hw 3 (by decide)) <| r_n (hw 4 (by decide)) <| r_n (hw 5 (by decide)) <| r_n (hw 6 (by decide)) <| r_n (hw 7 (by decide)) <| r_n (hw 8 (by decide)) <| r_n (hw 9 (by decide)) (x_throw _ _))
    · exact rn_thr hX ho (r_cv e <| r_be (wf_xn hX ho hx))
  · subst hx
    subst hw
    obtain ⟨B, hx9, F1, g1, g2, -, g3, -, g4⟩ := wf_x hX ho hn
    obtain ⟨he, E1, o1, l3⟩ := xf_rd g1 g2
    obtain ⟨e1, rC, rE⟩ := ef_rd E1 o1
    obtain ⟨hc9, F2, c1', c2', -, -⟩ := wf_c hX ho
    obtain ⟨-, -, rS, -, ⟨q1, q1h⟩, q2, q2h⟩ := cf_rd c1' c2'
    have hlg : ∃ G : fs_Lg, (if Int32.ofNat n = 0 then A 30 else A 32) = G.1 ∧ G.2.2 = (z_H Z n, z_q Z n) ∧ σ.1 G.1 = some (fs_lgo G) ∧ σ.1 G.2.1 = some (fs_za 600 G.2.2.1) := by
      have hn2 : n = 0 ∨ n = 1 := by omega
      rcases hn2 with rfl | rfl
      · exact ⟨(A 30, A 31, z_H Z 0, z_q Z 0), if_pos rfl, rfl, q1, q1h⟩
      · exact ⟨(A 32, A 33, z_H Z 1, z_q Z 1), if_neg (by decide), rfl, q2, q2h⟩
    obtain ⟨G, k1, k2, k3, k4⟩ := hlg
    have hgo := p_Collector_ledgerOf e2 (Int32.ofNat n)
    rw [k1] at hgo
    have eH : z_H Z n = G.2.2.1 := by rw [k2]
    have eq : z_q Z n = G.2.2.2 := by rw [k2]
    have hk10 : k = 0 ∨ k = 1 ∨ k = 2 ∨ k = 3 ∨ k = 4 ∨ k = 5 ∨ k = 6 ∨ k = 7 ∨ k = 8 ∨ k = 9 := by omega
    refine rn_rf hX ho (r_cv e <| r_bx g3 <| r_b (x_gr e 3 rfl) <| r_b hgo ?_)
    rcases hk10 with rfl | rfl | rfl | rfl | rfl | rfl | rfl | rfl | rfl | rfl
    · exact r_p rfl <| r_b (x_gi e1 4 rfl) rfl
    · exact r_n (by decide) <| r_p rfl <| r_b (x_gi e1 5 rfl) rfl
    · exact r_n (by decide) <| r_n (by decide) <| r_p rfl <| r_b (x_gr e1 1 rfl) <| r_b rC.1 rfl
    · exact r_n (by decide) <| r_n (by decide) <| r_n (by decide) <| r_p rfl <| r_b (x_gr e1 2 rfl) <| r_b rE.1 rfl
    · exact r_n (by decide) <| r_n (by decide) <| r_n (by decide) <| r_n (by decide) <| r_p rfl <| r_b (x_gi e1 9 rfl) rfl
    · show _ = some (Sum.inl (fs_ls2 (z_H Z n)), σ)
      rw [eH]
      exact r_n (by decide) <| r_n (by decide) <| r_n (by decide) <| r_n (by decide) <| r_n (by decide) <| r_p rfl <| r_b (p_Ledger_lostRecords k3 k4) rfl
    · exact r_n (by decide) <| r_n (by decide) <| r_n (by decide) <| r_n (by decide) <| r_n (by decide) <| r_n (by decide) <| r_p rfl <| r_b (x_gr e 3 rfl) <| r_b (p_Collector_waitingOf e2 rS (by omega)) rfl
    · show _ = some (Sum.inl (z_q Z n 1), σ)
      rw [eq]
      exact r_n (by decide) <| r_n (by decide) <| r_n (by decide) <| r_n (by decide) <| r_n (by decide) <| r_n (by decide) <| r_n (by decide) <| r_p rfl <| r_b (x_gi k3 1 rfl) rfl
    · show _ = some (Sum.inl (z_q Z n 2), σ)
      rw [eq]
      exact r_n (by decide) <| r_n (by decide) <| r_n (by decide) <| r_n (by decide) <| r_n (by decide) <| r_n (by decide) <| r_n (by decide) <| r_n (by decide) <| r_p rfl <| r_b (x_gi k3 2 rfl) rfl
    · show _ = some (Sum.inl (z_q Z n 3), σ)
      rw [eq]
      exact r_n (by decide) <| r_n (by decide) <| r_n (by decide) <| r_n (by decide) <| r_n (by decide) <| r_n (by decide) <| r_n (by decide) <| r_n (by decide) <| r_n (by decide) <| r_p rfl <| r_b (x_gi k3 3 rfl) rfl
