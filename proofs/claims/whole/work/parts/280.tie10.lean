/-! records heard, on both sides -/
theorem mk_two {v f : Nat → Int32} {H : Nat → Nat → Int32} {x a n : Nat} (hx : x < 2) (hf : f 0 = Int32.ofNat x) (ha : a + n ≤ 600) (hv : ∀ y, y < 2 → ∀ p, p < 600 → v (600 * y + p) = H y p) : ∀ y, y < 2 → ∀ i, i < 600 → fs_mh n (600 * x + a) v (600 * y + i) = fs_two (if f 0 = 0 then fs_mh n a (H 0) else H 0) (if f 0 = 0 then H 1 else fs_mh n a (H 1)) y i := fun y hy i hi => by
  rw [mh_at, hv y hy i hi]
  have hx2 : x = 0 ∨ x = 1 := by omega
  have hy2 : y = 0 ∨ y = 1 := by omega
  rcases hx2 with rfl | rfl
  · have f0 : f 0 = 0 := hf
    rw [if_pos f0, if_pos f0]
    rcases hy2 with rfl | rfl
    · show _ = fs_mh n a (H 0) i
      rw [mh_at]
      by_cases hc : a ≤ i ∧ i < a + n
      · rw [if_pos hc, if_pos (by omega)]
      · rw [if_neg hc, if_neg (by omega)]
    · show _ = H 1 i
      rw [if_neg (by omega)]
  · have f0 : ¬ f 0 = 0 := by rw [hf]; decide
    rw [if_neg f0, if_neg f0]
    rcases hy2 with rfl | rfl
    · show _ = H 0 i
      rw [if_neg (by omega)]
    · show _ = fs_mh n a (H 1) i
      rw [mh_at]
      by_cases hc : a ≤ i ∧ i < a + n
      · rw [if_pos hc, if_pos (by omega)]
      · rw [if_neg hc, if_neg (by omega)]
theorem dq_n {Sh : List fs_Rp} {q : (Nat → Int32) × (Nat → Int32)} {i : Nat} (hi : i ≠ 1) : (fs_dq Sh q).1 i = q.1 i ∧ (fs_dq Sh q).2 i = q.2 i := by
  unfold fs_dq
  split
  · exact ⟨rfl, rfl⟩
  · split
    · exact ⟨rfl, rfl⟩
    · split
      · exact ⟨up_miss hi _, rfl⟩
      · exact ⟨rfl, up_miss hi _⟩
theorem st_hearR {k c1 r : Nat} {A B : Nat → Nat} {Z : fs_Z} {R : fs_Rp} {h F : List fs_C} {σ : fs_S} {S : fs_R} (hI : fs_In k Z S) (hX : fs_WF c1 A Z h) (ho : fs_own (h ++ F) σ) (hc : fs_kc c1 σ) (hR : (z_R Z)[r]? = some R) (hb : fs_bD R.2.2.1 R.2.2.2 = 0) (h2 : R.2.2.2 2 = 1) :
    fs_Sp k c1 A B F σ S (fs_cv (A 7) 0 (f_Fs_hear (A 7) (Int32.ofNat r))) (fs_cv (B 0) 12 (f_Rf_hear (B 0) (Int32.ofNat r))) [(fs_IOB, 1), (fs_IAE, 2), (fs_UOE, 3)] (fun v r => v = r) := by
  have l30 := hI.2.1.2.1
  obtain ⟨h5, h64, hby⟩ := hI.2.1.2.2 R (List.mem_of_getElem? hR)
  obtain ⟨n1, n2, n3⟩ := bD_0 hb
  obtain ⟨-, -, hu7', -, h65⟩ : ¬ 3 ≤ R.2.2.2 3 ∧ ¬ R.2.2.2 4 = 0 ∧ ¬ Int32.ofNat R.2.2.1 < 7 ∧ ¬ R.2.2.2 5 = 0 ∧ R.2.2.2 6 + R.2.2.2 5 ≤ 100 := by
    rcases n3 with n3 | n3 | n3
    · exact absurd (h2.symm.trans n3.1) (by decide)
    · exact n3.2
    · exact absurd h2 n3.2.1
  have hu7 : 7 ≤ R.2.2.1 := Decidable.not_not.mp fun z => hu7' ((n_lt (y := 7) (by omega) (by decide)).mpr (by omega))
  obtain ⟨g5, g1, g6, g15, g65⟩ := good_R (u := R.2.2.1) hby n2 h65
  obtain ⟨x, hx, hf0⟩ := x01 n1
  have hVl : (fs_V (z_W Z)).length = (z_W Z).length := List.length_map ..
  obtain ⟨k1, k2, k3, k4, k5, k6, k7, k8, k9⟩ := hI.2.2.1
  obtain ⟨m1, m2, m3, m4, m5, m6, m7, m8, m9⟩ := hs_ik (u := R.2.2.1) (f := R.2.2.2) hI.2.2.1
  have hh := hI.2.2.2.2
  have hh2 := hs_ih (u := R.2.2.1) (f := R.2.2.2) hI.2.2.2.2
  have hng : fs_ng R.2.2.2 := ⟨n1, hby⟩
  obtain ⟨ans, S1, W1, I1, I2, p1, p2, d1, d2⟩ := c_hearR hX ho hc l30 hR hb h2 hby h64 k2 k5 (fun T hT => (k3 T hT).2) (by omega)
  generalize he : (R.2.2.2 1).toNatClampNeg = e at *
  generalize hp : (R.2.2.2 6).toNatClampNeg = p at *
  generalize hnn : fs_nR R.2.2.2 = n at *
  have wk := fun (T : fs_Rp) (hT : T.2.2 = (R.2.2.1, R.2.2.2)) => w_hearR (A := B) (q1 := z_q Z 0) (q2 := z_q Z 1) (hs_buf S R.2.2.1 R.2.2.2) hu7 h64 hng g5 hx hf0 g1 g15 g6 g65 m1 m2 (fun T hT => (m3 T hT).1) (fun T hT => (m3 T hT).2) m4 m5 m6 m7 m8 (hh2 0 (by decide)).2.1 (hh2 1 (by decide)).2.1 T hT
  have hHx : (if R.2.2.2 0 = 0 then z_H Z 0 else z_H Z 1) = z_H Z x := by
    have : x = 0 ∨ x = 1 := by omega
    rcases this with rfl | rfl
    · exact if_pos hf0
    · exact if_neg (by rw [hf0]; decide)
  have hho : fs_ho ((fs_hs S R.2.2.1 R.2.2.2).2.1 36) n (600 * x + 100 * e + p) = fs_ho (if R.2.2.2 0 = 0 then z_H Z 0 else z_H Z 1) n (e * 100 + p) := by
    rw [hHx, show 600 * x + 100 * e + p = 600 * x + (e * 100 + p) by omega]
    exact ho_cg (hh2 x hx).1 n _ (by omega)
  have hmk : ∀ y, y < 2 → ∀ i, i < 600 → fs_mh n (600 * x + 100 * e + p) ((fs_hs S R.2.2.1 R.2.2.2).2.1 36) (600 * y + i) = fs_two (if R.2.2.2 0 = 0 then fs_mh n (e * 100 + p) (z_H Z 0) else z_H Z 0) (if R.2.2.2 0 = 0 then z_H Z 1 else fs_mh n (e * 100 + p) (z_H Z 1)) y i := by
    rw [show 600 * x + 100 * e + p = 600 * x + (e * 100 + p) by omega]
    exact mk_two hx hf0 (by omega) (fun y hy => (hh2 y hy).1)
  rw [hho] at wk
  have z0 : (fs_hs S R.2.2.1 R.2.2.2).1 0 = 0 := rfl
  have same : ∀ S2 : fs_R, (∀ a, a ≠ 0 → a ≠ 45 → a ≠ 47 → S2.1 a = S.1 a) → (∀ a, a ≠ 46 → S2.2.1 a = S.2.1 a) → S2.2.2 = S.2.2 → fs_In (k + 1) (Z.1, Z.2.1, z_K Z, z_S Z, z_Q Z, z_W Z, fs_two (z_H Z 0) (z_H Z 1), fs_two (z_q Z 0) (z_q Z 1)) S2 := fun S2 e0 e1 e2 => by
    refine in_col hI (fun a ha => e0 a (by omega) (by omega) (by omega)) (fun a ha => e1 a (by omega)) (ik_cg hI.2.2.1 (fun a ha => e0 a (by omega) (by omega) (by omega)) (fun a g1 g2 g3 => e1 a (by omega)) e2) hI.2.2.2.1 fun y hy => ?_
    have := ih_cg (S1 := S2) hh (fun a ha => e1 a (by omega))
    have hy2 : y = 0 ∨ y = 1 := by omega
    rcases hy2 with rfl | rfl
    · exact this 0 (by decide)
    · exact this 1 (by decide)
  refine ⟨ans, _, d1, rh_go hI.2.1.1 l30 hR h64 <| he_R (hs_buf S R.2.2.1 R.2.2.2) hby h5 h64 hb h2 ?_⟩
  rcases d2 with ⟨c0, a0, a1, a2, a3, a4, a5, a6⟩ | ⟨c0, c1, a0, ⟨R1, a1, a1'⟩, a2, a3, a4, a5⟩ | ⟨c0, kk, T, nf, c1, c2, c3, a1, a2, a3, d3⟩
  · subst a0 a1 a2 a3 a4 a5 a6
    refine w_mono (wk R rfl) fun v S2 hq => ?_
    rcases hq with ⟨b0, b1, b2⟩ | ⟨b0, -⟩ | ⟨b0, -⟩
    · subst b2
      exact ⟨same _ (fun a g1 g2 g3 => hs_s g1 g2) (fun a g => hs_n g) rfl, z0, b1.symm⟩
    · exact absurd b0 c0
    · exact absurd b0 c0
  · subst a0 a1 a2 a3 a4
    refine w_mono (wk R1 a1') fun v S2 hq => ?_
    rcases hq with ⟨b0, -⟩ | ⟨b0, b1, b2, b3, b4, b5, b6, b7, b8, b9, b10, b11⟩ | ⟨b0, kk, U, b1, -⟩
    · exact absurd c0 b0
    · have ov : ∀ a, a ≠ 34 → a ≠ 35 → a ≠ 36 → a ≠ 40 → a ≠ 46 → S2.2.1 a = S.2.1 a := fun a g1 g2 g3 g4 g5 => by
        by_cases h38 : a = 38
        · subst h38
          exact b10.trans (hs_n (by decide))
        · rw [b8.2 a g1 g2 g3 h38 g4]
          exact hs_n g5
      have os : ∀ a, a ≠ 0 → a ≠ 33 → a ≠ 45 → a ≠ 47 → S2.1 a = S.1 a := fun a g1 g2 g3 g4 => by
        by_cases h37 : a = 37
        · subst h37
          exact b9.trans (hs_s (by decide) (by decide))
        · rw [b8.1 a g1 g2 h37 g4]
          exact hs_s g1 g3
      refine ⟨in_col hI (fun a ha => os a (by omega) (by omega) (by omega) (by omega)) (fun a ha => ov a (by omega) (by omega) (by omega) (by omega) (by omega)) ⟨?_, k2, k3, b4, ?_, fun U hU => ?_, ?_, k8, k9⟩ hI.2.2.2.1 fun y hy => ?_, b3.trans z0, b2.symm⟩
      · unfold fs_kn
        rw [os 28 (by decide) (by decide) (by decide) (by decide), ov 29 (by decide) (by decide) (by decide) (by decide) (by decide), ov 30 (by decide) (by decide) (by decide) (by decide) (by decide), ov 31 (by decide) (by decide) (by decide) (by decide) (by decide), ov 32 (by decide) (by decide) (by decide) (by decide) (by decide)]
        exact k1
      · rw [List.length_append, List.length_singleton]
        unfold fs_ds
        split
        · omega
        · rw [List.length_tail]
          omega
      · rcases List.mem_append.mp hU with hU | hU
        · refine k6 U ?_
          unfold fs_ds at hU
          split at hU
          · exact hU
          · exact List.mem_of_mem_tail hU
        · rw [List.mem_singleton] at hU
          subst hU
          unfold fs_rok fs_RG
          rw [a1']
          exact ⟨⟨h64, by rw [hnn]; exact g5, by rw [hnn]; omega⟩, hng, hu7⟩
      · unfold fs_rws
        rw [os 37 (by decide) (by decide) (by decide) (by decide), ov 38 (by decide) (by decide) (by decide) (by decide) (by decide), b11]
        exact k7
      · rw [b5, ov 41 (by decide) (by decide) (by decide) (by decide) (by decide), ov 42 (by decide) (by decide) (by decide) (by decide) (by decide), ov 43 (by decide) (by decide) (by decide) (by decide) (by decide), ov 44 (by decide) (by decide) (by decide) (by decide) (by decide)]
        obtain ⟨t1, t2, t3, t4, t5, t6⟩ := hh y hy
        refine ⟨hmk y hy, ?_⟩
        have hy2 : y = 0 ∨ y = 1 := by omega
        rcases hy2 with rfl | rfl
        · show _ = p1 1 ∧ _ = p1 2 ∧ _ = p1 3 ∧ _ = p1 4 ∧ _ = p1 5
          have y : ∀ i, i ≠ 1 → p1 i = z_q Z 0 i := fun i hi => by
            rw [show p1 = (fs_dq (z_S Z) (z_q Z 0, z_q Z 1)).1 by rw [← a5]]
            exact (dq_n hi).1
          rw [y 2 (by decide), y 3 (by decide), y 4 (by decide), y 5 (by decide)]
          exact ⟨b6.trans (by rw [← a5]), t3, t4, t5, t6⟩
        · show _ = p2 1 ∧ _ = p2 2 ∧ _ = p2 3 ∧ _ = p2 4 ∧ _ = p2 5
          have y : ∀ i, i ≠ 1 → p2 i = z_q Z 1 i := fun i hi => by
            rw [show p2 = (fs_dq (z_S Z) (z_q Z 0, z_q Z 1)).2 by rw [← a5]]
            exact (dq_n hi).2
          rw [y 2 (by decide), y 3 (by decide), y 4 (by decide), y 5 (by decide)]
          exact ⟨b7.trans (by rw [← a5]), t3, t4, t5, t6⟩
    · rw [c1] at b1
      cases b1
  · subst a1 a2 a3
    refine w_mono (wk R rfl) fun v S2 hq => ?_
    rcases hq with ⟨b0, -⟩ | ⟨b0, b1, -⟩ | ⟨b0, kk2, U, b1, b2, b3⟩
    · exact absurd c0 b0
    · rw [c1] at b1
      cases b1
    · rw [c1] at b1
      cases b1
      rw [c2] at b2
      cases b2
      have b4 := b3 nf c3
      rcases d3 with ⟨f1, f2, f3, f4, f5⟩ | ⟨f1, f2, f3, f4, f5, f6⟩ | ⟨f1, f2, f3, f4, f5, f6⟩
      · subst f2 f3 f4 f5
        rcases b4 with ⟨q1, y, q2⟩ | ⟨q1, -⟩ | ⟨q1, -⟩
        · subst q2
          refine ⟨same _ (fun a g1 g2 g3 => ?_) (fun a g => hs_n g) rfl, ?_⟩
          · show upd (upd (fs_hs S R.2.2.1 R.2.2.2).1 47 y) 0 2 a = _
            rw [up_miss g1, up_miss g3]
            exact hs_s g1 g2
          · show (_, (2 : Int32)) ∈ _
            simp [fs_IAE]
        · rw [f1] at q1; cases q1
        · rw [f1] at q1; cases q1
      · subst f3 f4 f5 f6
        rcases b4 with ⟨q1, -⟩ | ⟨q1, q2, y, q3⟩ | ⟨q1, q2, -⟩
        · rw [f1] at q1; cases q1
        · subst q3
          refine ⟨same _ (fun a g1 g2 g3 => ?_) (fun a g => hs_n g) rfl, ?_⟩
          · show upd (upd (fs_hs S R.2.2.1 R.2.2.2).1 47 y) 0 3 a = _
            rw [up_miss g1, up_miss g3]
            exact hs_s g1 g2
          · show (_, (3 : Int32)) ∈ _
            simp [fs_UOE]
        · rw [hVl] at q2
          exact absurd f2 q2
      · subst f3 f5 f6
        rcases b4 with ⟨q1, -⟩ | ⟨q1, q2, -⟩ | ⟨q1, q2, q3, q4, q5, q6, q7, q8, q9, q10, q11⟩
        · rw [f1] at q1; cases q1
        · rw [hVl] at q2
          exact absurd q2 f2
        · have ov : ∀ a, a ≠ 36 → a ≠ 38 → a ≠ 46 → S2.2.1 a = S.2.1 a := fun a g1 g2 g3 => by
            by_cases h34 : a = 34
            · subst h34
              exact q9.trans (hs_n g3)
            · by_cases h35 : a = 35
              · subst h35
                exact q10.trans (hs_n g3)
              · by_cases h40 : a = 40
                · subst h40
                  exact q11.trans (hs_n g3)
                · rw [q7.2 a h34 h35 g1 g2 h40]
                  exact hs_n g3
          have os : ∀ a, a ≠ 0 → a ≠ 37 → a ≠ 45 → a ≠ 47 → S2.1 a = S.1 a := fun a g1 g2 g3 g4 => by
            by_cases h33 : a = 33
            · subst h33
              exact q8.trans (hs_s (by decide) (by decide))
            · rw [q7.1 a g1 h33 g2 g4]
              exact hs_s g1 g3
          have hW1 : (fs_V W1).length = W1.length := List.length_map ..
          have hlen : (fs_V W1).length ≤ 80 := by
            rw [f4, List.length_append, mr_len]
            omega
          refine ⟨in_col hI (fun a ha => os a (by omega) (by omega) (by omega) (by omega)) (fun a ha => ov a (by omega) (by omega) (by omega)) ⟨?_, k2, k3, ?_, k5, k6, ?_, hlen, ?_⟩ ?_ fun y hy => ?_, q4, ?_⟩
          · unfold fs_kn
            rw [os 28 (by decide) (by decide) (by decide) (by decide), ov 29 (by decide) (by decide) (by decide), ov 30 (by decide) (by decide) (by decide), ov 31 (by decide) (by decide) (by decide), ov 32 (by decide) (by decide) (by decide)]
            exact k1
          · unfold fs_sf
            rw [os 33 (by decide) (by decide) (by decide) (by decide), ov 34 (by decide) (by decide) (by decide), ov 35 (by decide) (by decide) (by decide)]
            exact k4
          · rw [f4]
            exact q5
          · rw [f4]
            exact vg_app k9 (mr_v1 hby c3 _ _)
          · rw [f4]
            exact iq_ext hI.2.2.2.1
          · rw [q6, ov 40 (by decide) (by decide) (by decide), ov 41 (by decide) (by decide) (by decide), ov 42 (by decide) (by decide) (by decide), ov 43 (by decide) (by decide) (by decide), ov 44 (by decide) (by decide) (by decide)]
            refine ⟨hmk y hy, ?_⟩
            obtain ⟨t1, t2⟩ := hh y hy
            have hy2 : y = 0 ∨ y = 1 := by omega
            rcases hy2 with rfl | rfl
            · exact t2
            · exact t2
          · rw [q3, n_s (by omega)]
            congr 1
            omega
theorem st_hear {k c1 : Nat} {A B : Nat → Nat} {Z : fs_Z} {h F : List fs_C} {σ : fs_S} {S : fs_R} (hI : fs_In k Z S) (hX : fs_WF c1 A Z h) (ho : fs_own (h ++ F) σ) (hc : fs_kc c1 σ) (x : Int32) :
    fs_Sp k c1 A B F σ S (fs_cv (A 7) 0 (f_Fs_hear (A 7) x)) (fs_cv (B 0) 12 (f_Rf_hear (B 0) x)) [(fs_IOB, 1), (fs_IAE, 2), (fs_UOE, 3)] (fun v r => v = r) := by
  have l30 := hI.2.1.2.1
  obtain ⟨b1, b2⟩ := c_hear0 hX ho l30 x
  by_cases hb : x < 0 ∨ Int32.ofNat (z_R Z).length ≤ x
  · refine sp_f hI (b1 hb) (rh_bad ?_) List.mem_cons_self
    rw [hI.2.1.1.1]
    exact nl_or (by omega) hb
  · obtain ⟨r, hr, rfl⟩ := n_in_ (by omega) hb
    have hq := List.getElem?_eq_getElem hr
    obtain ⟨h5, h64, hby⟩ := hI.2.1.2.2 _ (List.getElem_mem hr)
    by_cases hD : fs_bD (z_R Z)[r].2.2.1 (z_R Z)[r].2.2.2 = 0
    · by_cases h0 : (z_R Z)[r].2.2.2 2 = 0
      · exact st_hearT hI hX ho hc hq hD h0
      · by_cases h1 : (z_R Z)[r].2.2.2 2 = 1
        · exact st_hearR hI hX ho hc hq hD h1
        · exact st_hearS hI hX ho hq hD h0 h1
    · refine ⟨_, _, b2 r _ rfl hq hD, rh_go hI.2.1.1 l30 hq h64 <| w_mono (he_isbad (hs_buf S _ _) hby h5 h64 hD) fun v S1 e => ?_⟩
      subst e
      refine ⟨in_eq hI (fun a g1 g2 g3 => ?_) (fun a g => hs_n g) rfl, ?_⟩
      · show upd (fs_hs S _ _).1 0 2 a = _
        rw [up_miss g1]
        exact hs_s g1 g2
      · show (fs_IAE, (2 : Int32)) ∈ _
        simp
