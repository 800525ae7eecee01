/-! a report heard, on both sides -/
theorem st_hearT {k c1 r : Nat} {A B : Nat → Nat} {Z : fs_Z} {R : fs_Rp} {h F : List fs_C} {σ : fs_S} {S : fs_R} (hI : fs_In k Z S) (hX : fs_WF c1 A Z h) (ho : fs_own (h ++ F) σ) (hc : fs_kc c1 σ) (hR : (z_R Z)[r]? = some R) (hb : fs_bD R.2.2.1 R.2.2.2 = 0) (h2 : R.2.2.2 2 = 0) :
    fs_Sp k c1 A B F σ S (fs_cv (A 7) 0 (f_Fs_hear (A 7) (Int32.ofNat r))) (fs_cv (B 0) 12 (f_Rf_hear (B 0) (Int32.ofNat r))) [(fs_IOB, 1), (fs_IAE, 2), (fs_UOE, 3)] (fun v r => v = r) := by
  have l30 := hI.2.1.2.1
  obtain ⟨h5, h64, hby⟩ := hI.2.1.2.2 R (List.mem_of_getElem? hR)
  obtain ⟨n1, n2, n3⟩ := bD_0 hb
  have hbT : fs_bT R.2.2.1 R.2.2.2 = 0 := by
    rcases n3 with n3 | n3 | n3
    · exact n3.2.2.2
    · exact absurd (h2.symm.trans n3.1) (by decide)
    · exact absurd h2 n3.1
  obtain ⟨hg, hg1⟩ := good_T hby hbT
  have hu : R.2.2.1 = 6 + 2 * (R.2.2.2 5).toNatClampNeg := by
    unfold fs_bT at hbT
    split at hbT
    · exact absurd hbT (by decide)
    · split at hbT
      · exact absurd hbT (by decide)
      · split at hbT
        · rename_i e
          rw [(by_ge hby 5).1, show (6 : Int32) + 2 * Int32.ofNat (R.2.2.2 5).toNatClampNeg = Int32.ofNat (6 + 2 * (R.2.2.2 5).toNatClampNeg) by rw [Int32.ofNat_add, Int32.ofNat_mul]; rfl] at e
          have := hg.2.1
          exact n_inj (by omega) (by omega) e
        · exact absurd hbT (by decide)
  have hVl : (fs_V (z_W Z)).length = (z_W Z).length := List.length_map ..
  obtain ⟨k1, k2, k3, k4, k5, k6, k7, k8, k9⟩ := hI.2.2.1
  obtain ⟨m1, m2, m3, m4, m5, m6, m7, m8, m9⟩ := hs_ik (u := R.2.2.1) (f := R.2.2.2) hI.2.2.1
  have hh := hI.2.2.2.2
  have hh2 := hs_ih (u := R.2.2.1) (f := R.2.2.2) hI.2.2.2.2
  obtain ⟨ans, K1, S1, W1, p1, p2, d1, d2⟩ := c_hearT hX ho hc l30 hR hb h2 hby k2 k5 (fun R hR => (k6 R hR).1) (by omega)
  have hng : fs_ng R.2.2.2 := ⟨n1, hby⟩
  have wk := fun (T : fs_Rp) (hT : T.2.2 = (R.2.2.1, R.2.2.2)) => w_hearT (A := B) (hs_buf S R.2.2.1 R.2.2.2) hng hg hu h5 m1 m2 (fun T hT => (m3 T hT).1) (fun T hT => by
    obtain ⟨nf, g1, g2, -⟩ := (m3 T hT).2
    rw [g1, show (Int32.ofNat nf).toNatClampNeg = nf from Int32.toNatClampNeg_ofNat_of_lt (by omega)]
    exact g2) m4 m5 m6 m7 m8 (hh2 0 (by decide)).2.2.1 (hh2 1 (by decide)).2.2.1 rfl T hT
  have z0 : (fs_hs S R.2.2.1 R.2.2.2).1 0 = 0 := rfl
  refine ⟨ans, _, d1, rh_go hI.2.1.1 l30 hR h64 <| he_T (hs_buf S R.2.2.1 R.2.2.2) hby h5 h64 hb h2 ?_⟩
  rcases d2 with ⟨c0, a0, a1, a2, a3, a4, a5⟩ | ⟨c0, c2, a0, a1, a2, a3, a4, a5⟩ | ⟨c0, c2, a0, ⟨R1, a1, a1'⟩, a2, a3, a4⟩
  · subst a0 a1 a2 a3 a4 a5
    refine w_mono (wk R rfl) fun v S2 hq => ?_
    rcases hq with ⟨b0, b1, b2⟩ | ⟨b0, -⟩ | ⟨b0, -⟩
    · subst b2
      refine ⟨in_col hI (fun a ha => hs_s (by omega) (by omega)) (fun a ha => hs_n (by omega)) (hs_ik hI.2.2.1) hI.2.2.2.1 fun x hx => ?_, z0, b1.symm⟩
      have : x = 0 ∨ x = 1 := by omega
      rcases this with rfl | rfl
      · exact hh2 0 (by decide)
      · exact hh2 1 (by decide)
    · exact absurd b0 c0
    · exact absurd b0 c0
  · subst a0 a1 a2 a3 a4 a5
    refine w_mono (wk R rfl) fun v S2 hq => ?_
    rcases hq with ⟨b0, -⟩ | ⟨b0, b1, b2⟩ | ⟨b0, b1, -⟩
    · exact absurd c0 b0
    · subst b2
      have e0 : ∀ a, a ≠ 0 → a ≠ 45 → (r_pi_ (fs_hs S R.2.2.1 R.2.2.2) 0 3).1 a = S.1 a := fun a g1 g2 => (up_miss g1 _).trans (hs_s g1 g2)
      refine ⟨in_col hI (fun a ha => e0 a (by omega) (by omega)) (fun a ha => hs_n (by omega)) (ik_cg hI.2.2.1 (fun a ha => e0 a (by omega) (by omega)) (fun a g1 g2 g3 => hs_n (by omega)) rfl) hI.2.2.2.1 fun x hx => ?_, by show (_, (3 : Int32)) ∈ _; simp [fs_UOE]⟩
      have : x = 0 ∨ x = 1 := by omega
      rcases this with rfl | rfl
      · exact hh2 0 (by decide)
      · exact hh2 1 (by decide)
    · rw [hVl] at b1
      exact absurd c2 b1
  · subst a0 a1 a2
    refine w_mono (wk R1 a1') fun v S2 hq => ?_
    rcases hq with ⟨b0, -⟩ | ⟨b0, b1, -⟩ | ⟨b0, b1, V1, q1, q2, b2, b3, b4, b5, b6, b7, b8, b9, b10⟩
    · exact absurd c0 b0
    · rw [hVl] at b1
      exact absurd b1 c2
    · have he : (fs_V W1, p1, p2) = (V1, q1, q2) := by rw [a3, b2]
      cases he
      obtain ⟨g1, ⟨Y, g2⟩, g3⟩ := rsh_all hg (z_S Z) (fs_V (z_W Z), z_q Z 0, z_q Z 1) k6
      rw [← a3] at g1 g2 g3
      have g2' : fs_V W1 = fs_V (z_W Z) ++ Y := g2
      have hW1 : (fs_V W1).length = W1.length := List.length_map ..
      refine ⟨in_col hI (fun a ha => ?_) (fun a ha => ?_) ⟨b4, ?_, fun T hT => ?_, b5, ?_, fun U hU => ?_, b6, by omega, g1 k9⟩ ?_ fun x hx => ?_, b9, ?_⟩
      · rw [b10.1 a (by omega) (by omega) (by omega) (by omega) (by omega) (by omega)]
        exact hs_s (by omega) (by omega)
      · rw [b10.2 a (by omega) (by omega) (by omega) (by omega) (by omega) (by omega) (by omega) (by omega) (by omega)]
        exact hs_n (by omega)
      · rw [List.length_append, List.length_singleton]
        omega
      · rcases List.mem_append.mp hT with hT | hT
        · exact k3 T hT
        · rw [List.mem_singleton] at hT
          subst hT
          rw [a1']
          exact ⟨hng, _, hg⟩
      · exact Nat.le_trans (List.length_filter_le _ _) k5
      · exact k6 U (List.mem_filter.mp hU).1
      · rw [g2']
        exact iq_ext hI.2.2.2.1
      · have o : ∀ a, a = 36 ∨ a = 40 ∨ 42 ≤ a ∧ a ≤ 44 → S2.2.1 a = S.2.1 a := fun a ha => by
          rw [b10.2 a (by omega) (by omega) (by omega) (by omega) (by omega) (by omega) (by omega) (by omega) (by omega)]
          exact hs_n (by omega)
        rw [o 36 (by decide), o 40 (by decide), o 42 (by decide), o 43 (by decide), o 44 (by decide)]
        have hx2 : x = 0 ∨ x = 1 := by omega
        rcases hx2 with rfl | rfl
        · obtain ⟨t1, t2, t3, t4, t5, t6⟩ := hh 0 (by decide)
          show _ ∧ _ = p1 1 ∧ _ = p1 2 ∧ _ = p1 3 ∧ _ = p1 4 ∧ _ = p1 5
          have y : ∀ i, i ≠ 2 → p1 i = z_q Z 0 i := fun i hi => (g3 i hi).1
          rw [y 1 (by decide), y 3 (by decide), y 4 (by decide), y 5 (by decide)]
          exact ⟨t1, t2, b7, t4, t5, t6⟩
        · obtain ⟨t1, t2, t3, t4, t5, t6⟩ := hh 1 (by decide)
          show _ ∧ _ = p2 1 ∧ _ = p2 2 ∧ _ = p2 3 ∧ _ = p2 4 ∧ _ = p2 5
          have y : ∀ i, i ≠ 2 → p2 i = z_q Z 1 i := fun i hi => (g3 i hi).2
          rw [y 1 (by decide), y 3 (by decide), y 4 (by decide), y 5 (by decide)]
          exact ⟨t1, t2, b8, t4, t5, t6⟩
      · rw [b3, hVl, hW1]
theorem st_hearS {k c1 r : Nat} {A B : Nat → Nat} {Z : fs_Z} {R : fs_Rp} {h F : List fs_C} {σ : fs_S} {S : fs_R} (hI : fs_In k Z S) (hX : fs_WF c1 A Z h) (ho : fs_own (h ++ F) σ) (hR : (z_R Z)[r]? = some R) (hb : fs_bD R.2.2.1 R.2.2.2 = 0) (h0 : ¬ R.2.2.2 2 = 0) (h1 : ¬ R.2.2.2 2 = 1) :
    fs_Sp k c1 A B F σ S (fs_cv (A 7) 0 (f_Fs_hear (A 7) (Int32.ofNat r))) (fs_cv (B 0) 12 (f_Rf_hear (B 0) (Int32.ofNat r))) [(fs_IOB, 1), (fs_IAE, 2), (fs_UOE, 3)] (fun v r => v = r) := by
  have l30 := hI.2.1.2.1
  obtain ⟨h5, h64, hby⟩ := hI.2.1.2.2 R (List.mem_of_getElem? hR)
  obtain ⟨n1, n2, n3⟩ := bD_0 hb
  obtain ⟨n, hn, hx⟩ := x01 n1
  refine ⟨_, _, c_hearS hX ho l30 hR hb h0 h1 hn hx, rh_go hI.2.1.1 l30 hR h64 <| w_mono (he_S (hs_buf S R.2.2.1 R.2.2.2) hby h5 h64 hb h0 h1 hn hx) fun v S1 ⟨e1, e2⟩ => ?_⟩
  have hh2 := hs_ih (u := R.2.2.1) (f := R.2.2.2) hI.2.2.2.2
  generalize hS' : fs_hs S R.2.2.1 R.2.2.2 = S' at *
  have s' : ∀ a, a ≠ 0 → a ≠ 45 → S'.1 a = S.1 a := fun a g1 g2 => by rw [← hS']; exact hs_s g1 g2
  have v' : ∀ a, a ≠ 46 → S'.2.1 a = S.2.1 a := fun a g1 => by rw [← hS']; exact hs_n g1
  have w' : S'.2.2 = S.2.2 := by rw [← hS']; rfl
  have z0 : S'.1 0 = 0 := by rw [← hS']; rfl
  have es : S1.1 = S'.1 := by rw [e2]; unfold fs_nts; split <;> rfl
  have ew : S1.2.2 = S'.2.2 := by rw [e2]; unfold fs_nts; split <;> rfl
  have ev : ∀ a, a ≠ 42 → a ≠ 43 → a ≠ 44 → S1.2.1 a = S'.2.1 a := fun a g1 g2 g3 => by
    rw [e2]
    unfold fs_nts
    split
    · rw [r_si_ne g3, r_si_ne g2, r_si_ne g1]
    · rfl
  obtain ⟨t1, t2, t3, t4, t5, t6⟩ := hh2 n hn
  refine ⟨in_col hI (fun a ha => by rw [es]; exact s' a (by omega) (by omega)) (fun a ha => by rw [ev a (by omega) (by omega) (by omega)]; exact v' a (by omega)) (ik_cg hI.2.2.1 (fun a ha => by rw [es]; exact s' a (by omega) (by omega)) (fun a g1 g2 g3 => by rw [ev a (by omega) (by omega) (by omega)]; exact v' a (by omega)) (by rw [ew]; exact w')) hI.2.2.2.1 fun x hx2 => ?_, by rw [es]; exact z0, e1.symm⟩
  rw [ev 36 (by decide) (by decide) (by decide), ev 40 (by decide) (by decide) (by decide), ev 41 (by decide) (by decide) (by decide)]
  obtain ⟨u1, u2, u3, u4, u5, u6⟩ := hh2 x hx2
  by_cases hxn : x = n
  · subst hxn
    show _ ∧ _ = va_up (z_q Z) x (fs_ns (z_q Z x) R.2.2.2) x 1 ∧ _ = va_up (z_q Z) x (fs_ns (z_q Z x) R.2.2.2) x 2 ∧ _ = va_up (z_q Z) x (fs_ns (z_q Z x) R.2.2.2) x 3 ∧ _ = va_up (z_q Z) x (fs_ns (z_q Z x) R.2.2.2) x 4 ∧ _ = va_up (z_q Z) x (fs_ns (z_q Z x) R.2.2.2) x 5
    rw [va_up_self, e2]
    unfold fs_ns fs_nts
    rw [u4, u5, u6]
    split
    · refine ⟨u1, u2, u3, ?_, ?_, ?_⟩
      · rw [r_si_ne (by decide), r_si_ne (by decide), r_si_at, up_hit]
        rfl
      · rw [r_si_ne (by decide), r_si_at, up_hit]
        rfl
      · rw [r_si_at, up_hit]
        rfl
    · exact ⟨u1, u2, u3, u4, u5, u6⟩
  · show _ ∧ _ = va_up (z_q Z) n (fs_ns (z_q Z n) R.2.2.2) x 1 ∧ _ = va_up (z_q Z) n (fs_ns (z_q Z n) R.2.2.2) x 2 ∧ _ = va_up (z_q Z) n (fs_ns (z_q Z n) R.2.2.2) x 3 ∧ _ = va_up (z_q Z) n (fs_ns (z_q Z n) R.2.2.2) x 4 ∧ _ = va_up (z_q Z) n (fs_ns (z_q Z n) R.2.2.2) x 5
    rw [va_up_ne _ _ hxn]
    have o : ∀ a, a = 42 ∨ a = 43 ∨ a = 44 → S1.2.1 a x = S'.2.1 a x := fun a ha => by
      rw [e2]
      unfold fs_nts
      split
      · rcases ha with rfl | rfl | rfl
        · rw [r_si_ne (by decide), r_si_ne (by decide), r_si_at, up_miss hxn]
        · rw [r_si_ne (by decide), r_si_at, up_miss hxn, r_si_ne (by decide)]
        · rw [r_si_at, up_miss hxn, r_si_ne (by decide), r_si_ne (by decide)]
      · rfl
    rw [o 42 (by decide), o 43 (by decide), o 44 (by decide)]
    exact ⟨u1, u2, u3, u4, u5, u6⟩
