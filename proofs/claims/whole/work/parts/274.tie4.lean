/-! fields and restarts, on both sides -/
def fs_gL (g : Nat → Int32) : Prop := g 0 = 1 ∧ g 1 = 1 ∧ g 2 = 1 ∧ g 3 = 3 ∧ g 4 = 2 ∧ g 5 = 2 ∧ g 6 = 2 ∧ g 7 = 1
theorem gL_at {g : Nat → Int32} (h : fs_gL g) {b : Nat} (hb : b < 8) : g b = fs_lst (Int32.ofNat b) := by
  obtain ⟨h0, h1, h2, h3, h4, h5, h6, h7⟩ := h
  match b, hb with
  | 0, _ => rw [h0]; decide
  | 1, _ => rw [h1]; decide
  | 2, _ => rw [h2]; decide
  | 3, _ => rw [h3]; decide
  | 4, _ => rw [h4]; decide
  | 5, _ => rw [h5]; decide
  | 6, _ => rw [h6]; decide
  | 7, _ => rw [h7]; decide
  | n + 8, h => exact absurd h (by omega)
theorem i_le4 (t : Int32) : ¬ t ≤ 4 ↔ 4 < t := by
  rw [Int32.lt_iff_toInt_lt, Int32.le_iff_toInt_le]
  show ¬ t.toInt ≤ 4 ↔ 4 < t.toInt
  omega
theorem st_field {k c1 : Nat} {A B : Nat → Nat} {Z : fs_Z} {h F : List fs_C} {σ : fs_S} {S : fs_R} {g : Nat → Int32} (hI : fs_In k Z S) (hk : k < 1000) (hX : fs_WF c1 A Z h) (ho : fs_own (h ++ F) σ) (hg : fs_kl g σ) (hgL : fs_gL g) (x t f y : Int32) :
    fs_Sp k c1 A B F σ S (fs_cv (A 7) 0 (f_Fs_field (A 7) x t f y)) (fs_cv (B 0) 12 (f_Rf_field (B 0) x t f y)) [(fs_IAE, 1), (fs_ISE, 2)] (fun v r => v = r) := by
  obtain ⟨b1, b2⟩ := c_field hX ho hg x t f y
  by_cases hb : ¬ (x = 0 ∨ x = 1) ∨ t < 0 ∨ ¬ t < 3
  · refine sp_f hI (b1 hb) (rd_bad ?_) List.mem_cons_self
    rw [i_lt3] at hb
    exact hb.elim Or.inl fun z => Or.inr (z.elim Or.inl fun z => Or.inr (Or.inl z))
  · obtain ⟨n, u, hn, hu, rfl, rfl⟩ := xt_ok hb
    obtain ⟨T, t1, t2, t3, t4⟩ := sl_at hI hn hu
    obtain ⟨d1, d2⟩ := b2 n u T hn rfl rfl t1 t4.2.1.1
    by_cases hf0 : f < 0
    · exact sp_f hI (d1 (Or.inl hf0)) (rd_bad (Or.inr (Or.inr (Or.inr (Or.inl hf0))))) List.mem_cons_self
    by_cases hf8 : f < 8
    · have hf7 := (i_lt8 f).mp hf8
      obtain ⟨b, hb7, rfl⟩ := i_rng (n := 7) hf0 (Int32.not_lt.mp hf7) (by decide)
      have hb8 : b < 8 := by omega
      have eg : g (Int32.ofNat b).toNatClampNeg = fs_lst (Int32.ofNat b) := by
        rw [show (Int32.ofNat b).toNatClampNeg = b from Int32.toNatClampNeg_ofNat_of_lt (by omega)]
        exact gL_at hgL hb8
      rw [eg] at d1 d2
      by_cases hy0 : y < 0
      · exact sp_f hI (d1 (Or.inr (Or.inr (Or.inl hy0)))) (rd_bad (Or.inr (Or.inr (Or.inr (Or.inr (Or.inr (Or.inl hy0))))))) List.mem_cons_self
      by_cases hy4 : y ≤ 4
      · obtain ⟨l, hl4, rfl⟩ := i_rng (n := 4) hy0 hy4 (by decide)
        have hl0 : Int32.ofNat l = 0 ↔ Int32.ofNat l ≤ 0 := ⟨fun z => by rw [z]; exact Int32.le_refl _, fun z => by
          have := (n_le (y := 0) (by omega) (by decide)).mp z
          rw [show l = 0 by omega]
          rfl⟩
        by_cases hl : ¬ Int32.ofNat l = 0 ∧ ¬ fs_lst (Int32.ofNat b) ≤ Int32.ofNat l
        · exact sp_f hI (d1 (Or.inr (Or.inr (Or.inr (Or.inr hl))))) (rd_bad (Or.inr (Or.inr (Or.inr (Or.inr (Or.inr (Or.inr (Or.inr ⟨fun z => hl.1 (hl0.mpr z), hl.2⟩)))))))) List.mem_cons_self
        · have hl2 : Int32.ofNat l = 0 ∨ fs_lst (Int32.ofNat b) ≤ Int32.ofNat l := by
            by_cases q : Int32.ofNat l = 0
            · exact Or.inl q
            · exact Or.inr (Decidable.not_not.mp fun z => hl ⟨q, z⟩)
          have hl3 : Int32.ofNat l ≤ 0 ∨ fs_lst (Int32.ofNat b) ≤ Int32.ofNat l := hl2.elim (fun z => Or.inl (hl0.mp z)) Or.inr
          obtain ⟨q1, q2, q3, q4, rv, q5, q6⟩ := t4
          obtain ⟨d3, d4⟩ := d2 hf0 hf8 hy0 hy4 hl2
          have room : fs_hf T.2.2.1.2.2.2.2.1 (Int32.ofNat b) 0 T.2.2.1.2.2.2.1 = false → T.2.2.1.2.2.2.1 < 8 := hf_room q2.1 q2.2 q3 hb8
          have hy4' : ¬ (4 : Int32) < Int32.ofNat l := fun z => (i_le4 _).mpr z hy4
          cases hh : fs_hf T.2.2.1.2.2.2.2.1 (Int32.ofNat b) 0 T.2.2.1.2.2.2.1 with
          | true =>
            exact sp_f hI (d3 hh) (rd_ok (g := T.2.2.1.2.2.2.2.1) (Q := fun _ S1 => S1 = r_pi_ S 0 2) hn hu hf0 hf7 hy0 hy4' hl3 q2.1 t2.1 (fun i hi => (t2.2.1 i hi).1) room (fun _ => rfl) (fun z => by rw [hh] at z; cases z)) (by simp)
          | false =>
            have hu8 := room hh
            have hno := hf_no _ 0 hh
            refine ⟨_, _, d4 hh hu8, rd_ok (g := T.2.2.1.2.2.2.2.1) hn hu hf0 hf7 hy0 hy4' hl3 q2.1 t2.1 (fun i hi => (t2.2.1 i hi).1) room (fun z => by rw [hh] at z; cases z) (fun _ => ?_)⟩
            obtain ⟨g1, g2⟩ := tr_field (f := Int32.ofNat b) (y := Int32.ofNat l) t2 hu8
            refine ⟨in_sl (s := (z_X Z n).1) hI hn hk t1 g1 g2 ⟨q1, ⟨hu8, fun i hi => ?_⟩, fun i j hij hj => ?_, q4, rv, q5, ?_⟩ t3 (fun _ _ => rfl) (fun a h1 _ => up_miss h1 _) rfl (Or.inl ⟨rfl, rfl, fun z => ⟨z, rfl, rfl⟩⟩), rfl, rfl⟩
            · have hi2 : i < T.2.2.1.2.2.2.1 + 1 := hi
              show (∃ k, k < 8 ∧ upd T.2.2.1.2.2.2.2.1 T.2.2.1.2.2.2.1 (Int32.ofNat b) i = Int32.ofNat k) ∧ ∃ l', l' ≤ 4 ∧ upd T.2.2.1.2.2.2.2.2 T.2.2.1.2.2.2.1 (Int32.ofNat l) i = Int32.ofNat l'
              by_cases hiu : i = T.2.2.1.2.2.2.1
              · rw [hiu, up_hit, up_hit]
                exact ⟨⟨b, hb8, rfl⟩, l, hl4, rfl⟩
              · rw [up_miss hiu, up_miss hiu]
                exact q2.2 i (by omega)
            · have hj2 : j < T.2.2.1.2.2.2.1 + 1 := hj
              show upd T.2.2.1.2.2.2.2.1 T.2.2.1.2.2.2.1 (Int32.ofNat b) i ≠ upd T.2.2.1.2.2.2.2.1 T.2.2.1.2.2.2.1 (Int32.ofNat b) j
              rw [up_miss (show i ≠ T.2.2.1.2.2.2.1 by omega)]
              by_cases hju : j = T.2.2.1.2.2.2.1
              · rw [hju, up_hit]
                exact hno i (Nat.zero_le _) (by omega)
              · rw [up_miss hju]
                exact q3 i j hij (by omega)
            · show 2 * rv + (T.2.2.1.2.2.2.1 + 1) ≤ k + 1
              omega
      · exact sp_f hI (d1 (Or.inr (Or.inr (Or.inr (Or.inl hy4))))) (rd_bad (Or.inr (Or.inr (Or.inr (Or.inr (Or.inr (Or.inr (Or.inl ((i_le4 y).mp hy4)))))))) ) List.mem_cons_self
    · exact sp_f hI (d1 (Or.inr (Or.inl hf8))) (rd_bad (Or.inr (Or.inr (Or.inr (Or.inr (Or.inl (Decidable.not_not.mp fun z => hf8 ((i_lt8 f).mpr z)))))))) List.mem_cons_self
/-! a restart -/
theorem st_restart {k c1 : Nat} {A B : Nat → Nat} {Z : fs_Z} {h F : List fs_C} {σ : fs_S} {S : fs_R} (hI : fs_In k Z S) (hX : fs_WF c1 A Z h) (ho : fs_own (h ++ F) σ) (x : Int32) :
    fs_Sp k c1 A B F σ S (fs_cv (A 7) 0 (f_Fs_restart (A 7) x)) (fs_cv (B 0) 12 (f_Rf_restart (B 0) x)) [(fs_IAE, 1), (fs_ISE, 2)] (fun v r => v = r) := by
  obtain ⟨b1, b2⟩ := c_restart hX ho x
  by_cases hx : x = 0 ∨ x = 1
  · obtain ⟨n, hn, rfl⟩ := x01 hx
    obtain ⟨d1, d2⟩ := b2 n hn rfl
    have hx3 := hI.1 n hn
    obtain ⟨⟨i0, ⟨t, t1, t2, t3⟩, ⟨e, e1, e2, e3⟩, i6, i9, i10⟩, i2, ⟨⟨l3, h5, h6⟩, h7⟩, ⟨na, nb, a1, a2, a3, a4, a5⟩⟩ := hI.1 n hn
    by_cases h5' : (z_X Z n).1 5 < 5
    · have he5 : ¬ S.2.1 2 n = 5 := fun z => by
        rw [e3] at z
        rw [z] at h5'
        exact absurd h5' (by decide)
      have hlt : e < 5 := by
        rw [e2] at h5'
        exact (n_lt (y := 5) (by omega) (by decide)).mp h5'
      refine ⟨_, _, d2 h5', w_mono (rr_ok hn he5) fun r S1 ⟨r1, r2⟩ => ?_⟩
      have rz : ∀ a j, (a = 15 ∨ a = 18 ∨ a = 19) → 3 * n ≤ j → j < 3 * n + 3 → S1.2.1 a j = 0 := fun a j ha h1 h2 => by
        rw [r2]
        show fs_rz3 (fs_rsv S.2.1 n) n (3 * n + 3) a j = 0
        unfold fs_rz3
        rw [if_pos ha, if_pos ⟨h1, h2⟩]
      have ru : ∀ a j, ¬ ((a = 15 ∨ a = 18 ∨ a = 19) ∧ 3 * n ≤ j ∧ j < 3 * n + 3) → S1.2.1 a j = fs_rsv S.2.1 n a j := fun a j ha => by
        rw [r2]
        show fs_rz3 (fs_rsv S.2.1 n) n (3 * n + 3) a j = _
        unfold fs_rz3
        by_cases h1 : a = 15 ∨ a = 18 ∨ a = 19
        · rw [if_pos h1, if_neg fun z => ha ⟨h1, z⟩]
        · rw [if_neg h1]
      have rs : ∀ a j, ¬ ((a = 2 ∨ a = 3 ∨ a = 4 ∨ a = 5 ∨ a = 6 ∨ a = 7 ∨ a = 13) ∧ j = n) → fs_rsv S.2.1 n a j = S.2.1 a j := fun a j ha => by
        unfold fs_rsv
        unfold va_up
        by_cases c4 : a = 4
        · rw [if_pos c4, up_miss (by omega), c4]
        rw [if_neg c4]
        by_cases c3 : a = 3
        · rw [if_pos c3, up_miss (by omega), c3]
        rw [if_neg c3]
        by_cases c6 : a = 6
        · rw [if_pos c6, up_miss (by omega), c6]
        rw [if_neg c6]
        by_cases c5 : a = 5
        · rw [if_pos c5, up_miss (by omega), c5]
        rw [if_neg c5]
        by_cases c13 : a = 13
        · rw [if_pos c13, up_miss (by omega), c13]
        rw [if_neg c13]
        by_cases c7 : a = 7
        · rw [if_pos c7, up_miss (by omega), c7]
        rw [if_neg c7]
        by_cases c2 : a = 2
        · rw [if_pos c2, up_miss (by omega), c2]
        rw [if_neg c2]
      have g2 : S1.1 = upd S.1 0 0 := by rw [r2]
      have g3 : S1.2.2 = S.2.2 := by rw [r2]
      have w7 : S1.2.1 7 n = 0 := (ru 7 n (by omega)).trans (up_hit _ _ _)
      have w13 : S1.2.1 13 n = 0 := (ru 13 n (by omega)).trans (up_hit _ _ _)
      have w2 : S1.2.1 2 n = S.2.1 2 n + 1 := (ru 2 n (by omega)).trans (up_hit _ _ _)
      have w3 : S1.2.1 3 n = 1 := (ru 3 n (by omega)).trans (up_hit _ _ _)
      have w4 : S1.2.1 4 n = 0 := (ru 4 n (by omega)).trans (up_hit _ _ _)
      have w5 : S1.2.1 5 n = 0 := (ru 5 n (by omega)).trans (up_hit _ _ _)
      have w6 : S1.2.1 6 n = 0 := (ru 6 n (by omega)).trans (up_hit _ _ _)
      have sl : ∀ i V, ((z_X Z n).2.2.2.map fs_fg)[i]? = some V → ∃ T, (z_X Z n).2.2.2[i]? = some T ∧ V = fs_fg T ∧ i < 3 := fun i V hi => by
        rw [List.getElem?_map] at hi
        cases hT : (z_X Z n).2.2.2[i]? with
        | none => rw [hT] at hi; cases hi
        | some T =>
          rw [hT] at hi
          cases hi
          have := (List.getElem?_eq_some_iff.mp hT).1
          exact ⟨T, rfl, rfl, by omega⟩
      have z3 : ∀ T : fs_Sl, (fs_fg T).2.1 3 = 0 := fun T => rfl
      refine ⟨in_x hn hI ⟨⟨i0, ⟨t, by omega, t2, ?_⟩, ⟨e + 1, by omega, ?_, ?_⟩, ⟨1, 0, by decide, by decide, rfl, w3, rfl, w4⟩, ⟨0, by decide, rfl, w5⟩, ⟨0, Nat.zero_le _, rfl, w6⟩⟩, ⟨⟨w7, w13, fun i q hq => absurd hq (by simp), fun i q hq => absurd hq (by simp)⟩, Nat.zero_le _, Nat.zero_le _, fun q hq => absurd hq List.not_mem_nil, fun q hq => absurd hq List.not_mem_nil⟩, ⟨⟨by rw [List.length_map]; exact l3, fun i V hi => ?_, fun i V j W hi hj n1 n2 => ?_⟩, fun i V hi => ?_⟩, ⟨na, nb, by omega, by omega, a3, (e0_of g2 24 (by decide)).trans a4, fun i V hi n1 => ?_⟩⟩ (fun a h1 _ => e0_of g2 a h1) (Or.inl (e0_of g2 24 (by decide))) (fun a j h1 h2 h3 => ?_) g3, by rw [g2]; rfl, ?_⟩
      · rw [ru 1 n (by omega), rs 1 n (by omega)]
        exact t3
      · show (z_X Z n).1 5 + 1 = _
        rw [e2, ofNat_add1]
      · rw [w2, e3]
        rfl
      · obtain ⟨T, hT, rfl, hi3⟩ := sl i V hi
        refine ⟨⟨rz 15 _ (by decide) (by omega) (by omega), fun k hk => absurd hk (Nat.not_lt_zero _), rz 18 _ (by decide) (by omega) (by omega), rz 19 _ (by decide) (by omega) (by omega), fun z => absurd (z3 T) z⟩, fun z => absurd (z3 T) z⟩
      · obtain ⟨T, hT, rfl, hi3⟩ := sl i V hi
        exact absurd (z3 T) n1
      · obtain ⟨T, hT, rfl, hi3⟩ := sl i V hi
        obtain ⟨q1, q2, q3, q4, rv, q5, q6⟩ := h7 i T hT
        exact ⟨q1, ⟨Nat.zero_le _, fun i hi => absurd hi (Nat.not_lt_zero _)⟩, fun i j _ hj => absurd hj (Nat.not_lt_zero _), q4, 0, rfl, Nat.zero_le _⟩
      · obtain ⟨T, hT, rfl, hi3⟩ := sl i V hi
        exact absurd (z3 T) n1
      · rw [ru a j (by unfold fs_rg3 at h3; omega), rs a j (by unfold fs_rg1 at h1; unfold fs_reg at h2; omega)]
      · rw [r1, e3]
    · have he5 : S.2.1 2 n = 5 := by
        rw [e3, e2]
        rw [e2] at h5'
        have : ¬ e < 5 := fun z => h5' ((n_lt (y := 5) (by omega) (by decide)).mpr z)
        rw [show e = 5 by omega]
        rfl
      exact sp_f hI (d1 h5') (rr_ise hn he5) (by simp)
  · exact sp_f hI (b1 hx) (rr_bad hx) List.mem_cons_self
