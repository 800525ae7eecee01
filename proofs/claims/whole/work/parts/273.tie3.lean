/-! slots, on both sides -/
theorem pig : ∀ (n u : Nat) (f : Nat → Nat), (∀ i, i < u → f i < n) → (∀ i j, i < j → j < u → f i ≠ f j) → u ≤ n
  | 0, u, f, h1, _ => by
    cases u with
    | zero => exact Nat.le_refl _
    | succ u => exact absurd (h1 0 (Nat.succ_pos _)) (Nat.not_lt_zero _)
  | n + 1, u, f, h1, h2 => by
    by_cases he : ∃ i, i < u ∧ f i = n
    · obtain ⟨i0, hi0, hf⟩ := he
      have := pig n (u - 1) (fun i => if i < i0 then f i else f (i + 1)) (fun i hi => by
        split
        · have := h1 i (by omega)
          have h3 := h2 i i0 (by omega) hi0
          omega
        · have := h1 (i + 1) (by omega)
          have h3 := h2 i0 (i + 1) (by omega) (by omega)
          omega) (fun i j hij hj => by
        split
        · split
          · exact h2 i j hij (by omega)
          · exact h2 i (j + 1) (by omega) (by omega)
        · rw [if_neg (by omega)]
          exact h2 (i + 1) (j + 1) (by omega) (by omega))
      omega
    · have := pig n u f (fun i hi => by
        have h3 := h1 i hi
        have : f i ≠ n := fun z => he ⟨i, hi, z⟩
        omega) h2
      omega
theorem hf_no {g : Nat → Int32} {x : Int32} : ∀ (m i : Nat), fs_hf g x i m = false → ∀ j, i ≤ j → j < i + m → g j ≠ x
  | 0, i, _, j, h1, h2 => by omega
  | m + 1, i, h, j, h1, h2 => by
    have e : fs_hf g x i (m + 1) = (decide (g i = x) || fs_hf g x (i + 1) m) := rfl
    rw [e, Bool.or_eq_false_iff] at h
    by_cases hj : j = i
    · rw [hj]
      exact of_decide_eq_false h.1
    · exact hf_no m (i + 1) h.2 j (by omega) (by omega)
/-- a field is not there: the draft has room -/
theorem hf_room {f g : Nat → Int32} {u b : Nat} (hu : u ≤ 8) (hb : fs_bl f g u) (hd : ∀ i j, i < j → j < u → f i ≠ f j) (hx : b < 8) (h : fs_hf f (Int32.ofNat b) 0 u = false) : u < 8 := by
  have hn := hf_no u 0 h
  have sm : ∀ i, i < u → (f i).toNatClampNeg < 8 ∧ f i = Int32.ofNat (f i).toNatClampNeg := fun i hi => by
    obtain ⟨⟨k, k1, k2⟩, -⟩ := hb i hi
    have : (f i).toNatClampNeg = k := by rw [k2]; exact Int32.toNatClampNeg_ofNat_of_lt (by omega)
    rw [this]
    exact ⟨k1, k2⟩
  have := pig 8 (u + 1) (fun i => if i < u then (f i).toNatClampNeg else b) (fun i hi => by
    split
    · exact (sm i (by omega)).1
    · exact hx) (fun i j hij hj => by
    rw [if_pos (by omega)]
    obtain ⟨s1, s2⟩ := sm i (by omega)
    split
    · obtain ⟨s3, s4⟩ := sm j (by omega)
      intro z
      exact hd i j hij (by omega) (by rw [s2, s4, z])
    · intro z
      exact hn i (Nat.zero_le _) (by omega) (by rw [s2, z]))
  omega
/-- one slot changed -/
theorem i34_set {k x t : Nat} {s8 s9 : Int32} {L : List fs_Sl} {T U : fs_Sl} {S S1 : fs_R} (h3 : fs_I3 k x L S.2.1) (h4 : fs_I4 k x s8 L S) (hk : k < 1000) (ht : L[t]? = some T) (hT : fs_tr_ (3 * x + t) U S1.2.1) (ho : fs_ous (3 * x + t) S.2.1 S1.2.1) (hti : fs_ti (k + 1) t U) (hrv : ¬ U.2.1 3 = 0 → ∃ rv, rv ≠ 0 ∧ rv < 2 ^ 31 ∧ U.2.1 4 = Int32.ofNat rv)
    (hO : s9 = s8 ∧ S1.1 24 = S.1 24 ∧ (¬ U.2.1 3 = 0 → ¬ T.2.1 3 = 0 ∧ U.2.1 5 = T.2.1 5 ∧ S1.2.1 23 (3 * x + t) = S.2.1 23 (3 * x + t)) ∨ s9 = s8 + 1 ∧ S1.1 24 = S.1 24 + 1 ∧ U.2.1 5 = s8 + 1 ∧ S1.2.1 23 (3 * x + t) = S.1 24 + 1) : fs_I3 (k + 1) x (L.set t U) S1.2.1 ∧ fs_I4 (k + 1) x s9 (L.set t U) S1 := by
  obtain ⟨⟨l3, h5, h6⟩, h7⟩ := h3
  obtain ⟨na, nb, a1, a2, a3, a4, a5⟩ := h4
  have htl := (List.getElem?_eq_some_iff.mp ht).1
  have gt : ∀ i, (L.set t U)[i]? = if i = t then some U else L[i]? := fun i => by
    rw [List.getElem?_set]
    by_cases hi : t = i
    · rw [if_pos hi, if_pos hi.symm]
      rw [if_pos (by omega)]
    · rw [if_neg hi, if_neg (fun z => hi z.symm)]
  have w23 : ∀ i, i ≠ t → S1.2.1 23 (3 * x + i) = S.2.1 23 (3 * x + i) := fun i hi => ho 23 _ (by unfold fs_rgs; omega)
  refine ⟨⟨⟨by rw [List.length_set]; exact l3, fun i V hi => ?_, fun i V j W hi hj n1 n2 => ?_⟩, fun i V hi => ?_⟩, ?_⟩
  · rw [gt] at hi
    by_cases hit : i = t
    · rw [if_pos hit] at hi
      cases hi
      rw [hit]
      exact ⟨hT, hrv⟩
    · rw [if_neg hit] at hi
      exact ⟨(tr_ous (h5 i V hi).1 ho (by omega) (h7 i V hi).2.1.1 (fun _ => (h7 i V hi).2.2.2.1.1)).1, (h5 i V hi).2⟩
  · rw [gt] at hi hj
    by_cases hit : i = t
    · by_cases hjt : j = t
      · rw [if_pos hit] at hi
        rw [if_pos hjt] at hj
        cases hi
        cases hj
        rw [hit, hjt]
        exact ⟨fun _ => Int32.le_refl _, fun _ => Int32.le_refl _⟩
      · rw [if_pos hit] at hi
        rw [if_neg hjt] at hj
        cases hi
        rw [w23 j hjt, hit]
        rcases hO with ⟨-, -, hO⟩ | ⟨-, -, o1, o2⟩
        · obtain ⟨o0, o1, o2⟩ := hO n1
          rw [o1, o2]
          exact h6 t T j W ht hj o0 n2
        · obtain ⟨a, b, b1, b2, b3, b4⟩ := a5 j W hj n2
          rw [o1, o2, a3, a4, b3, b4, ofNat_add1, ofNat_add1, n_le (by omega) (by omega), n_le (by omega) (by omega)]
          omega
    · by_cases hjt : j = t
      · rw [if_neg hit] at hi
        rw [if_pos hjt] at hj
        cases hj
        rw [w23 i hit, hjt]
        rcases hO with ⟨-, -, hO⟩ | ⟨-, -, o1, o2⟩
        · obtain ⟨o0, o1, o2⟩ := hO n2
          rw [o1, o2]
          exact h6 i V t T hi ht n1 o0
        · obtain ⟨a, b, b1, b2, b3, b4⟩ := a5 i V hi n1
          rw [o1, o2, a3, a4, b3, b4, ofNat_add1, ofNat_add1, n_le (by omega) (by omega), n_le (by omega) (by omega)]
          omega
      · rw [if_neg hit] at hi
        rw [if_neg hjt] at hj
        rw [w23 i hit, w23 j hjt]
        exact h6 i V j W hi hj n1 n2
  · rw [gt] at hi
    by_cases hit : i = t
    · rw [if_pos hit] at hi
      cases hi
      rw [hit]
      exact hti
    · rw [if_neg hit] at hi
      exact ti_mono (h7 i V hi)
  · rcases hO with ⟨e1, e2, hO⟩ | ⟨e1, e2, o1, o2⟩
    · refine ⟨na, nb, by omega, by omega, e1.trans a3, e2.trans a4, fun i V hi n1 => ?_⟩
      rw [gt] at hi
      by_cases hit : i = t
      · rw [if_pos hit] at hi
        cases hi
        obtain ⟨o0, o1, o2⟩ := hO n1
        obtain ⟨a, b, b1, b2, b3, b4⟩ := a5 t T ht o0
        rw [hit, o1, o2]
        exact ⟨a, b, b1, b2, b3, b4⟩
      · rw [if_neg hit] at hi
        rw [w23 i hit]
        exact a5 i V hi n1
    · refine ⟨na + 1, nb + 1, by omega, by omega, by rw [e1, a3, ofNat_add1], by rw [e2, a4, ofNat_add1], fun i V hi n1 => ?_⟩
      rw [gt] at hi
      by_cases hit : i = t
      · rw [if_pos hit] at hi
        cases hi
        rw [hit, o1, o2, a3, a4, ofNat_add1, ofNat_add1]
        exact ⟨na + 1, nb + 1, Nat.le_refl _, Nat.le_refl _, rfl, rfl⟩
      · rw [if_neg hit] at hi
        rw [w23 i hit]
        obtain ⟨a, b, b1, b2, b3, b4⟩ := a5 i V hi n1
        exact ⟨a, b, by omega, by omega, b3, b4⟩
/-- exporter x with one slot changed -/
theorem in_sl {k x t : Nat} {s : Nat → Int32} {Z : fs_Z} {T U : fs_Sl} {S S1 : fs_R} (hI : fs_In k Z S) (hx : x < 2) (hk : k < 1000) (ht : (z_X Z x).2.2.2[t]? = some T) (hT : fs_tr_ (3 * x + t) U S1.2.1) (ho : fs_ous (3 * x + t) S.2.1 S1.2.1) (hti : fs_ti (k + 1) t U) (hrv : ¬ U.2.1 3 = 0 → ∃ rv, rv ≠ 0 ∧ rv < 2 ^ 31 ∧ U.2.1 4 = Int32.ofNat rv)
    (hs : ∀ i, i ≠ 8 → s i = (z_X Z x).1 i) (e0 : ∀ a, a ≠ 0 → a ≠ 24 → S1.1 a = S.1 a) (e2 : S1.2.2 = S.2.2)
    (hO : s 8 = (z_X Z x).1 8 ∧ S1.1 24 = S.1 24 ∧ (¬ U.2.1 3 = 0 → ¬ T.2.1 3 = 0 ∧ U.2.1 5 = T.2.1 5 ∧ S1.2.1 23 (3 * x + t) = S.2.1 23 (3 * x + t)) ∨ s 8 = (z_X Z x).1 8 + 1 ∧ S1.1 24 = S.1 24 + 1 ∧ U.2.1 5 = (z_X Z x).1 8 + 1 ∧ S1.2.1 23 (3 * x + t) = S.1 24 + 1) : fs_In (k + 1) (z_sX Z x (s, (z_X Z x).2.1, (z_X Z x).2.2.1, (z_X Z x).2.2.2.set t U)) S1 := by
  obtain ⟨i1, i2, i3, i4⟩ := hI.1 x hx
  have htl := (List.getElem?_eq_some_iff.mp ht).1
  have l3 := i3.1.1
  obtain ⟨j3, j4⟩ := i34_set i3 i4 hk ht hT ho hti hrv hO
  refine in_x hx hI ⟨?_, ?_, j3, j4⟩ e0 (hO.elim (fun z => Or.inl z.2.1) (fun z => Or.inr z.2.1)) (fun a j h1 h2 h3 => ho a j fun z => h3 ?_) e2
  · have m1 := i1_cg (w := S1.2.1) (i1_mono i1 (Nat.le_refl _)) (fun a h1 h2 => ho a x (by unfold fs_rgs; omega))
    unfold fs_I1 at m1 ⊢
    dsimp only
    rw [hs 0 (by decide), hs 4 (by decide), hs 5 (by decide), hs 6 (by decide), hs 7 (by decide), hs 9 (by decide), hs 10 (by decide)]
    exact m1
  · exact i2_cg (i2_mono i2) fun a j g => ho a j (by unfold fs_rgs; unfold fs_reg at g; omega)
  · unfold fs_rgs at z
    unfold fs_rg3
    omega
theorem sl_at {k x t : Nat} {Z : fs_Z} {S : fs_R} (hI : fs_In k Z S) (hx : x < 2) (ht : t < 3) : ∃ T, (z_X Z x).2.2.2[t]? = some T ∧ fs_tr_ (3 * x + t) T S.2.1 ∧ (¬ T.2.1 3 = 0 → ∃ rv, rv ≠ 0 ∧ rv < 2 ^ 31 ∧ T.2.1 4 = Int32.ofNat rv) ∧ fs_ti k t T := by
  obtain ⟨-, -, i3, -⟩ := hI.1 x hx
  have h := List.getElem?_eq_getElem (l := (z_X Z x).2.2.2) (i := t) (by rw [i3.1.1]; exact ht)
  exact ⟨_, h, (i3.1.2.1 t _ h).1, (i3.1.2.1 t _ h).2, i3.2 t _ h⟩
theorem i_lt3 (t : Int32) : t < 3 ↔ t ≤ 2 := by
  rw [Int32.lt_iff_toInt_lt, Int32.le_iff_toInt_le]
  show t.toInt < 3 ↔ t.toInt ≤ 2
  omega
theorem i_lt8 (t : Int32) : t < 8 ↔ ¬ 7 < t := by
  rw [Int32.lt_iff_toInt_lt, Int32.lt_iff_toInt_lt]
  show t.toInt < 8 ↔ ¬ 7 < t.toInt
  omega
theorem xt_ok {x t : Int32} (h : ¬ (¬ (x = 0 ∨ x = 1) ∨ t < 0 ∨ ¬ t < 3)) : ∃ n u, n < 2 ∧ u < 3 ∧ x = Int32.ofNat n ∧ t = Int32.ofNat u := by
  have hx : x = 0 ∨ x = 1 := Decidable.not_not.mp fun z => h (Or.inl z)
  have h1 : ¬ t < 0 := fun z => h (Or.inr (Or.inl z))
  have h2 : t < 3 := Decidable.not_not.mp fun z => h (Or.inr (Or.inr z))
  obtain ⟨n, hn, rfl⟩ := x01 hx
  obtain ⟨u, hu, rfl⟩ := i_rng (n := 2) h1 ((i_lt3 t).mp h2) (by decide)
  exact ⟨n, u, hn, by omega, rfl, rfl⟩
theorem st_withdraw {k c1 : Nat} {A B : Nat → Nat} {Z : fs_Z} {h F : List fs_C} {σ : fs_S} {S : fs_R} (hI : fs_In k Z S) (hk : k < 1000) (hX : fs_WF c1 A Z h) (ho : fs_own (h ++ F) σ) (x t : Int32) :
    fs_Sp k c1 A B F σ S (fs_cv (A 7) 0 (f_Fs_withdraw (A 7) x t)) (fs_cv (B 0) 12 (f_Rf_withdraw (B 0) x t)) [(fs_IAE, 1), (fs_ISE, 2)] (fun _ _ => True) := by
  obtain ⟨b1, b2⟩ := c_withdraw hX ho x t
  by_cases hb : ¬ (x = 0 ∨ x = 1) ∨ t < 0 ∨ ¬ t < 3
  · exact sp_f hI (b1 hb) (rw_bad (by rw [← i_lt3]; exact hb)) List.mem_cons_self
  · obtain ⟨n, u, hn, hu, rfl, rfl⟩ := xt_ok hb
    obtain ⟨T, t1, t2, t3, t4⟩ := sl_at hI hn hu
    obtain ⟨d1, d2⟩ := b2 n u T hn rfl rfl t1
    have e19 : S.2.1 19 (3 * n + u) = 0 ↔ T.2.1 3 = 0 := by
      rw [t2.2.2.2.1]
      by_cases h3 : T.2.1 3 = 0
      · rw [if_pos h3]
        exact ⟨fun _ => h3, fun _ => rfl⟩
      · rw [if_neg h3]
        obtain ⟨rv, r1, r2, r3⟩ := t3 h3
        rw [r3]
        exact ⟨fun z => absurd (n_inj (b := 0) r2 (by decide) z) r1, fun z => absurd z h3⟩
    by_cases h3 : T.2.1 3 = 0
    · exact sp_f hI (d1 h3) (w_mono (rw_ok hn hu) fun r S1 h => h.elim (fun h => h.2) fun h => absurd (e19.mpr h3) h.1) (by simp)
    · refine ⟨_, _, d2 h3, w_mono (rw_ok hn hu) fun r S1 h => ?_⟩
      rcases h with ⟨h, -⟩ | ⟨-, rfl⟩
      · exact absurd (e19.mp h) h3
      · obtain ⟨g1, g2⟩ := tr_wd t2
        obtain ⟨q1, q2, q3, q4, rv, q5, q6⟩ := t4
        refine ⟨in_sl (s := (z_X Z n).1) hI hn hk t1 g1 g2 ⟨q1, q2, q3, q4, rv, q5, by dsimp only; omega⟩ (fun z => absurd (up_hit T.2.1 3 0) z) (fun _ _ => rfl) (fun a h1 _ => up_miss h1 _) rfl (Or.inl ⟨rfl, rfl, fun z => absurd (up_hit T.2.1 3 0) z⟩), rfl, trivial⟩
theorem st_seal {k c1 : Nat} {A B : Nat → Nat} {Z : fs_Z} {h F : List fs_C} {σ : fs_S} {S : fs_R} (hI : fs_In k Z S) (hk : k < 1000) (hX : fs_WF c1 A Z h) (ho : fs_own (h ++ F) σ) (x t : Int32) :
    fs_Sp k c1 A B F σ S (fs_cv (A 7) 0 (f_Fs_seal (A 7) x t)) (fs_cv (B 0) 12 (f_Rf_seal (B 0) x t)) [(fs_IAE, 1), (fs_ISE, 2)] (fun v r => v = r) := by
  obtain ⟨b1, b2⟩ := c_seal hX ho x t
  by_cases hb : ¬ (x = 0 ∨ x = 1) ∨ t < 0 ∨ ¬ t < 3
  · exact sp_f hI (b1 hb) (rl_bad (by rw [← i_lt3]; exact hb)) List.mem_cons_self
  · obtain ⟨n, u, hn, hu, rfl, rfl⟩ := xt_ok hb
    obtain ⟨T, t1, t2, t3, t4⟩ := sl_at hI hn hu
    obtain ⟨d1, d2⟩ := b2 n u T hn rfl rfl t1 t4.2.1.1
    have e19 : S.2.1 19 (3 * n + u) ≤ 0 ↔ T.2.1 3 = 0 := by
      rw [t2.2.2.2.1]
      by_cases h3 : T.2.1 3 = 0
      · rw [if_pos h3]
        exact ⟨fun _ => h3, fun _ => Int32.le_refl _⟩
      · rw [if_neg h3]
        obtain ⟨rv, r1, r2, r3⟩ := t3 h3
        rw [r3]
        exact ⟨fun z => absurd (Nat.le_zero.mp ((n_le (y := 0) r2 (by decide)).mp z)) r1, fun z => absurd z h3⟩
    have e15 : S.2.1 15 (3 * n + u) = 0 ↔ T.2.2.1.2.2.2.1 = 0 := by
      rw [t2.1]
      have := t4.2.1.1
      exact ⟨fun z => n_inj (b := 0) (by omega) (by decide) z, fun z => by rw [z]; rfl⟩
    by_cases hg : T.2.2.1.2.2.2.1 = 0 ∨ ¬ T.2.1 3 = 0
    · exact sp_f hI (d1 hg) (rl_ise hn hu (by rw [e15, e19]; exact hg)) (by simp)
    · have hg0 : ¬ T.2.2.1.2.2.2.1 = 0 := fun z => hg (Or.inl z)
      have hg3 : T.2.1 3 = 0 := Decidable.not_not.mp fun z => hg (Or.inr z)
      refine ⟨_, _, d2 hg0 hg3, w_mono (rl_ok hn hu t4.2.1.1 t2.1 hg0 (e19.mpr hg3)) fun r S1 ⟨r1, h⟩ => ?_⟩
      obtain ⟨g1, g2⟩ := tr_seal (y := (z_X Z n).1 8 + 1) t2 rfl t4.2.1.1 hg3
      obtain ⟨q1, q2, q3, q4, rv, q5, q6⟩ := t4
      subst h
      refine ⟨in_sl (s := upd (z_X Z n).1 8 ((z_X Z n).1 8 + 1)) hI hn hk t1 g1 g2 ⟨q1, ⟨Nat.zero_le _, fun i hi => absurd hi (Nat.not_lt_zero _)⟩, fun i j _ hj => absurd hj (Nat.not_lt_zero _), q2, rv + 1, ?_, ?_⟩ (fun _ => ⟨rv + 1, by omega, by omega, ?_⟩) (fun i hi => up_miss hi _) (fun a h1 h2 => ?_) rfl (Or.inr ⟨up_hit _ _ _, up_hit (upd S.1 0 0) 24 (S.1 24 + 1), rfl, up_hit (S.2.1 23) (3 * n + u) (S.1 24 + 1)⟩), rfl, ?_⟩
      · show T.2.1 4 + 1 = _
        rw [q5, ofNat_add1]
      · show 2 * (rv + 1) + 0 ≤ k + 1
        omega
      · show T.2.1 4 + 1 = _
        rw [q5, ofNat_add1]
      · show upd (upd S.1 0 0) 24 _ a = _
        rw [up_miss h2, up_miss h1]
      · rw [r1, t2.2.2.1]
