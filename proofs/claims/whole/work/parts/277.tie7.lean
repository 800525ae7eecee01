/-! what is read, on both sides -/
def fs_Sr {β : Type} (k c1 : Nat) (A B : Nat → Nat) (F : List fs_C) (σ : fs_S) (S : fs_R) (pc : fs_T β) (pr : fs_T β) : Prop := ∃ v Z, fs_Rn c1 A F σ pc v Z ∧ fs_W B pr S fun r S1 => fs_In (k + 1) Z S1 ∧ v = r
theorem n_in_ {x : Int32} {n : Nat} (hn : n < 2 ^ 31) (h : ¬ (x < 0 ∨ Int32.ofNat n ≤ x)) : ∃ r, r < n ∧ x = Int32.ofNat r := by
  have h0 : ¬ x < 0 := fun z => h (Or.inl z)
  have h1 : ¬ Int32.ofNat n ≤ x := fun z => h (Or.inr z)
  obtain ⟨e, hs⟩ := i_toN h0
  refine ⟨x.toNatClampNeg, ?_, e⟩
  rw [e] at h1
  exact Decidable.not_not.mp fun z => h1 ((n_le (by omega) hs).mpr (by omega))
theorem nl_or {x : Int32} {n : Nat} (hn : n < 2 ^ 31) (h : x < 0 ∨ Int32.ofNat n ≤ x) : x < 0 ∨ ¬ x < Int32.ofNat n := h.imp id Int32.not_lt.mpr
theorem lt_or {x : Int32} {n : Nat} (hn : n < 2 ^ 31) (h : ¬ (x < 0 ∨ ¬ x < Int32.ofNat n)) : ∃ r, r < n ∧ x = Int32.ofNat r := n_in_ hn fun z => h (nl_or hn z)
theorem st_size {k c1 : Nat} {A B : Nat → Nat} {Z : fs_Z} {h F : List fs_C} {σ : fs_S} {S : fs_R} (hI : fs_In k Z S) (hX : fs_WF c1 A Z h) (ho : fs_own (h ++ F) σ) (x : Int32) :
    fs_Sr k c1 A B F σ S (fs_cv (A 7) 0 (f_Fs_size (A 7) x)) (fs_cv (B 0) 12 (f_Rf_size (B 0) x)) := by
  have l30 := hI.2.1.2.1
  obtain ⟨b1, b2⟩ := c_size hX ho l30 x
  by_cases hb : x < 0 ∨ Int32.ofNat (z_R Z).length ≤ x
  · refine ⟨_, _, b1 hb, w_mono (rz_bad ?_) fun r S1 ⟨e1, e2⟩ => ?_⟩
    · rw [hI.2.1.1.1]
      exact nl_or (by omega) hb
    · subst e1
      exact ⟨in_same 0 hI, e2.symm⟩
  · obtain ⟨r, hr, rfl⟩ := n_in_ (by omega) hb
    have hq := List.getElem?_eq_getElem hr
    refine ⟨_, _, b2 r _ rfl hq, w_mono (rz_ok hI.2.1.1 l30 hq) fun r S1 ⟨e1, e2⟩ => ?_⟩
    subst e1
    exact ⟨in_same 0 hI, e2.symm⟩
theorem st_rows {k c1 : Nat} {A B : Nat → Nat} {Z : fs_Z} {h F : List fs_C} {σ : fs_S} {S : fs_R} (hI : fs_In k Z S) (hX : fs_WF c1 A Z h) (ho : fs_own (h ++ F) σ) :
    fs_Sr k c1 A B F σ S (fs_cv (A 7) 0 (f_Fs_rows (A 7))) (fs_cv (B 0) 12 (f_Rf_rows (B 0))) := by
  refine ⟨_, _, c_rows hX ho, w_mono rr_rows fun r S1 ⟨e1, e2⟩ => ?_⟩
  subst e1
  refine ⟨in_same 0 hI, ?_⟩
  rw [e2, hI.2.2.1.2.2.2.2.2.2.1.1]
  unfold fs_V
  rw [List.length_map]
theorem st_byteOf {k c1 : Nat} {A B : Nat → Nat} {Z : fs_Z} {h F : List fs_C} {σ : fs_S} {S : fs_R} (hI : fs_In k Z S) (hX : fs_WF c1 A Z h) (ho : fs_own (h ++ F) σ) (x i : Int32) :
    fs_Sp k c1 A B F σ S (fs_cv (A 7) 0 (f_Fs_byteOf (A 7) x i)) (fs_cv (B 0) 12 (f_Rf_byteOf (B 0) x i)) [(fs_IOB, 1)] (fun v r => v = r) := by
  have l30 := hI.2.1.2.1
  obtain ⟨b1, b2⟩ := c_byteOf hX ho l30 x i
  by_cases hb : x < 0 ∨ Int32.ofNat (z_R Z).length ≤ x
  · refine sp_f hI (b1 hb) (rb_bad ?_) List.mem_cons_self
    rw [hI.2.1.1.1]
    exact nl_or (by omega) hb
  · obtain ⟨r, hr, rfl⟩ := n_in_ (by omega) hb
    have hq := List.getElem?_eq_getElem hr
    have h64 := (hI.2.1.2.2 _ (List.getElem_mem hr)).2.1
    obtain ⟨d1, d2⟩ := b2 r _ rfl hq h64
    obtain ⟨w1, w2⟩ := rb_ok (A := B) (i := i) hI.2.1.1 l30 hq h64
    by_cases hi : i < 0 ∨ ¬ i < Int32.ofNat (z_R Z)[r].2.2.1
    · exact sp_f hI (d1 hi) (w1 hi) List.mem_cons_self
    · obtain ⟨j, hj, rfl⟩ := lt_or (by omega) hi
      exact sp_r hI (d2 j rfl hj) (w2 j rfl hj) rfl
theorem st_row {k c1 : Nat} {A B : Nat → Nat} {Z : fs_Z} {h F : List fs_C} {σ : fs_S} {S : fs_R} (hI : fs_In k Z S) (hX : fs_WF c1 A Z h) (ho : fs_own (h ++ F) σ) (x f : Int32) :
    fs_Sp k c1 A B F σ S (fs_cv (A 7) 0 (f_Fs_row (A 7) x f)) (fs_cv (B 0) 12 (f_Rf_row (B 0) x f)) [(fs_IOB, 1), (fs_IAE, 2)] (fun v r => v = r) := by
  have hVl : (fs_V (z_W Z)).length = (z_W Z).length := List.length_map ..
  have hV := hI.2.2.1.2.2.2.2.2.2.1
  have l80 := hI.2.2.1.2.2.2.2.2.2.2.1
  obtain ⟨b1, b2⟩ := c_row hX ho (by omega) x f
  by_cases hb : x < 0 ∨ ¬ x < Int32.ofNat (z_W Z).length
  · refine sp_f hI (b1 hb) (rrw_bad ?_) List.mem_cons_self
    rw [hV.1, hVl]
    exact hb
  · obtain ⟨r, hr, rfl⟩ := lt_or (by omega) hb
    obtain ⟨d1, d2, d3⟩ := b2 r rfl hr
    obtain ⟨w1, w2, w3⟩ := rrw_ok (A := B) (f := f) hV l80 (r := r) (by omega)
    by_cases hf : f < 0 ∨ ¬ f ≤ 8
    · exact sp_f hI (d1 hf) (w1 hf) (by simp)
    · by_cases h8 : f = 8
      · exact sp_r hI (d2 h8) (w2 h8) rfl
      · obtain ⟨m, hm, rfl⟩ := i_rng (n := 8) (fun z => hf (Or.inl z)) (Decidable.not_not.mp fun z => hf (Or.inr z)) (by decide)
        have hm8 : m ≠ 8 := fun z => h8 (by rw [z]; rfl)
        exact sp_r hI (d3 m rfl (by omega)) (w3 m rfl (by omega)) rfl
theorem st_total {k c1 : Nat} {A B : Nat → Nat} {Z : fs_Z} {h F : List fs_C} {σ : fs_S} {S : fs_R} (hI : fs_In k Z S) (hX : fs_WF c1 A Z h) (ho : fs_own (h ++ F) σ) (x f : Int32) (y : Int64) (w : Int32) :
    fs_Sp k c1 A B F σ S (fs_cv (A 7) 0 (f_Fs_total (A 7) x f y w)) (fs_cv (B 0) 12 (f_Rf_total (B 0) x f y w)) [(fs_IAE, 1)] (fun v r => v = r) := by
  have hVl : (fs_V (z_W Z)).length = (z_W Z).length := List.length_map ..
  have hV := hI.2.2.1.2.2.2.2.2.2.1
  have l80 := hI.2.2.1.2.2.2.2.2.2.2.1
  have hg := hI.2.2.1.2.2.2.2.2.2.2.2
  obtain ⟨b1, b2⟩ := c_total hX ho (by omega) x f y w
  have w7 : w < 8 ↔ w ≤ 7 := (i_lt8 w).trans Int32.not_lt
  by_cases hb : ¬ (x = 0 ∨ x = 1) ∨ f < 0 ∨ ¬ f < 8 ∨ w < 0 ∨ ¬ w < 8
  · refine sp_f hI (b1 hb) (rtt_bad hV l80 ?_) List.mem_cons_self
    rw [i_lt8 f, w7, Decidable.not_not] at hb
    exact hb
  · have hx : x = 0 ∨ x = 1 := Decidable.not_not.mp fun z => hb (Or.inl z)
    have hf0 : ¬ f < 0 := fun z => hb (Or.inr (Or.inl z))
    have hf8 : f < 8 := Decidable.not_not.mp fun z => hb (Or.inr (Or.inr (Or.inl z)))
    have hw0 : ¬ w < 0 := fun z => hb (Or.inr (Or.inr (Or.inr (Or.inl z))))
    have hw8 : w < 8 := Decidable.not_not.mp fun z => hb (Or.inr (Or.inr (Or.inr (Or.inr z))))
    obtain ⟨a, ha, rfl⟩ := i_rng (n := 7) hf0 (Int32.not_lt.mp ((i_lt8 f).mp hf8)) (by decide)
    obtain ⟨b, hb2, rfl⟩ := i_rng (n := 7) hw0 (w7.mp hw8) (by decide)
    refine sp_r hI (b2 a b hx rfl rfl (by omega) (by omega)) (rtt_ok hV hg l80 hx (k := a) (j := b) (by omega) (by omega)) ?_
    rw [hVl]
theorem st_count {k c1 : Nat} {A B : Nat → Nat} {Z : fs_Z} {h F : List fs_C} {σ : fs_S} {S : fs_R} (hI : fs_In k Z S) (hX : fs_WF c1 A Z h) (ho : fs_own (h ++ F) σ) (x w : Int32) :
    fs_Sp k c1 A B F σ S (fs_cv (A 7) 0 (f_Fs_count (A 7) x w)) (fs_cv (B 0) 12 (f_Rf_count (B 0) x w)) [(fs_IAE, 1)] (fun v r => v = r) := by
  have l5 := hI.2.2.1.2.2.2.2.1
  have hS := hI.2.2.1.2.2.2.1
  have hok := hI.2.2.1.2.2.2.2.2.1
  obtain ⟨b1, b2⟩ := c_count hX ho l5 x w
  by_cases hb : ¬ (x = 0 ∨ x = 1) ∨ w < 0 ∨ ¬ w ≤ 9
  · refine sp_f hI (b1 (hb.imp id fun z => fun m hm e => ?_)) (rc_bad hb) List.mem_cons_self
    subst e
    rcases z with z | z
    · exact absurd z (Int32.ofNat_not_neg (by omega))
    · exact z ((n_le (y := 9) (by omega) (by decide)).mpr (by omega))
  · have hx : x = 0 ∨ x = 1 := Decidable.not_not.mp fun z => hb (Or.inl z)
    obtain ⟨n, hn, rfl⟩ := x01 hx
    obtain ⟨a, ha, rfl⟩ := i_rng (n := 9) (fun z => hb (Or.inr (Or.inl z))) (Decidable.not_not.mp fun z => hb (Or.inr (Or.inr z))) (by decide)
    obtain ⟨h1, h2, h3, h4, -, -⟩ := hI.2.2.2.2 n hn
    refine sp_r hI (b2 n a hn rfl (by omega) rfl) (rc_ok hS l5 (fun R hR => (hok R hR).2.2) hn (k := a) (by omega) h1) ?_
    obtain ⟨⟨i0, ⟨t, t1, t2, t3⟩, ⟨e, e1, e2, e3⟩, i6, ⟨u, u1, u2, u3⟩, i10⟩, ⟨f1, -⟩, -, -⟩ := hI.1 n hn
    match a, ha with
    | 0, _ => exact t3.symm
    | 1, _ => exact e3.symm
    | 2, _ => exact f1.1.symm
    | 3, _ => exact f1.2.1.symm
    | 4, _ => exact u3.symm
    | 5, _ => rfl
    | 6, _ => rfl
    | 7, _ => exact h2.symm
    | 8, _ => exact h3.symm
    | 9, _ => exact h4.symm
    | m + 10, h => exact absurd h (by omega)
theorem st_other {k c1 : Nat} {A B : Nat → Nat} {Z : fs_Z} {h F : List fs_C} {σ : fs_S} {S : fs_R} (hI : fs_In k Z S) (hX : fs_WF c1 A Z h) (ho : fs_own (h ++ F) σ) (x : Int32) :
    fs_Sp k c1 A B F σ S (fs_cv (A 7) 0 (f_Fs_other (A 7) x)) (fs_cv (B 0) 12 (f_Rf_other (B 0) x)) [(fs_IOB, 1)] (fun v r => v = r) := by
  have hVl : (fs_V (z_W Z)).length = (z_W Z).length := List.length_map ..
  have hV := hI.2.2.1.2.2.2.2.2.2.1
  have l80 := hI.2.2.1.2.2.2.2.2.2.2.1
  have hg := hI.2.2.1.2.2.2.2.2.2.2.2
  obtain ⟨b1, b2⟩ := c_other hX ho (by omega) x
  by_cases hb : x < 0 ∨ ¬ x < Int32.ofNat (z_W Z).length
  · refine sp_f hI (b1 hb) (ro_bad ?_) List.mem_cons_self
    rw [hV.1, hVl]
    exact hb
  · obtain ⟨r, hr, rfl⟩ := lt_or (by omega) hb
    obtain ⟨P1, O1, od1, d1, d2⟩ := b2 r rfl hr
    have hP : ∀ i, i < (fs_V (z_W Z)).length → P1 i = fs_pa (fs_V (z_W Z)) (fun _ => -1) i := fun i hi => by
      obtain ⟨p, p1, p2, p3⟩ := hI.2.2.2.1
      rw [d1]
      by_cases hp : (z_Q Z).2.2.2 = Int32.ofNat (z_W Z).length
      · rw [if_pos hp]
        exact p3 (n_inj (by omega) (by omega) (by rw [← p1, hp, hVl])) i hi
      · rw [if_neg hp]
        exact pa_cg l80 _ _ i (by omega)
    refine ⟨_, _, d2, w_mono (ro_ok hV hg l80 (r := r) (by omega)) fun v S1 ⟨⟨P2, D2, e1⟩, e2⟩ => ?_⟩
    subst e1
    have hn : ∀ a, a ≠ 48 → a ≠ 49 → (fs_pd2 (r_pi_ S 0 0) P2 D2).2.1 a = S.2.1 a := fun a h1 h2 => pd_n h1 h2
    have hs : ∀ a, a ≠ 0 → (fs_pd2 (r_pi_ S 0 0) P2 D2).1 a = S.1 a := fun a h1 => up_miss h1 _
    refine ⟨⟨fun y hy => ?_, ir_cg hI.2.1 (hs 25 (by decide)) (hn 26 (by decide) (by decide)) (hn 27 (by decide) (by decide)), ik_cg hI.2.2.1 (fun a ha => hs a (by omega)) (fun a h1 h2 h3 => hn a (by omega) (by omega)) rfl, ⟨(z_W Z).length, rfl, by rw [hVl]; exact Nat.le_refl _, fun _ => hP⟩, ih_cg hI.2.2.2.2 (fun a ha => hn a (by omega) (by omega))⟩, rfl, ?_⟩
    · obtain ⟨h1, h2, h3, h4⟩ := hI.1 y hy
      exact ⟨i1_cg (i1_mono h1 (Nat.le_refl _)) fun a g1 g2 => congrFun (hn a (by omega) (by omega)) y, i2_cg (i2_mono h2) fun a j g => congrFun (hn a (by unfold fs_reg at g; omega) (by unfold fs_reg at g; omega)) j, i3_cg (i3_mono h3) fun a j g => congrFun (hn a (by unfold fs_rg3 at g; omega) (by unfold fs_rg3 at g; omega)) j, i4_cg h3.1.1 h4 (fun j g1 g2 => congrFun (hn 23 (by decide) (by decide)) j) (Or.inl (hs 24 (by decide)))⟩
    · rw [e2, hP r (by omega)]
      exact pa_cg l80 _ _ r (by omega)
theorem st_poke {k c1 : Nat} {A B : Nat → Nat} {Z : fs_Z} {h F : List fs_C} {σ : fs_S} {S : fs_R} (hI : fs_In k Z S) (hX : fs_WF c1 A Z h) (ho : fs_own (h ++ F) σ) (x i y : Int32) :
    fs_Sp k c1 A B F σ S (fs_cv (A 7) 0 (f_Fs_poke (A 7) x i y)) (fs_cv (B 0) 12 (f_Rf_poke (B 0) x i y)) [(fs_IOB, 1), (fs_IAE, 2)] (fun _ _ => True) := by
  have l30 := hI.2.1.2.1
  obtain ⟨b1, b2⟩ := c_poke hX ho l30 x i y
  by_cases hb : x < 0 ∨ Int32.ofNat (z_R Z).length ≤ x
  · refine sp_f hI (b1 hb) (rk_bad ?_) List.mem_cons_self
    rw [hI.2.1.1.1]
    exact nl_or (by omega) hb
  · obtain ⟨r, hr, rfl⟩ := n_in_ (by omega) hb
    have hq := List.getElem?_eq_getElem hr
    obtain ⟨h5, h64, hby⟩ := hI.2.1.2.2 _ (List.getElem_mem hr)
    obtain ⟨d1, d2⟩ := b2 r _ rfl hq h64
    obtain ⟨w1, w2⟩ := rk_ok (A := B) (i := i) (y := y) hI.2.1.1 l30 hq h64
    by_cases hi : i < 0 ∨ ¬ i < Int32.ofNat (z_R Z)[r].2.2.1
    · exact sp_f hI (d1 hi) (w1 hi) List.mem_cons_self
    · obtain ⟨j, hj, rfl⟩ := lt_or (by omega) hi
      obtain ⟨d3, d4⟩ := d2 j rfl hj
      obtain ⟨w3, w4⟩ := w2 j rfl hj
      by_cases hy : fs_nb_ y
      · exact sp_f hI (d3 hy) (w3 hy) (by simp)
      · refine ⟨_, _, d4 hy, w_mono (w4 hy) fun v S1 e => ?_⟩
        have hn : ∀ a, a ≠ 27 → S1.2.1 a = S.2.1 a := fun a h1 => by rw [e]; exact r_si_ne h1
        have h27 : S1.2.1 27 = upd (S.2.1 27) (64 * r + j) y := by rw [e]; exact r_si_at _ _ _ _
        have hs : ∀ a, a ≠ 0 → S1.1 a = S.1 a := fun a h1 => by rw [e]; exact up_miss h1 _
        have e2 : S1.2.2 = S.2.2 := by rw [e]; rfl
        refine ⟨⟨fun z hz => ?_, ⟨⟨?_, fun t U ht => ?_⟩, ?_, fun U hU => ?_⟩, ik_cg hI.2.2.1 (fun a ha => hs a (by omega)) (fun a h1 h2 h3 => hn a (by omega)) e2, hI.2.2.2.1, ih_cg hI.2.2.2.2 (fun a ha => hn a (by omega))⟩, by rw [e]; rfl, trivial⟩
        · show fs_IX (k + 1) ((z_R Z).set r _).length z (z_X Z z) S1
          rw [List.length_set]
          obtain ⟨h1, h2, h3, h4⟩ := hI.1 z hz
          exact ⟨i1_cg (i1_mono h1 (Nat.le_refl _)) fun a g1 g2 => congrFun (hn a (by omega)) z, i2_cg (i2_mono h2) fun a j g => congrFun (hn a (by unfold fs_reg at g; omega)) j, i3_cg (i3_mono h3) fun a j g => congrFun (hn a (by unfold fs_rg3 at g; omega)) j, i4_cg h3.1.1 h4 (fun j g1 g2 => congrFun (hn 23 (by decide)) j) (Or.inl (hs 24 (by decide)))⟩
        · show S1.1 25 = Int32.ofNat ((z_R Z).set r _).length
          rw [List.length_set, hs 25 (by decide)]
          exact hI.2.1.1.1
        · have ht2 : ((z_R Z).set r ((z_R Z)[r].1, (z_R Z)[r].2.1, (z_R Z)[r].2.2.1, upd (z_R Z)[r].2.2.2 j y))[t]? = some U := ht
          rw [List.getElem?_set] at ht2
          unfold fs_wrt
          rw [hn 26 (by decide), h27]
          by_cases hrt : r = t
          · subst hrt
            rw [if_pos rfl, if_pos hr] at ht2
            cases ht2
            obtain ⟨q1, q2⟩ := hI.2.1.1.2 r _ hq
            refine ⟨q1, fun m hm => ?_⟩
            show _ = upd (z_R Z)[r].2.2.2 j y m
            by_cases hmj : m = j
            · rw [hmj, up_hit, up_hit]
            · rw [up_miss hmj, up_miss (by omega)]
              exact q2 m hm
          · rw [if_neg hrt] at ht2
            obtain ⟨q1, q2⟩ := hI.2.1.1.2 t _ ht2
            have u64 := (hI.2.1.2.2 U (List.mem_of_getElem? ht2)).2.1
            refine ⟨q1, fun m hm => ?_⟩
            rw [up_miss (by omega)]
            exact q2 m hm
        · show ((z_R Z).set r _).length ≤ 30
          rw [List.length_set]
          exact l30
        · rcases List.mem_or_eq_of_mem_set hU with hU | hU
          · exact hI.2.1.2.2 U hU
          · subst hU
            refine ⟨h5, h64, fun m => ?_⟩
            show ∃ b, b ≤ 255 ∧ upd (z_R Z)[r].2.2.2 j y m = Int32.ofNat b
            by_cases hmj : m = j
            · rw [hmj, up_hit]
              exact nb_by hy
            · rw [up_miss hmj]
              exact hby m
