/-! templates, in the reference -/
def fs_tr_ (a : Nat) (T : fs_Sl) (v : Nat → Nat → Int32) : Prop := v 15 a = Int32.ofNat T.2.2.1.2.2.2.1 ∧ (∀ k, k < T.2.2.1.2.2.2.1 → v 16 (8 * a + k) = T.2.2.1.2.2.2.2.1 k ∧ v 17 (8 * a + k) = T.2.2.1.2.2.2.2.2 k) ∧ v 18 a = T.2.1 4 ∧ v 19 a = (if T.2.1 3 = 0 then 0 else T.2.1 4) ∧ (¬ T.2.1 3 = 0 → v 20 a = Int32.ofNat T.2.2.2.2.2.2.1 ∧ ∀ k, k < T.2.2.2.2.2.2.1 → v 21 (8 * a + k) = T.2.2.2.2.2.2.2.1 k ∧ v 22 (8 * a + k) = T.2.2.2.2.2.2.2.2 k)
def fs_rgs (a k j : Nat) : Prop := (k = 15 ∨ k = 18 ∨ k = 19 ∨ k = 20 ∨ k = 23) ∧ j = a ∨ (k = 16 ∨ k = 17 ∨ k = 21 ∨ k = 22) ∧ 8 * a ≤ j ∧ j < 8 * a + 8
def fs_ous (a : Nat) (v w : Nat → Nat → Int32) : Prop := ∀ k j, ¬ fs_rgs a k j → w k j = v k j
theorem tr_ous {a b : Nat} {T : fs_Sl} {v w : Nat → Nat → Int32} (h : fs_tr_ b T v) (ho : fs_ous a v w) (hab : b ≠ a) (hD : T.2.2.1.2.2.2.1 ≤ 8) (hP : ¬ T.2.1 3 = 0 → T.2.2.2.2.2.2.1 ≤ 8) : fs_tr_ b T w ∧ w 23 b = v 23 b := by
  obtain ⟨h1, h2, h3, h4, h5⟩ := h
  refine ⟨⟨?_, fun k hk => ?_, ?_, ?_, fun hz => ?_⟩, ho 23 b (by unfold fs_rgs; omega)⟩
  · rw [ho 15 b (by unfold fs_rgs; omega)]; exact h1
  · rw [ho 16 _ (by unfold fs_rgs; omega), ho 17 _ (by unfold fs_rgs; omega)]; exact h2 k hk
  · rw [ho 18 b (by unfold fs_rgs; omega)]; exact h3
  · rw [ho 19 b (by unfold fs_rgs; omega)]; exact h4
  · have := hP hz
    refine ⟨by rw [ho 20 b (by unfold fs_rgs; omega)]; exact (h5 hz).1, fun k hk => ?_⟩
    rw [ho 21 _ (by unfold fs_rgs; omega), ho 22 _ (by unfold fs_rgs; omega)]
    exact (h5 hz).2 k hk
theorem w_ntk {β : Type} {A : Nat → Nat} {x t : Int32} {K : Int32 → fs_T β} {S : fs_R} {Q : β → fs_R → Prop} (h : x = 0 ∨ x = 1) (h0 : ¬ t < 0) (h2 : t ≤ 2) (hk : fs_W A (K 0) S Q) : fs_W A (fs_bind (fs_cv (A 0) 12 (f_Rf_noTemplate (A 0) x t)) K) S Q := w_b (P := fun r S1 => S1 = S ∧ r = 0) (w_cv <| w_nxk h <| w_p rfl <| w_n h0 <| w_p h2 <| w_rz (Or.inl rfl) ⟨rfl, rfl⟩) fun r S1 ⟨e1, e2⟩ => by
  subst e1
  subst e2
  exact hk
theorem w_ntb {β : Type} {A : Nat → Nat} {x t : Int32} {K : Int32 → fs_T β} {S : fs_R} {Q : β → fs_R → Prop} (h : ¬ (x = 0 ∨ x = 1) ∨ t < 0 ∨ ¬ t ≤ 2) (hk : fs_W A (K 1) S Q) : fs_W A (fs_bind (fs_cv (A 0) 12 (f_Rf_noTemplate (A 0) x t)) K) S Q := by
  refine w_b (P := fun r S1 => S1 = S ∧ r = 1) ?_ fun r S1 ⟨e1, e2⟩ => by
    subst e1
    subst e2
    exact hk
  by_cases hx : x = 0 ∨ x = 1
  · refine w_cv <| w_nxk hx <| w_p rfl ?_
    by_cases h0 : t < 0
    · exact w_p h0 <| w_rz (Or.inr rfl) ⟨rfl, rfl⟩
    · exact w_n h0 <| w_n (fun z => h.elim (fun w => w hx) (fun w => w.elim h0 (fun w => w z))) <| w_rz (Or.inr rfl) ⟨rfl, rfl⟩
  · exact w_cv <| w_nxb hx <| w_n (by decide) <| w_rz (Or.inr rfl) ⟨rfl, rfl⟩
theorem pi_pi (S : fs_R) (k : Nat) (a b : Int32) : r_pi_ (r_pi_ S k a) k b = r_pi_ S k b := by
  unfold r_pi_
  refine Prod.ext (funext fun j => ?_) rfl
  show upd (upd S.1 k a) k b j = upd S.1 k b j
  unfold upd
  by_cases h : j = k
  · rw [if_pos h, if_pos h]
  · rw [if_neg h, if_neg h, if_neg h]
theorem w_field_loop {A : Nat → Nat} {a u : Nat} {x3 x4 : Int32} {f : Nat → Int32} {S : fs_R} {Q : Int32 → fs_R → Prop} (ha : a < 6) (hu : u ≤ 8) (h15 : S.2.1 15 a = Int32.ofNat u) (h16 : ∀ k, k < u → S.2.1 16 (8 * a + k) = f k) (hu7 : fs_hf f x3 0 u = false → u < 8) (hq2 : fs_hf f x3 0 u = true → Q 0 (r_pi_ S 0 2)) (hq0 : fs_hf f x3 0 u = false → Q (Int32.ofNat (u + 1)) (r_si_ (r_si_ (r_si_ (r_pi_ S 0 0) 16 (8 * a + u) x3) 17 (8 * a + u) x4) 15 a (Int32.ofNat u + 1))) : ∀ (m fuel i : Nat) (c : Int32), i + m = u → m < fuel → (c = 0 ∧ fs_hf f x3 0 u = fs_hf f x3 i m ∨ c = 2 ∧ fs_hf f x3 0 u = true) →
    fs_W A (fs_lp1 fuel (lb_Rf_field_83 (A 0) x3 x4 (Int32.ofNat a)) (Int32.ofNat i)) (r_pi_ S 0 c) Q
  | 0, fuel + 1, i, c, hi, _, hc => by
    refine w_lp1 <| w_gr 15 rfl <| w_ai m15 rfl ha ?_
    rw [show (r_pi_ S 0 c).2.1 15 a = Int32.ofNat u from h15]
    refine w_p ((n_le (by omega) (by omega)).mpr (by omega)) <| w_gi 0 rfl ?_
    rcases hc with ⟨rfl, hc⟩ | ⟨rfl, hc⟩
    · have hc2 : fs_hf f x3 0 u = false := hc
      have h7 := hu7 hc2
      refine w_p rfl <| w_gr 16 rfl <| w_gr 15 rfl <| w_ai m15 rfl ha ?_
      rw [show (r_pi_ S 0 0).2.1 15 a = Int32.ofNat u from h15]
      refine w_si m16 (n_ma 8 a u) (by omega) <| w_gr 17 rfl <| w_gr 15 rfl <| w_ai m15 rfl ha ?_
      rw [show (r_si_ (r_pi_ S 0 0) 16 (8 * a + u) x3).2.1 15 a = Int32.ofNat u from h15]
      refine w_si m17 (n_ma 8 a u) (by omega) <| w_gr 15 rfl <| w_ai m15 rfl ha ?_
      rw [show (r_si_ (r_si_ (r_pi_ S 0 0) 16 (8 * a + u) x3) 17 (8 * a + u) x4).2.1 15 a = Int32.ofNat u from h15]
      refine w_si m15 rfl ha <| w_gr 15 rfl <| w_ai m15 rfl ha <| w_ret ?_
      have : (r_si_ (r_si_ (r_si_ (r_pi_ S 0 0) 16 (8 * a + u) x3) 17 (8 * a + u) x4) 15 a (Int32.ofNat u + 1)).2.1 15 a = Int32.ofNat (u + 1) := by
        show upd (S.2.1 15) a (Int32.ofNat u + 1) a = _
        rw [up_hit, ofNat_add1]
      rw [this]
      exact hq0 hc2
    · exact w_n (by show ¬ (2 : Int32) = 0; decide) <| w_ret (hq2 hc)
  | m + 1, fuel + 1, i, c, hi, hf, hc => by
    have es : fs_hf f x3 i (m + 1) = (decide (f i = x3) || fs_hf f x3 (i + 1) m) := rfl
    refine w_lp1 <| w_gr 15 rfl <| w_ai m15 rfl ha ?_
    rw [show (r_pi_ S 0 c).2.1 15 a = Int32.ofNat u from h15]
    refine w_n (fun z => ?_) <| w_gr 16 rfl <| w_ai m16 (n_ma 8 a i) (by omega) ?_
    · have := (n_le (by omega) (by omega)).mp z
      omega
    · rw [show (r_pi_ S 0 c).2.1 16 (8 * a + i) = f i from h16 i (by omega)]
      refine w_l ?_
      by_cases hx : f i = x3
      · refine w_p hx <| w_pi0 <| w_m ?_
        rw [pi_pi, ofNat_add1]
        refine w_field_loop ha hu h15 h16 hu7 hq2 hq0 m fuel (i + 1) 2 (by omega) (by omega) (Or.inr ⟨rfl, ?_⟩)
        rcases hc with ⟨rfl, hc⟩ | ⟨rfl, hc⟩
        · rw [hc, es, show decide (f i = x3) = true from decide_eq_true hx]
          rfl
        · exact hc
      · refine w_n hx <| w_gi 0 rfl <| w_pi0 <| w_m ?_
        rw [pi_pi, ofNat_add1]
        refine w_field_loop ha hu h15 h16 hu7 hq2 hq0 m fuel (i + 1) c (by omega) (by omega) ?_
        rcases hc with ⟨rfl, hc⟩ | ⟨rfl, hc⟩
        · refine Or.inl ⟨rfl, ?_⟩
          rw [hc, es, show decide (f i = x3) = false from decide_eq_false hx]
          rfl
        · exact Or.inr ⟨rfl, hc⟩
  | _, 0, _, _, _, h, _ => absurd h (Nat.not_lt_zero _)
def fs_fbad (x t f y : Int32) (least : Int32) : Prop := ¬ (x = 0 ∨ x = 1) ∨ t < 0 ∨ ¬ t ≤ 2 ∨ f < 0 ∨ 7 < f ∨ y < 0 ∨ 4 < y ∨ ¬ y ≤ 0 ∧ ¬ least ≤ y
def fs_lst (f : Int32) : Int32 := if f = 3 then 3 else if f ≤ 3 then 1 else if 7 ≤ f then 1 else 2
theorem w_least {A : Nat → Nat} {f : Int32} {S : fs_R} : fs_W A (fs_cv (A 0) 12 (f_Rf_leastOf (A 0) f)) S fun r S1 => S1 = S ∧ r = fs_lst f := by
  unfold fs_lst
  refine w_cv <| w_i (fun h => w_ret ⟨rfl, (if_pos h).symm⟩) fun h => w_i (fun h1 => w_ret ⟨rfl, ?_⟩) fun h1 => w_i (fun h2 => w_ret ⟨rfl, ?_⟩) fun h2 => w_ret ⟨rfl, ?_⟩
  · rw [if_neg h, if_pos h1]
  · rw [if_neg h, if_neg h1, if_pos h2]
  · rw [if_neg h, if_neg h1, if_neg h2]
theorem rd_bad {A : Nat → Nat} {x t f y : Int32} {S : fs_R} (hb : fs_fbad x t f y (fs_lst f)) : fs_W A (fs_cv (A 0) 12 (f_Rf_field (A 0) x t f y)) S fun _ S1 => S1 = r_pi_ S 0 1 := by
  by_cases h1 : ¬ (x = 0 ∨ x = 1) ∨ t < 0 ∨ ¬ t ≤ 2
  · exact w_cv <| w_ntb h1 <| w_l <| w_l <| w_n (by decide) <| w_l <| w_n (by decide) <| w_pi0 <| w_n (by decide) <| w_ret rfl
  · have hx : x = 0 ∨ x = 1 := Decidable.byContradiction fun z => h1 (Or.inl z)
    have ht0 : ¬ t < 0 := fun z => h1 (Or.inr (Or.inl z))
    have ht2 : t ≤ 2 := Decidable.byContradiction fun z => h1 (Or.inr (Or.inr z))
    refine w_cv <| w_ntk hx ht0 ht2 <| w_l <| w_l <| w_p rfl ?_
    by_cases hf0 : f < 0
    · exact w_p hf0 <| w_l <| w_n (by decide) <| w_pi0 <| w_n (by decide) <| w_ret rfl
    · refine w_n hf0 ?_
      by_cases hf7 : 7 < f
      · exact w_p hf7 <| w_l <| w_n (by decide) <| w_pi0 <| w_n (by decide) <| w_ret rfl
      · refine w_n hf7 ?_
        by_cases hy0 : y < 0
        · exact w_p hy0 <| w_l <| w_n (by decide) <| w_pi0 <| w_n (by decide) <| w_ret rfl
        · refine w_n hy0 ?_
          by_cases hy4 : 4 < y
          · exact w_p hy4 <| w_l <| w_n (by decide) <| w_pi0 <| w_n (by decide) <| w_ret rfl
          · have hl : ¬ y ≤ 0 ∧ ¬ fs_lst f ≤ y := hb.elim (fun z => absurd hx z) (fun z => z.elim (fun z => absurd z ht0) (fun z => z.elim (fun z => absurd ht2 z) (fun z => z.elim (fun z => absurd z hf0) (fun z => z.elim (fun z => absurd z hf7) (fun z => z.elim (fun z => absurd z hy0) (fun z => z.elim (fun z => absurd z hy4) id))))))
            refine w_n hy4 <| w_l <| w_n hl.1 <| w_b w_least fun r S1 ⟨e1, e2⟩ => ?_
            subst e1
            subst e2
            exact w_n hl.2 <| w_l <| w_n (by decide) <| w_pi0 <| w_n (by decide) <| w_ret rfl
set_option maxRecDepth 100000 in
theorem rd_ok {A : Nat → Nat} {x t u : Nat} {f y : Int32} {g : Nat → Int32} {S : fs_R} {Q : Int32 → fs_R → Prop} (hx : x < 2) (ht : t < 3) (hf0 : ¬ f < 0) (hf7 : ¬ 7 < f) (hy0 : ¬ y < 0) (hy4 : ¬ 4 < y) (hl : y ≤ 0 ∨ fs_lst f ≤ y) (hu : u ≤ 8) (h15 : S.2.1 15 (3 * x + t) = Int32.ofNat u) (h16 : ∀ k, k < u → S.2.1 16 (8 * (3 * x + t) + k) = g k) (hu7 : fs_hf g f 0 u = false → u < 8) (hq2 : fs_hf g f 0 u = true → Q 0 (r_pi_ S 0 2)) (hq0 : fs_hf g f 0 u = false → Q (Int32.ofNat (u + 1)) (r_si_ (r_si_ (r_si_ (r_pi_ S 0 0) 16 (8 * (3 * x + t) + u) f) 17 (8 * (3 * x + t) + u) y) 15 (3 * x + t) (Int32.ofNat u + 1))) :
    fs_W A (fs_cv (A 0) 12 (f_Rf_field (A 0) (Int32.ofNat x) (Int32.ofNat t) f y)) S Q := by
  have go : fs_W A (fs_lp1 4096 (lb_Rf_field_83 (A 0) f y ((3 * Int32.ofNat x) + Int32.ofNat t)) 0) (r_pi_ S 0 0) Q := by
    rw [show (3 : Int32) * Int32.ofNat x + Int32.ofNat t = Int32.ofNat (3 * x + t) from n_ma 3 x t]
    exact w_field_loop (by omega) hu h15 h16 hu7 hq2 hq0 u 4096 0 0 (by omega) (by omega) (Or.inl ⟨rfl, rfl⟩)
  refine w_cv <| w_ntk (x2 hx) (Int32.ofNat_not_neg (by omega)) ((n_le (y := 2) (by omega) (by omega)).mpr (by omega)) <| w_l <| w_l <| w_p rfl <| w_n hf0 <| w_n hf7 <| w_n hy0 <| w_n hy4 <| w_l ?_
  by_cases hyl : y ≤ 0
  · exact w_p hyl <| w_l <| w_p rfl <| w_pi0 <| w_p rfl <| w_m go
  · refine w_n hyl <| w_b w_least fun r S1 ⟨e1, e2⟩ => ?_
    subst e1
    subst e2
    exact w_p (hl.elim (fun z => absurd z hyl) id) <| w_l <| w_p rfl <| w_pi0 <| w_p rfl <| w_m go
theorem tr_field {a : Nat} {T : fs_Sl} {f y : Int32} {S : fs_R} (h : fs_tr_ a T S.2.1) (hu : T.2.2.1.2.2.2.1 < 8) : fs_tr_ a (T.1, T.2.1, fs_la T.2.2.1 f y, T.2.2.2) (r_si_ (r_si_ (r_si_ (r_pi_ S 0 0) 16 (8 * a + T.2.2.1.2.2.2.1) f) 17 (8 * a + T.2.2.1.2.2.2.1) y) 15 a (Int32.ofNat T.2.2.1.2.2.2.1 + 1)).2.1 ∧ fs_ous a S.2.1 (r_si_ (r_si_ (r_si_ (r_pi_ S 0 0) 16 (8 * a + T.2.2.1.2.2.2.1) f) 17 (8 * a + T.2.2.1.2.2.2.1) y) 15 a (Int32.ofNat T.2.2.1.2.2.2.1 + 1)).2.1 := by
  obtain ⟨h1, h2, h3, h4, h5⟩ := h
  refine ⟨⟨?_, fun k hk => ?_, h3, h4, h5⟩, fun k j hr => ?_⟩
  · show upd (S.2.1 15) a _ a = _
    rw [up_hit, ofNat_add1]
    rfl
  · show upd (S.2.1 16) _ f _ = upd T.2.2.1.2.2.2.2.1 _ f k ∧ upd (S.2.1 17) _ y _ = upd T.2.2.1.2.2.2.2.2 _ y k
    have hk2 : k < T.2.2.1.2.2.2.1 + 1 := hk
    by_cases hke : k = T.2.2.1.2.2.2.1
    · subst hke
      rw [up_hit, up_hit, up_hit, up_hit]
      exact ⟨rfl, rfl⟩
    · exact ⟨by rw [up_miss (by omega), up_miss hke]; exact (h2 k (by omega)).1, by rw [up_miss (by omega), up_miss hke]; exact (h2 k (by omega)).2⟩
  · by_cases h15 : k = 15
    · subst h15
      exact up_miss (fun z => hr (Or.inl ⟨Or.inl rfl, z⟩)) _
    by_cases h16 : k = 16
    · subst h16
      exact up_miss (fun z => hr (Or.inr ⟨by omega, by omega, by omega⟩)) _
    by_cases h17 : k = 17
    · subst h17
      exact up_miss (fun z => hr (Or.inr ⟨by omega, by omega, by omega⟩)) _
    simp [r_si_, r_pi_, va_up, h15, h16, h17]
/-! withdraw -/
theorem rw_bad {A : Nat → Nat} {x t : Int32} {S : fs_R} (hb : ¬ (x = 0 ∨ x = 1) ∨ t < 0 ∨ ¬ t ≤ 2) : fs_W A (fs_cv (A 0) 12 (f_Rf_withdraw (A 0) x t)) S fun _ S1 => S1 = r_pi_ S 0 1 :=
  w_cv <| w_m <| w_ntb hb <| w_l <| w_n (by decide) <| w_pi0 <| w_gi 0 rfl <| w_n (by show ¬ (1 : Int32) = 0; decide) <| w_ret rfl
theorem rw_ok {A : Nat → Nat} {x t : Nat} {S : fs_R} (hx : x < 2) (ht : t < 3) : fs_W A (fs_cv (A 0) 12 (f_Rf_withdraw (A 0) (Int32.ofNat x) (Int32.ofNat t))) S fun _ S1 => (S.2.1 19 (3 * x + t) = 0 ∧ S1 = r_pi_ S 0 2) ∨ (¬ S.2.1 19 (3 * x + t) = 0 ∧ S1 = r_si_ (r_pi_ S 0 0) 19 (3 * x + t) 0) := by
  refine w_cv <| w_m ?_
  rw [show (3 : Int32) * Int32.ofNat x + Int32.ofNat t = Int32.ofNat (3 * x + t) from n_ma 3 x t]
  refine w_ntk (x2 hx) (Int32.ofNat_not_neg (by omega)) ((n_le (y := 2) (by omega) (by omega)).mpr (by omega)) <| w_l <| w_p rfl <| w_gr 19 rfl <| w_ai m19 rfl (by omega) <| w_i (fun h => w_pi0 <| w_gi 0 rfl <| w_n (by show ¬ (2 : Int32) = 0; decide) <| w_ret (Or.inl ⟨h, rfl⟩)) fun h => w_pi0 <| w_gi 0 rfl <| w_p rfl <| w_gr 19 rfl <| w_si m19 rfl (by omega) <| w_ret (Or.inr ⟨h, rfl⟩)
theorem tr_wd {a : Nat} {T : fs_Sl} {S : fs_R} (h : fs_tr_ a T S.2.1) : fs_tr_ a (T.1, upd T.2.1 3 0, T.2.2) (r_si_ (r_pi_ S 0 0) 19 a 0).2.1 ∧ fs_ous a S.2.1 (r_si_ (r_pi_ S 0 0) 19 a 0).2.1 := by
  obtain ⟨h1, h2, h3, h4, h5⟩ := h
  refine ⟨⟨h1, h2, h3, ?_, fun hz => absurd (up_hit T.2.1 3 0) hz⟩, fun k j hr => ?_⟩
  · show upd (S.2.1 19) a 0 a = _
    rw [up_hit]
    exact (if_pos (up_hit T.2.1 3 0)).symm
  · by_cases h19 : k = 19
    · subst h19
      exact up_miss (fun z => hr (Or.inl ⟨by omega, z⟩)) _
    simp [r_si_, r_pi_, va_up, h19]
