/-! seal and restart, in the reference -/
def fs_cp2 (v : Nat → Nat → Int32) (a p : Nat) : Nat → Nat → Int32 := fun k => if k = 21 then (fun j => if 8 * a ≤ j ∧ j < p then v 16 j else v 21 j) else if k = 22 then (fun j => if 8 * a ≤ j ∧ j < p then v 17 j else v 22 j) else v k
theorem cp2_0 (v : Nat → Nat → Int32) (a : Nat) : fs_cp2 v a (8 * a) = v := funext fun k => by
  unfold fs_cp2
  by_cases h : k = 21
  · rw [if_pos h, h]
    exact funext fun j => if_neg (by omega)
  · rw [if_neg h]
    by_cases h2 : k = 22
    · rw [if_pos h2, h2]
      exact funext fun j => if_neg (by omega)
    · rw [if_neg h2]
theorem cp2_s (s : Nat → Int32) (w : Nat → Int64) (v : Nat → Nat → Int32) {a p : Nat} (h : 8 * a ≤ p) : r_si_ (r_si_ (s, fs_cp2 v a p, w) 21 p (v 16 p)) 22 p (v 17 p) = (s, fs_cp2 v a (p + 1), w) := by
  refine Prod.ext rfl (Prod.ext (funext fun k => ?_) rfl)
  by_cases h21 : k = 21
  · subst h21
    show upd (fun j => if 8 * a ≤ j ∧ j < p then v 16 j else v 21 j) p (v 16 p) = fun j => if 8 * a ≤ j ∧ j < p + 1 then v 16 j else v 21 j
    funext j
    by_cases hj : j = p
    · subst hj; rw [up_hit, if_pos (by omega)]
    · rw [up_miss hj]
      by_cases h2 : 8 * a ≤ j ∧ j < p
      · rw [if_pos h2, if_pos (by omega)]
      · rw [if_neg h2, if_neg (by omega)]
  · by_cases h22 : k = 22
    · subst h22
      show upd (fun j => if 8 * a ≤ j ∧ j < p then v 17 j else v 22 j) p (v 17 p) = fun j => if 8 * a ≤ j ∧ j < p + 1 then v 17 j else v 22 j
      funext j
      by_cases hj : j = p
      · subst hj; rw [up_hit, if_pos (by omega)]
      · rw [up_miss hj]
        by_cases h2 : 8 * a ≤ j ∧ j < p
        · rw [if_pos h2, if_pos (by omega)]
        · rw [if_neg h2, if_neg (by omega)]
    · simp [r_si_, va_up, fs_cp2, h21, h22]
theorem w_seal_loop {A : Nat → Nat} {a u : Nat} (ha : a < 6) (hu : u ≤ 8) (v : Nat → Nat → Int32) (h15 : v 15 a = Int32.ofNat u) (s : Nat → Int32) (w : Nat → Int64) : ∀ (m fuel p : Nat), p + m = 8 * a + u → m < fuel → 8 * a ≤ p →
    fs_W A (fs_lp1 fuel (lb_Rf_seal_95 (A 0) (Int32.ofNat a)) (Int32.ofNat p)) (s, fs_cp2 v a p, w) fun r S1 => r = v 18 a ∧ S1 = r_si_ (r_pi_ (r_si_ (s, fs_cp2 v a (8 * a + u), w) 15 a 0) 24 (s 24 + 1)) 23 a (s 24 + 1)
  | 0, fuel + 1, p, hp, _, hap => by
    have hp2 : p = 8 * a + u := by omega
    subst hp2
    refine w_lp1 <| w_gr 15 rfl <| w_ai m15 rfl ha ?_
    rw [show (s, fs_cp2 v a (8 * a + u), w).2.1 15 a = Int32.ofNat u from h15, show (8 : Int32) * Int32.ofNat a + Int32.ofNat u = Int32.ofNat (8 * a + u) from n_ma 8 a u]
    exact w_p (Int32.le_refl _) <| w_gr 15 rfl <| w_si m15 rfl ha <| w_gi 24 rfl <| w_pi 24 rfl (by decide) <| w_gr 23 rfl <| w_gi 24 rfl <| w_si m23 rfl ha <| w_gr 18 rfl <| w_ai m18 rfl ha <| w_ret ⟨rfl, rfl⟩
  | m + 1, fuel + 1, p, hp, hf, hap => by
    refine w_lp1 <| w_gr 15 rfl <| w_ai m15 rfl ha ?_
    rw [show (s, fs_cp2 v a p, w).2.1 15 a = Int32.ofNat u from h15, show (8 : Int32) * Int32.ofNat a + Int32.ofNat u = Int32.ofNat (8 * a + u) from n_ma 8 a u]
    refine w_n (fun z => ?_) <| w_gr 21 rfl <| w_gr 16 rfl <| w_ai m16 rfl (by omega) <| w_si m21 rfl (by omega) <| w_gr 22 rfl <| w_gr 17 rfl <| w_ai m17 rfl (by omega) <| w_si m22 rfl (by omega) <| w_m ?_
    · have := (n_le (by omega) (by omega)).mp z
      omega
    · rw [ofNat_add1]
      have e := cp2_s s w v hap
      show fs_W A _ (r_si_ (r_si_ (s, fs_cp2 v a p, w) 21 p (v 16 p)) 22 p (v 17 p)) _
      rw [e]
      exact w_seal_loop ha hu v h15 s w m fuel (p + 1) (by omega) (by omega) (by omega)
  | _, 0, _, _, h, _ => absurd h (Nat.not_lt_zero _)
theorem rl_bad {A : Nat → Nat} {x t : Int32} {S : fs_R} (hb : ¬ (x = 0 ∨ x = 1) ∨ t < 0 ∨ ¬ t ≤ 2) : fs_W A (fs_cv (A 0) 12 (f_Rf_seal (A 0) x t)) S fun _ S1 => S1 = r_pi_ S 0 1 :=
  w_cv <| w_m <| w_ntb hb <| w_l <| w_n (by decide) <| w_pi0 <| w_gi 0 rfl <| w_n (by show ¬ (1 : Int32) = 0; decide) <| w_ret rfl
theorem rl_ise {A : Nat → Nat} {x t : Nat} {S : fs_R} (hx : x < 2) (ht : t < 3) (hb : S.2.1 15 (3 * x + t) = 0 ∨ ¬ S.2.1 19 (3 * x + t) ≤ 0) : fs_W A (fs_cv (A 0) 12 (f_Rf_seal (A 0) (Int32.ofNat x) (Int32.ofNat t))) S fun _ S1 => S1 = r_pi_ S 0 2 := by
  refine w_cv <| w_m ?_
  rw [show (3 : Int32) * Int32.ofNat x + Int32.ofNat t = Int32.ofNat (3 * x + t) from n_ma 3 x t]
  refine w_ntk (x2 hx) (Int32.ofNat_not_neg (by omega)) ((n_le (y := 2) (by omega) (by omega)).mpr (by omega)) <| w_l <| w_p rfl <| w_gr 15 rfl <| w_ai m15 rfl (by omega) <| w_l <| w_i (fun h => w_pi0 <| w_gi 0 rfl <| w_n (by show ¬ (2 : Int32) = 0; decide) <| w_ret rfl) fun h => w_gr 19 rfl <| w_ai m19 rfl (by omega) <| w_n (hb.elim (fun z => absurd z h) id) <| w_pi0 <| w_gi 0 rfl <| w_n (by show ¬ (2 : Int32) = 0; decide) <| w_ret rfl
def fs_sv (v : Nat → Nat → Int32) (a : Nat) : Nat → Nat → Int32 := va_up (va_up (va_up v 18 (upd (v 18) a (v 18 a + 1))) 19 (upd (v 19) a (v 18 a + 1))) 20 (upd (v 20) a (v 15 a))
set_option maxRecDepth 100000 in
theorem rl_ok {A : Nat → Nat} {x t u : Nat} {S : fs_R} (hx : x < 2) (ht : t < 3) (hu : u ≤ 8) (h15 : S.2.1 15 (3 * x + t) = Int32.ofNat u) (hu0 : u ≠ 0) (h19 : S.2.1 19 (3 * x + t) ≤ 0) : fs_W A (fs_cv (A 0) 12 (f_Rf_seal (A 0) (Int32.ofNat x) (Int32.ofNat t))) S fun r S1 => r = S.2.1 18 (3 * x + t) + 1 ∧ S1 = r_si_ (r_pi_ (r_si_ (upd S.1 0 0, fs_cp2 (fs_sv S.2.1 (3 * x + t)) (3 * x + t) (8 * (3 * x + t) + u), S.2.2) 15 (3 * x + t) 0) 24 (S.1 24 + 1)) 23 (3 * x + t) (S.1 24 + 1) := by
  refine w_cv <| w_m ?_
  rw [show (3 : Int32) * Int32.ofNat x + Int32.ofNat t = Int32.ofNat (3 * x + t) from n_ma 3 x t]
  refine w_ntk (x2 hx) (Int32.ofNat_not_neg (by omega)) ((n_le (y := 2) (by omega) (by omega)).mpr (by omega)) <| w_l <| w_p rfl <| w_gr 15 rfl <| w_ai m15 rfl (by omega) <| w_l <| w_n ?_ <| w_gr 19 rfl <| w_ai m19 rfl (by omega) <| w_p h19 <| w_pi0 <| w_gi 0 rfl <| w_p rfl <| w_gr 18 rfl <| w_ai m18 rfl (by omega) <| w_si m18 rfl (by omega) <| w_gr 19 rfl <| w_gr 18 rfl <| w_ai m18 rfl (by omega) <| w_si m19 rfl (by omega) <| w_gr 20 rfl <| w_gr 15 rfl <| w_ai m15 rfl (by omega) <| w_si m20 rfl (by omega) <| w_m ?_
  · rw [h15]
    exact fun z => hu0 (n_inj (b := 0) (by omega) (by decide) z)
  · generalize ha : 3 * x + t = a at *
    have ha6 : a < 6 := by omega
    have hv15 : fs_sv S.2.1 a 15 a = Int32.ofNat u := h15
    have hv18 : fs_sv S.2.1 a 18 a = S.2.1 18 a + 1 := up_hit _ _ _
    have es : (r_si_ (r_si_ (r_si_ (r_pi_ S 0 0) 18 a ((r_pi_ S 0 0).2.1 18 a + 1)) 19 a ((r_si_ (r_pi_ S 0 0) 18 a ((r_pi_ S 0 0).2.1 18 a + 1)).2.1 18 a)) 20 a ((r_si_ (r_si_ (r_pi_ S 0 0) 18 a ((r_pi_ S 0 0).2.1 18 a + 1)) 19 a ((r_si_ (r_pi_ S 0 0) 18 a ((r_pi_ S 0 0).2.1 18 a + 1)).2.1 18 a)).2.1 15 a)) = (upd S.1 0 0, fs_cp2 (fs_sv S.2.1 a) a (8 * a), S.2.2) := by
      rw [cp2_0]
      refine Prod.ext rfl (Prod.ext (funext fun k => ?_) rfl)
      by_cases h20 : k = 20
      · subst h20; rfl
      · by_cases h19 : k = 19
        · subst h19
          show upd (S.2.1 19) a (upd (S.2.1 18) a (S.2.1 18 a + 1) a) = upd (S.2.1 19) a (S.2.1 18 a + 1)
          rw [up_hit]
        · by_cases h18 : k = 18
          · subst h18; rfl
          · simp [r_si_, r_pi_, fs_sv, va_up, h18, h19, h20]
    rw [es]
    show fs_W A (fs_lp1 4096 (lb_Rf_seal_95 (A 0) (Int32.ofNat a)) (8 * Int32.ofNat a)) _ _
    rw [show (8 : Int32) * Int32.ofNat a = Int32.ofNat (8 * a) from n_m 8 a]
    refine w_mono (w_seal_loop ha6 hu (fs_sv S.2.1 a) hv15 (upd S.1 0 0) S.2.2 u 4096 (8 * a) rfl (by omega) (Nat.le_refl _)) fun r S1 ⟨e1, e2⟩ => ⟨by rw [e1, hv18], e2⟩
theorem tr_seal {a u : Nat} {T : fs_Sl} {y : Int32} {S : fs_R} (h : fs_tr_ a T S.2.1) (hu : T.2.2.1.2.2.2.1 = u) (hu8 : u ≤ 8) (h3 : T.2.1 3 = 0) : fs_tr_ a (T.1, upd (upd (upd T.2.1 3 1) 4 (T.2.1 4 + 1)) 5 y, fs_lz T.2.2.2, T.2.2.1) (r_si_ (r_pi_ (r_si_ (upd S.1 0 0, fs_cp2 (fs_sv S.2.1 a) a (8 * a + u), S.2.2) 15 a 0) 24 (S.1 24 + 1)) 23 a (S.1 24 + 1)).2.1 ∧ fs_ous a S.2.1 (r_si_ (r_pi_ (r_si_ (upd S.1 0 0, fs_cp2 (fs_sv S.2.1 a) a (8 * a + u), S.2.2) 15 a 0) 24 (S.1 24 + 1)) 23 a (S.1 24 + 1)).2.1 := by
  obtain ⟨h1, h2, h3', h4, h5⟩ := h
  refine ⟨⟨up_hit _ _ _, fun k hk => absurd hk (Nat.not_lt_zero _), ?_, ?_, fun _ => ⟨?_, fun k hk => ?_⟩⟩, fun k j hr => ?_⟩
  · show upd (S.2.1 18) a (S.2.1 18 a + 1) a = T.2.1 4 + 1
    rw [up_hit, h3']
  · show upd (S.2.1 19) a (S.2.1 18 a + 1) a = if (1 : Int32) = 0 then 0 else T.2.1 4 + 1
    rw [up_hit, h3', if_neg (by decide)]
  · show upd (S.2.1 20) a (S.2.1 15 a) a = Int32.ofNat T.2.2.1.2.2.2.1
    rw [up_hit, h1]
  · have hk2 : k < T.2.2.1.2.2.2.1 := hk
    show (if 8 * a ≤ 8 * a + k ∧ 8 * a + k < 8 * a + u then S.2.1 16 (8 * a + k) else _) = _ ∧ (if 8 * a ≤ 8 * a + k ∧ 8 * a + k < 8 * a + u then S.2.1 17 (8 * a + k) else _) = _
    rw [if_pos (by omega), if_pos (by omega)]
    exact h2 k hk2
  · by_cases h15 : k = 15
    · subst h15
      exact up_miss (fun z => hr (Or.inl ⟨by omega, z⟩)) _
    by_cases h18 : k = 18
    · subst h18
      exact up_miss (fun z => hr (Or.inl ⟨by omega, z⟩)) _
    by_cases h19 : k = 19
    · subst h19
      exact up_miss (fun z => hr (Or.inl ⟨by omega, z⟩)) _
    by_cases h20 : k = 20
    · subst h20
      exact up_miss (fun z => hr (Or.inl ⟨by omega, z⟩)) _
    by_cases h23 : k = 23
    · subst h23
      exact up_miss (fun z => hr (Or.inl ⟨by omega, z⟩)) _
    by_cases h21 : k = 21
    · subst h21
      exact if_neg (fun z => hr (Or.inr ⟨by omega, by omega, by omega⟩))
    by_cases h22 : k = 22
    · subst h22
      exact if_neg (fun z => hr (Or.inr ⟨by omega, by omega, by omega⟩))
    simp [r_si_, r_pi_, va_up, fs_cp2, fs_sv, h15, h18, h19, h20, h21, h22, h23]
/-! restart -/
def fs_rz3 (v : Nat → Nat → Int32) (x p : Nat) : Nat → Nat → Int32 := fun k => if k = 15 ∨ k = 18 ∨ k = 19 then (fun j => if 3 * x ≤ j ∧ j < p then 0 else v k j) else v k
theorem rz3_0 (v : Nat → Nat → Int32) (x : Nat) : fs_rz3 v x (3 * x) = v := funext fun k => by
  unfold fs_rz3
  by_cases h : k = 15 ∨ k = 18 ∨ k = 19
  · rw [if_pos h]
    exact funext fun j => if_neg (by omega)
  · rw [if_neg h]
theorem rz3_s (s : Nat → Int32) (w : Nat → Int64) (v : Nat → Nat → Int32) {x p : Nat} (h : 3 * x ≤ p) : r_si_ (r_si_ (r_si_ (s, fs_rz3 v x p, w) 15 p 0) 18 p 0) 19 p 0 = (s, fs_rz3 v x (p + 1), w) := by
  have key : ∀ f : Nat → Int32, upd (fun j => if 3 * x ≤ j ∧ j < p then 0 else f j) p 0 = fun j => if 3 * x ≤ j ∧ j < p + 1 then 0 else f j := fun f => funext fun j => by
    by_cases hj : j = p
    · subst hj; rw [up_hit, if_pos (by omega)]
    · rw [up_miss hj]
      by_cases h2 : 3 * x ≤ j ∧ j < p
      · rw [if_pos h2, if_pos (by omega)]
      · rw [if_neg h2, if_neg (by omega)]
  refine Prod.ext rfl (Prod.ext (funext fun k => ?_) rfl)
  by_cases h15 : k = 15
  · subst h15; exact key (v 15)
  by_cases h18 : k = 18
  · subst h18; exact key (v 18)
  by_cases h19 : k = 19
  · subst h19; exact key (v 19)
  simp [r_si_, va_up, fs_rz3, h15, h18, h19]
theorem w_restart_loop {A : Nat → Nat} {x : Nat} (hx : x < 2) (v : Nat → Nat → Int32) (s : Nat → Int32) (w : Nat → Int64) : ∀ (m fuel p : Nat), p + m = 3 * x + 3 → m < fuel → 3 * x ≤ p →
    fs_W A (fs_lp1 fuel (lb_Rf_restart_96 (A 0) (Int32.ofNat x)) (Int32.ofNat p)) (s, fs_rz3 v x p, w) fun r S1 => r = v 2 x ∧ S1 = (s, fs_rz3 v x (3 * x + 3), w)
  | 0, fuel + 1, p, hp, _, hap => by
    have hp2 : p = 3 * x + 3 := by omega
    subst hp2
    refine w_lp1 <| w_p ?_ <| w_gr 2 rfl <| w_ai m2 rfl hx <| w_ret ⟨rfl, rfl⟩
    rw [show (3 : Int32) * Int32.ofNat x + 3 = Int32.ofNat (3 * x + 3) from n_ma 3 x 3]
    exact Int32.le_refl _
  | m + 1, fuel + 1, p, hp, hf, hap => by
    refine w_lp1 <| w_n (fun z => ?_) <| w_gr 15 rfl <| w_si m15 rfl (by omega) <| w_gr 18 rfl <| w_si m18 rfl (by omega) <| w_gr 19 rfl <| w_si m19 rfl (by omega) <| w_m ?_
    · rw [show (3 : Int32) * Int32.ofNat x + 3 = Int32.ofNat (3 * x + 3) from n_ma 3 x 3] at z
      have := (n_le (by omega) (by omega)).mp z
      omega
    · rw [ofNat_add1]
      rw [rz3_s s w v hap]
      exact w_restart_loop hx v s w m fuel (p + 1) (by omega) (by omega) (by omega)
  | _, 0, _, _, h, _ => absurd h (Nat.not_lt_zero _)
theorem rr_bad {A : Nat → Nat} {x : Int32} {S : fs_R} (hb : ¬ (x = 0 ∨ x = 1)) : fs_W A (fs_cv (A 0) 12 (f_Rf_restart (A 0) x)) S fun _ S1 => S1 = r_pi_ S 0 1 :=
  w_cv <| w_nxb hb <| w_l <| w_n (by decide) <| w_pi0 <| w_gi 0 rfl <| w_n (by show ¬ (1 : Int32) = 0; decide) <| w_ret rfl
theorem rr_ise {A : Nat → Nat} {x : Nat} {S : fs_R} (hx : x < 2) (h5 : S.2.1 2 x = 5) : fs_W A (fs_cv (A 0) 12 (f_Rf_restart (A 0) (Int32.ofNat x))) S fun _ S1 => S1 = r_pi_ S 0 2 :=
  w_cv <| w_nxk (x2 hx) <| w_l <| w_p rfl <| w_gr 2 rfl <| w_ai m2 rfl hx <| w_p h5 <| w_pi0 <| w_gi 0 rfl <| w_n (by show ¬ (2 : Int32) = 0; decide) <| w_ret rfl
def fs_rsv (v : Nat → Nat → Int32) (x : Nat) : Nat → Nat → Int32 := va_up (va_up (va_up (va_up (va_up (va_up (va_up v 2 (upd (v 2) x (v 2 x + 1))) 7 (upd (v 7) x 0)) 13 (upd (v 13) x 0)) 5 (upd (v 5) x 0)) 6 (upd (v 6) x 0)) 3 (upd (v 3) x 1)) 4 (upd (v 4) x 0)
set_option maxRecDepth 100000 in
theorem rr_ok {A : Nat → Nat} {x : Nat} {S : fs_R} (hx : x < 2) (h5 : ¬ S.2.1 2 x = 5) : fs_W A (fs_cv (A 0) 12 (f_Rf_restart (A 0) (Int32.ofNat x))) S fun r S1 => r = S.2.1 2 x + 1 ∧ S1 = (upd S.1 0 0, fs_rz3 (fs_rsv S.2.1 x) x (3 * x + 3), S.2.2) := by
  refine w_cv <| w_nxk (x2 hx) <| w_l <| w_p rfl <| w_gr 2 rfl <| w_ai m2 rfl hx <| w_n h5 <| w_pi0 <| w_gi 0 rfl <| w_p rfl <| w_gr 2 rfl <| w_ai m2 rfl hx <| w_si m2 rfl hx <| w_gr 7 rfl <| w_si m7 rfl hx <| w_gr 13 rfl <| w_si m13 rfl hx <| w_gr 5 rfl <| w_si m5 rfl hx <| w_gr 6 rfl <| w_si m6 rfl hx <| w_gr 3 rfl <| w_si m3 rfl hx <| w_gr 4 rfl <| w_si m4 rfl hx <| w_m ?_
  have hr : fs_rsv S.2.1 x 2 x = S.2.1 2 x + 1 := up_hit _ _ _
  have es : r_si_ (r_si_ (r_si_ (r_si_ (r_si_ (r_si_ (r_si_ (r_pi_ S 0 0) 2 x (S.2.1 2 x + 1)) 7 x 0) 13 x 0) 5 x 0) 6 x 0) 3 x 1) 4 x 0 = (upd S.1 0 0, fs_rz3 (fs_rsv S.2.1 x) x (3 * x), S.2.2) := by
    rw [rz3_0]
    rfl
  show fs_W A (fs_lp1 4096 (lb_Rf_restart_96 (A 0) (Int32.ofNat x)) (3 * Int32.ofNat x)) (r_si_ (r_si_ (r_si_ (r_si_ (r_si_ (r_si_ (r_si_ (r_pi_ S 0 0) 2 x (S.2.1 2 x + 1)) 7 x 0) 13 x 0) 5 x 0) 6 x 0) 3 x 1) 4 x 0) _
  rw [es, show (3 : Int32) * Int32.ofNat x = Int32.ofNat (3 * x) from n_m 3 x]
  exact w_mono (w_restart_loop hx (fs_rsv S.2.1 x) (upd S.1 0 0) S.2.2 3 4096 (3 * x) rfl (by decide) (Nat.le_refl _)) fun r S1 ⟨e1, e2⟩ => ⟨e1.trans hr, e2⟩
