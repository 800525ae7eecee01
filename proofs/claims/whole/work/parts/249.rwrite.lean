/-! reports written, in the reference -/
def fs_wrt (n : Nat) (R : fs_Rp) (v : Nat → Nat → Int32) : Prop := v 26 n = Int32.ofNat R.2.2.1 ∧ ∀ i, i < R.2.2.1 → v 27 (64 * n + i) = R.2.2.2 i
def fs_otx (n : Nat) (v w : Nat → Nat → Int32) : Prop := ∀ k j, ¬ (k = 26 ∧ j = n ∨ k = 27 ∧ 64 * n ≤ j ∧ j < 64 * n + 64) → w k j = v k j
def fs_wst (n : Nat) (R : fs_Rp) (S0 S : fs_R) : Prop := S.1 = S0.1 ∧ S.2.2 = S0.2.2 ∧ fs_wrt n R S.2.1 ∧ fs_otx n S0.2.1 S.2.1
theorem wst_rd {n k j : Nat} {R : fs_Rp} {S0 S : fs_R} (h : fs_wst n R S0 S) (h1 : k ≠ 26) (h2 : k ≠ 27) : S.2.1 k j = S0.2.1 k j := h.2.2.2 k j (fun z => z.elim (fun z => h1 z.1) (fun z => h2 z.1))
theorem w_wk {β : Type} {A : Nat → Nat} {n : Nat} {x y : Int32} {R : fs_Rp} {S0 S : fs_R} {K : Unit → fs_T β} {Q : β → fs_R → Prop} (hw : fs_wst n R S0 S) (hn : n < 30) (h25 : S0.1 25 = Int32.ofNat n) (hu : R.2.2.1 < 64) (hx : x = y &&& 255) (hk : ∀ S1, fs_wst n (fs_ra R y) S0 S1 → fs_W A (K ()) S1 Q) : fs_W A (fs_bind (fs_cv (A 0) 12 (f_Rf_write (A 0) x)) K) S Q := by
  obtain ⟨h1, h2, ⟨h3, h4⟩, h5⟩ := hw
  have e25 : S.1 25 = Int32.ofNat n := by rw [h1]; exact h25
  refine w_b (P := fun _ S1 => S1 = r_si_ (r_si_ S 27 (64 * n + R.2.2.1) x) 26 n (Int32.ofNat R.2.2.1 + 1)) (w_cv ?_) fun _ S1 e => ?_
  · refine w_gr 27 rfl <| w_gi 25 rfl <| w_gr 26 rfl <| w_gi 25 rfl <| w_ai m26 e25 hn ?_
    rw [h3, e25]
    refine w_si m27 (n_ma 64 n R.2.2.1) (by omega) <| w_gr 26 rfl <| w_gi 25 rfl <| w_ai m26 e25 hn <| w_si m26 e25 hn <| w_ret ?_
    show r_si_ (r_si_ S 27 (64 * n + R.2.2.1) x) 26 n (S.2.1 26 n + 1) = _
    rw [h3]
  · subst e
    have er : fs_ra R y = (R.1, R.2.1, R.2.2.1 + 1, upd R.2.2.2 R.2.2.1 (y &&& 255)) := if_pos hu
    refine hk _ ⟨h1, h2, ?_, fun k j hr => ?_⟩
    · rw [er]
      refine ⟨?_, fun i hi => ?_⟩
      · show upd (S.2.1 26) n (Int32.ofNat R.2.2.1 + 1) n = Int32.ofNat (R.2.2.1 + 1)
        rw [up_hit, ofNat_add1]
      · have hi2 : i < R.2.2.1 + 1 := hi
        show upd (S.2.1 27) (64 * n + R.2.2.1) x (64 * n + i) = upd R.2.2.2 R.2.2.1 (y &&& 255) i
        by_cases hie : i = R.2.2.1
        · subst hie
          rw [up_hit, up_hit, hx]
        · rw [up_miss (by omega), up_miss hie]
          exact h4 i (by omega)
    · rw [← h5 k j hr]
      by_cases h26 : k = 26
      · subst h26
        exact up_miss (fun z => hr (Or.inl ⟨rfl, z⟩)) _
      by_cases h27 : k = 27
      · subst h27
        exact up_miss (fun z => hr (Or.inr ⟨rfl, by omega, by omega⟩)) _
      simp [r_si_, va_up, h26, h27]
def fs_Re0 (na : Nat) : fs_Rp := (na, na + 1, 0, fun _ => 0)
theorem rn_eq (na : Nat) {x y z : Int32} (hx : x &&& 255 = x) (hy : y &&& 255 = y) (hz : z &&& 255 = z) : fs_ra (fs_ra (fs_ra (fs_Re0 na) x) y) z = fs_rn na x y z := by
  show (na, na + 1, 3, upd (upd (upd (fun _ => 0) 0 (x &&& 255)) 1 (y &&& 255)) 2 (z &&& 255)) = _
  rw [hx, hy, hz]
  rfl
theorem ra_used {R : fs_Rp} (x : Int32) (h : R.2.2.1 < 64) : (fs_ra R x).2.2.1 = R.2.2.1 + 1 := by
  unfold fs_ra
  rw [if_pos h]
theorem and255 {n : Nat} (h : n ≤ 255) : Int32.ofNat n &&& 255 = Int32.ofNat n := by
  rw [show (255 : Int32) = Int32.ofNat 255 by decide, n_and, show 255 = 2 ^ 8 - 1 by decide, Nat.and_two_pow_sub_one_eq_mod, Nat.mod_eq_of_lt (by omega)]
theorem w_head {β : Type} {A : Nat → Nat} {n x e : Nat} {kind : Int32} {S : fs_R} {K : Unit → fs_T β} {Q : β → fs_R → Prop} (na : Nat) (hx : x < 2) (hn : n < 30) (h25 : S.1 25 = Int32.ofNat n) (he : S.2.1 2 x = Int32.ofNat e) (he5 : e ≤ 255) (hkd : kind &&& 255 = kind) (hk : ∀ S1, fs_wst n (fs_rn na (Int32.ofNat x) (Int32.ofNat e) kind) S S1 → fs_W A (K ()) S1 Q) : fs_W A (fs_bind (fs_cv (A 0) 12 (f_Rf_head (A 0) (Int32.ofNat x) kind)) K) S Q := by
  have ax : Int32.ofNat x = Int32.ofNat x &&& 255 := (and255 (by omega)).symm
  have ae : Int32.ofNat e = Int32.ofNat e &&& 255 := (and255 he5).symm
  refine w_b (P := fun _ S1 => fs_wst n (fs_rn na (Int32.ofNat x) (Int32.ofNat e) kind) S S1) (w_cv ?_) fun _ S1 h => hk S1 h
  refine w_gr 26 rfl <| w_gi 25 rfl <| w_si m26 h25 hn ?_
  have w0 : fs_wst n (fs_Re0 na) S (r_si_ S 26 n 0) := ⟨rfl, rfl, ⟨up_hit _ _ _, fun i hi => absurd hi (Nat.not_lt_zero _)⟩, fun k j hr => by
    by_cases h26 : k = 26
    · subst h26
      exact up_miss (fun z => hr (Or.inl ⟨rfl, z⟩)) _
    · exact congrFun (va_up_ne S.2.1 _ h26) j⟩
  refine w_wk w0 hn h25 (show 0 < 64 by decide) ax fun S1 w1 => ?_
  have e1 : (fs_ra (fs_Re0 na) (Int32.ofNat x)).2.2.1 = 1 := ra_used _ (show 0 < 64 by decide)
  refine w_gr 2 rfl <| w_ai m2 rfl hx ?_
  rw [wst_rd w1 (by decide) (by decide), he]
  refine w_wk w1 hn h25 (by omega) ae fun S2 w2 => ?_
  have e2 : (fs_ra (fs_ra (fs_Re0 na) (Int32.ofNat x)) (Int32.ofNat e)).2.2.1 = 2 := (ra_used _ (by omega)).trans (by omega)
  refine w_wk w2 hn h25 (by omega) hkd.symm fun S3 w3 => w_ret ?_
  rw [rn_eq na ax.symm ae.symm hkd] at w3
  exact w3
/-! tell -/
theorem rt_badx {A : Nat → Nat} {x : Int32} {S : fs_R} (hb : ¬ (x = 0 ∨ x = 1)) : fs_W A (fs_cv (A 0) 12 (f_Rf_tell (A 0) x)) S fun _ S1 => S1 = r_pi_ S 0 1 :=
  w_cv <| w_nxb hb <| w_l <| w_n (by decide) <| w_pi0 <| w_gi 0 rfl <| w_n (by show ¬ (1 : Int32) = 0; decide) <| w_ret rfl
theorem rt_ise {A : Nat → Nat} {x : Nat} {S : fs_R} (hx : x < 2) (h30 : S.1 25 = 30) : fs_W A (fs_cv (A 0) 12 (f_Rf_tell (A 0) (Int32.ofNat x))) S fun _ S1 => S1 = r_pi_ S 0 2 :=
  w_cv <| w_nxk (x2 hx) <| w_l <| w_p rfl <| w_gi 25 rfl <| w_p h30 <| w_pi0 <| w_gi 0 rfl <| w_n (by show ¬ (2 : Int32) = 0; decide) <| w_ret rfl
theorem rt_tell {A : Nat → Nat} {x n e t k : Nat} {S : fs_R} (na : Nat) (hx : x < 2) (hn : n < 30) (h25 : S.1 25 = Int32.ofNat n) (he : S.2.1 2 x = Int32.ofNat e) (he5 : e ≤ 255) (ht : S.2.1 6 x = Int32.ofNat t) (ht5 : t ≤ 255) (hk : S.2.1 3 x = Int32.ofNat k) (hk5 : k ≤ 255) :
    fs_W A (fs_cv (A 0) 12 (f_Rf_tell (A 0) (Int32.ofNat x))) S fun r S1 => r = Int32.ofNat n ∧ ∃ S2, fs_wst n (fs_ra (fs_ra (fs_rn na (Int32.ofNat x) (Int32.ofNat e) 2) (Int32.ofNat t)) (Int32.ofNat k)) (r_pi_ S 0 0) S2 ∧ S1 = r_pi_ (r_si_ S2 6 x (Int32.ofNat (t + 1))) 25 (Int32.ofNat (n + 1)) := by
  refine w_cv <| w_nxk (x2 hx) <| w_l <| w_p rfl <| w_gi 25 rfl <| w_n ?_ <| w_pi0 <| w_gi 0 rfl <| w_p rfl <| w_head (n := n) (e := e) na hx hn h25 he he5 (by decide) fun S1 w1 => w_gr 6 rfl <| w_ai m6 rfl hx ?_
  · rw [h25]
    exact fun z => by have := n_inj (b := 30) (by omega) (by decide) z; omega
  · rw [wst_rd w1 (by decide) (by decide), show (r_pi_ S 0 0).2.1 6 x = Int32.ofNat t from ht]
    refine w_wk w1 hn h25 (show 3 < 64 by decide) (and255 ht5).symm fun S2 w2 => w_gr 3 rfl <| w_ai m3 rfl hx ?_
    have e2 : (fs_ra (fs_rn na (Int32.ofNat x) (Int32.ofNat e) 2) (Int32.ofNat t)).2.2.1 = 4 := ra_used _ (show 3 < 64 by decide)
    rw [wst_rd w2 (by decide) (by decide), show (r_pi_ S 0 0).2.1 3 x = Int32.ofNat k from hk]
    refine w_wk w2 hn h25 (by omega) (and255 hk5).symm fun S3 w3 => w_gr 6 rfl <| w_ai m6 rfl hx ?_
    rw [wst_rd w3 (by decide) (by decide), show (r_pi_ S 0 0).2.1 6 x = Int32.ofNat t from ht, ofNat_add1]
    have e25 : S3.1 25 = Int32.ofNat n := by rw [w3.1]; exact h25
    refine w_si m6 rfl hx <| w_gi 25 rfl ?_
    rw [show (r_si_ S3 6 x (Int32.ofNat (t + 1))).1 25 = Int32.ofNat n from e25, ofNat_add1]
    refine w_pi 25 rfl (by decide) <| w_gi 25 rfl <| w_ret ⟨?_, S3, w3, rfl⟩
    show Int32.ofNat (n + 1) - 1 = _
    exact ofNat_sub1 (n := n + 1) (Nat.succ_pos n)
/-! announce -/
theorem ran_bad {A : Nat → Nat} {x t : Int32} {S : fs_R} (hb : ¬ (x = 0 ∨ x = 1) ∨ t < 0 ∨ ¬ t ≤ 2) : fs_W A (fs_cv (A 0) 12 (f_Rf_announce (A 0) x t)) S fun _ S1 => S1 = r_pi_ S 0 1 :=
  w_cv <| w_m <| w_ntb hb <| w_l <| w_n (by decide) <| w_pi0 <| w_gi 0 rfl <| w_n (by show ¬ (1 : Int32) = 0; decide) <| w_ret rfl
theorem ran_ise {A : Nat → Nat} {x t : Nat} {S : fs_R} (hx : x < 2) (ht : t < 3) (hb : S.2.1 19 (3 * x + t) = 0 ∨ S.1 25 = 30) : fs_W A (fs_cv (A 0) 12 (f_Rf_announce (A 0) (Int32.ofNat x) (Int32.ofNat t))) S fun _ S1 => S1 = r_pi_ S 0 2 := by
  refine w_cv <| w_m ?_
  rw [show (3 : Int32) * Int32.ofNat x + Int32.ofNat t = Int32.ofNat (3 * x + t) from n_ma 3 x t]
  exact w_ntk (x2 hx) (Int32.ofNat_not_neg (by omega)) ((n_le (y := 2) (by omega) (by omega)).mpr (by omega)) <| w_l <| w_p rfl <| w_gr 19 rfl <| w_ai m19 rfl (by omega) <| w_l <| w_i (fun h => w_pi0 <| w_gi 0 rfl <| w_n (by show ¬ (2 : Int32) = 0; decide) <| w_ret rfl) fun h => w_gi 25 rfl <| w_p (hb.elim (fun z => absurd z h) id) <| w_pi0 <| w_gi 0 rfl <| w_n (by show ¬ (2 : Int32) = 0; decide) <| w_ret rfl
def fs_bl (f g : Nat → Int32) (u : Nat) : Prop := ∀ i, i < u → (∃ k, k < 8 ∧ f i = Int32.ofNat k) ∧ ∃ l, l ≤ 4 ∧ g i = Int32.ofNat l
theorem w_ann_loop {A : Nat → Nat} {a n u : Nat} {f g : Nat → Int32} {S0 : fs_R} {Q : Int32 → fs_R → Prop} (ha : a < 6) (hn : n < 30) (h25 : S0.1 25 = Int32.ofNat n) (hu : u ≤ 8) (h20 : S0.2.1 20 a = Int32.ofNat u) (hfg : ∀ k, k < u → S0.2.1 21 (8 * a + k) = f k ∧ S0.2.1 22 (8 * a + k) = g k) (hb : fs_bl f g u) : ∀ (m fuel i : Nat) (R : fs_Rp) (S : fs_R), fs_wst n R S0 S → i + m = u → m < fuel → R.2.2.1 + 2 * m ≤ 64 →
    (∀ S1, fs_wst n (fs_tq f g R i m) S0 S1 → Q (Int32.ofNat n) (r_pi_ S1 25 (Int32.ofNat (n + 1)))) → fs_W A (fs_lp1 fuel (lb_Rf_announce_92 (A 0) (Int32.ofNat a)) (Int32.ofNat (8 * a + i))) S Q
  | 0, fuel + 1, i, R, S, hw, hi, _, _, hq => by
    have hie : i = u := by omega
    subst hie
    refine w_lp1 <| w_gr 20 rfl <| w_ai m20 rfl ha ?_
    rw [wst_rd hw (by decide) (by decide), h20, show (8 : Int32) * Int32.ofNat a + Int32.ofNat i = Int32.ofNat (8 * a + i) from n_ma 8 a i]
    have e25 : S.1 25 = Int32.ofNat n := by rw [hw.1]; exact h25
    refine w_p (Int32.le_refl _) <| w_gi 25 rfl ?_
    rw [e25, ofNat_add1]
    refine w_pi 25 rfl (by decide) <| w_gi 25 rfl <| w_ret ?_
    rw [show (r_pi_ S 25 (Int32.ofNat (n + 1))).1 25 - 1 = Int32.ofNat n from ofNat_sub1 (n := n + 1) (Nat.succ_pos n)]
    exact hq S hw
  | m + 1, fuel + 1, i, R, S, hw, hi, hf, hR, hq => by
    obtain ⟨⟨k, hk, ek⟩, l, hl, el⟩ := hb i (by omega)
    refine w_lp1 <| w_gr 20 rfl <| w_ai m20 rfl ha ?_
    rw [wst_rd hw (by decide) (by decide), h20, show (8 : Int32) * Int32.ofNat a + Int32.ofNat u = Int32.ofNat (8 * a + u) from n_ma 8 a u]
    refine w_n (fun z => ?_) <| w_gr 21 rfl <| w_ai m21 rfl (by omega) ?_
    · have := (n_le (by omega) (by omega)).mp z
      omega
    · rw [wst_rd hw (by decide) (by decide), (hfg i (by omega)).1]
      refine w_wk hw hn h25 (by omega) (y := f i) (by rw [ek]; exact (and255 (by omega)).symm) fun S1 w1 => w_gr 22 rfl <| w_ai m22 rfl (by omega) ?_
      have e1 : (fs_ra R (f i)).2.2.1 = R.2.2.1 + 1 := ra_used _ (by omega)
      rw [wst_rd w1 (by decide) (by decide), (hfg i (by omega)).2]
      refine w_wk w1 hn h25 (by omega) (y := g i) (by rw [el]; exact (and255 (by omega)).symm) fun S2 w2 => w_m ?_
      have e2 : (fs_ra (fs_ra R (f i)) (g i)).2.2.1 = R.2.2.1 + 2 := (ra_used _ (by omega)).trans (by omega)
      rw [ofNat_add1]
      exact w_ann_loop ha hn h25 hu h20 hfg hb m fuel (i + 1) _ S2 w2 (by omega) (by omega) (by omega) hq
  | _, 0, _, _, _, _, _, h, _, _ => absurd h (Nat.not_lt_zero _)
set_option maxRecDepth 100000 in
theorem ran_ok {A : Nat → Nat} {x t n e rv u : Nat} {f g : Nat → Int32} {S : fs_R} {Q : Int32 → fs_R → Prop} (na : Nat) (hx : x < 2) (ht : t < 3) (hn : n < 30) (h25 : S.1 25 = Int32.ofNat n) (he : S.2.1 2 x = Int32.ofNat e) (he5 : e ≤ 255) (h19 : S.2.1 19 (3 * x + t) = Int32.ofNat rv) (hrv : rv ≤ 255) (hrv0 : rv ≠ 0) (hu : u ≤ 8) (h20 : S.2.1 20 (3 * x + t) = Int32.ofNat u) (hfg : ∀ k, k < u → S.2.1 21 (8 * (3 * x + t) + k) = f k ∧ S.2.1 22 (8 * (3 * x + t) + k) = g k) (hb : fs_bl f g u)
    (hq : ∀ S1, fs_wst n (fs_tq f g (fs_ra (fs_ra (fs_ra (fs_rn na (Int32.ofNat x) (Int32.ofNat e) 0) (Int32.ofNat t)) (Int32.ofNat rv)) (Int32.ofNat u)) 0 u) (r_pi_ S 0 0) S1 → Q (Int32.ofNat n) (r_pi_ S1 25 (Int32.ofNat (n + 1)))) :
    fs_W A (fs_cv (A 0) 12 (f_Rf_announce (A 0) (Int32.ofNat x) (Int32.ofNat t))) S Q := by
  refine w_cv <| w_m ?_
  rw [show (3 : Int32) * Int32.ofNat x + Int32.ofNat t = Int32.ofNat (3 * x + t) from n_ma 3 x t]
  refine w_ntk (x2 hx) (Int32.ofNat_not_neg (by omega)) ((n_le (y := 2) (by omega) (by omega)).mpr (by omega)) <| w_l <| w_p rfl <| w_gr 19 rfl <| w_ai m19 rfl (by omega) <| w_l <| w_n ?_ <| w_gi 25 rfl <| w_n ?_ <| w_pi0 <| w_gi 0 rfl <| w_p rfl <| w_head (n := n) (e := e) na hx hn h25 he he5 (by decide) fun S1 w1 => ?_
  · rw [h19]
    exact fun z => hrv0 (n_inj (b := 0) (by omega) (by decide) z)
  · rw [h25]
    exact fun z => by have := n_inj (b := 30) (by omega) (by decide) z; omega
  · refine w_wk w1 hn h25 (show 3 < 64 by decide) (and255 (by omega)).symm fun S2 w2 => w_gr 19 rfl <| w_ai m19 rfl (by omega) ?_
    have e2 : (fs_ra (fs_rn na (Int32.ofNat x) (Int32.ofNat e) 0) (Int32.ofNat t)).2.2.1 = 4 := ra_used _ (show 3 < 64 by decide)
    rw [wst_rd w2 (by decide) (by decide), show (r_pi_ S 0 0).2.1 19 (3 * x + t) = Int32.ofNat rv from h19]
    refine w_wk w2 hn h25 (by omega) (and255 hrv).symm fun S3 w3 => w_gr 20 rfl <| w_ai m20 rfl (by omega) ?_
    have e3 : (fs_ra (fs_ra (fs_rn na (Int32.ofNat x) (Int32.ofNat e) 0) (Int32.ofNat t)) (Int32.ofNat rv)).2.2.1 = 5 := (ra_used _ (by omega)).trans (by omega)
    rw [wst_rd w3 (by decide) (by decide), show (r_pi_ S 0 0).2.1 20 (3 * x + t) = Int32.ofNat u from h20]
    refine w_wk w3 hn h25 (by omega) (and255 (by omega)).symm fun S4 w4 => w_m ?_
    have e4 : (fs_ra (fs_ra (fs_ra (fs_rn na (Int32.ofNat x) (Int32.ofNat e) 0) (Int32.ofNat t)) (Int32.ofNat rv)) (Int32.ofNat u)).2.2.1 = 6 := (ra_used _ (by omega)).trans (by omega)
    show fs_W A (fs_lp1 4096 (lb_Rf_announce_92 (A 0) (Int32.ofNat (3 * x + t))) (8 * Int32.ofNat (3 * x + t))) _ _
    rw [show (8 : Int32) * Int32.ofNat (3 * x + t) = Int32.ofNat (8 * (3 * x + t) + 0) from n_m 8 _]
    exact w_ann_loop (S0 := r_pi_ S 0 0) (by omega) hn h25 hu h20 hfg hb u 4096 0 (fs_ra (fs_ra (fs_ra (fs_rn na (Int32.ofNat x) (Int32.ofNat e) 0) (Int32.ofNat t)) (Int32.ofNat rv)) (Int32.ofNat u)) S4 w4 (by omega) (by omega) (by omega) hq
