/-! fields taken, in the reference -/
theorem j_shl8 {n : Nat} (h : n < 2 ^ 32) : fs_lshl (Int64.ofNat n) 8 = Int64.ofNat (256 * n) := by
  unfold fs_lshl
  have e1 : (Int32.toInt64 8 &&& 63 : Int64) = 8 := by decide
  rw [e1]
  apply Int64.toBitVec_inj.mp
  rw [Int64.toBitVec_shiftLeft, Int64.toBitVec_ofNat', Int64.toBitVec_ofNat', show (Int64.toBitVec 8).smod 64 = BitVec.ofNat 64 8 by decide]
  apply BitVec.eq_of_toNat_eq
  rw [BitVec.shiftLeft_eq', BitVec.toNat_shiftLeft, BitVec.toNat_ofNat, BitVec.toNat_ofNat, BitVec.toNat_ofNat, Nat.shiftLeft_eq, show 8 % 2 ^ 64 = 8 by decide, Nat.mod_eq_of_lt (show n < 2 ^ 64 by omega)]
  omega
theorem j_or {n b : Nat} (hb : b ≤ 255) : Int64.ofNat (256 * n) ||| Int64.ofNat b = Int64.ofNat (256 * n + b) := by
  apply Int64.toBitVec_inj.mp
  have h3 := Nat.two_pow_add_eq_or_of_lt (i := 8) (b := b) (by omega) n
  rw [Int64.toBitVec_or, Int64.toBitVec_ofNat', Int64.toBitVec_ofNat', Int64.toBitVec_ofNat', ← BitVec.ofNat_or, show 256 * n = 2 ^ 8 * n by omega, ← h3]
theorem j_32 {b : Nat} (hb : b < 2 ^ 31) : (Int32.ofNat b).toInt64 = Int64.ofNat b := by
  apply Int64.toInt_inj.mp
  rw [Int32.toInt_toInt64, Int32.toInt_ofNat_of_lt hb, Int64.toInt_ofNat_of_lt (by omega)]
theorem j_256 (n b : Nat) : (256 : Int64) * Int64.ofNat n + Int64.ofNat b = Int64.ofNat (256 * n + b) := by
  rw [Int64.ofNat_add, Int64.ofNat_mul]
  rfl
theorem j_nn {n : Nat} (h : n < 2 ^ 62) : 0 ≤ lg_cmp (Int64.ofNat n) 0 := by
  rw [lg_ge, Int64.le_iff_toInt_le, Int64.toInt_ofNat_of_lt (by omega)]
  show (0 : Int) ≤ _
  omega
/-- the bytes from p on as one number -/
def fs_num (f : Nat → Int32) : Nat → Nat → Nat → Nat
  | 0, _, n => n
  | m + 1, p, n => fs_num f m (p + 1) (256 * n + (f p).toNatClampNeg)
theorem num_lt {f : Nat → Int32} (hf : fs_by f) : ∀ (m p n k : Nat), n < 256 ^ k → fs_num f m p n < 256 ^ (k + m)
  | 0, _, _, _, h => h
  | m + 1, p, n, k, h => by
    have := (by_ge hf p).2
    have h2 := num_lt hf m (p + 1) (256 * n + (f p).toNatClampNeg) (k + 1) (by rw [Nat.pow_succ]; omega)
    rw [show k + (m + 1) = k + 1 + m by omega]
    exact h2
theorem tl_ok {u : Nat} {f : Nat → Int32} (hf : fs_by f) : ∀ (m p n k : Nat), p + m ≤ u → n < 256 ^ k → k + m ≤ 4 → fs_tl u f m (Int64.ofNat n) (p, 0) = (Int64.ofNat (fs_num f m p n), p + m, 0)
  | 0, _, _, _, _, _, _ => rfl
  | m + 1, p, n, k, h, hn, hk => by
    obtain ⟨a, b⟩ := by_ge hf p
    have eb : fs_tb u f (p, 0) = (f p, p + 1, 0) := if_pos (by show p < u; omega)
    have hn4 : n < 2 ^ 32 := by
      have : 256 ^ k ≤ 256 ^ 4 := Nat.pow_le_pow_right (by decide) (by omega)
      have h4 : 256 ^ 4 = 2 ^ 32 := by decide
      omega
    show fs_tl u f m (fs_lshl (Int64.ofNat n) 8 ||| (fs_tb u f (p, 0)).1.toInt64) (fs_tb u f (p, 0)).2 = _
    rw [eb]
    have ev : fs_lshl (Int64.ofNat n) 8 ||| (f p).toInt64 = Int64.ofNat (256 * n + (f p).toNatClampNeg) := by
      rw [j_shl8 hn4]
      conv => lhs; rw [a]
      rw [j_32 (by omega), j_or b]
    show fs_tl u f m (fs_lshl (Int64.ofNat n) 8 ||| (f p).toInt64) (p + 1, 0) = _
    rw [ev, tl_ok hf m (p + 1) (256 * n + (f p).toNatClampNeg) (k + 1) (by omega) (by rw [Nat.pow_succ]; omega) (by omega)]
    show _ = (Int64.ofNat (fs_num f m (p + 1) (256 * n + (f p).toNatClampNeg)), p + (m + 1), 0)
    rw [show p + 1 + m = p + (m + 1) by omega]
theorem tb_st {u : Nat} {f : Nat → Int32} {c : fs_Cu} (h : c.2 = 1) : (fs_tb u f c).2.2 = 1 := by
  unfold fs_tb
  split
  · exact h
  · rfl
theorem tl_st {u : Nat} {f : Nat → Int32} : ∀ (m : Nat) (v : Int64) (c : fs_Cu), c.2 = 1 → (fs_tl u f m v c).2.2 = 1
  | 0, _, _, h => h
  | m + 1, v, c, h => tl_st m _ _ (tb_st h)
theorem tl_bad {u : Nat} {f : Nat → Int32} : ∀ (m : Nat) (v : Int64) (p : Nat), p ≤ u → u < p + m → (fs_tl u f m v (p, 0)).2.2 = 1
  | 0, _, _, h1, h2 => by omega
  | m + 1, v, p, h1, h2 => by
    show (fs_tl u f m _ (fs_tb u f (p, 0)).2).2.2 = 1
    by_cases hp : p < u
    · have eb : fs_tb u f (p, 0) = (f p, p + 1, 0) := if_pos hp
      rw [eb]
      exact tl_bad m _ (p + 1) (by omega) (by omega)
    · have eb : fs_tb u f (p, 0) = (0, p, 1) := if_neg hp
      rw [eb]
      exact tl_st m _ _ rfl
theorem tf_st {u : Nat} {f : Nat → Int32} {x : Int32} {c : fs_Cu} (h : c.2 = 1) : (fs_tf u f x c).2.2 = 1 := by
  unfold fs_tf
  split
  · split
    · rfl
    · split
      · exact tl_st _ _ _ (tb_st h)
      · rfl
  · exact tl_st _ _ _ h
theorem w_take_loop {A : Nat → Nat} {u n : Nat} {f : Nat → Int32} {S : fs_R} (hb : fs_buf u f S) (hu : u ≤ 64) (hf : fs_by f) : ∀ (m fuel p i v k : Nat), i + m = n → m < fuel → p + m ≤ u → v < 256 ^ k → k + m ≤ 4 → n ≤ 4 →
    fs_W A (fs_lp2 fuel (lb_Rf_take_73 (A 0) (Int32.ofNat n)) (Int64.ofNat v) (Int32.ofNat i)) (r_pi_ S 47 (Int32.ofNat p)) fun r S1 => r = Int64.ofNat (fs_num f m p v) ∧ S1 = r_pi_ S 47 (Int32.ofNat (p + m))
  | 0, fuel + 1, p, i, v, k, hi, _, _, _, _, _ => w_lp2 <| w_p ((n_le (by omega) (by omega)).mpr (by omega)) <| w_ret ⟨rfl, rfl⟩
  | m + 1, fuel + 1, p, i, v, k, hi, hf2, hp, hv, hk, hn => by
    obtain ⟨a, b⟩ := by_ge hf p
    have e47 : (r_pi_ S 47 (Int32.ofNat p)).1 47 = Int32.ofNat p := up_hit S.1 47 _
    refine w_lp2 <| w_n (fun z => ?_) <| w_gr 46 rfl <| w_gi 47 rfl <| w_ai m46 e47 (by omega) <| w_m <| w_gi 47 rfl ?_
    · have := (n_le (by omega) (by omega)).mp z
      omega
    · rw [e47, ofNat_add1]
      refine w_pi 47 rfl (by decide) <| w_m ?_
      rw [pi_pi, ofNat_add1]
      have ev : (256 : Int64) * Int64.ofNat v + ((r_pi_ S 47 (Int32.ofNat p)).2.1 46 p).toInt64 = Int64.ofNat (256 * v + (f p).toNatClampNeg) := by
        rw [show (r_pi_ S 47 (Int32.ofNat p)).2.1 46 p = f p from hb.2 p (by omega)]
        conv => lhs; rw [a]
        rw [j_32 (by omega), j_256]
      rw [ev]
      refine w_mono (w_take_loop hb hu hf m fuel (p + 1) (i + 1) (256 * v + (f p).toNatClampNeg) (k + 1) (by omega) (by omega) (by omega) (by rw [Nat.pow_succ]; omega) (by omega) hn) fun r S1 ⟨g1, g2⟩ => ⟨g1, ?_⟩
      rw [g2, show p + 1 + m = p + (m + 1) by omega]
  | _, 0, _, _, _, _, _, h, _, _, _, _ => absurd h (Nat.not_lt_zero _)
set_option maxRecDepth 100000 in
theorem w_takek {β : Type} {A : Nat → Nat} {u p l : Nat} {f : Nat → Int32} {x : Int32} {S : fs_R} {K : Int64 → fs_T β} {Q : β → fs_R → Prop} (hb : fs_buf u f S) (hu : u ≤ 64) (hf : fs_by f) (hp : p ≤ u) (hx : x = Int32.ofNat l) (hl : l ≤ 4) (hok : ∀ n p1, n < 2 ^ 32 → p1 ≤ u → fs_tf u f x (p, 0) = (Int64.ofNat n, p1, 0) → fs_W A (K (Int64.ofNat n)) (r_pi_ S 47 (Int32.ofNat p1)) Q) (hbad : ∀ y, (fs_tf u f x (p, 0)).2.2 = 1 → fs_W A (K (-1)) (r_pi_ S 47 y) Q) : fs_W A (fs_bind (fs_cv (A 0) 12 (f_Rf_take (A 0) x)) K) (r_pi_ S 47 (Int32.ofNat p)) Q := by
  have e45 : ∀ y, (r_pi_ S 47 y).1 45 = Int32.ofNat u := fun y => hb.1
  have e47 : ∀ y, (r_pi_ S 47 y).1 47 = y := fun y => up_hit S.1 47 _
  by_cases h0 : x = 0
  · have etf : fs_tf u f x (p, 0) = if (fs_tb u f (p, 0)).1 < 1 then (0, (fs_tb u f (p, 0)).2.1, 1) else if (fs_tb u f (p, 0)).1 ≤ 4 then fs_tl u f (fs_tb u f (p, 0)).1.toNatClampNeg 0 (fs_tb u f (p, 0)).2 else (0, (fs_tb u f (p, 0)).2.1, 1) := if_pos h0
    refine w_b (P := fun r S1 => (∃ n p1, n < 2 ^ 32 ∧ p1 ≤ u ∧ fs_tf u f x (p, 0) = (Int64.ofNat n, p1, 0) ∧ r = Int64.ofNat n ∧ S1 = r_pi_ S 47 (Int32.ofNat p1)) ∨ (∃ y, (fs_tf u f x (p, 0)).2.2 = 1 ∧ r = -1 ∧ S1 = r_pi_ S 47 y)) (w_cv <| w_l <| w_p h0 <| w_gi 47 rfl <| w_gi 45 rfl ?_) fun r S1 h => by
      rcases h with ⟨n, p1, a, b, c, rfl, rfl⟩ | ⟨y, a, rfl, rfl⟩
      · exact hok n p1 a b c
      · exact hbad y a
    rw [e47, e45]
    by_cases hpu : p < u
    · have eb : fs_tb u f (p, 0) = (f p, p + 1, 0) := if_pos hpu
      rw [eb] at etf
      dsimp only at etf
      obtain ⟨a, b⟩ := by_ge hf p
      refine w_p ((n_lt (by omega) (by omega)).mpr hpu) <| w_gr 46 rfl <| w_gi 47 rfl <| w_ai m46 (e47 _) (by omega) <| w_gi 47 rfl ?_
      rw [e47, ofNat_add1]
      refine w_pi 47 rfl (by decide) ?_
      rw [pi_pi, show (r_pi_ S 47 (Int32.ofNat p)).2.1 46 p = f p from hb.2 p (by omega)]
      refine w_l ?_
      by_cases h1 : f p < 1
      · refine w_p h1 <| w_ret (Or.inr ⟨Int32.ofNat (p + 1), ?_, rfl, rfl⟩)
        rw [etf, if_pos h1]
      · refine w_n h1 ?_
        by_cases h4 : 4 < f p
        · refine w_p h4 <| w_ret (Or.inr ⟨Int32.ofNat (p + 1), ?_, rfl, rfl⟩)
          rw [etf, if_neg h1, if_neg (Int32.not_le.mpr h4)]
        · have h4' : f p ≤ 4 := Int32.not_lt.mp h4
          have hn4 : (f p).toNatClampNeg ≤ 4 := i_le (n := 4) h4' (by decide)
          rw [if_neg h1, if_pos h4'] at etf
          refine w_n h4 <| w_gi 47 rfl <| w_gi 45 rfl ?_
          rw [e47, e45]
          have ea : Int32.ofNat (p + 1) + f p = Int32.ofNat (p + 1 + (f p).toNatClampNeg) := by
            conv => lhs; rw [a]
            exact n_a _ _
          rw [ea]
          by_cases hfit : p + 1 + (f p).toNatClampNeg ≤ u
          · have etl := tl_ok hf (f p).toNatClampNeg (p + 1) 0 0 hfit (by decide) (by omega)
            have hlt := num_lt hf (f p).toNatClampNeg (p + 1) 0 0 (by decide)
            have hpw : 256 ^ (0 + (f p).toNatClampNeg) ≤ 256 ^ 4 := Nat.pow_le_pow_right (by decide) (by omega)
            have h4e : 256 ^ 4 = 2 ^ 32 := by decide
            refine w_p ((n_le (by omega) (by omega)).mpr hfit) ?_
            have hgo := w_take_loop (A := A) (n := (f p).toNatClampNeg) hb hu hf (f p).toNatClampNeg 4096 (p + 1) 0 0 0 (by omega) (by omega) hfit (by decide) (by omega) hn4
            rw [← a] at hgo
            refine w_mono hgo fun r S1 ⟨g1, g2⟩ => Or.inl ⟨_, _, by omega, hfit, etf.trans etl, g1, g2⟩
          · refine w_n (fun z => hfit ((n_le (by omega) (by omega)).mp z)) <| w_ret (Or.inr ⟨Int32.ofNat (p + 1), ?_, rfl, rfl⟩)
            rw [etf]
            exact tl_bad _ _ _ (by omega) (by omega)
    · have eb : fs_tb u f (p, 0) = (0, p, 1) := if_neg hpu
      rw [eb] at etf
      refine w_n (fun z => hpu ((n_lt (by omega) (by omega)).mp z)) <| w_ret (Or.inr ⟨Int32.ofNat p, ?_, rfl, rfl⟩)
      rw [etf, if_pos (show (0 : Int32) < 1 by decide)]
  · have etf : fs_tf u f x (p, 0) = fs_tl u f x.toNatClampNeg 0 (p, 0) := if_neg h0
    have hxl : x.toNatClampNeg = l := by rw [hx]; exact Int32.toNatClampNeg_ofNat_of_lt (by omega)
    rw [hxl] at etf
    have hl0 : l ≠ 0 := fun z => h0 (by rw [hx, z]; rfl)
    refine w_b (P := fun r S1 => (∃ n p1, n < 2 ^ 32 ∧ p1 ≤ u ∧ fs_tf u f x (p, 0) = (Int64.ofNat n, p1, 0) ∧ r = Int64.ofNat n ∧ S1 = r_pi_ S 47 (Int32.ofNat p1)) ∨ (∃ y, (fs_tf u f x (p, 0)).2.2 = 1 ∧ r = -1 ∧ S1 = r_pi_ S 47 y)) (w_cv <| w_l <| w_n h0 <| w_l ?_) fun r S1 h => by
      rcases h with ⟨n, p1, a, b, c, rfl, rfl⟩ | ⟨y, a, rfl, rfl⟩
      · exact hok n p1 a b c
      · exact hbad y a
    rw [etf, hx]
    refine w_n (fun z => ?_) <| w_n (fun z => ?_) <| w_gi 47 rfl <| w_gi 45 rfl ?_
    · have := (n_lt (y := 1) (by omega) (by decide)).mp z
      omega
    · have := (n_lt (x := 4) (by decide) (by omega)).mp z
      omega
    · rw [e47, e45, n_a]
      by_cases hfit : p + l ≤ u
      · have etl := tl_ok hf l p 0 0 hfit (by decide) (by omega)
        have hlt := num_lt hf l p 0 0 (by decide)
        have hpw : 256 ^ (0 + l) ≤ 256 ^ 4 := Nat.pow_le_pow_right (by decide) (by omega)
        have h4e : 256 ^ 4 = 2 ^ 32 := by decide
        exact w_p ((n_le (by omega) (by omega)).mpr hfit) <| w_mono (w_take_loop (A := A) (n := l) hb hu hf l 4096 p 0 0 0 (by omega) (by omega) hfit (by decide) (by omega) hl) fun r S1 ⟨g1, g2⟩ => Or.inl ⟨_, _, by omega, hfit, etl, g1, g2⟩
      · exact w_n (fun z => hfit ((n_le (by omega) (by omega)).mp z)) <| w_ret (Or.inr ⟨Int32.ofNat p, tl_bad _ _ _ hp (by omega), rfl, rfl⟩)
