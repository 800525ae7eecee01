/-! the report of records, to its end -/
def fs_bsn (f g : Nat → Int32) (u : Nat) : fs_Fs → Nat
  | [] => 0
  | q :: l => fs_bfn f g q.2 0 u + fs_bsn f g u l
def fs_rpp (nn x c w : Nat) (E : fs_Fs) (R : fs_Rp) (S0 : fs_R) (r : Int32) (S1 : fs_R) : Prop := r = Int32.ofNat nn ∧ ∃ S2, fs_wst nn R S0 S2 ∧ S1 = r_pi_ (fs_rpv (r_si_ S2 13 x (Int32.ofNat (E.length - c))) x c (E.length - c) w) 25 (Int32.ofNat (nn + 1))
theorem r_self (S : fs_R) (k : Nat) : S = (S.1, va_up S.2.1 k (S.2.1 k), S.2.2) := by
  refine Prod.ext rfl (Prod.ext (funext fun j => ?_) rfl)
  show S.2.1 j = va_up S.2.1 k (S.2.1 k) j
  unfold va_up
  by_cases h : j = k
  · rw [if_pos h, h]
  · rw [if_neg h]
set_option maxRecDepth 100000 in
theorem w_r175 {A : Nat → Nat} {nn x a u c w : Nat} {f g : Nat → Int32} {E : fs_Fs} {S0 : fs_R} (hn : nn < 30) (h25 : S0.1 25 = Int32.ofNat nn) (hx : x < 2) (ha : a < 6) (hu : u ≤ 8) (hE : E.length ≤ 20) (hc : c ≤ E.length) (hwc : w + c ≤ 100) (h13 : S0.2.1 13 x = Int32.ofNat E.length) (h5 : S0.2.1 5 x = Int32.ofNat w) (hr : ∀ i q, E[i]? = some q → fs_rx x a i u f g q.2 S0) (hb : fs_bl f g u) (hv : ∀ q ∈ E, fs_vn q.2) : ∀ (l : fs_Fs) (fuel i : Nat) (R : fs_Rp) (S : fs_R), fs_wst nn R S0 S → (E.take c).drop i = l → i ≤ c → l.length < fuel → R.2.2.1 + fs_bsn f g u l ≤ 64 →
    fs_W A (fs_lp1 fuel (lb_Rf_report_175 (A 0) (Int32.ofNat x) (Int32.ofNat c) (Int32.ofNat a)) (Int32.ofNat i)) S (fs_rpp nn x c w E (fs_wl f g u R l) S0)
  | [], fuel + 1, i, R, S, hw, h1, h2, _, _ => by
    have hl : (E.take c).length = c := by rw [List.length_take]; omega
    have : (E.take c).length ≤ i := List.drop_eq_nil_iff.mp h1
    have hi : i = c := by omega
    subst hi
    refine w_lp1 <| w_p (Int32.le_refl _) <| w_gr 13 rfl <| w_ai m13 rfl hx ?_
    rw [wst_rd hw (by decide) (by decide), h13, n_s hc]
    refine w_si m13 rfl hx <| w_m ?_
    show fs_W A (fs_lp1 4096 (lb_Rf_report_212 (A 0) (Int32.ofNat x) (Int32.ofNat i)) (168 * Int32.ofNat x)) _ _
    rw [show (168 : Int32) * Int32.ofNat x = Int32.ofNat (168 * x) from n_m 168 x]
    have e25 : (r_si_ S 13 x (Int32.ofNat (E.length - i))).1 25 = Int32.ofNat nn := by
      show S.1 25 = _
      rw [hw.1]
      exact h25
    have e5 : (r_si_ S 13 x (Int32.ofNat (E.length - i))).2.1 5 x = Int32.ofNat w := by
      show S.2.1 5 x = _
      rw [wst_rd hw (by decide) (by decide)]
      exact h5
    have e13 : (r_si_ S 13 x (Int32.ofNat (E.length - i))).2.1 13 x = Int32.ofNat (E.length - i) := up_hit _ _ _
    have es : r_si_ S 13 x (Int32.ofNat (E.length - i)) = ((r_si_ S 13 x (Int32.ofNat (E.length - i))).1, va_up (r_si_ S 13 x (Int32.ofNat (E.length - i))).2.1 14 (fs_shE ((r_si_ S 13 x (Int32.ofNat (E.length - i))).2.1 14) x i (168 * x)), (r_si_ S 13 x (Int32.ofNat (E.length - i))).2.2) := by
      rw [shE_0]
      exact r_self _ 14
    have hgo := w_shE (A := A) (S := r_si_ S 13 x (Int32.ofNat (E.length - i))) hx (by omega) hwc e13 e5 e25 hn (8 * (E.length - i)) 4096 (168 * x) rfl (by omega) (Nat.le_refl _)
    rw [← es] at hgo
    exact w_mono hgo fun r S1 ⟨g1, g2⟩ => ⟨g1, S, hw, g2⟩
  | q :: l, fuel + 1, i, R, S, hw, h1, h2, hf, hR => by
    have hl : (E.take c).length = c := by rw [List.length_take]; omega
    have hi : i < c := by
      have := congrArg List.length h1
      rw [List.length_drop, List.length_cons, hl] at this
      omega
    have hq : E[i]? = some q := by
      have := congrArg (fun z : fs_Fs => z[0]?) h1
      simp only [List.getElem?_drop, Nat.add_zero, List.getElem?_cons_zero] at this
      rw [List.getElem?_take_of_lt hi] at this
      exact this
    have hd : (E.take c).drop (i + 1) = l := by
      have := congrArg List.tail h1
      simpa using this
    have eb : fs_bsn f g u (q :: l) = fs_bfn f g q.2 0 u + fs_bsn f g u l := rfl
    rw [eb] at hR
    have hlw := lw_used (f := f) (g := g) (v := q.2) u 0 R (by omega)
    refine w_lp1 <| w_n (fun z => ?_) <| w_wrk hw hn h25 hx ha (by omega) hu (hr i q hq) hb (hv q (List.mem_of_getElem? hq)) (by omega) fun S1 w1 => w_m ?_
    · have := (n_le (by omega) (by omega)).mp z
      omega
    · rw [ofNat_add1]
      exact w_r175 hn h25 hx ha hu hE hc hwc h13 h5 hr hb hv l fuel (i + 1) _ S1 w1 hd (by omega) (by simp at hf; omega) (by rw [hlw]; omega)
  | _, 0, _, _, _, _, _, _, h, _ => absurd h (Nat.not_lt_zero _)
/-- what is left to do once it is known how many records fit -/
def rp_tail (a0 : Nat) (x1 v10 v13 : Int32) : fs_T Int32 :=
  fs_bind (fs_cv a0 12 (f_Rf_write a0 v13)) fun _ =>
  fs_bind (fs_gr a0 12 5) fun r23 =>
  fs_bind (fs_ai r23 x1) fun v24 =>
  fs_bind (fs_cv a0 12 (f_Rf_write a0 v24)) fun _ =>
  fs_lp1 4096 (lb_Rf_report_175 a0 x1 v13 v10) 0
theorem ft_sum {f g : Nat → Int32} {u : Nat} (hu : u ≤ 8) (hb : fs_bl f g u) : ∀ (l : fs_Fs) (i t : Nat), t ≤ 64 → ∃ c, fs_ft f g u l i (Int32.ofNat t) = i + c ∧ c ≤ l.length ∧ t + fs_bsn f g u (l.take c) ≤ 64
  | [], i, t, h => ⟨0, rfl, Nat.le_refl _, h⟩
  | q :: l, i, t, h => by
    have e : fs_ft f g u (q :: l) i (Int32.ofNat t) = if Int32.ofNat t + fs_bf f g q.2 0 u 0 ≤ 64 then fs_ft f g u l (i + 1) (Int32.ofNat t + fs_bf f g q.2 0 u 0) else i := rfl
    obtain ⟨b1, b2⟩ := bf_n (v := q.2) hb u 0 0 (by omega)
    have b3 : fs_bf f g q.2 0 u 0 = Int32.ofNat (fs_bfn f g q.2 0 u) := by
      have : (0 : Nat) + fs_bfn f g q.2 0 u = fs_bfn f g q.2 0 u := Nat.zero_add _
      rw [this] at b1
      exact b1
    rw [e, b3, n_a]
    by_cases hc : t + fs_bfn f g q.2 0 u ≤ 64
    · rw [if_pos (show Int32.ofNat (t + fs_bfn f g q.2 0 u) ≤ 64 from (n_le (y := 64) (by omega) (by omega)).mpr hc)]
      obtain ⟨c, c1, c2, c3⟩ := ft_sum hu hb l (i + 1) (t + fs_bfn f g q.2 0 u) hc
      refine ⟨c + 1, by rw [c1]; omega, by rw [List.length_cons]; omega, ?_⟩
      show t + (fs_bfn f g q.2 0 u + fs_bsn f g u (l.take c)) ≤ 64
      omega
    · rw [if_neg (show ¬ Int32.ofNat (t + fs_bfn f g q.2 0 u) ≤ 64 from fun z => hc ((n_le (y := 64) (by omega) (by omega)).mp z))]
      exact ⟨0, rfl, Nat.zero_le _, h⟩
set_option maxRecDepth 100000 in
theorem w_many {A : Nat → Nat} {x a u w : Nat} {f g : Nat → Int32} {E : fs_Fs} {S : fs_R} {Q : Int32 → fs_R → Prop} (hx : x < 2) (ha : a < 6) (hu : u ≤ 8) (hE : E.length ≤ 20) (hw : w ≤ 100) (h13 : S.2.1 13 x = Int32.ofNat E.length) (h5 : S.2.1 5 x = Int32.ofNat w) (hr : ∀ i q, E[i]? = some q → fs_rx x a i u f g q.2 S) (hb : fs_bl f g u) (hv : ∀ q ∈ E, fs_vn q.2) : ∀ (l : fs_Fs) (fuel i t : Nat), (E.take (min E.length (100 - w))).drop i = l → i ≤ min E.length (100 - w) → l.length < fuel → t ≤ 64 → fs_W A (rp_tail (A 0) (Int32.ofNat x) (Int32.ofNat a) (Int32.ofNat (fs_ft f g u l i (Int32.ofNat t)))) S Q →
    fs_W A (fs_lp2 fuel (lb_Rf_report_104 (A 0) (Int32.ofNat x) (Int32.ofNat a)) (Int32.ofNat i) (Int32.ofNat (64 - t))) S Q
  | [], fuel + 1, i, t, h1, h2, _, ht, hk => by
    have hl : (E.take (min E.length (100 - w))).length = min E.length (100 - w) := by rw [List.length_take]; omega
    have hle : (E.take (min E.length (100 - w))).length ≤ i := List.drop_eq_nil_iff.mp h1
    have hk2 : fs_W A (rp_tail (A 0) (Int32.ofNat x) (Int32.ofNat a) (Int32.ofNat i)) S Q := hk
    refine w_lp2 <| w_gr 13 rfl <| w_ai m13 rfl hx ?_
    rw [h13]
    refine w_l ?_
    by_cases hEi : E.length ≤ i
    · exact w_p ((n_le (by omega) (by omega)).mpr hEi) hk2
    · refine w_n (fun z => hEi ((n_le (by omega) (by omega)).mp z)) <| w_gr 5 rfl <| w_ai m5 rfl hx ?_
      rw [h5, n_a]
      exact w_p ((n_le (x := 100) (by omega) (by omega)).mpr (by omega)) hk2
  | q :: l, fuel + 1, i, t, h1, h2, hf, ht, hk => by
    have hl : (E.take (min E.length (100 - w))).length = min E.length (100 - w) := by rw [List.length_take]; omega
    have hi : i < min E.length (100 - w) := by
      have := congrArg List.length h1
      rw [List.length_drop, List.length_cons, hl] at this
      omega
    have hq : E[i]? = some q := by
      have := congrArg (fun z : fs_Fs => z[0]?) h1
      simp only [List.getElem?_drop, Nat.add_zero, List.getElem?_cons_zero] at this
      rw [List.getElem?_take_of_lt hi] at this
      exact this
    have hd : (E.take (min E.length (100 - w))).drop (i + 1) = l := by
      have := congrArg List.tail h1
      simpa using this
    have e : fs_ft f g u (q :: l) i (Int32.ofNat t) = if Int32.ofNat t + fs_bf f g q.2 0 u 0 ≤ 64 then fs_ft f g u l (i + 1) (Int32.ofNat t + fs_bf f g q.2 0 u 0) else i := rfl
    obtain ⟨b1, b2⟩ := bf_n (v := q.2) hb u 0 0 (by omega)
    have b3 : fs_bf f g q.2 0 u 0 = Int32.ofNat (fs_bfn f g q.2 0 u) := by
      have : (0 : Nat) + fs_bfn f g q.2 0 u = fs_bfn f g q.2 0 u := Nat.zero_add _
      rw [this] at b1
      exact b1
    rw [e, b3, n_a] at hk
    have hrx := hr i q hq
    have hvq := hv q (List.mem_of_getElem? hq)
    refine w_lp2 <| w_gr 13 rfl <| w_ai m13 rfl hx ?_
    rw [h13]
    refine w_l <| w_n (fun z => ?_) <| w_gr 5 rfl <| w_ai m5 rfl hx ?_
    · have := (n_le (by omega) (by omega)).mp z
      omega
    · rw [h5, n_a]
      refine w_n (fun z => ?_) <| w_recordk hx ha (by omega) hu hrx hb hvq ?_
      · have := (n_le (x := 100) (by omega) (by omega)).mp z
        omega
      · rw [b3]
        by_cases hc : t + fs_bfn f g q.2 0 u ≤ 64
        · rw [if_pos (show Int32.ofNat (t + fs_bfn f g q.2 0 u) ≤ 64 from (n_le (y := 64) (by omega) (by omega)).mpr hc)] at hk
          refine w_n (fun z => ?_) <| w_recordk hx ha (by omega) hu hrx hb hvq <| w_m <| w_m ?_
          · have := (n_lt (by omega) (by omega)).mp z
            omega
          · rw [b3, ofNat_add1, n_s (by omega), show 64 - t - fs_bfn f g q.2 0 u = 64 - (t + fs_bfn f g q.2 0 u) by omega]
            exact w_many hx ha hu hE hw h13 h5 hr hb hv l fuel (i + 1) (t + fs_bfn f g q.2 0 u) hd (by omega) (by simp at hf; omega) hc hk
        · rw [if_neg (show ¬ Int32.ofNat (t + fs_bfn f g q.2 0 u) ≤ 64 from fun z => hc ((n_le (y := 64) (by omega) (by omega)).mp z))] at hk
          exact w_p ((n_lt (by omega) (by omega)).mpr (by omega)) hk
  | _, 0, _, _, _, _, h, _, _ => absurd h (Nat.not_lt_zero _)
