/-! records heard, in the reference -/
theorem w_247 {A : Nat → Nat} {a n : Nat} {v37 : Int32} {S : fs_R} (ha : a + n ≤ 1200) : ∀ (m fuel p : Nat) (H : Nat → Int32), p + m = a + n → m < fuel →
    fs_W A (fs_lp1 fuel (lb_Rf_hearRecords_247 (A 0) (Int32.ofNat a) (Int32.ofNat n) v37) (Int32.ofNat p)) (S.1, va_up S.2.1 36 H, S.2.2) fun r S1 => r = v37 ∧ S1 = (S.1, va_up S.2.1 36 (fs_mh m p H), S.2.2)
  | 0, fuel + 1, p, H, hp, _ => by
    refine w_lp1 <| w_p ?_ <| w_ret ⟨rfl, rfl⟩
    rw [n_a, n_le (by omega) (by omega)]
    omega
  | m + 1, fuel + 1, p, H, hp, hf => by
    refine w_lp1 <| w_n (fun z => ?_) <| w_gr 36 rfl <| w_sz m36 (Or.inr rfl) rfl (by omega) <| w_m ?_
    · rw [n_a] at z
      have := (n_le (by omega) (by omega)).mp z
      omega
    · rw [ofNat_add1]
      have e : r_si_ (S.1, va_up S.2.1 36 H, S.2.2) 36 p 1 = (S.1, va_up S.2.1 36 (upd H p 1), S.2.2) := by
        refine Prod.ext rfl (Prod.ext (funext fun k => ?_) rfl)
        by_cases h : k = 36
        · subst h; rfl
        · simp [r_si_, va_up, h]
      rw [e]
      exact w_247 ha m fuel (p + 1) (upd H p 1) (by omega) (by omega)
  | _, 0, _, _, _, h => absurd h (Nat.not_lt_zero _)
def fs_c35 (h f : Nat → Int32) (b p : Nat) : Nat → Int32 := fun i => if b ≤ i ∧ i < b + p then f (i - b) else h i
theorem c35_s (h f : Nat → Int32) (b p : Nat) : upd (fs_c35 h f b p) (b + p) (f p) = fs_c35 h f b (p + 1) := funext fun i => by
  unfold upd fs_c35
  by_cases hi : i = b + p
  · rw [if_pos hi, if_pos (by omega), show i - b = p by omega]
  · rw [if_neg hi]
    by_cases h2 : b ≤ i ∧ i < b + p
    · rw [if_pos h2, if_pos (by omega)]
    · rw [if_neg h2, if_neg (by omega)]
theorem w_197 {A : Nat → Nat} {u c : Nat} {f : Nat → Int32} {j244 : Int32 → fs_T Int32} {S : fs_R} {Q : Int32 → fs_R → Prop} (hb : fs_buf u f S) (hu : u ≤ 64) (h33 : S.1 33 = Int32.ofNat c) (hc : c < 6) (hq : fs_W A (j244 0) (r_pi_ (S.1, va_up S.2.1 35 (fs_c35 (S.2.1 35) f (64 * c) u), S.2.2) 33 (Int32.ofNat (c + 1))) Q) : ∀ (m fuel p : Nat), p + m = u → m < fuel →
    fs_W A (fs_lp1 fuel (lb_Rf_hearRecords_197 (A 0) j244) (Int32.ofNat p)) (S.1, va_up S.2.1 35 (fs_c35 (S.2.1 35) f (64 * c) p), S.2.2) Q
  | 0, fuel + 1, p, hp, _ => by
    have hpu : p = u := by omega
    subst hpu
    refine w_lp1 <| w_gi 45 rfl ?_
    rw [show (S.1, va_up S.2.1 35 (fs_c35 (S.2.1 35) f (64 * c) p), S.2.2).1 45 = Int32.ofNat p from hb.1]
    refine w_p (Int32.le_refl _) <| w_gi 33 rfl ?_
    rw [show (S.1, va_up S.2.1 35 (fs_c35 (S.2.1 35) f (64 * c) p), S.2.2).1 33 = Int32.ofNat c from h33, ofNat_add1]
    exact w_pi 33 rfl (by decide) hq
  | m + 1, fuel + 1, p, hp, hf => by
    refine w_lp1 <| w_gi 45 rfl ?_
    rw [show (S.1, va_up S.2.1 35 (fs_c35 (S.2.1 35) f (64 * c) p), S.2.2).1 45 = Int32.ofNat u from hb.1]
    refine w_n (fun z => ?_) <| w_gr 35 rfl <| w_gi 33 rfl <| w_gr 46 rfl <| w_ai m46 rfl (by omega) ?_
    · have := (n_le (by omega) (by omega)).mp z
      omega
    · rw [show (S.1, va_up S.2.1 35 (fs_c35 (S.2.1 35) f (64 * c) p), S.2.2).1 33 = Int32.ofNat c from h33, show (S.1, va_up S.2.1 35 (fs_c35 (S.2.1 35) f (64 * c) p), S.2.2).2.1 46 p = f p from hb.2 p (by omega)]
      refine w_si m35 (n_ma 64 c p) (by omega) <| w_m ?_
      rw [ofNat_add1]
      have e : r_si_ (S.1, va_up S.2.1 35 (fs_c35 (S.2.1 35) f (64 * c) p), S.2.2) 35 (64 * c + p) (f p) = (S.1, va_up S.2.1 35 (fs_c35 (S.2.1 35) f (64 * c) (p + 1)), S.2.2) := by
        refine Prod.ext rfl (Prod.ext (funext fun k => ?_) rfl)
        by_cases h : k = 35
        · subst h; exact c35_s (S.2.1 35) f (64 * c) p
        · simp [r_si_, va_up, h]
      rw [e]
      exact w_197 hb hu h33 hc hq m fuel (p + 1) (by omega) (by omega)
  | _, 0, _, _, h => absurd h (Nat.not_lt_zero _)
/-- what is left once it is known that none of the places was heard -/
def hr_mark (a0 : Nat) (v7 v15 v37 : Int32) : fs_T Int32 := fs_lp1 4096 (lb_Rf_hearRecords_247 a0 v7 v15 v37) v7
def hr_put (a0 : Nat) (v7 v15 : Int32) : fs_T Int32 :=
  fs_bind (fs_gr a0 12 34) fun r21 =>
  fs_bind (fs_gi a0 12 33) fun v22 =>
  fs_bind (fs_gi a0 12 45) fun v23 =>
  fs_bind (fs_si r21 v22 v23) fun _ =>
  fs_lp1 4096 (lb_Rf_hearRecords_197 a0 (fun v37 => hr_mark a0 v7 v15 v37)) 0
def hr_tail (a0 : Nat) (v7 : Int32) : fs_T Int32 :=
  fs_bind (fs_cv a0 12 (f_Rf_nameOf a0)) fun v12 =>
  fs_bind (fs_cv a0 12 (f_Rf_find a0 v12)) fun v13 =>
  fs_bind (fs_gr a0 12 46) fun r14 =>
  fs_bind (fs_ai r14 5) fun v15 =>
  if v13 < 0 then (
    fs_bind (fs_gi a0 12 33) fun v16 =>
    if v16 = 5 then (
      fs_bind (fs_gr a0 12 40) fun r17 =>
      fs_bind (fs_gr a0 12 35) fun r18 =>
      fs_bind (fs_ai r18 0) fun v19 =>
      fs_bind (fs_ai r17 v19) fun v20 =>
      fs_bind (fs_si r17 v19 (v20 + 1)) fun _ =>
      fs_bind (fs_cv a0 12 (f_Rf_unshelve a0 0)) fun _ =>
      hr_put a0 v7 v15) else
    hr_put a0 v7 v15) else
  fs_bind (fs_cv a0 12 (f_Rf_read a0 v13 0)) fun v32 =>
  fs_let (fun (v34 : Int32) =>
    fs_bind (fs_pi a0 12 0 v34) fun _ =>
    fs_bind (fs_gi a0 12 0) fun v35 =>
    if v35 = 0 then (
      fs_bind (fs_cv a0 12 (f_Rf_makeRows a0 v13)) fun v36 =>
      hr_mark a0 v7 v15 v36) else
    fs_ret 0) fun j131 =>
  if v32 = 0 then (
    j131 2) else
  fs_bind (fs_gi a0 12 37) fun v33 =>
  if (v33 + v15) ≤ 80 then (
    j131 0) else
  j131 3
theorem w_33 {A : Nat → Nat} {u a n : Nat} {f : Nat → Int32} {S : fs_R} {Q : Int32 → fs_R → Prop} (hb : fs_buf u f S) (hu6 : 6 ≤ u) (h5 : f 5 = Int32.ofNat n) (ha : a + n ≤ 1200) (hold : ¬ fs_ho (S.2.1 36) n a = 0 → Q 0 S) (hnew : fs_ho (S.2.1 36) n a = 0 → fs_W A (hr_tail (A 0) (Int32.ofNat a)) S Q) : ∀ (m fuel p : Nat) (b : Int32), p + m = a + n → m < fuel → (b = 0 ∧ fs_ho (S.2.1 36) n a = fs_ho (S.2.1 36) m p ∨ b = 1 ∧ ¬ fs_ho (S.2.1 36) n a = 0) →
    fs_W A (fs_lp2 fuel (lb_Rf_hearRecords_33 (A 0) (Int32.ofNat a)) b (Int32.ofNat p)) S Q
  | 0, fuel + 1, p, b, hp, _, hbb => by
    refine w_lp2 <| w_gr 46 rfl <| w_ai (j := 5) m46 rfl (by decide) ?_
    rw [hb.2 5 (by omega), h5]
    refine w_p (by rw [n_a, n_le (by omega) (by omega)]; omega) ?_
    rcases hbb with ⟨rfl, h⟩ | ⟨rfl, h⟩
    · exact w_p rfl (hnew h)
    · exact w_n (by decide) <| w_ret (hold h)
  | m + 1, fuel + 1, p, b, hp, hf, hbb => by
    have es : fs_ho (S.2.1 36) (m + 1) p = if S.2.1 36 p = 0 then fs_ho (S.2.1 36) m (p + 1) else 1 := rfl
    refine w_lp2 <| w_gr 46 rfl <| w_ai (j := 5) m46 rfl (by decide) ?_
    rw [hb.2 5 (by omega), h5]
    refine w_n (fun z => ?_) <| w_l <| w_l ?_
    · rw [n_a] at z
      have := (n_le (by omega) (by omega)).mp z
      omega
    · rcases hbb with ⟨rfl, h⟩ | ⟨rfl, h⟩
      · refine w_p rfl <| w_gr 36 rfl <| w_az m36 rfl (by omega) <| w_i (fun z => w_m ?_) fun z => w_m ?_
        · rw [ofNat_add1]
          exact w_33 hb hu6 h5 ha hold hnew m fuel (p + 1) 0 (by omega) (by omega) (Or.inl ⟨rfl, by rw [h, es, if_pos z]⟩)
        · rw [ofNat_add1]
          exact w_33 hb hu6 h5 ha hold hnew m fuel (p + 1) 1 (by omega) (by omega) (Or.inr ⟨rfl, by rw [h, es, if_neg z]; decide⟩)
      · refine w_n (by decide) <| w_m ?_
        rw [ofNat_add1]
        exact w_33 hb hu6 h5 ha hold hnew m fuel (p + 1) 1 (by omega) (by omega) (Or.inr ⟨rfl, h⟩)
  | _, 0, _, _, _, h, _ => absurd h (Nat.not_lt_zero _)
/-- what else is left alone when records are heard -/
def fs_ot4 (S0 S : fs_R) : Prop := (∀ k, k ≠ 0 → k ≠ 33 → k ≠ 37 → k ≠ 47 → S.1 k = S0.1 k) ∧ ∀ k, k ≠ 34 → k ≠ 35 → k ≠ 36 → k ≠ 38 → k ≠ 40 → S.2.1 k = S0.2.1 k
def fs_sl0 (S : fs_R) (c u : Nat) (f : Nat → Int32) : fs_R := r_pi_ (S.1, va_up (va_up S.2.1 34 (upd (S.2.1 34) c (Int32.ofNat u))) 35 (fs_c35 (S.2.1 35) f (64 * c) u), S.2.2) 33 (Int32.ofNat (c + 1))
set_option maxRecDepth 100000 in
theorem w_put {A : Nat → Nat} {u a n : Nat} {f : Nat → Int32} {Sh : List fs_Rp} {S : fs_R} (hb : fs_buf u f S) (hu : u ≤ 64) (ha : a + n ≤ 1200) (hS : fs_sf Sh S) (hl : Sh.length ≤ 5) : fs_W A (hr_put (A 0) (Int32.ofNat a) (Int32.ofNat n)) S fun r S1 => r = 0 ∧ S1 = ((fs_sl0 S Sh.length u f).1, va_up (fs_sl0 S Sh.length u f).2.1 36 (fs_mh n a (S.2.1 36)), (fs_sl0 S Sh.length u f).2.2) := by
  refine w_gr 34 rfl <| w_gi 33 rfl <| w_gi 45 rfl ?_
  rw [hS.1, hb.1]
  refine w_si m34 rfl (by omega) ?_
  have e0 : r_si_ S 34 Sh.length (Int32.ofNat u) = ((r_si_ S 34 Sh.length (Int32.ofNat u)).1, va_up (r_si_ S 34 Sh.length (Int32.ofNat u)).2.1 35 (fs_c35 ((r_si_ S 34 Sh.length (Int32.ofNat u)).2.1 35) f (64 * Sh.length) 0), (r_si_ S 34 Sh.length (Int32.ofNat u)).2.2) := by
    have ec : fs_c35 ((r_si_ S 34 Sh.length (Int32.ofNat u)).2.1 35) f (64 * Sh.length) 0 = (r_si_ S 34 Sh.length (Int32.ofNat u)).2.1 35 := funext fun i => if_neg (by omega)
    rw [ec]
    exact r_self _ 35
  rw [e0]
  have hb2 : fs_buf u f (r_si_ S 34 Sh.length (Int32.ofNat u)) := ⟨hb.1, hb.2⟩
  refine w_197 (c := Sh.length) hb2 hu hS.1 (by omega) ?_ u 4096 0 (by omega) (by omega)
  have e1 : r_pi_ ((r_si_ S 34 Sh.length (Int32.ofNat u)).1, va_up (r_si_ S 34 Sh.length (Int32.ofNat u)).2.1 35 (fs_c35 ((r_si_ S 34 Sh.length (Int32.ofNat u)).2.1 35) f (64 * Sh.length) u), (r_si_ S 34 Sh.length (Int32.ofNat u)).2.2) 33 (Int32.ofNat (Sh.length + 1)) = ((fs_sl0 S Sh.length u f).1, va_up (fs_sl0 S Sh.length u f).2.1 36 (S.2.1 36), (fs_sl0 S Sh.length u f).2.2) := by
    have := r_self (fs_sl0 S Sh.length u f) 36
    exact this
  rw [e1]
  exact w_247 (S := fs_sl0 S Sh.length u f) ha n 4096 a (S.2.1 36) rfl (by omega)
theorem sf_put {u : Nat} {f : Nat → Int32} {Sh : List fs_Rp} {S : fs_R} {H : Nat → Int32} {T : fs_Rp} (hS : fs_sf Sh S) (hu : ∀ R ∈ Sh, R.2.2.1 ≤ 64) (hT : T.2.2 = (u, f)) (hu64 : u ≤ 64) : fs_sf (Sh ++ [T]) ((fs_sl0 S Sh.length u f).1, va_up (fs_sl0 S Sh.length u f).2.1 36 H, (fs_sl0 S Sh.length u f).2.2) := by
  refine ⟨by rw [List.length_append]; exact up_hit S.1 33 _, fun i R hR => ?_⟩
  show upd (S.2.1 34) Sh.length (Int32.ofNat u) i = _ ∧ ∀ j, j < R.2.2.1 → fs_c35 (S.2.1 35) f (64 * Sh.length) u (64 * i + j) = _
  by_cases hi : i < Sh.length
  · rw [List.getElem?_append_left hi] at hR
    obtain ⟨b1, b2⟩ := hS.2 i R hR
    have h64 := hu R (List.mem_of_getElem? hR)
    rw [up_miss (by omega)]
    refine ⟨b1, fun j hj => ?_⟩
    unfold fs_c35
    rw [if_neg (by omega)]
    exact b2 j hj
  · have hil := (List.getElem?_eq_some_iff.mp hR).1
    rw [List.length_append] at hil
    have hie : i = Sh.length := by simp at hil; omega
    subst hie
    rw [List.getElem?_append_right (Nat.le_refl _), Nat.sub_self] at hR
    have hRT : R = T := (Option.some.inj hR).symm
    have e1 : R.2.2.1 = u := by rw [hRT, hT]
    have e2 : R.2.2.2 = f := by rw [hRT, hT]
    rw [up_hit, e1, e2]
    refine ⟨rfl, fun j hj => ?_⟩
    unfold fs_c35
    rw [if_pos (by omega), show 64 * Sh.length + j - 64 * Sh.length = j by omega]
