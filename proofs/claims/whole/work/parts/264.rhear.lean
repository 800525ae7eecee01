/-! a report heard, in the reference -/
def he_tail (a0 : Nat) : fs_T Int32 :=
  fs_bind (fs_cv a0 12 (f_Rf_isBad a0)) fun v8 =>
  if v8 = 0 then (
    fs_bind (fs_gr a0 12 46) fun r9 =>
    fs_bind (fs_ai r9 2) fun v10 =>
    if v10 = 0 then (
      fs_bind (fs_cv a0 12 (f_Rf_hearTemplate a0)) fun v40 =>
      fs_ret v40) else
    fs_bind (fs_gr a0 12 46) fun r11 =>
    fs_bind (fs_ai r11 2) fun v12 =>
    if v12 = 1 then (
      fs_bind (fs_cv a0 12 (f_Rf_hearRecords a0)) fun v39 =>
      fs_ret v39) else
    fs_bind (fs_gr a0 12 46) fun r13 =>
    fs_bind (fs_ai r13 0) fun v14 =>
    fs_bind (fs_gr a0 12 42) fun r15 =>
    fs_bind (fs_ai r15 v14) fun v16 =>
    fs_let (fun (v29 : Int32) =>
      if v29 = 0 then (
        fs_ret 0) else
      fs_bind (fs_gr a0 12 42) fun r30 =>
      fs_bind (fs_gr a0 12 46) fun r31 =>
      fs_bind (fs_ai r31 4) fun v32 =>
      fs_bind (fs_si r30 v14 v32) fun _ =>
      fs_bind (fs_gr a0 12 43) fun r33 =>
      fs_bind (fs_gr a0 12 46) fun r34 =>
      fs_bind (fs_ai r34 1) fun v35 =>
      fs_bind (fs_si r33 v14 v35) fun _ =>
      fs_bind (fs_gr a0 12 44) fun r36 =>
      fs_bind (fs_gr a0 12 46) fun r37 =>
      fs_bind (fs_ai r37 3) fun v38 =>
      fs_bind (fs_si r36 v14 v38) fun _ =>
      fs_ret 0) fun j178 =>
    fs_let (fun (_ : Unit) =>
      j178 1) fun j173 =>
    if v16 = 0 then (
      j173 ()) else
    fs_bind (fs_gr a0 12 46) fun r17 =>
    fs_bind (fs_ai r17 1) fun v18 =>
    fs_bind (fs_gr a0 12 43) fun r19 =>
    fs_bind (fs_ai r19 v14) fun v20 =>
    if v20 < v18 then (
      j173 ()) else
    fs_bind (fs_gr a0 12 46) fun r21 =>
    fs_bind (fs_ai r21 1) fun v22 =>
    fs_bind (fs_gr a0 12 43) fun r23 =>
    fs_bind (fs_ai r23 v14) fun v24 =>
    fs_let (fun (_ : Unit) =>
      j178 0) fun j177 =>
    if v22 = v24 then (
      fs_bind (fs_gr a0 12 46) fun r25 =>
      fs_bind (fs_ai r25 3) fun v26 =>
      fs_bind (fs_gr a0 12 44) fun r27 =>
      fs_bind (fs_ai r27 v14) fun v28 =>
      if v26 ≤ v28 then (
        j177 ()) else
      j173 ()) else
    j177 ()) else
  fs_bind (fs_pi a0 12 0 2) fun _ =>
  fs_ret 0
theorem w_38 {A : Nat → Nat} {i u : Nat} {g : Nat → Int32} {s : Nat → Int32} {v : Nat → Nat → Int32} {w : Nat → Int64} {Q : Int32 → fs_R → Prop} (hi : i < 30) (hu : u ≤ 64) (h45 : s 45 = Int32.ofNat u) (hg : ∀ j, j < u → v 27 (64 * i + j) = g j) (hq : fs_W A (he_tail (A 0)) (s, va_up v 46 (fs_cpb (v 46) g u), w) Q) : ∀ (m fuel p : Nat), p + m = u → m < fuel →
    fs_W A (fs_lp1 fuel (lb_Rf_hear_38 (A 0) (Int32.ofNat i)) (Int32.ofNat p)) (s, va_up v 46 (fs_cpb (v 46) g p), w) Q
  | 0, fuel + 1, p, hp, _ => by
    have hpu : p = u := by omega
    subst hpu
    refine w_lp1 <| w_gi 45 rfl ?_
    rw [show (s, va_up v 46 (fs_cpb (v 46) g p), w).1 45 = Int32.ofNat p from h45]
    exact w_p (Int32.le_refl _) hq
  | m + 1, fuel + 1, p, hp, hf => by
    refine w_lp1 <| w_gi 45 rfl ?_
    rw [show (s, va_up v 46 (fs_cpb (v 46) g p), w).1 45 = Int32.ofNat u from h45]
    refine w_n (fun z => ?_) <| w_gr 46 rfl <| w_gr 27 rfl <| w_ai m27 (n_ma 64 i p) (by omega) <| w_si m46 rfl (by omega) <| w_m ?_
    · have := (n_le (by omega) (by omega)).mp z
      omega
    · rw [show (s, va_up v 46 (fs_cpb (v 46) g p), w).2.1 27 (64 * i + p) = g p from hg p (by omega), cpb_st, ofNat_add1]
      exact w_38 hi hu h45 hg hq m fuel (p + 1) (by omega) (by omega)
  | _, 0, _, _, h => absurd h (Nat.not_lt_zero _)
theorem rh_bad {A : Nat → Nat} {x : Int32} {S : fs_R} (h : x < 0 ∨ ¬ x < S.1 25) : fs_W A (fs_cv (A 0) 12 (f_Rf_hear (A 0) x)) S fun _ S1 => S1 = r_pi_ S 0 1 := w_cv <| w_nrb h <| w_l <| w_n (by decide) <| w_pi0 <| w_gi 0 rfl <| w_n (by show ¬ (1 : Int32) = 0; decide) <| w_ret rfl
/-- the state in which the report is judged -/
def fs_hs (S : fs_R) (u : Nat) (g : Nat → Int32) : fs_R := fs_ft46 (r_pi_ S 0 0) u g
set_option maxRecDepth 100000 in
theorem rh_go {A : Nat → Nat} {r : Nat} {R : fs_Rp} {Rs : List fs_Rp} {S : fs_R} {Q : Int32 → fs_R → Prop} (hR : fs_rps Rs S) (hl : Rs.length ≤ 30) (h : Rs[r]? = some R) (hu : R.2.2.1 ≤ 64) (hq : fs_W A (he_tail (A 0)) (fs_hs S R.2.2.1 R.2.2.2) Q) : fs_W A (fs_cv (A 0) 12 (f_Rf_hear (A 0) (Int32.ofNat r))) S Q := by
  have hr := (List.getElem?_eq_some_iff.mp h).1
  have h0 : ¬ Int32.ofNat r < 0 := Int32.ofNat_not_neg (by omega)
  have h1 : Int32.ofNat r < S.1 25 := by rw [hR.1]; exact (n_lt (by omega) (by omega)).mpr hr
  obtain ⟨g1, g2⟩ := hR.2 r R h
  refine w_cv <| w_nrk h0 h1 <| w_l <| w_p rfl <| w_pi0 <| w_gi 0 rfl <| w_p rfl <| w_gr 26 rfl <| w_ai m26 rfl (by omega) ?_
  rw [show (r_pi_ S 0 0).2.1 26 r = Int32.ofNat R.2.2.1 from g1]
  refine w_pi 45 rfl (by decide) ?_
  have e0 : r_pi_ (r_pi_ S 0 0) 45 (Int32.ofNat R.2.2.1) = (upd (upd S.1 0 0) 45 (Int32.ofNat R.2.2.1), va_up S.2.1 46 (fs_cpb (S.2.1 46) R.2.2.2 0), S.2.2) := by
    have : fs_cpb (S.2.1 46) R.2.2.2 0 = S.2.1 46 := funext fun j => if_neg (Nat.not_lt_zero j)
    rw [this]
    exact r_self (r_pi_ (r_pi_ S 0 0) 45 (Int32.ofNat R.2.2.1)) 46
  rw [e0]
  exact w_38 (v := S.2.1) (by omega) hu (up_hit (upd S.1 0 0) 45 _) g2 hq R.2.2.1 4096 0 (by omega) (by omega)
theorem he_isbad {A : Nat → Nat} {u : Nat} {f : Nat → Int32} {S : fs_R} (hb : fs_buf u f S) (hf : fs_by f) (hu5 : 5 ≤ u) (hu : u ≤ 64) (h : ¬ fs_bD u f = 0) : fs_W A (he_tail (A 0)) S fun r S1 => S1 = r_pi_ S 0 2 := by
  refine w_b (w_isBad hb hf hu5 hu) fun r S1 ⟨e1, e2⟩ => ?_
  subst e1
  subst e2
  exact w_n h <| w_pi0 <| w_ret rfl
theorem he_T {A : Nat → Nat} {u : Nat} {f : Nat → Int32} {S : fs_R} {Q : Int32 → fs_R → Prop} (hb : fs_buf u f S) (hf : fs_by f) (hu5 : 5 ≤ u) (hu : u ≤ 64) (h : fs_bD u f = 0) (h2 : f 2 = 0) (hq : fs_W A (fs_cv (A 0) 12 (f_Rf_hearTemplate (A 0))) S Q) : fs_W A (he_tail (A 0)) S Q := by
  refine w_b (w_isBad hb hf hu5 hu) fun r S1 ⟨e1, e2⟩ => ?_
  subst e1
  subst e2
  refine w_p h <| w_gr 46 rfl <| w_ai (j := 2) m46 rfl (by decide) ?_
  rw [hb.2 2 (by omega)]
  exact w_p h2 <| w_b hq fun r S2 h => w_ret h
theorem he_R {A : Nat → Nat} {u : Nat} {f : Nat → Int32} {S : fs_R} {Q : Int32 → fs_R → Prop} (hb : fs_buf u f S) (hf : fs_by f) (hu5 : 5 ≤ u) (hu : u ≤ 64) (h : fs_bD u f = 0) (h2 : f 2 = 1) (hq : fs_W A (fs_cv (A 0) 12 (f_Rf_hearRecords (A 0))) S Q) : fs_W A (he_tail (A 0)) S Q := by
  refine w_b (w_isBad hb hf hu5 hu) fun r S1 ⟨e1, e2⟩ => ?_
  subst e1
  subst e2
  refine w_p h <| w_gr 46 rfl <| w_ai (j := 2) m46 rfl (by decide) ?_
  rw [hb.2 2 (by omega)]
  refine w_n (by rw [h2]; decide) <| w_gr 46 rfl <| w_ai (j := 2) m46 rfl (by decide) ?_
  rw [hb.2 2 (by omega)]
  exact w_p h2 <| w_b hq fun r S2 h => w_ret h
/-- the sampler noted -/
def fs_nts (S : fs_R) (x : Nat) (f : Nat → Int32) : fs_R := if S.2.1 42 x = 0 ∨ S.2.1 43 x < f 1 ∨ f 1 = S.2.1 43 x ∧ ¬ f 3 ≤ S.2.1 44 x then r_si_ (r_si_ (r_si_ S 42 x (f 4)) 43 x (f 1)) 44 x (f 3) else S
theorem he_S {A : Nat → Nat} {u x : Nat} {f : Nat → Int32} {S : fs_R} (hb : fs_buf u f S) (hf : fs_by f) (hu5 : 5 ≤ u) (hu : u ≤ 64) (h : fs_bD u f = 0) (h20 : ¬ f 2 = 0) (h21 : ¬ f 2 = 1) (hx : x < 2) (ex : f 0 = Int32.ofNat x) : fs_W A (he_tail (A 0)) S fun r S1 => r = 0 ∧ S1 = fs_nts S x f := by
  have put : fs_nts S x f = r_si_ (r_si_ (r_si_ S 42 x (f 4)) 43 x (f 1)) 44 x (f 3) → fs_W A (fs_bind (fs_gr (A 0) 12 42) fun r30 => fs_bind (fs_gr (A 0) 12 46) fun r31 => fs_bind (fs_ai r31 4) fun v32 => fs_bind (fs_si r30 (Int32.ofNat x) v32) fun _ => fs_bind (fs_gr (A 0) 12 43) fun r33 => fs_bind (fs_gr (A 0) 12 46) fun r34 => fs_bind (fs_ai r34 1) fun v35 => fs_bind (fs_si r33 (Int32.ofNat x) v35) fun _ => fs_bind (fs_gr (A 0) 12 44) fun r36 => fs_bind (fs_gr (A 0) 12 46) fun r37 => fs_bind (fs_ai r37 3) fun v38 => fs_bind (fs_si r36 (Int32.ofNat x) v38) fun _ => fs_ret (0 : Int32)) S fun r S1 => r = 0 ∧ S1 = fs_nts S x f := fun e => by
    refine w_gr 42 rfl <| w_gr 46 rfl <| w_ai (j := 4) m46 rfl (by decide) ?_
    rw [hb.2 4 (by omega)]
    refine w_si m42 rfl hx <| w_gr 43 rfl <| w_gr 46 rfl <| w_ai (j := 1) m46 rfl (by decide) ?_
    rw [show (r_si_ S 42 x (f 4)).2.1 46 1 = f 1 from hb.2 1 (by omega)]
    refine w_si m43 rfl hx <| w_gr 44 rfl <| w_gr 46 rfl <| w_ai (j := 3) m46 rfl (by decide) ?_
    rw [show (r_si_ (r_si_ S 42 x (f 4)) 43 x (f 1)).2.1 46 3 = f 3 from hb.2 3 (by omega)]
    exact w_si m44 rfl hx <| w_ret ⟨rfl, e.symm⟩
  refine w_b (w_isBad hb hf hu5 hu) fun r S1 ⟨e1, e2⟩ => ?_
  subst e1
  subst e2
  refine w_p h <| w_gr 46 rfl <| w_ai (j := 2) m46 rfl (by decide) ?_
  rw [hb.2 2 (by omega)]
  refine w_n h20 <| w_gr 46 rfl <| w_ai (j := 2) m46 rfl (by decide) ?_
  rw [hb.2 2 (by omega)]
  refine w_n h21 <| w_gr 46 rfl <| w_ai (j := 0) m46 rfl (by decide) ?_
  rw [hb.2 0 (by omega), ex]
  refine w_gr 42 rfl <| w_ai m42 rfl hx <| w_l <| w_l ?_
  by_cases c0 : S1.2.1 42 x = 0
  · exact w_p c0 <| w_n (by decide) <| put (if_pos (Or.inl c0))
  · refine w_n c0 <| w_gr 46 rfl <| w_ai (j := 1) m46 rfl (by decide) ?_
    rw [hb.2 1 (by omega)]
    refine w_gr 43 rfl <| w_ai m43 rfl hx ?_
    by_cases c1 : S1.2.1 43 x < f 1
    · exact w_p c1 <| w_n (by decide) <| put (if_pos (Or.inr (Or.inl c1)))
    · refine w_n c1 <| w_gr 46 rfl <| w_ai (j := 1) m46 rfl (by decide) ?_
      rw [hb.2 1 (by omega)]
      refine w_gr 43 rfl <| w_ai m43 rfl hx <| w_l ?_
      by_cases c2 : f 1 = S1.2.1 43 x
      · refine w_p c2 <| w_gr 46 rfl <| w_ai (j := 3) m46 rfl (by decide) ?_
        rw [hb.2 3 (by omega)]
        refine w_gr 44 rfl <| w_ai m44 rfl hx ?_
        by_cases c3 : f 3 ≤ S1.2.1 44 x
        · exact w_p c3 <| w_p rfl <| w_ret ⟨rfl, (if_neg (fun z => z.elim c0 (fun z => z.elim c1 (fun z => z.2 c3)))).symm⟩
        · exact w_n c3 <| w_n (by decide) <| put (if_pos (Or.inr (Or.inr ⟨c2, c3⟩)))
      · exact w_n c2 <| w_p rfl <| w_ret ⟨rfl, (if_neg (fun z => z.elim c0 (fun z => z.elim c1 (fun z => c2 z.1)))).symm⟩
