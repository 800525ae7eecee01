/-! counts, in the reference -/
/-- what the reference answers to count -/
def fs_rcn (S : fs_R) (n : Nat) (H : Nat → Int32) (Sh : List fs_Rp) (w : Nat) : Int32 := match w with
  | 0 => S.2.1 1 n
  | 1 => S.2.1 2 n
  | 2 => S.2.1 7 n
  | 3 => S.2.1 13 n
  | 4 => S.2.1 5 n
  | 5 => fs_ls2 H
  | 6 => fs_wt (Int32.ofNat n) Sh 0
  | 7 => S.2.1 40 n
  | 8 => S.2.1 41 n
  | _ => S.2.1 42 n
theorem rc_bad {A : Nat → Nat} {x w : Int32} {S : fs_R} (hb : ¬ (x = 0 ∨ x = 1) ∨ w < 0 ∨ ¬ w ≤ 9) : fs_W A (fs_cv (A 0) 12 (f_Rf_count (A 0) x w)) S fun _ S1 => S1 = r_pi_ S 0 1 := by
  have fin : ∀ {T : fs_T Int32}, fs_W A (fs_bind (fs_pi (A 0) 12 0 1) fun _ => fs_bind (fs_gi (A 0) 12 0) fun v3 => if v3 = 0 then T else fs_ret 0) S fun _ S1 => S1 = r_pi_ S 0 1 := fun {T} => w_pi0 <| w_gi 0 rfl <| w_n (by show ¬ (1 : Int32) = 0; decide) <| w_ret rfl
  by_cases hx : x = 0 ∨ x = 1
  · refine w_cv <| w_nxk hx <| w_l <| w_l <| w_p rfl ?_
    by_cases h1 : w < 0
    · exact w_p h1 fin
    · exact w_n h1 <| w_n (fun z => hb.elim (fun q => q hx) (fun q => q.elim h1 (fun q => q z))) fin
  · exact w_cv <| w_nxb hx <| w_l <| w_l <| w_n (by decide) fin
theorem w_count_loop {A : Nat → Nat} {n k : Nat} {H : Nat → Int32} {Sh : List fs_Rp} {S : fs_R} (hS : fs_sf Sh S) (hl : Sh.length ≤ 5) (hS7 : ∀ R ∈ Sh, 7 ≤ R.2.2.1) (hn : n < 2) (hk : k < 10) (hH : ∀ j, j < 600 → S.2.1 36 (600 * n + j) = H j) : ∀ (l : List fs_Rp) (fuel i : Nat) (t : Int32), Sh.drop i = l → i ≤ Sh.length → l.length < fuel → fs_wt (Int32.ofNat n) l t = fs_wt (Int32.ofNat n) Sh 0 →
    fs_W A (fs_lp2 fuel (lb_Rf_count_41 (A 0) (Int32.ofNat n) (Int32.ofNat k)) t (Int32.ofNat i)) S fun r S1 => S1 = S ∧ r = fs_rcn S n H Sh k
  | [], fuel + 1, i, t, h1, h2, _, ht => by
    have : Sh.length ≤ i := List.drop_eq_nil_iff.mp h1
    refine w_lp2 <| w_gi 33 rfl ?_
    rw [hS.1]
    refine w_p ((n_le (by omega) (by omega)).mpr this) ?_
    have ne : ∀ j : Nat, j < 10 → k ≠ j → ¬ Int32.ofNat k = Int32.ofNat j := fun j hj hne z => hne (n_inj (by omega) (by omega) z)
    by_cases c0 : k = 0
    · subst c0
      exact w_p rfl <| w_gr 1 rfl <| w_ai m1 rfl (by omega) <| w_ret ⟨rfl, rfl⟩
    refine w_n (ne 0 (by decide) c0) ?_
    by_cases c1 : k = 1
    · subst c1
      exact w_p rfl <| w_gr 2 rfl <| w_ai m2 rfl (by omega) <| w_ret ⟨rfl, rfl⟩
    refine w_n (ne 1 (by decide) c1) ?_
    by_cases c2 : k = 2
    · subst c2
      exact w_p rfl <| w_gr 7 rfl <| w_ai m7 rfl (by omega) <| w_ret ⟨rfl, rfl⟩
    refine w_n (ne 2 (by decide) c2) ?_
    by_cases c3 : k = 3
    · subst c3
      exact w_p rfl <| w_gr 13 rfl <| w_ai m13 rfl (by omega) <| w_ret ⟨rfl, rfl⟩
    refine w_n (ne 3 (by decide) c3) ?_
    by_cases c4 : k = 4
    · subst c4
      exact w_p rfl <| w_gr 5 rfl <| w_ai m5 rfl (by omega) <| w_ret ⟨rfl, rfl⟩
    refine w_n (ne 4 (by decide) c4) ?_
    by_cases c5 : k = 5
    · subst c5
      exact w_p rfl <| w_b (w_lost hn hH) fun r S1 ⟨a, b⟩ => w_ret ⟨a, b⟩
    refine w_n (ne 5 (by decide) c5) ?_
    by_cases c6 : k = 6
    · subst c6
      exact w_p rfl <| w_ret ⟨rfl, ht⟩
    refine w_n (ne 6 (by decide) c6) ?_
    by_cases c7 : k = 7
    · subst c7
      exact w_p rfl <| w_gr 40 rfl <| w_ai m40 rfl (by omega) <| w_ret ⟨rfl, rfl⟩
    refine w_n (ne 7 (by decide) c7) ?_
    by_cases c8 : k = 8
    · subst c8
      exact w_p rfl <| w_gr 41 rfl <| w_ai m41 rfl (by omega) <| w_ret ⟨rfl, rfl⟩
    refine w_n (ne 8 (by decide) c8) ?_
    have c9 : k = 9 := by omega
    subst c9
    exact w_gr 42 rfl <| w_ai m42 rfl (by omega) <| w_ret ⟨rfl, rfl⟩
  | R :: l, fuel + 1, i, t, h1, h2, h3, ht => by
    have hi : i < Sh.length := by
      have := congrArg List.length h1
      rw [List.length_drop, List.length_cons] at this
      omega
    have hq : Sh[i]? = some R := by
      have := congrArg (fun z : List fs_Rp => z[0]?) h1
      simpa using this
    have hd : Sh.drop (i + 1) = l := by
      have := congrArg List.tail h1
      simpa using this
    have es : fs_wt (Int32.ofNat n) (R :: l) t = fs_wt (Int32.ofNat n) l (if R.2.2.2 0 = Int32.ofNat n then t + 1 else t) := rfl
    have u7 := hS7 R (List.mem_of_getElem? hq)
    obtain ⟨-, rd⟩ := hS.2 i R hq
    have e64 : (64 : Int32) * Int32.ofNat i = Int32.ofNat (64 * i + 0) := n_m 64 i
    have rec_ : ∀ t', fs_wt (Int32.ofNat n) l t' = fs_wt (Int32.ofNat n) Sh 0 → fs_W A (fs_lp2 fuel (lb_Rf_count_41 (A 0) (Int32.ofNat n) (Int32.ofNat k)) t' (Int32.ofNat i + 1)) S fun r S1 => S1 = S ∧ r = fs_rcn S n H Sh k := fun t' ht' => by
      rw [ofNat_add1 i]
      exact w_count_loop hS hl hS7 hn hk hH l fuel (i + 1) t' hd (by omega) (by simp at h3; omega) ht'
    refine w_lp2 <| w_gi 33 rfl ?_
    rw [hS.1]
    refine w_n (fun z => ?_) <| w_gr 35 rfl <| w_ai m35 e64 (by omega) <| w_l ?_
    · have := (n_le (by omega) (by omega)).mp z
      omega
    · rw [rd 0 (by omega)]
      refine w_i (fun z => w_m <| w_m <| rec_ _ ?_) fun z => w_m <| w_m <| rec_ _ ?_
      · rw [← ht, es, if_pos z]
      · rw [← ht, es, if_neg z, Int32.add_zero]
  | _, 0, _, _, _, _, h, _ => absurd h (Nat.not_lt_zero _)
set_option maxRecDepth 100000 in
theorem rc_ok {A : Nat → Nat} {n k : Nat} {H : Nat → Int32} {Sh : List fs_Rp} {S : fs_R} (hS : fs_sf Sh S) (hl : Sh.length ≤ 5) (hS7 : ∀ R ∈ Sh, 7 ≤ R.2.2.1) (hn : n < 2) (hk : k < 10) (hH : ∀ j, j < 600 → S.2.1 36 (600 * n + j) = H j) : fs_W A (fs_cv (A 0) 12 (f_Rf_count (A 0) (Int32.ofNat n) (Int32.ofNat k))) S fun r S1 => S1 = r_pi_ S 0 0 ∧ r = fs_rcn S n H Sh k := by
  have hS2 : fs_sf Sh (r_pi_ S 0 0) := hS
  have hx : Int32.ofNat n = 0 ∨ Int32.ofNat n = 1 := x2 hn
  exact w_cv <| w_nxk hx <| w_l <| w_l <| w_p rfl <| w_n (Int32.ofNat_not_neg (by omega)) <| w_p ((n_le (y := 9) (by omega) (by decide)).mpr (by omega)) <| w_pi0 <| w_gi 0 rfl <| w_p rfl <| w_count_loop hS2 hl hS7 hn hk hH Sh 4096 0 0 rfl (Nat.zero_le _) (by omega) rfl
