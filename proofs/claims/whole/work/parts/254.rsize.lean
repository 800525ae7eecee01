/-! reports read, in the reference -/
def fs_rps (Rs : List fs_Rp) (S : fs_R) : Prop := S.1 25 = Int32.ofNat Rs.length ∧ ∀ r R, Rs[r]? = some R → fs_wrt r R S.2.1
theorem w_nrk {β : Type} {A : Nat → Nat} {x : Int32} {S : fs_R} {K : Int32 → fs_T β} {Q : β → fs_R → Prop} (h0 : ¬ x < 0) (h1 : x < S.1 25) (hk : fs_W A (K 0) S Q) : fs_W A (fs_bind (fs_cv (A 0) 12 (f_Rf_noReport (A 0) x)) K) S Q := w_b (P := fun r S1 => S1 = S ∧ r = 0) (w_cv <| w_n h0 <| w_gi 25 rfl <| w_p h1 <| w_rz (Or.inl rfl) ⟨rfl, rfl⟩) fun r S1 ⟨e1, e2⟩ => by
  subst e1
  subst e2
  exact hk
theorem w_nrb {β : Type} {A : Nat → Nat} {x : Int32} {S : fs_R} {K : Int32 → fs_T β} {Q : β → fs_R → Prop} (h : x < 0 ∨ ¬ x < S.1 25) (hk : fs_W A (K 1) S Q) : fs_W A (fs_bind (fs_cv (A 0) 12 (f_Rf_noReport (A 0) x)) K) S Q := by
  refine w_b (P := fun r S1 => S1 = S ∧ r = 1) ?_ fun r S1 ⟨e1, e2⟩ => by
    subst e1
    subst e2
    exact hk
  by_cases h0 : x < 0
  · exact w_cv <| w_p h0 <| w_rz (Or.inr rfl) ⟨rfl, rfl⟩
  · exact w_cv <| w_n h0 <| w_gi 25 rfl <| w_n (h.elim (fun z => absurd z h0) id) <| w_rz (Or.inr rfl) ⟨rfl, rfl⟩
theorem rz_bad {A : Nat → Nat} {x : Int32} {S : fs_R} (h : x < 0 ∨ ¬ x < S.1 25) : fs_W A (fs_cv (A 0) 12 (f_Rf_size (A 0) x)) S fun r S1 => S1 = r_pi_ S 0 0 ∧ r = -1 := w_cv <| w_pi0 <| w_nrb h <| w_n (by decide) <| w_ret ⟨rfl, rfl⟩
theorem rz_ok {A : Nat → Nat} {r : Nat} {R : fs_Rp} {Rs : List fs_Rp} {S : fs_R} (hR : fs_rps Rs S) (hl : Rs.length ≤ 30) (h : Rs[r]? = some R) : fs_W A (fs_cv (A 0) 12 (f_Rf_size (A 0) (Int32.ofNat r))) S fun v S1 => S1 = r_pi_ S 0 0 ∧ v = Int32.ofNat R.2.2.1 := by
  have hr := (List.getElem?_eq_some_iff.mp h).1
  exact w_cv <| w_pi0 <| w_nrk (Int32.ofNat_not_neg (by omega)) (by show _ < S.1 25; rw [hR.1]; exact (n_lt (by omega) (by omega)).mpr hr) <| w_p rfl <| w_gr 26 rfl <| w_ai m26 rfl (by omega) <| w_ret ⟨rfl, (hR.2 r R h).1⟩
theorem rb_bad {A : Nat → Nat} {x i : Int32} {S : fs_R} (h : x < 0 ∨ ¬ x < S.1 25) : fs_W A (fs_cv (A 0) 12 (f_Rf_byteOf (A 0) x i)) S fun _ S1 => S1 = r_pi_ S 0 1 := w_cv <| w_nrb h <| w_l <| w_l <| w_n (by decide) <| w_pi0 <| w_gi 0 rfl <| w_n (by show ¬ (1 : Int32) = 0; decide) <| w_ret rfl
theorem rb_ok {A : Nat → Nat} {r : Nat} {i : Int32} {R : fs_Rp} {Rs : List fs_Rp} {S : fs_R} (hR : fs_rps Rs S) (hl : Rs.length ≤ 30) (h : Rs[r]? = some R) (hu : R.2.2.1 ≤ 64) :
    (i < 0 ∨ ¬ i < Int32.ofNat R.2.2.1 → fs_W A (fs_cv (A 0) 12 (f_Rf_byteOf (A 0) (Int32.ofNat r) i)) S fun _ S1 => S1 = r_pi_ S 0 1) ∧ ∀ j, i = Int32.ofNat j → j < R.2.2.1 → fs_W A (fs_cv (A 0) 12 (f_Rf_byteOf (A 0) (Int32.ofNat r) i)) S fun v S1 => S1 = r_pi_ S 0 0 ∧ v = R.2.2.2 j := by
  have hr := (List.getElem?_eq_some_iff.mp h).1
  have h0 : ¬ Int32.ofNat r < 0 := Int32.ofNat_not_neg (by omega)
  have h1 : Int32.ofNat r < S.1 25 := by rw [hR.1]; exact (n_lt (by omega) (by omega)).mpr hr
  obtain ⟨g1, g2⟩ := hR.2 r R h
  have fin : ∀ {T : fs_T Int32}, fs_W A (fs_bind (fs_pi (A 0) 12 0 1) fun _ => fs_bind (fs_gi (A 0) 12 0) fun v3 => if v3 = 0 then T else fs_ret 0) S fun _ S1 => S1 = r_pi_ S 0 1 := fun {T} => w_pi0 <| w_gi 0 rfl <| w_n (by show ¬ (1 : Int32) = 0; decide) <| w_ret rfl
  refine ⟨fun hb => w_cv <| w_nrk h0 h1 <| w_l <| w_l <| w_p rfl ?_, fun j hj hj2 => ?_⟩
  · by_cases hi : i < 0
    · exact w_p hi fin
    · refine w_n hi <| w_gr 26 rfl <| w_nrk h0 h1 <| w_l <| w_p rfl <| w_ai m26 rfl (by omega) ?_
      rw [g1]
      exact w_n (hb.elim (fun z => absurd z hi) id) fin
  · subst hj
    refine w_cv <| w_nrk h0 h1 <| w_l <| w_l <| w_p rfl <| w_n (Int32.ofNat_not_neg (by omega)) <| w_gr 26 rfl <| w_nrk h0 h1 <| w_l <| w_p rfl <| w_ai m26 rfl (by omega) ?_
    rw [g1]
    exact w_p ((n_lt (by omega) (by omega)).mpr hj2) <| w_pi0 <| w_gi 0 rfl <| w_p rfl <| w_gr 27 rfl <| w_ai m27 (n_ma 64 r j) (by omega) <| w_ret ⟨rfl, g2 j hj2⟩
theorem rk_bad {A : Nat → Nat} {x i y : Int32} {S : fs_R} (h : x < 0 ∨ ¬ x < S.1 25) : fs_W A (fs_cv (A 0) 12 (f_Rf_poke (A 0) x i y)) S fun _ S1 => S1 = r_pi_ S 0 1 := w_cv <| w_nrb h <| w_l <| w_l <| w_n (by decide) <| w_pi0 <| w_gi 0 rfl <| w_n (by show ¬ (1 : Int32) = 0; decide) <| w_ret rfl
theorem rk_ok {A : Nat → Nat} {r : Nat} {i y : Int32} {R : fs_Rp} {Rs : List fs_Rp} {S : fs_R} (hR : fs_rps Rs S) (hl : Rs.length ≤ 30) (h : Rs[r]? = some R) (hu : R.2.2.1 ≤ 64) :
    (i < 0 ∨ ¬ i < Int32.ofNat R.2.2.1 → fs_W A (fs_cv (A 0) 12 (f_Rf_poke (A 0) (Int32.ofNat r) i y)) S fun _ S1 => S1 = r_pi_ S 0 1) ∧ ∀ j, i = Int32.ofNat j → j < R.2.2.1 → (fs_nb_ y → fs_W A (fs_cv (A 0) 12 (f_Rf_poke (A 0) (Int32.ofNat r) i y)) S fun _ S1 => S1 = r_pi_ S 0 2) ∧ (¬ fs_nb_ y → fs_W A (fs_cv (A 0) 12 (f_Rf_poke (A 0) (Int32.ofNat r) i y)) S fun _ S1 => S1 = r_si_ (r_pi_ S 0 0) 27 (64 * r + j) y) := by
  have hr := (List.getElem?_eq_some_iff.mp h).1
  have h0 : ¬ Int32.ofNat r < 0 := Int32.ofNat_not_neg (by omega)
  have h1 : Int32.ofNat r < S.1 25 := by rw [hR.1]; exact (n_lt (by omega) (by omega)).mpr hr
  obtain ⟨g1, g2⟩ := hR.2 r R h
  have fin : ∀ {T : fs_T Unit}, fs_W A (fs_bind (fs_pi (A 0) 12 0 1) fun _ => fs_bind (fs_gi (A 0) 12 0) fun v3 => if v3 = 0 then T else fs_ret ()) S fun _ S1 => S1 = r_pi_ S 0 1 := fun {T} => w_pi0 <| w_gi 0 rfl <| w_n (by show ¬ (1 : Int32) = 0; decide) <| w_ret rfl
  refine ⟨fun hb => w_cv <| w_nrk h0 h1 <| w_l <| w_l <| w_p rfl ?_, fun j hj hj2 => ?_⟩
  · by_cases hi : i < 0
    · exact w_p hi fin
    · refine w_n hi <| w_gr 26 rfl <| w_nrk h0 h1 <| w_l <| w_p rfl <| w_ai m26 rfl (by omega) ?_
      rw [g1]
      exact w_n (hb.elim (fun z => absurd z hi) id) fin
  · subst hj
    refine ⟨fun hb => ?_, fun hb => ?_⟩
    · refine w_cv <| w_nrk h0 h1 <| w_l <| w_l <| w_p rfl <| w_n (Int32.ofNat_not_neg (by omega)) <| w_gr 26 rfl <| w_nrk h0 h1 <| w_l <| w_p rfl <| w_ai m26 rfl (by omega) ?_
      rw [g1]
      exact w_p ((n_lt (by omega) (by omega)).mpr hj2) <| w_nbb hb <| w_n (by decide) <| w_pi0 <| w_gi 0 rfl <| w_n (by show ¬ (2 : Int32) = 0; decide) <| w_ret rfl
    · refine w_cv <| w_nrk h0 h1 <| w_l <| w_l <| w_p rfl <| w_n (Int32.ofNat_not_neg (by omega)) <| w_gr 26 rfl <| w_nrk h0 h1 <| w_l <| w_p rfl <| w_ai m26 rfl (by omega) ?_
      rw [g1]
      exact w_p ((n_lt (by omega) (by omega)).mpr hj2) <| w_nbk hb <| w_p rfl <| w_pi0 <| w_gi 0 rfl <| w_p rfl <| w_gr 27 rfl <| w_si m27 (n_ma 64 r j) (by omega) <| w_ret rfl
/-! whether the report at hand is bad -/
/-- the buffer: its length and what is in it -/
def fs_buf (u : Nat) (f : Nat → Int32) (S : fs_R) : Prop := S.1 45 = Int32.ofNat u ∧ ∀ i, i < u → S.2.1 46 i = f i
set_option maxRecDepth 1000000 in
theorem seen_bit : ∀ s, s < 256 → ∀ j, j < 8 → ((s &&& (1 <<< j) = 0) ↔ ¬ ((s >>> j) &&& 1 = 1)) ∧ (s ||| (1 <<< j)) < 256 := by decide
theorem seen_i {s j : Nat} (hs : s < 256) (hj : j < 8) : ((Int32.ofNat s &&& (1 <<< (Int32.ofNat j &&& 31))) = 0 ↔ ¬ ((Int32.ofNat s >>> (Int32.ofNat j &&& 31)) &&& 1) = 1) ∧ (Int32.ofNat s ||| (1 <<< (Int32.ofNat j &&& 31))) = Int32.ofNat (s ||| (1 <<< j)) := by
  have hand : ∀ j, j < 8 → Int32.ofNat j &&& 31 = Int32.ofNat j := by decide
  obtain ⟨b1, b2⟩ := seen_bit s hs j hj
  have hle : s >>> j ≤ s := by
    rw [Nat.shiftRight_eq_div_pow]
    exact Nat.div_le_self _ _
  have h1 : (s >>> j) &&& 1 ≤ 1 := Nat.and_le_right
  have h2 : s &&& (1 <<< j) ≤ s := Nat.and_le_left
  rw [hand j hj, show (1 : Int32) <<< Int32.ofNat j = Int32.ofNat (1 <<< j) from n_shl 1 (by omega), n_and, n_or, n_shr (by omega) (by omega), show (1 : Int32) = Int32.ofNat 1 by decide, n_and]
  refine ⟨⟨fun z w => ?_, fun z => ?_⟩, rfl⟩
  · have e1 := n_inj (b := 0) (by omega) (by decide) z
    have e2 := n_inj (by omega) (by decide) w
    exact b1.mp e1 e2
  · have : ¬ ((s >>> j) &&& 1 = 1) := fun w => z (by rw [w])
    rw [b1.mpr this]
    rfl
