/-! ticks, flushing, the sampler, ended flows: in the reference -/
theorem w_tick_in {A : Nat → Nat} {x : Nat} {t v6 : Int32} {k47 : Int32 → fs_T Int32} {Q : Int32 → fs_R → Prop} (hx : x < 2) : ∀ (rest : fs_Fs) (fuel : Nat) (Kp E : fs_Fs) (S : fs_R), fs_fr x (Kp ++ rest) E S.2.1 → S.2.1 1 x = t → rest.length < fuel → Kp.length + rest.length ≤ 6 → Kp.length + rest.length + E.length ≤ 20 → (∀ q ∈ rest, fs_by3 q.2) →
    (∀ S1, S1.1 = S.1 → S1.2.2 = S.2.2 → fs_fr x (Kp ++ fs_kp t rest) (E ++ fs_gn t rest) S1.2.1 → fs_ofr x S.2.1 S1.2.1 → fs_W A (k47 (v6 + 1)) S1 Q) → fs_W A (fs_lp1 fuel (lb_Rf_tick_66 (A 0) (Int32.ofNat x) v6 k47) (Int32.ofNat Kp.length)) S Q
  | [], fuel + 1, Kp, E, S, hf, ht, _, h6, h20, _, hk => by
    rw [List.append_nil] at hf
    refine w_lp1 <| w_gr 7 rfl <| w_ai m7 rfl hx ?_
    rw [hf.1]
    refine w_p (Int32.le_refl _) <| w_m <| hk S rfl rfl ?_ (out_rf _ _)
    show fs_fr x (Kp ++ []) (E ++ []) S.2.1
    rw [List.append_nil, List.append_nil]
    exact hf
  | q :: l, fuel + 1, Kp, E, S, hf, ht, hfu, h6, h20, hb, hk => by
    rw [List.length_cons] at h6 h20 hfu
    have hq : (Kp ++ q :: l)[Kp.length]? = some q := at_mid Kp q l
    have hlen : (Kp ++ q :: l).length = Kp.length + (l.length + 1) := by rw [List.length_append, List.length_cons]
    obtain ⟨c8, c9, c10, c11, c12⟩ := hf.2.2.1 _ q hq
    have hkeep : fs_rs t q.2 = 0 → fs_W A (fs_lp1 fuel (lb_Rf_tick_66 (A 0) (Int32.ofNat x) v6 k47) (Int32.ofNat Kp.length + 1)) S Q := fun hz => by
      have ekp : fs_kp t (q :: l) = q :: fs_kp t l := by simp [fs_kp, hz]
      have egn : fs_gn t (q :: l) = fs_gn t l := by simp [fs_gn, hz]
      rw [ekp, egn] at hk
      rw [ofNat_add1]
      have := w_tick_in (A := A) (v6 := v6) (k47 := k47) (Q := Q) hx l fuel (Kp ++ [q]) E S (by rw [List.append_assoc]; exact hf) ht (by omega) (by rw [List.length_append]; simp; omega) (by rw [List.length_append]; simp; omega) (fun p hp => hb p (List.mem_cons_of_mem _ hp)) (fun S1 a b c d => hk S1 a b (by rw [List.append_assoc] at c; exact c) d)
      rw [List.length_append] at this
      exact this
    have hgo : ∀ why, fs_rs t q.2 = why → ¬ why = 0 → fs_W A (fs_bind (fs_cv (A 0) 12 (f_Rf_end (A 0) (Int32.ofNat x) (Int32.ofNat Kp.length) why)) fun _ => fs_lp1 fuel (lb_Rf_tick_66 (A 0) (Int32.ofNat x) v6 k47) (Int32.ofNat Kp.length)) S Q := fun why hw hz => by
      have ekp : fs_kp t (q :: l) = fs_kp t l := by simp [fs_kp, hw, hz]
      have egn : fs_gn t (q :: l) = fs_ed t why q :: fs_gn t l := by simp [fs_gn, hw, hz]
      rw [ekp, egn] at hk
      refine w_b (w_end hx S hf hq (by omega) (by omega) (hb q List.mem_cons_self)) fun _ S1 ⟨g1, g2, g3, g4⟩ => ?_
      rw [erase_mid, ht] at g3
      have ht1 : S1.2.1 1 x = t := by
        rw [g4 1 x (by unfold fs_reg; omega)]
        exact ht
      exact w_tick_in hx l fuel Kp (E ++ [fs_ed t why q]) S1 g3 ht1 (by omega) (by omega) (by rw [List.length_append]; simp; omega) (fun p hp => hb p (List.mem_cons_of_mem _ hp)) (fun S2 a b c d => hk S2 (a.trans g1) (b.trans g2) (by rw [List.append_assoc] at c; exact c) (out_tr g4 d))
    refine w_lp1 <| w_gr 7 rfl <| w_ai m7 rfl hx ?_
    rw [hf.1, hlen]
    refine w_n (fun z => ?_) <| w_gr 1 rfl <| w_ai m1 rfl hx <| w_gr 12 rfl <| w_ai m12 (n_ma 6 x _) (by omega) ?_
    · have := (n_le (by omega) (by omega)).mp z
      omega
    · rw [ht, c12]
      refine w_l ?_
      by_cases h15 : t - q.2 6 < 15
      · refine w_p h15 <| w_l <| w_l <| w_p rfl <| w_gr 1 rfl <| w_ai m1 rfl hx <| w_gr 11 rfl <| w_ai m11 (n_ma 6 x _) (by omega) ?_
        rw [ht, c11]
        by_cases h60 : t - q.2 3 < 60
        · exact w_p h60 <| w_m <| hkeep (by unfold fs_rs; rw [if_pos h15, if_pos h60])
        · exact w_n h60 <| w_l <| w_p rfl <| hgo 2 (by unfold fs_rs; rw [if_pos h15, if_neg h60]) (by decide)
      · exact w_n h15 <| w_l <| w_l <| w_n (by decide) <| w_l <| w_n (by decide) <| hgo 1 (by unfold fs_rs; rw [if_neg h15]) (by decide)
  | _, 0, _, _, _, _, _, h, _, _, _, _ => absurd h (Nat.not_lt_zero _)
def fs_ou1 (x : Nat) (v w : Nat → Nat → Int32) : Prop := ∀ k j, ¬ fs_reg x k j → ¬ (k = 1 ∧ j = x) → w k j = v k j
theorem tks_len : ∀ (m : Nat) (X : (Nat → Int32) × fs_Fs × fs_Fs), (fs_tks m X).2.1.length + (fs_tks m X).2.2.length = X.2.1.length + X.2.2.length ∧ (fs_tks m X).2.2.length = X.2.2.length + fs_tkg m X
  | 0, _ => ⟨rfl, rfl⟩
  | m + 1, X => by
    obtain ⟨h1, h2⟩ := tks_len m (upd X.1 4 (X.1 4 + 1), fs_kp (X.1 4 + 1) X.2.1, X.2.2 ++ fs_gn (X.1 4 + 1) X.2.1)
    have h3 := kg_len (X.1 4 + 1) X.2.1
    have e1 : fs_tks (m + 1) X = fs_tks m (upd X.1 4 (X.1 4 + 1), fs_kp (X.1 4 + 1) X.2.1, X.2.2 ++ fs_gn (X.1 4 + 1) X.2.1) := rfl
    have e2 : fs_tkg (m + 1) X = (fs_gn (X.1 4 + 1) X.2.1).length + fs_tkg m (upd X.1 4 (X.1 4 + 1), fs_kp (X.1 4 + 1) X.2.1, X.2.2 ++ fs_gn (X.1 4 + 1) X.2.1) := rfl
    rw [e1, e2]
    dsimp only at h1 h2
    rw [List.length_append] at h1 h2
    omega
theorem kp_mem {t : Int32} {C : fs_Fs} {q : Nat × (Nat → Int32)} (h : q ∈ fs_kp t C) : q ∈ C := (List.mem_filter.mp h).1
set_option maxRecDepth 100000 in
theorem w_tick_out {A : Nat → Nat} {x n : Nat} {v5 : Int32} (hx : x < 2) (hn : n ≤ 100) : ∀ (m fuel i : Nat) (s : Nat → Int32) (C E : fs_Fs) (S : fs_R), fs_fr x C E S.2.1 → S.2.1 1 x = s 4 → i + m = n → m < fuel → C.length ≤ 6 → C.length + E.length ≤ 20 → (∀ q ∈ C, fs_by3 q.2) →
    fs_W A (fs_lp1 fuel (lb_Rf_tick_47 (A 0) (Int32.ofNat x) (Int32.ofNat n) v5) (Int32.ofNat i)) S fun r S1 => r = Int32.ofNat (fs_tks m (s, C, E)).2.2.length - v5 ∧ S1.1 = S.1 ∧ S1.2.2 = S.2.2 ∧ fs_fr x (fs_tks m (s, C, E)).2.1 (fs_tks m (s, C, E)).2.2 S1.2.1 ∧ S1.2.1 1 x = (fs_tks m (s, C, E)).1 4 ∧ fs_ou1 x S.2.1 S1.2.1
  | 0, fuel + 1, i, s, C, E, S, hf, ht, hi, _, _, _, _ => by
    refine w_lp1 <| w_p ((n_le (by omega) (by omega)).mpr (by omega)) <| w_gr 13 rfl <| w_ai m13 rfl hx ?_
    rw [hf.2.1]
    exact w_ret ⟨rfl, rfl, rfl, hf, ht, fun _ _ _ _ => rfl⟩
  | m + 1, fuel + 1, i, s, C, E, S, hf, ht, hi, hfu, h6, h20, hb => by
    refine w_lp1 <| w_n (fun z => ?_) <| w_gr 1 rfl <| w_ai m1 rfl hx <| w_si m1 rfl hx ?_
    · have := (n_le (by omega) (by omega)).mp z
      omega
    · have hf2 : fs_fr x C E (r_si_ S 1 x (S.2.1 1 x + 1)).2.1 := hf
      have ht2 : (r_si_ S 1 x (S.2.1 1 x + 1)).2.1 1 x = s 4 + 1 := by
        show upd (S.2.1 1) x _ x = _
        rw [up_hit, ht]
      have hlen := kg_len (s 4 + 1) C
      refine w_tick_in (v6 := Int32.ofNat i) (k47 := fs_lp1 fuel (lb_Rf_tick_47 (A 0) (Int32.ofNat x) (Int32.ofNat n) v5)) hx C 4096 [] E _ hf2 ht2 (by omega) (by simp; exact h6) (by simp; omega) hb fun S1 a b c d => ?_
      rw [ofNat_add1]
      have ht3 : S1.2.1 1 x = upd s 4 (s 4 + 1) 4 := by
        rw [d 1 x (by unfold fs_reg; omega), ht2]
        rfl
      refine w_mono (w_tick_out hx hn m fuel (i + 1) (upd s 4 (s 4 + 1)) (fs_kp (s 4 + 1) C) (E ++ fs_gn (s 4 + 1) C) S1 c ht3 (by omega) (by omega) (by omega) (by rw [List.length_append]; omega) (fun q hq => hb q (kp_mem hq))) fun r S2 ⟨g1, g2, g3, g4, g5, g6⟩ => ⟨g1, g2.trans a, g3.trans b, g4, g5, fun k j h1 h2 => ?_⟩
      rw [g6 k j h1 h2, d k j h1]
      by_cases hk : k = 1
      · subst hk
        exact up_miss (fun z => h2 ⟨rfl, z⟩) _
      · exact congrFun (va_up_ne S.2.1 _ hk) j
  | _, 0, _, _, _, _, _, _, _, _, h, _, _, _ => absurd h (Nat.not_lt_zero _)
theorem rt_bad {A : Nat → Nat} {x y : Int32} {S : fs_R} (hb : ¬ (x = 0 ∨ x = 1) ∨ y < 1 ∨ ¬ y ≤ 100) : fs_W A (fs_cv (A 0) 12 (f_Rf_tick (A 0) x y)) S fun _ S1 => S1 = r_pi_ S 0 1 := by
  have fin : ∀ {T : fs_T Int32}, fs_W A (fs_bind (fs_pi (A 0) 12 0 1) fun _ => fs_bind (fs_gi (A 0) 12 0) fun v3 => if v3 = 0 then T else fs_ret 0) S fun _ S1 => S1 = r_pi_ S 0 1 := fun {T} => w_pi0 <| w_gi 0 rfl <| w_n (by show ¬ (1 : Int32) = 0; decide) <| w_ret rfl
  by_cases hx : x = 0 ∨ x = 1
  · refine w_cv <| w_nxk hx <| w_l <| w_l <| w_p rfl ?_
    by_cases h1 : y < 1
    · exact w_p h1 fin
    · exact w_n h1 <| w_n (fun z => hb.elim (fun w => w hx) (fun w => w.elim h1 (fun w => w z))) fin
  · exact w_cv <| w_nxb hx <| w_l <| w_l <| w_n (by decide) fin
set_option maxRecDepth 100000 in
theorem rt_ok {A : Nat → Nat} {x n : Nat} {s : Nat → Int32} {C E : fs_Fs} {S : fs_R} (hx : x < 2) (hn1 : 1 ≤ n) (hn : n ≤ 100) (hf : fs_fr x C E S.2.1) (ht : S.2.1 1 x = s 4) (h6 : C.length ≤ 6) (h20 : C.length + E.length ≤ 20) (hb : ∀ q ∈ C, fs_by3 q.2) :
    fs_W A (fs_cv (A 0) 12 (f_Rf_tick (A 0) (Int32.ofNat x) (Int32.ofNat n))) S fun r S1 => r = Int32.ofNat (fs_tkg n (s, C, E)) ∧ S1.1 = upd S.1 0 0 ∧ S1.2.2 = S.2.2 ∧ fs_fr x (fs_tks n (s, C, E)).2.1 (fs_tks n (s, C, E)).2.2 S1.2.1 ∧ S1.2.1 1 x = (fs_tks n (s, C, E)).1 4 ∧ fs_ou1 x S.2.1 S1.2.1 := by
  refine w_cv <| w_nxk (x2 hx) <| w_l <| w_l <| w_p rfl <| w_n (fun z => ?_) <| w_p ((n_le (y := 100) (by omega) (by omega)).mpr hn) <| w_pi0 <| w_gi 0 rfl <| w_p rfl <| w_gr 13 rfl <| w_ai m13 rfl hx ?_
  · have := (n_lt (y := 1) (by omega) (by omega)).mp z
    omega
  · have hf2 : fs_fr x C E (r_pi_ S 0 0).2.1 := hf
    rw [hf2.2.1]
    refine w_mono (w_tick_out hx hn n 4096 0 s C E (r_pi_ S 0 0) hf2 ht (by omega) (by omega) h6 h20 hb) fun r S1 ⟨g1, g2, g3, g4, g5, g6⟩ => ⟨?_, g2, g3, g4, g5, g6⟩
    obtain ⟨l1, l2⟩ := tks_len n (s, C, E)
    rw [g1, l2]
    show Int32.ofNat (E.length + fs_tkg n (s, C, E)) - Int32.ofNat E.length = _
    rw [n_s (by omega), Nat.add_sub_cancel_left]
/-! flush -/
set_option maxRecDepth 100000 in
theorem w_flush {A : Nat → Nat} {x n : Nat} {t : Int32} (hx : x < 2) (hn : n ≤ 6) : ∀ (C : fs_Fs) (fuel i : Nat) (E : fs_Fs) (S : fs_R), fs_fr x C E S.2.1 → S.2.1 1 x = t → i + C.length = n → C.length < fuel → C.length + E.length ≤ 20 → (∀ q ∈ C, fs_by3 q.2) →
    fs_W A (fs_lp1 fuel (lb_Rf_flush_35 (A 0) (Int32.ofNat x) (Int32.ofNat n)) (Int32.ofNat i)) S fun r S1 => r = Int32.ofNat n ∧ S1.1 = S.1 ∧ S1.2.2 = S.2.2 ∧ fs_fr x [] (E ++ C.map (fs_ed t 5)) S1.2.1 ∧ fs_ofr x S.2.1 S1.2.1
  | [], fuel + 1, i, E, S, hf, ht, hi, _, _, _ => by
    have hin : i = n := by simpa using hi
    subst hin
    refine w_lp1 <| w_p (Int32.le_refl _) <| w_ret ⟨rfl, rfl, rfl, ?_, out_rf _ _⟩
    show fs_fr x [] (E ++ []) S.2.1
    rw [List.append_nil]
    exact hf
  | q :: l, fuel + 1, i, E, S, hf, ht, hi, hfu, h20, hb => by
    rw [List.length_cons] at hi hfu h20
    refine w_lp1 <| w_n (fun z => ?_) <| w_b (w_end (i := 0) (q := q) hx S hf rfl (by rw [List.length_cons]; omega) (by omega) (hb q List.mem_cons_self)) fun _ S1 ⟨g1, g2, g3, g4⟩ => w_m ?_
    · have := (n_le (by omega) (by omega)).mp z
      omega
    · rw [ofNat_add1]
      rw [ht] at g3
      have ht1 : S1.2.1 1 x = t := by
        rw [g4 1 x (by unfold fs_reg; omega)]
        exact ht
      refine w_mono (w_flush hx hn l fuel (i + 1) (E ++ [fs_ed t 5 q]) S1 g3 ht1 (by omega) (by omega) (by rw [List.length_append]; simp; omega) (fun p hp => hb p (List.mem_cons_of_mem _ hp))) fun r S2 ⟨k1, k2, k3, k4, k5⟩ => ⟨k1, k2.trans g1, k3.trans g2, ?_, out_tr g4 k5⟩
      rw [List.append_assoc] at k4
      exact k4
  | _, 0, _, _, _, _, _, _, h, _, _ => absurd h (Nat.not_lt_zero _)
theorem rf_bad {A : Nat → Nat} {x : Int32} {S : fs_R} (hb : ¬ (x = 0 ∨ x = 1)) : fs_W A (fs_cv (A 0) 12 (f_Rf_flush (A 0) x)) S fun _ S1 => S1 = r_pi_ S 0 1 :=
  w_cv <| w_nxb hb <| w_l <| w_n (by decide) <| w_pi0 <| w_gi 0 rfl <| w_n (by show ¬ (1 : Int32) = 0; decide) <| w_ret rfl
set_option maxRecDepth 100000 in
theorem rf_ok {A : Nat → Nat} {x : Nat} {t : Int32} {C E : fs_Fs} {S : fs_R} (hx : x < 2) (hf : fs_fr x C E S.2.1) (ht : S.2.1 1 x = t) (h6 : C.length ≤ 6) (h20 : C.length + E.length ≤ 20) (hb : ∀ q ∈ C, fs_by3 q.2) :
    fs_W A (fs_cv (A 0) 12 (f_Rf_flush (A 0) (Int32.ofNat x))) S fun r S1 => r = Int32.ofNat C.length ∧ S1.1 = upd S.1 0 0 ∧ S1.2.2 = S.2.2 ∧ fs_fr x [] (E ++ C.map (fs_ed t 5)) S1.2.1 ∧ fs_ofr x S.2.1 S1.2.1 := by
  refine w_cv <| w_nxk (x2 hx) <| w_l <| w_p rfl <| w_pi0 <| w_gi 0 rfl <| w_p rfl <| w_gr 7 rfl <| w_ai m7 rfl hx ?_
  have hf2 : fs_fr x C E (r_pi_ S 0 0).2.1 := hf
  rw [hf2.1]
  exact w_flush hx h6 C 4096 0 E (r_pi_ S 0 0) hf2 ht (by omega) (by omega) h20 hb
theorem rs_bad {A : Nat → Nat} {x y : Int32} {S : fs_R} (hb : ¬ (x = 0 ∨ x = 1) ∨ y < 1 ∨ ¬ y ≤ 9) : fs_W A (fs_cv (A 0) 12 (f_Rf_sampler (A 0) x y)) S fun _ S1 => S1 = r_pi_ S 0 1 := by
  have fin : ∀ {T : fs_T Unit}, fs_W A (fs_bind (fs_pi (A 0) 12 0 1) fun _ => fs_bind (fs_gi (A 0) 12 0) fun v3 => if v3 = 0 then T else fs_ret ()) S fun _ S1 => S1 = r_pi_ S 0 1 := fun {T} => w_pi0 <| w_gi 0 rfl <| w_n (by show ¬ (1 : Int32) = 0; decide) <| w_ret rfl
  by_cases hx : x = 0 ∨ x = 1
  · refine w_cv <| w_nxk hx <| w_l <| w_l <| w_p rfl ?_
    by_cases h1 : y < 1
    · exact w_p h1 fin
    · exact w_n h1 <| w_n (fun z => hb.elim (fun w => w hx) (fun w => w.elim h1 (fun w => w z))) fin
  · exact w_cv <| w_nxb hx <| w_l <| w_l <| w_n (by decide) fin
theorem rs_ok {A : Nat → Nat} {x : Nat} {y : Int32} {S : fs_R} (hx : x < 2) (h1 : ¬ y < 1) (h9 : y ≤ 9) : fs_W A (fs_cv (A 0) 12 (f_Rf_sampler (A 0) (Int32.ofNat x) y)) S fun _ S1 => S1 = r_si_ (r_si_ (r_pi_ S 0 0) 3 x y) 4 x 0 :=
  w_cv <| w_nxk (x2 hx) <| w_l <| w_l <| w_p rfl <| w_n h1 <| w_p h9 <| w_pi0 <| w_gi 0 rfl <| w_p rfl <| w_gr 3 rfl <| w_si m3 rfl hx <| w_gr 4 rfl <| w_si m4 rfl hx <| w_ret rfl
theorem re_bad {A : Nat → Nat} {x i f : Int32} {S : fs_R} (hb : ¬ (x = 0 ∨ x = 1) ∨ f < 0 ∨ ¬ f ≤ 7) : fs_W A (fs_cv (A 0) 12 (f_Rf_ended (A 0) x i f)) S fun _ S1 => S1 = r_pi_ S 0 1 := by
  have fin : ∀ {T : fs_T Int32}, fs_W A (fs_bind (fs_pi (A 0) 12 0 1) fun _ => fs_bind (fs_gi (A 0) 12 0) fun v3 => if v3 = 0 then T else fs_ret 0) S fun _ S1 => S1 = r_pi_ S 0 1 := fun {T} => w_pi0 <| w_gi 0 rfl <| w_n (by show ¬ (1 : Int32) = 0; decide) <| w_ret rfl
  by_cases hx : x = 0 ∨ x = 1
  · refine w_cv <| w_nxk hx <| w_l <| w_l <| w_p rfl ?_
    by_cases h1 : f < 0
    · exact w_p h1 fin
    · exact w_n h1 <| w_n (fun z => hb.elim (fun w => w hx) (fun w => w.elim h1 (fun w => w z))) fin
  · exact w_cv <| w_nxb hx <| w_l <| w_l <| w_n (by decide) fin
theorem re_ok {A : Nat → Nat} {x : Nat} {i f : Int32} {C E : fs_Fs} {S : fs_R} (hx : x < 2) (hf : fs_fr x C E S.2.1) (h20 : E.length ≤ 20) (h1 : ¬ f < 0) (h7 : f ≤ 7) :
    (i < 0 ∨ ¬ i < Int32.ofNat E.length → fs_W A (fs_cv (A 0) 12 (f_Rf_ended (A 0) (Int32.ofNat x) i f)) S fun _ S1 => S1 = r_pi_ S 0 2) ∧ ∀ j q, i = Int32.ofNat j → E[j]? = some q → fs_W A (fs_cv (A 0) 12 (f_Rf_ended (A 0) (Int32.ofNat x) i f)) S fun r S1 => S1 = r_pi_ S 0 0 ∧ r = fs_vo q.2 f := by
  have fin : ∀ {T : fs_T Int32}, fs_W A (fs_bind (fs_pi (A 0) 12 0 2) fun _ => fs_bind (fs_gi (A 0) 12 0) fun v3 => if v3 = 0 then T else fs_ret 0) S fun _ S1 => S1 = r_pi_ S 0 2 := fun {T} => w_pi0 <| w_gi 0 rfl <| w_n (by show ¬ (2 : Int32) = 0; decide) <| w_ret rfl
  refine ⟨fun hb => w_cv <| w_nxk (x2 hx) <| w_l <| w_l <| w_p rfl <| w_n h1 <| w_p h7 <| w_l ?_, fun j q hj hq => ?_⟩
  · by_cases h0 : i < 0
    · exact w_p h0 fin
    · refine w_n h0 <| w_gr 13 rfl <| w_ai m13 rfl hx ?_
      rw [hf.2.1]
      exact w_n (fun z => hb.elim h0 (fun w => w z)) fin
  · subst hj
    have hjl := (List.getElem?_eq_some_iff.mp hq).1
    obtain ⟨a1, a2⟩ := i_toN h1
    have a3 : f.toNatClampNeg ≤ 7 := i_le (n := 7) h7 (by decide)
    refine w_cv <| w_nxk (x2 hx) <| w_l <| w_l <| w_p rfl <| w_n h1 <| w_p h7 <| w_l <| w_n (Int32.ofNat_not_neg (by omega)) <| w_gr 13 rfl <| w_ai m13 rfl hx ?_
    rw [hf.2.1]
    refine w_p ((n_lt (by omega) (by omega)).mpr hjl) <| w_pi0 <| w_gi 0 rfl <| w_p rfl <| w_gr 14 rfl <| w_ai (j := 8 * (21 * x + j) + f.toNatClampNeg) m14 ?_ (by omega) <| w_ret ⟨rfl, ?_⟩
    · rw [show (21 : Int32) * Int32.ofNat x + Int32.ofNat j = Int32.ofNat (21 * x + j) from n_ma 21 x j]
      conv => lhs; rw [a1]
      exact n_ma 8 (21 * x + j) f.toNatClampNeg
    · show S.2.1 14 _ = _
      rw [hf.2.2.2 j q hq _ (by omega), ← a1]
