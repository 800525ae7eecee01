/-! rows, sums, counts: in the reference -/
def fs_v1 (x : Int64) : Prop := x = -1 ∨ ∃ n, n < 2 ^ 32 ∧ x = Int64.ofNat n
def fs_vg (V : fs_Vs) : Prop := ∀ q ∈ V, ∀ j, j < 8 → fs_v1 (q.2 j)
theorem lg_lt (x y : Int64) : lg_cmp x y < 0 ↔ x < y := by
  rw [← Int32.not_le, lg_ge, Int64.not_le]
theorem v1_neg {x : Int64} (h : fs_v1 x) : lg_cmp x 0 < 0 ↔ x = -1 := by
  rw [lg_lt]
  rcases h with rfl | ⟨n, hn, rfl⟩
  · exact ⟨fun _ => rfl, fun _ => by decide⟩
  · have h0 : ¬ Int64.ofNat n < 0 := by
      rw [Int64.lt_iff_toInt_lt, Int64.toInt_ofNat_of_lt (by omega)]
      show ¬ _ < (0 : Int)
      omega
    exact ⟨fun z => absurd z h0, fun z => absurd (by rw [z]; decide) h0⟩
theorem rws_at {V : fs_Vs} {S : fs_R} (h : fs_rws V S) {r : Nat} (hr : r < V.length) : S.2.1 38 r = fs_ex V r ∧ ∀ j, j < 8 → S.2.2 (8 * r + j) = fs_va V r j := by
  have hq : V[r]? = some V[r] := List.getElem?_eq_getElem hr
  have e : V.getD r (0, fun _ => 0) = V[r] := by rw [List.getD_eq_getElem?_getD, hq]; rfl
  unfold fs_ex fs_va
  rw [e]
  exact h.2 r _ hq
theorem vg_at {V : fs_Vs} (h : fs_vg V) {r : Nat} (hr : r < V.length) {j : Nat} (hj : j < 8) : fs_v1 (fs_va V r j) := by
  have hq : V[r]? = some V[r] := List.getElem?_eq_getElem hr
  have e : V.getD r (0, fun _ => 0) = V[r] := by rw [List.getD_eq_getElem?_getD, hq]; rfl
  unfold fs_va
  rw [e]
  exact h _ (List.getElem_mem hr) j hj
theorem rr_rows {A : Nat → Nat} {S : fs_R} : fs_W A (fs_cv (A 0) 12 (f_Rf_rows (A 0))) S fun r S1 => S1 = r_pi_ S 0 0 ∧ r = S.1 37 := w_cv <| w_pi0 <| w_gi 37 rfl <| w_ret ⟨rfl, rfl⟩
theorem rrw_bad {A : Nat → Nat} {x f : Int32} {S : fs_R} (h : x < 0 ∨ ¬ x < S.1 37) : fs_W A (fs_cv (A 0) 12 (f_Rf_row (A 0) x f)) S fun _ S1 => S1 = r_pi_ S 0 1 := by
  have fin : ∀ {T : fs_T Int64}, fs_W A (fs_bind (fs_pi (A 0) 12 0 1) fun _ => fs_bind (fs_gi (A 0) 12 0) fun v3 => if v3 = 0 then T else fs_ret 0) S fun _ S1 => S1 = r_pi_ S 0 1 := fun {T} => w_pi0 <| w_gi 0 rfl <| w_n (by show ¬ (1 : Int32) = 0; decide) <| w_ret rfl
  refine w_cv <| w_l <| w_l ?_
  by_cases h0 : x < 0
  · exact w_p h0 fin
  · exact w_n h0 <| w_gi 37 rfl <| w_n (h.elim (fun z => absurd z h0) id) fin
theorem rrw_ok {A : Nat → Nat} {r : Nat} {f : Int32} {V : fs_Vs} {S : fs_R} (hV : fs_rws V S) (hVl : V.length ≤ 80) (hr : r < V.length) :
    (f < 0 ∨ ¬ f ≤ 8 → fs_W A (fs_cv (A 0) 12 (f_Rf_row (A 0) (Int32.ofNat r) f)) S fun _ S1 => S1 = r_pi_ S 0 2) ∧ (f = 8 → fs_W A (fs_cv (A 0) 12 (f_Rf_row (A 0) (Int32.ofNat r) f)) S fun v S1 => S1 = r_pi_ S 0 0 ∧ v = Int32.toInt64 (fs_ex V r)) ∧ ∀ k, f = Int32.ofNat k → k < 8 → fs_W A (fs_cv (A 0) 12 (f_Rf_row (A 0) (Int32.ofNat r) f)) S fun v S1 => S1 = r_pi_ S 0 0 ∧ v = fs_va V r k := by
  have h0 : ¬ Int32.ofNat r < 0 := Int32.ofNat_not_neg (by omega)
  have h1 : Int32.ofNat r < S.1 37 := by rw [hV.1]; exact (n_lt (by omega) (by omega)).mpr hr
  obtain ⟨a1, a2⟩ := rws_at hV hr
  have fin : ∀ {T : fs_T Int64}, fs_W A (fs_bind (fs_pi (A 0) 12 0 2) fun _ => fs_bind (fs_gi (A 0) 12 0) fun v3 => if v3 = 0 then T else fs_ret 0) S fun _ S1 => S1 = r_pi_ S 0 2 := fun {T} => w_pi0 <| w_gi 0 rfl <| w_n (by show ¬ (2 : Int32) = 0; decide) <| w_ret rfl
  refine ⟨fun hb => ?_, fun h8 => ?_, fun k hk hk8 => ?_⟩
  · refine w_cv <| w_l <| w_l <| w_n h0 <| w_gi 37 rfl <| w_p h1 <| w_l ?_
    by_cases hf0 : f < 0
    · exact w_p hf0 fin
    · exact w_n hf0 <| w_n (hb.elim (fun z => absurd z hf0) id) fin
  · subst h8
    refine w_cv <| w_l <| w_l <| w_n h0 <| w_gi 37 rfl <| w_p h1 <| w_l <| w_n (by decide) <| w_p (by decide) <| w_pi0 <| w_gi 0 rfl <| w_p rfl <| w_p rfl <| w_gr 38 rfl <| w_ai m38 rfl (by omega) <| w_ret ⟨rfl, ?_⟩
    show Int32.toInt64 (S.2.1 38 r) = _
    rw [a1]
  · subst hk
    refine w_cv <| w_l <| w_l <| w_n h0 <| w_gi 37 rfl <| w_p h1 <| w_l <| w_n (Int32.ofNat_not_neg (by omega)) <| w_p ((n_le (y := 8) (by omega) (by decide)).mpr (by omega)) <| w_pi0 <| w_gi 0 rfl <| w_p rfl <| w_n (fun z => by have := n_inj (b := 8) (by omega) (by decide) z; omega) <| w_gr 39 rfl <| w_aj (n_ma 8 r k) (by omega) <| w_ret ⟨rfl, a2 k hk8⟩
/-! sums -/
theorem rtt_bad {A : Nat → Nat} {x f w : Int32} {y : Int64} {V : fs_Vs} {S : fs_R} (hV : fs_rws V S) (hVl : V.length ≤ 80) (hb : ¬ (x = 0 ∨ x = 1) ∨ f < 0 ∨ 7 < f ∨ w < 0 ∨ ¬ w ≤ 7) : fs_W A (fs_cv (A 0) 12 (f_Rf_total (A 0) x f y w)) S fun _ S1 => S1 = r_pi_ S 0 1 := by
  have fin : fs_W A (fs_bind (fs_pi (A 0) 12 0 1) fun _ => fs_lp2 4096 (lb_Rf_total_45 (A 0) x f y w) 0 0) S fun _ S1 => S1 = r_pi_ S 0 1 := by
    refine w_pi0 <| w_lp2 <| w_gi 37 rfl <| w_l <| w_i (fun _ => w_ret rfl) fun _ => w_gi 0 rfl <| w_n (by show ¬ (1 : Int32) = 0; decide) <| w_ret rfl
  by_cases hx : x = 0 ∨ x = 1
  · refine w_cv <| w_nxk hx <| w_l <| w_l <| w_p rfl ?_
    by_cases h1 : f < 0
    · exact w_p h1 fin
    · refine w_n h1 ?_
      by_cases h2 : 7 < f
      · exact w_p h2 fin
      · refine w_n h2 ?_
        by_cases h3 : w < 0
        · exact w_p h3 fin
        · exact w_n h3 <| w_n (fun z => hb.elim (fun q => q hx) (fun q => q.elim h1 (fun q => q.elim h2 (fun q => q.elim h3 (fun q => q z))))) fin
  · exact w_cv <| w_nxb hx <| w_l <| w_l <| w_n (by decide) fin
theorem w_tot {A : Nat → Nat} {k j : Nat} {x : Int32} {y : Int64} {V : fs_Vs} {S : fs_R} (hV : fs_rws V S) (hg : fs_vg V) (hVl : V.length ≤ 80) (hk : k < 8) (hj : j < 8) (hth : S.1 0 = 0) : ∀ (m fuel i : Nat) (t : Int64), i + m = V.length → m < fuel →
    fs_W A (fs_lp2 fuel (lb_Rf_total_45 (A 0) x (Int32.ofNat k) y (Int32.ofNat j)) t (Int32.ofNat i)) S fun r S1 => S1 = S ∧ r = fs_s1 (fs_ex V) (fs_va V) x k y j m i t
  | 0, fuel + 1, i, t, hi, _ => by
    refine w_lp2 <| w_gi 37 rfl ?_
    rw [hV.1]
    exact w_l <| w_p ((n_le (by omega) (by omega)).mpr (by omega)) <| w_ret ⟨rfl, rfl⟩
  | m + 1, fuel + 1, i, t, hi, hf => by
    obtain ⟨a1, a2⟩ := rws_at hV (r := i) (by omega)
    have gk := v1_neg (vg_at hg (r := i) (by omega) hk)
    have gj := v1_neg (vg_at hg (r := i) (by omega) hj)
    have es : fs_s1 (fs_ex V) (fs_va V) x k y j (m + 1) i t = fs_s1 (fs_ex V) (fs_va V) x k y j m (i + 1) (if fs_ex V i = x then (if fs_va V i k = -1 then t else if fs_va V i k = y then (if fs_va V i j = -1 then t else t + fs_va V i j) else t) else t) := rfl
    have rec_ : ∀ t', fs_W A (fs_lp2 fuel (lb_Rf_total_45 (A 0) x (Int32.ofNat k) y (Int32.ofNat j)) t' (Int32.ofNat i + 1)) S fun r S1 => S1 = S ∧ r = fs_s1 (fs_ex V) (fs_va V) x k y j m (i + 1) t' := fun t' => by
      rw [ofNat_add1]
      exact w_tot hV hg hVl hk hj hth m fuel (i + 1) t' (by omega) (by omega)
    have no : (if fs_ex V i = x then (if fs_va V i k = -1 then t else if fs_va V i k = y then (if fs_va V i j = -1 then t else t + fs_va V i j) else t) else t) = t → fs_W A (fs_lp2 fuel (lb_Rf_total_45 (A 0) x (Int32.ofNat k) y (Int32.ofNat j)) (t + 0) (Int32.ofNat i + 1)) S fun r S1 => S1 = S ∧ r = fs_s1 (fs_ex V) (fs_va V) x k y j (m + 1) i t := fun e => by
      rw [Int64.add_zero, es, e]
      exact rec_ t
    refine w_lp2 <| w_gi 37 rfl ?_
    rw [hV.1]
    refine w_l <| w_n (fun z => ?_) <| w_gi 0 rfl <| w_p hth <| w_gr 38 rfl <| w_ai m38 rfl (by omega) ?_
    · have := (n_le (by omega) (by omega)).mp z
      omega
    · rw [a1]
      refine w_l <| w_l ?_
      by_cases c1 : fs_ex V i = x
      · refine w_p c1 <| w_gr 39 rfl <| w_aj (n_ma 8 i k) (by omega) ?_
        rw [a2 k hk]
        by_cases c2 : fs_va V i k = -1
        · exact w_p (gk.mpr c2) <| w_l <| w_p rfl <| w_m <| w_m <| no (by rw [if_pos c1, if_pos c2])
        · refine w_n (fun z => c2 (gk.mp z)) <| w_gr 39 rfl <| w_aj (n_ma 8 i k) (by omega) ?_
          rw [a2 k hk]
          by_cases c3 : fs_va V i k = y
          · refine w_p ((lg_0 _ _).mpr c3) <| w_gr 39 rfl <| w_aj (n_ma 8 i j) (by omega) ?_
            rw [a2 j hj]
            by_cases c4 : fs_va V i j = -1
            · exact w_p (gj.mpr c4) <| w_l <| w_p rfl <| w_m <| w_m <| no (by rw [if_pos c1, if_neg c2, if_pos c3, if_pos c4])
            · refine w_n (fun z => c4 (gj.mp z)) <| w_l <| w_n (by decide) <| w_gr 39 rfl <| w_aj (n_ma 8 i j) (by omega) ?_
              rw [a2 j hj]
              refine w_m <| w_m ?_
              rw [es, if_pos c1, if_neg c2, if_pos c3, if_neg c4]
              exact rec_ _
          · exact w_n (fun z => c3 ((lg_0 _ _).mp z)) <| w_l <| w_p rfl <| w_m <| w_m <| no (by rw [if_pos c1, if_neg c2, if_neg c3])
      · exact w_n c1 <| w_l <| w_p rfl <| w_m <| w_m <| no (if_neg c1)
  | _, 0, _, _, _, h => absurd h (Nat.not_lt_zero _)
set_option maxRecDepth 100000 in
theorem rtt_ok {A : Nat → Nat} {k j : Nat} {x : Int32} {y : Int64} {V : fs_Vs} {S : fs_R} (hV : fs_rws V S) (hg : fs_vg V) (hVl : V.length ≤ 80) (hx : x = 0 ∨ x = 1) (hk : k < 8) (hj : j < 8) : fs_W A (fs_cv (A 0) 12 (f_Rf_total (A 0) x (Int32.ofNat k) y (Int32.ofNat j))) S fun r S1 => S1 = r_pi_ S 0 0 ∧ r = fs_s1 (fs_ex V) (fs_va V) x k y j V.length 0 0 := by
  refine w_cv <| w_nxk hx <| w_l <| w_l <| w_p rfl <| w_n (Int32.ofNat_not_neg (by omega)) <| w_n (fun z => ?_) <| w_n (Int32.ofNat_not_neg (by omega)) <| w_p ((n_le (y := 7) (by omega) (by decide)).mpr (by omega)) <| w_pi0 ?_
  · have := (n_lt (x := 7) (by decide) (by omega)).mp z
    omega
  · have hV2 : fs_rws V (r_pi_ S 0 0) := hV
    exact w_tot hV2 hg hVl hk hj rfl V.length 4096 0 0 (by omega) (by omega)
/-! records lost -/
/-- what both ways of counting know at place i -/
def fs_lv (i : Nat) (x y z a l c : Int32) : Prop := (z = 0 ∧ x = 0 ∧ y = 0 ∧ a = -1 ∧ c = 0) ∨ (z = 1 ∧ ∃ F L M, F ≤ L ∧ L < i ∧ M ≤ L - F + 1 ∧ 1 ≤ M ∧ a = Int32.ofNat F ∧ l = Int32.ofNat L ∧ c = Int32.ofNat M ∧ x = Int32.ofNat (L - F + 1 - M) ∧ y = Int32.ofNat (i - 1 - L))
theorem w_l22 {A : Nat → Nat} {x e : Nat} {v1 : Int32} {k4 : Int32 → Int32 → fs_T Int32} {H : Nat → Int32} {S : fs_R} {Q : Int32 → fs_R → Prop} (hx : x < 2) (he : e < 6) (hH : ∀ j, j < 600 → S.2.1 36 (600 * x + j) = H j) : ∀ (m fuel i : Nat) (lx ly lz a l c : Int32), i + m = 100 → m < fuel → fs_lv i lx ly lz a l c → fs_W A (k4 (v1 + fs_ls1 H (e * 100) m i lx ly lz) (Int32.ofNat e + 1)) S Q →
    fs_W A (fs_lp4 fuel (lb_Rf_lostOf_22 (A 0) (Int32.ofNat x) v1 (Int32.ofNat e) k4) a l c (Int32.ofNat i)) S Q
  | 0, fuel + 1, i, lx, ly, lz, a, l, c, hi, _, hv, hq => by
    have hq2 : fs_W A (k4 (v1 + lx) (Int32.ofNat e + 1)) S Q := hq
    refine w_lp4 <| w_p ((n_le (x := 100) (by decide) (by omega)).mpr (by omega)) <| w_l ?_
    rcases hv with ⟨-, rfl, -, -, rfl⟩ | ⟨-, F, L, M, h1, h2, h3, h4, rfl, rfl, rfl, rfl, -⟩
    · exact w_p rfl <| w_m <| w_m hq2
    · refine w_n (fun z => by have := n_inj (b := 0) (by omega) (by decide) z; omega) <| w_m <| w_m ?_
      rw [n_s h1, ofNat_add1, n_s (by omega)]
      exact hq2
  | m + 1, fuel + 1, i, lx, ly, lz, a, l, c, hi, hf, hv, hq => by
    have es : fs_ls1 H (e * 100) (m + 1) i lx ly lz = if H (e * 100 + i) = 0 then (if lz = 0 then fs_ls1 H (e * 100) m (i + 1) lx ly lz else fs_ls1 H (e * 100) m (i + 1) lx (ly + 1) lz) else fs_ls1 H (e * 100) m (i + 1) (lx + ly) 0 1 := rfl
    have ix : (600 : Int32) * Int32.ofNat x + 100 * Int32.ofNat e + Int32.ofNat i = Int32.ofNat (600 * x + (e * 100 + i)) := by
      rw [show 600 * x + (e * 100 + i) = 600 * x + 100 * e + i by omega, Int32.ofNat_add, Int32.ofNat_add, Int32.ofNat_mul, Int32.ofNat_mul]
      rfl
    refine w_lp4 <| w_n (fun z => ?_) <| w_gr 36 rfl <| w_az m36 ix (by omega) ?_
    · have := (n_le (x := 100) (by decide) (by omega)).mp z
      omega
    · rw [hH _ (by omega)]
      refine w_l ?_
      by_cases h0 : H (e * 100 + i) = 0
      · refine w_p h0 <| w_m ?_
        rw [ofNat_add1]
        rw [es, if_pos h0] at hq
        rcases hv with ⟨rfl, rfl, rfl, rfl, rfl⟩ | ⟨rfl, F, L, M, h1, h2, h3, h4, rfl, rfl, rfl, rfl, rfl⟩
        · rw [if_pos rfl] at hq
          exact w_l22 hx he hH m fuel (i + 1) 0 0 0 (-1) l 0 (by omega) (by omega) (Or.inl ⟨rfl, rfl, rfl, rfl, rfl⟩) hq
        · rw [if_neg (by decide)] at hq
          refine w_l22 hx he hH m fuel (i + 1) _ (Int32.ofNat (i - 1 - L) + 1) 1 _ _ _ (by omega) (by omega) (Or.inr ⟨rfl, F, L, M, h1, by omega, h3, h4, rfl, rfl, rfl, rfl, ?_⟩) hq
          rw [ofNat_add1, show i + 1 - 1 - L = i - 1 - L + 1 by omega]
      · refine w_n h0 <| w_l ?_
        rw [es, if_neg h0] at hq
        rcases hv with ⟨rfl, rfl, rfl, rfl, rfl⟩ | ⟨rfl, F, L, M, h1, h2, h3, h4, rfl, rfl, rfl, rfl, rfl⟩
        · refine w_n (by decide) <| w_m <| w_m ?_
          rw [ofNat_add1 i]
          exact w_l22 hx he hH m fuel (i + 1) (0 + 0) 0 1 (Int32.ofNat i) (Int32.ofNat i) (0 + 1) (by omega) (by omega) (Or.inr ⟨rfl, i, i, 1, Nat.le_refl _, by omega, by omega, Nat.le_refl _, rfl, rfl, rfl, by rw [Nat.sub_self]; rfl, by rw [show i + 1 - 1 - i = 0 by omega]; rfl⟩) hq
        · refine w_p (Int32.not_lt.mp (Int32.ofNat_not_neg (by omega))) <| w_m <| w_m ?_
          rw [ofNat_add1 i]
          refine w_l22 hx he hH m fuel (i + 1) (Int32.ofNat (L - F + 1 - M) + Int32.ofNat (i - 1 - L)) 0 1 (Int32.ofNat F) (Int32.ofNat i) (Int32.ofNat M + 1) (by omega) (by omega) (Or.inr ⟨rfl, F, i, M + 1, by omega, by omega, by omega, by omega, rfl, rfl, ofNat_add1 M, ?_, ?_⟩) hq
          · rw [n_a]
            congr 1
            omega
          · rw [show i + 1 - 1 - i = 0 by omega]
            rfl
  | _, 0, _, _, _, _, _, _, _, _, h, _, _ => absurd h (Nat.not_lt_zero _)
set_option maxRecDepth 100000 in
theorem w_lost {A : Nat → Nat} {x : Nat} {H : Nat → Int32} {S : fs_R} (hx : x < 2) (hH : ∀ j, j < 600 → S.2.1 36 (600 * x + j) = H j) : fs_W A (fs_cv (A 0) 12 (f_Rf_lostOf (A 0) (Int32.ofNat x))) S fun r S1 => S1 = S ∧ r = fs_ls2 H := by
  have one : ∀ (e : Nat) (fuel : Nat) (t : Int32) {Q : Int32 → fs_R → Prop}, e < 6 → fs_W A (fs_lp2 fuel (lb_Rf_lostOf_4 (A 0) (Int32.ofNat x)) (t + fs_ls1 H (e * 100) 100 0 0 0 0) (Int32.ofNat e + 1)) S Q → fs_W A (fs_lp2 (fuel + 1) (lb_Rf_lostOf_4 (A 0) (Int32.ofNat x)) t (Int32.ofNat e)) S Q := fun e fuel t Q he h => by
    refine w_lp2 <| w_n (fun z => ?_) <| w_l22 (v1 := t) (k4 := fs_lp2 fuel (lb_Rf_lostOf_4 (A 0) (Int32.ofNat x))) hx he hH 100 4096 0 0 0 0 (-1) (-1) 0 rfl (by decide) (Or.inl ⟨rfl, rfl, rfl, rfl, rfl⟩) h
    have := (n_le (x := 6) (by decide) (by omega)).mp z
    omega
  refine w_cv <| one 0 4095 0 (by decide) <| one 1 4094 _ (by decide) <| one 2 4093 _ (by decide) <| one 3 4092 _ (by decide) <| one 4 4091 _ (by decide) <| one 5 4090 _ (by decide) <| w_lp2 <| w_p (by decide) <| w_ret ⟨rfl, rfl⟩
