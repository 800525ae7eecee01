/-! the slot sealed last, in the reference; widths; one record -/
def fs_sr_ (x : Nat) (L : List fs_Sl) (v : Nat → Nat → Int32) : Prop := L.length = 3 ∧ (∀ t T, L[t]? = some T → fs_tr_ (3 * x + t) T v ∧ (¬ T.2.1 3 = 0 → ∃ rv, rv ≠ 0 ∧ rv < 2 ^ 31 ∧ T.2.1 4 = Int32.ofNat rv)) ∧ ∀ t T u U, L[t]? = some T → L[u]? = some U → ¬ T.2.1 3 = 0 → ¬ U.2.1 3 = 0 → (T.2.1 5 ≤ U.2.1 5 ↔ v 23 (3 * x + t) ≤ v 23 (3 * x + u))
def fs_li (x : Nat) (b : Option (Nat × Int32)) : Int32 := match b with
  | none => -1
  | some p => Int32.ofNat (3 * x + p.1)
theorem sr_19 {x t : Nat} {L : List fs_Sl} {T : fs_Sl} {v : Nat → Nat → Int32} (h : fs_sr_ x L v) (hT : L[t]? = some T) : v 19 (3 * x + t) ≤ 0 ↔ T.2.1 3 = 0 := by
  obtain ⟨-, h1, -⟩ := h
  obtain ⟨⟨-, -, -, h4, -⟩, h5⟩ := h1 t T hT
  rw [h4]
  by_cases h3 : T.2.1 3 = 0
  · rw [if_pos h3]
    exact ⟨fun _ => h3, fun _ => by decide⟩
  · rw [if_neg h3]
    obtain ⟨rv, r0, r1, r2⟩ := h5 h3
    rw [r2]
    exact ⟨fun z => by have := (n_le (y := 0) r1 (by decide)).mp z; omega, fun z => absurd z h3⟩
theorem w_last_loop {A : Nat → Nat} {x : Nat} {L : List fs_Sl} {S : fs_R} (hx : x < 2) (hL : fs_sr_ x L S.2.1) : ∀ (l : List fs_Sl) (fuel i : Nat) (b : Option (Nat × Int32)), L.drop i = l → i ≤ 3 → l.length < fuel → (∀ p, b = some p → ∃ T, L[p.1]? = some T ∧ T.2.1 5 = p.2 ∧ ¬ T.2.1 3 = 0) →
    fs_W A (fs_lp2 fuel (lb_Rf_last_6 (A 0) (Int32.ofNat x)) (fs_li x b) (Int32.ofNat (3 * x + i))) S fun r S1 => S1 = S ∧ r = fs_li x (fs_nl l i b)
  | [], fuel + 1, i, b, h1, h2, _, _ => by
    have h3 := hL.1
    have : L.length ≤ i := List.drop_eq_nil_iff.mp h1
    have hi : i = 3 := by omega
    subst hi
    refine w_lp2 <| w_p ?_ <| w_ret ⟨rfl, rfl⟩
    rw [show (3 : Int32) * Int32.ofNat x + 3 = Int32.ofNat (3 * x + 3) from n_ma 3 x 3]
    exact Int32.le_refl _
  | q :: l, fuel + 1, i, b, h1, h2, hf, hb => by
    have h3 := hL.1
    have hi : i < 3 := by
      have := congrArg List.length h1
      rw [List.length_drop, List.length_cons] at this
      omega
    have hq : L[i]? = some q := by
      have := congrArg (fun z : List fs_Sl => z[0]?) h1
      simpa using this
    have hd : L.drop (i + 1) = l := by
      have := congrArg List.tail h1
      simpa using this
    have hf' : l.length < fuel := by simp at hf; omega
    have h19 := sr_19 hL hq
    have es : fs_nl (q :: l) i b = fs_nl l (i + 1) (fs_nb (q.2.1 3) (q.2.1 5) i b) := rfl
    rw [es]
    refine w_lp2 <| w_n (fun z => ?_) <| w_gr 19 rfl <| w_ai m19 rfl (by omega) <| w_l <| w_l ?_
    · rw [show (3 : Int32) * Int32.ofNat x + 3 = Int32.ofNat (3 * x + 3) from n_ma 3 x 3] at z
      have := (n_le (by omega) (by omega)).mp z
      omega
    · by_cases h0 : q.2.1 3 = 0
      · rw [show fs_nb (q.2.1 3) (q.2.1 5) i b = b from if_pos h0]
        refine w_p (h19.mpr h0) <| w_m ?_
        rw [ofNat_add1]
        exact w_last_loop hx hL l fuel (i + 1) b hd (by omega) hf' hb
      · refine w_n (fun z => h0 (h19.mp z)) <| w_l ?_
        cases b with
        | none =>
          rw [show fs_nb (q.2.1 3) (q.2.1 5) i none = some (i, q.2.1 5) from if_neg h0]
          refine w_p (by show (-1 : Int32) < 0; decide) <| w_m ?_
          rw [ofNat_add1]
          exact w_last_loop hx hL l fuel (i + 1) (some (i, q.2.1 5)) hd (by omega) hf' (fun p hp => by cases hp; exact ⟨q, hq, rfl, h0⟩)
        | some p =>
          obtain ⟨T, hT, hT5, hT3⟩ := hb p rfl
          have hp3 : p.1 < 3 := by have := (List.getElem?_eq_some_iff.mp hT).1; omega
          have ho := hL.2.2 i q p.1 T hq hT h0 hT3
          rw [hT5] at ho
          rw [show fs_nb (q.2.1 3) (q.2.1 5) i (some p) = if q.2.1 5 ≤ p.2 then some p else some (i, q.2.1 5) from if_neg h0]
          refine w_n (Int32.ofNat_not_neg (by omega)) <| w_gr 23 rfl <| w_ai m23 rfl (by omega) <| w_gr 23 rfl <| w_ai m23 rfl (by omega) ?_
          by_cases hk : q.2.1 5 ≤ p.2
          · rw [show (if q.2.1 5 ≤ p.2 then some p else some (i, q.2.1 5)) = some p from if_pos hk]
            refine w_p (ho.mp hk) <| w_m ?_
            rw [ofNat_add1]
            exact w_last_loop hx hL l fuel (i + 1) (some p) hd (by omega) hf' hb
          · rw [show (if q.2.1 5 ≤ p.2 then some p else some (i, q.2.1 5)) = some (i, q.2.1 5) from if_neg hk]
            refine w_n (fun z => hk (ho.mpr z)) <| w_m ?_
            rw [ofNat_add1]
            exact w_last_loop hx hL l fuel (i + 1) (some (i, q.2.1 5)) hd (by omega) hf' (fun p hp => by cases hp; exact ⟨q, hq, rfl, h0⟩)
  | _, 0, _, _, _, _, h, _ => absurd h (Nat.not_lt_zero _)
set_option maxRecDepth 100000 in
theorem w_lastk {β : Type} {A : Nat → Nat} {x : Nat} {L : List fs_Sl} {S : fs_R} {K : Int32 → fs_T β} {Q : β → fs_R → Prop} (hx : x < 2) (hL : fs_sr_ x L S.2.1) (hk : fs_W A (K (fs_li x (fs_nl L 0 none))) S Q) : fs_W A (fs_bind (fs_cv (A 0) 12 (f_Rf_last (A 0) (Int32.ofNat x))) K) S Q := by
  refine w_b (P := fun r S1 => S1 = S ∧ r = fs_li x (fs_nl L 0 none)) (w_cv <| w_m ?_) fun r S1 ⟨e1, e2⟩ => by
    subst e1
    subst e2
    exact hk
  show fs_W A (fs_lp2 4096 (lb_Rf_last_6 (A 0) (Int32.ofNat x)) (-1) (3 * Int32.ofNat x)) _ _
  rw [show (3 : Int32) * Int32.ofNat x = Int32.ofNat (3 * x + 0) from n_m 3 x]
  exact w_last_loop hx hL L 4096 0 none rfl (by decide) (by have := hL.1; omega) (fun p hp => by cases hp)
theorem fb_n {n : Nat} (h : n < 2 ^ 31) : fs_fb (Int32.ofNat n) = if n < 256 then 1 else if n < 65536 then 2 else if n < 16777216 then 3 else 4 := by
  unfold fs_fb
  have z : ∀ m, m < 2 ^ 31 → (Int32.ofNat m = 0 ↔ m = 0) := fun m hm => ⟨fun w => n_inj (b := 0) hm (by decide) w, fun w => by rw [w]; rfl⟩
  have e1 : fs_ushr (Int32.ofNat n) 8 = Int32.ofNat (n / 256) := by
    rw [show (8 : Int32) = Int32.ofNat 8 by decide, n_ushr h (by decide), Nat.shiftRight_eq_div_pow]
  have e2 : fs_ushr (Int32.ofNat (n / 256)) 8 = Int32.ofNat (n / 256 / 256) := by
    rw [show (8 : Int32) = Int32.ofNat 8 by decide, n_ushr (by omega) (by decide), Nat.shiftRight_eq_div_pow]
  have e3 : fs_ushr (Int32.ofNat (n / 256 / 256)) 8 = Int32.ofNat (n / 256 / 256 / 256) := by
    rw [show (8 : Int32) = Int32.ofNat 8 by decide, n_ushr (by omega) (by decide), Nat.shiftRight_eq_div_pow]
  rw [e1, e2, e3]
  by_cases h1 : n < 256
  · rw [if_pos ((z _ (by omega)).mpr (by omega)), if_pos h1]
  · rw [if_neg (fun w => h1 (by have := (z _ (by omega)).mp w; omega)), if_neg h1]
    by_cases h2 : n < 65536
    · rw [if_pos ((z _ (by omega)).mpr (by omega)), if_pos h2]
    · rw [if_neg (fun w => h2 (by have := (z _ (by omega)).mp w; omega)), if_neg h2]
      by_cases h3 : n < 16777216
      · rw [if_pos ((z _ (by omega)).mpr (by omega)), if_pos h3]
      · rw [if_neg (fun w => h3 (by have := (z _ (by omega)).mp w; omega)), if_neg h3]
theorem w_width {β : Type} {A : Nat → Nat} {n : Nat} {S : fs_R} {K : Int32 → fs_T β} {Q : β → fs_R → Prop} (h : n < 2 ^ 31) (hk : fs_W A (K (Int32.ofNat (fs_fb (Int32.ofNat n)))) S Q) : fs_W A (fs_bind (fs_cv (A 0) 12 (f_Rf_widthOf (A 0) (Int32.ofNat n))) K) S Q := by
  rw [fb_n h] at hk
  refine w_b (P := fun r S1 => S1 = S ∧ r = Int32.ofNat (if n < 256 then 1 else if n < 65536 then 2 else if n < 16777216 then 3 else 4)) (w_cv ?_) fun r S1 ⟨e1, e2⟩ => by
    subst e1
    subst e2
    exact hk
  generalize hw : (if n < 256 then 1 else if n < 65536 then 2 else if n < 16777216 then 3 else 4) = w
  refine w_i (fun h1 => ?_) fun h1 => w_ret ⟨rfl, ?_⟩
  · have g1 := (n_le (x := 256) (by decide) h).mp h1
    refine w_i (fun h2 => ?_) fun h2 => w_ret ⟨rfl, ?_⟩
    · have g2 := (n_le (x := 65536) (by decide) h).mp h2
      refine w_i (fun h3 => w_ret ⟨rfl, ?_⟩) fun h3 => w_ret ⟨rfl, ?_⟩
      · have g3 := (n_le (x := 16777216) (by decide) h).mp h3
        rw [if_neg (by omega), if_neg (by omega), if_neg (by omega)] at hw
        rw [← hw]
        rfl
      · have g3 := Nat.lt_of_not_le fun z => h3 ((n_le (x := 16777216) (by decide) h).mpr z)
        rw [if_neg (by omega), if_neg (by omega), if_pos g3] at hw
        rw [← hw]
        rfl
    · have g2 := Nat.lt_of_not_le fun z => h2 ((n_le (x := 65536) (by decide) h).mpr z)
      rw [if_neg (by omega), if_pos g2] at hw
      rw [← hw]
      rfl
  · have g1 := Nat.lt_of_not_le fun z => h1 ((n_le (x := 256) (by decide) h).mpr z)
    rw [if_pos g1] at hw
    rw [← hw]
    rfl
/-- what a flow's values are like: not negative -/
def fs_vn (v : Nat → Int32) : Prop := ∀ k, k < 9 → ∃ n, n < 2 ^ 31 ∧ v k = Int32.ofNat n
theorem vo_n {v : Nat → Int32} (h : fs_vn v) (x : Int32) : ∃ n, n < 2 ^ 31 ∧ fs_vo v x = Int32.ofNat n := by
  unfold fs_vo
  split
  · exact h 0 (by decide)
  · split
    · exact h 1 (by decide)
    · split
      · exact h 2 (by decide)
      · split
        · exact h 4 (by decide)
        · split
          · exact h 5 (by decide)
          · split
            · exact h 3 (by decide)
            · split
              · exact h 7 (by decide)
              · exact h 8 (by decide)
/-- what is read of the layout and of one ended flow -/
def fs_rx (x a i u : Nat) (f g v : Nat → Int32) (S : fs_R) : Prop := S.2.1 20 a = Int32.ofNat u ∧ (∀ k, k < u → S.2.1 21 (8 * a + k) = f k ∧ S.2.1 22 (8 * a + k) = g k) ∧ ∀ j, j < 8 → S.2.1 14 (8 * (21 * x + i) + j) = fs_vo v (Int32.ofNat j)
theorem w_rec_loop {A : Nat → Nat} {x a i u : Nat} {f g v : Nat → Int32} {S : fs_R} (hx : x < 2) (ha : a < 6) (hi : i < 21) (hu : u ≤ 8) (hr : fs_rx x a i u f g v S) (hb : fs_bl f g u) (hv : fs_vn v) : ∀ (m fuel k : Nat) (t : Int32), k + m = u → m < fuel →
    fs_W A (fs_lp2 fuel (lb_Rf_recordOf_9 (A 0) (Int32.ofNat x) (Int32.ofNat a) (Int32.ofNat i)) t (Int32.ofNat (8 * a + k))) S fun r S1 => S1 = S ∧ r = fs_bf f g v k m t
  | 0, fuel + 1, k, t, hk, _ => by
    have hke : k = u := by omega
    subst hke
    refine w_lp2 <| w_gr 20 rfl <| w_ai m20 rfl ha ?_
    rw [hr.1, show (8 : Int32) * Int32.ofNat a + Int32.ofNat k = Int32.ofNat (8 * a + k) from n_ma 8 a k]
    exact w_p (Int32.le_refl _) <| w_ret ⟨rfl, rfl⟩
  | m + 1, fuel + 1, k, t, hk, hf => by
    obtain ⟨⟨j, hj, ej⟩, l, hl, el⟩ := hb k (by omega)
    obtain ⟨r1, r2⟩ := hr.2.1 k (by omega)
    obtain ⟨nv, hnv, env⟩ := vo_n hv (f k)
    refine w_lp2 <| w_gr 20 rfl <| w_ai m20 rfl ha ?_
    rw [hr.1, show (8 : Int32) * Int32.ofNat a + Int32.ofNat u = Int32.ofNat (8 * a + u) from n_ma 8 a u]
    refine w_n (fun z => ?_) <| w_gr 14 rfl <| w_gr 21 rfl <| w_ai m21 rfl (by omega) ?_
    · have := (n_le (by omega) (by omega)).mp z
      omega
    · rw [r1]
      refine w_ai (j := 8 * (21 * x + i) + j) m14 ?_ (by omega) ?_
      · rw [ej, show (21 : Int32) * Int32.ofNat x + Int32.ofNat i = Int32.ofNat (21 * x + i) from n_ma 21 x i]
        exact n_ma 8 _ j
      · rw [hr.2.2 j hj, ← ej]
        refine w_gr 22 rfl <| w_ai m22 rfl (by omega) ?_
        rw [r2]
        have es : fs_bf f g v k (m + 1) t = fs_bf f g v (k + 1) m (t + fs_wd f g v k) := rfl
        rw [es]
        refine w_l ?_
        by_cases hg0 : g k = 0
        · rw [show fs_wd f g v k = 1 + Int32.ofNat (fs_fb (fs_vo v (f k))) from if_pos hg0]
          rw [env]
          refine w_p hg0 <| w_width hnv <| w_m <| w_m ?_
          rw [ofNat_add1]
          exact w_rec_loop hx ha hi hu hr hb hv m fuel (k + 1) _ (by omega) (by omega)
        · rw [show fs_wd f g v k = g k from if_neg hg0]
          refine w_n hg0 <| w_gr 22 rfl <| w_ai m22 rfl (by omega) ?_
          rw [r2]
          refine w_m <| w_m ?_
          rw [ofNat_add1]
          exact w_rec_loop hx ha hi hu hr hb hv m fuel (k + 1) _ (by omega) (by omega)
  | _, 0, _, _, _, h => absurd h (Nat.not_lt_zero _)
set_option maxRecDepth 100000 in
theorem w_recordk {β : Type} {A : Nat → Nat} {x a i u : Nat} {f g v : Nat → Int32} {S : fs_R} {K : Int32 → fs_T β} {Q : β → fs_R → Prop} (hx : x < 2) (ha : a < 6) (hi : i < 21) (hu : u ≤ 8) (hr : fs_rx x a i u f g v S) (hb : fs_bl f g u) (hv : fs_vn v) (hk : fs_W A (K (fs_bf f g v 0 u 0)) S Q) : fs_W A (fs_bind (fs_cv (A 0) 12 (f_Rf_recordOf (A 0) (Int32.ofNat x) (Int32.ofNat a) (Int32.ofNat i))) K) S Q := by
  refine w_b (P := fun r S1 => S1 = S ∧ r = fs_bf f g v 0 u 0) (w_cv <| w_m ?_) fun r S1 ⟨e1, e2⟩ => by
    subst e1
    subst e2
    exact hk
  show fs_W A (fs_lp2 4096 (lb_Rf_recordOf_9 (A 0) (Int32.ofNat x) (Int32.ofNat a) (Int32.ofNat i)) 0 (8 * Int32.ofNat a)) _ _
  rw [show (8 : Int32) * Int32.ofNat a = Int32.ofNat (8 * a + 0) from n_m 8 a]
  exact w_rec_loop hx ha hi hu hr hb hv u 4096 0 0 (by omega) (by omega)
/-! how long things are -/
theorem an_used (x : Int32) : ∀ (n : Nat) (R : fs_Rp), R.2.2.1 + n ≤ 64 → (fs_an x R n).2.2.1 = R.2.2.1 + n
  | 0, _, _ => rfl
  | n + 1, R, h => by
    have e := ra_used (R := R) (fs_ushr x (8 * Int32.ofNat n)) (by omega)
    show (fs_an x (fs_ra R _) n).2.2.1 = _
    rw [an_used x n _ (by omega), e]
    omega
def fs_wdn (f g v : Nat → Int32) (i : Nat) : Nat := if g i = 0 then 1 + fs_fb (fs_vo v (f i)) else (g i).toNatClampNeg
def fs_bfn (f g v : Nat → Int32) : Nat → Nat → Nat
  | _, 0 => 0
  | i, m + 1 => fs_wdn f g v i + fs_bfn f g v (i + 1) m
theorem wd_n {f g v : Nat → Int32} {i : Nat} (h : ∃ l, l ≤ 4 ∧ g i = Int32.ofNat l) : fs_wd f g v i = Int32.ofNat (fs_wdn f g v i) ∧ fs_wdn f g v i ≤ 5 := by
  obtain ⟨l, hl, el⟩ := h
  have hfb := (fb_le (fs_vo v (f i))).2
  unfold fs_wd fs_wdn
  by_cases h0 : g i = 0
  · rw [if_pos h0, if_pos h0]
    exact ⟨by rw [Int32.ofNat_add]; rfl, by omega⟩
  · rw [if_neg h0, if_neg h0]
    have : (g i).toNatClampNeg = l := by rw [el]; exact Int32.toNatClampNeg_ofNat_of_lt (by omega)
    rw [this]
    exact ⟨el, by omega⟩
theorem bf_n {f g v : Nat → Int32} {u : Nat} (hb : fs_bl f g u) : ∀ (m k t : Nat), k + m ≤ u → fs_bf f g v k m (Int32.ofNat t) = Int32.ofNat (t + fs_bfn f g v k m) ∧ fs_bfn f g v k m ≤ 5 * m
  | 0, _, _, _ => ⟨rfl, Nat.le_refl _⟩
  | m + 1, k, t, h => by
    obtain ⟨w1, w2⟩ := wd_n (f := f) (v := v) (hb k (by omega)).2
    obtain ⟨i1, i2⟩ := bf_n (v := v) hb m (k + 1) (t + fs_wdn f g v k) (by omega)
    have e1 : fs_bf f g v k (m + 1) (Int32.ofNat t) = fs_bf f g v (k + 1) m (Int32.ofNat t + fs_wd f g v k) := rfl
    have e2 : fs_bfn f g v k (m + 1) = fs_wdn f g v k + fs_bfn f g v (k + 1) m := rfl
    rw [e1, e2, w1, ← Int32.ofNat_add, i1, Nat.add_assoc]
    exact ⟨rfl, by omega⟩
theorem wf_used {R : fs_Rp} {f g v : Nat → Int32} {i : Nat} (h : R.2.2.1 + fs_wdn f g v i ≤ 64) : (fs_wf R (fs_vo v (f i)) (g i)).2.2.1 = R.2.2.1 + fs_wdn f g v i := by
  unfold fs_wdn at h ⊢
  unfold fs_wf
  by_cases h0 : g i = 0
  · rw [if_pos h0] at h ⊢
    rw [if_pos h0]
    have e := ra_used (R := R) (Int32.ofNat (fs_fb (fs_vo v (f i)))) (by omega)
    rw [an_used _ _ _ (by omega), e]
    omega
  · rw [if_neg h0] at h ⊢
    rw [if_neg h0]
    exact an_used _ _ _ h
theorem lw_used {f g v : Nat → Int32} : ∀ (m i : Nat) (R : fs_Rp), R.2.2.1 + fs_bfn f g v i m ≤ 64 → (fs_lw f g v R i m).2.2.1 = R.2.2.1 + fs_bfn f g v i m
  | 0, _, _, _ => rfl
  | m + 1, i, R, h => by
    have e2 : fs_bfn f g v i (m + 1) = fs_wdn f g v i + fs_bfn f g v (i + 1) m := rfl
    rw [e2] at h ⊢
    have e := wf_used (R := R) (f := f) (g := g) (v := v) (i := i) (by omega)
    show (fs_lw f g v (fs_wf R _ _) (i + 1) m).2.2.1 = _
    rw [lw_used m (i + 1) _ (by omega), e]
    omega
