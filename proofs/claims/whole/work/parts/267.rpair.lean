/-! the other direction of a talk, in the reference -/
theorem abs_far (t : Int64) : fs_abs (-t) = if 0 ≤ t then t else -t := by
  unfold fs_abs
  rw [Int64.neg_neg]
  by_cases hm : t = Int64.minValue
  · subst hm
    decide
  · have hn : (-t).toInt = -t.toInt := by
      rw [Int64.toInt_neg]
      have h1 := Int64.le_toInt t
      have h2 := Int64.toInt_lt t
      have h3 : t.toInt ≠ -2 ^ 63 := fun z => hm (Int64.toInt_inj.mp z)
      exact Int.bmod_eq_of_le (by omega) (by omega)
    by_cases h : 0 ≤ t
    · rw [if_pos h, if_neg]
      intro z
      have h1 := Int64.le_iff_toInt_le.mp h
      have h2 := Int64.lt_iff_toInt_lt.mp z
      rw [hn] at h2
      have h0 : (0 : Int64).toInt = 0 := rfl
      omega
    · rw [if_neg h, if_pos]
      rw [Int64.lt_iff_toInt_lt, hn]
      rw [Int64.le_iff_toInt_le] at h
      have h0 : (0 : Int64).toInt = 0 := rfl
      omega
theorem tkd_far (v w : Nat → Int64) : fs_tkd v w = if 0 ≤ w 5 - v 5 then w 5 - v 5 else -(w 5 - v 5) := by
  unfold fs_tkd
  rw [← abs_far, Int64.neg_sub]
theorem rv_sw (x y : Int32) (v w : Nat → Int64) : fs_rv x v y w = fs_rv y w x v := by
  unfold fs_rv
  refine decide_eq_decide.mpr ⟨fun ⟨a, b, c, d⟩ => ⟨a.symm, c.symm, b.symm, d.symm⟩, fun ⟨a, b, c, d⟩ => ⟨a.symm, c.symm, b.symm, d.symm⟩⟩
theorem w_whole {A : Nat → Nat} {r : Nat} {V : fs_Vs} {S : fs_R} (hV : fs_rws V S) (hg : fs_vg V) (hVl : V.length ≤ 80) (hr : r < V.length) : fs_W A (fs_cv (A 0) 12 (f_Rf_isWhole (A 0) (Int32.ofNat r))) S fun b S1 => S1 = S ∧ b = if fs_pb (fs_va V r) = true then 1 else 0 := by
  obtain ⟨-, a2⟩ := rws_at hV hr
  have g : ∀ k, k < 8 → (lg_cmp (fs_va V r k) 0 < 0 ↔ fs_va V r k = -1) := fun k hk => v1_neg (vg_at hg hr hk)
  refine w_cv <| w_gr 39 rfl <| w_aj (n_m 8 r) (by omega) ?_
  rw [show 8 * r = 8 * r + 0 from rfl, a2 0 (by decide)]
  refine w_i (fun z => w_rz (Or.inl rfl) ⟨rfl, ?_⟩) fun z0 => w_gr 39 rfl <| w_aj (n_ma 8 r 1) (by omega) ?_
  · rw [show fs_pb (fs_va V r) = false from decide_eq_false fun q => q.1 ((g 0 (by decide)).mp z)]
    rfl
  rw [a2 1 (by decide)]
  refine w_i (fun z => w_rz (Or.inl rfl) ⟨rfl, ?_⟩) fun z1 => w_gr 39 rfl <| w_aj (n_ma 8 r 2) (by omega) ?_
  · rw [show fs_pb (fs_va V r) = false from decide_eq_false fun q => q.2.1 ((g 1 (by decide)).mp z)]
    rfl
  rw [a2 2 (by decide)]
  refine w_i (fun z => w_rz (Or.inl rfl) ⟨rfl, ?_⟩) fun z2 => w_gr 39 rfl <| w_aj (n_ma 8 r 5) (by omega) ?_
  · rw [show fs_pb (fs_va V r) = false from decide_eq_false fun q => q.2.2.1 ((g 2 (by decide)).mp z)]
    rfl
  rw [a2 5 (by decide)]
  refine w_i (fun z => w_rz (Or.inl rfl) ⟨rfl, ?_⟩) fun z5 => w_rz (Or.inr rfl) ⟨rfl, ?_⟩
  · rw [show fs_pb (fs_va V r) = false from decide_eq_false fun q => q.2.2.2 ((g 5 (by decide)).mp z)]
    rfl
  · rw [show fs_pb (fs_va V r) = true from decide_eq_true ⟨fun q => z0 ((g 0 (by decide)).mpr q), fun q => z1 ((g 1 (by decide)).mpr q), fun q => z2 ((g 2 (by decide)).mpr q), fun q => z5 ((g 5 (by decide)).mpr q)⟩]
    rfl
theorem w_wholek {β : Type} {A : Nat → Nat} {r : Nat} {V : fs_Vs} {S : fs_R} {K : Int32 → fs_T β} {Q : β → fs_R → Prop} (hV : fs_rws V S) (hg : fs_vg V) (hVl : V.length ≤ 80) (hr : r < V.length) (hk : fs_W A (K (if fs_pb (fs_va V r) = true then 1 else 0)) S Q) : fs_W A (fs_bind (fs_cv (A 0) 12 (f_Rf_isWhole (A 0) (Int32.ofNat r))) K) S Q := w_b (w_whole hV hg hVl hr) fun r S1 ⟨a, b⟩ => by
  subst a
  subst b
  exact hk
theorem w_backk {β : Type} {A : Nat → Nat} {r p : Nat} {V : fs_Vs} {S : fs_R} {K : Int32 → fs_T β} {Q : β → fs_R → Prop} (hV : fs_rws V S) (hVl : V.length ≤ 80) (hr : r < V.length) (hp : p < V.length) (hk : fs_W A (K (if fs_rv (fs_ex V p) (fs_va V p) (fs_ex V r) (fs_va V r) = true then 1 else 0)) S Q) : fs_W A (fs_bind (fs_cv (A 0) 12 (f_Rf_isBack (A 0) (Int32.ofNat r) (Int32.ofNat p))) K) S Q := by
  obtain ⟨a1, a2⟩ := rws_at hV hr
  obtain ⟨b1, b2⟩ := rws_at hV hp
  have a0 : S.2.2 (8 * r) = fs_va V r 0 := a2 0 (by decide)
  have b0 : S.2.2 (8 * p) = fs_va V p 0 := b2 0 (by decide)
  rw [rv_sw] at hk
  refine w_b (P := fun b S1 => S1 = S ∧ b = if fs_rv (fs_ex V r) (fs_va V r) (fs_ex V p) (fs_va V p) = true then 1 else 0) ?_ fun r S1 ⟨a, b⟩ => by
    subst a
    subst b
    exact hk
  refine w_cv <| w_gr 38 rfl <| w_ai m38 rfl (by omega) <| w_gr 38 rfl <| w_ai m38 rfl (by omega) ?_
  rw [a1, b1]
  refine w_i (fun z0 => w_gr 39 rfl <| w_aj (n_m 8 r) (by omega) <| w_gr 39 rfl <| w_aj (n_ma 8 p 1) (by omega) ?_) fun z => w_rz (Or.inl rfl) ⟨rfl, ?_⟩
  · rw [a0, b2 1 (by decide)]
    refine w_i (fun z1 => w_gr 39 rfl <| w_aj (n_ma 8 r 1) (by omega) <| w_gr 39 rfl <| w_aj (n_m 8 p) (by omega) ?_) fun z => w_rz (Or.inl rfl) ⟨rfl, ?_⟩
    · rw [a2 1 (by decide), b0]
      refine w_i (fun z2 => w_gr 39 rfl <| w_aj (n_ma 8 r 2) (by omega) <| w_gr 39 rfl <| w_aj (n_ma 8 p 2) (by omega) ?_) fun z => w_rz (Or.inl rfl) ⟨rfl, ?_⟩
      · rw [a2 2 (by decide), b2 2 (by decide)]
        refine w_i (fun z3 => w_rz (Or.inr rfl) ⟨rfl, ?_⟩) fun z => w_rz (Or.inl rfl) ⟨rfl, ?_⟩
        · rw [show fs_rv (fs_ex V r) (fs_va V r) (fs_ex V p) (fs_va V p) = true from decide_eq_true ⟨z0, (lg_0 _ _).mp z1, (lg_0 _ _).mp z2, (lg_0 _ _).mp z3⟩]
          rfl
        · rw [show fs_rv (fs_ex V r) (fs_va V r) (fs_ex V p) (fs_va V p) = false from decide_eq_false fun q => z ((lg_0 _ _).mpr q.2.2.2)]
          rfl
      · rw [show fs_rv (fs_ex V r) (fs_va V r) (fs_ex V p) (fs_va V p) = false from decide_eq_false fun q => z ((lg_0 _ _).mpr q.2.2.1)]
        rfl
    · rw [show fs_rv (fs_ex V r) (fs_va V r) (fs_ex V p) (fs_va V p) = false from decide_eq_false fun q => z ((lg_0 _ _).mpr q.2.1)]
      rfl
  · rw [show fs_rv (fs_ex V r) (fs_va V r) (fs_ex V p) (fs_va V p) = false from decide_eq_false fun q => z q.1]
    rfl
theorem w_fark {β : Type} {A : Nat → Nat} {r p : Nat} {V : fs_Vs} {S : fs_R} {K : Int64 → fs_T β} {Q : β → fs_R → Prop} (hV : fs_rws V S) (hVl : V.length ≤ 80) (hr : r < V.length) (hp : p < V.length) (hk : fs_W A (K (fs_tkd (fs_va V p) (fs_va V r))) S Q) : fs_W A (fs_bind (fs_cv (A 0) 12 (f_Rf_farness (A 0) (Int32.ofNat r) (Int32.ofNat p))) K) S Q := by
  obtain ⟨-, a2⟩ := rws_at hV hr
  obtain ⟨-, b2⟩ := rws_at hV hp
  refine w_b (P := fun b S1 => S1 = S ∧ b = fs_tkd (fs_va V p) (fs_va V r)) ?_ fun r S1 ⟨a, b⟩ => by
    subst a
    subst b
    exact hk
  rw [tkd_far]
  refine w_cv <| w_gr 39 rfl <| w_aj (n_ma 8 r 5) (by omega) <| w_gr 39 rfl <| w_aj (n_ma 8 p 5) (by omega) <| w_m ?_
  rw [a2 5 (by decide), b2 5 (by decide)]
  refine w_i (fun z => w_ret ⟨rfl, ?_⟩) fun z => w_ret ⟨rfl, ?_⟩
  · exact (if_pos ((lg_ge _ _).mp z)).symm
  · exact (if_neg fun q => z ((lg_ge _ _).mpr q)).symm
/-- pairs P and rows done D -/
def fs_pd2 (S : fs_R) (P D : Nat → Int32) : fs_R := (S.1, va_up (va_up S.2.1 48 P) 49 D, S.2.2)
theorem pd_P (S : fs_R) (P D : Nat → Int32) : (fs_pd2 S P D).2.1 48 = P := by
  show va_up (va_up S.2.1 48 P) 49 D 48 = P
  rw [va_up_ne _ _ (by decide), va_up_self]
theorem pd_D (S : fs_R) (P D : Nat → Int32) : (fs_pd2 S P D).2.1 49 = D := by
  show va_up (va_up S.2.1 48 P) 49 D 49 = D
  rw [va_up_self]
theorem pd_n {S : fs_R} {P D : Nat → Int32} {k : Nat} (h1 : k ≠ 48) (h2 : k ≠ 49) : (fs_pd2 S P D).2.1 k = S.2.1 k := by
  show va_up (va_up S.2.1 48 P) 49 D k = _
  rw [va_up_ne _ _ h2, va_up_ne _ _ h1]
theorem pd_id (S : fs_R) : fs_pd2 S (S.2.1 48) (S.2.1 49) = S := by
  refine Prod.ext rfl (Prod.ext (funext fun k => ?_) rfl)
  show va_up (va_up S.2.1 48 (S.2.1 48)) 49 (S.2.1 49) k = S.2.1 k
  unfold va_up
  by_cases h : k = 49
  · rw [if_pos h, h]
  · rw [if_neg h]
    by_cases h2 : k = 48
    · rw [if_pos h2, h2]
    · rw [if_neg h2]
theorem pd_si (S : fs_R) (P D : Nat → Int32) (j : Nat) (x : Int32) : r_si_ (fs_pd2 S P D) 48 j x = fs_pd2 S (upd P j x) D := by
  refine Prod.ext rfl (Prod.ext (funext fun k => ?_) rfl)
  show va_up (fs_pd2 S P D).2.1 48 (upd ((fs_pd2 S P D).2.1 48) j x) k = va_up (va_up S.2.1 48 (upd P j x)) 49 D k
  rw [pd_P]
  show va_up (va_up (va_up S.2.1 48 P) 49 D) 48 (upd P j x) k = _
  unfold va_up
  by_cases h : k = 48
  · rw [if_pos h, if_neg (by omega), if_pos h]
  · rw [if_neg h]
    by_cases h2 : k = 49
    · rw [if_pos h2, if_pos h2]
    · rw [if_neg h2, if_neg h, if_neg h2, if_neg h]
theorem pd_sz (S : fs_R) (P D : Nat → Int32) (j : Nat) (x : Int32) : r_si_ (fs_pd2 S P D) 49 j x = fs_pd2 S P (upd D j x) := by
  refine Prod.ext rfl (Prod.ext (funext fun k => ?_) rfl)
  show va_up (fs_pd2 S P D).2.1 49 (upd ((fs_pd2 S P D).2.1 49) j x) k = va_up (va_up S.2.1 48 P) 49 (upd D j x) k
  rw [pd_D]
  show va_up (va_up (va_up S.2.1 48 P) 49 D) 49 (upd D j x) k = _
  unfold va_up
  by_cases h : k = 49
  · rw [if_pos h, if_pos h]
  · rw [if_neg h, if_neg h, if_neg h]
theorem pd_rws {V : fs_Vs} {S : fs_R} (h : fs_rws V S) (P D : Nat → Int32) : fs_rws V (fs_pd2 S P D) := ⟨h.1, fun r q hq => ⟨by rw [pd_n (by decide) (by decide)]; exact (h.2 r q hq).1, (h.2 r q hq).2⟩⟩
/-- the first of the rows left -/
def fs_fk (va : Nat → Nat → Int64) (D : Nat → Int32) (i : Nat) (b : Option Nat) : Option Nat :=
  if D i = 0 then (if fs_pb (va i) = true then (match b with
    | none => some i
    | some k => if va k 5 ≤ va i 5 then some k else some i) else b) else b
def fs_lf_ (va : Nat → Nat → Int64) (D : Nat → Int32) : Nat → Nat → Option Nat → Option Nat
  | 0, _, b => b
  | m + 1, i, b => fs_lf_ va D m (i + 1) (fs_fk va D i b)
theorem fk_lt {va : Nat → Nat → Int64} {D : Nat → Int32} {i n : Nat} {b : Option Nat} (hi : i < n) (h : ∀ k, b = some k → k < n) : ∀ k, fs_fk va D i b = some k → k < n := fun k hk => by
  unfold fs_fk at hk
  split at hk
  · split at hk
    · cases b with
      | none => cases hk; exact hi
      | some p =>
        dsimp only at hk
        split at hk
        · exact h k hk
        · cases hk; exact hi
    · exact h k hk
  · exact h k hk
theorem w_first_loop {A : Nat → Nat} {V : fs_Vs} {S : fs_R} (hV : fs_rws V S) (hg : fs_vg V) (hVl : V.length ≤ 80) : ∀ (m fuel i : Nat) (b : Option Nat), i + m = V.length → m < fuel → (∀ k, b = some k → k < V.length) →
    fs_W A (fs_lp2 fuel (lb_Rf_firstLeft_4 (A 0)) (fs_o32 b) (Int32.ofNat i)) S fun r S1 => S1 = S ∧ r = fs_o32 (fs_lf_ (fs_va V) (S.2.1 49) m i b)
  | 0, fuel + 1, i, b, hi, _, _ => by
    refine w_lp2 <| w_gi 37 rfl ?_
    rw [hV.1]
    exact w_p ((n_le (by omega) (by omega)).mpr (by omega)) <| w_ret ⟨rfl, rfl⟩
  | m + 1, fuel + 1, i, b, hi, hf, hb => by
    have hil : i < V.length := by omega
    obtain ⟨-, a2⟩ := rws_at hV hil
    have es : fs_lf_ (fs_va V) (S.2.1 49) (m + 1) i b = fs_lf_ (fs_va V) (S.2.1 49) m (i + 1) (fs_fk (fs_va V) (S.2.1 49) i b) := rfl
    have rec_ : ∀ b', fs_fk (fs_va V) (S.2.1 49) i b = b' → fs_W A (fs_lp2 fuel (lb_Rf_firstLeft_4 (A 0)) (fs_o32 b') (Int32.ofNat i + 1)) S fun r S1 => S1 = S ∧ r = fs_o32 (fs_lf_ (fs_va V) (S.2.1 49) (m + 1) i b) := fun b' e => by
      rw [es, ofNat_add1 i, e]
      exact w_first_loop hV hg hVl m fuel (i + 1) b' (by omega) (by omega) (by rw [← e]; exact fk_lt hil hb)
    refine w_lp2 <| w_gi 37 rfl ?_
    rw [hV.1]
    refine w_n (fun z => ?_) <| w_gr 49 rfl <| w_az m49 rfl (by omega) <| w_l <| w_l ?_
    · have := (n_le (by omega) (by omega)).mp z
      omega
    by_cases c1 : S.2.1 49 i = 0
    · refine w_p c1 <| w_wholek hV hg hVl hil ?_
      cases c2 : fs_pb (fs_va V i) with
      | false => exact w_p rfl <| w_l <| w_p rfl <| w_m <| rec_ b (by unfold fs_fk; rw [if_pos c1, c2]; rfl)
      | true =>
        refine w_n (by decide) <| w_l ?_
        cases b with
        | none => exact w_p (by decide) <| w_l <| w_n (by decide) <| w_m <| rec_ (some i) (by unfold fs_fk; rw [if_pos c1, c2]; rfl)
        | some p =>
          have hp := hb p rfl
          obtain ⟨-, b2⟩ := rws_at hV hp
          refine w_n (Int32.ofNat_not_neg (by omega)) <| w_gr 39 rfl <| w_aj (n_ma 8 i 5) (by omega) <| w_gr 39 rfl <| w_aj (n_ma 8 p 5) (by omega) ?_
          rw [a2 5 (by decide), b2 5 (by decide)]
          by_cases c3 : fs_va V p 5 ≤ fs_va V i 5
          · exact w_p ((lg_ge _ _).mpr c3) <| w_l <| w_p rfl <| w_m <| rec_ (some p) (by unfold fs_fk; rw [if_pos c1, c2]; exact if_pos c3)
          · exact w_n (fun z => c3 ((lg_ge _ _).mp z)) <| w_l <| w_n (by decide) <| w_m <| rec_ (some i) (by unfold fs_fk; rw [if_pos c1, c2]; exact if_neg c3)
    · exact w_n c1 <| w_l <| w_p rfl <| w_m <| rec_ b (if_neg c1)
  | _, 0, _, _, _, h, _ => absurd h (Nat.not_lt_zero _)
set_option maxRecDepth 100000 in
theorem w_firstk {β : Type} {A : Nat → Nat} {V : fs_Vs} {S : fs_R} {K : Int32 → fs_T β} {Q : β → fs_R → Prop} (hV : fs_rws V S) (hg : fs_vg V) (hVl : V.length ≤ 80) (hk : fs_W A (K (fs_o32 (fs_lf_ (fs_va V) (S.2.1 49) V.length 0 none))) S Q) : fs_W A (fs_bind (fs_cv (A 0) 12 (f_Rf_firstLeft (A 0))) K) S Q := w_b (w_cv (w_first_loop hV hg hVl V.length 4096 0 none (by omega) (by omega) (fun k hk => by cases hk))) fun r S1 ⟨a, b⟩ => by
  subst a
  subst b
  exact hk
