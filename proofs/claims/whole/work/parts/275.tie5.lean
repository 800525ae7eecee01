/-! reports written, on both sides -/
theorem and_by (x : Int32) : ∃ b, b ≤ 255 ∧ x &&& 255 = Int32.ofNat b := by
  refine ⟨(x &&& 255).toBitVec.toNat, ?_, ?_⟩
  · rw [show (x &&& 255).toBitVec = x.toBitVec &&& 255#32 from rfl, BitVec.toNat_and]
    exact Nat.and_le_right
  · refine Int32.toBitVec_inj.mp ?_
    rw [Int32.toBitVec_ofNat', BitVec.ofNat_toNat, BitVec.setWidth_eq]
def fs_gp (R : fs_Rp) : Prop := R.2.2.1 ≤ 64 ∧ fs_by R.2.2.2
theorem ra_gp {R : fs_Rp} (h : fs_gp R) (x : Int32) : fs_gp (fs_ra R x) ∧ R.2.2.1 ≤ (fs_ra R x).2.2.1 := by
  unfold fs_ra
  split
  · rename_i hl
    refine ⟨⟨hl, fun i => ?_⟩, by dsimp only; omega⟩
    show ∃ b, b ≤ 255 ∧ upd R.2.2.2 R.2.2.1 (x &&& 255) i = Int32.ofNat b
    by_cases hi : i = R.2.2.1
    · rw [hi, up_hit]
      exact and_by x
    · rw [up_miss hi]
      exact h.2 i
  · exact ⟨h, Nat.le_refl _⟩
theorem an_gp (x : Int32) : ∀ (n : Nat) (R : fs_Rp), fs_gp R → fs_gp (fs_an x R n) ∧ R.2.2.1 ≤ (fs_an x R n).2.2.1
  | 0, R, h => ⟨h, Nat.le_refl _⟩
  | n + 1, R, h => by
    obtain ⟨a, b⟩ := ra_gp h (fs_ushr x (8 * Int32.ofNat n))
    obtain ⟨c, d⟩ := an_gp x n _ a
    exact ⟨c, Nat.le_trans b d⟩
theorem wf_gp {R : fs_Rp} (h : fs_gp R) (x y : Int32) : fs_gp (fs_wf R x y) ∧ R.2.2.1 ≤ (fs_wf R x y).2.2.1 := by
  unfold fs_wf
  split
  · obtain ⟨a, b⟩ := ra_gp h (Int32.ofNat (fs_fb x))
    obtain ⟨c, d⟩ := an_gp x (fs_fb x) _ a
    exact ⟨c, Nat.le_trans b d⟩
  · exact an_gp x _ R h
theorem lw_gp (f g v : Nat → Int32) : ∀ (m i : Nat) (R : fs_Rp), fs_gp R → fs_gp (fs_lw f g v R i m) ∧ R.2.2.1 ≤ (fs_lw f g v R i m).2.2.1
  | 0, _, R, h => ⟨h, Nat.le_refl _⟩
  | m + 1, i, R, h => by
    obtain ⟨a, b⟩ := wf_gp h (fs_vo v (f i)) (g i)
    obtain ⟨c, d⟩ := lw_gp f g v m (i + 1) _ a
    exact ⟨c, Nat.le_trans b d⟩
theorem wl_gp (f g : Nat → Int32) (u : Nat) : ∀ (E : fs_Fs) (R : fs_Rp), fs_gp R → fs_gp (fs_wl f g u R E) ∧ R.2.2.1 ≤ (fs_wl f g u R E).2.2.1
  | [], R, h => ⟨h, Nat.le_refl _⟩
  | q :: l, R, h => by
    obtain ⟨a, b⟩ := lw_gp f g q.2 u 0 R h
    obtain ⟨c, d⟩ := wl_gp f g u l _ a
    exact ⟨c, Nat.le_trans b d⟩
theorem tq_gp (f g : Nat → Int32) : ∀ (m i : Nat) (R : fs_Rp), fs_gp R → fs_gp (fs_tq f g R i m) ∧ R.2.2.1 ≤ (fs_tq f g R i m).2.2.1
  | 0, _, R, h => ⟨h, Nat.le_refl _⟩
  | m + 1, i, R, h => by
    obtain ⟨a, b⟩ := ra_gp h (f i)
    obtain ⟨a2, b2⟩ := ra_gp a (g i)
    obtain ⟨c, d⟩ := tq_gp f g m (i + 1) _ a2
    exact ⟨c, Nat.le_trans b (Nat.le_trans b2 d)⟩
theorem rn_gp (na : Nat) {a b c : Nat} (ha : a ≤ 255) (hb : b ≤ 255) (hc : c ≤ 255) : fs_gp (fs_rn na (Int32.ofNat a) (Int32.ofNat b) (Int32.ofNat c)) := by
  refine ⟨by show 3 ≤ 64; decide, fun i => ?_⟩
  show ∃ n, n ≤ 255 ∧ upd (upd (upd (fun _ => 0) 0 (Int32.ofNat a)) 1 (Int32.ofNat b)) 2 (Int32.ofNat c) i = Int32.ofNat n
  unfold upd
  split
  · exact ⟨c, hc, rfl⟩
  · split
    · exact ⟨b, hb, rfl⟩
    · split
      · exact ⟨a, ha, rfl⟩
      · exact ⟨0, by omega, rfl⟩
/-- a call that changes exporter x and appends a report -/
theorem in_rep {k x : Nat} {Z : fs_Z} {X : fs_Xs} {R : fs_Rp} {S S1 : fs_R} (hx : x < 2) (h : fs_In k Z S) (hn : (z_R Z).length < 30) (hX : fs_IX (k + 1) ((z_R Z).length + 1) x X S1) (hw : fs_wrt (z_R Z).length R S1.2.1) (h5 : 5 ≤ R.2.2.1) (hg : fs_gp R) (e25 : S1.1 25 = Int32.ofNat ((z_R Z).length + 1)) (e0 : ∀ a, a ≠ 0 → a ≠ 25 → S1.1 a = S.1 a) (e1 : ∀ a j, ¬ fs_rg1 x a j → ¬ fs_reg x a j → ¬ (a = 26 ∧ j = (z_R Z).length ∨ a = 27 ∧ 64 * (z_R Z).length ≤ j ∧ j < 64 * (z_R Z).length + 64) → S1.2.1 a j = S.2.1 a j) (e2 : S1.2.2 = S.2.2) : fs_In (k + 1) (z_sR (z_sX Z x X) (z_R Z ++ [R])) S1 := by
  have far : ∀ a, 28 ≤ a → S1.2.1 a = S.2.1 a := fun a ha => funext fun j => e1 a j (fun z => by have := z.2.1; omega) (fun z => by unfold fs_reg at z; omega) (fun z => by omega)
  refine ⟨fun y hy => ?_, ⟨⟨?_, fun r U hr => ?_⟩, ?_, fun U hU => ?_⟩, ik_cg h.2.2.1 (fun a ha => e0 a (by omega) (by omega)) (fun a h1 h2 _ => far a (by omega)) e2, h.2.2.2.1, ih_cg h.2.2.2.2 (fun a ha => far a (by omega))⟩
  · show fs_IX (k + 1) (z_R Z ++ [R]).length y (va_up Z.1 x X y) S1
    rw [List.length_append, List.length_singleton]
    by_cases hyx : y = x
    · subst hyx
      rw [va_up_self]
      exact hX
    · rw [va_up_ne _ _ hyx]
      obtain ⟨h1, h2, h3, h4⟩ := h.1 y hy
      refine ⟨i1_cg (i1_mono h1 (by omega)) fun a g1 g2 => e1 a y (fun z => hyx z.2.2) (fun z => by unfold fs_reg at z; omega) (fun z => by omega), i2_cg (i2_mono h2) fun a j g => e1 a j (fun z => ?_) (fun z => ?_) (fun z => ?_), i3_cg (i3_mono h3) fun a j g => e1 a j (fun z => ?_) (fun z => ?_) (fun z => ?_), i4_cg h3.1.1 h4 (fun j g1 g2 => e1 23 j (fun z => ?_) (fun z => ?_) (fun z => ?_)) (Or.inl (e0 24 (by decide) (by decide)))⟩
      all_goals (try unfold fs_rg1 at *)
      all_goals (try unfold fs_reg at *)
      all_goals (try unfold fs_rg3 at *)
      all_goals omega
  · show S1.1 25 = Int32.ofNat (z_R Z ++ [R]).length
    rw [List.length_append, List.length_singleton]
    exact e25
  · have hr2 : (z_R Z ++ [R])[r]? = some U := hr
    by_cases hrl : r < (z_R Z).length
    · rw [List.getElem?_append_left hrl] at hr2
      obtain ⟨w1, w2⟩ := h.2.1.1.2 r U hr2
      have u64 := (h.2.1.2.2 U (List.mem_of_getElem? hr2)).2.1
      refine ⟨?_, fun i hi => ?_⟩
      · rw [e1 26 r (by unfold fs_rg1; omega) (by unfold fs_reg; omega) (by omega)]
        exact w1
      · rw [e1 27 _ (by unfold fs_rg1; omega) (by unfold fs_reg; omega) (by omega)]
        exact w2 i hi
    · rw [List.getElem?_append_right (by omega)] at hr2
      have : r - (z_R Z).length = 0 := by
        have := (List.getElem?_eq_some_iff.mp hr2).1
        rw [List.length_singleton] at this
        omega
      rw [this] at hr2
      cases hr2
      rw [show r = (z_R Z).length by omega]
      exact hw
  · show (z_R Z ++ [R]).length ≤ 30
    rw [List.length_append, List.length_singleton]
    omega
  · have hU2 : U ∈ z_R Z ++ [R] := hU
    rcases List.mem_append.mp hU2 with hU2 | hU2
    · exact h.2.1.2.2 U hU2
    · rw [List.mem_singleton] at hU2
      subst hU2
      exact ⟨h5, hg.1, hg.2⟩
theorem sX_self (Z : fs_Z) (x : Nat) : z_sX Z x (z_X Z x) = Z := by
  refine Prod.ext (funext fun y => ?_) rfl
  show va_up Z.1 x (Z.1 x) y = Z.1 y
  unfold va_up
  split
  · rename_i h; rw [h]
  · rfl
theorem st_tell {k c1 : Nat} {A B : Nat → Nat} {Z : fs_Z} {h F : List fs_C} {σ : fs_S} {S : fs_R} (hI : fs_In k Z S) (hX : fs_WF c1 A Z h) (ho : fs_own (h ++ F) σ) (hc : fs_kc c1 σ) (x : Int32) :
    fs_Sp k c1 A B F σ S (fs_cv (A 7) 0 (f_Fs_tell (A 7) x)) (fs_cv (B 0) 12 (f_Rf_tell (B 0) x)) [(fs_IAE, 1), (fs_ISE, 2)] (fun v r => v = r) := by
  obtain ⟨b1, b2⟩ := c_tell hX ho hc hI.2.1.2.1 x
  have e25 := hI.2.1.1.1
  by_cases hx : x = 0 ∨ x = 1
  · obtain ⟨n, hn, rfl⟩ := x01 hx
    obtain ⟨d1, d2⟩ := b2 n hn rfl
    have hx3 := hI.1 n hn
    obtain ⟨⟨i0, ⟨t, t1, t2, t3⟩, ⟨e, e1, e2, e3⟩, ⟨m, j, m1, m2, m3, m4, m5, m6⟩, i9, ⟨u, u1, u2, u3⟩⟩, i2, i3, i4⟩ := hI.1 n hn
    by_cases h30 : (z_R Z).length < 30
    · obtain ⟨na, d3⟩ := d2 h30
      refine ⟨_, _, d3, w_mono (rt_tell na hn h30 e25 (e3.trans e2) (by omega) (u3.trans u2) (by omega) (m4.trans m3) (by omega)) fun r S1 ⟨r1, S2, r2, r3⟩ => ?_⟩
      obtain ⟨q1, q2, q3, q4⟩ := r2
      have eq10 : ∀ a, a ≠ 6 → S1.2.1 a = S2.2.1 a := fun a ha => by rw [r3]; exact r_si_ne ha
      have eq6 : S1.2.1 6 = upd (S2.2.1 6) n (Int32.ofNat (u + 1)) := by rw [r3]; exact r_si_at _ _ _ _
      have ot : ∀ a j, ¬ (a = 26 ∧ j = (z_R Z).length ∨ a = 27 ∧ 64 * (z_R Z).length ≤ j ∧ j < 64 * (z_R Z).length + 64) → ¬ (a = 6 ∧ j = n) → S1.2.1 a j = S.2.1 a j := fun a j h1 h2 => by
        by_cases h6 : a = 6
        · subst h6
          rw [eq6, up_miss (fun z => h2 ⟨rfl, z⟩)]
          exact q4 6 j (by omega)
        · rw [eq10 a h6]
          exact q4 a j h1
      have s1 : ∀ a, a ≠ 0 → a ≠ 25 → S1.1 a = S.1 a := fun a h1 h2 => by
        rw [r3]
        show upd S2.1 25 (Int32.ofNat ((z_R Z).length + 1)) a = _
        rw [up_miss h2, q1]
        exact up_miss h1 _
      refine ⟨in_rep hn hI h30 ⟨⟨i0, ⟨t, by omega, t2, ?_⟩, ⟨e, e1, e2, ?_⟩, ⟨m, j, m1, m2, m3, ?_, m5, ?_⟩, ?_, u + 1, by omega, ?_, ?_⟩, i2_cg (i2_mono i2) (fun a j g => ot a j ?_ ?_), i3_cg (i3_mono i3) (fun a j g => ot a j ?_ ?_), i4_cg i3.1.1 i4 (fun j g1 g2 => ot 23 j (by omega) (by omega)) (Or.inl (s1 24 (by decide) (by decide)))⟩ ?_ ?_ ?_ ?_ s1 (fun a j h1 h2 h3 => ot a j h3 (fun z => h1 ⟨by omega, by omega, z.2⟩)) (by rw [r3]; exact q2), ?_, r1.symm⟩
      · rw [ot 1 n (by omega) (by omega)]; exact t3
      · rw [ot 2 n (by omega) (by omega)]; exact e3
      · rw [ot 3 n (by omega) (by omega)]; exact m4
      · rw [ot 4 n (by omega) (by omega)]; exact m6
      · rw [ot 5 n (by omega) (by omega)]; exact i9
      · show (z_X Z n).1 10 + 1 = _
        rw [u2, ofNat_add1]
      · rw [eq6, up_hit]
        show _ = (z_X Z n).1 10 + 1
        rw [u2, ofNat_add1]
      · unfold fs_reg at g; omega
      · unfold fs_reg at g; omega
      · unfold fs_rg3 at g; omega
      · unfold fs_rg3 at g; omega
      · rw [i0, e2, u2, m3]
        unfold fs_wrt
        rw [eq10 26 (by decide), eq10 27 (by decide)]
        exact q3
      · show 5 ≤ 5
        exact Nat.le_refl _
      · rw [i0, e2]
        exact (ra_gp (ra_gp (rn_gp na (c := 2) (by omega) (by omega) (by omega)) _).1 _).1
      · rw [r3]
        exact up_hit S2.1 25 _
      · rw [r3]
        show upd S2.1 25 (Int32.ofNat ((z_R Z).length + 1)) 0 = 0
        rw [up_miss (by decide), q1]
        rfl
    · have h25 : S.1 25 = 30 := by
        rw [e25, show (z_R Z).length = 30 by have := hI.2.1.2.1; omega]
        rfl
      exact sp_f hI (d1 h30) (rt_ise hn h25) (by simp)
  · exact sp_f hI (b1 hx) (rt_badx hx) List.mem_cons_self
theorem st_announce {k c1 : Nat} {A B : Nat → Nat} {Z : fs_Z} {h F : List fs_C} {σ : fs_S} {S : fs_R} (hI : fs_In k Z S) (hk : k < 512) (hX : fs_WF c1 A Z h) (ho : fs_own (h ++ F) σ) (hc : fs_kc c1 σ) (x t : Int32) :
    fs_Sp k c1 A B F σ S (fs_cv (A 7) 0 (f_Fs_announce (A 7) x t)) (fs_cv (B 0) 12 (f_Rf_announce (B 0) x t)) [(fs_IAE, 1), (fs_ISE, 2)] (fun v r => v = r) := by
  obtain ⟨b1, b2⟩ := c_announce hX ho hc hI.2.1.2.1 x t
  have e25 := hI.2.1.1.1
  by_cases hb : ¬ (x = 0 ∨ x = 1) ∨ t < 0 ∨ ¬ t < 3
  · exact sp_f hI (b1 hb) (ran_bad (by rw [← i_lt3]; exact hb)) List.mem_cons_self
  · obtain ⟨n, u, hn, hu, rfl, rfl⟩ := xt_ok hb
    obtain ⟨T, t1, t2, t3, t4⟩ := sl_at hI hn hu
    obtain ⟨d1, d2⟩ := b2 n u T hn rfl rfl t1 t4.2.2.2.1.1
    by_cases hg : T.2.1 3 = 0 ∨ ¬ (z_R Z).length < 30
    · refine sp_f hI (d1 hg) (ran_ise hn hu ?_) (by simp)
      rcases hg with hg | hg
      · left
        rw [t2.2.2.2.1, if_pos hg]
      · right
        rw [e25, show (z_R Z).length = 30 by have := hI.2.1.2.1; omega]
        rfl
    · have h3 : ¬ T.2.1 3 = 0 := fun z => hg (Or.inl z)
      have h30 : (z_R Z).length < 30 := Decidable.not_not.mp fun z => hg (Or.inr z)
      obtain ⟨na, d3⟩ := d2 h3 h30
      obtain ⟨q1, q2, q3, q4, rv, q5, q6⟩ := t4
      obtain ⟨rv2, p1, p2, p3⟩ := t3 h3
      have hrv : rv2 = rv := n_inj p2 (by omega) (p3.symm.trans q5)
      have e19 : S.2.1 19 (3 * n + u) = Int32.ofNat rv := by rw [t2.2.2.2.1, if_neg h3, q5]
      obtain ⟨v1, v2⟩ := t2.2.2.2.2 h3
      obtain ⟨⟨i0, -, ⟨e, e1, e2, e3⟩, -⟩, i2, i3, i4⟩ := hI.1 n hn
      refine ⟨_, _, d3, ran_ok na hn hu h30 e25 (e3.trans e2) (by omega) e19 (by omega) (by omega) q4.1 v1 v2 q4.2 fun S2 hw => ?_⟩
      obtain ⟨w1, w2, w3, w4⟩ := hw
      have s1 : ∀ a, a ≠ 0 → a ≠ 25 → (r_pi_ S2 25 (Int32.ofNat ((z_R Z).length + 1))).1 a = S.1 a := fun a h1 h2 => by
        show upd S2.1 25 (Int32.ofNat ((z_R Z).length + 1)) a = _
        rw [up_miss h2, w1]
        exact up_miss h1 _
      have main := in_rep (X := z_X Z n) (R := fs_tp na (z_X Z n).1 T.2.1 T.2.2.2) (S1 := r_pi_ S2 25 (Int32.ofNat ((z_R Z).length + 1))) hn hI h30 ⟨i1_cg (i1_mono (hI.1 n hn).1 (by omega)) (fun a g1 g2 => w4 a n (by omega)), i2_cg (i2_mono i2) (fun a j g => w4 a j (by unfold fs_reg at g; omega)), i3_cg (i3_mono i3) (fun a j g => w4 a j (by unfold fs_rg3 at g; omega)), i4_cg i3.1.1 i4 (fun j g1 g2 => w4 23 j (by omega)) (Or.inl (s1 24 (by decide) (by decide)))⟩ ?_ ?_ ?_ (up_hit S2.1 25 _) s1 (fun a j h1 h2 h3 => w4 a j h3) w2
      · rw [sX_self] at main
        refine ⟨main, ?_, rfl⟩
        show upd S2.1 25 (Int32.ofNat ((z_R Z).length + 1)) 0 = 0
        rw [up_miss (by decide), w1]
        rfl
      · unfold fs_tp
        rw [i0, e2, q1, q5]
        exact w3
      · unfold fs_tp
        rw [i0, e2]
        obtain ⟨a1, a2⟩ := tq_gp T.2.2.2.2.2.2.2.1 T.2.2.2.2.2.2.2.2 T.2.2.2.2.2.2.1 0 (fs_ra (fs_ra (fs_ra (fs_rn na (Int32.ofNat n) (Int32.ofNat e) 0) (T.2.1 0)) (T.2.1 4)) (Int32.ofNat T.2.2.2.2.2.2.1)) (ra_gp (ra_gp (ra_gp (rn_gp na (c := 0) (by omega) (by omega) (by omega)) _).1 _).1 _).1
        have a3 : 6 ≤ (fs_tq T.2.2.2.2.2.2.2.1 T.2.2.2.2.2.2.2.2 (fs_ra (fs_ra (fs_ra (fs_rn na (Int32.ofNat n) (Int32.ofNat e) 0) (T.2.1 0)) (T.2.1 4)) (Int32.ofNat T.2.2.2.2.2.2.1)) 0 T.2.2.2.2.2.2.1).2.2.1 := a2
        omega
      · unfold fs_tp
        rw [i0, e2]
        exact (tq_gp _ _ _ 0 _ (ra_gp (ra_gp (ra_gp (rn_gp na (c := 0) (by omega) (by omega) (by omega)) _).1 _).1 _).1).1
