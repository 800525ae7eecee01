/-! records written, on both sides -/
theorem nl_some : ∀ (l : List fs_Sl) (i : Nat) (b : Option (Nat × Int32)) (k : Nat) (y : Int32), fs_nl l i b = some (k, y) → b = some (k, y) ∨ ∃ j q, l[j]? = some q ∧ k = i + j ∧ ¬ q.2.1 3 = 0
  | [], i, b, k, y, h => Or.inl h
  | q :: l, i, b, k, y, h => by
    have e : fs_nl (q :: l) i b = fs_nl l (i + 1) (fs_nb (q.2.1 3) (q.2.1 5) i b) := rfl
    rw [e] at h
    rcases nl_some l (i + 1) _ k y h with h | ⟨j, p, h1, h2, h3⟩
    · unfold fs_nb at h
      by_cases h0 : q.2.1 3 = 0
      · rw [if_pos h0] at h
        exact Or.inl h
      · rw [if_neg h0] at h
        have hi : ∀ {z : Int32}, some (i, z) = some (k, y) → ∃ j q', (q :: l)[j]? = some q' ∧ k = i + j ∧ ¬ q'.2.1 3 = 0 := fun e => by
          cases e
          exact ⟨0, q, rfl, rfl, h0⟩
        cases b with
        | none => exact Or.inr (hi h)
        | some p =>
          dsimp only at h
          split at h
          · exact Or.inl h
          · exact Or.inr (hi h)
    · exact Or.inr ⟨j + 1, p, h1, by omega, h3⟩
theorem ft_bd (f g : Nat → Int32) (u : Nat) : ∀ (E : fs_Fs) (i : Nat) (t : Int32), i ≤ fs_ft f g u E i t ∧ fs_ft f g u E i t ≤ i + E.length
  | [], i, t => ⟨Nat.le_refl _, Nat.le_refl _⟩
  | q :: l, i, t => by
    have e : fs_ft f g u (q :: l) i t = if t + fs_bf f g q.2 0 u 0 ≤ 64 then fs_ft f g u l (i + 1) (t + fs_bf f g q.2 0 u 0) else i := rfl
    rw [e, List.length_cons]
    split
    · have := ft_bd f g u l (i + 1) (t + fs_bf f g q.2 0 u 0)
      omega
    · omega
theorem rpv_5 (S : fs_R) (x c e w : Nat) : (fs_rpv S x c e w).2.1 5 = upd (S.2.1 5) x (Int32.ofNat (w + c)) := by
  unfold fs_rpv
  dsimp only
  rw [va_up_self]
theorem rpv_14 (S : fs_R) (x c e w : Nat) : (fs_rpv S x c e w).2.1 14 = fs_shE (S.2.1 14) x c (168 * x + 8 * e) := by
  unfold fs_rpv
  dsimp only
  rw [va_up_ne _ _ (by decide), va_up_self]
theorem rpv_n (S : fs_R) (x c e w : Nat) {a : Nat} (h5 : a ≠ 5) (h14 : a ≠ 14) : (fs_rpv S x c e w).2.1 a = S.2.1 a := by
  unfold fs_rpv
  dsimp only
  rw [va_up_ne _ _ h5, va_up_ne _ _ h14]
theorem st_report {k c1 : Nat} {A B : Nat → Nat} {Z : fs_Z} {h F : List fs_C} {σ : fs_S} {S : fs_R} (hI : fs_In k Z S) (hk : k < 512) (hX : fs_WF c1 A Z h) (ho : fs_own (h ++ F) σ) (hc : fs_kc c1 σ) (x : Int32) :
    fs_Sp k c1 A B F σ S (fs_cv (A 7) 0 (f_Fs_report (A 7) x)) (fs_cv (B 0) 12 (f_Rf_report (B 0) x)) [(fs_IAE, 1), (fs_ISE, 2)] (fun v r => v = r) := by
  obtain ⟨b1, b2⟩ := c_report hX ho hc hI.2.1.2.1 x
  have e25 := hI.2.1.1.1
  have l30 := hI.2.1.2.1
  by_cases hx : x = 0 ∨ x = 1
  · obtain ⟨n, hn, rfl⟩ := x01 hx
    have hx3 := hI.1 n hn
    obtain ⟨⟨i0, ⟨t, t1, t2, t3⟩, ⟨e, e1, e2, e3⟩, i6, ⟨w, w1, w2, w3⟩, i10⟩, ⟨f1, f2, f3, f4, f5⟩, i3, i4⟩ := hI.1 n hn
    obtain ⟨d1, d2⟩ := b2 n w hn rfl w2 w1 (by omega)
    by_cases hg : fs_nl (z_X Z n).2.2.2 0 none = none ∨ ¬ (z_R Z).length < 30 ∨ (z_X Z n).2.2.1.length = 0 ∨ w = 100
    · refine sp_f hI (d1 hg) (rpt_ise hn i3.1 f1.2.1 (by omega) (w3.trans w2) w1 ?_) (by simp)
      rcases hg with hg | hg | hg | hg
      · exact Or.inr (Or.inl hg)
      · refine Or.inr (Or.inr (Or.inr ?_))
        rw [e25, show (z_R Z).length = 30 by omega]
        rfl
      · exact Or.inl hg
      · exact Or.inr (Or.inr (Or.inl hg))
    · have h30 : (z_R Z).length < 30 := Decidable.not_not.mp fun z => hg (Or.inr (Or.inl z))
      have hE0 : ¬ (z_X Z n).2.2.1.length = 0 := fun z => hg (Or.inr (Or.inr (Or.inl z)))
      have hw : ¬ w = 100 := fun z => hg (Or.inr (Or.inr (Or.inr z)))
      cases hl : fs_nl (z_X Z n).2.2.2 0 none with
      | none => exact absurd (Or.inl hl) hg
      | some p =>
        obtain ⟨u, y⟩ := p
        obtain ⟨T, ht1, hu, h3⟩ : ∃ T, (z_X Z n).2.2.2[u]? = some T ∧ u < 3 ∧ ¬ T.2.1 3 = 0 := by
          rcases nl_some _ 0 none u y hl with h | ⟨j, q, g1, g2, g3⟩
          · cases h
          · rw [Nat.zero_add] at g2
            rw [g2]
            have := (List.getElem?_eq_some_iff.mp g1).1
            exact ⟨q, g1, by rw [i3.1.1] at this; exact this, g3⟩
        obtain ⟨t2', t3'⟩ := i3.1.2.1 u T ht1
        obtain ⟨q1, q2, q3, q4, rv, q5, q6⟩ := i3.2 u T ht1
        have e19 : S.2.1 19 (3 * n + u) = Int32.ofNat rv := by rw [t2'.2.2.2.1, if_neg h3, q5]
        obtain ⟨v1, v2⟩ := t2'.2.2.2.2 h3
        obtain ⟨na, d3⟩ := d2 u y T hl h30 hE0 hw ht1 q4.1 (fun i hi => by
          obtain ⟨-, l, l1, l2⟩ := q4.2 i hi
          have : (T.2.2.2.2.2.2.2.2 i).toNatClampNeg = l := by rw [l2]; exact Int32.toNatClampNeg_ofNat_of_lt (by omega)
          rw [this]
          exact ⟨l2, l1⟩)
        have hvn : ∀ q ∈ (z_X Z n).2.2.1, fs_vn q.2 := fun q hq i hi => by
          obtain ⟨m, m1, m2⟩ := (f5 q hq).2 i hi
          exact ⟨m, by unfold fs_bd_ at m1; omega, m2⟩
        have wk := rpt_ok (A := B) (u := T.2.2.2.2.2.2.1) (f := T.2.2.2.2.2.2.2.1) (g := T.2.2.2.2.2.2.2.2) (e := 0) na hn i3.1 f1.2.1 (by omega) hE0 (w3.trans w2) (by omega) hl hu h30 e25 (e3.trans e2) (by omega) e19 (by omega) q4.1 (fun i q hq => ⟨v1, v2, fun j hj => f1.2.2.2 i q hq j hj⟩) q4.2 hvn
        generalize hcd : fs_ft T.2.2.2.2.2.2.2.1 T.2.2.2.2.2.2.2.2 T.2.2.2.2.2.2.1 ((z_X Z n).2.2.1.take (min (z_X Z n).2.2.1.length (100 - w))) 0 7 = cc at wk
        have hmn : fs_mn T.2.2.2 (z_X Z n).2.2.1 w = cc := hcd
        rw [hmn] at d3
        have hcl : cc ≤ (z_X Z n).2.2.1.length ∧ w + cc ≤ 100 := by
          have := (ft_bd T.2.2.2.2.2.2.2.1 T.2.2.2.2.2.2.2.2 T.2.2.2.2.2.2.1 ((z_X Z n).2.2.1.take (min (z_X Z n).2.2.1.length (100 - w))) 0 7).2
          rw [hcd, List.length_take] at this
          omega
        refine ⟨_, _, d3, w_mono wk fun r S1 ⟨r1, S2, r2, r3⟩ => ?_⟩
        obtain ⟨g1, g2, g3, g4⟩ := r2
        have a13 : S1.2.1 13 = upd (S2.2.1 13) n (Int32.ofNat ((z_X Z n).2.2.1.length - cc)) := by
          rw [r3]
          exact (rpv_n _ _ _ _ _ (by decide) (by decide)).trans (r_si_at _ _ _ _)
        have a14 : S1.2.1 14 = fs_shE (S2.2.1 14) n cc (168 * n + 8 * ((z_X Z n).2.2.1.length - cc)) := by
          rw [r3]
          refine (rpv_14 _ _ _ _ _).trans ?_
          rw [r_si_ne (by decide)]
        have a5 : S1.2.1 5 = upd (S2.2.1 5) n (Int32.ofNat (w + cc)) := by
          rw [r3]
          refine (rpv_5 _ _ _ _ _).trans ?_
          rw [r_si_ne (by decide)]
        have an : ∀ a, a ≠ 5 → a ≠ 13 → a ≠ 14 → S1.2.1 a = S2.2.1 a := fun a h5 h13 h14 => by
          rw [r3]
          exact (rpv_n _ _ _ _ _ h5 h14).trans (r_si_ne h13)
        have s1 : ∀ a, a ≠ 0 → a ≠ 25 → S1.1 a = S.1 a := fun a h1 h2 => by
          rw [r3]
          show upd S2.1 25 (Int32.ofNat ((z_R Z).length + 1)) a = _
          rw [up_miss h2, g1]
          exact up_miss h1 _
        have ot : ∀ a j, ¬ (a = 26 ∧ j = (z_R Z).length ∨ a = 27 ∧ 64 * (z_R Z).length ≤ j ∧ j < 64 * (z_R Z).length + 64) → ¬ (a = 5 ∧ j = n) → ¬ (a = 13 ∧ j = n) → ¬ (a = 14 ∧ 168 * n ≤ j ∧ j < 168 * n + 168) → S1.2.1 a j = S.2.1 a j := fun a j h1 h2 h3 h4 => by
          by_cases h5 : a = 5
          · subst h5
            rw [a5, up_miss (fun z => h2 ⟨rfl, z⟩)]
            exact g4 5 j (by omega)
          · by_cases h13 : a = 13
            · subst h13
              rw [a13, up_miss (fun z => h3 ⟨rfl, z⟩)]
              exact g4 13 j (by omega)
            · by_cases h14 : a = 14
              · subst h14
                rw [a14]
                unfold fs_shE
                rw [if_neg (by omega)]
                exact g4 14 j (by omega)
              · rw [an a h5 h13 h14]
                exact g4 a j h1
        refine ⟨in_rep hn hI h30 ⟨⟨i0, ⟨t, by omega, t2, ?_⟩, ⟨e, e1, e2, ?_⟩, ?_, ⟨w + cc, hcl.2, ?_, ?_⟩, ?_⟩, ⟨⟨?_, ?_, ?_, ?_⟩, f2, ?_, fun q hq => fv_mono (f4 q hq), fun q hq => fv_mono (f5 q (List.mem_of_mem_drop hq))⟩, i3_cg (i3_mono i3) (fun a j g => ot a j ?_ ?_ ?_ ?_), i4_cg i3.1.1 i4 (fun j g1 g2 => ot 23 j (by omega) (by omega) (by omega) (by omega)) (Or.inl (s1 24 (by decide) (by decide)))⟩ ?_ ?_ ?_ ?_ s1 (fun a j h1 h2 h3 => ot a j h3 ?_ ?_ ?_) (by rw [r3]; exact g2), ?_, r1.symm⟩
        · rw [ot 1 n (by omega) (by omega) (by omega) (by omega)]; exact t3
        · rw [ot 2 n (by omega) (by omega) (by omega) (by omega)]; exact e3
        · rw [ot 3 n (by omega) (by omega) (by omega) (by omega), ot 4 n (by omega) (by omega) (by omega) (by omega)]; exact i6
        · show (z_X Z n).1 9 + Int32.ofNat cc = _
          rw [w2, n_a]
        · rw [a5, up_hit]
          show _ = (z_X Z n).1 9 + Int32.ofNat cc
          rw [w2, n_a]
        · rw [ot 6 n (by omega) (by omega) (by omega) (by omega)]
          obtain ⟨v, v1, v2⟩ := i10
          exact ⟨v, by omega, v2⟩
        · rw [ot 7 n (by omega) (by omega) (by omega) (by omega)]
          exact f1.1
        · rw [a13, up_hit, List.length_drop]
        · intro i q hq
          have o8 : ∀ a, 8 ≤ a → a ≤ 12 → S1.2.1 a (6 * n + i) = S.2.1 a (6 * n + i) := fun a h1 h2 => ot a _ (by omega) (by omega) (by omega) (by omega)
          rw [o8 8 (by decide) (by decide), o8 9 (by decide) (by decide), o8 10 (by decide) (by decide), o8 11 (by decide) (by decide), o8 12 (by decide) (by decide)]
          exact f1.2.2.1 i q hq
        · intro i q hq j hj
          have hq2 : (z_X Z n).2.2.1[cc + i]? = some q := by
            rw [← List.getElem?_drop]
            exact hq
          have hil := (List.getElem?_eq_some_iff.mp hq2).1
          rw [a14]
          unfold fs_shE
          rw [if_pos (by omega), show 8 * (21 * n + i) + j + 8 * cc = 8 * (21 * n + (cc + i)) + j by omega, g4 14 _ (by omega)]
          exact f1.2.2.2 (cc + i) q hq2 j hj
        · show (z_X Z n).2.1.length + ((z_X Z n).2.2.1.drop cc).length ≤ 20
          rw [List.length_drop]
          omega
        · unfold fs_rg3 at g; omega
        · unfold fs_rg3 at g; omega
        · unfold fs_rg3 at g; omega
        · unfold fs_rg3 at g; omega
        · unfold fs_rr
          rw [i0, e2, q1, q5, w2]
          unfold fs_wrt
          rw [an 26 (by decide) (by decide) (by decide), an 27 (by decide) (by decide) (by decide)]
          exact g3
        · unfold fs_rr
          rw [i0, e2]
          obtain ⟨a1, a2⟩ := wl_gp T.2.2.2.2.2.2.2.1 T.2.2.2.2.2.2.2.2 T.2.2.2.2.2.2.1 ((z_X Z n).2.2.1.take cc) (fs_ra (fs_ra (fs_ra (fs_ra (fs_rn na (Int32.ofNat n) (Int32.ofNat e) 1) (T.2.1 0)) (T.2.1 4)) (Int32.ofNat cc)) ((z_X Z n).1 9)) (ra_gp (ra_gp (ra_gp (ra_gp (rn_gp na (c := 1) (by omega) (by omega) (by omega)) _).1 _).1 _).1 _).1
          have a3 : 7 ≤ (fs_wl T.2.2.2.2.2.2.2.1 T.2.2.2.2.2.2.2.2 T.2.2.2.2.2.2.1 (fs_ra (fs_ra (fs_ra (fs_ra (fs_rn na (Int32.ofNat n) (Int32.ofNat e) 1) (T.2.1 0)) (T.2.1 4)) (Int32.ofNat cc)) ((z_X Z n).1 9)) ((z_X Z n).2.2.1.take cc)).2.2.1 := a2
          omega
        · unfold fs_rr
          rw [i0, e2]
          exact (wl_gp _ _ _ _ _ (ra_gp (ra_gp (ra_gp (ra_gp (rn_gp na (c := 1) (by omega) (by omega) (by omega)) _).1 _).1 _).1 _).1).1
        · rw [r3]
          exact up_hit S2.1 25 _
        · exact fun z => h1 ⟨by omega, by omega, z.2⟩
        · exact fun z => h2 (Or.inl ⟨Or.inr z.1, z.2⟩)
        · exact fun z => h2 (Or.inr (Or.inr z))
        · rw [r3]
          show upd S2.1 25 (Int32.ofNat ((z_R Z).length + 1)) 0 = 0
          rw [up_miss (by decide), g1]
          rfl
  · exact sp_f hI (b1 hx) (rpt_bad hx) List.mem_cons_self
