/-! a template heard, to its end -/
def fs_c8 (h f : Nat → Int32) (b p o : Nat) : Nat → Int32 := fun i => if b ≤ i ∧ i < b + p then f (6 + 2 * (i - b) + o) else h i
theorem c8_s (h f : Nat → Int32) (b p o : Nat) : upd (fs_c8 h f b p o) (b + p) (f (6 + 2 * p + o)) = fs_c8 h f b (p + 1) o := funext fun i => by
  unfold upd fs_c8
  by_cases hi : i = b + p
  · rw [if_pos hi, if_pos (by omega), show i - b = p by omega]
  · rw [if_neg hi]
    by_cases h2 : b ≤ i ∧ i < b + p
    · rw [if_pos h2, if_pos (by omega)]
    · rw [if_neg h2, if_neg (by omega)]
def fs_kst (S : fs_R) (k p : Nat) (f : Nat → Int32) : fs_R := (S.1, va_up (va_up (va_up (va_up S.2.1 29 (upd (S.2.1 29) k (fs_nme f))) 30 (upd (S.2.1 30) k (f 5))) 31 (fs_c8 (S.2.1 31) f (8 * k) p 0)) 32 (fs_c8 (S.2.1 32) f (8 * k) p 1), S.2.2)
theorem kst_s (S : fs_R) (k p : Nat) (f : Nat → Int32) : r_si_ (r_si_ (fs_kst S k p f) 31 (8 * k + p) (f (6 + 2 * p))) 32 (8 * k + p) (f (6 + 2 * p + 1)) = fs_kst S k (p + 1) f := by
  refine Prod.ext rfl (Prod.ext (funext fun j => ?_) rfl)
  by_cases h31 : j = 31
  · subst h31
    exact c8_s (S.2.1 31) f (8 * k) p 0
  · by_cases h32 : j = 32
    · subst h32
      exact c8_s (S.2.1 32) f (8 * k) p 1
    · simp [r_si_, va_up, fs_kst, h31, h32]
/-- what is left once the template's fields are known -/
def ht_tail (a0 : Nat) (v1 v8 : Int32) : fs_T Int32 :=
  fs_bind (fs_gi a0 12 28) fun v16 =>
  fs_bind (fs_pi a0 12 28 (v16 + 1)) fun _ =>
  fs_bind (fs_gi a0 12 37) fun v17 =>
  fs_lp1 4096 (lb_Rf_hearTemplate_161 a0 v17 v1 v8) 0
theorem w_83 {A : Nat → Nat} {u k nf : Nat} {f : Nat → Int32} {v1 : Int32} {S : fs_R} {Q : Int32 → fs_R → Prop} (hb : fs_buf u f S) (hk : k < 20) (h5 : f 5 = Int32.ofNat nf) (hnf : nf ≤ 8) (hu : u = 6 + 2 * nf) (hq : fs_W A (ht_tail (A 0) v1 (Int32.ofNat k)) (fs_kst S k nf f) Q) : ∀ (m fuel p : Nat), p + m = nf → m < fuel →
    fs_W A (fs_lp1 fuel (lb_Rf_hearTemplate_83 (A 0) v1 (Int32.ofNat k)) (Int32.ofNat p)) (fs_kst S k p f) Q
  | 0, fuel + 1, p, hp, _ => by
    have hpn : p = nf := by omega
    subst hpn
    refine w_lp1 <| w_gr 46 rfl <| w_ai (j := 5) m46 rfl (by decide) ?_
    rw [show (fs_kst S k p f).2.1 46 5 = Int32.ofNat p from (hb.2 5 (by omega)).trans h5]
    exact w_p (Int32.le_refl _) hq
  | m + 1, fuel + 1, p, hp, hf => by
    have e6 : (6 : Int32) + 2 * Int32.ofNat p = Int32.ofNat (6 + 2 * p) := by
      rw [Int32.ofNat_add, Int32.ofNat_mul]
      rfl
    have e7 : (7 : Int32) + 2 * Int32.ofNat p = Int32.ofNat (6 + 2 * p + 1) := by
      rw [show 6 + 2 * p + 1 = 7 + 2 * p by omega, Int32.ofNat_add, Int32.ofNat_mul]
      rfl
    refine w_lp1 <| w_gr 46 rfl <| w_ai (j := 5) m46 rfl (by decide) ?_
    rw [show (fs_kst S k p f).2.1 46 5 = Int32.ofNat nf from (hb.2 5 (by omega)).trans h5]
    refine w_n (fun z => ?_) <| w_gr 31 rfl <| w_gr 46 rfl <| w_ai (j := 6 + 2 * p) m46 e6 (by omega) <| w_si m31 (n_ma 8 k p) (by omega) <| w_gr 32 rfl <| w_gr 46 rfl <| w_ai (j := 6 + 2 * p + 1) m46 e7 (by omega) <| w_si m32 (n_ma 8 k p) (by omega) <| w_m ?_
    · have := (n_le (by omega) (by omega)).mp z
      omega
    · rw [ofNat_add1]
      have e1 : (fs_kst S k p f).2.1 46 (6 + 2 * p) = f (6 + 2 * p) := hb.2 _ (by omega)
      have e2 : (r_si_ (fs_kst S k p f) 31 (8 * k + p) ((fs_kst S k p f).2.1 46 (6 + 2 * p))).2.1 46 (6 + 2 * p + 1) = f (6 + 2 * p + 1) := hb.2 _ (by omega)
      rw [e2, e1, kst_s]
      exact w_83 hb hk h5 hnf hu hq m fuel (p + 1) (by omega) (by omega)
  | _, 0, _, _, h => absurd h (Nat.not_lt_zero _)
theorem kt_none {g : Nat → Int32} {K : List fs_Rp} (hl : K.length ≤ 20) : fs_o32 (fs_kt g K 0) < 0 ↔ fs_kt g K 0 = none := by
  cases h : fs_kt g K 0 with
  | none => exact ⟨fun _ => rfl, fun _ => (show (-1 : Int32) < 0 by decide)⟩
  | some k =>
    have := (kt_lt h).2.1
    exact ⟨fun z => absurd z (Int32.ofNat_not_neg (by omega)), fun z => by cases z⟩
/-- what else is left alone when a template is heard -/
def fs_ot3 (S0 S : fs_R) : Prop := (∀ k, k ≠ 0 → k ≠ 28 → k ≠ 33 → k ≠ 37 → k ≠ 45 → k ≠ 47 → S.1 k = S0.1 k) ∧ ∀ k, k ≠ 29 → k ≠ 30 → k ≠ 31 → k ≠ 32 → k ≠ 34 → k ≠ 35 → k ≠ 38 → k ≠ 41 → k ≠ 46 → S.2.1 k = S0.2.1 k
set_option maxRecDepth 100000 in
theorem w_hearT {A : Nat → Nat} {u nf : Nat} {f : Nat → Int32} {K Sh : List fs_Rp} {V : fs_Vs} {q1 q2 : Nat → Int32} {S : fs_R} (hb : fs_buf u f S) (hng : fs_ng f) (hg : fs_TG f nf) (hu : u = 6 + 2 * nf) (hu5 : 5 ≤ u) (hK : fs_kn K S) (hKl : K.length ≤ 20) (hKg : ∀ T ∈ K, fs_ng T.2.2.2) (hKn : ∀ T ∈ K, (T.2.2.2 5).toNatClampNeg ≤ 8) (hS : fs_sf Sh S) (hSl : Sh.length ≤ 5) (hSok : ∀ R ∈ Sh, fs_rok R) (hV : fs_rws V S) (hVl : V.length ≤ 80) (h0 : S.2.1 41 0 = q1 2) (h1 : S.2.1 41 1 = q2 2) (hth : S.1 0 = 0) (T : fs_Rp) (hT : T.2.2 = (u, f)) :
    fs_W A (fs_cv (A 0) 12 (f_Rf_hearTemplate (A 0))) S fun r S1 =>
      (fs_kt f K 0 ≠ none ∧ r = 0 ∧ S1 = S) ∨ (fs_kt f K 0 = none ∧ (20 ≤ K.length ∨ 80 < V.length + fs_rwn f Sh) ∧ S1 = r_pi_ S 0 3) ∨
      (fs_kt f K 0 = none ∧ ¬ (20 ≤ K.length ∨ 80 < V.length + fs_rwn f Sh) ∧ ∃ V1 p1 p2, (V1, p1, p2) = fs_rsh f nf Sh (V, q1, q2) ∧ r = Int32.ofNat V1.length - Int32.ofNat V.length ∧ fs_kn (K ++ [T]) S1 ∧ fs_sf (fs_kept f Sh) S1 ∧ fs_rws V1 S1 ∧ S1.2.1 41 0 = p1 2 ∧ S1.2.1 41 1 = p2 2 ∧ S1.1 0 = 0 ∧ fs_ot3 S S1) := by
  have h8 := hg.2.1
  have hbd : ∀ l : List fs_Rp, (∀ R ∈ l, fs_rok R) → fs_rwn f l ≤ 100 * l.length := fun l => by
    induction l with
    | nil => intro _; exact Nat.le_refl _
    | cons R l ih =>
      intro hl
      have := ih (fun R hR => hl R (List.mem_cons_of_mem _ hR))
      have h2 := (hl R List.mem_cons_self).1.2.2
      show (if fs_sb R.2.2.2 f = true then fs_nR R.2.2.2 else 0) + fs_rwn f l ≤ _
      rw [List.length_cons]
      split <;> omega
  have hrb := hbd Sh hSok
  have hrw : fs_rw f Sh 0 = Int32.ofNat (fs_rwn f Sh) := by
    have := rw_ofNat f Sh 0 (fun R hR => (hSok R hR).1)
    rw [Nat.zero_add] at this
    exact this
  refine w_cv <| w_nameOf hb hu5 <| w_findk hK hKl hng hKg ?_
  by_cases hkt : fs_kt f K 0 = none
  · refine w_p ((kt_none hKl).mpr hkt) <| w_gi 28 rfl ?_
    rw [hK.1]
    refine w_l <| w_l ?_
    by_cases h20 : K.length = 20
    · refine w_p (by rw [h20]; rfl) <| w_pi0 <| w_gi 0 rfl <| w_n (by show ¬ (3 : Int32) = 0; decide) <| w_ret (Or.inr (Or.inl ⟨hkt, Or.inl (by omega), rfl⟩))
    · refine w_n (fun z => h20 (n_inj (b := 20) (by omega) (by decide) z)) <| w_gi 37 rfl <| w_waitk hS hSl hng (fun R hR => ⟨(hSok R hR).2.1, (hSok R hR).2.2⟩) ?_
      rw [hV.1, hrw, n_a]
      by_cases h80 : V.length + fs_rwn f Sh ≤ 80
      · refine w_p ((n_le (y := 80) (by omega) (by decide)).mpr h80) <| w_pi0 <| w_gi 0 rfl <| w_p rfl <| w_gi 28 rfl ?_
        rw [show (r_pi_ S 0 0).1 28 = Int32.ofNat K.length from hK.1]
        refine w_gr 29 rfl <| w_si m29 rfl (by omega) <| w_gr 30 rfl <| w_gr 46 rfl <| w_ai (j := 5) m46 rfl (by decide) ?_
        rw [show (r_si_ (r_pi_ S 0 0) 29 K.length (fs_nme f)).2.1 46 5 = f 5 from hb.2 5 (by omega)]
        refine w_si m30 rfl (by omega) ?_
        have e0 : r_si_ (r_si_ (r_pi_ S 0 0) 29 K.length (fs_nme f)) 30 K.length (f 5) = fs_kst (r_pi_ S 0 0) K.length 0 f := by
          refine Prod.ext rfl (Prod.ext (funext fun j => ?_) rfl)
          have ec : ∀ h o, fs_c8 h f (8 * K.length) 0 o = h := fun h o => funext fun i => if_neg (by omega)
          by_cases h32 : j = 32
          · subst h32
            exact (ec (S.2.1 32) 1).symm
          · by_cases h31 : j = 31
            · subst h31
              exact (ec (S.2.1 31) 0).symm
            · simp [r_si_, r_pi_, va_up, fs_kst, h31, h32]
        rw [e0]
        have hb0 : fs_buf u f (r_pi_ S 0 0) := ⟨hb.1, hb.2⟩
        refine w_83 (u := u) hb0 (by omega) hg.1 h8 hu ?_ nf 4096 0 (by omega) (by omega)
        refine w_gi 28 rfl ?_
        rw [show (fs_kst (r_pi_ S 0 0) K.length nf f).1 28 = Int32.ofNat K.length from hK.1, ofNat_add1]
        refine w_pi 28 rfl (by decide) <| w_gi 37 rfl ?_
        rw [show (r_pi_ (fs_kst (r_pi_ S 0 0) K.length nf f) 28 (Int32.ofNat (K.length + 1))).1 37 = Int32.ofNat V.length from hV.1]
        have hT0 : fs_tpl K.length nf f (r_pi_ (fs_kst (r_pi_ S 0 0) K.length nf f) 28 (Int32.ofNat (K.length + 1))) := by
          refine ⟨(up_hit (S.2.1 30) K.length (f 5)).trans hg.1, fun j hj => ⟨?_, ?_⟩⟩
          · show fs_c8 (S.2.1 31) f (8 * K.length) nf 0 (8 * K.length + j) = _
            unfold fs_c8
            rw [if_pos (by omega), show 8 * K.length + j - 8 * K.length = j by omega]
            rfl
          · show fs_c8 (S.2.1 32) f (8 * K.length) nf 1 (8 * K.length + j) = _
            unfold fs_c8
            rw [if_pos (by omega), show 8 * K.length + j - 8 * K.length = j by omega]
        have hS0 : fs_sf ([] ++ Sh) (r_pi_ (fs_kst (r_pi_ S 0 0) K.length nf f) 28 (Int32.ofNat (K.length + 1))) := hS
        have hV0 : fs_rws V (r_pi_ (fs_kst (r_pi_ S 0 0) K.length nf f) 28 (Int32.ofNat (K.length + 1))) := hV
        refine w_mono (w_161 (w0 := V.length) (by omega) hT0 hg hng Sh 4096 [] V q1 q2 _ hS0 hV0 h0 h1 (oth_rf _) (by omega) (by simp; omega) (fun R hR => hSok R hR) h80) fun r S1 ⟨V1, p1, p2, a1, a2, a3, a4, a5, a6, a7, a8⟩ => Or.inr (Or.inr ⟨hkt, fun z => z.elim (fun z => h20 (by omega)) (fun z => by omega), V1, p1, p2, a1, a2, ?_, a3, a4, a5, a6, ?_, ?_⟩)
        · refine ⟨?_, fun k U hU => ?_⟩
          · rw [a7.1 28 (by decide) (by decide) (by decide) (by decide), List.length_append]
            exact up_hit (fs_kst (r_pi_ S 0 0) K.length nf f).1 28 _
          · rw [a7.2 29 (by decide) (by decide) (by decide) (by decide) (by decide), a7.2 30 (by decide) (by decide) (by decide) (by decide) (by decide), a7.2 31 (by decide) (by decide) (by decide) (by decide) (by decide), a7.2 32 (by decide) (by decide) (by decide) (by decide) (by decide)]
            show upd (S.2.1 29) K.length (fs_nme f) k = _ ∧ upd (S.2.1 30) K.length (f 5) k = _ ∧ ∀ j, _ → fs_c8 (S.2.1 31) f (8 * K.length) nf 0 (8 * k + j) = _ ∧ fs_c8 (S.2.1 32) f (8 * K.length) nf 1 (8 * k + j) = _
            by_cases hkK : k < K.length
            · rw [List.getElem?_append_left hkK] at hU
              obtain ⟨b1, b2, b3⟩ := hK.2 k U hU
              rw [up_miss (by omega), up_miss (by omega)]
              refine ⟨b1, b2, fun j hj => ?_⟩
              obtain ⟨c1, c2⟩ := b3 j hj
              have hj8 : j < 8 := by
                have := hKn U (List.mem_of_getElem? hU)
                omega
              unfold fs_c8
              rw [if_neg (by omega), if_neg (by omega)]
              exact ⟨c1, c2⟩
            · have hkl := (List.getElem?_eq_some_iff.mp hU).1
              rw [List.length_append] at hkl
              have hke : k = K.length := by simp at hkl; omega
              subst hke
              rw [List.getElem?_append_right (Nat.le_refl _), Nat.sub_self] at hU
              have hUT : U = T := (Option.some.inj hU).symm
              have ef : U.2.2.2 = f := by rw [hUT, hT]
              rw [ef, up_hit, up_hit]
              refine ⟨rfl, rfl, fun j hj => ?_⟩
              have hjn : j < nf := by
                rw [hg.1, Int32.toNatClampNeg_ofNat_of_lt (by omega)] at hj
                exact hj
              unfold fs_c8
              rw [if_pos (by omega), if_pos (by omega), show 8 * K.length + j - 8 * K.length = j by omega]
              exact ⟨rfl, rfl⟩
        · rw [a7.1 0 (by decide) (by decide) (by decide) (by decide)]
          rfl
        · refine ⟨fun k c1 c2 c3 c4 c5 c6 => ?_, fun k c1 c2 c3 c4 c5 c6 c7 c8 c9 => ?_⟩
          · rw [a7.1 k c3 c4 c5 c6]
            exact (up_miss c2 _).trans (up_miss c1 _)
          · rw [a7.2 k c5 c6 c7 c8 c9]
            show va_up (va_up (va_up (va_up S.2.1 29 _) 30 _) 31 _) 32 _ k = _
            rw [va_up_ne _ _ c4, va_up_ne _ _ c3, va_up_ne _ _ c2, va_up_ne _ _ c1]
      · exact w_n (fun z => h80 ((n_le (y := 80) (by omega) (by decide)).mp z)) <| w_pi0 <| w_gi 0 rfl <| w_n (by show ¬ (3 : Int32) = 0; decide) <| w_ret (Or.inr (Or.inl ⟨hkt, Or.inr (by omega), rfl⟩))
  · exact w_n (fun z => hkt ((kt_none hKl).mp z)) <| w_ret (Or.inl ⟨hkt, rfl, rfl⟩)
