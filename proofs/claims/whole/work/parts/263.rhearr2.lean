theorem kn_tpl {K : List fs_Rp} {S : fs_R} {k nf : Nat} {T : fs_Rp} (hK : fs_kn K S) (hT : K[k]? = some T) (hg : fs_TG T.2.2.2 nf) : fs_tpl k nf T.2.2.2 S := by
  obtain ⟨-, b2, b3⟩ := hK.2 k T hT
  have h8 := hg.2.1
  refine ⟨b2.trans hg.1, fun j hj => b3 j ?_⟩
  rw [hg.1, Int32.toNatClampNeg_ofNat_of_lt (by omega)]
  exact hj
theorem w_mark {A : Nat → Nat} {a n : Nat} {v37 : Int32} {S : fs_R} (ha : a + n ≤ 1200) (hn : n ≤ 255) : fs_W A (hr_mark (A 0) (Int32.ofNat a) (Int32.ofNat n) v37) S fun r S1 => r = v37 ∧ S1 = (S.1, va_up S.2.1 36 (fs_mh n a (S.2.1 36)), S.2.2) := by
  have hgo := w_247 (A := A) (v37 := v37) (S := S) ha n 4096 a (S.2.1 36) rfl (by omega)
  rw [← r_self S 36] at hgo
  exact hgo
set_option maxRecDepth 100000 in
theorem w_hearR {A : Nat → Nat} {u n x e p : Nat} {f : Nat → Int32} {K Sh : List fs_Rp} {V : fs_Vs} {q1 q2 : Nat → Int32} {S : fs_R} (hb : fs_buf u f S) (hu7 : 7 ≤ u) (hu : u ≤ 64) (hng : fs_ng f) (h5 : f 5 = Int32.ofNat n) (hx : x < 2) (hf0 : f 0 = Int32.ofNat x) (hf1 : f 1 = Int32.ofNat e) (he : e ≤ 5) (hf6 : f 6 = Int32.ofNat p) (hp : p + n ≤ 100) (hK : fs_kn K S) (hKl : K.length ≤ 20) (hKg : ∀ T ∈ K, fs_ng T.2.2.2) (hKT : ∀ T ∈ K, ∃ nf, fs_TG T.2.2.2 nf) (hS : fs_sf Sh S) (hSl : Sh.length ≤ 5) (hSok : ∀ R ∈ Sh, fs_rok R) (hV : fs_rws V S) (hVl : V.length ≤ 80) (h0 : S.2.1 40 0 = q1 1) (h1 : S.2.1 40 1 = q2 1) (T : fs_Rp) (hT : T.2.2 = (u, f)) :
    fs_W A (fs_cv (A 0) 12 (f_Rf_hearRecords (A 0))) S fun r S1 =>
      (¬ fs_ho (S.2.1 36) n (600 * x + 100 * e + p) = 0 ∧ r = 0 ∧ S1 = S) ∨
      (fs_ho (S.2.1 36) n (600 * x + 100 * e + p) = 0 ∧ fs_kt f K 0 = none ∧ r = 0 ∧ S1.1 0 = S.1 0 ∧ fs_sf (fs_ds Sh ++ [T]) S1 ∧ S1.2.1 36 = fs_mh n (600 * x + 100 * e + p) (S.2.1 36) ∧ S1.2.1 40 0 = (fs_dq Sh (q1, q2)).1 1 ∧ S1.2.1 40 1 = (fs_dq Sh (q1, q2)).2 1 ∧ fs_ot4 S S1 ∧ S1.1 37 = S.1 37 ∧ S1.2.1 38 = S.2.1 38 ∧ S1.2.2 = S.2.2) ∨
      (fs_ho (S.2.1 36) n (600 * x + 100 * e + p) = 0 ∧ ∃ k U, fs_kt f K 0 = some k ∧ K[k]? = some U ∧ ∀ nf, fs_TG U.2.2.2 nf → 
        (fs_cr u f U.2.2.2 nf n = false ∧ ∃ y, S1 = r_pi_ (r_pi_ S 47 y) 0 2) ∨ (fs_cr u f U.2.2.2 nf n = true ∧ 80 < V.length + n ∧ ∃ y, S1 = r_pi_ (r_pi_ S 47 y) 0 3) ∨
        (fs_cr u f U.2.2.2 nf n = true ∧ ¬ 80 < V.length + n ∧ r = Int32.ofNat n ∧ S1.1 0 = 0 ∧ fs_rws (V ++ fs_mr u f U.2.2.2 nf n (7, 0)) S1 ∧ S1.2.1 36 = fs_mh n (600 * x + 100 * e + p) (S.2.1 36) ∧ fs_ot4 S S1 ∧ S1.1 33 = S.1 33 ∧ S1.2.1 34 = S.2.1 34 ∧ S1.2.1 35 = S.2.1 35 ∧ S1.2.1 40 = S.2.1 40)) := by
  have ha : 600 * x + 100 * e + p + n ≤ 1200 := by omega
  have efrom : (600 : Int32) * Int32.ofNat x + 100 * Int32.ofNat e + Int32.ofNat p = Int32.ofNat (600 * x + 100 * e + p) := by
    rw [Int32.ofNat_add, Int32.ofNat_add, Int32.ofNat_mul, Int32.ofNat_mul]
    rfl
  refine w_cv <| w_gr 46 rfl <| w_ai (j := 0) m46 rfl (by decide) <| w_gr 46 rfl <| w_ai (j := 1) m46 rfl (by decide) <| w_gr 46 rfl <| w_ai (j := 6) m46 rfl (by decide) ?_
  rw [hb.2 0 (by omega), hb.2 1 (by omega), hb.2 6 (by omega), hf0, hf1, hf6]
  refine w_m ?_
  rw [efrom]
  generalize hA : 600 * x + 100 * e + p = a at *
  refine w_33 hb (by omega) h5 ha (fun h => Or.inl ⟨h, rfl, rfl⟩) (fun hho => ?_) n 4096 a 0 rfl (by omega) (Or.inl ⟨rfl, rfl⟩)
  refine w_nameOf hb (by omega) <| w_findk hK hKl hng hKg <| w_gr 46 rfl <| w_ai (j := 5) m46 rfl (by decide) ?_
  rw [hb.2 5 (by omega), h5]
  cases hkt : fs_kt f K 0 with
  | none =>
    refine w_p (show (-1 : Int32) < 0 by decide) <| w_gi 33 rfl ?_
    rw [hS.1]
    by_cases hl5 : Sh.length = 5
    · obtain ⟨B, l, rfl⟩ : ∃ B l, Sh = B :: l := by
        cases Sh with
        | nil => exact absurd hl5 (by decide)
        | cons B l => exact ⟨B, l, rfl⟩
      obtain ⟨⟨bu64, -, -⟩, bng, bu7⟩ := hSok B List.mem_cons_self
      obtain ⟨xb, hxb, exb⟩ := x01 bng.1
      have hb35 : S.2.1 35 0 = Int32.ofNat xb := by
        have := (hS.2 0 B rfl).2 0 (by omega)
        exact this.trans exb
      refine w_p (by rw [hl5]; rfl) <| w_gr 40 rfl <| w_gr 35 rfl <| w_ai (j := 0) m35 rfl (by decide) ?_
      rw [hb35]
      refine w_ai m40 rfl hxb <| w_si m40 rfl hxb ?_
      have hS2 : fs_sf (B :: l) (r_si_ S 40 xb (S.2.1 40 xb + 1)) := hS
      have hdl : (B :: l).length - 1 = l.length := rfl
      refine w_usk (i := 0) hS2 hSl (by omega) ?_
      rw [hdl]
      have hS3 := sf_us hS2 hSl (i := 0) (by omega) (fun R hR => (hSok R hR).1.1)
      rw [hdl] at hS3
      have hS4 : fs_sf l (fs_usS (r_si_ S 40 xb (S.2.1 40 xb + 1)) 0 l.length) := hS3
      have hll : l.length = 4 := by rw [List.length_cons] at hl5; omega
      have hb3 : fs_buf u f (fs_usS (r_si_ S 40 xb (S.2.1 40 xb + 1)) 0 l.length) := ⟨hb.1, hb.2⟩
      have eds : fs_ds (B :: l) = l := if_neg (by omega)
      refine w_mono (w_put hb3 hu ha hS4 (by omega)) fun r S1 ⟨g1, g2⟩ => Or.inr (Or.inl ⟨hho, rfl, g1, ?_, ?_, ?_, ?_, ?_, ?_, ?_, ?_, ?_⟩)
      · rw [g2]; rfl
      · rw [g2, eds]
        exact sf_put hS4 (fun R hR => (hSok R (List.mem_cons_of_mem _ hR)).1.1) hT hu
      · rw [g2]
        rfl
      · rw [g2]
        show upd (S.2.1 40) xb (S.2.1 40 xb + 1) 0 = _
        have edq : fs_dq (B :: l) (q1, q2) = if B.2.2.2 0 = 0 then (upd q1 1 (q1 1 + 1), q2) else (q1, upd q2 1 (q2 1 + 1)) := by
          show (if (B :: l).length < 5 then (q1, q2) else _) = _
          rw [if_neg (by omega)]
        rw [edq]
        have hx01 : xb = 0 ∨ xb = 1 := by omega
        rcases hx01 with rfl | rfl
        · rw [if_pos (show B.2.2.2 0 = 0 from exb), up_hit, h0]
          exact (up_hit q1 1 _).symm
        · rw [if_neg (by rw [exb]; decide), up_miss (by decide)]
          exact h0
      · rw [g2]
        show upd (S.2.1 40) xb (S.2.1 40 xb + 1) 1 = _
        have edq : fs_dq (B :: l) (q1, q2) = if B.2.2.2 0 = 0 then (upd q1 1 (q1 1 + 1), q2) else (q1, upd q2 1 (q2 1 + 1)) := by
          show (if (B :: l).length < 5 then (q1, q2) else _) = _
          rw [if_neg (by omega)]
        rw [edq]
        have hx01 : xb = 0 ∨ xb = 1 := by omega
        rcases hx01 with rfl | rfl
        · rw [if_pos (show B.2.2.2 0 = 0 from exb), up_miss (by decide)]
          exact h1
        · rw [if_neg (by rw [exb]; decide), up_hit, h1]
          exact (up_hit q2 1 _).symm
      · rw [g2]
        refine ⟨fun k c0 c33 c37 c47 => ?_, fun k c34 c35 c36 c38 c40 => ?_⟩
        · show upd (upd S.1 33 _) 33 _ k = _
          rw [up_miss c33, up_miss c33]
        · show va_up (va_up (va_up (fs_us (va_up S.2.1 40 _) 0 l.length _) 34 _) 35 _) 36 _ k = _
          rw [va_up_ne _ _ c36, va_up_ne _ _ c35, va_up_ne _ _ c34]
          unfold fs_us
          rw [va_up_ne _ _ c35, va_up_ne _ _ c34, va_up_ne _ _ c40]
      · rw [g2]; rfl
      · rw [g2]; rfl
      · rw [g2]; rfl
    · have hll : Sh.length < 5 := by omega
      have eds : fs_ds Sh = Sh := if_pos hll
      have edq : fs_dq Sh (q1, q2) = (q1, q2) := by
        unfold fs_dq
        cases Sh with
        | nil => rfl
        | cons B l => exact if_pos hll
      refine w_n (fun z => hl5 (n_inj (b := 5) (by omega) (by decide) z)) ?_
      refine w_mono (w_put hb hu ha hS hSl) fun r S1 ⟨g1, g2⟩ => Or.inr (Or.inl ⟨hho, rfl, g1, ?_, ?_, ?_, ?_, ?_, ?_, ?_, ?_, ?_⟩)
      · rw [g2]; rfl
      · rw [g2, eds]
        exact sf_put hS (fun R hR => (hSok R hR).1.1) hT hu
      · rw [g2]
        rfl
      · rw [g2, edq]
        exact h0
      · rw [g2, edq]
        exact h1
      · rw [g2]
        refine ⟨fun k c0 c33 c37 c47 => up_miss c33 _, fun k c34 c35 c36 c38 c40 => ?_⟩
        show va_up (va_up (va_up S.2.1 34 _) 35 _) 36 _ k = _
        rw [va_up_ne _ _ c36, va_up_ne _ _ c35, va_up_ne _ _ c34]
      · rw [g2]; rfl
      · rw [g2]; rfl
      · rw [g2]; rfl
  | some k =>
    obtain ⟨-, hkl, U, hU, -⟩ := kt_lt hkt
    rw [Nat.sub_zero] at hU
    rw [Nat.zero_add] at hkl
    obtain ⟨nf, hg⟩ := hKT U (List.mem_of_getElem? hU)
    have hnfu : ∀ nf2, fs_TG U.2.2.2 nf2 → nf2 = nf := fun nf2 hg2 => by
      have a1 := hg2.2.1
      have a2 := hg.2.1
      exact n_inj (by omega) (by omega) (hg2.1.symm.trans hg.1)
    have hTp := kn_tpl hK hU hg
    refine w_n (Int32.ofNat_not_neg (by omega)) <| w_read0k hb hu hu7 hng.2 (by omega) hTp hg h5 (by omega) (fun y hkr => ?_) fun y hkr => ?_
    · have hcr := cr_iff.mpr hkr
      refine w_l <| w_n (by decide) <| w_gi 37 rfl ?_
      rw [show (r_pi_ S 47 y).1 37 = Int32.ofNat V.length from hV.1, n_a]
      by_cases h80 : V.length + n ≤ 80
      · refine w_p ((n_le (y := 80) (by omega) (by decide)).mpr h80) <| w_pi0 <| w_gi 0 rfl <| w_p rfl ?_
        have hb2 : fs_buf u f (r_pi_ (r_pi_ S 47 y) 0 0) := ⟨hb.1, hb.2⟩
        have hTp2 : fs_tpl k nf U.2.2.2 (r_pi_ (r_pi_ S 47 y) 0 0) := hTp
        have hV2 : fs_rws V (r_pi_ (r_pi_ S 47 y) 0 0) := hV
        refine w_mkk (rm := V.length) hb2 hu hu7 hng.2 (by omega) hTp2 hg h5 (by omega) hV2.1 (fun _ => h80) (fun y2 _ => ?_) fun y2 hc => by rw [hcr] at hc; cases hc
        refine w_mono (w_mark ha (by omega)) fun r S1 ⟨g1, g2⟩ => Or.inr (Or.inr ⟨hho, k, U, rfl, hU, fun nf2 hg2 => ?_⟩)
        rw [hnfu nf2 hg2]
        refine Or.inr (Or.inr ⟨hcr, by omega, g1, ?_, ?_, ?_, ?_, ?_, ?_, ?_, ?_⟩)
        · rw [g2]; rfl
        · rw [g2]
          exact rws_add (S := r_pi_ (r_pi_ S 47 y) 0 0) (y := y2) hV2 (mr_len _ _ _ _ _ _)
        · rw [g2]
          rfl
        · rw [g2]
          refine ⟨fun k c0 c33 c37 c47 => ?_, fun k c34 c35 c36 c38 c40 => ?_⟩
          · show upd (upd (upd (upd S.1 47 _) 0 _) 47 _) 37 _ k = _
            rw [up_miss c37, up_miss c47, up_miss c0, up_miss c47]
          · show va_up (va_up S.2.1 38 _) 36 _ k = _
            rw [va_up_ne _ _ c36, va_up_ne _ _ c38]
        · rw [g2]; rfl
        · rw [g2]; rfl
        · rw [g2]; rfl
        · rw [g2]; rfl
      · refine w_n (fun z => h80 ((n_le (y := 80) (by omega) (by decide)).mp z)) <| w_pi0 <| w_gi 0 rfl <| w_n (by show ¬ (3 : Int32) = 0; decide) <| w_ret (Or.inr (Or.inr ⟨hho, k, U, rfl, hU, fun nf2 hg2 => ?_⟩))
        rw [hnfu nf2 hg2]
        exact Or.inr (Or.inl ⟨hcr, by omega, y, rfl⟩)
    · refine w_l <| w_p rfl <| w_pi0 <| w_gi 0 rfl <| w_n (by show ¬ (2 : Int32) = 0; decide) <| w_ret (Or.inr (Or.inr ⟨hho, k, U, rfl, hU, fun nf2 hg2 => ?_⟩))
      rw [hnfu nf2 hg2]
      refine Or.inl ⟨?_, y, rfl⟩
      cases hc : fs_cr u f U.2.2.2 nf n with
      | false => rfl
      | true =>
        have := cr_iff.mp hc
        exact absurd (by rw [this]; exact ⟨rfl, rfl⟩) hkr
