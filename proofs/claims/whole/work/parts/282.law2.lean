/-! what the law does with each call -/
theorem hd_1 : ∀ q ∈ [(fs_IAE, 1)], (if q.1 = "java/lang/IllegalArgumentException" then fs_ret 1 else fs_fail : fs_T Int32) = fs_ret q.2 ∧ q.2 ≠ 0 := by
  intro q hq
  simp only [List.mem_cons, List.not_mem_nil, or_false] at hq
  subst hq
  exact ⟨if_pos rfl, by decide⟩
theorem hd_12 : ∀ q ∈ [(fs_IAE, 1), (fs_ISE, 2)], (if q.1 = "java/lang/IllegalArgumentException" then fs_ret 1 else if q.1 = "java/lang/IllegalStateException" then fs_ret 2 else fs_fail : fs_T Int32) = fs_ret q.2 ∧ q.2 ≠ 0 := by
  intro q hq
  simp only [List.mem_cons, List.not_mem_nil, or_false] at hq
  rcases hq with rfl | rfl
  · exact ⟨if_pos rfl, by decide⟩
  · exact ⟨(if_neg (by decide)).trans (if_pos rfl), by decide⟩
theorem hd_1o : ∀ q ∈ [(fs_IAE, 1), (fs_IOB, 2)], (if q.1 = "java/lang/IllegalArgumentException" then fs_ret 1 else if q.1 = "java/lang/IndexOutOfBoundsException" then fs_ret 2 else fs_fail : fs_T Int32) = fs_ret q.2 ∧ q.2 ≠ 0 := by
  intro q hq
  simp only [List.mem_cons, List.not_mem_nil, or_false] at hq
  rcases hq with rfl | rfl
  · exact ⟨if_pos rfl, by decide⟩
  · exact ⟨(if_neg (by decide)).trans (if_pos rfl), by decide⟩
theorem hd_o : ∀ q ∈ [(fs_IOB, 1)], (if q.1 = "java/lang/IndexOutOfBoundsException" then fs_ret 1 else fs_fail : fs_T Int32) = fs_ret q.2 ∧ q.2 ≠ 0 := by
  intro q hq
  simp only [List.mem_cons, List.not_mem_nil, or_false] at hq
  subst hq
  exact ⟨if_pos rfl, by decide⟩
theorem hd_oi : ∀ q ∈ [(fs_IOB, 1), (fs_IAE, 2)], (if q.1 = "java/lang/IndexOutOfBoundsException" then fs_ret 1 else if q.1 = "java/lang/IllegalArgumentException" then fs_ret 2 else fs_fail : fs_T Int32) = fs_ret q.2 ∧ q.2 ≠ 0 := by
  intro q hq
  simp only [List.mem_cons, List.not_mem_nil, or_false] at hq
  rcases hq with rfl | rfl
  · exact ⟨if_pos rfl, by decide⟩
  · exact ⟨(if_neg (by decide)).trans (if_pos rfl), by decide⟩
theorem hd_oiu : ∀ q ∈ [(fs_IOB, 1), (fs_IAE, 2), (fs_UOE, 3)], (if q.1 = "java/lang/IndexOutOfBoundsException" then fs_ret 1 else if q.1 = "java/lang/IllegalArgumentException" then fs_ret 2 else if q.1 = "java/lang/UnsupportedOperationException" then fs_ret 3 else fs_fail : fs_T Int32) = fs_ret q.2 ∧ q.2 ≠ 0 := by
  intro q hq
  simp only [List.mem_cons, List.not_mem_nil, or_false] at hq
  rcases hq with rfl | rfl | rfl
  · exact ⟨if_pos rfl, by decide⟩
  · exact ⟨(if_neg (by decide)).trans (if_pos rfl), by decide⟩
  · exact ⟨(if_neg (by decide)).trans ((if_neg (by decide)).trans (if_pos rfl)), by decide⟩
theorem ok_mono {p : fs_T Int32} {σ : fs_S} {N U N2 U2 : Nat} (h : fs_Ok p σ N U) (h1 : N ≤ N2) (h2 : U ≤ U2) : fs_Ok p σ N2 U2 := by
  obtain ⟨σF, a, b, c⟩ := h
  exact ⟨σF, a, Nat.le_trans b h1, Nat.le_trans c h2⟩
theorem ls_mono {k0 : fs_M} {cz A B : Nat → Nat} {r3 k : Nat} {Z : fs_Z} {S : fs_R} {h : List fs_C} {w : Nat → Int64} {σ : fs_S} (hL : fs_Ls k0 cz A B r3 k Z S h w σ) : fs_Ls k0 cz A B r3 (k + 1) Z S h w σ := ⟨hL.1, hL.2.1, ⟨fun x hx => ix_mono (hL.2.2.1.1 x hx) (Nat.le_refl _), hL.2.2.1.2⟩, hL.2.2.2⟩
theorem ls_kc {k0 : fs_M} {cz A B : Nat → Nat} {b L r3 k : Nat} {xs g : Nat → Int32} {Z : fs_Z} {S : fs_R} {h : List fs_C} {w : Nat → Int64} {σ : fs_S} (hC : fs_Cx k0 cz b L xs g) (hL : fs_Ls k0 cz A B r3 k Z S h w σ) : fs_kc (cz 1) σ ∧ fs_kl g σ := by
  obtain ⟨-, -, -, e1, e2⟩ := hL
  refine ⟨⟨by rw [e2], by rw [e1]; exact hC.2.2.2.2⟩, ?_⟩
  show σ.2.1 (σ.2.2.1 0) = _
  rw [e1, e2]
  exact hC.2.2.1
theorem ls_sc {k0 : fs_M} {cz A B : Nat → Nat} {b L r3 k : Nat} {xs g : Nat → Int32} {Z : fs_Z} {S : fs_R} {h : List fs_C} {w : Nat → Int64} {σ : fs_S} (hC : fs_Cx k0 cz b L xs g) (hL : fs_Ls k0 cz A B r3 k Z S h w σ) : fs_Sc b L xs σ := by
  obtain ⟨-, h2, -, e1, -⟩ := hL
  obtain ⟨H, o1, -⟩ := rb_swap h2
  exact sc_ok hC o1 e1
set_option maxRecDepth 100000 in
theorem lw_body {k0 : fs_M} {cz A B : Nat → Nat} {b L r3 k N U : Nat} {xs g : Nat → Int32} {Z : fs_Z} {S : fs_R} {h : List fs_C} {w : Nat → Int64} {σ : fs_S} {K : Int32 → fs_T Int32} (hC : fs_Cx k0 cz b L xs g) (hL : fs_Ls k0 cz A B r3 k Z S h w σ) (hkL : 7 * k + 7 ≤ L) (nx : ∀ Z2 S2 h2 w2 σ2, fs_Ls k0 cz A B r3 (k + 1) Z2 S2 h2 w2 σ2 → fs_st σ σ2 300 9000 → fs_Ok (K (Int32.ofNat (7 * (k + 1)))) σ2 N U) : fs_Ok (lb_Lw_law_23 b (A 7) r3 (B 0) K (Int32.ofNat (7 * k))) σ N U := by
  obtain ⟨hc, hg⟩ := ls_kc hC hL
  have sc := ls_sc hC hL
  have hL2 := hL
  obtain ⟨hX, -, hI, -, -⟩ := hL2
  have hL35 := hC.1
  have hk1 : k < 1000 := by omega
  have hk2 : k < 512 := by omega
  have nx2 : ∀ Z2 S2 h2 w2 σ2, fs_Ls k0 cz A B r3 (k + 1) Z2 S2 h2 w2 σ2 → fs_st σ σ2 300 9000 → fs_Ok (fs_nm (Int32.ofNat (7 * k) + 7 : Int32) fun v => K v) σ2 N U := fun Z2 S2 h2 w2 σ2 a c => by
    refine ok_m ?_
    rw [show Int32.ofNat (7 * k) + 7 = Int32.ofNat (7 * (k + 1)) from n_a (7 * k) 7]
    exact nx Z2 S2 h2 w2 σ2 a c
  have n7 : ¬ Int32.ofNat L - 7 < Int32.ofNat (7 * k) := fun z => by
    rw [show Int32.ofNat L - 7 = Int32.ofNat (L - 7) from n_s (y := 7) (by omega)] at z
    have := (n_lt (by omega) (by omega)).mp z
    omega
  refine ok_b sc.1 <| ok_n n7 <| ok_b (sc.2 (7 * k) (by omega)) <| ok_l ?_
  by_cases o0 : xs (7 * k) &&& 31 = 0
  · have go : ∀ fin : Int32, ∃ c σ1 r σ2 Z2 S2 h2 w2, (f_Lw_packet (A 7) (xs (7 * k + 1)) (xs (7 * k + 2)) (xs (7 * k + 3)) (xs (7 * k + 4)) (xs (7 * k + 5)) fin r3).1 σ = some (c, σ1) ∧ fs_Sc b L xs σ1 ∧ (fs_cv (B 0) 12 (f_Rf_packet (B 0) (xs (7 * k + 1)) (xs (7 * k + 2)) (xs (7 * k + 3)) (xs (7 * k + 4)) (xs (7 * k + 5)) fin)).1 σ1 = some (r, σ2) ∧ (fs_cv (B 0) 12 (f_Rf_thrown (B 0))).1 σ2 = some (c, σ2) ∧ (c = 0 → (fs_aj r3 0).1 σ2 = some ((if r = 0 then 0 else 1 : Int64), σ2)) ∧ fs_Ls k0 cz A B r3 (k + 1) Z2 S2 h2 w2 σ2 ∧ fs_st σ σ2 300 9000 := fun fin =>
      lw_out (conv := fun v : Int32 => if v = 0 then 0 else 1) (cvr := fun r : Int32 => if r = 0 then 0 else 1) hC hL (fun F ho => st_packet (B := B) hI hX ho hc (xs (7 * k + 1)) (xs (7 * k + 2)) (xs (7 * k + 3)) (xs (7 * k + 4)) (xs (7 * k + 5)) fin) rfl (fun v r e => by rw [e]) (fun v => by
        show (if v = 0 then fs_bind (fs_sj r3 0 0) fun _ => fs_ret 0 else fs_bind (fs_sj r3 0 1) fun _ => fs_ret 0) = _
        by_cases hv : v = 0
        · rw [if_pos hv, if_pos hv]
        · rw [if_neg hv, if_neg hv]) (fun q hq => hd_12 q hq)
    refine ok_p o0 <| ok_b (sc_rd sc (i := 1) rfl (by omega)) <| ok_b (sc_rd sc (i := 2) rfl (by omega)) <| ok_b (sc_rd sc (i := 3) rfl (by omega)) <| ok_b (sc_rd sc (i := 4) rfl (by omega)) <| ok_b (sc_rd sc (i := 5) rfl (by omega)) <| ok_b (sc_rd sc (i := 6) rfl (by omega)) <| ok_l ?_
    have tl : ∀ fin : Int32, fs_Ok (fs_bind (f_Lw_packet (A 7) (xs (7 * k + 1)) (xs (7 * k + 2)) (xs (7 * k + 3)) (xs (7 * k + 4)) (xs (7 * k + 5)) fin r3) fun v14 => fs_bind (fs_ai b (Int32.ofNat (7 * k) + 1)) fun v15 => fs_bind (fs_ai b (Int32.ofNat (7 * k) + 2)) fun v16 => fs_bind (fs_ai b (Int32.ofNat (7 * k) + 3)) fun v17 => fs_bind (fs_ai b (Int32.ofNat (7 * k) + 4)) fun v18 => fs_bind (fs_ai b (Int32.ofNat (7 * k) + 5)) fun v19 => fs_bind (fs_ai b (Int32.ofNat (7 * k) + 6)) fun v20 => fs_let (fun (v21 : Int32) => fs_bind (fs_cv (B 0) 12 (f_Rf_packet (B 0) v15 v16 v17 v18 v19 v21)) fun v22 => fs_bind (fs_cv (B 0) 12 (f_Rf_thrown (B 0))) fun v23 => if v23 = v14 then (fs_let (fun (_ : Unit) => fs_nm (Int32.ofNat (7 * k) + 7 : Int32) fun v => K v) fun j278 => if v14 = 0 then (fs_bind (fs_aj r3 0) fun v24 => fs_let (fun (v25 : Int64) => if (lg_cmp v24 v25) = 0 then j278 () else fs_rz 0) fun j272 => if v22 = 0 then j272 0 else j272 1) else j278 ()) else fs_rz 0) fun j238 => if v20 = 0 then j238 0 else j238 1) σ N U ∨ ¬ fin = (if xs (7 * k + 6) = 0 then 0 else 1) := fun fin => by
      by_cases hfin : fin = (if xs (7 * k + 6) = 0 then 0 else 1)
      · left
        obtain ⟨c, σ1, r, σ2, Z2, S2, h2, w2, q1, q2, q3, q4, q5, q6, q7⟩ := go fin
        have last : fs_Ok (fs_bind (fs_cv (B 0) 12 (f_Rf_packet (B 0) (xs (7 * k + 1)) (xs (7 * k + 2)) (xs (7 * k + 3)) (xs (7 * k + 4)) (xs (7 * k + 5)) fin)) fun v22 => fs_bind (fs_cv (B 0) 12 (f_Rf_thrown (B 0))) fun v23 => if v23 = c then (fs_let (fun (_ : Unit) => fs_nm (Int32.ofNat (7 * k) + 7 : Int32) fun v => K v) fun j278 => if c = 0 then (fs_bind (fs_aj r3 0) fun v24 => fs_let (fun (v25 : Int64) => if (lg_cmp v24 v25) = 0 then j278 () else fs_rz 0) fun j272 => if v22 = 0 then j272 0 else j272 1) else j278 ()) else fs_rz 0) σ1 N U := by
          refine ok_b q3 <| ok_b q4 <| ok_p rfl <| ok_l ?_
          have fin2 := nx2 _ _ _ _ _ q6 q7
          by_cases hc0 : c = 0
          · refine ok_p hc0 <| ok_b (q5 hc0) <| ok_l ?_
            by_cases hr : r = 0
            · exact ok_p hr <| ok_p ((lg_0 _ _).mpr (if_pos hr)) fin2
            · exact ok_n hr <| ok_p ((lg_0 _ _).mpr (if_neg hr)) fin2
          · exact ok_n hc0 fin2
        refine ok_b q1 <| ok_b (sc_rd q2 (i := 1) rfl (by omega)) <| ok_b (sc_rd q2 (i := 2) rfl (by omega)) <| ok_b (sc_rd q2 (i := 3) rfl (by omega)) <| ok_b (sc_rd q2 (i := 4) rfl (by omega)) <| ok_b (sc_rd q2 (i := 5) rfl (by omega)) <| ok_b (sc_rd q2 (i := 6) rfl (by omega)) <| ok_l ?_
        by_cases h6 : xs (7 * k + 6) = 0
        · rw [if_pos h6] at hfin
          subst hfin
          exact ok_p h6 last
        · rw [if_neg h6] at hfin
          subst hfin
          exact ok_n h6 last
      · exact Or.inr hfin
    by_cases h6 : xs (7 * k + 6) = 0
    · exact ok_p h6 ((tl 0).elim id fun z => absurd (if_pos h6).symm z)
    · exact ok_n h6 ((tl 1).elim id fun z => absurd (if_neg h6).symm z)
  refine ok_n o0 ?_
  by_cases o1 : xs (7 * k) &&& 31 = 1
  · obtain ⟨c, σ1, r, σ2, Z2, S2, h2, w2, q1, q2, q3, q4, q5, q6, q7⟩ := lw_out (P := f_Lw_tick (A 7) (xs (7 * k + 1)) (xs (7 * k + 2)) r3) (conv := Int32.toInt64) (cvr := Int32.toInt64) hC hL (fun F ho => st_tick (B := B) hI hX ho hc (xs (7 * k + 1)) (xs (7 * k + 2))) rfl (fun v r e => by rw [e]) (fun v => rfl) (fun q hq => hd_1 q hq)
    exact ok_p o1 <| ok_b (sc_rd sc (i := 1) rfl (by omega)) <| ok_b (sc_rd sc (i := 2) rfl (by omega)) <| ok_b q1 <| ok_b (sc_rd q2 (i := 1) rfl (by omega)) <| ok_b (sc_rd q2 (i := 2) rfl (by omega)) <| ok_b q3 <| ok_b q4 <| ok_p rfl <| lw_tail q5 <| nx2 _ _ _ _ _ q6 q7
  refine ok_n o1 ?_
  by_cases o2 : xs (7 * k) &&& 31 = 2
  · obtain ⟨c, σ1, r, σ2, Z2, S2, h2, w2, q1, q2, q3, q4, q5, q6, q7⟩ := lw_out (P := f_Lw_flush (A 7) (xs (7 * k + 1)) r3) (conv := Int32.toInt64) (cvr := Int32.toInt64) hC hL (fun F ho => st_flush (B := B) hI hX ho hc (xs (7 * k + 1))) rfl (fun v r e => by rw [e]) (fun v => rfl) (fun q hq => hd_1 q hq)
    exact ok_p o2 <| ok_b (sc_rd sc (i := 1) rfl (by omega)) <| ok_b q1 <| ok_b (sc_rd q2 (i := 1) rfl (by omega)) <| ok_b q3 <| ok_b q4 <| ok_p rfl <| lw_tail q5 <| nx2 _ _ _ _ _ q6 q7
  refine ok_n o2 ?_
  by_cases o3 : xs (7 * k) &&& 31 = 3
  · obtain ⟨c, σ1, r, σ2, Z2, S2, h2, w2, q1, q2, q3, q4, q6, q7⟩ := lw_no (P := f_Lw_sampler (A 7) (xs (7 * k + 1)) (xs (7 * k + 2))) hC hL (fun F ho => st_sampler (B := B) hI hX ho (xs (7 * k + 1)) (xs (7 * k + 2))) rfl (fun v => rfl) (fun q hq => (hd_1 q hq).1)
    exact ok_p o3 <| ok_b (sc_rd sc (i := 1) rfl (by omega)) <| ok_b (sc_rd sc (i := 2) rfl (by omega)) <| ok_b q1 <| ok_b (sc_rd q2 (i := 1) rfl (by omega)) <| ok_b (sc_rd q2 (i := 2) rfl (by omega)) <| ok_b q3 <| ok_b q4 <| ok_p rfl <| nx2 _ _ _ _ _ q6 q7
  refine ok_n o3 ?_
  by_cases o4 : xs (7 * k) &&& 31 = 4
  · obtain ⟨c, σ1, r, σ2, Z2, S2, h2, w2, q1, q2, q3, q4, q5, q6, q7⟩ := lw_out (P := f_Lw_ended (A 7) (xs (7 * k + 1)) (xs (7 * k + 2)) (xs (7 * k + 3)) r3) (conv := Int32.toInt64) (cvr := Int32.toInt64) hC hL (fun F ho => st_ended (B := B) hI hX ho (xs (7 * k + 1)) (xs (7 * k + 2)) (xs (7 * k + 3))) rfl (fun v r e => by rw [e]) (fun v => rfl) (fun q hq => hd_1o q hq)
    exact ok_p o4 <| ok_b (sc_rd sc (i := 1) rfl (by omega)) <| ok_b (sc_rd sc (i := 2) rfl (by omega)) <| ok_b (sc_rd sc (i := 3) rfl (by omega)) <| ok_b q1 <| ok_b (sc_rd q2 (i := 1) rfl (by omega)) <| ok_b (sc_rd q2 (i := 2) rfl (by omega)) <| ok_b (sc_rd q2 (i := 3) rfl (by omega)) <| ok_b q3 <| ok_b q4 <| ok_p rfl <| lw_tail q5 <| nx2 _ _ _ _ _ q6 q7
  refine ok_n o4 ?_
  by_cases o5 : xs (7 * k) &&& 31 = 5
  · obtain ⟨c, σ1, r, σ2, Z2, S2, h2, w2, q1, q2, q3, q4, q5, q6, q7⟩ := lw_out (P := f_Lw_field (A 7) (xs (7 * k + 1)) (xs (7 * k + 2)) (xs (7 * k + 3)) (xs (7 * k + 4)) r3) (conv := Int32.toInt64) (cvr := Int32.toInt64) hC hL (fun F ho => st_field (B := B) hI hk1 hX ho hg hC.2.2.2.1 (xs (7 * k + 1)) (xs (7 * k + 2)) (xs (7 * k + 3)) (xs (7 * k + 4))) rfl (fun v r e => by rw [e]) (fun v => rfl) (fun q hq => hd_12 q hq)
    exact ok_p o5 <| ok_b (sc_rd sc (i := 1) rfl (by omega)) <| ok_b (sc_rd sc (i := 2) rfl (by omega)) <| ok_b (sc_rd sc (i := 3) rfl (by omega)) <| ok_b (sc_rd sc (i := 4) rfl (by omega)) <| ok_b q1 <| ok_b (sc_rd q2 (i := 1) rfl (by omega)) <| ok_b (sc_rd q2 (i := 2) rfl (by omega)) <| ok_b (sc_rd q2 (i := 3) rfl (by omega)) <| ok_b (sc_rd q2 (i := 4) rfl (by omega)) <| ok_b q3 <| ok_b q4 <| ok_p rfl <| lw_tail q5 <| nx2 _ _ _ _ _ q6 q7
  refine ok_n o5 ?_
  by_cases o6 : xs (7 * k) &&& 31 = 6
  · obtain ⟨c, σ1, r, σ2, Z2, S2, h2, w2, q1, q2, q3, q4, q5, q6, q7⟩ := lw_out (P := f_Lw_seal (A 7) (xs (7 * k + 1)) (xs (7 * k + 2)) r3) (conv := Int32.toInt64) (cvr := Int32.toInt64) hC hL (fun F ho => st_seal (B := B) hI hk1 hX ho (xs (7 * k + 1)) (xs (7 * k + 2))) rfl (fun v r e => by rw [e]) (fun v => rfl) (fun q hq => hd_12 q hq)
    exact ok_p o6 <| ok_b (sc_rd sc (i := 1) rfl (by omega)) <| ok_b (sc_rd sc (i := 2) rfl (by omega)) <| ok_b q1 <| ok_b (sc_rd q2 (i := 1) rfl (by omega)) <| ok_b (sc_rd q2 (i := 2) rfl (by omega)) <| ok_b q3 <| ok_b q4 <| ok_p rfl <| lw_tail q5 <| nx2 _ _ _ _ _ q6 q7
  refine ok_n o6 ?_
  by_cases o7 : xs (7 * k) &&& 31 = 7
  · obtain ⟨c, σ1, r, σ2, Z2, S2, h2, w2, q1, q2, q3, q4, q6, q7⟩ := lw_no (P := f_Lw_withdraw (A 7) (xs (7 * k + 1)) (xs (7 * k + 2))) hC hL (fun F ho => st_withdraw (B := B) hI hk1 hX ho (xs (7 * k + 1)) (xs (7 * k + 2))) rfl (fun v => rfl) (fun q hq => (hd_12 q hq).1)
    exact ok_p o7 <| ok_b (sc_rd sc (i := 1) rfl (by omega)) <| ok_b (sc_rd sc (i := 2) rfl (by omega)) <| ok_b q1 <| ok_b (sc_rd q2 (i := 1) rfl (by omega)) <| ok_b (sc_rd q2 (i := 2) rfl (by omega)) <| ok_b q3 <| ok_b q4 <| ok_p rfl <| nx2 _ _ _ _ _ q6 q7
  refine ok_n o7 ?_
  by_cases o8 : xs (7 * k) &&& 31 = 8
  · obtain ⟨c, σ1, r, σ2, Z2, S2, h2, w2, q1, q2, q3, q4, q5, q6, q7⟩ := lw_out (P := f_Lw_restart (A 7) (xs (7 * k + 1)) r3) (conv := Int32.toInt64) (cvr := Int32.toInt64) hC hL (fun F ho => st_restart (B := B) hI hX ho (xs (7 * k + 1))) rfl (fun v r e => by rw [e]) (fun v => rfl) (fun q hq => hd_12 q hq)
    exact ok_p o8 <| ok_b (sc_rd sc (i := 1) rfl (by omega)) <| ok_b q1 <| ok_b (sc_rd q2 (i := 1) rfl (by omega)) <| ok_b q3 <| ok_b q4 <| ok_p rfl <| lw_tail q5 <| nx2 _ _ _ _ _ q6 q7
  refine ok_n o8 ?_
  by_cases o9 : xs (7 * k) &&& 31 = 9
  · obtain ⟨c, σ1, r, σ2, Z2, S2, h2, w2, q1, q2, q3, q4, q5, q6, q7⟩ := lw_out (P := f_Lw_announce (A 7) (xs (7 * k + 1)) (xs (7 * k + 2)) r3) (conv := Int32.toInt64) (cvr := Int32.toInt64) hC hL (fun F ho => st_announce (B := B) hI hk2 hX ho hc (xs (7 * k + 1)) (xs (7 * k + 2))) rfl (fun v r e => by rw [e]) (fun v => rfl) (fun q hq => hd_12 q hq)
    exact ok_p o9 <| ok_b (sc_rd sc (i := 1) rfl (by omega)) <| ok_b (sc_rd sc (i := 2) rfl (by omega)) <| ok_b q1 <| ok_b (sc_rd q2 (i := 1) rfl (by omega)) <| ok_b (sc_rd q2 (i := 2) rfl (by omega)) <| ok_b q3 <| ok_b q4 <| ok_p rfl <| lw_tail q5 <| nx2 _ _ _ _ _ q6 q7
  refine ok_n o9 ?_
  by_cases o10 : xs (7 * k) &&& 31 = 10
  · obtain ⟨c, σ1, r, σ2, Z2, S2, h2, w2, q1, q2, q3, q4, q5, q6, q7⟩ := lw_out (P := f_Lw_report (A 7) (xs (7 * k + 1)) r3) (conv := Int32.toInt64) (cvr := Int32.toInt64) hC hL (fun F ho => st_report (B := B) hI hk2 hX ho hc (xs (7 * k + 1))) rfl (fun v r e => by rw [e]) (fun v => rfl) (fun q hq => hd_12 q hq)
    exact ok_p o10 <| ok_b (sc_rd sc (i := 1) rfl (by omega)) <| ok_b q1 <| ok_b (sc_rd q2 (i := 1) rfl (by omega)) <| ok_b q3 <| ok_b q4 <| ok_p rfl <| lw_tail q5 <| nx2 _ _ _ _ _ q6 q7
  refine ok_n o10 ?_
  by_cases o11 : xs (7 * k) &&& 31 = 11
  · obtain ⟨c, σ1, r, σ2, Z2, S2, h2, w2, q1, q2, q3, q4, q5, q6, q7⟩ := lw_out (P := f_Lw_tell (A 7) (xs (7 * k + 1)) r3) (conv := Int32.toInt64) (cvr := Int32.toInt64) hC hL (fun F ho => st_tell (B := B) hI hX ho hc (xs (7 * k + 1))) rfl (fun v r e => by rw [e]) (fun v => rfl) (fun q hq => hd_12 q hq)
    exact ok_p o11 <| ok_b (sc_rd sc (i := 1) rfl (by omega)) <| ok_b q1 <| ok_b (sc_rd q2 (i := 1) rfl (by omega)) <| ok_b q3 <| ok_b q4 <| ok_p rfl <| lw_tail q5 <| nx2 _ _ _ _ _ q6 q7
  refine ok_n o11 ?_
  by_cases o12 : xs (7 * k) &&& 31 = 12
  · obtain ⟨c, σ1, σ2, Z2, S2, h2, w2, q1, q2, q3, q6, q7⟩ := lw_rd hC hL (fun F ho => st_size (B := B) hI hX ho (xs (7 * k + 1)))
    exact ok_p o12 <| ok_b (sc_rd sc (i := 1) rfl (by omega)) <| ok_b q1 <| ok_b (sc_rd q2 (i := 1) rfl (by omega)) <| ok_b q3 <| ok_p rfl <| nx2 _ _ _ _ _ q6 q7
  refine ok_n o12 ?_
  by_cases o13 : xs (7 * k) &&& 31 = 13
  · obtain ⟨c, σ1, r, σ2, Z2, S2, h2, w2, q1, q2, q3, q4, q5, q6, q7⟩ := lw_out (P := f_Lw_byteOf (A 7) (xs (7 * k + 1)) (xs (7 * k + 2)) r3) (conv := Int32.toInt64) (cvr := Int32.toInt64) hC hL (fun F ho => st_byteOf (B := B) hI hX ho (xs (7 * k + 1)) (xs (7 * k + 2))) rfl (fun v r e => by rw [e]) (fun v => rfl) (fun q hq => hd_o q hq)
    exact ok_p o13 <| ok_b (sc_rd sc (i := 1) rfl (by omega)) <| ok_b (sc_rd sc (i := 2) rfl (by omega)) <| ok_b q1 <| ok_b (sc_rd q2 (i := 1) rfl (by omega)) <| ok_b (sc_rd q2 (i := 2) rfl (by omega)) <| ok_b q3 <| ok_b q4 <| ok_p rfl <| lw_tail q5 <| nx2 _ _ _ _ _ q6 q7
  refine ok_n o13 ?_
  by_cases o14 : xs (7 * k) &&& 31 = 14
  · obtain ⟨c, σ1, r, σ2, Z2, S2, h2, w2, q1, q2, q3, q4, q6, q7⟩ := lw_no (P := f_Lw_poke (A 7) (xs (7 * k + 1)) (xs (7 * k + 2)) (xs (7 * k + 3))) hC hL (fun F ho => st_poke (B := B) hI hX ho (xs (7 * k + 1)) (xs (7 * k + 2)) (xs (7 * k + 3))) rfl (fun v => rfl) (fun q hq => (hd_oi q hq).1)
    exact ok_p o14 <| ok_b (sc_rd sc (i := 1) rfl (by omega)) <| ok_b (sc_rd sc (i := 2) rfl (by omega)) <| ok_b (sc_rd sc (i := 3) rfl (by omega)) <| ok_b q1 <| ok_b (sc_rd q2 (i := 1) rfl (by omega)) <| ok_b (sc_rd q2 (i := 2) rfl (by omega)) <| ok_b (sc_rd q2 (i := 3) rfl (by omega)) <| ok_b q3 <| ok_b q4 <| ok_p rfl <| nx2 _ _ _ _ _ q6 q7
  refine ok_n o14 ?_
  by_cases o15 : xs (7 * k) &&& 31 = 15
  · obtain ⟨c, σ1, r, σ2, Z2, S2, h2, w2, q1, q2, q3, q4, q5, q6, q7⟩ := lw_out (P := f_Lw_hear (A 7) (xs (7 * k + 1)) r3) (conv := Int32.toInt64) (cvr := Int32.toInt64) hC hL (fun F ho => st_hear (B := B) hI hX ho hc (xs (7 * k + 1))) rfl (fun v r e => by rw [e]) (fun v => rfl) (fun q hq => hd_oiu q hq)
    exact ok_p o15 <| ok_b (sc_rd sc (i := 1) rfl (by omega)) <| ok_b q1 <| ok_b (sc_rd q2 (i := 1) rfl (by omega)) <| ok_b q3 <| ok_b q4 <| ok_p rfl <| lw_tail q5 <| nx2 _ _ _ _ _ q6 q7
  refine ok_n o15 ?_
  by_cases o16 : xs (7 * k) &&& 31 = 16
  · obtain ⟨c, σ1, σ2, Z2, S2, h2, w2, q1, q2, q3, q6, q7⟩ := lw_rd hC hL (fun F ho => st_rows (B := B) hI hX ho )
    exact ok_p o16 <| ok_b q1 <| ok_b q3 <| ok_p rfl <| nx2 _ _ _ _ _ q6 q7
  refine ok_n o16 ?_
  by_cases o17 : xs (7 * k) &&& 31 = 17
  · obtain ⟨c, σ1, r, σ2, Z2, S2, h2, w2, q1, q2, q3, q4, q5, q6, q7⟩ := lw_out (P := f_Lw_row (A 7) (xs (7 * k + 1)) (xs (7 * k + 2)) r3) (conv := id) (cvr := id) hC hL (fun F ho => st_row (B := B) hI hX ho (xs (7 * k + 1)) (xs (7 * k + 2))) rfl (fun v r e => by rw [e]) (fun v => rfl) (fun q hq => hd_oi q hq)
    exact ok_p o17 <| ok_b (sc_rd sc (i := 1) rfl (by omega)) <| ok_b (sc_rd sc (i := 2) rfl (by omega)) <| ok_b q1 <| ok_b (sc_rd q2 (i := 1) rfl (by omega)) <| ok_b (sc_rd q2 (i := 2) rfl (by omega)) <| ok_b q3 <| ok_b q4 <| ok_p rfl <| lw_tail q5 <| nx2 _ _ _ _ _ q6 q7
  refine ok_n o17 ?_
  by_cases o18 : xs (7 * k) &&& 31 = 18
  · obtain ⟨c, σ1, r, σ2, Z2, S2, h2, w2, q1, q2, q3, q4, q5, q6, q7⟩ := lw_out (P := f_Lw_total (A 7) (xs (7 * k + 1)) (xs (7 * k + 2)) ((fs_lshl (Int32.toInt64 (xs (7 * k + 3))) 32) ||| ((Int32.toInt64 (xs (7 * k + 4))) &&& 4294967295)) (xs (7 * k + 5)) r3) (conv := id) (cvr := id) hC hL (fun F ho => st_total (B := B) hI hX ho (xs (7 * k + 1)) (xs (7 * k + 2)) ((fs_lshl (Int32.toInt64 (xs (7 * k + 3))) 32) ||| ((Int32.toInt64 (xs (7 * k + 4))) &&& 4294967295)) (xs (7 * k + 5))) rfl (fun v r e => by rw [e]) (fun v => rfl) (fun q hq => hd_1 q hq)
    exact ok_p o18 <| ok_b (sc_rd sc (i := 1) rfl (by omega)) <| ok_b (sc_rd sc (i := 2) rfl (by omega)) <| ok_b (sc_rd sc (i := 3) rfl (by omega)) <| ok_b (sc_rd sc (i := 4) rfl (by omega)) <| ok_b (sc_rd sc (i := 5) rfl (by omega)) <| ok_b q1 <| ok_b (sc_rd q2 (i := 1) rfl (by omega)) <| ok_b (sc_rd q2 (i := 2) rfl (by omega)) <| ok_b (sc_rd q2 (i := 3) rfl (by omega)) <| ok_b (sc_rd q2 (i := 4) rfl (by omega)) <| ok_b (sc_rd q2 (i := 5) rfl (by omega)) <| ok_b q3 <| ok_b q4 <| ok_p rfl <| lw_tail q5 <| nx2 _ _ _ _ _ q6 q7
  refine ok_n o18 ?_
  by_cases o19 : xs (7 * k) &&& 31 = 19
  · obtain ⟨c, σ1, r, σ2, Z2, S2, h2, w2, q1, q2, q3, q4, q5, q6, q7⟩ := lw_out (P := f_Lw_other (A 7) (xs (7 * k + 1)) r3) (conv := Int32.toInt64) (cvr := Int32.toInt64) hC hL (fun F ho => st_other (B := B) hI hX ho (xs (7 * k + 1))) rfl (fun v r e => by rw [e]) (fun v => rfl) (fun q hq => hd_o q hq)
    exact ok_p o19 <| ok_b (sc_rd sc (i := 1) rfl (by omega)) <| ok_b q1 <| ok_b (sc_rd q2 (i := 1) rfl (by omega)) <| ok_b q3 <| ok_b q4 <| ok_p rfl <| lw_tail q5 <| nx2 _ _ _ _ _ q6 q7
  refine ok_n o19 ?_
  by_cases o20 : xs (7 * k) &&& 31 = 20
  · obtain ⟨c, σ1, r, σ2, Z2, S2, h2, w2, q1, q2, q3, q4, q5, q6, q7⟩ := lw_out (P := f_Lw_count (A 7) (xs (7 * k + 1)) (xs (7 * k + 2)) r3) (conv := Int32.toInt64) (cvr := Int32.toInt64) hC hL (fun F ho => st_count (B := B) hI hX ho (xs (7 * k + 1)) (xs (7 * k + 2))) rfl (fun v r e => by rw [e]) (fun v => rfl) (fun q hq => hd_1 q hq)
    exact ok_p o20 <| ok_b (sc_rd sc (i := 1) rfl (by omega)) <| ok_b (sc_rd sc (i := 2) rfl (by omega)) <| ok_b q1 <| ok_b (sc_rd q2 (i := 1) rfl (by omega)) <| ok_b (sc_rd q2 (i := 2) rfl (by omega)) <| ok_b q3 <| ok_b q4 <| ok_p rfl <| lw_tail q5 <| nx2 _ _ _ _ _ q6 q7
  refine ok_n o20 ?_
  exact nx2 _ _ _ _ _ (ls_mono hL) (st_le (st_rf σ) (Nat.zero_le _) (Nat.zero_le _))
