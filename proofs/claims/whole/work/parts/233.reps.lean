/-! reports kept -/
theorem tq_1 (f g : Nat → Int32) : ∀ (m i : Nat) (R : fs_Rp), (fs_tq f g R i m).1 = R.1 ∧ (R.2.2.1 ≤ 64 → (fs_tq f g R i m).2.2.1 ≤ 64)
  | 0, _, _ => ⟨rfl, id⟩
  | m + 1, i, R => ⟨(tq_1 f g m (i + 1) _).1.trans ((ra_1 _ _).1.trans (ra_1 _ _).1), fun h => (tq_1 f g m (i + 1) _).2 ((ra_1 _ _).2 ((ra_1 _ _).2 h))⟩
theorem tp_1 (n : Nat) (s t : Nat → Int32) (L : fs_Ly) : (fs_tp n s t L).1 = n := (tq_1 _ _ _ _ _).1.trans ((ra_1 _ _).1.trans ((ra_1 _ _).1.trans (ra_1 _ _).1))
theorem wl_1 (f g : Nat → Int32) (u : Nat) : ∀ (l : fs_Fs) (R : fs_Rp), (fs_wl f g u R l).1 = R.1 ∧ (R.2.2.1 ≤ 64 → (fs_wl f g u R l).2.2.1 ≤ 64)
  | [], _ => ⟨rfl, id⟩
  | q :: l, R => ⟨(wl_1 f g u l _).1.trans (lw_1 f g q.2 u 0 R).1, fun h => (wl_1 f g u l _).2 ((lw_1 f g q.2 u 0 R).2 h)⟩
theorem rr_1 (n : Nat) (s t : Nat → Int32) (L : fs_Ly) (E : fs_Fs) (k : Nat) : (fs_rr n s t L E k).1 = n := (wl_1 _ _ _ _ _).1.trans ((ra_1 _ _).1.trans ((ra_1 _ _).1.trans ((ra_1 _ _).1.trans (ra_1 _ _).1)))
theorem wf_keep {c1 : Nat} {A : Nat → Nat} {Z : fs_Z} {R : fs_Rp} {h F : List fs_C} {σ : fs_S} (hX : fs_WF c1 A Z h) (ho : fs_own (h ++ (fs_rc R ++ F)) σ) (hc : fs_kc c1 σ) (hl : (z_R Z).length < 30) :
    ∃ σ1 h1, (fs_cv (A 7) 0 (f_Fs_keep (A 7) R.1)).1 σ = some (Int32.ofNat (z_R Z).length, σ1) ∧ fs_WF c1 A (z_sR Z (z_R Z ++ [R])) h1 ∧ fs_own (h1 ++ F) σ1 ∧ fs_st σ σ1 1 100 := by
  have e := (wf_rd hX ho).1
  obtain ⟨hx, hy, hr, hc9, rfl, h1, h2, h3, h4⟩ := hX
  have o1 : fs_own (hr ++ (fs_rc R ++ ([(A 7, fs_fo A)] ++ (hx ++ (hy ++ (hc9 ++ F)))))) σ := own_eq (own_ix [[(A 7, fs_fo A)], hx, hy, hr, hc9, fs_rc R, F] [3, 5, 0, 1, 2, 4, 6] rfl (by decide) (own_eq ho (by simp))) (by simp)
  obtain ⟨σ1, hr1, w1, w2, w3, w4⟩ := rf_add h3 o1 hc.1 hc.2 (by omega)
  have e1 := own_at w3 (List.mem_append_right _ (List.mem_append_left _ List.mem_cons_self))
  have r1 := rf_rd w2 w3
  have hs := r1.1.1
  rw [List.length_map, List.length_append] at hs
  refine ⟨σ1, _, r_cv e <| r_b (x_gr e 2 rfl) <| r_b w1 <| r_b (x_gr e1 2 rfl) <| r_b hs ?_, ⟨hx, hy, hr1, hc9, rfl, h1, h2, w2, h4⟩, ?_, st_le w4 (by omega) (by omega)⟩
  · have : Int32.ofNat ((z_R Z).length + [R].length) - 1 = Int32.ofNat (z_R Z).length := ofNat_sub1 (n := (z_R Z).length + 1) (Nat.succ_pos _)
    rw [this]
    rfl
  · rw [flat5]
    exact own_ix [hr1, [(A 7, fs_fo A)], hx, hy, hc9, F] [1, 2, 3, 0, 4, 5] rfl (by decide) (own_eq w3 (by simp))
theorem p_noRoom {c1 : Nat} {A : Nat → Nat} {Z : fs_Z} {h F : List fs_C} {σ : fs_S} (hX : fs_WF c1 A Z h) (ho : fs_own (h ++ F) σ) (hl : (z_R Z).length ≤ 30) : (fs_cv (A 7) 0 (f_Fs_hasNoRoomForReport (A 7))).1 σ = some (if (z_R Z).length < 30 then 0 else 1, σ) := by
  obtain ⟨e, rR⟩ := wf_rd hX ho
  refine r_cv e <| r_b (x_gr e 2 rfl) <| r_b rR.1.1 ?_
  rw [List.length_map]
  by_cases h30 : (z_R Z).length < 30
  · rw [show (if (z_R Z).length < 30 then (0 : Int32) else 1) = 0 from if_pos h30]
    exact r_p ((Int32.ofNat_lt_ofNat (n := 30) (by omega) (by omega)).mpr h30) rfl
  · rw [show (if (z_R Z).length < 30 then (0 : Int32) else 1) = 1 from if_neg h30]
    exact r_n (fun w => h30 ((Int32.ofNat_lt_ofNat (n := 30) (by omega) (by omega)).mp w)) rfl
theorem c_tell {c1 : Nat} {A : Nat → Nat} {Z : fs_Z} {h F : List fs_C} {σ : fs_S} (hX : fs_WF c1 A Z h) (ho : fs_own (h ++ F) σ) (hc : fs_kc c1 σ) (hl : (z_R Z).length ≤ 30) (x : Int32) :
    (¬ (x = 0 ∨ x = 1) → fs_Rn c1 A F σ (fs_cv (A 7) 0 (f_Fs_tell (A 7) x)) (.inr fs_IAE) Z) ∧
    (∀ n, n < 2 → x = Int32.ofNat n → (¬ (z_R Z).length < 30 → fs_Rn c1 A F σ (fs_cv (A 7) 0 (f_Fs_tell (A 7) x)) (.inr fs_ISE) Z) ∧
      ((z_R Z).length < 30 → ∃ na, fs_Rn c1 A F σ (fs_cv (A 7) 0 (f_Fs_tell (A 7) x)) (.inl (Int32.ofNat (z_R Z).length)) (z_sR (z_sX Z n (upd (z_X Z n).1 10 ((z_X Z n).1 10 + 1), (z_X Z n).2)) (z_R Z ++ [fs_ra (fs_ra (fs_rn na ((z_X Z n).1 0) ((z_X Z n).1 5) 2) ((z_X Z n).1 10)) ((z_X Z n).1 6)])))) := by
  have e := (wf_rd hX ho).1
  have hnr := p_noRoom hX ho hl
  refine ⟨fun hx => rn_thr hX ho (r_cv e <| r_be (wf_xn hX ho hx)), fun n hn hx => ?_⟩
  subst hx
  obtain ⟨B, hx9, F1, g1, g2, -, g3, -, g4⟩ := wf_x hX ho hn
  refine ⟨fun h30 => ?_, fun h30 => ?_⟩
  · rw [if_neg h30] at hnr
    exact rn_thr hX ho (r_cv e <| r_bx g3 <| r_b hnr <| r_n (by decide) (x_throw _ _))
  · rw [if_pos h30] at hnr
    obtain ⟨he, E1, o1, l3⟩ := xf_rd g1 g2
    obtain ⟨σ1, h1, k1, k2, k3, k4⟩ := p_Exporter_writeSampler E1 o1
    obtain ⟨h5, m1, m2⟩ := xf_mk k2 l3 (own_eq (own_ix [fs_rc (fs_ra (fs_ra (fs_rn σ.2.2.2.1 ((z_X Z n).1 0) ((z_X Z n).1 5) 2) ((z_X Z n).1 10)) ((z_X Z n).1 6)), h1, fs_SS (B 3) (z_X Z n).2.2.2, F1, F] [1, 2, 3, 0, 4] rfl (by decide) (own_eq k3 (by simp))) (by simp) : fs_own (h1 ++ (fs_SS (B 3) (z_X Z n).2.2.2 ++ (F1 ++ (fs_rc (fs_ra (fs_ra (fs_rn σ.2.2.2.1 ((z_X Z n).1 0) ((z_X Z n).1 5) 2) ((z_X Z n).1 10)) ((z_X Z n).1 6)) ++ F)))) σ1)
    obtain ⟨h6, n1, n2⟩ := g4 _ h5 σ1 m1 m2
    obtain ⟨σ2, h7, w1, w2, w3, w4⟩ := wf_keep n1 n2 (kc_st hc k4) h30
    have ea : (fs_ra (fs_ra (fs_rn σ.2.2.2.1 ((z_X Z n).1 0) ((z_X Z n).1 5) 2) ((z_X Z n).1 10)) ((z_X Z n).1 6)).1 = σ.2.2.2.1 := (ra_1 _ _).1.trans (ra_1 _ _).1
    rw [ea] at w1
    exact ⟨σ.2.2.2.1, σ2, h7, r_cv e <| r_bx g3 <| r_b hnr <| r_p rfl <| r_b k1 <| r_b w1 rfl, w2, w3, st_le (st_tr k4 w4) (by omega) (by omega)⟩
theorem c_announce {c1 : Nat} {A : Nat → Nat} {Z : fs_Z} {h F : List fs_C} {σ : fs_S} (hX : fs_WF c1 A Z h) (ho : fs_own (h ++ F) σ) (hc : fs_kc c1 σ) (hl : (z_R Z).length ≤ 30) (x t : Int32) :
    (¬ (x = 0 ∨ x = 1) ∨ t < 0 ∨ ¬ t < 3 → fs_Rn c1 A F σ (fs_cv (A 7) 0 (f_Fs_announce (A 7) x t)) (.inr fs_IAE) Z) ∧
    (∀ n k T, n < 2 → x = Int32.ofNat n → t = Int32.ofNat k → (z_X Z n).2.2.2[k]? = some T → T.2.2.2.2.2.2.1 ≤ 8 →
      (T.2.1 3 = 0 ∨ ¬ (z_R Z).length < 30 → fs_Rn c1 A F σ (fs_cv (A 7) 0 (f_Fs_announce (A 7) x t)) (.inr fs_ISE) Z) ∧
      (¬ T.2.1 3 = 0 → (z_R Z).length < 30 → ∃ na, fs_Rn c1 A F σ (fs_cv (A 7) 0 (f_Fs_announce (A 7) x t)) (.inl (Int32.ofNat (z_R Z).length)) (z_sR Z (z_R Z ++ [fs_tp na (z_X Z n).1 T.2.1 T.2.2.2])))) := by
  have e := (wf_rd hX ho).1
  have hnr := p_noRoom hX ho hl
  refine ⟨fun hb => rn_thr hX ho (r_cv e <| r_be (p_slotOf_n hX ho hb)), fun n k T hn hx ht hT hu => ?_⟩
  subst hx
  subst ht
  obtain ⟨B, hx9, F1, g1, g2, mo, g3, g3b, g4⟩ := wf_x hX ho hn
  have hs := p_slotOf hX ho g1 g2 g3 hT
  obtain ⟨he, E1, o1, l3⟩ := xf_rd g1 g2
  have mT := List.mem_append_right he (List.mem_append_left (F1 ++ F) (ss_mem (sl := B 3) hT (ts_mem T)))
  have eT := own_at o1 mT
  refine ⟨fun hb => ?_, fun hb h30 => ?_⟩
  · refine rn_thr hX ho (r_cv e <| r_bx hs <| r_b (x_gi eT 3 rfl) <| r_l ?_)
    by_cases h0 : T.2.1 3 = 0
    · exact r_p h0 (x_throw _ _)
    · rw [if_neg (hb.elim (fun z => absurd z h0) id)] at hnr
      exact r_n h0 <| r_b hnr <| r_n (by decide) (x_throw _ _)
  · rw [if_pos h30] at hnr
    have mL : fs_lf T.2.2.2 (he ++ (fs_SS (B 3) (z_X Z n).2.2.2 ++ (F1 ++ F))) := ⟨List.mem_append_right he (List.mem_append_left _ (ss_mem hT (ts_lf T).1.1)), List.mem_append_right he (List.mem_append_left _ (ss_mem hT (ts_lf T).1.2.1)), List.mem_append_right he (List.mem_append_left _ (ss_mem hT (ts_lf T).1.2.2))⟩
    obtain ⟨σ1, k1, k2, k3⟩ := p_Exporter_writeTemplate (List.mem_append_left _ (ef_mem E1)) mT mL hu o1
    obtain ⟨h5, m1, m2⟩ := xf_mk E1 l3 (own_eq (own_ix [fs_rc (fs_tp σ.2.2.2.1 (z_X Z n).1 T.2.1 T.2.2.2), he, fs_SS (B 3) (z_X Z n).2.2.2, F1, F] [1, 2, 3, 0, 4] rfl (by decide) (own_eq k2 (by simp))) (by simp) : fs_own (he ++ (fs_SS (B 3) (z_X Z n).2.2.2 ++ (F1 ++ (fs_rc (fs_tp σ.2.2.2.1 (z_X Z n).1 T.2.1 T.2.2.2) ++ F)))) σ1)
    obtain ⟨h6, n1, n2⟩ := g4 _ h5 σ1 m1 m2
    have eZ : z_sX Z n ((z_X Z n).1, (z_X Z n).2.1, (z_X Z n).2.2.1, (z_X Z n).2.2.2) = Z := by
      show (va_up Z.1 n (Z.1 n), Z.2) = Z
      have : va_up Z.1 n (Z.1 n) = Z.1 := funext fun j => by
        unfold va_up
        by_cases hj : j = n
        · rw [if_pos hj, hj]
        · rw [if_neg hj]
      rw [this]
    rw [eZ] at n1
    obtain ⟨σ2, h7, w1, w2, w3, w4⟩ := wf_keep n1 n2 (kc_st hc k3) h30
    have ea : (fs_tp σ.2.2.2.1 (z_X Z n).1 T.2.1 T.2.2.2).1 = σ.2.2.2.1 := tp_1 _ _ _ _
    rw [ea] at w1
    exact ⟨σ.2.2.2.1, σ2, h7, r_cv e <| r_bx hs <| r_b (x_gi eT 3 rfl) <| r_l <| r_n hb <| r_b hnr <| r_p rfl <| r_bx g3 <| r_b k1 <| r_b w1 rfl, w2, w3, st_le (st_tr k3 w4) (by omega) (by omega)⟩
theorem nl_in : ∀ (l : List fs_Sl) (i : Nat) (b p : Option (Nat × Int32)), fs_nl l i b = p → (∀ q, b = some q → q.1 < i + l.length) → ∀ q, p = some q → q.1 < i + l.length
  | [], i, b, p, h, hb, q, hq => by
    have : b = p := h
    rw [← this] at hq
    exact hb q hq
  | T :: l, i, b, p, h, hb, q, hq => by
    have := nl_in l (i + 1) (fs_nb (T.2.1 3) (T.2.1 5) i b) p h (fun r hr => by
      rw [List.length_cons] at hb
      unfold fs_nb at hr
      split at hr
      · have := hb r hr
        omega
      · cases b with
        | none =>
          cases hr
          show i < _
          omega
        | some r0 =>
          dsimp only at hr
          split at hr
          · cases hr
            have := hb _ rfl
            omega
          · cases hr
            show i < _
            omega) q hq
    rw [List.length_cons]
    omega
theorem c_report {c1 : Nat} {A : Nat → Nat} {Z : fs_Z} {h F : List fs_C} {σ : fs_S} (hX : fs_WF c1 A Z h) (ho : fs_own (h ++ F) σ) (hc : fs_kc c1 σ) (hl : (z_R Z).length ≤ 30) (x : Int32) :
    (¬ (x = 0 ∨ x = 1) → fs_Rn c1 A F σ (fs_cv (A 7) 0 (f_Fs_report (A 7) x)) (.inr fs_IAE) Z) ∧
    (∀ n w, n < 2 → x = Int32.ofNat n → (z_X Z n).1 9 = Int32.ofNat w → w ≤ 100 → (z_X Z n).2.2.1.length < 40 →
      (fs_nl (z_X Z n).2.2.2 0 none = none ∨ ¬ (z_R Z).length < 30 ∨ (z_X Z n).2.2.1.length = 0 ∨ w = 100 → fs_Rn c1 A F σ (fs_cv (A 7) 0 (f_Fs_report (A 7) x)) (.inr fs_ISE) Z) ∧
      (∀ k y T, fs_nl (z_X Z n).2.2.2 0 none = some (k, y) → (z_R Z).length < 30 → ¬ (z_X Z n).2.2.1.length = 0 → ¬ w = 100 → (z_X Z n).2.2.2[k]? = some T → T.2.2.2.2.2.2.1 ≤ 8 → (∀ i, i < T.2.2.2.2.2.2.1 → T.2.2.2.2.2.2.2.2 i = Int32.ofNat (T.2.2.2.2.2.2.2.2 i).toNatClampNeg ∧ (T.2.2.2.2.2.2.2.2 i).toNatClampNeg ≤ 4) →
        ∃ na, fs_Rn c1 A F σ (fs_cv (A 7) 0 (f_Fs_report (A 7) x)) (.inl (Int32.ofNat (z_R Z).length)) (z_sR (z_sX Z n (upd (z_X Z n).1 9 ((z_X Z n).1 9 + Int32.ofNat (fs_mn T.2.2.2 (z_X Z n).2.2.1 w)), (z_X Z n).2.1, (z_X Z n).2.2.1.drop (fs_mn T.2.2.2 (z_X Z n).2.2.1 w), (z_X Z n).2.2.2)) (z_R Z ++ [fs_rr na (z_X Z n).1 T.2.1 T.2.2.2 (z_X Z n).2.2.1 (fs_mn T.2.2.2 (z_X Z n).2.2.1 w)])))) := by
  have e := (wf_rd hX ho).1
  have hnr := p_noRoom hX ho hl
  refine ⟨fun hx => rn_thr hX ho (r_cv e <| r_be (wf_xn hX ho hx)), fun n w hn hx hw hw1 hE => ?_⟩
  subst hx
  obtain ⟨B, hx9, F1, g1, g2, -, g3, -, g4⟩ := wf_x hX ho hn
  obtain ⟨he, E1, o1, l3⟩ := xf_rd g1 g2
  obtain ⟨e1, rC, rE⟩ := ef_rd E1 o1
  have hns := p_numberSealedLast e1 (own_sw o1) l3
  have hem : (fs_cv (B 2) 2 (f_ArrayList_isEmpty (B 2))).1 σ = some (if (z_X Z n).2.2.1.length = 0 then 1 else 0, σ) := by
    obtain ⟨hc9, he9, rfl, hA, hB⟩ := E1
    have o2 := own_ix _ [2, 0, 1, 3, 4, 5] rfl (by decide) (own_eq o1 (flat5 _ _ _ _ _ _))
    have := p_AL_isEmpty hB o2 (by rw [List.length_map]; omega)
    rw [List.length_map] at this
    exact this
  have hlt : Int32.ofNat w < 100 ↔ w < 100 := Int32.ofNat_lt_ofNat (n := 100) (by omega) (by omega)
  refine ⟨fun hb => ?_, fun k y T hk h30 hE0 hw0 hT hu hg => ?_⟩
  · refine rn_thr hX ho (r_cv e <| r_bx g3 <| r_b hns <| r_l ?_)
    cases hq : fs_nl (z_X Z n).2.2.2 0 none with
    | none => exact r_p rfl (x_throw _ _)
    | some p =>
      have hp3 : p.1 < 0 + (z_X Z n).2.2.2.length := nl_in _ 0 none _ hq (fun q hq => by cases hq) p rfl
      refine r_n (ofNat_ne_m1 (by omega)) <| r_b hnr ?_
      by_cases h30 : (z_R Z).length < 30
      · rw [if_pos h30]
        refine r_p rfl <| r_b (x_gr e1 2 rfl) <| r_b hem <| r_l ?_
        by_cases hE0 : (z_X Z n).2.2.1.length = 0
        · rw [if_pos hE0]
          exact r_n (by decide) (x_throw _ _)
        · rw [if_neg hE0]
          refine r_p rfl <| r_b (x_gi e1 9 rfl) <| r_n (fun z => ?_) (x_throw _ _)
          rw [hw] at z
          have := hlt.mp z
          exact hb.elim (fun z => by rw [hq] at z; cases z) (fun z => z.elim (fun z => z h30) (fun z => z.elim hE0 (fun z => by omega)))
      · rw [if_neg h30]
        exact r_n (by decide) (x_throw _ _)
  · rw [hk] at hns
    rw [if_pos h30] at hnr
    rw [if_neg hE0] at hem
    have hk3 : k < 3 := by have := (List.getElem?_eq_some_iff.mp hT).1; omega
    have mT := List.mem_append_left (F1 ++ F) (ss_mem (sl := B 3) hT (ts_mem T))
    have mL : fs_lf T.2.2.2 (fs_SS (B 3) (z_X Z n).2.2.2 ++ (F1 ++ F)) := ⟨List.mem_append_left _ (ss_mem hT (ts_lf T).1.1), List.mem_append_left _ (ss_mem hT (ts_lf T).1.2.1), List.mem_append_left _ (ss_mem hT (ts_lf T).1.2.2)⟩
    obtain ⟨σ1, h1, k1, k2, k3, k4⟩ := p_Exporter_writeRecords E1 mT mL hu hg o1 (by omega) hw hw1
    obtain ⟨h5, m1, m2⟩ := xf_mk k2 l3 (own_eq (own_ix [fs_rc (fs_rr σ.2.2.2.1 (z_X Z n).1 T.2.1 T.2.2.2 (z_X Z n).2.2.1 (fs_mn T.2.2.2 (z_X Z n).2.2.1 w)), h1, fs_SS (B 3) (z_X Z n).2.2.2, F1, F] [1, 2, 3, 0, 4] rfl (by decide) (own_eq k3 (by simp))) (by simp) : fs_own (h1 ++ (fs_SS (B 3) (z_X Z n).2.2.2 ++ (F1 ++ (fs_rc (fs_rr σ.2.2.2.1 (z_X Z n).1 T.2.1 T.2.2.2 (z_X Z n).2.2.1 (fs_mn T.2.2.2 (z_X Z n).2.2.1 w)) ++ F)))) σ1)
    obtain ⟨h6, n1, n2⟩ := g4 _ h5 σ1 m1 m2
    obtain ⟨σ2, h7, w1, w2, w3, w4⟩ := wf_keep n1 n2 (kc_st hc k4) h30
    rw [rr_1] at w1
    refine ⟨σ.2.2.2.1, σ2, h7, r_cv e <| r_bx g3 <| r_b hns <| r_l <| r_n (ofNat_ne_m1 (n := k) (by omega)) <| r_b hnr <| r_p rfl <| r_b (x_gr e1 2 rfl) <| r_b hem <| r_l <| r_p rfl <| r_b (x_gi e1 9 rfl) <| r_p ?_ <| r_b (x_gr e1 3 rfl) <| r_b (ss_arr (own_sw o1) l3 hT rfl) <| r_b k1 <| r_b w1 rfl, w2, w3, st_le (st_tr k4 w4) (by omega) (by omega)⟩
    rw [hw]
    exact hlt.mpr (by omega)
/-! reports read -/
theorem p_isReport {c1 : Nat} {A : Nat → Nat} {Z : fs_Z} {h F : List fs_C} {σ : fs_S} (hX : fs_WF c1 A Z h) (ho : fs_own (h ++ F) σ) (x : Int32) : (fs_cv (A 7) 0 (f_Fs_isReport (A 7) x)).1 σ = some (if x < 0 then 0 else if Int32.ofNat (z_R Z).length ≤ x then 0 else 1, σ) := by
  obtain ⟨e, rR⟩ := wf_rd hX ho
  have hs := rR.1.1
  rw [List.length_map] at hs
  exact r_cv e <| r_iv (fun _ => rfl) fun _ => r_b (x_gr e 2 rfl) <| r_b hs <| r_iv (fun _ => rfl) fun _ => rfl
theorem c_size {c1 : Nat} {A : Nat → Nat} {Z : fs_Z} {h F : List fs_C} {σ : fs_S} (hX : fs_WF c1 A Z h) (ho : fs_own (h ++ F) σ) (hl : (z_R Z).length ≤ 30) (x : Int32) :
    ((x < 0 ∨ Int32.ofNat (z_R Z).length ≤ x) → fs_Rn c1 A F σ (fs_cv (A 7) 0 (f_Fs_size (A 7) x)) (-1) Z) ∧ (∀ r R, x = Int32.ofNat r → (z_R Z)[r]? = some R → fs_Rn c1 A F σ (fs_cv (A 7) 0 (f_Fs_size (A 7) x)) (Int32.ofNat R.2.2.1) Z) := by
  obtain ⟨e, rR⟩ := wf_rd hX ho
  have hi := p_isReport hX ho x
  refine ⟨fun hb => ?_, fun r R hx hR => ?_⟩
  · refine rn_rf hX ho (r_cv e <| r_b hi <| r_p ?_ rfl)
    by_cases h0 : x < 0
    · exact if_pos h0
    · rw [if_neg h0, if_pos (hb.elim (fun z => absurd z h0) id)]
  · subst hx
    have hr := (List.getElem?_eq_some_iff.mp hR).1
    obtain ⟨R', hR', -, q1, q2, q3⟩ := rr_at rR hr
    obtain rfl : R = R' := Option.some.inj (hR.symm.trans hR')
    refine rn_rf hX ho (r_cv e <| r_b hi <| r_n ?_ <| r_b (x_gr e 2 rfl) <| r_b q1 <| r_b (x_ck q2) <| r_b (x_gi q2 1 rfl) rfl)
    rw [if_neg (Int32.ofNat_not_neg (by omega)), if_neg (fun z => by have := (Int32.ofNat_le_ofNat (by omega) (by omega)).mp z; omega)]
    decide
theorem p_reportOf {c1 : Nat} {A : Nat → Nat} {Z : fs_Z} {h F : List fs_C} {σ : fs_S} (hX : fs_WF c1 A Z h) (ho : fs_own (h ++ F) σ) (hl : (z_R Z).length ≤ 30) (x : Int32) :
    ((x < 0 ∨ Int32.ofNat (z_R Z).length ≤ x) → (fs_cv (A 7) 0 (f_Fs_reportOf (A 7) x)).1 σ = some (.inr fs_IOB, fs_thr σ)) ∧ (∀ r R, x = Int32.ofNat r → (z_R Z)[r]? = some R → (fs_cv (A 7) 0 (f_Fs_reportOf (A 7) x)).1 σ = some (.inl R.1, σ) ∧ σ.1 R.1 = some (fs_ro R) ∧ σ.1 R.2.1 = some (fs_ia 64 R.2.2.2)) := by
  obtain ⟨e, rR⟩ := wf_rd hX ho
  have hi := p_isReport hX ho x
  refine ⟨fun hb => r_cv e <| r_b hi <| r_p ?_ (x_throw _ _), fun r R hx hR => ?_⟩
  · by_cases h0 : x < 0
    · exact if_pos h0
    · rw [if_neg h0, if_pos (hb.elim (fun z => absurd z h0) id)]
  · subst hx
    have hr := (List.getElem?_eq_some_iff.mp hR).1
    obtain ⟨R', hR', -, q1, q2, q3⟩ := rr_at rR hr
    obtain rfl : R = R' := Option.some.inj (hR.symm.trans hR')
    refine ⟨r_cv e <| r_b hi <| r_n ?_ <| r_b (x_gr e 2 rfl) <| r_b q1 <| r_b (x_ck q2) rfl, q2, q3⟩
    rw [if_neg (Int32.ofNat_not_neg (by omega)), if_neg (fun z => by have := (Int32.ofNat_le_ofNat (by omega) (by omega)).mp z; omega)]
    decide
theorem p_reportWithByte {c1 : Nat} {A : Nat → Nat} {Z : fs_Z} {h F : List fs_C} {σ : fs_S} (hX : fs_WF c1 A Z h) (ho : fs_own (h ++ F) σ) (hl : (z_R Z).length ≤ 30) (x i : Int32) :
    ((x < 0 ∨ Int32.ofNat (z_R Z).length ≤ x) → (fs_cv (A 7) 0 (f_Fs_reportWithByte (A 7) x i)).1 σ = some (.inr fs_IOB, fs_thr σ)) ∧
    (∀ r R, x = Int32.ofNat r → (z_R Z)[r]? = some R → (i < 0 ∨ ¬ i < Int32.ofNat R.2.2.1 → (fs_cv (A 7) 0 (f_Fs_reportWithByte (A 7) x i)).1 σ = some (.inr fs_IOB, fs_thr σ)) ∧ (¬ i < 0 → i < Int32.ofNat R.2.2.1 → (fs_cv (A 7) 0 (f_Fs_reportWithByte (A 7) x i)).1 σ = some (.inl R.1, σ))) := by
  obtain ⟨e, rR⟩ := wf_rd hX ho
  obtain ⟨h1, h2⟩ := p_reportOf hX ho hl x
  refine ⟨fun hb => r_cv e <| r_be (h1 hb), fun r R hx hR => ?_⟩
  obtain ⟨q1, q2, q3⟩ := h2 r R hx hR
  refine ⟨fun hb => r_cv e <| r_bx q1 <| r_l ?_, fun hi1 hi2 => r_cv e <| r_bx q1 <| r_l <| r_n hi1 <| r_b (x_gi q2 1 rfl) <| r_p hi2 rfl⟩
  by_cases h0 : i < 0
  · exact r_p h0 (x_throw _ _)
  · exact r_n h0 <| r_b (x_gi q2 1 rfl) <| r_n (fun z => hb.elim h0 (fun w => w z)) (x_throw _ _)
theorem c_byteOf {c1 : Nat} {A : Nat → Nat} {Z : fs_Z} {h F : List fs_C} {σ : fs_S} (hX : fs_WF c1 A Z h) (ho : fs_own (h ++ F) σ) (hl : (z_R Z).length ≤ 30) (x i : Int32) :
    ((x < 0 ∨ Int32.ofNat (z_R Z).length ≤ x) → fs_Rn c1 A F σ (fs_cv (A 7) 0 (f_Fs_byteOf (A 7) x i)) (.inr fs_IOB) Z) ∧
    (∀ r R, x = Int32.ofNat r → (z_R Z)[r]? = some R → R.2.2.1 ≤ 64 → (i < 0 ∨ ¬ i < Int32.ofNat R.2.2.1 → fs_Rn c1 A F σ (fs_cv (A 7) 0 (f_Fs_byteOf (A 7) x i)) (.inr fs_IOB) Z) ∧ (∀ j, i = Int32.ofNat j → j < R.2.2.1 → fs_Rn c1 A F σ (fs_cv (A 7) 0 (f_Fs_byteOf (A 7) x i)) (.inl (R.2.2.2 j)) Z)) := by
  have e := (wf_rd hX ho).1
  obtain ⟨h1, h2⟩ := p_reportWithByte hX ho hl x i
  refine ⟨fun hb => rn_thr hX ho (r_cv e <| r_be (h1 hb)), fun r R hx hR hu => ⟨fun hb => rn_thr hX ho (r_cv e <| r_be ((h2 r R hx hR).1 hb)), fun j hj hj2 => ?_⟩⟩
  obtain ⟨q1, q2, q3⟩ := (p_reportOf hX ho hl x).2 r R hx hR
  subst hj
  exact rn_rf hX ho (r_cv e <| r_bx ((h2 r R hx hR).2 (Int32.ofNat_not_neg (by omega)) ((Int32.ofNat_lt_ofNat (by omega) (by omega)).mpr hj2)) <| r_b (x_gr q2 0 rfl) <| r_b (x_ai (x_lk q3) rfl (by omega) (by decide)) rfl)
theorem set_map2 : ∀ (l : List fs_Rp) (j : Nat) {R R1 : fs_Rp}, l[j]? = some R → R1.1 = R.1 → (l.set j R1).map Prod.fst = l.map Prod.fst
  | x :: l, 0, R, R1, h, h1 => by
    cases h
    show R1.1 :: _ = x.1 :: _
    rw [h1]
  | x :: l, j + 1, R, R1, h, h1 => congrArg (x.1 :: ·) (set_map2 l j h h1)
theorem c_poke {c1 : Nat} {A : Nat → Nat} {Z : fs_Z} {h F : List fs_C} {σ : fs_S} (hX : fs_WF c1 A Z h) (ho : fs_own (h ++ F) σ) (hl : (z_R Z).length ≤ 30) (x i v : Int32) :
    ((x < 0 ∨ Int32.ofNat (z_R Z).length ≤ x) → fs_Rn c1 A F σ (fs_cv (A 7) 0 (f_Fs_poke (A 7) x i v)) (.inr fs_IOB) Z) ∧
    (∀ r R, x = Int32.ofNat r → (z_R Z)[r]? = some R → R.2.2.1 ≤ 64 → (i < 0 ∨ ¬ i < Int32.ofNat R.2.2.1 → fs_Rn c1 A F σ (fs_cv (A 7) 0 (f_Fs_poke (A 7) x i v)) (.inr fs_IOB) Z) ∧ (∀ j, i = Int32.ofNat j → j < R.2.2.1 →
      (fs_nb_ v → fs_Rn c1 A F σ (fs_cv (A 7) 0 (f_Fs_poke (A 7) x i v)) (.inr fs_IAE) Z) ∧ (¬ fs_nb_ v → fs_Rn c1 A F σ (fs_cv (A 7) 0 (f_Fs_poke (A 7) x i v)) (.inl ()) (z_sR Z ((z_R Z).set r (R.1, R.2.1, R.2.2.1, upd R.2.2.2 j v)))))) := by
  have e := (wf_rd hX ho).1
  obtain ⟨h1, h2⟩ := p_reportWithByte hX ho hl x i
  refine ⟨fun hb => rn_thr hX ho (r_cv e <| r_be (h1 hb)), fun r R hx hR hu => ⟨fun hb => rn_thr hX ho (r_cv e <| r_be ((h2 r R hx hR).1 hb)), fun j hj hj2 => ?_⟩⟩
  obtain ⟨q1, q2, q3⟩ := (p_reportOf hX ho hl x).2 r R hx hR
  subst hj
  have hw := (h2 r R hx hR).2 (Int32.ofNat_not_neg (by omega)) ((Int32.ofNat_lt_ofNat (by omega) (by omega)).mpr hj2)
  refine ⟨fun hb => rn_thr hX ho (r_cv e <| r_bx hw <| r_b (p_isByte v) <| r_p (isB_n hb) (x_throw _ _)), fun hb => ?_⟩
  obtain ⟨hx9, hy, hr, hc9, rfl, k1, k2, ⟨hl9, rfl, hA⟩, k4⟩ := hX
  have hf : ((z_R Z).map fs_rc)[r]? = some (fs_rc R) := by rw [List.getElem?_map, hR]; rfl
  have hrl := (List.getElem?_eq_some_iff.mp hR).1
  have p1 : (fs_rcs (z_R Z)).Perm (fs_rc R ++ (((z_R Z).map fs_rc).eraseIdx r).flatten) := flat_set hf
  have o1 : fs_own (fs_rcs (z_R Z) ++ ([(A 7, fs_fo A)] ++ (hx9 ++ (hy ++ (hl9 ++ (hc9 ++ F)))))) σ := own_eq (own_ix [[(A 7, fs_fo A)], hx9, hy, hl9, fs_rcs (z_R Z), hc9, F] [4, 0, 1, 2, 3, 5, 6] rfl (by decide) (own_eq ho (by simp))) (by simp)
  have o2 := own_perm o1 (List.Perm.append_right _ p1)
  have o3 := own_perm (own_up (e1 := fs_ia 64 (upd R.2.2.2 j v)) (own_perm (own_eq o2 (List.append_assoc _ _ _)) (List.Perm.swap _ _ _))) (List.Perm.swap _ _ _)
  have hf2 : (((z_R Z).set r (R.1, R.2.1, R.2.2.1, upd R.2.2.2 j v)).map fs_rc)[r]? = some (fs_rc (R.1, R.2.1, R.2.2.1, upd R.2.2.2 j v)) := by
    rw [List.getElem?_map, List.getElem?_set_self hrl]
    rfl
  have p2 : (fs_rcs ((z_R Z).set r (R.1, R.2.1, R.2.2.1, upd R.2.2.2 j v))).Perm (fs_rc (R.1, R.2.1, R.2.2.1, upd R.2.2.2 j v) ++ (((z_R Z).map fs_rc).eraseIdx r).flatten) := by
    have := flat_set hf2
    rw [List.map_set, eras_set] at this
    unfold fs_rcs
    rw [List.map_set]
    exact this
  have o4 : fs_own (fs_rcs ((z_R Z).set r (R.1, R.2.1, R.2.2.1, upd R.2.2.2 j v)) ++ ([(A 7, fs_fo A)] ++ (hx9 ++ (hy ++ (hl9 ++ (hc9 ++ F)))))) (fs_su σ R.2.1 (fs_ia 64 (upd R.2.2.2 j v))) := own_perm (own_eq o3 (by rw [List.append_assoc]; rfl)) (List.Perm.append_right _ p2.symm)
  refine ⟨fs_su σ R.2.1 (fs_ia 64 (upd R.2.2.2 j v)), _, r_cv e <| r_bx hw <| r_b (p_isByte v) <| r_n (by rw [isB_p hb]; decide) <| r_b (x_gr q2 0 rfl) <| r_b (x_si q3 rfl (by omega) (by decide)) rfl, ⟨hx9, hy, _, hc9, rfl, k1, k2, ⟨hl9, rfl, by show fs_AL c1 (A 8) (((z_R Z).set r (R.1, R.2.1, R.2.2.1, upd R.2.2.2 j v)).map Prod.fst) hl9; rw [set_map2 (R1 := (R.1, R.2.1, R.2.2.1, upd R.2.2.2 j v)) _ _ hR rfl]; exact hA⟩, k4⟩, ?_, st_le (st_su _ _ _) (by omega) (by omega)⟩
  exact own_eq (own_ix [fs_rcs ((z_R Z).set r (R.1, R.2.1, R.2.2.1, upd R.2.2.2 j v)), [(A 7, fs_fo A)], hx9, hy, hl9, hc9, F] [1, 2, 3, 4, 0, 5, 6] rfl (by decide) (own_eq o4 (by simp))) (by simp [z_sR])
