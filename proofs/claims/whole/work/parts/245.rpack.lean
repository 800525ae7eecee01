/-! packet, in the reference -/
theorem w_pi0 {β : Type} {A : Nat → Nat} {K : Unit → fs_T β} {S : fs_R} {Q : β → fs_R → Prop} {x : Int32} (h : fs_W A (K ()) (r_pi_ S 0 x) Q) : fs_W A (fs_bind (fs_pi (A 0) 12 0 x) K) S Q := w_pi 0 rfl (by decide) h
def fs_pbad (x a b c z : Int32) : Prop := ¬ (x = 0 ∨ x = 1) ∨ fs_nb_ a ∨ fs_nb_ b ∨ fs_nb_ c ∨ z < 0 ∨ ¬ z ≤ 9999
theorem rp_bad {A : Nat → Nat} {x a b c z fin : Int32} {S : fs_R} (hb : fs_pbad x a b c z) : fs_W A (fs_cv (A 0) 12 (f_Rf_packet (A 0) x a b c z fin)) S fun _ S1 => S1 = r_pi_ S 0 1 := by
  refine w_cv <| w_b w_noExporter fun r S1 ⟨e1, e2⟩ => ?_
  subst e1
  refine w_l <| w_l ?_
  by_cases hx : x = 0 ∨ x = 1
  · rw [if_pos hx] at e2
    subst e2
    refine w_p rfl <| w_b w_noByte fun r S2 ⟨e1, e2⟩ => ?_
    subst e1
    rcases e2 with ⟨ha, rfl⟩ | ⟨ha, rfl⟩
    · exact w_n (by decide) <| w_l <| w_n (by decide) <| w_pi0 <| w_gi 0 rfl <| w_n (by show ¬ (1 : Int32) = 0; decide) <| w_rz (Or.inl rfl) rfl
    · refine w_p rfl <| w_b w_noByte fun r S2 ⟨e1, e2⟩ => ?_
      subst e1
      rcases e2 with ⟨hb2, rfl⟩ | ⟨hb2, rfl⟩
      · exact w_n (by decide) <| w_l <| w_n (by decide) <| w_pi0 <| w_gi 0 rfl <| w_n (by show ¬ (1 : Int32) = 0; decide) <| w_rz (Or.inl rfl) rfl
      · refine w_p rfl <| w_b w_noByte fun r S2 ⟨e1, e2⟩ => ?_
        subst e1
        rcases e2 with ⟨hc, rfl⟩ | ⟨hc, rfl⟩
        · exact w_n (by decide) <| w_l <| w_n (by decide) <| w_pi0 <| w_gi 0 rfl <| w_n (by show ¬ (1 : Int32) = 0; decide) <| w_rz (Or.inl rfl) rfl
        · refine w_p rfl <| w_i (fun _ => w_l <| w_n (by decide) <| w_pi0 <| w_gi 0 rfl <| w_n (by show ¬ (1 : Int32) = 0; decide) <| w_rz (Or.inl rfl) rfl) fun hz => w_i (fun hz9 => ?_) fun _ => w_l <| w_n (by decide) <| w_pi0 <| w_gi 0 rfl <| w_n (by show ¬ (1 : Int32) = 0; decide) <| w_rz (Or.inl rfl) rfl
          exact absurd hb (fun w => w.elim (fun w => w hx) (fun w => w.elim ha (fun w => w.elim hb2 (fun w => w.elim hc (fun w => w.elim hz (fun w => w hz9))))))
  · rw [if_neg hx] at e2
    subst e2
    exact w_n (by decide) <| w_l <| w_n (by decide) <| w_pi0 <| w_gi 0 rfl <| w_n (by show ¬ (1 : Int32) = 0; decide) <| w_rz (Or.inl rfl) rfl
theorem w_nbk {β : Type} {A : Nat → Nat} {x : Int32} {K : Int32 → fs_T β} {S : fs_R} {Q : β → fs_R → Prop} (h : ¬ fs_nb_ x) (hk : fs_W A (K 0) S Q) : fs_W A (fs_bind (fs_cv (A 0) 12 (f_Rf_noByte (A 0) x)) K) S Q := w_b w_noByte fun r S1 ⟨e1, e2⟩ => by
  subst e1
  rcases e2 with ⟨h2, rfl⟩ | ⟨h2, rfl⟩
  · exact absurd h2 h
  · exact hk
theorem w_nbb {β : Type} {A : Nat → Nat} {x : Int32} {K : Int32 → fs_T β} {S : fs_R} {Q : β → fs_R → Prop} (h : fs_nb_ x) (hk : fs_W A (K 1) S Q) : fs_W A (fs_bind (fs_cv (A 0) 12 (f_Rf_noByte (A 0) x)) K) S Q := w_b w_noByte fun r S1 ⟨e1, e2⟩ => by
  subst e1
  rcases e2 with ⟨h2, rfl⟩ | ⟨h2, rfl⟩
  · exact hk
  · exact absurd h h2
theorem w_nxk {β : Type} {A : Nat → Nat} {x : Int32} {K : Int32 → fs_T β} {S : fs_R} {Q : β → fs_R → Prop} (h : x = 0 ∨ x = 1) (hk : fs_W A (K 0) S Q) : fs_W A (fs_bind (fs_cv (A 0) 12 (f_Rf_noExporter (A 0) x)) K) S Q := w_b w_noExporter fun r S1 ⟨e1, e2⟩ => by
  rw [if_pos h] at e2
  subst e1
  subst e2
  exact hk
theorem w_nxb {β : Type} {A : Nat → Nat} {x : Int32} {K : Int32 → fs_T β} {S : fs_R} {Q : β → fs_R → Prop} (h : ¬ (x = 0 ∨ x = 1)) (hk : fs_W A (K 1) S Q) : fs_W A (fs_bind (fs_cv (A 0) 12 (f_Rf_noExporter (A 0) x)) K) S Q := w_b w_noExporter fun r S1 ⟨e1, e2⟩ => by
  rw [if_neg h] at e2
  subst e1
  subst e2
  exact hk
theorem x2 {x : Nat} (h : x < 2) : Int32.ofNat x = 0 ∨ Int32.ofNat x = 1 := by
  have : x = 0 ∨ x = 1 := by omega
  rcases this with rfl | rfl
  · exact Or.inl rfl
  · exact Or.inr rfl
/-- the flow got one packet more -/
theorem fr_add {x j : Nat} {C E : fs_Fs} {q : Nat × (Nat → Int32)} {s : Nat → Int32} {z : Int32} {S : fs_R} (hx : x < 2) (hf : fs_frw x C E j S.2.1) (hC : C.length ≤ 6) (hj : C[j]? = some q) (ht : S.2.1 1 x = s 4) : fs_fr x (fs_ad s C j z) E (r_si_ (r_si_ (r_si_ S 9 (6 * x + j) (S.2.1 9 (6 * x + j) + z)) 10 (6 * x + j) (S.2.1 10 (6 * x + j) + 1)) 12 (6 * x + j) (S.2.1 1 x)).2.1 ∧ fs_ofr x S.2.1 (r_si_ (r_si_ (r_si_ S 9 (6 * x + j) (S.2.1 9 (6 * x + j) + z)) 10 (6 * x + j) (S.2.1 10 (6 * x + j) + 1)) 12 (6 * x + j) (S.2.1 1 x)).2.1 := by
  obtain ⟨f7, f13, fC, fE⟩ := hf
  have hjl := (List.getElem?_eq_some_iff.mp hj).1
  rw [ad_eq (a := q.1) (v := q.2) hj]
  refine ⟨⟨by rw [List.length_set]; exact f7, f13, fun i p hp => ?_, fE⟩, fun k i hr => ?_⟩
  · show S.2.1 8 _ = _ ∧ upd (S.2.1 9) _ _ _ = _ ∧ upd (S.2.1 10) _ _ _ = _ ∧ S.2.1 11 _ = _ ∧ upd (S.2.1 12) _ _ _ = _
    rw [List.getElem?_set] at hp
    by_cases hij : j = i
    · subst hij
      rw [if_pos rfl, if_pos hjl] at hp
      cases hp
      obtain ⟨c8, c9, c10, c11, -⟩ := fC j q hj
      rw [up_hit, up_hit, up_hit, c9, c10, ht]
      exact ⟨c8, rfl, rfl, c11, rfl⟩
    · rw [if_neg hij] at hp
      obtain ⟨c8, c9, c10, c11, c12⟩ := fC i p hp
      rw [up_miss (by omega), up_miss (by omega), up_miss (by omega)]
      exact ⟨c8, c9, c10, c11, c12 (fun z => hij z.symm)⟩
  · by_cases h9 : k = 9
    · subst h9
      exact up_miss (fun z => hr (Or.inr (Or.inl ⟨by omega, by omega, by omega⟩))) _
    by_cases h10 : k = 10
    · subst h10
      exact up_miss (fun z => hr (Or.inr (Or.inl ⟨by omega, by omega, by omega⟩))) _
    by_cases h12 : k = 12
    · subst h12
      exact up_miss (fun z => hr (Or.inr (Or.inl ⟨by omega, by omega, by omega⟩))) _
    simp [r_si_, va_up, h9, h10, h12]
theorem wh_watch (s : Nat → Int32) (C E : fs_Fs) (a b c z fin : Int32) (na : Nat) : fs_watch s C E a b c z fin na = fs_w2 s (fs_wh s C E a b c na).1 (fs_wh s C E a b c na).2.1 (fs_wh s C E a b c na).2.2 z fin := by
  unfold fs_watch fs_wh
  cases fs_fd a b c C 0 <;> rfl
/-- what a packet needs of the flow it meets -/
theorem wh_at (s : Nat → Int32) (C E : fs_Fs) (a b c : Int32) (na : Nat) (hC : C.length ≤ 6) (hb : ∀ q ∈ C, fs_by3 q.2) (hk : fs_by3 (fs_nf a b c (s 4))) : ∃ q, (fs_wh s C E a b c na).1[(fs_wh s C E a b c na).2.2]? = some q ∧ fs_by3 q.2 ∧ (fs_wh s C E a b c na).1.length ≤ 6 ∧ (fs_wh s C E a b c na).1.length + (fs_wh s C E a b c na).2.1.length ≤ C.length + E.length + 1 ∧ E.length ≤ (fs_wh s C E a b c na).2.1.length ∧ 1 ≤ (fs_wh s C E a b c na).1.length := by
  cases hd : fs_fd a b c C 0 with
  | some j =>
    have ew : fs_wh s C E a b c na = (C, E, j) := by unfold fs_wh; rw [hd]
    rw [ew]
    have hj := (fd_lt hd).2
    rw [Nat.zero_add] at hj
    exact ⟨C[j], List.getElem?_eq_getElem hj, hb _ (List.getElem_mem _), hC, by show C.length + E.length ≤ _; omega, Nat.le_refl _, by show 1 ≤ C.length; omega⟩
  | none =>
    have ew : fs_wh s C E a b c na = ((fs_ev s C E).1 ++ [(na, fs_nf a b c (s 4))], (fs_ev s C E).2, (fs_ev s C E).1.length) := by unfold fs_wh; rw [hd]
    rw [ew]
    have hl : (fs_ev s C E).1.length ≤ 5 ∧ (fs_ev s C E).1.length + (fs_ev s C E).2.length ≤ C.length + E.length ∧ E.length ≤ (fs_ev s C E).2.length := by
      by_cases h6 : C.length < 6
      · rw [show fs_ev s C E = (C, E) from if_pos h6]
        exact ⟨by show C.length ≤ 5; omega, Nat.le_refl _, Nat.le_refl _⟩
      · rw [show fs_ev s C E = fs_en s C E (fs_lr (C.drop 1) 0 ((C.getD 0 (0, fun _ => 0)).2 6) 1) 4 from if_neg h6]
        have h0 : C[0]? = some ((C.getD 0 (0, fun _ => 0)).1, (C.getD 0 (0, fun _ => 0)).2) := by
          rw [List.getD_eq_getElem?_getD, List.getElem?_eq_getElem (by omega)]
          rfl
        have hlr : ∀ (l : fs_Fs) (b i : Nat) (m : Int32), C.drop i = l → i ≤ 6 → b < 6 → fs_lr l b m i < 6 := fun l => by
          induction l with
          | nil => intro b i m _ _ h; exact h
          | cons q l ih =>
            intro b i m h1 h2 h3
            have hi2 : i < C.length := by
              have := congrArg List.length h1
              rw [List.length_drop, List.length_cons] at this
              omega
            have hd2 : C.drop (i + 1) = l := by
              have := congrArg List.tail h1
              simpa using this
            show (if m ≤ q.2 6 then fs_lr l b m (i + 1) else fs_lr l i (q.2 6) (i + 1)) < 6
            split
            · exact ih b (i + 1) m hd2 (by omega) h3
            · exact ih i (i + 1) _ hd2 (by omega) (by omega)
        have ho6 := hlr (C.drop 1) 0 1 ((C.getD 0 (0, fun _ => 0)).2 6) rfl (by decide) (by decide)
        obtain ⟨o, ho⟩ : ∃ o, fs_lr (C.drop 1) 0 ((C.getD 0 (0, fun _ => 0)).2 6) 1 = o := ⟨_, rfl⟩
        rw [ho] at ho6 ⊢
        obtain ⟨qo, hoq⟩ : ∃ qo, C[o]? = some qo := ⟨C[o], List.getElem?_eq_getElem (by omega)⟩
        rw [en_eq (a := qo.1) (v := qo.2) hoq]
        refine ⟨?_, ?_, ?_⟩
        · show (C.eraseIdx o).length ≤ 5
          rw [List.length_eraseIdx, if_pos (by omega)]
          omega
        · show (C.eraseIdx o).length + (E ++ _).length ≤ _
          rw [List.length_eraseIdx, if_pos (by omega), List.length_append]
          simp
          omega
        · show E.length ≤ (E ++ _).length
          rw [List.length_append]
          omega
    refine ⟨(na, fs_nf a b c (s 4)), at_mid _ _ [], hk, ?_, ?_, hl.2.2, ?_⟩
    · show ((fs_ev s C E).1 ++ [_]).length ≤ 6
      rw [List.length_append]
      simp
      omega
    · show ((fs_ev s C E).1 ++ [_]).length + (fs_ev s C E).2.length ≤ _
      rw [List.length_append]
      simp
      omega
    · show 1 ≤ ((fs_ev s C E).1 ++ [_]).length
      rw [List.length_append]
      simp
theorem rp_full {A : Nat → Nat} {x : Nat} {C E : fs_Fs} {a b c z fin : Int32} {S : fs_R} (hx : x < 2) (hf : fs_fr x C E S.2.1) (ha : ¬ fs_nb_ a) (hb : ¬ fs_nb_ b) (hc : ¬ fs_nb_ c) (hz : ¬ z < 0) (hz9 : z ≤ 9999) (hl : C.length + E.length < 100) (h20 : 20 ≤ C.length + E.length) : fs_W A (fs_cv (A 0) 12 (f_Rf_packet (A 0) (Int32.ofNat x) a b c z fin)) S fun _ S1 => S1 = r_pi_ S 0 2 := by
  refine w_cv <| w_nxk (x2 hx) <| w_l <| w_l <| w_p rfl <| w_nbk ha <| w_p rfl <| w_nbk hb <| w_p rfl <| w_nbk hc <| w_p rfl <| w_n hz <| w_p hz9 <| w_l <| w_p rfl <| w_gr 7 rfl <| w_ai m7 rfl hx <| w_gr 13 rfl <| w_ai m13 rfl hx <| w_n ?_ <| w_pi0 <| w_gi 0 rfl <| w_n (by show ¬ (2 : Int32) = 0; decide) <| w_rz (Or.inl rfl) rfl
  rw [hf.1, hf.2.1, n_a]
  intro w
  have := (n_le (y := 19) (by omega) (by omega)).mp w
  omega
theorem rp_go {A : Nat → Nat} {x k m : Nat} {C E : fs_Fs} {a b c z fin : Int32} {s : Nat → Int32} {S : fs_R} (na : Nat) (hx : x < 2) (hf : fs_fr x C E S.2.1) (ha : ¬ fs_nb_ a) (hb : ¬ fs_nb_ b) (hc : ¬ fs_nb_ c) (hz : ¬ z < 0) (hz9 : z ≤ 9999) (hC : C.length ≤ 6) (h20 : C.length + E.length < 20) (hb3 : ∀ q ∈ C, fs_by3 q.2) (h4 : S.2.1 4 x = Int32.ofNat k) (h3 : S.2.1 3 x = Int32.ofNat m) (hk : k < m) (hm : m ≤ 9) (hs : S.2.1 1 x = s 4) :
    fs_W A (fs_cv (A 0) 12 (f_Rf_packet (A 0) (Int32.ofNat x) a b c z fin)) S fun r S1 => S1.1 = upd S.1 0 0 ∧ S1.2.2 = S.2.2 ∧ r = (if k = 0 then 1 else 0) ∧ ∃ v, fs_ofr x (va_up S.2.1 4 (upd (S.2.1 4) x (Int32.ofNat ((k + 1) % m)))) S1.2.1 ∧ v = S1.2.1 ∧ (k ≠ 0 → fs_fr x C E v) ∧ (k = 0 → fs_fr x (fs_watch s C E a b c z fin na).1 (fs_watch s C E a b c z fin na).2 v) := by
  have hb3n : fs_by3 (fs_nf a b c (s 4)) := fun i hi => by
    have nb : ∀ v : Int32, ¬ fs_nb_ v → ∃ b, b ≤ 255 ∧ v = Int32.ofNat b := fun v hv => by
      have h0 : ¬ v < 0 := fun z => hv (Or.inl z)
      exact ⟨v.toNatClampNeg, i_le (n := 255) (Int32.not_lt.mp fun z => hv (Or.inr z)) (by decide), (i_toN h0).1⟩
    have : i = 0 ∨ i = 1 ∨ i = 2 := by omega
    rcases this with rfl | rfl | rfl
    · exact nb a ha
    · exact nb b hb
    · exact nb c hc
  refine w_cv <| w_nxk (x2 hx) <| w_l <| w_l <| w_p rfl <| w_nbk ha <| w_p rfl <| w_nbk hb <| w_p rfl <| w_nbk hc <| w_p rfl <| w_n hz <| w_p hz9 <| w_l <| w_p rfl <| w_gr 7 rfl <| w_ai m7 rfl hx <| w_gr 13 rfl <| w_ai m13 rfl hx <| w_p ?_ <| w_pi0 <| w_gi 0 rfl <| w_p rfl <| w_gr 4 rfl <| w_ai m4 rfl hx ?_
  · rw [hf.1, hf.2.1, n_a]
    exact (n_le (y := 19) (by omega) (by omega)).mpr (by omega)
  · show fs_W A (fs_let _ fun j112 => if S.2.1 4 x = 0 then _ else _) _ _
    rw [h4]
    have hrem : fs_rem (Int32.ofNat k + 1) (Int32.ofNat m) = fs_ret (Int32.ofNat ((k + 1) % m)) := by
      unfold fs_rem
      have hm0 : ¬ Int32.ofNat m = 0 := fun w => by
        have := n_inj (b := 0) (by omega) (by decide) w
        omega
      rw [if_neg hm0, ofNat_add1, rem_n (k + 1) (by omega) m (by omega) (by omega)]
    refine w_l ?_
    by_cases hk0 : k = 0
    · subst hk0
      rw [if_pos rfl]
      refine w_p rfl <| w_gr 4 rfl <| w_gr 4 rfl <| w_ai m4 rfl hx <| w_gr 3 rfl <| w_ai m3 rfl hx ?_
      show fs_W A (fs_bind (fs_rem (S.2.1 4 x + 1) (S.2.1 3 x)) _) _ _
      rw [h4, h3, hrem]
      refine w_b (P := fun r S1 => r = Int32.ofNat ((0 + 1) % m) ∧ S1 = r_pi_ S 0 0) (w_ret ⟨rfl, rfl⟩) fun r S1 ⟨e1, e2⟩ => ?_
      subst e1
      subst e2
      refine w_si m4 rfl hx <| w_l <| w_n (by decide) ?_
      have hf2 : fs_fr x C E (r_si_ (r_pi_ S 0 0) 4 x (Int32.ofNat ((0 + 1) % m))).2.1 := hf
      refine w_b (w_cv (w_flowOf na hx (r_si_ (r_pi_ S 0 0) 4 x (Int32.ofNat ((0 + 1) % m))) hf2 hC (by omega) hb3 hs hb3n C 4096 0 rfl (Nat.zero_le _) (by omega) rfl)) fun r S2 ⟨g1, g2, g3, g4, g5⟩ => ?_
      obtain ⟨q, hq, hqb, hl6, hl20, hlE, hl1⟩ := wh_at s C E a b c na hC hb3 hb3n
      have hql := (List.getElem?_eq_some_iff.mp hq).1
      have ht : S2.2.1 1 x = s 4 := by
        rw [g3 1 x (by unfold fs_reg; omega)]
        exact hs
      obtain ⟨a1, a2⟩ := fr_add (z := z) hx g5 hl6 hq ht
      subst g4
      refine w_gr 9 rfl <| w_m ?_
      rw [show (6 : Int32) * Int32.ofNat x + Int32.ofNat (fs_wh s C E a b c na).2.2 = Int32.ofNat (6 * x + (fs_wh s C E a b c na).2.2) from n_ma 6 x _]
      refine w_ai m9 rfl (by omega) <| w_si m9 rfl (by omega) <| w_gr 10 rfl <| w_m <| w_ai m10 rfl (by omega) <| w_si m10 rfl (by omega) <| w_gr 12 rfl <| w_gr 1 rfl <| w_ai m1 rfl hx <| w_si m12 rfl (by omega) <| w_i (fun hfin => w_rz (Or.inr rfl) ?_) fun hfin => ?_
      · refine ⟨g1, g2, rfl, _, out_tr g3 a2, rfl, fun h => absurd rfl h, fun _ => ?_⟩
        rw [wh_watch]
        unfold fs_w2
        rw [if_pos hfin]
        exact a1
      · have hq2 : (fs_ad s (fs_wh s C E a b c na).1 (fs_wh s C E a b c na).2.2 z)[(fs_wh s C E a b c na).2.2]? = some (q.1, upd (upd (upd q.2 4 (q.2 4 + z)) 5 (q.2 5 + 1)) 6 (s 4)) := by
          rw [ad_eq (a := q.1) (v := q.2) hq, List.getElem?_set_self hql]
        have hlad : (fs_ad s (fs_wh s C E a b c na).1 (fs_wh s C E a b c na).2.2 z).length = (fs_wh s C E a b c na).1.length := by
          rw [ad_eq (a := q.1) (v := q.2) hq, List.length_set]
        refine w_b (w_end (why := 3) hx _ a1 hq2 (by rw [hlad]; exact hl6) (by omega) (fun i hi => ?_)) fun _ S3 ⟨k1, k2, k3, k4⟩ => w_rz (Or.inr rfl) ⟨k1.trans g1, k2.trans g2, rfl, _, out_tr (out_tr g3 a2) k4, rfl, fun h => absurd rfl h, fun _ => ?_⟩
        · have := hqb i hi
          have h3 : i = 0 ∨ i = 1 ∨ i = 2 := by omega
          rcases h3 with rfl | rfl | rfl <;> exact this
        · rw [wh_watch]
          unfold fs_w2
          rw [if_neg hfin, en_eq (a := q.1) hq2]
          have e9 : S2.2.1 1 x = s 4 := ht
          have k5 : fs_fr x ((fs_ad s (fs_wh s C E a b c na).1 (fs_wh s C E a b c na).2.2 z).eraseIdx (fs_wh s C E a b c na).2.2) ((fs_wh s C E a b c na).2.1 ++ [fs_ed (S2.2.1 1 x) 3 (q.1, upd (upd (upd q.2 4 (q.2 4 + z)) 5 (q.2 5 + 1)) 6 (s 4))]) S3.2.1 := k3
          rw [e9] at k5
          exact k5
    · rw [if_neg hk0]
      have hkn : ¬ Int32.ofNat k = 0 := fun w => hk0 (n_inj (b := 0) (by omega) (by decide) w)
      refine w_n hkn <| w_gr 4 rfl <| w_gr 4 rfl <| w_ai m4 rfl hx <| w_gr 3 rfl <| w_ai m3 rfl hx ?_
      show fs_W A (fs_bind (fs_rem (S.2.1 4 x + 1) (S.2.1 3 x)) _) _ _
      rw [h4, h3, hrem]
      refine w_b (P := fun r S1 => r = Int32.ofNat ((k + 1) % m) ∧ S1 = r_pi_ S 0 0) (w_ret ⟨rfl, rfl⟩) fun r S1 ⟨e1, e2⟩ => ?_
      subst e1
      subst e2
      exact w_si m4 rfl hx <| w_l <| w_p rfl <| w_rz (Or.inl rfl) ⟨rfl, rfl, rfl, _, out_rf _ _, rfl, fun _ => hf, fun h => absurd h hk0⟩
