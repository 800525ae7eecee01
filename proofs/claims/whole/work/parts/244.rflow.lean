/-! a packet in the reference -/
def fs_frw (x : Nat) (C E : fs_Fs) (j : Nat) (v : Nat → Nat → Int32) : Prop := v 7 x = Int32.ofNat C.length ∧ v 13 x = Int32.ofNat E.length ∧ (∀ i q, C[i]? = some q → v 8 (6 * x + i) = fs_key q.2 ∧ v 9 (6 * x + i) = q.2 4 ∧ v 10 (6 * x + i) = q.2 5 ∧ v 11 (6 * x + i) = q.2 3 ∧ (i ≠ j → v 12 (6 * x + i) = q.2 6)) ∧ ∀ i q, E[i]? = some q → ∀ j, j < 8 → v 14 (8 * (21 * x + i) + j) = fs_vo q.2 (Int32.ofNat j)
theorem fr_w {x j : Nat} {C E : fs_Fs} {v : Nat → Nat → Int32} (h : fs_fr x C E v) : fs_frw x C E j v := ⟨h.1, h.2.1, fun i q hq => ⟨(h.2.2.1 i q hq).1, (h.2.2.1 i q hq).2.1, (h.2.2.1 i q hq).2.2.1, (h.2.2.1 i q hq).2.2.2.1, fun _ => (h.2.2.1 i q hq).2.2.2.2⟩, h.2.2.2⟩
theorem w_oldest {A : Nat → Nat} {x : Nat} {C E : fs_Fs} {j104 : Unit → fs_T Int32} {S : fs_R} {Q : Int32 → fs_R → Prop} (hx : x < 2) (hf : fs_fr x C E S.2.1) (h6 : C.length = 6) : ∀ (l : fs_Fs) (fuel b i : Nat) (qb : Nat × (Nat → Int32)), C.drop i = l → i ≤ 6 → l.length < fuel → C[b]? = some qb →
    fs_W A (fs_bind (fs_cv (A 0) 12 (f_Rf_end (A 0) (Int32.ofNat x) (Int32.ofNat (fs_lr l b (qb.2 6) i)) 4)) fun _ => j104 ()) S Q → fs_W A (fs_lp2 fuel (lb_Rf_flowOf_51 (A 0) (Int32.ofNat x) j104) (Int32.ofNat b) (Int32.ofNat i)) S Q
  | [], fuel + 1, b, i, qb, h1, h2, _, hb, hk => by
    have : C.length ≤ i := List.drop_eq_nil_iff.mp h1
    exact w_lp2 <| w_p ((n_le (x := 6) (by omega) (by omega)).mpr (by omega)) hk
  | q :: l, fuel + 1, b, i, qb, h1, h2, h3, hb, hk => by
    have hi : i < C.length := by
      have := congrArg List.length h1
      rw [List.length_drop, List.length_cons] at this
      omega
    have hq : C[i]? = some q := by
      have := congrArg (fun z : fs_Fs => z[0]?) h1
      simpa using this
    have hd : C.drop (i + 1) = l := by
      have := congrArg List.tail h1
      simpa using this
    have hf' : l.length < fuel := by simp at h3; omega
    have hbl := (List.getElem?_eq_some_iff.mp hb).1
    have ci := (hf.2.2.1 i q hq).2.2.2.2
    have cb := (hf.2.2.1 b qb hb).2.2.2.2
    have hs : fs_lr (q :: l) b (qb.2 6) i = if qb.2 6 ≤ q.2 6 then fs_lr l b (qb.2 6) (i + 1) else fs_lr l i (q.2 6) (i + 1) := rfl
    rw [hs] at hk
    refine w_lp2 <| w_n (fun z => ?_) <| w_gr 12 rfl <| w_ai m12 (n_ma 6 x i) (by omega) <| w_gr 12 rfl <| w_ai m12 (n_ma 6 x b) (by omega) <| w_l ?_
    · have := (n_le (x := 6) (by omega) (by omega)).mp z
      omega
    · rw [ci, cb]
      refine w_i (fun c => w_m ?_) fun c => w_m ?_
      · rw [if_pos c] at hk
        rw [ofNat_add1]
        exact w_oldest hx hf h6 l fuel b (i + 1) qb hd (by omega) hf' hb hk
      · rw [if_neg c] at hk
        rw [ofNat_add1]
        exact w_oldest hx hf h6 l fuel i (i + 1) q hd (by omega) hf' hq hk
  | _, 0, _, _, _, _, _, h, _, _ => absurd h (Nat.not_lt_zero _)
theorem fr_new {x na : Nat} {C E : fs_Fs} {a b c t : Int32} {S : fs_R} (hx : x < 2) (hf : fs_fr x C E S.2.1) (hC : C.length < 6) (ht : S.2.1 1 x = t) : fs_frw x (C ++ [(na, fs_nf a b c t)]) E C.length (r_si_ (r_si_ (r_si_ (r_si_ (r_si_ S 8 (6 * x + C.length) (((a <<< (16 &&& 31)) ||| (b <<< (8 &&& 31))) ||| c)) 9 (6 * x + C.length) 0) 10 (6 * x + C.length) 0) 11 (6 * x + C.length) (S.2.1 1 x)) 7 x (S.2.1 7 x + 1)).2.1 ∧ fs_ofr x S.2.1 (r_si_ (r_si_ (r_si_ (r_si_ (r_si_ S 8 (6 * x + C.length) (((a <<< (16 &&& 31)) ||| (b <<< (8 &&& 31))) ||| c)) 9 (6 * x + C.length) 0) 10 (6 * x + C.length) 0) 11 (6 * x + C.length) (S.2.1 1 x)) 7 x (S.2.1 7 x + 1)).2.1 := by
  obtain ⟨f7, f13, fC, fE⟩ := hf
  refine ⟨⟨?_, f13, fun i q hq => ?_, fE⟩, fun k j hr => ?_⟩
  · show upd (S.2.1 7) x (S.2.1 7 x + 1) x = _
    rw [up_hit, f7, ofNat_add1, List.length_append]
    rfl
  · show upd (S.2.1 8) _ _ _ = _ ∧ upd (S.2.1 9) _ _ _ = _ ∧ upd (S.2.1 10) _ _ _ = _ ∧ upd (S.2.1 11) _ _ _ = _ ∧ (_ → S.2.1 12 _ = _)
    by_cases hi : i < C.length
    · rw [List.getElem?_append_left hi] at hq
      obtain ⟨c8, c9, c10, c11, c12⟩ := fC i q hq
      rw [up_miss (by omega), up_miss (by omega), up_miss (by omega), up_miss (by omega)]
      exact ⟨c8, c9, c10, c11, fun _ => c12⟩
    · have hil := (List.getElem?_eq_some_iff.mp hq).1
      have hie : i = C.length := by rw [List.length_append] at hil; simp at hil; omega
      subst hie
      rw [List.getElem?_append_right (Nat.le_refl _), Nat.sub_self] at hq
      cases hq
      rw [up_hit, up_hit, up_hit, up_hit]
      exact ⟨rfl, rfl, rfl, ht, fun z => absurd rfl z⟩
  · by_cases h7 : k = 7
    · subst h7
      exact up_miss (fun z => hr (Or.inl ⟨Or.inl rfl, z⟩)) _
    by_cases h8 : k = 8
    · subst h8
      exact up_miss (fun z => hr (Or.inr (Or.inl ⟨by omega, by omega, by omega⟩))) _
    by_cases h9 : k = 9
    · subst h9
      exact up_miss (fun z => hr (Or.inr (Or.inl ⟨by omega, by omega, by omega⟩))) _
    by_cases h10 : k = 10
    · subst h10
      exact up_miss (fun z => hr (Or.inr (Or.inl ⟨by omega, by omega, by omega⟩))) _
    by_cases h11 : k = 11
    · subst h11
      exact up_miss (fun z => hr (Or.inr (Or.inl ⟨by omega, by omega, by omega⟩))) _
    simp [r_si_, va_up, h7, h8, h9, h10, h11]
def fl_tail (a0 : Nat) (x1 x2 : Int32) : fs_T Int32 := fs_bind (fs_gr a0 12 7) fun r14 => fs_bind (fs_ai r14 x1) fun v15 => fs_nm (((6 * x1) + v15) : Int32) fun v16 => fs_bind (fs_gr a0 12 8) fun r17 => fs_bind (fs_si r17 v16 x2) fun _ => fs_bind (fs_gr a0 12 9) fun r18 => fs_bind (fs_si r18 v16 0) fun _ => fs_bind (fs_gr a0 12 10) fun r19 => fs_bind (fs_si r19 v16 0) fun _ => fs_bind (fs_gr a0 12 11) fun r20 => fs_bind (fs_gr a0 12 1) fun r21 => fs_bind (fs_ai r21 x1) fun v22 => fs_bind (fs_si r20 v16 v22) fun _ => fs_bind (fs_gr a0 12 7) fun r23 => fs_bind (fs_ai r23 x1) fun v24 => fs_bind (fs_si r23 x1 (v24 + 1)) fun _ => fs_bind (fs_gr a0 12 7) fun r25 => fs_bind (fs_ai r25 x1) fun v26 => fs_ret (v26 - 1)
/-- where the packet's flow stands -/
def fs_wh (s : Nat → Int32) (C E : fs_Fs) (a b c : Int32) (na : Nat) : fs_Fs × fs_Fs × Nat := match fs_fd a b c C 0 with
  | some j => (C, E, j)
  | none => ((fs_ev s C E).1 ++ [(na, fs_nf a b c (s 4))], (fs_ev s C E).2, (fs_ev s C E).1.length)
theorem fd_lt {a b c : Int32} : ∀ {l : fs_Fs} {i j : Nat}, fs_fd a b c l i = some j → i ≤ j ∧ j < i + l.length
  | [], _, _, h => by cases h
  | q :: l, i, j, h => by
    have es : fs_fd a b c (q :: l) i = if q.2 0 = a ∧ q.2 1 = b ∧ q.2 2 = c then some i else fs_fd a b c l (i + 1) := rfl
    rw [es] at h
    rw [List.length_cons]
    split at h
    · cases h
      omega
    · have := fd_lt h
      omega
set_option maxRecDepth 100000 in
theorem w_flowOf {A : Nat → Nat} {x : Nat} {C E : fs_Fs} {a b c : Int32} {s : Nat → Int32} (na : Nat) (hx : x < 2) (S : fs_R) (hf : fs_fr x C E S.2.1) (hC : C.length ≤ 6) (hE : E.length < 21) (hb : ∀ q ∈ C, fs_by3 q.2) (hs : S.2.1 1 x = s 4) (hk : fs_by3 (fs_nf a b c (s 4))) : ∀ (l : fs_Fs) (fuel i : Nat), C.drop i = l → i ≤ C.length → l.length < fuel → fs_fd a b c C 0 = fs_fd a b c l i →
    fs_W A (fs_lp1 fuel (lb_Rf_flowOf_2 (A 0) (Int32.ofNat x) (((a <<< (16 &&& 31)) ||| (b <<< (8 &&& 31))) ||| c)) (Int32.ofNat i)) S fun r S1 => S1.1 = S.1 ∧ S1.2.2 = S.2.2 ∧ fs_ofr x S.2.1 S1.2.1 ∧ r = Int32.ofNat (fs_wh s C E a b c na).2.2 ∧ fs_frw x (fs_wh s C E a b c na).1 (fs_wh s C E a b c na).2.1 (fs_wh s C E a b c na).2.2 S1.2.1
  | [], fuel + 1, i, h1, h2, _, hfd => by
    have hle : C.length ≤ i := List.drop_eq_nil_iff.mp h1
    have hil : i = C.length := by omega
    have hn : fs_fd a b c C 0 = none := hfd
    have ew : fs_wh s C E a b c na = ((fs_ev s C E).1 ++ [(na, fs_nf a b c (s 4))], (fs_ev s C E).2, (fs_ev s C E).1.length) := by
      unfold fs_wh
      rw [hn]
    rw [ew]
    have tail : ∀ (C1 E1 : fs_Fs) (S1 : fs_R), C1.length < 6 → fs_fr x C1 E1 S1.2.1 → S1.2.1 1 x = s 4 → S1.1 = S.1 → S1.2.2 = S.2.2 → fs_ofr x S.2.1 S1.2.1 → C1 = (fs_ev s C E).1 → E1 = (fs_ev s C E).2 →
        fs_W A (fl_tail (A 0) (Int32.ofNat x) (((a <<< (16 &&& 31)) ||| (b <<< (8 &&& 31))) ||| c)) S1 fun r S2 => S2.1 = S.1 ∧ S2.2.2 = S.2.2 ∧ fs_ofr x S.2.1 S2.2.1 ∧ r = Int32.ofNat (fs_ev s C E).1.length ∧ fs_frw x ((fs_ev s C E).1 ++ [(na, fs_nf a b c (s 4))]) (fs_ev s C E).2 (fs_ev s C E).1.length S2.2.1 := by
      intro C1 E1 S1 hC1 hf1 ht hs1 hw1 ho1 hCe hEe
      subst hCe
      subst hEe
      obtain ⟨n1, n2⟩ := fr_new (na := na) (a := a) (b := b) (c := c) hx hf1 hC1 ht
      refine w_gr 7 rfl <| w_ai m7 rfl hx <| w_m ?_
      rw [hf1.1, show (6 : Int32) * Int32.ofNat x + Int32.ofNat (fs_ev s C E).1.length = Int32.ofNat (6 * x + (fs_ev s C E).1.length) from n_ma 6 x _]
      refine w_gr 8 rfl <| w_si m8 rfl (by omega) <| w_gr 9 rfl <| w_si m9 rfl (by omega) <| w_gr 10 rfl <| w_si m10 rfl (by omega) <| w_gr 11 rfl <| w_gr 1 rfl <| w_ai m1 rfl hx <| w_si m11 rfl (by omega) <| w_gr 7 rfl <| w_ai m7 rfl hx <| w_si m7 rfl hx <| w_gr 7 rfl <| w_ai m7 rfl hx <| w_ret ?_
      refine ⟨hs1, hw1, out_tr ho1 n2, ?_, n1⟩
      show upd (S1.2.1 7) x (S1.2.1 7 x + 1) x - 1 = _
      rw [up_hit, hf1.1, ofNat_add1, ofNat_sub1 (by omega)]
      rfl
    refine w_lp1 <| w_gr 7 rfl <| w_ai m7 rfl hx ?_
    rw [hf.1]
    refine w_p ((n_le (by omega) (by omega)).mpr hle) <| w_gr 7 rfl <| w_ai m7 rfl hx ?_
    rw [hf.1]
    refine w_l ?_
    by_cases h6 : C.length = 6
    · have hev : fs_ev s C E = fs_en s C E (fs_lr (C.drop 1) 0 ((C.getD 0 (0, fun _ => 0)).2 6) 1) 4 := if_neg (by omega)
      have h0 : C[0]? = some (C.getD 0 (0, fun _ => 0)) := by
        rw [List.getD_eq_getElem?_getD, List.getElem?_eq_getElem (by omega)]
        rfl
      have hlr : ∀ (l : fs_Fs) (b i : Nat) (m : Int32), C.drop i = l → i ≤ 6 → b < 6 → fs_lr l b m i < 6 := fun l => by
        induction l with
        | nil => intro b i m _ _ h; exact h
        | cons q l ih =>
          intro b i m h1 h2 h3
          have hi2 : i < C.length := by
            have := congrArg List.length h1
            rw [List.length_drop, List.length_cons] at this
            omega
          have hd2 : C.drop (i + 1) = l := by
            have := congrArg List.tail h1
            simpa using this
          show (if m ≤ q.2 6 then fs_lr l b m (i + 1) else fs_lr l i (q.2 6) (i + 1)) < 6
          split
          · exact ih b (i + 1) m hd2 (by omega) h3
          · exact ih i (i + 1) _ hd2 (by omega) (by omega)
      have ho6 := hlr (C.drop 1) 0 1 ((C.getD 0 (0, fun _ => 0)).2 6) rfl (by decide) (by decide)
      obtain ⟨o, ho⟩ : ∃ o, fs_lr (C.drop 1) 0 ((C.getD 0 (0, fun _ => 0)).2 6) 1 = o := ⟨_, rfl⟩
      rw [ho] at ho6 hev
      obtain ⟨qo, hoq⟩ : ∃ qo, C[o]? = some qo := ⟨C[o], List.getElem?_eq_getElem (by omega)⟩
      have hev2 := hev.trans (en_eq (a := qo.1) (v := qo.2) hoq)
      refine w_p (by rw [h6]; rfl) <| w_oldest (j104 := fun _ => fl_tail (A 0) (Int32.ofNat x) (((a <<< (16 &&& 31)) ||| (b <<< (8 &&& 31))) ||| c)) hx hf h6 (C.drop 1) 4096 0 1 (C.getD 0 (0, fun _ => 0)) rfl (by decide) (by rw [List.length_drop]; omega) h0 ?_
      rw [ho]
      refine w_b (w_end hx S hf hoq hC hE (hb _ (List.mem_of_getElem? hoq))) fun _ S1 ⟨g1, g2, g3, g4⟩ => tail (C.eraseIdx o) (E ++ [fs_ed (S.2.1 1 x) 4 qo]) S1 ?_ g3 ?_ g1 g2 g4 ?_ ?_
      · rw [List.length_eraseIdx, if_pos (by omega)]
        omega
      · rw [g4 1 x (by unfold fs_reg; omega)]
        exact hs
      · rw [hev2]
      · rw [hev2, hs]
        rfl
    · have hev : fs_ev s C E = (C, E) := if_pos (by omega)
      refine w_n (fun z => h6 (n_inj (by omega) (by decide) (z : Int32.ofNat C.length = Int32.ofNat 6))) <| tail C E S (by omega) hf hs rfl rfl (out_rf _ _) ?_ ?_
      · rw [hev]
      · rw [hev]
  | q :: l, fuel + 1, i, h1, h2, h3, hfd => by
    have hi : i < C.length := by
      have := congrArg List.length h1
      rw [List.length_drop, List.length_cons] at this
      omega
    have hq : C[i]? = some q := by
      have := congrArg (fun z : fs_Fs => z[0]?) h1
      simpa using this
    have hd : C.drop (i + 1) = l := by
      have := congrArg List.tail h1
      simpa using this
    have es : fs_fd a b c (q :: l) i = if q.2 0 = a ∧ q.2 1 = b ∧ q.2 2 = c then some i else fs_fd a b c l (i + 1) := rfl
    rw [es] at hfd
    have hkk := key_inj (hb q (List.mem_of_getElem? hq)) hk
    refine w_lp1 <| w_gr 7 rfl <| w_ai m7 rfl hx ?_
    rw [hf.1]
    refine w_n (fun z => ?_) <| w_gr 8 rfl <| w_ai m8 (n_ma 6 x i) (by omega) ?_
    · have := (n_le (by omega) (by omega)).mp z
      omega
    · rw [(hf.2.2.1 i q hq).1]
      refine w_i (fun z => w_ret ?_) fun z => w_m ?_
      · have hc : q.2 0 = a ∧ q.2 1 = b ∧ q.2 2 = c := hkk.mp z
        rw [if_pos hc] at hfd
        have ew : fs_wh s C E a b c na = (C, E, i) := by
          unfold fs_wh
          rw [hfd]
        rw [ew]
        exact ⟨rfl, rfl, out_rf _ _, rfl, fr_w hf⟩
      · have hc : ¬ (q.2 0 = a ∧ q.2 1 = b ∧ q.2 2 = c) := fun w => z (hkk.mpr w)
        rw [if_neg hc] at hfd
        rw [ofNat_add1]
        exact w_flowOf na hx S hf hC hE hb hs hk l fuel (i + 1) hd (by omega) (by simp at h3; omega) hfd
  | _, 0, _, _, _, h, _ => absurd h (Nat.not_lt_zero _)
