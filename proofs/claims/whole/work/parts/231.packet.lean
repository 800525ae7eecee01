/-! packets, ended flows -/
def fs_nb_ (v : Int32) : Prop := v < 0 ∨ 255 < v
theorem isB_n {v : Int32} (h : fs_nb_ v) : (if v < 0 then (0 : Int32) else if 255 < v then 0 else 1) = 0 := by
  rcases h with h | h
  · exact if_pos h
  · by_cases h1 : v < 0
    · exact if_pos h1
    · rw [if_neg h1, if_pos h]
theorem isB_p {v : Int32} (h : ¬ fs_nb_ v) : (if v < 0 then (0 : Int32) else if 255 < v then 0 else 1) = 1 := by
  rw [if_neg (fun z => h (Or.inl z)), if_neg (fun z => h (Or.inr z))]
theorem c_packet {c1 : Nat} {A : Nat → Nat} {Z : fs_Z} {h F : List fs_C} {σ : fs_S} (hX : fs_WF c1 A Z h) (ho : fs_own (h ++ F) σ) (hc : fs_kc c1 σ) (x a b c z fin : Int32) (hl : ∀ n, n < 2 → (z_X Z n).2.1.length + (z_X Z n).2.2.1.length < 40) :
    (¬ (x = 0 ∨ x = 1) ∨ fs_nb_ a ∨ fs_nb_ b ∨ fs_nb_ c ∨ z < 0 ∨ ¬ z ≤ 9999 → fs_Rn c1 A F σ (fs_cv (A 7) 0 (f_Fs_packet (A 7) x a b c z fin)) (.inr fs_IAE) Z) ∧
    (∀ n, n < 2 → x = Int32.ofNat n → ¬ fs_nb_ a → ¬ fs_nb_ b → ¬ fs_nb_ c → ¬ z < 0 → z ≤ 9999 →
      (20 ≤ (z_X Z n).2.1.length + (z_X Z n).2.2.1.length → fs_Rn c1 A F σ (fs_cv (A 7) 0 (f_Fs_packet (A 7) x a b c z fin)) (.inr fs_ISE) Z) ∧
      ((z_X Z n).2.1.length + (z_X Z n).2.2.1.length < 20 → ¬ (z_X Z n).1 7 = 0 → fs_Rn c1 A F σ (fs_cv (A 7) 0 (f_Fs_packet (A 7) x a b c z fin)) (.inl 0) (z_sX Z n (upd (z_X Z n).1 7 (if (z_X Z n).1 7 + 1 < (z_X Z n).1 6 then (z_X Z n).1 7 + 1 else 0), (z_X Z n).2))) ∧
      ((z_X Z n).2.1.length + (z_X Z n).2.2.1.length < 20 → (z_X Z n).1 7 = 0 → ∃ na, fs_Rn c1 A F σ (fs_cv (A 7) 0 (f_Fs_packet (A 7) x a b c z fin)) (.inl 1) (z_sX Z n (upd (z_X Z n).1 7 (if (z_X Z n).1 7 + 1 < (z_X Z n).1 6 then (z_X Z n).1 7 + 1 else 0), (fs_watch (upd (z_X Z n).1 7 (if (z_X Z n).1 7 + 1 < (z_X Z n).1 6 then (z_X Z n).1 7 + 1 else 0)) (z_X Z n).2.1 (z_X Z n).2.2.1 a b c z fin na).1, (fs_watch (upd (z_X Z n).1 7 (if (z_X Z n).1 7 + 1 < (z_X Z n).1 6 then (z_X Z n).1 7 + 1 else 0)) (z_X Z n).2.1 (z_X Z n).2.2.1 a b c z fin na).2, (z_X Z n).2.2.2)))) := by
  have e := (wf_rd hX ho).1
  refine ⟨fun hb => ?_, fun n hn hx ha hb hc2 hz hz9 => ?_⟩
  · by_cases hx : x = 0 ∨ x = 1
    · obtain ⟨n, hn, rfl⟩ := x01 hx
      obtain ⟨B, hx9, F1, g1, g2, -, g3, -, g4⟩ := wf_x hX ho hn
      refine rn_thr hX ho (r_cv e <| r_bx g3 <| r_b (p_isByte a) <| r_l ?_)
      by_cases ha : fs_nb_ a
      · exact r_p (isB_n ha) (x_throw _ _)
      · refine r_n (by rw [isB_p ha]; decide) <| r_b (p_isByte b) ?_
        by_cases hb2 : fs_nb_ b
        · exact r_p (isB_n hb2) (x_throw _ _)
        · refine r_n (by rw [isB_p hb2]; decide) <| r_b (p_isByte c) ?_
          by_cases hc2 : fs_nb_ c
          · exact r_p (isB_n hc2) (x_throw _ _)
          · refine r_n (by rw [isB_p hc2]; decide) <| r_l ?_
            by_cases hz : z < 0
            · exact r_p hz (x_throw _ _)
            · by_cases hz9 : z ≤ 9999
              · exact absurd hb (fun w => w.elim (fun w => w hx) (fun w => w.elim ha (fun w => w.elim hb2 (fun w => w.elim hc2 (fun w => w.elim hz (fun w => w hz9))))))
              · exact r_n hz <| r_n hz9 (x_throw _ _)
    · exact rn_thr hX ho (r_cv e <| r_be (wf_xn hX ho hx))
  · subst hx
    obtain ⟨B, hx9, F1, g1, g2, -, g3, -, g4⟩ := wf_x hX ho hn
    obtain ⟨he, E1, o1, l3⟩ := xf_rd g1 g2
    have hl2 := hl n hn
    obtain ⟨e1, rC, rE⟩ := ef_rd E1 o1
    have hfh := p_Exporter_flowsHeld e1 rC rE
    have hhead : ∀ {R}, (fs_bind (fs_cv (B 0) 1 (f_Exporter_flowsHeld (B 0))) fun v5 => if v5 < 20 then (fs_bind (fs_cv (B 0) 1 (f_Exporter_samplesNext (B 0))) fun v6 => if v6 = 0 then fs_rzx 0 else fs_bind (fs_cv (B 0) 1 (f_Exporter_watch (B 0) a b c z fin)) fun _ => fs_rzx 1) else fs_throw "java/lang/IllegalStateException").1 σ = R → (fs_cv (A 7) 0 (f_Fs_packet (A 7) (Int32.ofNat n) a b c z fin)).1 σ = R := fun hR => r_cv e <| r_bx g3 <| r_b (p_isByte a) <| r_l <| r_n (by rw [isB_p ha]; decide) <| r_b (p_isByte b) <| r_n (by rw [isB_p hb]; decide) <| r_b (p_isByte c) <| r_n (by rw [isB_p hc2]; decide) <| r_l <| r_n hz <| r_p hz9 hR
    refine ⟨fun h20 => ?_, fun h20 h7 => ?_, fun h20 h7 => ?_⟩
    · refine rn_thr hX ho (hhead <| r_b hfh <| r_n (fun w => ?_) (x_throw _ _))
      have := (Int32.ofNat_lt_ofNat (n := 20) (by omega) (by omega)).mp w
      omega
    · obtain ⟨h2, E2, o2⟩ := ef_s E1 o1 (upd (z_X Z n).1 7 (if (z_X Z n).1 7 + 1 < (z_X Z n).1 6 then (z_X Z n).1 7 + 1 else 0))
      obtain ⟨h5, m1, m2⟩ := xf_mk E2 l3 o2
      obtain ⟨h6, n1, n2⟩ := g4 _ h5 _ m1 m2
      refine ⟨_, h6, hhead <| r_b hfh <| r_p ((Int32.ofNat_lt_ofNat (n := 20) (by omega) (by omega)).mpr h20) <| r_b (p_Exporter_samplesNext e1) <| r_p ?_ rfl, n1, n2, st_le (st_su _ _ _) (by omega) (by omega)⟩
      exact if_neg h7
    · obtain ⟨h2, E2, o2⟩ := ef_s E1 o1 (upd (z_X Z n).1 7 (if (z_X Z n).1 7 + 1 < (z_X Z n).1 6 then (z_X Z n).1 7 + 1 else 0))
      obtain ⟨σ1, h1, na, k1, k2, k3, k4⟩ := p_Exporter_watch (x := a) (y := b) (w := c) (z := z) (fin := fin) E2 o2 hc.1 hc.2 (by omega)
      obtain ⟨h5, m1, m2⟩ := xf_mk k2 l3 k3
      obtain ⟨h6, n1, n2⟩ := g4 _ h5 _ m1 m2
      refine ⟨na, σ1, h6, hhead <| r_b hfh <| r_p ((Int32.ofNat_lt_ofNat (n := 20) (by omega) (by omega)).mpr h20) <| r_b (p_Exporter_samplesNext e1) <| r_n ?_ <| r_b k1 rfl, n1, n2, st_le (st_tr (st_su _ _ _) k4) (by omega) (by omega)⟩
      rw [if_pos h7]
      decide
theorem p_requireField {x : Int32} {σ : fs_S} : (x < 0 ∨ ¬ x < 8 → (f_Fs_requireField x).1 σ = some (.inr fs_IAE, fs_thr σ)) ∧ (¬ x < 0 → x < 8 → (f_Fs_requireField x).1 σ = some (.inl (), σ)) := by
  refine ⟨fun h => ?_, fun h1 h2 => r_l <| r_n h1 <| r_p h2 rfl⟩
  by_cases h1 : x < 0
  · exact r_l <| r_p h1 (x_throw _ _)
  · by_cases h2 : x < 8
    · exact absurd h (fun z => z.elim h1 (fun z => z h2))
    · exact r_l <| r_n h1 <| r_n h2 (x_throw _ _)
theorem c_ended {c1 : Nat} {A : Nat → Nat} {Z : fs_Z} {h F : List fs_C} {σ : fs_S} (hX : fs_WF c1 A Z h) (ho : fs_own (h ++ F) σ) (x i f : Int32) (hl : ∀ n, n < 2 → (z_X Z n).2.1.length + (z_X Z n).2.2.1.length < 40) :
    (¬ (x = 0 ∨ x = 1) ∨ f < 0 ∨ ¬ f < 8 → fs_Rn c1 A F σ (fs_cv (A 7) 0 (f_Fs_ended (A 7) x i f)) (.inr fs_IAE) Z) ∧
    (∀ n, n < 2 → x = Int32.ofNat n → ¬ f < 0 → f < 8 → (i < 0 ∨ ¬ i < Int32.ofNat (z_X Z n).2.2.1.length → fs_Rn c1 A F σ (fs_cv (A 7) 0 (f_Fs_ended (A 7) x i f)) (.inr fs_IOB) Z) ∧
      ∀ j q, i = Int32.ofNat j → (z_X Z n).2.2.1[j]? = some q → fs_Rn c1 A F σ (fs_cv (A 7) 0 (f_Fs_ended (A 7) x i f)) (.inl (fs_vo q.2 f)) Z) := by
  have e := (wf_rd hX ho).1
  refine ⟨fun hb => ?_, fun n hn hx hf1 hf2 => ?_⟩
  · by_cases hx : x = 0 ∨ x = 1
    · obtain ⟨n, hn, rfl⟩ := x01 hx
      obtain ⟨B, hx9, F1, g1, g2, -, g3, -, g4⟩ := wf_x hX ho hn
      refine rn_thr hX ho (r_cv e <| r_bx g3 <| r_be (p_requireField.1 ?_))
      exact hb.elim (fun w => absurd hx w) id
    · exact rn_thr hX ho (r_cv e <| r_be (wf_xn hX ho hx))
  · subst hx
    obtain ⟨B, hx9, F1, g1, g2, -, g3, -, g4⟩ := wf_x hX ho hn
    obtain ⟨he, E1, o1, l3⟩ := xf_rd g1 g2
    obtain ⟨e1, -, rE⟩ := ef_rd E1 o1
    have hl2 := hl n hn
    refine ⟨fun hb => ?_, fun j q hj hq => ?_⟩
    · refine rn_thr hX ho (r_cv e <| r_bx g3 <| r_bx (p_requireField.2 hf1 hf2) <| r_l ?_)
      by_cases h1 : i < 0
      · exact r_p h1 (x_throw _ _)
      · exact r_n h1 <| r_b (x_gr e1 2 rfl) <| r_b rE.1 <| r_n (fun w => hb.elim h1 (fun z => z w)) (x_throw _ _)
    · subst hj
      have hjl := (List.getElem?_eq_some_iff.mp hq).1
      obtain ⟨q1, q2⟩ := rE.2 j q.1 q.2 _ rfl hq
      exact rn_rf hX ho (r_cv e <| r_bx g3 <| r_bx (p_requireField.2 hf1 hf2) <| r_l <| r_n (Int32.ofNat_not_neg (by omega)) <| r_b (x_gr e1 2 rfl) <| r_b rE.1 <| r_p ((Int32.ofNat_lt_ofNat (by omega) (by omega)).mpr hjl) <| r_b (x_gr e1 2 rfl) <| r_b q1 <| r_b (x_ck q2) <| r_b (p_Flow_valueOf q2 f) rfl)
/-! slots -/
theorem p_slotOf {c1 n t : Nat} {A B : Nat → Nat} {Z : fs_Z} {T : fs_Sl} {h hx9 F1 F : List fs_C} {σ : fs_S} (hX : fs_WF c1 A Z h) (ho : fs_own (h ++ F) σ) (g1 : fs_XF c1 B (z_X Z n) hx9) (g2 : fs_own (hx9 ++ (F1 ++ F)) σ) (g3 : (fs_cv (A 7) 0 (f_Fs_exporterOf (A 7) (Int32.ofNat n))).1 σ = some (.inl (B 0), σ)) (hT : (z_X Z n).2.2.2[t]? = some T) : (fs_cv (A 7) 0 (f_Fs_slotOf (A 7) (Int32.ofNat n) (Int32.ofNat t))).1 σ = some (.inl T.1, σ) := by
  have e := (wf_rd hX ho).1
  obtain ⟨he, E1, o1, l3⟩ := xf_rd g1 g2
  obtain ⟨e1, -, -⟩ := ef_rd E1 o1
  have ht := (List.getElem?_eq_some_iff.mp hT).1
  exact r_cv e <| r_bx g3 <| r_l <| r_n (Int32.ofNat_not_neg (by omega)) <| r_p ((Int32.ofNat_lt_ofNat (n := 3) (by omega) (by omega)).mpr (by omega)) <| r_b (x_gr e1 3 rfl) <| r_b (ss_arr (own_sw o1) l3 hT rfl) rfl
theorem p_slotOf_n {c1 : Nat} {A : Nat → Nat} {Z : fs_Z} {h F : List fs_C} {σ : fs_S} {x t : Int32} (hX : fs_WF c1 A Z h) (ho : fs_own (h ++ F) σ) (hb : ¬ (x = 0 ∨ x = 1) ∨ t < 0 ∨ ¬ t < 3) : (fs_cv (A 7) 0 (f_Fs_slotOf (A 7) x t)).1 σ = some (.inr fs_IAE, fs_thr σ) := by
  have e := (wf_rd hX ho).1
  by_cases hx : x = 0 ∨ x = 1
  · obtain ⟨n, hn, rfl⟩ := x01 hx
    obtain ⟨B, hx9, F1, g1, g2, -, g3, -, g4⟩ := wf_x hX ho hn
    refine r_cv e <| r_bx g3 <| r_l ?_
    by_cases h1 : t < 0
    · exact r_p h1 (x_throw _ _)
    · by_cases h2 : t < 3
      · exact absurd hb (fun z => z.elim (fun z => z hx) (fun z => z.elim h1 (fun z => z h2)))
      · exact r_n h1 <| r_n h2 (x_throw _ _)
  · exact r_cv e <| r_be (wf_xn hX ho hx)
