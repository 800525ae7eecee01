/-! templates: drafts, seals -/
def fs_kl (g : Nat → Int32) (σ : fs_S) : Prop := σ.2.1 (σ.2.2.1 0) = some (fs_ia 8 g)
theorem xf_slot {c1 t : Nat} {B : Nat → Nat} {X : fs_Xs} {T : fs_Sl} {h F : List fs_C} {σ : fs_S} (hX : fs_XF c1 B X h) (ho : fs_own (h ++ F) σ) (hT : X.2.2.2[t]? = some T) : ∃ F1, fs_own (fs_ts T ++ (F1 ++ F)) σ ∧ (∃ he, fs_EF c1 (B 0) (B 1) (B 2) (B 3) X.1 X.2.1 X.2.2.1 he ∧ ∀ q ∈ he, q ∈ F1) ∧
    ∀ {G : List fs_C} (T1 : fs_Sl) (σ1 : fs_S), T1.1 = T.1 → fs_own (fs_ts T1 ++ (F1 ++ G)) σ1 → ∃ h1, fs_XF c1 B (X.1, X.2.1, X.2.2.1, X.2.2.2.set t T1) h1 ∧ fs_own (h1 ++ G) σ1 := by
  obtain ⟨he, E1, o1, l3⟩ := xf_rd hX ho
  have o2 := ss_out hT (own_sw o1)
  refine ⟨[[(B 3, fs_sa X.2.2.2)], ((X.2.2.2.map fs_ts).eraseIdx t).flatten, he].flatten, own_eq o2 (by simp), ⟨he, E1, fun q hq => mem_c 2 rfl hq⟩, fun {G} T1 σ1 h1 o3 => ?_⟩
  have o4 := ss_in (sl := B 3) (F := he ++ G) hT h1 (own_eq o3 (by simp))
  exact xf_mk E1 (by rw [List.length_set]; exact l3) (own_sw o4)
theorem t3 {t : Int32} (h1 : ¬ t < 0) (h2 : t < 3) : ∃ k, k < 3 ∧ t = Int32.ofNat k := by
  obtain ⟨a, b⟩ := i_toN h1
  refine ⟨t.toNatClampNeg, ?_, a⟩
  rw [a] at h2
  exact (Int32.ofNat_lt_ofNat (n := 3) b (by decide)).mp h2
theorem c_field {c1 : Nat} {A : Nat → Nat} {Z : fs_Z} {h F : List fs_C} {σ : fs_S} {g : Nat → Int32} (hX : fs_WF c1 A Z h) (ho : fs_own (h ++ F) σ) (hg : fs_kl g σ) (x t f y : Int32) :
    (¬ (x = 0 ∨ x = 1) ∨ t < 0 ∨ ¬ t < 3 → fs_Rn c1 A F σ (fs_cv (A 7) 0 (f_Fs_field (A 7) x t f y)) (.inr fs_IAE) Z) ∧
    (∀ n k T, n < 2 → x = Int32.ofNat n → t = Int32.ofNat k → (z_X Z n).2.2.2[k]? = some T → T.2.2.1.2.2.2.1 ≤ 8 →
      (f < 0 ∨ ¬ f < 8 ∨ y < 0 ∨ ¬ y ≤ 4 ∨ ¬ y = 0 ∧ ¬ g f.toNatClampNeg ≤ y → fs_Rn c1 A F σ (fs_cv (A 7) 0 (f_Fs_field (A 7) x t f y)) (.inr fs_IAE) Z) ∧
      (¬ f < 0 → f < 8 → ¬ y < 0 → y ≤ 4 → (y = 0 ∨ g f.toNatClampNeg ≤ y) →
        (fs_hf T.2.2.1.2.2.2.2.1 f 0 T.2.2.1.2.2.2.1 = true → fs_Rn c1 A F σ (fs_cv (A 7) 0 (f_Fs_field (A 7) x t f y)) (.inr fs_ISE) Z) ∧
        (fs_hf T.2.2.1.2.2.2.2.1 f 0 T.2.2.1.2.2.2.1 = false → T.2.2.1.2.2.2.1 < 8 → fs_Rn c1 A F σ (fs_cv (A 7) 0 (f_Fs_field (A 7) x t f y)) (.inl (Int32.ofNat (T.2.2.1.2.2.2.1 + 1))) (z_sX Z n ((z_X Z n).1, (z_X Z n).2.1, (z_X Z n).2.2.1, (z_X Z n).2.2.2.set k (T.1, T.2.1, fs_la T.2.2.1 f y, T.2.2.2)))))) := by
  have e := (wf_rd hX ho).1
  refine ⟨fun hb => rn_thr hX ho (r_cv e <| r_be (p_slotOf_n hX ho hb)), fun n k T hn hx ht hT hu => ?_⟩
  subst hx
  subst ht
  obtain ⟨B, hx9, F1, g1, g2, -, g3, -, g4⟩ := wf_x hX ho hn
  have hs := p_slotOf hX ho g1 g2 g3 hT
  obtain ⟨F2, o3, ⟨he, E1, mE⟩, bk⟩ := xf_slot g1 g2 hT
  have eT := own_at o3 (List.mem_append_left _ (ts_mem T))
  have hleast : ∀ j, f = Int32.ofNat j → j < 8 → (fs_ai (σ.2.2.1 0) f).1 σ = some (g j, σ) := fun j hj hj8 => x_ai (x_lkc (ho.2.2 _ (by rw [hg]; exact fun z => by cases z)).2 hg) hj hj8 (by decide)
  refine ⟨fun hb => ?_, fun hf1 hf2 hy1 hy2 hy3 => ?_⟩
  · by_cases hf1 : f < 0 ∨ ¬ f < 8
    · exact rn_thr hX ho (r_cv e <| r_bx hs <| r_be (p_requireField.1 hf1))
    · have hf2 : ¬ f < 0 := fun z => hf1 (Or.inl z)
      have hf3 : f < 8 := Decidable.byContradiction fun z => hf1 (Or.inr z)
      refine rn_thr hX ho (r_cv e <| r_bx hs <| r_bx (p_requireField.2 hf2 hf3) <| r_l ?_)
      by_cases hy1 : y < 0
      · exact r_p hy1 (x_throw _ _)
      · by_cases hy2 : y ≤ 4
        · obtain ⟨hy3, hy4⟩ : ¬ y = 0 ∧ ¬ g f.toNatClampNeg ≤ y := hb.elim (fun z => absurd z hf2) (fun z => z.elim (fun z => absurd hf3 z) (fun z => z.elim (fun z => absurd z hy1) (fun z => z.elim (fun z => absurd hy2 z) id)))
          obtain ⟨i1, i2⟩ := i_toN hf2
          refine r_n hy1 <| r_p hy2 <| r_l <| r_n hy3 <| r_b (x_gs 0 σ) <| r_b (hleast _ i1 ?_) <| r_n hy4 (x_throw _ _)
          rw [i1] at hf3
          exact (Int32.ofNat_lt_ofNat (n := 8) i2 (by decide)).mp hf3
        · exact r_n hy1 <| r_n hy2 (x_throw _ _)
  · obtain ⟨i1, i2⟩ := i_toN hf1
    have hf8 : f.toNatClampNeg < 8 := by
      rw [i1] at hf2
      exact (Int32.ofNat_lt_ofNat (n := 8) i2 (by decide)).mp hf2
    have hhead : ∀ {R}, (fs_bind (fs_gr T.1 3 1) fun r4 => fs_bind (fs_cv r4 4 (f_Layout_has r4 f)) fun v5 => if v5 = 0 then (fs_bind (fs_gr T.1 3 1) fun r6 => fs_bind (fs_cv r6 4 (f_Layout_append r6 f y)) fun _ => fs_bind (fs_gr T.1 3 1) fun r7 => fs_bind (fs_gi r7 4 2) fun v8 => fs_ret (.inl v8)) else fs_throw "java/lang/IllegalStateException").1 σ = R → (fs_cv (A 7) 0 (f_Fs_field (A 7) (Int32.ofNat n) (Int32.ofNat k) f y)).1 σ = R := by
      intro R hR
      refine r_cv e <| r_bx hs <| r_bx (p_requireField.2 hf1 hf2) <| r_l <| r_n hy1 <| r_p hy2 <| r_l ?_
      by_cases hy0 : y = 0
      · exact r_p hy0 hR
      · exact r_n hy0 <| r_b (x_gs 0 σ) <| r_b (hleast _ i1 hf8) <| r_p (hy3.elim (fun z => absurd z hy0) id) hR
    have oD : fs_own (fs_lc T.2.2.1 ++ ([(T.1, fs_so T.2.1 T.2.2.1.1 T.2.2.2.1)] ++ (fs_lc T.2.2.2 ++ (F2 ++ (F1 ++ F))))) σ := own_eq (own_ix [[(T.1, fs_so T.2.1 T.2.2.1.1 T.2.2.2.1)], fs_lc T.2.2.1, fs_lc T.2.2.2, F2 ++ (F1 ++ F)] [1, 0, 2, 3] rfl (by decide) (own_eq o3 (by simp [fs_ts, fs_sc]))) (by simp)
    have hh := p_Layout_has oD hu f
    refine ⟨fun hb => ?_, fun hb hu8 => ?_⟩
    · rw [hb] at hh
      exact rn_thr hX ho (hhead <| r_b (x_gr eT 1 rfl) <| r_b hh <| r_n (by decide) (x_throw _ _))
    · rw [hb] at hh
      obtain ⟨σ1, w1, w2, w3⟩ := p_Layout_append oD hu8 f y
      have eT1 := own_at w2 (List.mem_append_right _ (List.mem_append_left _ List.mem_cons_self))
      have eL1 := own_at w2 (List.mem_append_left _ List.mem_cons_self)
      obtain ⟨h5, m1, m2⟩ := bk (G := F1 ++ F) (T.1, T.2.1, fs_la T.2.2.1 f y, T.2.2.2) σ1 rfl (own_eq (own_ix [fs_lc (fs_la T.2.2.1 f y), [(T.1, fs_so T.2.1 T.2.2.1.1 T.2.2.2.1)], fs_lc T.2.2.2, F2 ++ (F1 ++ F)] [1, 0, 2, 3] rfl (by decide) (own_eq w2 (by simp))) (by simp [fs_ts, fs_sc, fs_la]))
      obtain ⟨h6, n1, n2⟩ := g4 _ h5 σ1 m1 m2
      exact ⟨σ1, h6, hhead <| r_b (x_gr eT 1 rfl) <| r_b hh <| r_p rfl <| r_b (x_gr eT 1 rfl) <| r_b w1 <| r_b (x_gr eT1 1 rfl) <| r_b (x_gi eL1 2 rfl) rfl, n1, n2, st_le w3 (by omega) (by omega)⟩
theorem c_seal {c1 : Nat} {A : Nat → Nat} {Z : fs_Z} {h F : List fs_C} {σ : fs_S} (hX : fs_WF c1 A Z h) (ho : fs_own (h ++ F) σ) (x t : Int32) :
    (¬ (x = 0 ∨ x = 1) ∨ t < 0 ∨ ¬ t < 3 → fs_Rn c1 A F σ (fs_cv (A 7) 0 (f_Fs_seal (A 7) x t)) (.inr fs_IAE) Z) ∧
    (∀ n k T, n < 2 → x = Int32.ofNat n → t = Int32.ofNat k → (z_X Z n).2.2.2[k]? = some T → T.2.2.1.2.2.2.1 ≤ 8 →
      (T.2.2.1.2.2.2.1 = 0 ∨ ¬ T.2.1 3 = 0 → fs_Rn c1 A F σ (fs_cv (A 7) 0 (f_Fs_seal (A 7) x t)) (.inr fs_ISE) Z) ∧
      (¬ T.2.2.1.2.2.2.1 = 0 → T.2.1 3 = 0 → fs_Rn c1 A F σ (fs_cv (A 7) 0 (f_Fs_seal (A 7) x t)) (.inl (T.2.1 4 + 1)) (z_sX Z n (upd (z_X Z n).1 8 ((z_X Z n).1 8 + 1), (z_X Z n).2.1, (z_X Z n).2.2.1, (z_X Z n).2.2.2.set k (T.1, upd (upd (upd T.2.1 3 1) 4 (T.2.1 4 + 1)) 5 ((z_X Z n).1 8 + 1), fs_lz T.2.2.2, T.2.2.1))))) := by
  have e := (wf_rd hX ho).1
  refine ⟨fun hb => rn_thr hX ho (r_cv e <| r_be (p_slotOf_n hX ho hb)), fun n k T hn hx ht hT hu => ?_⟩
  subst hx
  subst ht
  obtain ⟨B, hx9, F1, g1, g2, mo, g3, g3b, g4⟩ := wf_x hX ho hn
  have hs := p_slotOf hX ho g1 g2 g3 hT
  obtain ⟨he, E1, o1, l3⟩ := xf_rd g1 g2
  obtain ⟨e1, -, -⟩ := ef_rd E1 o1
  have eT := own_at (own_sw o1) (List.mem_append_left _ (ss_mem hT (ts_mem T)))
  have eD := own_at (own_sw o1) (List.mem_append_left _ (ss_mem hT (ts_lf T).2.1))
  have hz : Int32.ofNat T.2.2.1.2.2.2.1 = 0 ↔ T.2.2.1.2.2.2.1 = 0 := ⟨fun w => by
    have h2 : (Int32.ofNat T.2.2.1.2.2.2.1).toNatClampNeg = T.2.2.1.2.2.2.1 := Int32.toNatClampNeg_ofNat_of_lt (by omega)
    rw [w] at h2
    exact h2.symm, fun w => by rw [w]; rfl⟩
  refine ⟨fun hb => ?_, fun hb1 hb2 => ?_⟩
  · refine rn_thr hX ho (r_cv e <| r_bx hs <| r_b (x_gr eT 1 rfl) <| r_b (x_gi eD 2 rfl) <| r_l ?_)
    by_cases h0 : T.2.2.1.2.2.2.1 = 0
    · exact r_p (hz.mpr h0) (x_throw _ _)
    · exact r_n (fun w => h0 (hz.mp w)) <| r_b (x_gi eT 3 rfl) <| r_n (hb.elim (fun z => absurd z h0) id) (x_throw _ _)
  · obtain ⟨h2, E2, o2⟩ := ef_s E1 o1 (upd (z_X Z n).1 8 ((z_X Z n).1 8 + 1))
    have o3 := own_sw o2
    obtain ⟨σ3, w1, w2, w3⟩ := p_Slot_putInForce (ss_out hT o3) ((z_X Z n).1 8 + 1)
    have eT3 := own_at w2 List.mem_cons_self
    have o4 := ss_in (T1 := (T.1, upd (upd (upd T.2.1 3 1) 4 (T.2.1 4 + 1)) 5 ((z_X Z n).1 8 + 1), fs_lz T.2.2.2, T.2.2.1)) hT rfl w2
    obtain ⟨h5, m1, m2⟩ := xf_mk E2 (by rw [List.length_set]; exact l3) (own_sw o4)
    obtain ⟨h6, n1, n2⟩ := g4 _ h5 σ3 m1 m2
    exact ⟨σ3, h6, r_cv e <| r_bx hs <| r_b (x_gr eT 1 rfl) <| r_b (x_gi eD 2 rfl) <| r_l <| r_n (fun w => hb1 (hz.mp w)) <| r_b (x_gi eT 3 rfl) <| r_p hb2 <| r_bx g3 <| r_b (p_Exporter_nextSeal e1) <| r_b w1 <| r_b (x_gi eT3 4 rfl) rfl, n1, n2, st_le (st_tr (st_su _ _ _) w3) (by omega) (by omega)⟩
theorem c_withdraw {c1 : Nat} {A : Nat → Nat} {Z : fs_Z} {h F : List fs_C} {σ : fs_S} (hX : fs_WF c1 A Z h) (ho : fs_own (h ++ F) σ) (x t : Int32) :
    (¬ (x = 0 ∨ x = 1) ∨ t < 0 ∨ ¬ t < 3 → fs_Rn c1 A F σ (fs_cv (A 7) 0 (f_Fs_withdraw (A 7) x t)) (.inr fs_IAE) Z) ∧
    (∀ n k T, n < 2 → x = Int32.ofNat n → t = Int32.ofNat k → (z_X Z n).2.2.2[k]? = some T →
      (T.2.1 3 = 0 → fs_Rn c1 A F σ (fs_cv (A 7) 0 (f_Fs_withdraw (A 7) x t)) (.inr fs_ISE) Z) ∧
      (¬ T.2.1 3 = 0 → fs_Rn c1 A F σ (fs_cv (A 7) 0 (f_Fs_withdraw (A 7) x t)) (.inl ()) (z_sX Z n ((z_X Z n).1, (z_X Z n).2.1, (z_X Z n).2.2.1, (z_X Z n).2.2.2.set k (T.1, upd T.2.1 3 0, T.2.2))))) := by
  have e := (wf_rd hX ho).1
  refine ⟨fun hb => rn_thr hX ho (r_cv e <| r_be (p_slotOf_n hX ho hb)), fun n k T hn hx ht hT => ?_⟩
  subst hx
  subst ht
  obtain ⟨B, hx9, F1, g1, g2, mo, g3, g3b, g4⟩ := wf_x hX ho hn
  have hs := p_slotOf hX ho g1 g2 g3 hT
  obtain ⟨F2, o3, -, bk⟩ := xf_slot g1 g2 hT
  have eT := own_at o3 (List.mem_append_left _ (ts_mem T))
  refine ⟨fun hb => rn_thr hX ho (r_cv e <| r_bx hs <| r_b (x_gi eT 3 rfl) <| r_p hb (x_throw _ _)), fun hb => ?_⟩
  have o4 := own_up (e1 := fs_so (upd T.2.1 3 0) T.2.2.1.1 T.2.2.2.1) o3
  obtain ⟨h5, m1, m2⟩ := bk (G := F1 ++ F) (T.1, upd T.2.1 3 0, T.2.2) _ rfl (own_eq o4 (by simp [fs_ts, fs_sc]))
  obtain ⟨h6, n1, n2⟩ := g4 _ h5 _ m1 m2
  exact ⟨_, h6, r_cv e <| r_bx hs <| r_b (x_gi eT 3 rfl) <| r_n hb <| r_b (x_pz eT 3 (Or.inl rfl) (Nat.le_of_ble_eq_true rfl)) rfl, n1, n2, st_le (st_su _ _ _) (by omega) (by omega)⟩
theorem c_restart {c1 : Nat} {A : Nat → Nat} {Z : fs_Z} {h F : List fs_C} {σ : fs_S} (hX : fs_WF c1 A Z h) (ho : fs_own (h ++ F) σ) (x : Int32) :
    (¬ (x = 0 ∨ x = 1) → fs_Rn c1 A F σ (fs_cv (A 7) 0 (f_Fs_restart (A 7) x)) (.inr fs_IAE) Z) ∧
    (∀ n, n < 2 → x = Int32.ofNat n → (¬ (z_X Z n).1 5 < 5 → fs_Rn c1 A F σ (fs_cv (A 7) 0 (f_Fs_restart (A 7) x)) (.inr fs_ISE) Z) ∧
      ((z_X Z n).1 5 < 5 → fs_Rn c1 A F σ (fs_cv (A 7) 0 (f_Fs_restart (A 7) x)) (.inl ((z_X Z n).1 5 + 1)) (z_sX Z n (fs_ne (z_X Z n).1, [], [], (z_X Z n).2.2.2.map fs_fg)))) := by
  have e := (wf_rd hX ho).1
  refine ⟨fun hx => rn_thr hX ho (r_cv e <| r_be (wf_xn hX ho hx)), fun n hn hx => ?_⟩
  subst hx
  obtain ⟨B, hx9, F1, g1, g2, -, g3, -, g4⟩ := wf_x hX ho hn
  obtain ⟨he, E1, o1, l3⟩ := xf_rd g1 g2
  obtain ⟨e1, -, -⟩ := ef_rd E1 o1
  refine ⟨fun h5 => rn_thr hX ho (r_cv e <| r_bx g3 <| r_b (x_gi e1 5 rfl) <| r_n h5 (x_throw _ _)), fun h5 => ?_⟩
  match hS : (z_X Z n).2.2.2, l3, o1 with
  | [T0, T1, T2], l3, o1 =>
    obtain ⟨σ1, h1, k1, k2, k3, k4⟩ := p_Exporter_beginNextEpoch E1 o1
    obtain ⟨e2, -, -⟩ := ef_rd k2 k3
    obtain ⟨h7, m1, m2⟩ := xf_mk k2 (S := [fs_fg T0, fs_fg T1, fs_fg T2]) rfl k3
    obtain ⟨h6, n1, n2⟩ := g4 _ h7 σ1 m1 m2
    exact ⟨σ1, h6, r_cv e <| r_bx g3 <| r_b (x_gi e1 5 rfl) <| r_p h5 <| r_b k1 <| r_b (x_gi e2 5 rfl) rfl, n1, n2, st_le k4 (by omega) (by omega)⟩
