/-! a template heard -/
theorem o32_m1 {b : Option Nat} (h : ∀ k, b = some k → k < 2 ^ 31) : (fs_o32 b = -1 ↔ b = none) := by
  cases b with
  | none => exact ⟨fun _ => rfl, fun _ => rfl⟩
  | some k => exact ⟨fun z => absurd z (ofNat_ne_m1 (h k rfl)), fun z => by cases z⟩
set_option maxRecDepth 100000 in
theorem p_Collector_hearTemplate {T : fs_Rp} {c1 nf a1 b1 a2 b2 : Nat} {H1 H2 q1 q2 : Nat → Int32} {A : Nat → Nat} {K S : List fs_Rp} {Q : fs_Tq} {W : List fs_Rw} {h F : List fs_C} {σ : fs_S} (hX : fs_CF c1 A K S Q W (a1, b1, H1, q1) (a2, b2, H2, q2) h) (ho : fs_own (h ++ F) σ) (hT : (T.1, fs_ro T) ∈ F) (hD : (T.2.1, fs_ia 64 T.2.2.2) ∈ F) (hg : fs_TG T.2.2.2 nf) (hK : K.length ≤ 20) (hS : S.length ≤ 5) (hSG : ∀ R ∈ S, fs_RG R) (hW : W.length ≤ 80) (hc1 : σ.2.2.1 1 = c1) (hk1 : ∃ q, σ.2.1 c1 = some (fs_oa 3 0 q)) :
    ∃ r σ1 h1 K1 S1 W1 p1 p2, (fs_cv (A 0) 5 (f_Collector_hearTemplate (A 0) T.1)).1 σ = some (r, σ1) ∧ fs_CF c1 A K1 S1 Q W1 (a1, b1, H1, p1) (a2, b2, H2, p2) h1 ∧ fs_own (h1 ++ F) σ1 ∧ fs_st σ σ1 300 9000 ∧
      ((fs_kt T.2.2.2 K 0 ≠ none ∧ r = .inl 0 ∧ K1 = K ∧ S1 = S ∧ W1 = W ∧ p1 = q1 ∧ p2 = q2) ∨
       (fs_kt T.2.2.2 K 0 = none ∧ (20 ≤ K.length ∨ 80 < W.length + fs_rwn T.2.2.2 S) ∧ r = .inr "java/lang/UnsupportedOperationException" ∧ K1 = K ∧ S1 = S ∧ W1 = W ∧ p1 = q1 ∧ p2 = q2) ∨
       (fs_kt T.2.2.2 K 0 = none ∧ ¬ (20 ≤ K.length ∨ 80 < W.length + fs_rwn T.2.2.2 S) ∧ r = .inl (Int32.ofNat W1.length - Int32.ofNat W.length) ∧ (∃ R, K1 = K ++ [R] ∧ R.2.2 = T.2.2) ∧ S1 = fs_kept T.2.2.2 S ∧ (fs_V W1, p1, p2) = fs_rsh T.2.2.2 nf S (fs_V W, q1, q2) ∧ W1.length ≤ 80)) := by
  obtain ⟨e, rK, rS, ⟨et, rW⟩, -⟩ := cf_rd hX ho
  have d := own_at ho (List.mem_append_right _ hT)
  have db := own_at ho (List.mem_append_right _ hD)
  have hkt := p_Collector_knownTemplate e rK d db (by omega)
  by_cases h1 : fs_kt T.2.2.2 K 0 = none
  · rw [h1] at hkt
    by_cases h2 : 20 ≤ K.length
    · refine ⟨_, fs_thr σ, h, K, S, W, q1, q2, r_cv e <| r_b hkt <| r_p rfl <| r_b (x_gr e 0 rfl) <| r_b rK.1.1 <| r_n (fun z => ?_) (x_throw _ _), hX, own_thr ho, st_le (st_thr σ) (by decide) (by decide), Or.inr (Or.inl ⟨h1, Or.inl h2, rfl, rfl, rfl, rfl, rfl, rfl⟩)⟩
      rw [List.length_map] at z
      have := (Int32.ofNat_lt_ofNat (n := 20) (by omega) (by omega)).mp z
      omega
    · have hlt : Int32.ofNat (K.map Prod.fst).length < 20 := by
        rw [List.length_map]
        exact (Int32.ofNat_lt_ofNat (n := 20) (by omega) (by omega)).mpr (by omega)
      have hwt := p_Collector_recordsWaitingFor e rS d db (by omega)
      have hrw : fs_rw T.2.2.2 S 0 = Int32.ofNat (fs_rwn T.2.2.2 S) := by
        have := rw_ofNat T.2.2.2 S 0 hSG
        rw [Nat.zero_add] at this
        exact this
      rw [hrw] at hwt
      have hbd : ∀ l : List fs_Rp, (∀ R ∈ l, fs_RG R) → fs_rwn T.2.2.2 l ≤ 100 * l.length := fun l => by
        induction l with
        | nil => intro _; exact Nat.le_refl _
        | cons R l ih =>
          intro hl
          have := ih (fun R hR => hl R (List.mem_cons_of_mem _ hR))
          have h2 := (hl R List.mem_cons_self).2.2
          show (if fs_sb R.2.2.2 T.2.2.2 = true then fs_nR R.2.2.2 else 0) + fs_rwn T.2.2.2 l ≤ _
          rw [List.length_cons]
          split <;> omega
      have hb1 := hbd S hSG
      have hrr := p_Collector_requireRoomFor (n := fs_rwn T.2.2.2 S) e et rW hW (by omega)
      by_cases h3 : 80 < W.length + fs_rwn T.2.2.2 S
      · exact ⟨_, fs_thr σ, h, K, S, W, q1, q2, r_cv e <| r_b hkt <| r_p rfl <| r_b (x_gr e 0 rfl) <| r_b rK.1.1 <| r_p hlt <| r_b hwt <| r_be (hrr.1 h3), hX, own_thr ho, st_le (st_thr σ) (by decide) (by decide), Or.inr (Or.inl ⟨h1, Or.inr h3, rfl, rfl, rfl, rfl, rfl, rfl⟩)⟩
      · obtain ⟨σ0, σ2, c1', c2', c3', c4', c5'⟩ := p_Report_copy (R := T) ho (List.mem_append_right _ hT) (List.mem_append_right _ hD)
        obtain ⟨σ3, h3', d1, d2, d3, d4⟩ := cf_known (R := fs_cpy σ.2.2.2.1 T) hX (own_sw c4') (by rw [c5'.2.1]; exact hc1) (by rw [c5'.1]; exact hk1) (by omega)
        have s3 := st_tr c5' d4
        obtain ⟨e3, rK3, rS3, ⟨et3, rW3⟩, -⟩ := cf_rd d2 d3
        obtain ⟨σ4, h4, W4, p1, p2, k1, k2, k3, k4, k5, k6, k7⟩ := rsh_loop (n := S.length) (w0 := W.length) hT hD hg (by omega) S 4096 0 [] W q1 q2 h3' σ3 d2 d3 (by omega) (by omega) hSG (by omega) (by simp; omega) (by rw [s3.2.1]; exact hc1) (by rw [s3.1]; exact hk1)
        have hp4 : fs_pot W4.length ≤ fs_pot 80 := pot_m (by omega)
        have hp5 : fs_pot 80 = 8000 := by decide
        refine ⟨_, σ4, h4, K ++ [fs_cpy σ.2.2.2.1 T], fs_kept T.2.2.2 S, W4, p1, p2, r_cv e <| r_b hkt <| r_p rfl <| r_b (x_gr e 0 rfl) <| r_b rK.1.1 <| r_p hlt <| r_b hwt <| r_bx (hrr.2 h3) <| r_b (x_gr e 0 rfl) <| r_b c1' <| r_b c3' <| r_b d1 <| r_b (v := Int32.ofNat W4.length - Int32.ofNat W.length) (σ1 := σ4) ?_ rfl, k2, k4, st_le (st_tr s3 k5) (by omega) (by omega), Or.inr (Or.inr ⟨h1, fun z => z.elim h2 h3, rfl, ⟨_, rfl, rfl⟩, rfl, k3, by omega⟩)⟩
        refine r_cv e3 <| r_b (x_gr e3 2 rfl) <| r_b (x_gr et3 0 rfl) <| r_b rW3.1.1 <| r_b (x_gr e3 1 rfl) <| r_b rS3.1.1 ?_
        rw [List.length_map, List.length_map]
        exact k1
  · refine ⟨_, σ, h, K, S, W, q1, q2, r_cv e <| r_b hkt <| r_n (fun z => ?_) rfl, hX, ho, st_le (st_rf σ) (by decide) (by decide), Or.inl ⟨h1, rfl, rfl, rfl, rfl, rfl, rfl⟩⟩
    exact h1 ((o32_m1 (fun k hk => by have := (kt_lt hk).2.1; omega)).mp z)
/-! records heard -/
set_option maxRecDepth 100000 in
theorem cf_mark {R : fs_Rp} {c1 a1 b1 a2 b2 ep p n : Nat} {H1 H2 q1 q2 : Nat → Int32} {A : Nat → Nat} {K S : List fs_Rp} {Q : fs_Tq} {W : List fs_Rw} {h F : List fs_C} {σ : fs_S} (hX : fs_CF c1 A K S Q W (a1, b1, H1, q1) (a2, b2, H2, q2) h) (ho : fs_own (h ++ F) σ) (hR : (R.1, fs_ro R) ∈ F) (hB : (R.2.1, fs_ia 64 R.2.2.2) ∈ F) (hn : R.2.2.2 5 = Int32.ofNat n) (h1 : R.2.2.2 1 = Int32.ofNat ep) (h6 : R.2.2.2 6 = Int32.ofNat p) (he : ep ≤ 5) (hp : p + n ≤ 100) :
    ∃ σ1 h1, (fs_cv (if R.2.2.2 0 = 0 then a1 else a2) 7 (f_Ledger_markHeard (if R.2.2.2 0 = 0 then a1 else a2) R.1)).1 σ = some ((), σ1) ∧ fs_CF c1 A K S Q W (a1, b1, if R.2.2.2 0 = 0 then fs_mh n (ep * 100 + p) H1 else H1, q1) (a2, b2, if R.2.2.2 0 = 0 then H2 else fs_mh n (ep * 100 + p) H2, q2) h1 ∧ fs_own (h1 ++ F) σ1 ∧ fs_st σ σ1 0 0 := by
  by_cases h0 : R.2.2.2 0 = 0
  · obtain ⟨F1, o3, bk⟩ := cf_g1 hX ho
    obtain ⟨σ1, k1, k2, k3⟩ := p_Ledger_markHeard o3 (List.mem_append_right _ hR) (List.mem_append_right _ hB) hn h1 h6 he hp
    obtain ⟨h5, hX5, o5⟩ := bk (a1, b1, fs_mh n (ep * 100 + p) H1, q1) _ rfl k2
    simp only [if_pos h0]
    exact ⟨σ1, h5, k1, hX5, o5, k3⟩
  · obtain ⟨F1, o3, bk⟩ := cf_g2 hX ho
    obtain ⟨σ1, k1, k2, k3⟩ := p_Ledger_markHeard o3 (List.mem_append_right _ hR) (List.mem_append_right _ hB) hn h1 h6 he hp
    obtain ⟨h5, hX5, o5⟩ := bk (a2, b2, fs_mh n (ep * 100 + p) H2, q2) _ rfl k2
    simp only [if_neg h0]
    exact ⟨σ1, h5, k1, hX5, o5, k3⟩
/-- the shelf's first dropped, if it is full; then one more -/
def fs_dq (S : List fs_Rp) (q : (Nat → Int32) × (Nat → Int32)) : (Nat → Int32) × (Nat → Int32) := match S with
  | [] => q
  | R :: _ => if S.length < 5 then q else if R.2.2.2 0 = 0 then (upd q.1 1 (q.1 1 + 1), q.2) else (q.1, upd q.2 1 (q.2 1 + 1))
def fs_ds (S : List fs_Rp) : List fs_Rp := if S.length < 5 then S else S.tail
set_option maxRecDepth 100000 in
theorem p_Collector_putOnShelf {R : fs_Rp} {c1 a1 b1 a2 b2 : Nat} {H1 H2 q1 q2 : Nat → Int32} {A : Nat → Nat} {K S : List fs_Rp} {Q : fs_Tq} {W : List fs_Rw} {h F : List fs_C} {σ : fs_S} (hX : fs_CF c1 A K S Q W (a1, b1, H1, q1) (a2, b2, H2, q2) h) (ho : fs_own (h ++ F) σ) (hR : (R.1, fs_ro R) ∈ F) (hB : (R.2.1, fs_ia 64 R.2.2.2) ∈ F) (hS : S.length ≤ 5) (hc1 : σ.2.2.1 1 = c1) (hk1 : ∃ q, σ.2.1 c1 = some (fs_oa 3 0 q)) :
    ∃ σ1 h1 R1, (fs_cv (A 0) 5 (f_Collector_putOnShelf (A 0) R.1)).1 σ = some ((), σ1) ∧ fs_CF c1 A K (fs_ds S ++ [R1]) Q W (a1, b1, H1, (fs_dq S (q1, q2)).1) (a2, b2, H2, (fs_dq S (q1, q2)).2) h1 ∧ fs_own (h1 ++ F) σ1 ∧ fs_st σ σ1 3 100 ∧ R1.2.2 = R.2.2 := by
  have tail : ∀ (S : List fs_Rp) (q1 q2 : Nat → Int32) (h G : List fs_C) (σ : fs_S), S.length < 5 → fs_CF c1 A K S Q W (a1, b1, H1, q1) (a2, b2, H2, q2) h → fs_own (h ++ (G ++ F)) σ → σ.2.2.1 1 = c1 → (∃ q, σ.2.1 c1 = some (fs_oa 3 0 q)) →
      ∃ σ1 h1 R1, (fs_bind (fs_gr (A 0) 5 1) fun r8 => fs_bind (fs_nw 9 fs_d9) fun r9 => fs_bind (f_Report_init_1 r9 R.1) fun _ => fs_bind (fs_cv r8 2 (f_ArrayList_add_0 r8 r9)) fun _ => fs_ret ()).1 σ = some ((), σ1) ∧ fs_CF c1 A K (S ++ [R1]) Q W (a1, b1, H1, q1) (a2, b2, H2, q2) h1 ∧ fs_own (h1 ++ F) σ1 ∧ fs_st σ σ1 3 100 ∧ R1.2.2 = R.2.2 := by
    intro S q1 q2 h G σ hS hX ho hc1 hk1
    obtain ⟨e, -⟩ := cf_rd hX ho
    obtain ⟨σ0, σ2, c1', c2', c3', c4', c5'⟩ := p_Report_copy (R := R) ho (List.mem_append_right _ (List.mem_append_right _ hR)) (List.mem_append_right _ (List.mem_append_right _ hB))
    obtain ⟨σ3, h3, d1, d2, d3, d4⟩ := cf_shelf (R := fs_cpy σ.2.2.2.1 R) hX (own_sw c4') (by rw [c5'.2.1]; exact hc1) (by rw [c5'.1]; exact hk1) (by omega)
    exact ⟨σ3, h3, _, r_b (x_gr e 1 rfl) <| r_b c1' <| r_b c3' <| r_b d1 rfl, d2, own_drop (own_sw d3), st_le (st_tr c5' d4) (by omega) (by omega), rfl⟩
  obtain ⟨e, -, rS, -, -⟩ := cf_rd hX ho
  by_cases h5 : S.length < 5
  · obtain ⟨σ1, h1, R1, k1, k2, k3⟩ := tail S q1 q2 h [] σ h5 hX ho hc1 hk1
    have e1 : fs_ds S = S := if_pos h5
    have e2 : fs_dq S (q1, q2) = (q1, q2) := by
      unfold fs_dq
      cases S with
      | nil => rfl
      | cons R l => exact if_pos h5
    rw [e1, e2]
    refine ⟨σ1, h1, R1, r_cv e <| r_b (x_gr e 1 rfl) <| r_b rS.1.1 <| r_l <| r_p ?_ k1, k2, k3⟩
    rw [List.length_map]
    exact (Int32.ofNat_lt_ofNat (n := 5) (by omega) (by omega)).mpr h5
  · cases S with
    | nil => exact absurd (by decide) h5
    | cons B l =>
      obtain ⟨σ0, h0, u1, u2, u3, u4⟩ := cf_unshelf (j := 0) (R := B) hX ho rfl
      have gB := own_at u3 (List.mem_append_right _ (List.mem_append_left _ List.mem_cons_self))
      have gb := own_at u3 (List.mem_append_right _ (List.mem_append_left _ (List.mem_cons_of_mem _ List.mem_cons_self)))
      obtain ⟨e2, -, -, -, ⟨e3, -⟩, e4, -⟩ := cf_rd u2 u3
      have e1 : fs_ds (B :: l) = l := if_neg h5
      have hnlt : ¬ Int32.ofNat ((B :: l).map Prod.fst).length < 5 := fun z => by
        rw [List.length_map] at z
        exact h5 ((Int32.ofNat_lt_ofNat (n := 5) (by omega) (by omega)).mp z)
      have hl4 : l.length < 5 := by rw [List.length_cons] at hS; omega
      rw [e1]
      by_cases hb : B.2.2.2 0 = 0
      · have eq2 : fs_dq (B :: l) (q1, q2) = (upd q1 1 (q1 1 + 1), q2) := by
          show (if (B :: l).length < 5 then (q1, q2) else _) = _
          rw [if_neg h5, if_pos hb]
        rw [eq2]
        obtain ⟨F1, o3, bk⟩ := cf_g1 u2 u3
        have o4 := own_up (e1 := fs_lgo (a1, b1, H1, upd q1 1 (q1 1 + 1))) o3
        obtain ⟨h6, hX6, o6⟩ := bk (a1, b1, H1, upd q1 1 (q1 1 + 1)) _ rfl o4
        obtain ⟨σ1, h1, R1, k1, k2, k3, k4, k5⟩ := tail l _ q2 h6 (fs_rc B) _ hl4 hX6 o6 (by rw [su_2, u4.2.1]; exact hc1) (by rw [su_2, u4.1]; exact hk1)
        refine ⟨σ1, h1, R1, r_cv e <| r_b (x_gr e 1 rfl) <| r_b rS.1.1 <| r_l <| r_n hnlt <| r_b (x_gr e 1 rfl) <| r_b u1 <| r_b (x_ck gB) <| r_b (p_Report_exporter gB gb) <| r_b (p_Collector_ledgerOf e2 _) ?_, k2, k3, st_le (st_tr u4 (st_tr (st_su _ _ _) k4)) (by omega) (by omega), k5⟩
        rw [show (if B.2.2.2 0 = 0 then a1 else a2) = a1 from if_pos hb]
        exact r_b (x_gi e3 1 rfl) <| r_b (x_pi e3 1 _ (Nat.le_of_ble_eq_true rfl)) k1
      · have eq2 : fs_dq (B :: l) (q1, q2) = (q1, upd q2 1 (q2 1 + 1)) := by
          show (if (B :: l).length < 5 then (q1, q2) else _) = _
          rw [if_neg h5, if_neg hb]
        rw [eq2]
        obtain ⟨F1, o3, bk⟩ := cf_g2 u2 u3
        have o4 := own_up (e1 := fs_lgo (a2, b2, H2, upd q2 1 (q2 1 + 1))) o3
        obtain ⟨h6, hX6, o6⟩ := bk (a2, b2, H2, upd q2 1 (q2 1 + 1)) _ rfl o4
        obtain ⟨σ1, h1, R1, k1, k2, k3, k4, k5⟩ := tail l q1 _ h6 (fs_rc B) _ hl4 hX6 o6 (by rw [su_2, u4.2.1]; exact hc1) (by rw [su_2, u4.1]; exact hk1)
        refine ⟨σ1, h1, R1, r_cv e <| r_b (x_gr e 1 rfl) <| r_b rS.1.1 <| r_l <| r_n hnlt <| r_b (x_gr e 1 rfl) <| r_b u1 <| r_b (x_ck gB) <| r_b (p_Report_exporter gB gb) <| r_b (p_Collector_ledgerOf e2 _) ?_, k2, k3, st_le (st_tr u4 (st_tr (st_su _ _ _) k4)) (by omega) (by omega), k5⟩
        rw [show (if B.2.2.2 0 = 0 then a1 else a2) = a2 from if_neg hb]
        exact r_b (x_gi e4 1 rfl) <| r_b (x_pi e4 1 _ (Nat.le_of_ble_eq_true rfl)) k1
set_option maxRecDepth 100000 in
theorem p_Collector_hearRecords {R : fs_Rp} {c1 a1 b1 a2 b2 ep p : Nat} {H1 H2 q1 q2 : Nat → Int32} {A : Nat → Nat} {K S : List fs_Rp} {Q : fs_Tq} {W : List fs_Rw} {h F : List fs_C} {σ : fs_S} (hX : fs_CF c1 A K S Q W (a1, b1, H1, q1) (a2, b2, H2, q2) h) (ho : fs_own (h ++ F) σ) (hR : (R.1, fs_ro R) ∈ F) (hB : (R.2.1, fs_ia 64 R.2.2.2) ∈ F) (hG : fs_RG R) (h1 : R.2.2.2 1 = Int32.ofNat ep) (h6 : R.2.2.2 6 = Int32.ofNat p) (he : ep ≤ 5) (hp : p + fs_nR R.2.2.2 ≤ 100) (hK : K.length ≤ 20) (hS : S.length ≤ 5) (hKG : ∀ T ∈ K, ∃ nf, fs_TG T.2.2.2 nf) (hW : W.length ≤ 80) (hc1 : σ.2.2.1 1 = c1) (hk1 : ∃ q, σ.2.1 c1 = some (fs_oa 3 0 q)) :
    ∃ r σ1 h1 S1 W1 I1 I2 p1 p2, (fs_cv (A 0) 5 (f_Collector_hearRecords (A 0) R.1)).1 σ = some (r, σ1) ∧ fs_CF c1 A K S1 Q W1 (a1, b1, I1, p1) (a2, b2, I2, p2) h1 ∧ fs_own (h1 ++ F) σ1 ∧ fs_st σ σ1 300 9000 ∧
      ((¬ fs_ho (if R.2.2.2 0 = 0 then H1 else H2) (fs_nR R.2.2.2) (ep * 100 + p) = 0 ∧ r = .inl 0 ∧ S1 = S ∧ W1 = W ∧ I1 = H1 ∧ I2 = H2 ∧ p1 = q1 ∧ p2 = q2) ∨
       (fs_ho (if R.2.2.2 0 = 0 then H1 else H2) (fs_nR R.2.2.2) (ep * 100 + p) = 0 ∧ fs_kt R.2.2.2 K 0 = none ∧ r = .inl 0 ∧ (∃ R1, S1 = fs_ds S ++ [R1] ∧ R1.2.2 = R.2.2) ∧ W1 = W ∧ I1 = (if R.2.2.2 0 = 0 then fs_mh (fs_nR R.2.2.2) (ep * 100 + p) H1 else H1) ∧ I2 = (if R.2.2.2 0 = 0 then H2 else fs_mh (fs_nR R.2.2.2) (ep * 100 + p) H2) ∧ (p1, p2) = fs_dq S (q1, q2)) ∨
       (fs_ho (if R.2.2.2 0 = 0 then H1 else H2) (fs_nR R.2.2.2) (ep * 100 + p) = 0 ∧ ∃ k T nf, fs_kt R.2.2.2 K 0 = some k ∧ K[k]? = some T ∧ fs_TG T.2.2.2 nf ∧ S1 = S ∧ p1 = q1 ∧ p2 = q2 ∧
         ((fs_cr R.2.2.1 R.2.2.2 T.2.2.2 nf (fs_nR R.2.2.2) = false ∧ r = .inr "java/lang/IllegalArgumentException" ∧ W1 = W ∧ I1 = H1 ∧ I2 = H2) ∨
          (fs_cr R.2.2.1 R.2.2.2 T.2.2.2 nf (fs_nR R.2.2.2) = true ∧ 80 < W.length + fs_nR R.2.2.2 ∧ r = .inr "java/lang/UnsupportedOperationException" ∧ W1 = W ∧ I1 = H1 ∧ I2 = H2) ∨
          (fs_cr R.2.2.1 R.2.2.2 T.2.2.2 nf (fs_nR R.2.2.2) = true ∧ ¬ 80 < W.length + fs_nR R.2.2.2 ∧ r = .inl (Int32.ofNat (W.length + fs_nR R.2.2.2) - Int32.ofNat W.length) ∧ fs_V W1 = fs_V W ++ fs_mr R.2.2.1 R.2.2.2 T.2.2.2 nf (fs_nR R.2.2.2) (7, 0) ∧ I1 = (if R.2.2.2 0 = 0 then fs_mh (fs_nR R.2.2.2) (ep * 100 + p) H1 else H1) ∧ I2 = (if R.2.2.2 0 = 0 then H2 else fs_mh (fs_nR R.2.2.2) (ep * 100 + p) H2))))) := by
  obtain ⟨e, rK, rS, ⟨et, rW⟩, ⟨g1, g1h⟩, g2, g2h⟩ := cf_rd hX ho
  have er := own_at ho (List.mem_append_right _ hR)
  have eb := own_at ho (List.mem_append_right _ hB)
  have hkt := p_Collector_knownTemplate (T := R) e rK er eb (by omega)
  have hho : (fs_cv (if R.2.2.2 0 = 0 then a1 else a2) 7 (f_Ledger_heardOneOf (if R.2.2.2 0 = 0 then a1 else a2) R.1)).1 σ = some (fs_ho (if R.2.2.2 0 = 0 then H1 else H2) (fs_nR R.2.2.2) (ep * 100 + p), σ) := by
    by_cases h0 : R.2.2.2 0 = 0
    · simp only [if_pos h0]
      exact p_Ledger_heardOneOf g1 g1h er eb hG.2.1 h1 h6 he hp
    · simp only [if_neg h0]
      exact p_Ledger_heardOneOf g2 g2h er eb hG.2.1 h1 h6 he hp
  have hfin : ∀ {S1 : List fs_Rp} {W1 : List fs_Rw} {p1 p2 : Nat → Int32} {h2 : List fs_C} {τ : fs_S}, fs_CF c1 A K S1 Q W1 (a1, b1, H1, p1) (a2, b2, H2, p2) h2 → fs_own (h2 ++ F) τ → ∃ σ1 h3, (fs_bind (fs_cv (if R.2.2.2 0 = 0 then a1 else a2) 7 (f_Ledger_markHeard (if R.2.2.2 0 = 0 then a1 else a2) R.1)) fun _ => fs_bind (fs_gr (A 0) 5 2) fun r10 => fs_bind (fs_gr r10 6 0) fun r11 => fs_bind (fs_cv r11 2 (f_ArrayList_size r11)) fun v12 => fs_ret (.inl (v12 - Int32.ofNat W.length) : Int32 ⊕ String)).1 τ = some (.inl (Int32.ofNat W1.length - Int32.ofNat W.length), σ1) ∧ fs_CF c1 A K S1 Q W1 (a1, b1, if R.2.2.2 0 = 0 then fs_mh (fs_nR R.2.2.2) (ep * 100 + p) H1 else H1, p1) (a2, b2, if R.2.2.2 0 = 0 then H2 else fs_mh (fs_nR R.2.2.2) (ep * 100 + p) H2, p2) h3 ∧ fs_own (h3 ++ F) σ1 ∧ fs_st τ σ1 0 0 := by
    intro S1 W1 p1 p2 h2 τ hX2 o2
    obtain ⟨σ1, h3, k1, k2, k3, k4⟩ := cf_mark hX2 o2 hR hB hG.2.1 h1 h6 he hp
    obtain ⟨e3, -, -, ⟨et3, rW3⟩, -⟩ := cf_rd k2 k3
    refine ⟨σ1, h3, r_b k1 <| r_b (x_gr e3 2 rfl) <| r_b (x_gr et3 0 rfl) <| r_b rW3.1.1 ?_, k2, k3, k4⟩
    rw [List.length_map]
    rfl
  by_cases h2 : fs_ho (if R.2.2.2 0 = 0 then H1 else H2) (fs_nR R.2.2.2) (ep * 100 + p) = 0
  · cases h3 : fs_kt R.2.2.2 K 0 with
    | none =>
      rw [h3] at hkt
      obtain ⟨σ2, h2', R1, w1, w2, w3, w4, w5⟩ := p_Collector_putOnShelf hX ho hR hB hS hc1 hk1
      obtain ⟨σ3, h3', k1, k2, k3, k4⟩ := hfin w2 w3
      refine ⟨_, σ3, h3', _, W, _, _, _, _, r_cv e <| r_b (p_Report_exporter er eb) <| r_b (p_Collector_ledgerOf e _) <| r_b hho <| r_p h2 <| r_b (x_gr e 2 rfl) <| r_b (x_gr et 0 rfl) <| r_b rW.1.1 <| r_b hkt <| r_l <| r_p rfl <| r_b w1 ?_, k2, k3, st_le (st_tr w4 k4) (by decide) (by decide), Or.inr (Or.inl ⟨h2, rfl, rfl, ⟨R1, rfl, w5⟩, rfl, rfl, rfl, rfl⟩)⟩
      rw [List.length_map]
      rw [Int32.sub_self] at k1
      exact k1
    | some k =>
      rw [h3] at hkt
      obtain ⟨-, hkl, T, hT1, -⟩ := kt_lt h3
      rw [Nat.sub_zero] at hT1
      rw [Nat.zero_add] at hkl
      obtain ⟨T', hT', hTm, t1, t2, t3⟩ := rr_at rK hkl
      obtain rfl : T = T' := by
        rw [hT1] at hT'
        exact Option.some.inj hT'
      obtain ⟨nf, hg⟩ := hKG T hTm
      obtain ⟨mC, mK⟩ := cf_mem hX
      obtain ⟨m1, m2⟩ := mK T hTm
      obtain ⟨σ2, w1, w2, w3⟩ := p_Collector_canRead (co := A 0) (F := h ++ F) (List.mem_append_left _ mC) (List.mem_append_right _ hR) (List.mem_append_right _ hB) hG.1 (List.mem_append_left _ m1) (List.mem_append_left _ m2) hg hG.2.1 (by have := hG.2.2; omega) ho
      obtain ⟨e2, -, -, ⟨et2, rW2⟩, -⟩ := cf_rd hX w2
      have er2 := own_at w2 (List.mem_append_right _ hR)
      have eb2 := own_at w2 (List.mem_append_right _ hB)
      have hne : ¬ fs_o32 (some k) = -1 := ofNat_ne_m1 (by omega)
      cases h4 : fs_cr R.2.2.1 R.2.2.2 T.2.2.2 nf (fs_nR R.2.2.2) with
      | false =>
        rw [h4] at w1
        exact ⟨_, fs_thr σ2, h, S, W, H1, H2, q1, q2, r_cv e <| r_b (p_Report_exporter er eb) <| r_b (p_Collector_ledgerOf e _) <| r_b hho <| r_p h2 <| r_b (x_gr e 2 rfl) <| r_b (x_gr et 0 rfl) <| r_b rW.1.1 <| r_b hkt <| r_l <| r_n hne <| r_b (x_gr e 0 rfl) <| r_b t1 <| r_b (x_ck t2) <| r_be (r_cv e <| r_b w1 <| r_p rfl (x_throw _ _)), hX, own_thr w2, st_le (st_tr w3 (st_thr _)) (by decide) (by decide), Or.inr (Or.inr ⟨h2, k, T, nf, rfl, hT1, hg, rfl, rfl, rfl, Or.inl ⟨h4, rfl, rfl, rfl, rfl⟩⟩)⟩
      | true =>
        rw [h4] at w1
        have hrr := p_Collector_requireRoomFor (n := fs_nR R.2.2.2) e2 et2 rW2 hW (by have := hG.2.2; omega)
        rw [← hG.2.1] at hrr
        by_cases h5 : 80 < W.length + fs_nR R.2.2.2
        · exact ⟨_, fs_thr σ2, h, S, W, H1, H2, q1, q2, r_cv e <| r_b (p_Report_exporter er eb) <| r_b (p_Collector_ledgerOf e _) <| r_b hho <| r_p h2 <| r_b (x_gr e 2 rfl) <| r_b (x_gr et 0 rfl) <| r_b rW.1.1 <| r_b hkt <| r_l <| r_n hne <| r_b (x_gr e 0 rfl) <| r_b t1 <| r_b (x_ck t2) <| r_be (r_cv e <| r_b w1 <| r_n (by decide) <| r_b (p_Report_records er2 eb2) <| r_be (hrr.1 h5)), hX, own_thr w2, st_le (st_tr w3 (st_thr _)) (by decide) (by decide), Or.inr (Or.inr ⟨h2, k, T, nf, rfl, hT1, hg, rfl, rfl, rfl, Or.inr (Or.inl ⟨h4, h5, rfl, rfl, rfl, rfl⟩)⟩)⟩
        · obtain ⟨σ3, h3', W3, c1', c2', c3', c4', c5'⟩ := cf_rows hX hR hB hG.1 (Or.inl hTm) hg hG.2.1 (by have := hG.2.2; omega) (by omega) (by rw [w3.2.1]; exact hc1) (by rw [w3.1]; exact hk1) w2
          have hl : W3.length = fs_nR R.2.2.2 := by
            have := congrArg List.length c3'
            rw [List.length_map, mr_len] at this
            exact this
          obtain ⟨σ4, h4', k1, k2, k3, k4⟩ := hfin c2' c4'
          rw [List.length_append, hl] at k1
          have hp4 : fs_pot (W.length + fs_nR R.2.2.2) ≤ fs_pot 80 := pot_m (by omega)
          have hp5 : fs_pot 80 = 8000 := by decide
          refine ⟨_, σ4, h4', S, W ++ W3, _, _, q1, q2, r_cv e <| r_b (p_Report_exporter er eb) <| r_b (p_Collector_ledgerOf e _) <| r_b hho <| r_p h2 <| r_b (x_gr e 2 rfl) <| r_b (x_gr et 0 rfl) <| r_b rW.1.1 <| r_b hkt <| r_l <| r_n hne <| r_b (x_gr e 0 rfl) <| r_b t1 <| r_b (x_ck t2) <| r_bx (v := ()) (r_cv e <| r_b w1 <| r_n (by decide) <| r_b (p_Report_records er2 eb2) <| r_bx (hrr.2 h5) <| r_b c1' rfl) ?_, k2, k3, st_le (st_tr w3 (st_tr c5' k4)) (by omega) (by omega), Or.inr (Or.inr ⟨h2, k, T, nf, rfl, hT1, hg, rfl, rfl, rfl, Or.inr (Or.inr ⟨h4, h5, rfl, ?_, rfl, rfl⟩)⟩)⟩
          · rw [List.length_map]
            exact k1
          · rw [V_app]
            show _ ++ W3.map _ = _
            rw [c3']
  · exact ⟨_, σ, h, S, W, H1, H2, q1, q2, r_cv e <| r_b (p_Report_exporter er eb) <| r_b (p_Collector_ledgerOf e _) <| r_b hho <| r_n h2 rfl, hX, ho, st_le (st_rf σ) (by decide) (by decide), Or.inl ⟨h2, rfl, rfl, rfl, rfl, rfl, rfl, rfl⟩⟩
