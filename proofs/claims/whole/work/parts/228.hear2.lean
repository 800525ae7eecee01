/-! an exception made -/
def fs_thr (σ : fs_S) : fs_S := (fs_m σ, fs_k σ, fs_c σ, fs_n σ + 1, fs_u σ + 6)
theorem own_thr {H : List fs_C} {σ : fs_S} (h : fs_own H σ) : fs_own H (fs_thr σ) := ⟨h.1, fun q hq => ⟨(h.2.1 q hq).1, Nat.lt_succ_of_lt (h.2.1 q hq).2⟩, fun a ha => ⟨Nat.lt_succ_of_lt (h.2.2 a ha).1, (h.2.2 a ha).2⟩⟩
theorem st_thr (σ : fs_S) : fs_st σ (fs_thr σ) 1 6 := ⟨rfl, rfl, Nat.le_refl _, Nat.le_refl _⟩
theorem x_throw {α : Type} (c : String) (σ : fs_S) : (fs_throw (α := α) c).1 σ = some (.inr c, fs_thr σ) := rfl
/-! hearing: records read, or spoilt -/
def fs_nR (f : Nat → Int32) : Nat := (f 5).toNatClampNeg
def fs_RG (R : fs_Rp) : Prop := R.2.2.1 ≤ 64 ∧ R.2.2.2 5 = Int32.ofNat (fs_nR R.2.2.2) ∧ fs_nR R.2.2.2 ≤ 100
abbrev fs_Hs : Type := fs_Vs × (Nat → Int32) × (Nat → Int32)
def fs_ros (g : Nat → Int32) (nf u : Nat) (f : Nat → Int32) (s : fs_Hs) : fs_Hs :=
  if fs_cr u f g nf (fs_nR f) = true then (s.1 ++ fs_mr u f g nf (fs_nR f) (7, 0), s.2) else if f 0 = 0 then (s.1, upd s.2.1 2 (s.2.1 2 + 1), s.2.2) else (s.1, s.2.1, upd s.2.2 2 (s.2.2 2 + 1))
theorem mr_len (u : Nat) (f g : Nat → Int32) (nf : Nat) : ∀ (m : Nat) (c : fs_Cu), (fs_mr u f g nf m c).length = m
  | 0, _ => rfl
  | m + 1, c => congrArg (· + 1) (mr_len u f g nf m _)
theorem V_app (W W1 : List fs_Rw) : fs_V (W ++ W1) = fs_V W ++ fs_V W1 := List.map_append
theorem V_len (W : List fs_Rw) : (fs_V W).length = W.length := List.length_map ..
set_option maxRecDepth 100000 in
theorem p_Collector_readOrSpoil {R T : fs_Rp} {c1 nf a1 b1 a2 b2 : Nat} {H1 H2 q1 q2 : Nat → Int32} {A : Nat → Nat} {K S : List fs_Rp} {Q : fs_Tq} {W : List fs_Rw} {h F : List fs_C} {σ : fs_S} (hX : fs_CF c1 A K S Q W (a1, b1, H1, q1) (a2, b2, H2, q2) h) (ho : fs_own (h ++ F) σ) (hR : (R.1, fs_ro R) ∈ F) (hB : (R.2.1, fs_ia 64 R.2.2.2) ∈ F) (hG : fs_RG R) (hT : (T.1, fs_ro T) ∈ F) (hD : (T.2.1, fs_ia 64 T.2.2.2) ∈ F) (hg : fs_TG T.2.2.2 nf) (hW : W.length + fs_nR R.2.2.2 ≤ 80) (hc1 : σ.2.2.1 1 = c1) (hk1 : ∃ q, σ.2.1 c1 = some (fs_oa 3 0 q)) :
    ∃ σ1 h1 W1 p1 p2, (fs_cv (A 0) 5 (f_Collector_readOrSpoil (A 0) R.1 T.1)).1 σ = some ((), σ1) ∧ fs_CF c1 A K S Q W1 (a1, b1, H1, p1) (a2, b2, H2, p2) h1 ∧ (fs_V W1, p1, p2) = fs_ros T.2.2.2 nf R.2.2.1 R.2.2.2 (fs_V W, q1, q2) ∧ fs_own (h1 ++ F) σ1 ∧ fs_st σ σ1 (2 + 3 * (W1.length - W.length)) (6 + (fs_pot W1.length - fs_pot W.length)) ∧ W.length ≤ W1.length ∧ W1.length ≤ W.length + fs_nR R.2.2.2 := by
  obtain ⟨e, -⟩ := cf_rd hX ho
  obtain ⟨σ1, w1, w2, w3⟩ := p_Collector_canRead (co := A 0) (F := h ++ F) (List.mem_append_left _ (cf_mem hX).1) (List.mem_append_right _ hR) (List.mem_append_right _ hB) hG.1 (List.mem_append_right _ hT) (List.mem_append_right _ hD) hg hG.2.1 (by have := hG.2.2; omega) ho
  cases hcr : fs_cr R.2.2.1 R.2.2.2 T.2.2.2 nf (fs_nR R.2.2.2) with
  | true =>
    rw [hcr] at w1
    obtain ⟨σ2, h2, W2, k1, k2, k3, k4, k5⟩ := cf_rows hX hR hB hG.1 (Or.inr ⟨hT, hD⟩) hg hG.2.1 (by have := hG.2.2; omega) hW (by rw [w3.2.1]; exact hc1) (by rw [w3.1]; exact hk1) w2
    have hl : W2.length = fs_nR R.2.2.2 := by
      have := congrArg List.length k3
      rw [List.length_map, mr_len] at this
      exact this
    refine ⟨σ2, h2, W ++ W2, q1, q2, r_cv e <| r_b w1 <| r_n (by decide) <| r_b k1 rfl, k2, ?_, k4, st_le (st_tr w3 k5) (by rw [List.length_append]; omega) (by rw [List.length_append, hl]; omega), by rw [List.length_append]; omega, by rw [List.length_append]; omega⟩
    unfold fs_ros
    rw [hcr, V_app]
    show (fs_V W ++ fs_V W2, q1, q2) = (fs_V W ++ _, q1, q2)
    rw [← k3]
    rfl
  | false =>
    rw [hcr] at w1
    obtain ⟨e2, -, -, -, ⟨e3, -⟩, e4, -⟩ := cf_rd hX w2
    have er := own_at w2 (List.mem_append_right _ hR)
    have eb := own_at w2 (List.mem_append_right _ hB)
    by_cases h0 : R.2.2.2 0 = 0
    · obtain ⟨F1, o3, bk⟩ := cf_g1 hX w2
      have o4 := own_up (e1 := fs_lgo (a1, b1, H1, upd q1 2 (q1 2 + 1))) o3
      obtain ⟨h5, hX5, o5⟩ := bk (a1, b1, H1, upd q1 2 (q1 2 + 1)) _ rfl o4
      refine ⟨_, h5, W, upd q1 2 (q1 2 + 1), q2, r_cv e <| r_b w1 <| r_p rfl <| r_b (p_Report_exporter er eb) <| r_b (p_Collector_ledgerOf e2 _) ?_, hX5, ?_, o5, st_le (st_tr w3 (st_su _ _ _)) (by omega) (by omega), Nat.le_refl _, by omega⟩
      · rw [show (if R.2.2.2 0 = 0 then a1 else a2) = a1 from if_pos h0]
        exact r_b (x_gi e3 2 rfl) <| r_b (x_pi e3 2 _ (Nat.le_of_ble_eq_true rfl)) rfl
      · unfold fs_ros
        rw [hcr, if_pos h0]
        rfl
    · obtain ⟨F1, o3, bk⟩ := cf_g2 hX w2
      have o4 := own_up (e1 := fs_lgo (a2, b2, H2, upd q2 2 (q2 2 + 1))) o3
      obtain ⟨h5, hX5, o5⟩ := bk (a2, b2, H2, upd q2 2 (q2 2 + 1)) _ rfl o4
      refine ⟨_, h5, W, q1, upd q2 2 (q2 2 + 1), r_cv e <| r_b w1 <| r_p rfl <| r_b (p_Report_exporter er eb) <| r_b (p_Collector_ledgerOf e2 _) ?_, hX5, ?_, o5, st_le (st_tr w3 (st_su _ _ _)) (by omega) (by omega), Nat.le_refl _, by omega⟩
      · rw [show (if R.2.2.2 0 = 0 then a1 else a2) = a2 from if_neg h0]
        exact r_b (x_gi e4 2 rfl) <| r_b (x_pi e4 2 _ (Nat.le_of_ble_eq_true rfl)) rfl
      · unfold fs_ros
        rw [hcr, if_neg h0]
        rfl
def fs_rsh (g : Nat → Int32) (nf : Nat) : List fs_Rp → fs_Hs → fs_Hs
  | [], s => s
  | R :: l, s => fs_rsh g nf l (if fs_sb R.2.2.2 g = true then fs_ros g nf R.2.2.1 R.2.2.2 s else s)
def fs_rwn (g : Nat → Int32) : List fs_Rp → Nat
  | [] => 0
  | R :: l => (if fs_sb R.2.2.2 g = true then fs_nR R.2.2.2 else 0) + fs_rwn g l
theorem rw_ofNat (g : Nat → Int32) : ∀ (l : List fs_Rp) (t : Nat), (∀ R ∈ l, fs_RG R) → fs_rw g l (Int32.ofNat t) = Int32.ofNat (t + fs_rwn g l)
  | [], _, _ => rfl
  | R :: l, t, h => by
    have hG := h R List.mem_cons_self
    have es : fs_rw g (R :: l) (Int32.ofNat t) = fs_rw g l (if fs_sb R.2.2.2 g = true then Int32.ofNat t + R.2.2.2 5 else Int32.ofNat t) := rfl
    have er : fs_rwn g (R :: l) = (if fs_sb R.2.2.2 g = true then fs_nR R.2.2.2 else 0) + fs_rwn g l := rfl
    rw [es, er]
    by_cases hb : fs_sb R.2.2.2 g = true
    · rw [if_pos hb, if_pos hb, hG.2.1, ← Int32.ofNat_add, rw_ofNat g l _ (fun R hR => h R (List.mem_cons_of_mem _ hR)), Nat.add_assoc]
    · rw [if_neg hb, if_neg hb, rw_ofNat g l _ (fun R hR => h R (List.mem_cons_of_mem _ hR)), Nat.zero_add]
def fs_kept (g : Nat → Int32) (l : List fs_Rp) : List fs_Rp := l.filter fun R => !fs_sb R.2.2.2 g
set_option maxRecDepth 100000 in
theorem rsh_loop {T : fs_Rp} {c1 nf a1 b1 a2 b2 n w0 : Nat} {H1 H2 : Nat → Int32} {A : Nat → Nat} {K : List fs_Rp} {Q : fs_Tq} {F : List fs_C} (hT : (T.1, fs_ro T) ∈ F) (hD : (T.2.1, fs_ia 64 T.2.2.2) ∈ F) (hg : fs_TG T.2.2.2 nf) (hn : n < 1000) : ∀ (l : List fs_Rp) (fuel i : Nat) (Kp : List fs_Rp) (W : List fs_Rw) (q1 q2 : Nat → Int32) (h : List fs_C) (σ : fs_S), fs_CF c1 A K (Kp ++ l) Q W (a1, b1, H1, q1) (a2, b2, H2, q2) h → fs_own (h ++ F) σ → i + l.length = n → l.length < fuel → (∀ R ∈ l, fs_RG R) → W.length + fs_rwn T.2.2.2 l ≤ 80 → Kp.length + l.length < 1000 → σ.2.2.1 1 = c1 → (∃ q, σ.2.1 c1 = some (fs_oa 3 0 q)) →
    ∃ σ1 h1 W1 p1 p2, (fs_lp2 fuel (lb_Collector_readShelf_25 (A 0) T.1 (Int32.ofNat n) (Int32.ofNat w0)) (Int32.ofNat Kp.length) (Int32.ofNat i)).1 σ = some (Int32.ofNat W1.length - Int32.ofNat w0, σ1) ∧ fs_CF c1 A K (Kp ++ fs_kept T.2.2.2 l) Q W1 (a1, b1, H1, p1) (a2, b2, H2, p2) h1 ∧ (fs_V W1, p1, p2) = fs_rsh T.2.2.2 nf l (fs_V W, q1, q2) ∧ fs_own (h1 ++ F) σ1 ∧ fs_st σ σ1 (2 * l.length + 3 * (W1.length - W.length)) (6 * l.length + (fs_pot W1.length - fs_pot W.length)) ∧ W.length ≤ W1.length ∧ W1.length ≤ W.length + fs_rwn T.2.2.2 l
  | [], fuel + 1, i, Kp, W, q1, q2, h, σ, hX, ho, hi, _, _, _, _, _, _ => by
    obtain ⟨e, -, -, ⟨et, hW⟩, -⟩ := cf_rd hX ho
    refine ⟨σ, h, W, q1, q2, r_lp2 <| r_p ((Int32.ofNat_le_ofNat (by omega) (by simp at hi; omega)).mpr (by simp at hi; omega)) <| r_b (x_gr e 2 rfl) <| r_b (x_gr et 0 rfl) <| r_b hW.1.1 ?_, hX, rfl, ho, st_le (st_rf σ) (Nat.zero_le _) (Nat.zero_le _), Nat.le_refl _, Nat.le_add_right _ _⟩
    rw [List.length_map]
    rfl
  | R :: l, fuel + 1, i, Kp, W, q1, q2, h, σ, hX, ho, hi, hf, hRG, hW80, hKl, hc1, hk1 => by
    obtain ⟨e, -, hS, -, -⟩ := cf_rd hX ho
    rw [List.length_cons] at hi hf hKl
    have hne : ¬ Int32.ofNat n ≤ Int32.ofNat i := fun z => by
      have := (Int32.ofNat_le_ofNat (by omega) (by omega)).mp z
      omega
    obtain ⟨R', hR', hm, g1, g2, g3⟩ := rr_at (r := Kp.length) hS (by rw [List.length_append, List.length_cons]; omega)
    have hq : (Kp ++ R :: l)[Kp.length]? = some R := at_mid Kp R l
    obtain rfl : R = R' := by
      rw [hq] at hR'
      exact Option.some.inj hR'
    have d := own_at ho (List.mem_append_right _ hT)
    have db := own_at ho (List.mem_append_right _ hD)
    have es : fs_rsh T.2.2.2 nf (R :: l) (fs_V W, q1, q2) = fs_rsh T.2.2.2 nf l (if fs_sb R.2.2.2 T.2.2.2 = true then fs_ros T.2.2.2 nf R.2.2.1 R.2.2.2 (fs_V W, q1, q2) else (fs_V W, q1, q2)) := rfl
    have er : fs_rwn T.2.2.2 (R :: l) = (if fs_sb R.2.2.2 T.2.2.2 = true then fs_nR R.2.2.2 else 0) + fs_rwn T.2.2.2 l := rfl
    cases hb : fs_sb R.2.2.2 T.2.2.2 with
    | false =>
      rw [hb] at es er
      have er2 : fs_rwn T.2.2.2 (R :: l) = fs_rwn T.2.2.2 l := by rw [er]; exact Nat.zero_add _
      have ek : Kp ++ fs_kept T.2.2.2 (R :: l) = (Kp ++ [R]) ++ fs_kept T.2.2.2 l := by
        unfold fs_kept
        rw [List.filter_cons_of_pos (by rw [hb]; rfl), List.append_assoc]
        rfl
      rw [es, ek, er2]
      rw [er2] at hW80
      obtain ⟨σ1, h1, W1, p1, p2, k1, k2, k3, k4, k5, k6⟩ := rsh_loop hT hD hg hn l fuel (i + 1) (Kp ++ [R]) W q1 q2 h σ (by rw [List.append_assoc]; exact hX) ho (by omega) (by omega) (fun R hR => hRG R (List.mem_cons_of_mem _ hR)) hW80 (by rw [List.length_append]; simp; omega) hc1 hk1
      refine ⟨σ1, h1, W1, p1, p2, r_lp2 <| r_n hne <| r_b (x_gr e 1 rfl) <| r_b g1 <| r_b (x_ck g2) <| r_b (p_namesSame g2 g3 d db) <| r_l <| r_p (by rw [hb]; rfl) <| r_m <| r_m ?_, k2, k3, k4, st_le k5 (by rw [List.length_cons]; omega) (by rw [List.length_cons]; omega), k6⟩
      rw [ofNat_add1, ofNat_add1]
      rw [List.length_append] at k1
      exact k1
    | true =>
      rw [hb] at es er
      have er2 : fs_rwn T.2.2.2 (R :: l) = fs_nR R.2.2.2 + fs_rwn T.2.2.2 l := er
      have ek : fs_kept T.2.2.2 (R :: l) = fs_kept T.2.2.2 l := by
        unfold fs_kept
        rw [List.filter_cons_of_neg (by rw [hb]; decide)]
      rw [es, ek, er2]
      rw [er2] at hW80
      have hRR := hRG R List.mem_cons_self
      obtain ⟨σ0, h0, a1', a2', a3', a4'⟩ := cf_unshelf hX ho hq
      rw [erase_mid] at a2'
      have g2' := own_at a3' (List.mem_append_right _ (List.mem_append_left _ List.mem_cons_self))
      obtain ⟨σ2, h2, W2, p1, p2, b1', b2', b3', b4', b5', b6', b7'⟩ := p_Collector_readOrSpoil (F := fs_rc R ++ F) a2' a3' (List.mem_append_left _ List.mem_cons_self) (List.mem_append_left _ (List.mem_cons_of_mem _ List.mem_cons_self)) hRR (List.mem_append_right _ hT) (List.mem_append_right _ hD) hg (by omega) (by rw [a4'.2.1]; exact hc1) (by rw [a4'.1]; exact hk1)
      have s2 := st_tr a4' b5'
      obtain ⟨σ1, h1, W1, r1, r2, k1, k2, k3, k4, k5, k6, k7⟩ := rsh_loop (w0 := w0) hT hD hg hn l fuel (i + 1) Kp W2 p1 p2 h2 σ2 b2' (own_drop (own_sw b4')) (by omega) (by omega) (fun R hR => hRG R (List.mem_cons_of_mem _ hR)) (by omega) (by omega) (by rw [s2.2.1]; exact hc1) (by rw [s2.1]; exact hk1)
      refine ⟨σ1, h1, W1, r1, r2, r_lp2 <| r_n hne <| r_b (x_gr e 1 rfl) <| r_b g1 <| r_b (x_ck g2) <| r_b (p_namesSame g2 g3 d db) <| r_l <| r_n (by rw [hb]; decide) <| r_b (x_gr e 1 rfl) <| r_b a1' <| r_b (x_ck g2') <| r_b b1' <| r_m ?_, k2, ?_, k4, ?_, by omega, by omega⟩
      · rw [ofNat_add1]
        exact k1
      · rw [k3, b3']
        rfl
      · refine st_le (st_tr s2 k5) (by rw [List.length_cons]; omega) ?_
        rw [List.length_cons]
        have p2 : fs_pot W.length ≤ fs_pot W2.length := pot_m b6'
        have p3 : fs_pot W2.length ≤ fs_pot W1.length := pot_m k6
        omega
  | _, 0, _, _, _, _, _, _, _, _, _, _, h, _, _, _, _, _ => absurd h (Nat.not_lt_zero _)
