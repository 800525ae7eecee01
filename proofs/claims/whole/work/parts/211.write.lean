/-! writing records -/
def fs_vo (v : Nat → Int32) (x : Int32) : Int32 := if x = 0 then v 0 else if x = 1 then v 1 else if x = 2 then v 2 else if x = 3 then v 4 else if x = 4 then v 5 else if x = 5 then v 3 else if x = 6 then v 7 else v 8
theorem p_Flow_valueOf {σ : fs_S} {a : Nat} {v : Nat → Int32} (h : σ.1 a = some (fs_fl v)) (x : Int32) : (fs_cv a 8 (f_Flow_valueOf a x)).1 σ = some (fs_vo v x, σ) := by
  refine r_cv h ?_
  unfold f_Flow_valueOf fs_vo
  by_cases h0 : x = 0
  · rw [if_pos h0, if_pos h0]; exact r_b (x_gi h 0 rfl) rfl
  rw [if_neg h0, if_neg h0]
  by_cases h0 : x = 1
  · rw [if_pos h0, if_pos h0]; exact r_b (x_gi h 1 rfl) rfl
  rw [if_neg h0, if_neg h0]
  by_cases h0 : x = 2
  · rw [if_pos h0, if_pos h0]; exact r_b (x_gi h 2 rfl) rfl
  rw [if_neg h0, if_neg h0]
  by_cases h0 : x = 3
  · rw [if_pos h0, if_pos h0]; exact r_b (x_gi h 4 rfl) rfl
  rw [if_neg h0, if_neg h0]
  by_cases h0 : x = 4
  · rw [if_pos h0, if_pos h0]; exact r_b (x_gi h 5 rfl) rfl
  rw [if_neg h0, if_neg h0]
  by_cases h0 : x = 5
  · rw [if_pos h0, if_pos h0]; exact r_b (x_gi h 3 rfl) rfl
  rw [if_neg h0, if_neg h0]
  by_cases h0 : x = 6
  · rw [if_pos h0, if_pos h0]; exact r_b (x_gi h 7 rfl) rfl
  rw [if_neg h0, if_neg h0]
  exact r_b (x_gi h 8 rfl) rfl
def fs_fb (x : Int32) : Nat := if fs_ushr x 8 = 0 then 1 else if fs_ushr (fs_ushr x 8) 8 = 0 then 2 else if fs_ushr (fs_ushr (fs_ushr x 8) 8) 8 = 0 then 3 else 4
theorem fb_le (x : Int32) : 1 ≤ fs_fb x ∧ fs_fb x ≤ 4 := by
  unfold fs_fb
  split
  · omega
  · split
    · omega
    · split <;> omega
theorem p_fewestBytes {σ : fs_S} (x : Int32) : (f_Layout_fewestBytes x).1 σ = some (Int32.ofNat (fs_fb x), σ) := by
  unfold f_Layout_fewestBytes fs_fb
  refine r_m (r_lp2 (n := 4095) (r_l ?_))
  by_cases h0 : fs_ushr x 8 = 0
  · rw [if_pos h0, if_pos h0]; rfl
  rw [if_neg h0, if_neg h0]
  refine r_n (by decide) (r_m (r_m (r_lp2 (n := 4094) (r_l ?_))))
  by_cases h0 : fs_ushr (fs_ushr x 8) 8 = 0
  · rw [if_pos h0, if_pos h0]; rfl
  rw [if_neg h0, if_neg h0]
  refine r_n (by decide) (r_m (r_m (r_lp2 (n := 4093) (r_l ?_))))
  by_cases h0 : fs_ushr (fs_ushr (fs_ushr x 8) 8) 8 = 0
  · rw [if_pos h0, if_pos h0]; rfl
  rw [if_neg h0, if_neg h0]
  refine r_n (by decide) (r_m (r_m (r_lp2 (n := 4092) (r_l ?_))))
  by_cases h0 : fs_ushr (fs_ushr (fs_ushr (fs_ushr x 8) 8) 8) 8 = 0
  · exact r_p h0 rfl
  · exact r_n h0 (r_p (by decide) rfl)
/-- the layout's cells and the flow's, somewhere -/
def fs_lf (L : fs_Ly) (F : List fs_C) : Prop := (L.1, fs_lo L) ∈ F ∧ (L.2.1, fs_ia 8 L.2.2.2.2.1) ∈ F ∧ (L.2.2.1, fs_ia 8 L.2.2.2.2.2) ∈ F
def fs_wd (f g v : Nat → Int32) (i : Nat) : Int32 := if g i = 0 then 1 + Int32.ofNat (fs_fb (fs_vo v (f i))) else g i
def fs_bf (f g v : Nat → Int32) : Nat → Nat → Int32 → Int32
  | _, 0, t => t
  | i, m + 1, t => fs_bf f g v (i + 1) m (t + fs_wd f g v i)
theorem bf_loop {L : fs_Ly} {a : Nat} {v : Nat → Int32} {σ : fs_S} (e : σ.1 L.1 = some (fs_lo L)) (ef : σ.1 L.2.1 = some (fs_ia 8 L.2.2.2.2.1)) (eg : σ.1 L.2.2.1 = some (fs_ia 8 L.2.2.2.2.2)) (ev : σ.1 a = some (fs_fl v)) (hu : L.2.2.2.1 ≤ 8) : ∀ (m fuel i : Nat) (t : Int32), i + m = L.2.2.2.1 → m < fuel →
    (fs_lp2 fuel (fun k4 (v1 : Int32) (v2 : Int32) =>
    fs_bind (fs_gi L.1 4 2) fun v3 =>
    if v3 ≤ v2 then (
      fs_ret v1) else
    fs_bind (fs_gr L.1 4 1) fun r4 =>
    fs_bind (fs_ai r4 v2) fun v5 =>
    fs_let (fun (v12 : Int32) =>
      fs_nm ((v1 + v12) : Int32) fun v13 =>
      fs_nm ((v2 + 1) : Int32) fun v14 =>
      k4 v13 v14) fun j46 =>
    if v5 = 0 then (
      fs_bind (fs_gr L.1 4 0) fun r8 =>
      fs_bind (fs_ai r8 v2) fun v9 =>
      fs_bind (fs_cv a 8 (f_Flow_valueOf a v9)) fun v10 =>
      fs_bind (f_Layout_fewestBytes v10) fun v11 =>
      j46 (1 + v11)) else
    fs_bind (fs_gr L.1 4 1) fun r6 =>
    fs_bind (fs_ai r6 v2) fun v7 =>
    j46 v7) t (Int32.ofNat i)).1 σ = some (fs_bf L.2.2.2.2.1 L.2.2.2.2.2 v i m t, σ)
  | 0, fuel + 1, i, t, h, _ => r_lp2 (r_b (x_gi e 2 rfl) (r_p ((Int32.ofNat_le_ofNat (by omega) (by omega)).mpr (by omega)) rfl))
  | m + 1, fuel + 1, i, t, h, hf => by
    have hne : ¬ Int32.ofNat L.2.2.2.1 ≤ Int32.ofNat i := fun z => by
      have := (Int32.ofNat_le_ofNat (by omega) (by omega)).mp z
      omega
    have hi : i < 8 := by omega
    have es : fs_bf L.2.2.2.2.1 L.2.2.2.2.2 v i (m + 1) t = fs_bf L.2.2.2.2.1 L.2.2.2.2.2 v (i + 1) m (t + fs_wd L.2.2.2.2.1 L.2.2.2.2.2 v i) := rfl
    have ih := bf_loop e ef eg ev hu m fuel (i + 1) (t + fs_wd L.2.2.2.2.1 L.2.2.2.2.2 v i) (by omega) (by omega)
    rw [es]
    refine r_lp2 (r_b (x_gi e 2 rfl) (r_n hne (r_b (x_gr e 1 rfl) (r_b (x_ai (x_lk eg) rfl hi (by omega)) (r_l ?_)))))
    by_cases h0 : L.2.2.2.2.2 i = 0
    · have ew : fs_wd L.2.2.2.2.1 L.2.2.2.2.2 v i = 1 + Int32.ofNat (fs_fb (fs_vo v (L.2.2.2.2.1 i))) := if_pos h0
      refine r_p h0 (r_b (x_gr e 0 rfl) (r_b (x_ai (x_lk ef) rfl hi (by omega)) (r_b (p_Flow_valueOf ev _) (r_b (p_fewestBytes _) (r_m (r_m ?_))))))
      rw [ofNat_add1, ← ew]
      exact ih
    · have ew : fs_wd L.2.2.2.2.1 L.2.2.2.2.2 v i = L.2.2.2.2.2 i := if_neg h0
      refine r_n h0 (r_b (x_gr e 1 rfl) (r_b (x_ai (x_lk eg) rfl hi (by omega)) (r_m (r_m ?_))))
      rw [ofNat_add1]
      rw [ew] at ih
      rw [ew]
      exact ih
  | _, 0, _, _, _, h => absurd h (Nat.not_lt_zero _)
theorem p_Layout_bytesFor {L : fs_Ly} {a : Nat} {v : Nat → Int32} {σ : fs_S} (e : σ.1 L.1 = some (fs_lo L)) (ef : σ.1 L.2.1 = some (fs_ia 8 L.2.2.2.2.1)) (eg : σ.1 L.2.2.1 = some (fs_ia 8 L.2.2.2.2.2)) (ev : σ.1 a = some (fs_fl v)) (hu : L.2.2.2.1 ≤ 8) : (fs_cv L.1 4 (f_Layout_bytesFor L.1 a)).1 σ = some (fs_bf L.2.2.2.2.1 L.2.2.2.2.2 v 0 L.2.2.2.1 0, σ) :=
  r_cv e (bf_loop e ef eg ev hu L.2.2.2.1 4096 0 0 (by omega) (by omega))
def fs_wf (R : fs_Rp) (x g : Int32) : fs_Rp := if g = 0 then fs_an x (fs_ra R (Int32.ofNat (fs_fb x))) (fs_fb x) else fs_an x R g.toNatClampNeg
theorem wf_1 (R : fs_Rp) (x g : Int32) : (fs_wf R x g).1 = R.1 ∧ (R.2.2.1 ≤ 64 → (fs_wf R x g).2.2.1 ≤ 64) := by
  unfold fs_wf
  split
  · exact ⟨(an_1 x _ _).1.trans (ra_1 R _).1, fun h => (an_1 x _ _).2 ((ra_1 R _).2 h)⟩
  · exact an_1 x _ R
def fs_lw (f g v : Nat → Int32) : fs_Rp → Nat → Nat → fs_Rp
  | R, _, 0 => R
  | R, i, m + 1 => fs_lw f g v (fs_wf R (fs_vo v (f i)) (g i)) (i + 1) m
theorem lw_1 (f g v : Nat → Int32) : ∀ (m i : Nat) (R : fs_Rp), (fs_lw f g v R i m).1 = R.1 ∧ (R.2.2.1 ≤ 64 → (fs_lw f g v R i m).2.2.1 ≤ 64)
  | 0, _, _ => ⟨rfl, id⟩
  | m + 1, i, R => ⟨(lw_1 f g v m _ _).1.trans (wf_1 R _ _).1, fun h => (lw_1 f g v m _ _).2 ((wf_1 R _ _).2 h)⟩
theorem lw_loop {L : fs_Ly} {a b : Nat} {v : Nat → Int32} {F : List fs_C} (hL : fs_lf L F) (hv : (a, fs_fl v) ∈ F) (hu : L.2.2.2.1 ≤ 8) (hg : ∀ i, i < L.2.2.2.1 → L.2.2.2.2.2 i = Int32.ofNat (L.2.2.2.2.2 i).toNatClampNeg ∧ (L.2.2.2.2.2 i).toNatClampNeg ≤ 4) : ∀ (m fuel i : Nat) (R : fs_Rp) (σ : fs_S), R.1 = b → fs_own (fs_rc R ++ F) σ → R.2.2.1 ≤ 64 → i + m = L.2.2.2.1 → m < fuel →
    ∃ σ1, (fs_lp1 fuel (fun k2 (v1 : Int32) =>
    fs_bind (fs_gi L.1 4 2) fun v2 =>
    if v2 ≤ v1 then (
      fs_ret ()) else
    fs_bind (fs_gr L.1 4 0) fun r3 =>
    fs_bind (fs_ai r3 v1) fun v4 =>
    fs_bind (fs_cv a 8 (f_Flow_valueOf a v4)) fun v5 =>
    fs_bind (fs_gr L.1 4 1) fun r6 =>
    fs_bind (fs_ai r6 v1) fun v7 =>
    fs_let (fun (v9 : Int32) =>
      fs_bind (fs_cv b 9 (f_Report_appendNumber b v5 v9)) fun _ =>
      fs_nm ((v1 + 1) : Int32) fun v10 =>
      k2 v10) fun j48 =>
    if v7 = 0 then (
      fs_bind (f_Layout_fewestBytes v5) fun v8 =>
      fs_bind (fs_cv b 9 (f_Report_append b v8)) fun _ =>
      j48 v8) else
    j48 v7) (Int32.ofNat i)).1 σ = some ((), σ1) ∧ fs_own (fs_rc (fs_lw L.2.2.2.2.1 L.2.2.2.2.2 v R i m) ++ F) σ1 ∧ fs_st σ σ1 0 0
  | 0, fuel + 1, i, R, σ, hb, ho, hR, h, _ => by
    have e := own_at ho (List.mem_append_right _ hL.1)
    exact ⟨σ, r_lp1 (r_b (x_gi e 2 rfl) (r_p ((Int32.ofNat_le_ofNat (by omega) (by omega)).mpr (by omega)) rfl)), ho, st_rf σ⟩
  | m + 1, fuel + 1, i, R, σ, hb, ho, hR, h, hf => by
    subst hb
    have e := own_at ho (List.mem_append_right _ hL.1)
    have ef := own_at ho (List.mem_append_right _ hL.2.1)
    have eg := own_at ho (List.mem_append_right _ hL.2.2)
    have ev := own_at ho (List.mem_append_right _ hv)
    have hne : ¬ Int32.ofNat L.2.2.2.1 ≤ Int32.ofNat i := fun z => by
      have := (Int32.ofNat_le_ofNat (by omega) (by omega)).mp z
      omega
    have hi : i < 8 := by omega
    by_cases h0 : L.2.2.2.2.2 i = 0
    · have ew : fs_wf R (fs_vo v (L.2.2.2.2.1 i)) (L.2.2.2.2.2 i) = fs_an (fs_vo v (L.2.2.2.2.1 i)) (fs_ra R (Int32.ofNat (fs_fb (fs_vo v (L.2.2.2.2.1 i))))) (fs_fb (fs_vo v (L.2.2.2.2.1 i))) := if_pos h0
      obtain ⟨σ1, w1, w2, w3⟩ := p_Report_append ho hR (Int32.ofNat (fs_fb (fs_vo v (L.2.2.2.2.1 i))))
      have hb := fb_le (fs_vo v (L.2.2.2.2.1 i))
      obtain ⟨σ2, k1, k2, k3⟩ := p_Report_appendNumber w2 ((ra_1 R _).2 hR) (fs_vo v (L.2.2.2.2.1 i)) (n := fs_fb (fs_vo v (L.2.2.2.2.1 i))) (by omega)
      rw [(ra_1 R _).1] at k1
      rw [← ew] at k2
      obtain ⟨σ3, g1, g2, g3⟩ := lw_loop hL hv hu hg m fuel (i + 1) _ σ2 (wf_1 R _ _).1 k2 ((wf_1 R _ _).2 hR) (by omega) (by omega)
      refine ⟨σ3, r_lp1 (r_b (x_gi e 2 rfl) (r_n hne (r_b (x_gr e 0 rfl) (r_b (x_ai (x_lk ef) rfl hi (by omega)) (r_b (p_Flow_valueOf ev _) (r_b (x_gr e 1 rfl) (r_b (x_ai (x_lk eg) rfl hi (by omega)) (r_l (r_p h0 (r_b (p_fewestBytes _) (r_b w1 (r_b k1 (r_m ?_))))))))))))), g2, st_le (st_tr (st_tr w3 k3) g3) (by omega) (by omega)⟩
      rw [ofNat_add1]
      exact g1
    · have ew : fs_wf R (fs_vo v (L.2.2.2.2.1 i)) (L.2.2.2.2.2 i) = fs_an (fs_vo v (L.2.2.2.2.1 i)) R (L.2.2.2.2.2 i).toNatClampNeg := if_neg h0
      obtain ⟨hg1, hg2⟩ := hg i (by omega)
      obtain ⟨σ2, k1, k2, k3⟩ := p_Report_appendNumber ho hR (fs_vo v (L.2.2.2.2.1 i)) (n := (L.2.2.2.2.2 i).toNatClampNeg) (by omega)
      rw [← hg1] at k1
      rw [← ew] at k2
      obtain ⟨σ3, g1, g2, g3⟩ := lw_loop hL hv hu hg m fuel (i + 1) _ σ2 (wf_1 R _ _).1 k2 ((wf_1 R _ _).2 hR) (by omega) (by omega)
      refine ⟨σ3, r_lp1 (r_b (x_gi e 2 rfl) (r_n hne (r_b (x_gr e 0 rfl) (r_b (x_ai (x_lk ef) rfl hi (by omega)) (r_b (p_Flow_valueOf ev _) (r_b (x_gr e 1 rfl) (r_b (x_ai (x_lk eg) rfl hi (by omega)) (r_l (r_n h0 (r_b k1 (r_m ?_))))))))))), g2, st_le (st_tr k3 g3) (by omega) (by omega)⟩
      rw [ofNat_add1]
      exact g1
  | _, 0, _, _, _, _, _, _, _, h => absurd h (Nat.not_lt_zero _)
theorem p_Layout_write {L : fs_Ly} {R : fs_Rp} {a : Nat} {v : Nat → Int32} {F : List fs_C} {σ : fs_S} (hL : fs_lf L F) (hv : (a, fs_fl v) ∈ F) (hu : L.2.2.2.1 ≤ 8) (hg : ∀ i, i < L.2.2.2.1 → L.2.2.2.2.2 i = Int32.ofNat (L.2.2.2.2.2 i).toNatClampNeg ∧ (L.2.2.2.2.2 i).toNatClampNeg ≤ 4) (ho : fs_own (fs_rc R ++ F) σ) (hR : R.2.2.1 ≤ 64) :
    ∃ σ1, (fs_cv L.1 4 (f_Layout_write L.1 a R.1)).1 σ = some ((), σ1) ∧ fs_own (fs_rc (fs_lw L.2.2.2.2.1 L.2.2.2.2.2 v R 0 L.2.2.2.1) ++ F) σ1 ∧ fs_st σ σ1 0 0 := by
  have e := own_at ho (List.mem_append_right _ hL.1)
  obtain ⟨σ1, k1, k2, k3⟩ := lw_loop hL hv hu hg L.2.2.2.1 4096 0 R σ rfl ho hR (by omega) (by omega)
  exact ⟨σ1, r_cv e k1, k2, k3⟩
