/-! reading an exporter's lists -/
def fs_RL (al : Nat) (C : fs_Fs) (σ : fs_S) : Prop := (fs_cv al 2 (f_ArrayList_size al)).1 σ = some (Int32.ofNat C.length, σ) ∧ ∀ (j a : Nat) (v : Nat → Int32) (i : Int32), i = Int32.ofNat j → C[j]? = some (a, v) → (fs_cv al 2 (f_ArrayList_get al i)).1 σ = some (a, σ) ∧ σ.1 a = some (fs_fl v)
theorem ef_rd {c1 ea ca en sl : Nat} {s : Nat → Int32} {C E : fs_Fs} {h F : List fs_C} {σ : fs_S} (hX : fs_EF c1 ea ca en sl s C E h) (ho : fs_own (h ++ F) σ) : σ.1 ea = some (fs_xc s ca en sl) ∧ fs_RL ca C σ ∧ fs_RL en E σ := by
  obtain ⟨hc9, he9, rfl, hA, hB⟩ := hX
  rw [flat5] at ho
  have o1 := own_ix _ [1, 0, 2, 3, 4, 5] rfl (by decide) ho
  have o2 := own_ix _ [2, 0, 1, 3, 4, 5] rfl (by decide) ho
  refine ⟨own_c ho 0 rfl List.mem_cons_self, ⟨?_, fun j a v i hi hv => ⟨p_AL_get hA o1 hi (map_at hv), own_c ho 3 rfl (fc_at hv)⟩⟩, ?_, fun j a v i hi hv => ⟨p_AL_get hB o2 hi (map_at hv), own_c ho 4 rfl (fc_at hv)⟩⟩
  · have := p_AL_size hA o1
    rw [List.length_map] at this
    exact this
  · have := p_AL_size hB o2
    rw [List.length_map] at this
    exact this
theorem p_Exporter_flowsHeld {ea ca en sl : Nat} {s : Nat → Int32} {C E : fs_Fs} {σ : fs_S} (e : σ.1 ea = some (fs_xc s ca en sl)) (hC : fs_RL ca C σ) (hE : fs_RL en E σ) : (fs_cv ea 1 (f_Exporter_flowsHeld ea)).1 σ = some (Int32.ofNat (C.length + E.length), σ) := by
  rw [Int32.ofNat_add]
  exact r_cv e (r_b (x_gr e 1 rfl) (r_b hC.1 (r_b (x_gr e 2 rfl) (r_b hE.1 rfl))))
/-- the place of the flow with the key -/
def fs_pl (x y w : Int32) : fs_Fs → Nat → Int32
  | [], _ => -1
  | q :: l, i => if q.2 0 = x ∧ q.2 1 = y ∧ q.2 2 = w then Int32.ofNat i else fs_pl x y w l (i + 1)
theorem pl_loop {ea ca en sl : Nat} {s : Nat → Int32} {C : fs_Fs} {σ : fs_S} {x y w : Int32} (e : σ.1 ea = some (fs_xc s ca en sl)) (hC : fs_RL ca C σ) (hl : C.length < 1000) : ∀ (l : fs_Fs) (fuel i : Nat), C.drop i = l → i ≤ C.length → l.length < fuel →
    (fs_lp1 fuel (fun k3 (v1 : Int32) =>
    fs_bind (fs_gr ea 1 1) fun r2 =>
    fs_bind (fs_cv r2 2 (f_ArrayList_size r2)) fun v3 =>
    if v3 ≤ v1 then (
      fs_ret (-1)) else
    fs_bind (fs_gr ea 1 1) fun r4 =>
    fs_bind (fs_cv r4 2 (f_ArrayList_get r4 v1)) fun r5 =>
    fs_bind (fs_ck r5 8) fun _ =>
    fs_bind (fs_cv r5 8 (f_Flow_hasKey r5 x y w)) fun v6 =>
    if v6 = 0 then (
      fs_nm ((v1 + 1) : Int32) fun v7 =>
      k3 v7) else
    fs_ret v1) (Int32.ofNat i)).1 σ = some (fs_pl x y w l i, σ)
  | [], fuel + 1, i, h1, h2, _ => by
    have : C.length ≤ i := List.drop_eq_nil_iff.mp h1
    exact r_lp1 (r_b (x_gr e 1 rfl) (r_b hC.1 (r_p ((Int32.ofNat_le_ofNat (by omega) (by omega)).mpr this) rfl)))
  | q :: l, fuel + 1, i, h1, h2, h3 => by
    have hi : i < C.length := by
      have := congrArg List.length h1
      rw [List.length_drop, List.length_cons] at this
      omega
    have hq : C[i]? = some (q.1, q.2) := by
      have := congrArg (fun z : fs_Fs => z[0]?) h1
      simpa using this
    have hd : C.drop (i + 1) = l := by
      have := congrArg List.tail h1
      simpa using this
    obtain ⟨g1, g2⟩ := hC.2 i q.1 q.2 _ rfl hq
    refine r_lp1 (r_b (x_gr e 1 rfl) (r_b hC.1 (r_n (fun z => ?_) (r_b (x_gr e 1 rfl) (r_b g1 (r_b (x_ck g2) (r_b (r_cv g2 (p_Flow_hasKey g2 x y w)) ?_)))))))
    · have := (Int32.ofNat_le_ofNat (by omega) (by omega)).mp z
      omega
    · have hs : fs_pl x y w (q :: l) i = if q.2 0 = x ∧ q.2 1 = y ∧ q.2 2 = w then Int32.ofNat i else fs_pl x y w l (i + 1) := rfl
      rw [hs]
      by_cases hk : q.2 0 = x ∧ q.2 1 = y ∧ q.2 2 = w
      · rw [if_pos hk, if_pos hk]
        exact r_n (by decide) rfl
      · rw [if_neg hk, if_neg hk]
        refine r_p rfl (r_m ?_)
        rw [ofNat_add1]
        exact pl_loop e hC hl l fuel (i + 1) hd (by omega) (by simp at h3; omega)
  | _, 0, _, _, _, h => absurd h (Nat.not_lt_zero _)
theorem p_Exporter_placeInCache {ea ca en sl : Nat} {s : Nat → Int32} {C : fs_Fs} {σ : fs_S} (e : σ.1 ea = some (fs_xc s ca en sl)) (hC : fs_RL ca C σ) (hl : C.length < 1000) (x y w : Int32) : (fs_cv ea 1 (f_Exporter_placeInCache ea x y w)).1 σ = some (fs_pl x y w C 0, σ) :=
  r_cv e (pl_loop e hC hl C 4096 0 rfl (Nat.zero_le _) (by omega))
theorem p_Exporter_samplesNext {ea ca en sl : Nat} {s : Nat → Int32} {σ : fs_S} (e : σ.1 ea = some (fs_xc s ca en sl)) : (fs_cv ea 1 (f_Exporter_samplesNext ea)).1 σ = some (if s 7 = 0 then 1 else 0, fs_su σ ea (fs_xc (upd s 7 (if s 7 + 1 < s 6 then s 7 + 1 else 0)) ca en sl)) := by
  refine r_cv e (r_b (x_gi e 7 rfl) (r_l ?_))
  have key : ∀ z : Int32, z = 0 ∨ z = 1 → (fs_bind (fs_gi ea 1 7) fun v3 => fs_bind (fs_gi ea 1 6) fun v4 => fs_let (fun (v6 : Int32) => fs_bind (fs_pi ea 1 7 v6) fun _ => fs_rz z) fun j37 => if (v3 + 1) < v4 then (fs_bind (fs_gi ea 1 7) fun v5 => j37 (v5 + 1)) else j37 0).1 σ = some (z, fs_su σ ea (fs_xc (upd s 7 (if s 7 + 1 < s 6 then s 7 + 1 else 0)) ca en sl)) := by
    intro z hz
    have hr : ∀ τ : fs_S, (fs_rz z).1 τ = some (z, τ) := fun τ => by
      unfold fs_rz
      rw [if_pos hz]
      rfl
    refine r_b (x_gi e 7 rfl) (r_b (x_gi e 6 rfl) (r_l ?_))
    by_cases hq : s 7 + 1 < s 6
    · rw [show (if s 7 + 1 < s 6 then s 7 + 1 else (0 : Int32)) = s 7 + 1 from if_pos hq]
      exact r_p hq (r_b (x_gi e 7 rfl) (r_b (x_pi e 7 _ (Nat.le_of_ble_eq_true rfl)) (hr _)))
    · rw [show (if s 7 + 1 < s 6 then s 7 + 1 else (0 : Int32)) = 0 from if_neg hq]
      exact r_n hq (r_b (x_pi e 7 _ (Nat.le_of_ble_eq_true rfl)) (hr _))
  by_cases hz : s 7 = 0
  · rw [show (if s 7 = 0 then (1 : Int32) else 0) = 1 from if_pos hz]
    exact r_p hz (key 1 (Or.inr rfl))
  · rw [show (if s 7 = 0 then (1 : Int32) else 0) = 0 from if_neg hz]
    exact r_n hz (key 0 (Or.inl rfl))
theorem ef_s {c1 ea ca en sl : Nat} {s : Nat → Int32} {C E : fs_Fs} {h F : List fs_C} {σ : fs_S} (hX : fs_EF c1 ea ca en sl s C E h) (ho : fs_own (h ++ F) σ) (s1 : Nat → Int32) : ∃ h1, fs_EF c1 ea ca en sl s1 C E h1 ∧ fs_own (h1 ++ F) (fs_su σ ea (fs_xc s1 ca en sl)) := by
  obtain ⟨hc9, he9, rfl, hA, hB⟩ := hX
  exact ⟨_, ⟨hc9, he9, rfl, hA, hB⟩, own_up ho⟩
theorem set_map : ∀ (l : fs_Fs) (j : Nat) {a : Nat} {v w : Nat → Int32}, l[j]? = some (a, v) → (l.set j (a, w)).map Prod.fst = l.map Prod.fst
  | x :: l, 0, a, v, w, h => by
    cases h
    rfl
  | x :: l, j + 1, a, v, w, h => congrArg (x.1 :: ·) (set_map l j (w := w) h)
theorem ef_flow {c1 ea ca en sl j a : Nat} {s : Nat → Int32} {C E : fs_Fs} {h F : List fs_C} {σ : fs_S} {v : Nat → Int32} (hX : fs_EF c1 ea ca en sl s C E h) (ho : fs_own (h ++ F) σ) (hv : C[j]? = some (a, v)) (w : Nat → Int32) : ∃ h1, fs_EF c1 ea ca en sl s (C.set j (a, w)) E h1 ∧ fs_own (h1 ++ F) (fs_su σ a (fs_fl w)) := by
  obtain ⟨hc9, he9, rfl, hA, hB⟩ := hX
  rw [flat5] at ho
  have hj : j < C.length := (List.getElem?_eq_some_iff.mp hv).1
  have o1 := own_pick hv (own_ix _ [3, 0, 1, 2, 4, 5] rfl (by decide) ho)
  have o2 := own_put hj (own_up (e1 := fs_fl w) o1)
  have o3 := own_ix [fs_fc (C.set j (a, w)), [(ea, fs_xc s ca en sl)], hc9, he9, fs_fc E, F] [1, 2, 3, 0, 4, 5] rfl (by decide) o2
  exact ⟨_, ⟨hc9, he9, rfl, by rw [set_map C j hv]; exact hA, hB⟩, by rw [flat5]; exact o3⟩
/-- the flow used longest ago -/
def fs_lr : fs_Fs → Nat → Int32 → Nat → Nat
  | [], b, _, _ => b
  | q :: l, b, m, i => if m ≤ q.2 6 then fs_lr l b m (i + 1) else fs_lr l i (q.2 6) (i + 1)
theorem lr_loop {ea ca en sl : Nat} {s : Nat → Int32} {C : fs_Fs} {σ : fs_S} (e : σ.1 ea = some (fs_xc s ca en sl)) (hC : fs_RL ca C σ) (hl : C.length < 1000) : ∀ (l : fs_Fs) (fuel b ab i : Nat) (vb : Nat → Int32), C.drop i = l → i ≤ C.length → l.length < fuel → C[b]? = some (ab, vb) →
    fs_lr l b (vb 6) i < C.length ∧ (fs_lp2 fuel (fun k4 (v1 : Int32) (v2 : Int32) =>
    fs_bind (fs_gr ea 1 1) fun r3 =>
    fs_bind (fs_cv r3 2 (f_ArrayList_size r3)) fun v4 =>
    if v4 ≤ v2 then (
      fs_ret v1) else
    fs_bind (fs_gr ea 1 1) fun r5 =>
    fs_bind (fs_cv r5 2 (f_ArrayList_get r5 v2)) fun r6 =>
    fs_bind (fs_ck r6 8) fun _ =>
    fs_bind (fs_gi r6 8 6) fun v7 =>
    fs_bind (fs_gr ea 1 1) fun r8 =>
    fs_bind (fs_cv r8 2 (f_ArrayList_get r8 v1)) fun r9 =>
    fs_bind (fs_ck r9 8) fun _ =>
    fs_bind (fs_gi r9 8 6) fun v10 =>
    fs_let (fun (v11 : Int32) =>
      fs_nm ((v2 + 1) : Int32) fun v12 =>
      k4 v11 v12) fun j48 =>
    if v10 ≤ v7 then (
      j48 v1) else
    j48 v2) (Int32.ofNat b) (Int32.ofNat i)).1 σ = some (Int32.ofNat (fs_lr l b (vb 6) i), σ)
  | [], fuel + 1, b, ab, i, vb, h1, h2, _, hb => by
    have : C.length ≤ i := List.drop_eq_nil_iff.mp h1
    exact ⟨(List.getElem?_eq_some_iff.mp hb).1, r_lp2 (r_b (x_gr e 1 rfl) (r_b hC.1 (r_p ((Int32.ofNat_le_ofNat (by omega) (by omega)).mpr this) rfl)))⟩
  | q :: l, fuel + 1, b, ab, i, vb, h1, h2, h3, hb => by
    have hi : i < C.length := by
      have := congrArg List.length h1
      rw [List.length_drop, List.length_cons] at this
      omega
    have hq : C[i]? = some (q.1, q.2) := by
      have := congrArg (fun z : fs_Fs => z[0]?) h1
      simpa using this
    have hd : C.drop (i + 1) = l := by
      have := congrArg List.tail h1
      simpa using this
    have h3' : l.length < fuel := by simp at h3; omega
    obtain ⟨g1, g2⟩ := hC.2 i q.1 q.2 _ rfl hq
    obtain ⟨g3, g4⟩ := hC.2 b ab vb _ rfl hb
    have hs : fs_lr (q :: l) b (vb 6) i = if vb 6 ≤ q.2 6 then fs_lr l b (vb 6) (i + 1) else fs_lr l i (q.2 6) (i + 1) := rfl
    rw [hs]
    have hne : ¬ Int32.ofNat C.length ≤ Int32.ofNat i := fun z => by
      have := (Int32.ofNat_le_ofNat (by omega) (by omega)).mp z
      omega
    by_cases hk : vb 6 ≤ q.2 6
    · obtain ⟨w1, w2⟩ := lr_loop e hC hl l fuel b ab (i + 1) vb hd (by omega) h3' hb
      rw [show (if vb 6 ≤ q.2 6 then fs_lr l b (vb 6) (i + 1) else fs_lr l i (q.2 6) (i + 1)) = fs_lr l b (vb 6) (i + 1) from if_pos hk]
      refine ⟨w1, r_lp2 (r_b (x_gr e 1 rfl) (r_b hC.1 (r_n hne (r_b (x_gr e 1 rfl) (r_b g1 (r_b (x_ck g2) (r_b (x_gi g2 6 rfl) (r_b (x_gr e 1 rfl) (r_b g3 (r_b (x_ck g4) (r_b (x_gi g4 6 rfl) (r_l (r_p hk (r_m ?_))))))))))))))⟩
      rw [ofNat_add1]
      exact w2
    · obtain ⟨w1, w2⟩ := lr_loop e hC hl l fuel i q.1 (i + 1) q.2 hd (by omega) h3' hq
      rw [show (if vb 6 ≤ q.2 6 then fs_lr l b (vb 6) (i + 1) else fs_lr l i (q.2 6) (i + 1)) = fs_lr l i (q.2 6) (i + 1) from if_neg hk]
      refine ⟨w1, r_lp2 (r_b (x_gr e 1 rfl) (r_b hC.1 (r_n hne (r_b (x_gr e 1 rfl) (r_b g1 (r_b (x_ck g2) (r_b (x_gi g2 6 rfl) (r_b (x_gr e 1 rfl) (r_b g3 (r_b (x_ck g4) (r_b (x_gi g4 6 rfl) (r_l (r_n hk (r_m ?_))))))))))))))⟩
      rw [ofNat_add1]
      exact w2
  | _, 0, _, _, _, _, _, _, h, _ => absurd h (Nat.not_lt_zero _)
theorem p_Exporter_leastRecent {ea ca en sl a : Nat} {s : Nat → Int32} {C : fs_Fs} {σ : fs_S} {v : Nat → Int32} (e : σ.1 ea = some (fs_xc s ca en sl)) (hC : fs_RL ca C σ) (hl : C.length < 1000) (h0 : C[0]? = some (a, v)) : fs_lr (C.drop 1) 0 (v 6) 1 < C.length ∧ (fs_cv ea 1 (f_Exporter_leastRecent ea)).1 σ = some (Int32.ofNat (fs_lr (C.drop 1) 0 (v 6) 1), σ) := by
  have hn : 0 < C.length := (List.getElem?_eq_some_iff.mp h0).1
  obtain ⟨w1, w2⟩ := lr_loop e hC hl (C.drop 1) 4096 0 a 1 v rfl (by omega) (by rw [List.length_drop]; omega) h0
  exact ⟨w1, r_cv e w2⟩
