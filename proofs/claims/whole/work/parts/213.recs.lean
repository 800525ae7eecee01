/-! records written -/
def fs_ft (f g : Nat → Int32) (u : Nat) : fs_Fs → Nat → Int32 → Nat
  | [], i, _ => i
  | q :: l, i, t => if t + fs_bf f g q.2 0 u 0 ≤ 64 then fs_ft f g u l (i + 1) (t + fs_bf f g q.2 0 u 0) else i
theorem ft_le (f g : Nat → Int32) (u : Nat) : ∀ (l : fs_Fs) (i : Nat) (t : Int32), fs_ft f g u l i t ≤ i + l.length
  | [], i, _ => Nat.le_refl _
  | q :: l, i, t => by
    have e : fs_ft f g u (q :: l) i t = if t + fs_bf f g q.2 0 u 0 ≤ 64 then fs_ft f g u l (i + 1) (t + fs_bf f g q.2 0 u 0) else i := rfl
    rw [e]
    split
    · have := ft_le f g u l (i + 1) (t + fs_bf f g q.2 0 u 0)
      rw [List.length_cons]
      omega
    · omega
theorem ft_loop {L : fs_Ly} {ea ca en sl n : Nat} {s : Nat → Int32} {E : fs_Fs} {σ : fs_S} (e : σ.1 ea = some (fs_xc s ca en sl)) (hE : fs_RL en E σ) (el : σ.1 L.1 = some (fs_lo L)) (ef : σ.1 L.2.1 = some (fs_ia 8 L.2.2.2.2.1)) (eg : σ.1 L.2.2.1 = some (fs_ia 8 L.2.2.2.2.2)) (hu : L.2.2.2.1 ≤ 8) (hn : n ≤ E.length) (hl : E.length < 100) : ∀ (l : fs_Fs) (fuel i : Nat) (t : Int32), (E.take n).drop i = l → i ≤ n → l.length < fuel →
    (fs_lp2 fuel (fun k24 (v5 : Int32) (v6 : Int32) =>
    if Int32.ofNat n ≤ v6 then (
      fs_ret (Int32.ofNat n)) else
    fs_bind (fs_gr ea 1 2) fun r7 =>
    fs_bind (fs_cv r7 2 (f_ArrayList_get r7 v6)) fun r8 =>
    fs_bind (fs_ck r8 8) fun _ =>
    fs_bind (fs_cv L.1 4 (f_Layout_bytesFor L.1 r8)) fun v9 =>
    fs_nm ((v5 + v9) : Int32) fun v10 =>
    if v10 ≤ 64 then (
      fs_nm ((v6 + 1) : Int32) fun v11 =>
      k24 v10 v11) else
    fs_ret v6) t (Int32.ofNat i)).1 σ = some (Int32.ofNat (fs_ft L.2.2.2.2.1 L.2.2.2.2.2 L.2.2.2.1 l i t), σ)
  | [], fuel + 1, i, t, h1, h2, _ => by
    have h3 : (E.take n).length ≤ i := List.drop_eq_nil_iff.mp h1
    rw [List.length_take] at h3
    have : i = n := by omega
    subst this
    exact r_lp2 (r_p ((Int32.ofNat_le_ofNat (by omega) (by omega)).mpr (Nat.le_refl _)) rfl)
  | q :: l, fuel + 1, i, t, h1, h2, h3 => by
    have hi : i < n := by
      have := congrArg List.length h1
      rw [List.length_drop, List.length_cons, List.length_take] at this
      omega
    have hq : E[i]? = some (q.1, q.2) := by
      have := congrArg (fun z : fs_Fs => z[0]?) h1
      simp only [List.getElem?_drop, List.getElem?_take, Nat.add_zero] at this
      rw [if_pos hi] at this
      exact this
    have hd : (E.take n).drop (i + 1) = l := by
      have := congrArg List.tail h1
      simpa using this
    obtain ⟨g1, g2⟩ := hE.2 i q.1 q.2 _ rfl hq
    have hne : ¬ Int32.ofNat n ≤ Int32.ofNat i := fun z => by
      have := (Int32.ofNat_le_ofNat (by omega) (by omega)).mp z
      omega
    have es : fs_ft L.2.2.2.2.1 L.2.2.2.2.2 L.2.2.2.1 (q :: l) i t = if t + fs_bf L.2.2.2.2.1 L.2.2.2.2.2 q.2 0 L.2.2.2.1 0 ≤ 64 then fs_ft L.2.2.2.2.1 L.2.2.2.2.2 L.2.2.2.1 l (i + 1) (t + fs_bf L.2.2.2.2.1 L.2.2.2.2.2 q.2 0 L.2.2.2.1 0) else i := rfl
    rw [es]
    refine r_lp2 (r_n hne (r_b (x_gr e 2 rfl) (r_b g1 (r_b (x_ck g2) (r_b (p_Layout_bytesFor el ef eg g2 hu) (r_m ?_))))))
    by_cases hk : t + fs_bf L.2.2.2.2.1 L.2.2.2.2.2 q.2 0 L.2.2.2.1 0 ≤ 64
    · rw [if_pos hk, if_pos hk]
      refine r_m ?_
      rw [ofNat_add1]
      exact ft_loop e hE el ef eg hu hn hl l fuel (i + 1) _ hd (by omega) (by simp at h3; omega)
    · rw [if_neg hk, if_neg hk]
      rfl
  | _, 0, _, _, _, _, h => absurd h (Nat.not_lt_zero _)
theorem min_ofNat {a b : Nat} (ha : a < 1000) (hb : b < 1000) : fs_min (Int32.ofNat a) (Int32.ofNat b) = Int32.ofNat (min a b) := by
  unfold fs_min
  by_cases h : b < a
  · rw [if_pos ((Int32.ofNat_lt_ofNat (by omega) (by omega)).mpr h), Nat.min_eq_right (by omega)]
  · rw [if_neg (fun q => h ((Int32.ofNat_lt_ofNat (by omega) (by omega)).mp q)), Nat.min_eq_left (by omega)]
/-- how many records fit -/
def fs_mn (L : fs_Ly) (E : fs_Fs) (w : Nat) : Nat := fs_ft L.2.2.2.2.1 L.2.2.2.2.2 L.2.2.2.1 (E.take (min E.length (100 - w))) 0 7
theorem p_recordsThatFit {L : fs_Ly} {ea ca en sl w : Nat} {s : Nat → Int32} {E : fs_Fs} {σ : fs_S} (e : σ.1 ea = some (fs_xc s ca en sl)) (hE : fs_RL en E σ) (el : σ.1 L.1 = some (fs_lo L)) (ef : σ.1 L.2.1 = some (fs_ia 8 L.2.2.2.2.1)) (eg : σ.1 L.2.2.1 = some (fs_ia 8 L.2.2.2.2.2)) (hu : L.2.2.2.1 ≤ 8) (hl : E.length < 100) (hw : s 9 = Int32.ofNat w) (hw1 : w ≤ 100) :
    (fs_cv ea 1 (f_Exporter_recordsThatFit ea L.1)).1 σ = some (Int32.ofNat (fs_mn L E w), σ) := by
  refine r_cv e (r_b (x_gr e 2 rfl) (r_b hE.1 (r_b (x_gi e 9 rfl) (r_m ?_))))
  have e1 : fs_min (Int32.ofNat E.length) (100 - s 9) = Int32.ofNat (min E.length (100 - w)) := by
    rw [hw, show (100 : Int32) - Int32.ofNat w = Int32.ofNat (100 - w) from (Int32.ofNat_sub 100 w hw1).symm]
    exact min_ofNat (by omega) (by omega)
  rw [e1]
  exact ft_loop e hE el ef eg hu (Nat.min_le_left _ _) hl _ 4096 0 7 rfl (Nat.zero_le _) (by rw [List.length_take]; omega)
theorem ef_rm {c1 ea ca en sl : Nat} {s : Nat → Int32} {C E : fs_Fs} {q : Nat × (Nat → Int32)} {h F : List fs_C} {σ : fs_S} (hX : fs_EF c1 ea ca en sl s C (q :: E) h) (ho : fs_own (h ++ F) σ) : ∃ σ1 h1, (fs_cv en 2 (f_ArrayList_remove en 0)).1 σ = some (q.1, σ1) ∧ fs_EF c1 ea ca en sl s C E h1 ∧ fs_own (h1 ++ ((q.1, fs_fl q.2) :: F)) σ1 ∧ fs_st σ σ1 0 0 := by
  obtain ⟨hc9, he9, rfl, hA, hB⟩ := hX
  rw [flat5] at ho
  obtain ⟨σ1, h1, q1, q2, q3, q4⟩ := p_AL_remove (i := 0) (j := 0) (r := q.1) hB (own_ix _ [2, 0, 1, 3, 4, 5] rfl (by decide) ho) rfl rfl (fun y hy => by
    obtain ⟨c, fs, h1, h2⟩ := fc_obj hy
    exact ⟨c, fs, mem_c (L := [[(ea, fs_xc s ca en sl)], hc9, fs_fc C, fs_fc (q :: E), F]) 3 rfl h1, h2⟩)
  have o1 := own_ix [h1, [(ea, fs_xc s ca en sl)], hc9, fs_fc C, [(q.1, fs_fl q.2)], fs_fc E, F] [1, 2, 0, 3, 5, 4, 6] rfl (by decide) (own_eq q3 (by simp [fs_fc]))
  exact ⟨σ1, _, q1, ⟨hc9, h1, rfl, hA, q2⟩, own_eq o1 (by simp), q4⟩
def fs_wl (f g : Nat → Int32) (u : Nat) : fs_Rp → fs_Fs → fs_Rp
  | R, [] => R
  | R, q :: l => fs_wl f g u (fs_lw f g q.2 R 0 u) l
theorem wl_loop {L : fs_Ly} {c1 ea ca en sl sa d b n : Nat} {s t : Nat → Int32} {C : fs_Fs} {F : List fs_C} (hs : (sa, fs_so t d L.1) ∈ F) (hL : fs_lf L F) (hu : L.2.2.2.1 ≤ 8) (hg : ∀ i, i < L.2.2.2.1 → L.2.2.2.2.2 i = Int32.ofNat (L.2.2.2.2.2 i).toNatClampNeg ∧ (L.2.2.2.2.2 i).toNatClampNeg ≤ 4) (hn : n < 100) : ∀ (l : fs_Fs) (fuel : Nat) (E : fs_Fs) (i : Nat) (R : fs_Rp) (σ : fs_S) (h : List fs_C), fs_EF c1 ea ca en sl s C (l ++ E) h → R.1 = b → R.2.2.1 ≤ 64 → fs_own (fs_rc R ++ (h ++ F)) σ → i + l.length = n → l.length < fuel → l.length + E.length < 100 →
    ∃ σ1 h1, (fs_lp1 fuel (fun k58 (v9 : Int32) =>
    fs_let (fun (_ : Unit) =>
      fs_bind (fs_gi ea 1 9) fun v16 =>
      fs_bind (fs_pi ea 1 9 (v16 + Int32.ofNat n)) fun _ =>
      fs_ret b) fun j99 =>
    if Int32.ofNat n ≤ v9 then (
      j99 ()) else
    fs_bind (fs_gr ea 1 2) fun r10 =>
    fs_bind (fs_cv r10 2 (f_ArrayList_isEmpty r10)) fun v11 =>
    if v11 = 0 then (
      fs_bind (fs_gr sa 3 2) fun r12 =>
      fs_bind (fs_gr ea 1 2) fun r13 =>
      fs_bind (fs_cv r13 2 (f_ArrayList_remove r13 0)) fun r14 =>
      fs_bind (fs_ck r14 8) fun _ =>
      fs_bind (fs_cv r12 4 (f_Layout_write r12 r14 b)) fun _ =>
      fs_nm ((v9 + 1) : Int32) fun v15 =>
      k58 v15) else
    j99 ()) (Int32.ofNat i)).1 σ = some (b, σ1) ∧ fs_EF c1 ea ca en sl (upd s 9 (s 9 + Int32.ofNat n)) C E h1 ∧ fs_own (fs_rc (fs_wl L.2.2.2.2.1 L.2.2.2.2.2 L.2.2.2.1 R l) ++ (h1 ++ F)) σ1 ∧ fs_st σ σ1 0 0
  | [], fuel + 1, E, i, R, σ, h, hX, hb, hR, ho, hi, hf, hl => by
    have e := own_at ho (List.mem_append_right _ (List.mem_append_left _ (ef_mem hX)))
    obtain ⟨h1, hX1, ho1⟩ := ef_s hX (own_sw ho) (upd s 9 (s 9 + Int32.ofNat n))
    have : i = n := by simpa using hi
    subst this
    exact ⟨_, h1, r_lp1 (r_l (r_p ((Int32.ofNat_le_ofNat (by omega) (by omega)).mpr (Nat.le_refl _)) (r_b (x_gi e 9 rfl) (r_b (x_pi e 9 _ (Nat.le_of_ble_eq_true rfl)) rfl)))), hX1, own_sw ho1, st_su _ _ _⟩
  | q :: l, fuel + 1, E, i, R, σ, h, hX, hb, hR, ho, hi, hf, hl => by
    subst hb
    rw [List.length_cons] at hi hf hl
    have hne : ¬ Int32.ofNat n ≤ Int32.ofNat i := fun z => by
      have := (Int32.ofNat_le_ofNat (by omega) (by omega)).mp z
      omega
    have e := own_at ho (List.mem_append_right _ (List.mem_append_left _ (ef_mem hX)))
    have es := own_at ho (List.mem_append_right _ (List.mem_append_right _ hs))
    have hemp : (fs_cv en 2 (f_ArrayList_isEmpty en)).1 σ = some (0, σ) := by
      obtain ⟨hc9, he9, rfl, hA, hB⟩ := id hX
      have := p_AL_isEmpty hB (own_ix _ [2, 0, 1, 3, 4, 5] rfl (by decide) (by rw [← flat5]; exact own_sw ho)) (by simp; omega)
      simpa using this
    obtain ⟨σ1, h1, q1, q2, q3, q4⟩ := ef_rm hX (own_sw ho)
    have e1 := own_at q3 (List.mem_append_right _ List.mem_cons_self)
    have o1 : fs_own (fs_rc R ++ (h1 ++ ((q.1, fs_fl q.2) :: F))) σ1 := own_perm q3 ((List.Perm.append_left h1 List.perm_middle.symm).trans (List.perm_append_comm_assoc h1 (fs_rc R) _))
    obtain ⟨σ2, w1, w2, w3⟩ := p_Layout_write (L := L) (a := q.1) (v := q.2) ⟨List.mem_append_right _ (List.mem_cons_of_mem _ hL.1), List.mem_append_right _ (List.mem_cons_of_mem _ hL.2.1), List.mem_append_right _ (List.mem_cons_of_mem _ hL.2.2)⟩ (List.mem_append_right _ List.mem_cons_self) hu hg o1 hR
    have o2 : fs_own (fs_rc (fs_lw L.2.2.2.2.1 L.2.2.2.2.2 q.2 R 0 L.2.2.2.1) ++ (h1 ++ F)) σ2 := by
      refine own_drop (H := [(q.1, fs_fl q.2)]) (own_perm w2 ?_)
      refine (List.Perm.append_left _ List.perm_middle).trans ?_
      exact List.perm_middle
    have hlw := lw_1 L.2.2.2.2.1 L.2.2.2.2.2 q.2 L.2.2.2.1 0 R
    obtain ⟨σ3, h3, g1, g2, g3, g4⟩ := wl_loop (b := R.1) hs hL hu hg hn l fuel E (i + 1) _ σ2 h1 q2 hlw.1 (hlw.2 hR) o2 (by omega) (by omega) (by omega)
    refine ⟨σ3, h3, r_lp1 (r_l (r_n hne (r_b (x_gr e 2 rfl) (r_b hemp (r_p rfl (r_b (x_gr es 2 rfl) (r_b (x_gr e 2 rfl) (r_b q1 (r_b (x_ck e1) (r_b w1 (r_m ?_))))))))))), g2, g3, st_le (st_tr (st_tr q4 w3) g4) (by omega) (by omega)⟩
    rw [ofNat_add1]
    exact g1
  | _, 0, _, _, _, _, _, _, _, _, _, _, h, _ => absurd h (Nat.not_lt_zero _)
