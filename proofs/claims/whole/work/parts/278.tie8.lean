/-! what hearing leaves -/
theorem tl_v1 {u : Nat} {f : Nat → Int32} (hf : fs_by f) : ∀ (m n k : Nat) (c : fs_Cu), n < 256 ^ k → k + m ≤ 4 → ∃ n2, n2 < 256 ^ (k + m) ∧ (fs_tl u f m (Int64.ofNat n) c).1 = Int64.ofNat n2
  | 0, n, k, c, h, _ => ⟨n, h, rfl⟩
  | m + 1, n, k, c, h, hk => by
    have e : fs_tl u f (m + 1) (Int64.ofNat n) c = fs_tl u f m (fs_lshl (Int64.ofNat n) 8 ||| (fs_tb u f c).1.toInt64) (fs_tb u f c).2 := rfl
    have hb : ∃ b, b ≤ 255 ∧ (fs_tb u f c).1 = Int32.ofNat b := by
      unfold fs_tb
      split
      · exact hf c.1
      · exact ⟨0, by omega, rfl⟩
    obtain ⟨b, b1, b2⟩ := hb
    have h4 : 256 ^ k ≤ 256 ^ 3 := Nat.pow_le_pow_right (by decide) (by omega)
    have h5 : (256 : Nat) ^ 3 = 16777216 := by decide
    rw [e, b2, j_shl8 (by omega), j_32 (by omega), j_or b1]
    obtain ⟨n2, g1, g2⟩ := tl_v1 hf m (256 * n + b) (k + 1) (fs_tb u f c).2 (by rw [Nat.pow_succ]; omega) (by omega)
    exact ⟨n2, by rw [show k + (m + 1) = k + 1 + m by omega]; exact g1, g2⟩
theorem tf_v1 {u l : Nat} {f : Nat → Int32} {x : Int32} {c : fs_Cu} (hf : fs_by f) (hx : x = Int32.ofNat l) (hl : l ≤ 4) : fs_v1 (fs_tf u f x c).1 := by
  have go : ∀ (m : Nat) (c : fs_Cu), m ≤ 4 → fs_v1 (fs_tl u f m 0 c).1 := fun m c hm => by
    obtain ⟨n2, g1, g2⟩ := tl_v1 (u := u) hf m 0 0 c (by decide) (by omega)
    have h4 : 256 ^ (0 + m) ≤ 256 ^ 4 := Nat.pow_le_pow_right (by decide) (by omega)
    have h5 : (256 : Nat) ^ 4 = 2 ^ 32 := by decide
    exact Or.inr ⟨n2, by omega, g2⟩
  unfold fs_tf
  split
  · split
    · exact Or.inr ⟨0, by decide, rfl⟩
    · split
      · rename_i h
        exact go _ _ (i_le (n := 4) h (by decide))
      · exact Or.inr ⟨0, by decide, rfl⟩
  · refine go _ _ ?_
    rw [hx, show (Int32.ofNat l).toNatClampNeg = l from Int32.toNatClampNeg_ofNat_of_lt (by omega)]
    exact hl
theorem vf_v1 {u nf : Nat} {f g : Nat → Int32} (hf : fs_by f) (hg : fs_TG g nf) : ∀ (m i : Nat) (c : fs_Cu) (w : Nat → Int64), i + m ≤ nf → (∀ j, j < 8 → fs_v1 (w j)) → ∀ j, j < 8 → fs_v1 ((fs_vf u f g m i c w).1 j)
  | 0, _, _, _, _, h => h
  | m + 1, i, c, w, hi, h => by
    obtain ⟨⟨l, l1, l2⟩, -⟩ := hg.2.2 i (by omega)
    refine vf_v1 hf hg m (i + 1) _ _ (by omega) fun j hj => ?_
    show fs_v1 (vp_updL w _ _ j)
    unfold vp_updL
    split
    · exact tf_v1 hf l2 l1
    · exact h j hj
theorem mr_v1 {u nf : Nat} {f g : Nat → Int32} (hf : fs_by f) (hg : fs_TG g nf) : ∀ (n : Nat) (c : fs_Cu), fs_vg (fs_mr u f g nf n c)
  | 0, _ => fun q hq => absurd hq List.not_mem_nil
  | n + 1, c => fun q hq => by
    have e : fs_mr u f g nf (n + 1) c = (f 0, (fs_vf u f g nf 0 c (fs_w0 8)).1) :: fs_mr u f g nf n (fs_vf u f g nf 0 c (fs_w0 8)).2 := rfl
    rw [e] at hq
    rcases List.mem_cons.mp hq with rfl | hq
    · exact vf_v1 hf hg nf 0 c _ (by omega) fun j hj => Or.inl (if_pos hj)
    · exact mr_v1 hf hg n _ q hq
theorem vg_app {V W : fs_Vs} (h : fs_vg V) (k : fs_vg W) : fs_vg (V ++ W) := fun q hq => (List.mem_append.mp hq).elim (h q) (k q)
theorem rsh_all {nf : Nat} {g : Nat → Int32} (hg : fs_TG g nf) : ∀ (l : List fs_Rp) (s : fs_Hs), (∀ R ∈ l, fs_rok R) → (fs_vg s.1 → fs_vg (fs_rsh g nf l s).1) ∧ (∃ Y, (fs_rsh g nf l s).1 = s.1 ++ Y) ∧ ∀ i, i ≠ 2 → (fs_rsh g nf l s).2.1 i = s.2.1 i ∧ (fs_rsh g nf l s).2.2 i = s.2.2 i
  | [], s, _ => ⟨id, ⟨[], (List.append_nil _).symm⟩, fun i _ => ⟨rfl, rfl⟩⟩
  | R :: l, s, h => by
    have e : fs_rsh g nf (R :: l) s = fs_rsh g nf l (if fs_sb R.2.2.2 g = true then fs_ros g nf R.2.2.1 R.2.2.2 s else s) := rfl
    rw [e]
    obtain ⟨a, ⟨Y, b⟩, c⟩ := rsh_all hg l (if fs_sb R.2.2.2 g = true then fs_ros g nf R.2.2.1 R.2.2.2 s else s) (fun R hR => h R (List.mem_cons_of_mem _ hR))
    have key : (fs_vg s.1 → fs_vg (if fs_sb R.2.2.2 g = true then fs_ros g nf R.2.2.1 R.2.2.2 s else s).1) ∧ (∃ Y, (if fs_sb R.2.2.2 g = true then fs_ros g nf R.2.2.1 R.2.2.2 s else s).1 = s.1 ++ Y) ∧ ∀ i, i ≠ 2 → (if fs_sb R.2.2.2 g = true then fs_ros g nf R.2.2.1 R.2.2.2 s else s).2.1 i = s.2.1 i ∧ (if fs_sb R.2.2.2 g = true then fs_ros g nf R.2.2.1 R.2.2.2 s else s).2.2 i = s.2.2 i := by
      split
      · unfold fs_ros
        split
        · exact ⟨fun z => vg_app z (mr_v1 (h R List.mem_cons_self).2.1.2 hg _ _), ⟨_, rfl⟩, fun i _ => ⟨rfl, rfl⟩⟩
        · split
          · exact ⟨id, ⟨[], (List.append_nil _).symm⟩, fun i hi => ⟨up_miss hi _, rfl⟩⟩
          · exact ⟨id, ⟨[], (List.append_nil _).symm⟩, fun i hi => ⟨rfl, up_miss hi _⟩⟩
      · exact ⟨id, ⟨[], (List.append_nil _).symm⟩, fun i _ => ⟨rfl, rfl⟩⟩
    obtain ⟨a2, ⟨Y2, b2⟩, c2⟩ := key
    refine ⟨fun z => a (a2 z), ⟨Y2 ++ Y, by rw [b, b2, List.append_assoc]⟩, fun i hi => ⟨(c i hi).1.trans (c2 i hi).1, (c i hi).2.trans (c2 i hi).2⟩⟩
/-! marks -/
theorem mh_at : ∀ (m a : Nat) (H : Nat → Int32) (i : Nat), fs_mh m a H i = if a ≤ i ∧ i < a + m then 1 else H i
  | 0, a, H, i => (if_neg (by omega)).symm
  | m + 1, a, H, i => by
    show fs_mh m (a + 1) (upd H a 1) i = _
    rw [mh_at m (a + 1) (upd H a 1) i]
    by_cases hi : i = a
    · rw [if_neg (by omega), if_pos (by omega), hi, up_hit]
    · rw [up_miss hi]
      by_cases h2 : a + 1 ≤ i ∧ i < a + 1 + m
      · rw [if_pos h2, if_pos (by omega)]
      · rw [if_neg h2, if_neg (by omega)]
theorem ho_cg {v H : Nat → Int32} {x : Nat} (h : ∀ p, p < 600 → v (600 * x + p) = H p) : ∀ (m a : Nat), a + m ≤ 600 → fs_ho v m (600 * x + a) = fs_ho H m a
  | 0, _, _ => rfl
  | m + 1, a, ha => by
    show (if v (600 * x + a) = 0 then fs_ho v m (600 * x + a + 1) else 1) = if H a = 0 then fs_ho H m (a + 1) else 1
    rw [h a (by omega), show 600 * x + a + 1 = 600 * x + (a + 1) by omega, ho_cg h m (a + 1) (by omega)]
/-- only what no call but hear looks at has changed -/
theorem in_eq {k : Nat} {Z : fs_Z} {S S1 : fs_R} (h : fs_In k Z S) (e0 : ∀ a, a ≠ 0 → a ≠ 45 → a ≠ 47 → S1.1 a = S.1 a) (e1 : ∀ a, a ≠ 46 → S1.2.1 a = S.2.1 a) (e2 : S1.2.2 = S.2.2) : fs_In (k + 1) Z S1 := by
  refine ⟨fun y hy => ?_, ir_cg h.2.1 (e0 25 (by decide) (by decide) (by decide)) (e1 26 (by decide)) (e1 27 (by decide)), ik_cg h.2.2.1 (fun a ha => e0 a (by omega) (by omega) (by omega)) (fun a h1 h2 h3 => e1 a (by omega)) e2, h.2.2.2.1, ih_cg h.2.2.2.2 (fun a ha => e1 a (by omega))⟩
  obtain ⟨h1, h2, h3, h4⟩ := h.1 y hy
  exact ⟨i1_cg (i1_mono h1 (Nat.le_refl _)) fun a g1 g2 => congrFun (e1 a (by omega)) y, i2_cg (i2_mono h2) fun a j g => congrFun (e1 a (by unfold fs_reg at g; omega)) j, i3_cg (i3_mono h3) fun a j g => congrFun (e1 a (by unfold fs_rg3 at g; omega)) j, i4_cg h3.1.1 h4 (fun j g1 g2 => congrFun (e1 23 (by decide)) j) (Or.inl (e0 24 (by decide) (by decide) (by decide)))⟩
/-- the collector alone has changed -/
theorem in_col {k : Nat} {Z : fs_Z} {S S1 : fs_R} {K Sh : List fs_Rp} {Q : fs_Tq} {W : List fs_Rw} {H q : Nat → Nat → Int32} (h : fs_In k Z S) (e0 : ∀ a, a = 24 ∨ a = 25 → S1.1 a = S.1 a) (e1 : ∀ a, a ≤ 27 → S1.2.1 a = S.2.1 a) (hK : fs_IK K Sh (fs_V W) S1) (hQ : fs_IQ Q (fs_V W)) (hH : fs_IH H q S1) : fs_In (k + 1) (Z.1, Z.2.1, K, Sh, Q, W, H, q) S1 := by
  refine ⟨fun y hy => ?_, ir_cg h.2.1 (e0 25 (by decide)) (e1 26 (by decide)) (e1 27 (by decide)), hK, hQ, hH⟩
  obtain ⟨h1, h2, h3, h4⟩ := h.1 y hy
  exact ⟨i1_cg (i1_mono h1 (Nat.le_refl _)) fun a g1 g2 => congrFun (e1 a (by omega)) y, i2_cg (i2_mono h2) fun a j g => congrFun (e1 a (by unfold fs_reg at g; omega)) j, i3_cg (i3_mono h3) fun a j g => congrFun (e1 a (by unfold fs_rg3 at g; omega)) j, i4_cg h3.1.1 h4 (fun j g1 g2 => congrFun (e1 23 (by decide)) j) (Or.inl (e0 24 (by decide)))⟩
theorem hs_n {S : fs_R} {u : Nat} {f : Nat → Int32} {a : Nat} (h : a ≠ 46) : (fs_hs S u f).2.1 a = S.2.1 a := va_up_ne _ _ h
theorem hs_s {S : fs_R} {u : Nat} {f : Nat → Int32} {a : Nat} (h : a ≠ 0) (h2 : a ≠ 45) : (fs_hs S u f).1 a = S.1 a := by
  show upd (upd S.1 0 0) 45 _ a = _
  rw [up_miss h2, up_miss h]
theorem hs_buf (S : fs_R) (u : Nat) (f : Nat → Int32) : fs_buf u f (fs_hs S u f) := by
  refine ⟨up_hit (upd S.1 0 0) 45 (Int32.ofNat u), fun i hi => ?_⟩
  show va_up S.2.1 46 (fs_cpb (S.2.1 46) f u) 46 i = f i
  rw [va_up_self]
  exact if_pos hi
/-- what hear finds there -/
theorem hs_ik {K Sh : List fs_Rp} {V : fs_Vs} {S : fs_R} {u : Nat} {f : Nat → Int32} (h : fs_IK K Sh V S) : fs_IK K Sh V (fs_hs S u f) := ik_cg h (fun a ha => hs_s (by omega) (by omega)) (fun a h1 h2 h3 => hs_n (by omega)) rfl
theorem hs_ih {H q : Nat → Nat → Int32} {S : fs_R} {u : Nat} {f : Nat → Int32} (h : fs_IH H q S) : fs_IH H q (fs_hs S u f) := ih_cg h fun a ha => hs_n (by omega)
theorem iq_ext {Q : fs_Tq} {V Y : fs_Vs} (h : fs_IQ Q V) : fs_IQ Q (V ++ Y) := by
  obtain ⟨p, p1, p2, p3⟩ := h
  refine ⟨p, p1, by rw [List.length_append]; omega, fun e => ?_⟩
  rw [List.length_append] at e
  have hY : Y = [] := List.length_eq_zero_iff.mp (by omega)
  subst hY
  rw [List.append_nil]
  exact p3 (by simp at e; omega)
