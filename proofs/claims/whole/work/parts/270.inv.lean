/-! class and reference tied: what holds between two calls -/
def fs_bd_ (k : Nat) : Nat := 10000 * k + 255
def fs_fv (k : Nat) (v : Nat → Int32) : Prop := fs_by3 v ∧ ∀ i, i < 9 → ∃ n, n ≤ fs_bd_ k ∧ v i = Int32.ofNat n
/-- the numbers of exporter x -/
def fs_I1 (k n x : Nat) (s : Nat → Int32) (v : Nat → Nat → Int32) : Prop :=
  s 0 = Int32.ofNat x ∧ (∃ t, t ≤ 100 * k ∧ s 4 = Int32.ofNat t ∧ v 1 x = s 4) ∧ (∃ e, e ≤ 5 ∧ s 5 = Int32.ofNat e ∧ v 2 x = s 5) ∧ (∃ m j, m ≤ 9 ∧ j < m ∧ s 6 = Int32.ofNat m ∧ v 3 x = s 6 ∧ s 7 = Int32.ofNat j ∧ v 4 x = s 7) ∧ (∃ w, w ≤ 100 ∧ s 9 = Int32.ofNat w ∧ v 5 x = s 9) ∧ ∃ t, t ≤ n ∧ s 10 = Int32.ofNat t ∧ v 6 x = s 10
/-- its flows -/
def fs_I2 (k x : Nat) (C E : fs_Fs) (v : Nat → Nat → Int32) : Prop := fs_fr x C E v ∧ C.length ≤ 6 ∧ C.length + E.length ≤ 20 ∧ (∀ q ∈ C, fs_fv k q.2) ∧ ∀ q ∈ E, fs_fv k q.2
def fs_gl (L : fs_Ly) : Prop := L.2.2.2.1 ≤ 8 ∧ fs_bl L.2.2.2.2.1 L.2.2.2.2.2 L.2.2.2.1
def fs_ti (k t : Nat) (T : fs_Sl) : Prop := T.2.1 0 = Int32.ofNat t ∧ fs_gl T.2.2.1 ∧ (∀ i j, i < j → j < T.2.2.1.2.2.2.1 → T.2.2.1.2.2.2.2.1 i ≠ T.2.2.1.2.2.2.2.1 j) ∧ fs_gl T.2.2.2 ∧ ∃ rv, T.2.1 4 = Int32.ofNat rv ∧ 2 * rv + T.2.2.1.2.2.2.1 ≤ k
/-- its slots -/
def fs_I3 (k x : Nat) (L : List fs_Sl) (v : Nat → Nat → Int32) : Prop := fs_sr_ x L v ∧ ∀ t T, L[t]? = some T → fs_ti k t T
/-- the order of its seals -/
def fs_I4 (k x : Nat) (s8 : Int32) (L : List fs_Sl) (S : fs_R) : Prop := ∃ na nb, na ≤ k ∧ nb ≤ k ∧ s8 = Int32.ofNat na ∧ S.1 24 = Int32.ofNat nb ∧ ∀ t T, L[t]? = some T → ¬ T.2.1 3 = 0 → ∃ a b, a ≤ na ∧ b ≤ nb ∧ T.2.1 5 = Int32.ofNat a ∧ S.2.1 23 (3 * x + t) = Int32.ofNat b
def fs_IX (k n x : Nat) (X : fs_Xs) (S : fs_R) : Prop := fs_I1 k n x X.1 S.2.1 ∧ fs_I2 k x X.2.1 X.2.2.1 S.2.1 ∧ fs_I3 k x X.2.2.2 S.2.1 ∧ fs_I4 k x (X.1 8) X.2.2.2 S
def fs_IR (Rs : List fs_Rp) (S : fs_R) : Prop := fs_rps Rs S ∧ Rs.length ≤ 30 ∧ ∀ R ∈ Rs, 5 ≤ R.2.2.1 ∧ R.2.2.1 ≤ 64 ∧ fs_by R.2.2.2
/-- the collector -/
def fs_IK (K Sh : List fs_Rp) (V : fs_Vs) (S : fs_R) : Prop := fs_kn K S ∧ K.length ≤ 20 ∧ (∀ T ∈ K, fs_ng T.2.2.2 ∧ ∃ nf, fs_TG T.2.2.2 nf) ∧ fs_sf Sh S ∧ Sh.length ≤ 5 ∧ (∀ R ∈ Sh, fs_rok R) ∧ fs_rws V S ∧ V.length ≤ 80 ∧ fs_vg V
def fs_IQ (Q : fs_Tq) (V : fs_Vs) : Prop := ∃ p, Q.2.2.2 = Int32.ofNat p ∧ p ≤ V.length ∧ (p = V.length → ∀ r, r < V.length → Q.1 r = fs_pa V (fun _ => -1) r)
def fs_IH (H q : Nat → Nat → Int32) (S : fs_R) : Prop := ∀ x, x < 2 → (∀ p, p < 600 → S.2.1 36 (600 * x + p) = H x p) ∧ S.2.1 40 x = q x 1 ∧ S.2.1 41 x = q x 2 ∧ S.2.1 42 x = q x 3 ∧ S.2.1 43 x = q x 4 ∧ S.2.1 44 x = q x 5
def fs_In (k : Nat) (Z : fs_Z) (S : fs_R) : Prop := (∀ x, x < 2 → fs_IX k (z_R Z).length x (z_X Z x) S) ∧ fs_IR (z_R Z) S ∧ fs_IK (z_K Z) (z_S Z) (fs_V (z_W Z)) S ∧ fs_IQ (z_Q Z) (fs_V (z_W Z)) ∧ fs_IH (z_H Z) (z_q Z) S
/-! longer -/
theorem fv_mono {k : Nat} {v : Nat → Int32} (h : fs_fv k v) : fs_fv (k + 1) v := ⟨h.1, fun i hi => by
  obtain ⟨n, h1, h2⟩ := h.2 i hi
  exact ⟨n, by unfold fs_bd_ at *; omega, h2⟩⟩
theorem i1_mono {k n m x : Nat} {s : Nat → Int32} {v : Nat → Nat → Int32} (h : fs_I1 k n x s v) (hm : n ≤ m) : fs_I1 (k + 1) m x s v := by
  obtain ⟨h0, ⟨t, h1, h2⟩, h3, h4, h5, t2, h6, h7⟩ := h
  exact ⟨h0, ⟨t, by omega, h2⟩, h3, h4, h5, t2, by omega, h7⟩
theorem i2_mono {k x : Nat} {C E : fs_Fs} {v : Nat → Nat → Int32} (h : fs_I2 k x C E v) : fs_I2 (k + 1) x C E v := ⟨h.1, h.2.1, h.2.2.1, fun q hq => fv_mono (h.2.2.2.1 q hq), fun q hq => fv_mono (h.2.2.2.2 q hq)⟩
theorem ti_mono {k t : Nat} {T : fs_Sl} (h : fs_ti k t T) : fs_ti (k + 1) t T := by
  obtain ⟨h1, h2, h3, h4, rv, h5, h6⟩ := h
  exact ⟨h1, h2, h3, h4, rv, h5, by omega⟩
theorem i3_mono {k x : Nat} {L : List fs_Sl} {v : Nat → Nat → Int32} (h : fs_I3 k x L v) : fs_I3 (k + 1) x L v := ⟨h.1, fun t T ht => ti_mono (h.2 t T ht)⟩
theorem i4_mono {k x : Nat} {s : Int32} {L : List fs_Sl} {S : fs_R} (h : fs_I4 k x s L S) : fs_I4 (k + 1) x s L S := by
  obtain ⟨na, nb, h1, h2, h3⟩ := h
  exact ⟨na, nb, by omega, by omega, h3⟩
theorem ix_mono {k n m x : Nat} {X : fs_Xs} {S : fs_R} (h : fs_IX k n x X S) (hm : n ≤ m) : fs_IX (k + 1) m x X S := ⟨i1_mono h.1 hm, i2_mono h.2.1, i3_mono h.2.2.1, i4_mono h.2.2.2⟩
/-! elsewhere -/
def fs_rg1 (x k j : Nat) : Prop := 1 ≤ k ∧ k ≤ 6 ∧ j = x
def fs_rg3 (x k j : Nat) : Prop := (k = 15 ∨ k = 18 ∨ k = 19 ∨ k = 20 ∨ k = 23) ∧ 3 * x ≤ j ∧ j < 3 * x + 3 ∨ (k = 16 ∨ k = 17 ∨ k = 21 ∨ k = 22) ∧ 24 * x ≤ j ∧ j < 24 * x + 24
theorem i1_cg {k n x : Nat} {s : Nat → Int32} {v w : Nat → Nat → Int32} (h : fs_I1 k n x s v) (e : ∀ a, 1 ≤ a → a ≤ 6 → w a x = v a x) : fs_I1 k n x s w := by
  unfold fs_I1
  rw [e 1 (by decide) (by decide), e 2 (by decide) (by decide), e 3 (by decide) (by decide), e 4 (by decide) (by decide), e 5 (by decide) (by decide), e 6 (by decide) (by decide)]
  exact h
theorem fr_cg {x : Nat} {C E : fs_Fs} {v w : Nat → Nat → Int32} (hC : C.length ≤ 6) (hE : E.length ≤ 20) (h : fs_fr x C E v) (e : ∀ k j, fs_reg x k j → w k j = v k j) : fs_fr x C E w := by
  obtain ⟨h1, h2, h3, h4⟩ := h
  refine ⟨by rw [e 7 x (Or.inl ⟨Or.inl rfl, rfl⟩)]; exact h1, by rw [e 13 x (Or.inl ⟨Or.inr rfl, rfl⟩)]; exact h2, fun i q hq => ?_, fun i q hq j hj => ?_⟩
  · have hi := (List.getElem?_eq_some_iff.mp hq).1
    have r : ∀ k, 8 ≤ k → k ≤ 12 → w k (6 * x + i) = v k (6 * x + i) := fun k h8 h12 => e k _ (Or.inr (Or.inl ⟨⟨h8, h12⟩, by omega, by omega⟩))
    rw [r 8 (by decide) (by decide), r 9 (by decide) (by decide), r 10 (by decide) (by decide), r 11 (by decide) (by decide), r 12 (by decide) (by decide)]
    exact h3 i q hq
  · have hi := (List.getElem?_eq_some_iff.mp hq).1
    rw [e 14 _ (Or.inr (Or.inr ⟨rfl, by omega, by omega⟩))]
    exact h4 i q hq j hj
theorem i2_cg {k x : Nat} {C E : fs_Fs} {v w : Nat → Nat → Int32} (h : fs_I2 k x C E v) (e : ∀ k j, fs_reg x k j → w k j = v k j) : fs_I2 k x C E w := by
  obtain ⟨h1, h2, h3, h4⟩ := h
  exact ⟨fr_cg h2 (by omega) h1 e, h2, h3, h4⟩
theorem tr_cg {a : Nat} {T : fs_Sl} {v w : Nat → Nat → Int32} (h : fs_tr_ a T v) (hd : T.2.2.1.2.2.2.1 ≤ 8) (hp : T.2.2.2.2.2.2.1 ≤ 8) (e : ∀ k j, fs_rgs a k j → w k j = v k j) : fs_tr_ a T w := by
  obtain ⟨h1, h2, h3, h4, h5⟩ := h
  have r : ∀ k, (k = 15 ∨ k = 18 ∨ k = 19 ∨ k = 20 ∨ k = 23) → w k a = v k a := fun k hk => e k a (Or.inl ⟨hk, rfl⟩)
  have r2 : ∀ k i, (k = 16 ∨ k = 17 ∨ k = 21 ∨ k = 22) → i < 8 → w k (8 * a + i) = v k (8 * a + i) := fun k i hk hi => e k _ (Or.inr ⟨hk, by omega, by omega⟩)
  refine ⟨by rw [r 15 (by decide)]; exact h1, fun k hk => ?_, by rw [r 18 (by decide)]; exact h3, by rw [r 19 (by decide)]; exact h4, fun hs => ?_⟩
  · rw [r2 16 k (by decide) (by omega), r2 17 k (by decide) (by omega)]
    exact h2 k hk
  · refine ⟨by rw [r 20 (by decide)]; exact (h5 hs).1, fun k hk => ?_⟩
    rw [r2 21 k (by decide) (by omega), r2 22 k (by decide) (by omega)]
    exact (h5 hs).2 k hk
theorem i3_cg {k x : Nat} {L : List fs_Sl} {v w : Nat → Nat → Int32} (h : fs_I3 k x L v) (e : ∀ k j, fs_rg3 x k j → w k j = v k j) : fs_I3 k x L w := by
  obtain ⟨⟨h1, h2, h3⟩, h4⟩ := h
  have hl : ∀ t T, L[t]? = some T → t < 3 := fun t T ht => by
    have := (List.getElem?_eq_some_iff.mp ht).1
    omega
  refine ⟨⟨h1, fun t T ht => ⟨?_, (h2 t T ht).2⟩, fun t T u U ht hu a b => ?_⟩, h4⟩
  · have g := h4 t T ht
    have hlt := hl t T ht
    refine tr_cg (h2 t T ht).1 g.2.1.1 g.2.2.2.1.1 fun k j hk => e k j ?_
    rcases hk with ⟨hk, rfl⟩ | ⟨hk, h6, h7⟩
    · exact Or.inl ⟨hk, by omega, by omega⟩
    · exact Or.inr ⟨hk, by omega, by omega⟩
  · have h5 := hl t T ht
    have h6 := hl u U hu
    rw [e 23 (3 * x + t) (Or.inl ⟨by decide, by omega, by omega⟩), e 23 (3 * x + u) (Or.inl ⟨by decide, by omega, by omega⟩)]
    exact h3 t T u U ht hu a b
theorem i4_cg {k x : Nat} {s : Int32} {L : List fs_Sl} {S S1 : fs_R} (hl : L.length = 3) (h : fs_I4 k x s L S) (e : ∀ j, 3 * x ≤ j → j < 3 * x + 3 → S1.2.1 23 j = S.2.1 23 j) (e1 : S1.1 24 = S.1 24 ∨ S1.1 24 = S.1 24 + 1) : fs_I4 (k + 1) x s L S1 := by
  obtain ⟨na, nb, h1, h2, h3, h4, h5⟩ := h
  have go : ∀ nc, nb ≤ nc → nc ≤ k + 1 → S1.1 24 = Int32.ofNat nc → fs_I4 (k + 1) x s L S1 := fun nc g1 g2 g3 => by
    refine ⟨na, nc, by omega, g2, h3, g3, fun t T ht hs => ?_⟩
    have hlt := (List.getElem?_eq_some_iff.mp ht).1
    obtain ⟨a, b, h6, h7, h8, h9⟩ := h5 t T ht hs
    exact ⟨a, b, h6, by omega, h8, by rw [e _ (by omega) (by omega)]; exact h9⟩
  rcases e1 with e1 | e1
  · exact go nb (Nat.le_refl _) (by omega) (by rw [e1, h4])
  · exact go (nb + 1) (by omega) (by omega) (by rw [e1, h4, ofNat_add1])
theorem ir_cg {Rs : List fs_Rp} {S S1 : fs_R} (h : fs_IR Rs S) (e1 : S1.1 25 = S.1 25) (e2 : S1.2.1 26 = S.2.1 26) (e3 : S1.2.1 27 = S.2.1 27) : fs_IR Rs S1 := by
  unfold fs_IR fs_rps fs_wrt
  rw [e1, e2, e3]
  exact h
theorem ik_cg {K Sh : List fs_Rp} {V : fs_Vs} {S S1 : fs_R} (h : fs_IK K Sh V S) (e1 : ∀ k, k = 28 ∨ k = 33 ∨ k = 37 → S1.1 k = S.1 k) (e2 : ∀ k, 29 ≤ k → k ≤ 38 → k ≠ 36 → S1.2.1 k = S.2.1 k) (e3 : S1.2.2 = S.2.2) : fs_IK K Sh V S1 := by
  unfold fs_IK fs_kn fs_sf fs_rws
  rw [e1 28 (by decide), e1 33 (by decide), e1 37 (by decide), e2 29 (by decide) (by decide) (by decide), e2 30 (by decide) (by decide) (by decide), e2 31 (by decide) (by decide) (by decide), e2 32 (by decide) (by decide) (by decide), e2 34 (by decide) (by decide) (by decide), e2 35 (by decide) (by decide) (by decide), e2 38 (by decide) (by decide) (by decide), e3]
  exact h
theorem ih_cg {H q : Nat → Nat → Int32} {S S1 : fs_R} (h : fs_IH H q S) (e2 : ∀ k, k = 36 ∨ 40 ≤ k ∧ k ≤ 44 → S1.2.1 k = S.2.1 k) : fs_IH H q S1 := by
  unfold fs_IH
  rw [e2 36 (by decide), e2 40 (by decide), e2 41 (by decide), e2 42 (by decide), e2 43 (by decide), e2 44 (by decide)]
  exact h
/-- a call that fails, or only reads -/
theorem in_same {k : Nat} {Z : fs_Z} {S : fs_R} (c : Int32) (h : fs_In k Z S) : fs_In (k + 1) Z (r_pi_ S 0 c) := ⟨fun x hx => ix_mono (S := r_pi_ S 0 c) (h.1 x hx) (Nat.le_refl _), h.2⟩
/-- a call that changes exporter x alone -/
theorem in_x {k x : Nat} {Z : fs_Z} {X : fs_Xs} {S S1 : fs_R} (hx : x < 2) (h : fs_In k Z S) (hX : fs_IX (k + 1) (z_R Z).length x X S1) (e0 : ∀ a, a ≠ 0 → a ≠ 24 → S1.1 a = S.1 a) (e24 : S1.1 24 = S.1 24 ∨ S1.1 24 = S.1 24 + 1) (e1 : ∀ a j, ¬ fs_rg1 x a j → ¬ fs_reg x a j → ¬ fs_rg3 x a j → S1.2.1 a j = S.2.1 a j) (e2 : S1.2.2 = S.2.2) : fs_In (k + 1) (z_sX Z x X) S1 := by
  have far : ∀ a, 24 ≤ a → S1.2.1 a = S.2.1 a := fun a ha => funext fun j => e1 a j (fun z => by have := z.2.1; omega) (fun z => by rcases z with ⟨z, -⟩ | ⟨z, -⟩ | ⟨z, -⟩ <;> omega) (fun z => by rcases z with ⟨z, -⟩ | ⟨z, -⟩ <;> omega)
  refine ⟨fun y hy => ?_, ir_cg h.2.1 (e0 25 (by decide) (by decide)) (far 26 (by decide)) (far 27 (by decide)), ik_cg h.2.2.1 (fun a ha => e0 a (by omega) (by omega)) (fun a h1 h2 _ => far a (by omega)) e2, h.2.2.2.1, ih_cg h.2.2.2.2 (fun a ha => far a (by omega))⟩
  by_cases hyx : y = x
  · subst hyx
    show fs_IX (k + 1) (z_R Z).length y (va_up Z.1 y X y) S1
    rw [va_up_self]
    exact hX
  · show fs_IX (k + 1) (z_R Z).length y (va_up Z.1 x X y) S1
    rw [va_up_ne _ _ hyx]
    obtain ⟨h1, h2, h3, h4⟩ := h.1 y hy
    refine ⟨i1_cg (i1_mono h1 (Nat.le_refl _)) fun a g1 g2 => e1 a y (fun z => hyx z.2.2) (fun z => by rcases z with ⟨z, -⟩ | ⟨z, -⟩ | ⟨z, -⟩ <;> omega) (fun z => by rcases z with ⟨z, -⟩ | ⟨z, -⟩ <;> omega), i2_cg (i2_mono h2) fun a j g => e1 a j (fun z => ?_) (fun z => ?_) (fun z => ?_), i3_cg (i3_mono h3) fun a j g => e1 a j (fun z => ?_) (fun z => ?_) (fun z => ?_), i4_cg h3.1.1 h4 (fun j g1 g2 => e1 23 j (fun z => ?_) (fun z => ?_) (fun z => ?_)) e24⟩
    all_goals (unfold fs_rg1 fs_reg fs_rg3 at *; omega)
