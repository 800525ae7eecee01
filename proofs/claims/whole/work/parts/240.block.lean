/-! the reference: one object and its arrays, a block of the heap -/
abbrev fs_R : Type := (Nat → Int32) × (Nat → Nat → Int32) × (Nat → Int64)
def fs_rfo (A : Nat → Nat) (s : Nat → Int32) : fs_E := .inr (12, [.int (s 0), .ref (A 1), .ref (A 2), .ref (A 3), .ref (A 4), .ref (A 5), .ref (A 6), .ref (A 7), .ref (A 8), .ref (A 9), .ref (A 10), .ref (A 11), .ref (A 12), .ref (A 13), .ref (A 14), .ref (A 15), .ref (A 16), .ref (A 17), .ref (A 18), .ref (A 19), .ref (A 20), .ref (A 21), .ref (A 22), .ref (A 23), .int (s 24), .int (s 25), .ref (A 26), .ref (A 27), .int (s 28), .ref (A 29), .ref (A 30), .ref (A 31), .ref (A 32), .int (s 33), .ref (A 34), .ref (A 35), .ref (A 36), .int (s 37), .ref (A 38), .ref (A 39), .ref (A 40), .ref (A 41), .ref (A 42), .ref (A 43), .ref (A 44), .int (s 45), .ref (A 46), .int (s 47), .ref (A 48), .ref (A 49)])
def fs_tab : List (Nat × Nat) := [(1, 2), (2, 2), (3, 2), (4, 2), (5, 2), (6, 2), (7, 2), (8, 12), (9, 12), (10, 12), (11, 12), (12, 12), (13, 2), (14, 336), (15, 6), (16, 48), (17, 48), (18, 6), (19, 6), (20, 6), (21, 48), (22, 48), (23, 6), (26, 30), (27, 1920), (29, 20), (30, 20), (31, 160), (32, 160), (34, 6), (35, 384), (38, 80), (40, 2), (41, 2), (42, 2), (43, 2), (44, 2), (46, 64), (48, 80)]
def fs_ztab : List (Nat × Nat) := [(36, 1200), (49, 80)]
def fs_Rb (A : Nat → Nat) (S : fs_R) (F : List fs_C) (σ : fs_S) : Prop := (∀ j k, j < 50 → k < 50 → A j = A k → j = k) ∧ ∃ H, fs_own (H ++ F) σ ∧ (A 0, fs_rfo A S.1) ∈ H ∧ (∀ q ∈ fs_tab, (A q.1, fs_ia q.2 (S.2.1 q.1)) ∈ H) ∧ (∀ q ∈ fs_ztab, (A q.1, fs_za q.2 (S.2.1 q.1)) ∈ H) ∧ (A 39, fs_ja 640 S.2.2) ∈ H
def fs_rep (a : Nat) (e : fs_E) (q : fs_C) : fs_C := if q.1 = a then (a, e) else q
theorem rep_ne {a : Nat} {e : fs_E} {q : fs_C} {H : List fs_C} (h : q ∈ H) (hn : q.1 ≠ a) : q ∈ H.map (fs_rep a e) := List.mem_map.mpr ⟨q, h, if_neg hn⟩
theorem rep_eq {a : Nat} {e e0 : fs_E} {H : List fs_C} (h : (a, e0) ∈ H) : (a, e) ∈ H.map (fs_rep a e) := List.mem_map.mpr ⟨(a, e0), h, if_pos rfl⟩
theorem rep_map (a : Nat) (e : fs_E) (H : List fs_C) : (H.map (fs_rep a e)).map Prod.fst = H.map Prod.fst := by
  rw [List.map_map]
  refine List.map_congr_left fun q _ => ?_
  show (fs_rep a e q).1 = q.1
  unfold fs_rep
  split
  · rename_i h
    exact h.symm
  · rfl
theorem own_rep {a : Nat} {e e0 : fs_E} {H F : List fs_C} {σ : fs_S} (ho : fs_own (H ++ F) σ) (h : (a, e0) ∈ H) : fs_own (H.map (fs_rep a e) ++ F) (fs_su σ a e) := by
  have hn := ho.1
  have hk : (H.map (fs_rep a e) ++ F).map Prod.fst = (H ++ F).map Prod.fst := by rw [List.map_append, List.map_append, rep_map]
  refine ⟨by rw [hk]; exact hn, fun q hq => ?_, fun b hb => ?_⟩
  · rcases List.mem_append.mp hq with hq | hq
    · obtain ⟨p, hp, rfl⟩ := List.mem_map.mp hq
      have := ho.2.1 p (List.mem_append_left _ hp)
      unfold fs_rep
      by_cases hpa : p.1 = a
      · rw [if_pos hpa]
        exact ⟨su_at _ _ _, by rw [← hpa]; exact this.2⟩
      · rw [if_neg hpa]
        exact ⟨by rw [su_ne hpa]; exact this.1, this.2⟩
    · have := ho.2.1 q (List.mem_append_right _ hq)
      have hqa : q.1 ≠ a := fun z => by
        rw [List.map_append] at hn
        exact (List.nodup_append.mp hn).2.2 a (List.mem_map.mpr ⟨(a, e0), h, rfl⟩) q.1 (List.mem_map.mpr ⟨q, hq, rfl⟩) z.symm
      exact ⟨by rw [su_ne hqa]; exact this.1, this.2⟩
  · have h3 := ho.2.2 b hb
    have hba : b ≠ a := fun z => by
      have := (ho.2.1 (a, e0) (List.mem_append_left _ h)).1
      rw [← z, h3.2] at this
      cases this
    exact ⟨h3.1, by rw [su_ne hba]; exact h3.2⟩
def r_pi_ (S : fs_R) (k : Nat) (x : Int32) : fs_R := (upd S.1 k x, S.2)
def r_si_ (S : fs_R) (k n : Nat) (x : Int32) : fs_R := (S.1, va_up S.2.1 k (upd (S.2.1 k) n x), S.2.2)
def r_sj_ (S : fs_R) (n : Nat) (x : Int64) : fs_R := (S.1, S.2.1, vp_updL S.2.2 n x)
theorem tab_lt : ∀ q ∈ fs_tab, 0 < q.1 ∧ q.1 < 50 ∧ q.1 ≠ 39 ∧ q.2 ≤ 65536 ∧ q.1 ≠ 36 ∧ q.1 ≠ 49 := by decide
theorem ztab_lt : ∀ q ∈ fs_ztab, 0 < q.1 ∧ q.1 < 50 ∧ q.1 ≠ 39 ∧ q.2 ≤ 65536 := by decide
theorem tab_u : ∀ q ∈ fs_tab, ∀ p ∈ fs_tab, q.1 = p.1 → q.2 = p.2 := by decide
theorem ztab_u : ∀ q ∈ fs_ztab, ∀ p ∈ fs_ztab, q.1 = p.1 → q.2 = p.2 := by decide
theorem zt_ne : ∀ q ∈ fs_ztab, ∀ p ∈ fs_tab, q.1 ≠ p.1 := by decide
theorem rb_a {A : Nat → Nat} {S : fs_R} {F : List fs_C} {σ : fs_S} (h : fs_Rb A S F σ) {k n : Nat} (hk : (k, n) ∈ fs_tab) : σ.1 (A k) = some (fs_ia n (S.2.1 k)) := by
  obtain ⟨-, H, h1, h2, h3, h4, h5⟩ := h
  exact own_at h1 (List.mem_append_left _ (h3 (k, n) hk))
theorem rb_z {A : Nat → Nat} {S : fs_R} {F : List fs_C} {σ : fs_S} (h : fs_Rb A S F σ) {k n : Nat} (hk : (k, n) ∈ fs_ztab) : σ.1 (A k) = some (fs_za n (S.2.1 k)) := by
  obtain ⟨-, H, h1, h2, h3, h4, h5⟩ := h
  exact own_at h1 (List.mem_append_left _ (h4 (k, n) hk))
theorem rb_j {A : Nat → Nat} {S : fs_R} {F : List fs_C} {σ : fs_S} (h : fs_Rb A S F σ) : σ.1 (A 39) = some (fs_ja 640 S.2.2) := by
  obtain ⟨-, H, h1, h2, h3, h4, h5⟩ := h
  exact own_at h1 (List.mem_append_left _ h5)
theorem rb_o {A : Nat → Nat} {S : fs_R} {F : List fs_C} {σ : fs_S} (h : fs_Rb A S F σ) : σ.1 (A 0) = some (fs_rfo A S.1) := by
  obtain ⟨-, H, h1, h2, h3, h4, h5⟩ := h
  exact own_at h1 (List.mem_append_left _ h2)
theorem rb_pi {A : Nat → Nat} {S : fs_R} {F : List fs_C} {σ : fs_S} (h : fs_Rb A S F σ) (s : Nat → Int32) : fs_Rb A (s, S.2) F (fs_su σ (A 0) (fs_rfo A s)) := by
  obtain ⟨hA, H, h1, h2, h3, h4, h5⟩ := h
  refine ⟨hA, H.map (fs_rep (A 0) (fs_rfo A s)), own_rep h1 h2, rep_eq h2, fun q hq => rep_ne (h3 q hq) (fun z => ?_), fun q hq => rep_ne (h4 q hq) (fun z => ?_), rep_ne h5 (fun z => ?_)⟩
  · have := hA _ _ (tab_lt q hq).2.1 (by decide) z
    have := (tab_lt q hq).1
    omega
  · have := hA _ _ (ztab_lt q hq).2.1 (by decide) z
    have := (ztab_lt q hq).1
    omega
  · have := hA _ _ (by decide) (by decide) z
    omega
theorem rb_si {A : Nat → Nat} {S : fs_R} {F : List fs_C} {σ : fs_S} (h : fs_Rb A S F σ) {k n : Nat} (hk : (k, n) ∈ fs_tab) (f : Nat → Int32) : fs_Rb A (S.1, va_up S.2.1 k f, S.2.2) F (fs_su σ (A k) (fs_ia n f)) := by
  obtain ⟨hA, H, h1, h2, h3, h4, h5⟩ := h
  have hkl := tab_lt (k, n) hk
  refine ⟨hA, H.map (fs_rep (A k) (fs_ia n f)), own_rep h1 (h3 _ hk), rep_ne h2 (fun z => ?_), fun q hq => ?_, fun q hq => ?_, rep_ne h5 (fun z => ?_)⟩
  · have := hA _ _ (by decide) hkl.2.1 z
    have := hkl.1
    dsimp only at *
    omega
  · by_cases hqk : q.1 = k
    · have hq2 : q.2 = n := tab_u q hq (k, n) hk hqk
      show (A q.1, fs_ia q.2 (va_up S.2.1 k f q.1)) ∈ _
      rw [hqk, hq2, va_up_self]
      exact rep_eq (h3 _ hk)
    · show (A q.1, fs_ia q.2 (va_up S.2.1 k f q.1)) ∈ _
      rw [va_up_ne _ _ hqk]
      exact rep_ne (h3 q hq) (fun z => hqk (hA _ _ (tab_lt q hq).2.1 hkl.2.1 z))
  · have hqk : q.1 ≠ k := fun z => by
      have := zt_ne q hq (k, n) hk
      exact this z
    show (A q.1, fs_za q.2 (va_up S.2.1 k f q.1)) ∈ _
    rw [va_up_ne _ _ hqk]
    exact rep_ne (h4 q hq) (fun z => hqk (hA _ _ (ztab_lt q hq).2.1 hkl.2.1 z))
  · have := hA _ _ (by decide) hkl.2.1 z
    exact hkl.2.2.1 this.symm
theorem rb_sz {A : Nat → Nat} {S : fs_R} {F : List fs_C} {σ : fs_S} (h : fs_Rb A S F σ) {k n : Nat} (hk : (k, n) ∈ fs_ztab) (f : Nat → Int32) : fs_Rb A (S.1, va_up S.2.1 k f, S.2.2) F (fs_su σ (A k) (fs_za n f)) := by
  obtain ⟨hA, H, h1, h2, h3, h4, h5⟩ := h
  have hkl := ztab_lt (k, n) hk
  refine ⟨hA, H.map (fs_rep (A k) (fs_za n f)), own_rep h1 (h4 _ hk), rep_ne h2 (fun z => ?_), fun q hq => ?_, fun q hq => ?_, rep_ne h5 (fun z => ?_)⟩
  · have := hA _ _ (by decide) hkl.2.1 z
    have := hkl.1
    dsimp only at *
    omega
  · have hqk : q.1 ≠ k := fun z => zt_ne (k, n) hk q hq z.symm
    show (A q.1, fs_ia q.2 (va_up S.2.1 k f q.1)) ∈ _
    rw [va_up_ne _ _ hqk]
    exact rep_ne (h3 q hq) (fun z => hqk (hA _ _ (tab_lt q hq).2.1 hkl.2.1 z))
  · by_cases hqk : q.1 = k
    · have hq2 : q.2 = n := ztab_u q hq (k, n) hk hqk
      show (A q.1, fs_za q.2 (va_up S.2.1 k f q.1)) ∈ _
      rw [hqk, hq2, va_up_self]
      exact rep_eq (h4 _ hk)
    · show (A q.1, fs_za q.2 (va_up S.2.1 k f q.1)) ∈ _
      rw [va_up_ne _ _ hqk]
      exact rep_ne (h4 q hq) (fun z => hqk (hA _ _ (ztab_lt q hq).2.1 hkl.2.1 z))
  · have := hA _ _ (by decide) hkl.2.1 z
    exact hkl.2.2.1 this.symm
theorem rb_sj {A : Nat → Nat} {S : fs_R} {F : List fs_C} {σ : fs_S} (h : fs_Rb A S F σ) (f : Nat → Int64) : fs_Rb A (S.1, S.2.1, f) F (fs_su σ (A 39) (fs_ja 640 f)) := by
  obtain ⟨hA, H, h1, h2, h3, h4, h5⟩ := h
  refine ⟨hA, H.map (fs_rep (A 39) (fs_ja 640 f)), own_rep h1 h5, rep_ne h2 (fun z => ?_), fun q hq => rep_ne (h3 q hq) (fun z => ?_), fun q hq => rep_ne (h4 q hq) (fun z => ?_), rep_eq h5⟩
  · have := hA _ _ (by decide) (by decide) z
    omega
  · exact (tab_lt q hq).2.2.1 (hA _ _ (tab_lt q hq).2.1 (by decide) z)
  · exact (ztab_lt q hq).2.2.1 (hA _ _ (ztab_lt q hq).2.1 (by decide) z)
/-! what a program does to the block -/
def fs_W {α : Type} (A : Nat → Nat) (x : fs_T α) (S : fs_R) (Q : α → fs_R → Prop) : Prop := ∀ F σ, fs_Rb A S F σ → ∃ r S1 σ1, x.1 σ = some (r, σ1) ∧ fs_Rb A S1 F σ1 ∧ fs_st σ σ1 0 0 ∧ Q r S1
theorem w_ret {α : Type} {A : Nat → Nat} {a : α} {S : fs_R} {Q : α → fs_R → Prop} (h : Q a S) : fs_W A (fs_ret a) S Q := fun _ σ hb => ⟨a, S, σ, rfl, hb, st_rf σ, h⟩
theorem w_rz {A : Nat → Nat} {a : Int32} {S : fs_R} {Q : Int32 → fs_R → Prop} (ha : a = 0 ∨ a = 1) (h : Q a S) : fs_W A (fs_rz a) S Q := fun _ σ hb => ⟨a, S, σ, by unfold fs_rz; rw [if_pos ha]; rfl, hb, st_rf σ, h⟩
theorem w_b {α β : Type} {A : Nat → Nat} {x : fs_T α} {k : α → fs_T β} {S : fs_R} {Q : β → fs_R → Prop} {P : α → fs_R → Prop} (h : fs_W A x S P) (hk : ∀ r S1, P r S1 → fs_W A (k r) S1 Q) : fs_W A (fs_bind x k) S Q := fun F σ hb => by
  obtain ⟨r, S1, σ1, h1, h2, h3, h4⟩ := h F σ hb
  obtain ⟨r2, S2, σ2, k1, k2, k3, k4⟩ := hk r S1 h4 F σ1 h2
  exact ⟨r2, S2, σ2, r_b h1 k1, k2, st_tr h3 k3, k4⟩
theorem w_mono {α : Type} {A : Nat → Nat} {x : fs_T α} {S : fs_R} {P Q : α → fs_R → Prop} (h : fs_W A x S P) (hk : ∀ r S1, P r S1 → Q r S1) : fs_W A x S Q := fun F σ hb => by
  obtain ⟨r, S1, σ1, h1, h2, h3, h4⟩ := h F σ hb
  exact ⟨r, S1, σ1, h1, h2, h3, hk r S1 h4⟩
theorem w_cv {α : Type} {A : Nat → Nat} {x : fs_T α} {S : fs_R} {Q : α → fs_R → Prop} (h : fs_W A x S Q) : fs_W A (fs_cv (A 0) 12 x) S Q := fun F σ hb => by
  obtain ⟨r, S1, σ1, h1, h2⟩ := h F σ hb
  exact ⟨r, S1, σ1, r_cv (rb_o hb) h1, h2⟩
theorem w_l {α β : Type} {A : Nat → Nat} {x : β} {k : β → fs_T α} {S : fs_R} {Q : α → fs_R → Prop} (h : fs_W A (k x) S Q) : fs_W A (fs_let x k) S Q := h
theorem w_m {α β : Type} {A : Nat → Nat} {x : β} {k : β → fs_T α} {S : fs_R} {Q : α → fs_R → Prop} (h : fs_W A (k x) S Q) : fs_W A (fs_nm x k) S Q := h
theorem w_i {α : Type} {A : Nat → Nat} {c : Prop} [Decidable c] {x y : fs_T α} {S : fs_R} {Q : α → fs_R → Prop} (h1 : c → fs_W A x S Q) (h2 : ¬ c → fs_W A y S Q) : fs_W A (if c then x else y) S Q := by
  by_cases h : c
  · rw [if_pos h]; exact h1 h
  · rw [if_neg h]; exact h2 h
theorem w_p {α : Type} {A : Nat → Nat} {c : Prop} [Decidable c] {x y : fs_T α} {S : fs_R} {Q : α → fs_R → Prop} (h : c) (h1 : fs_W A x S Q) : fs_W A (if c then x else y) S Q := by rw [if_pos h]; exact h1
theorem w_n {α : Type} {A : Nat → Nat} {c : Prop} [Decidable c] {x y : fs_T α} {S : fs_R} {Q : α → fs_R → Prop} (h : ¬ c) (h1 : fs_W A y S Q) : fs_W A (if c then x else y) S Q := by rw [if_neg h]; exact h1
theorem w_gr {β : Type} {A : Nat → Nat} {K : Nat → fs_T β} {S : fs_R} {Q : β → fs_R → Prop} (k : Nat) (hf : (match fs_rfo A S.1 with
    | .inr (_, fs) => fs[k]?
    | .inl _ => none) = some (.ref (A k))) (h : fs_W A (K (A k)) S Q) : fs_W A (fs_bind (fs_gr (A 0) 12 k) K) S Q := fun F σ hb => by
  obtain ⟨r, S1, σ1, h1, h2⟩ := h F σ hb
  exact ⟨r, S1, σ1, r_b (x_gr (rb_o hb) k hf) h1, h2⟩
theorem w_gi {β : Type} {A : Nat → Nat} {K : Int32 → fs_T β} {S : fs_R} {Q : β → fs_R → Prop} (k : Nat) (hf : (match fs_rfo A S.1 with
    | .inr (_, fs) => fs[k]?
    | .inl _ => none) = some (.int (S.1 k))) (h : fs_W A (K (S.1 k)) S Q) : fs_W A (fs_bind (fs_gi (A 0) 12 k) K) S Q := fun F σ hb => by
  obtain ⟨r, S1, σ1, h1, h2⟩ := h F σ hb
  exact ⟨r, S1, σ1, r_b (x_gi (rb_o hb) k hf) h1, h2⟩
theorem w_pi {β : Type} {A : Nat → Nat} {K : Unit → fs_T β} {S : fs_R} {Q : β → fs_R → Prop} (k : Nat) {x : Int32} (hf : (match fs_rfo A S.1 with
    | .inr (c, fs) => (.inr (c, fs.set k (.int x)) : fs_E)
    | .inl e => .inl e) = fs_rfo A (upd S.1 k x)) (hk : k < 50) (h : fs_W A (K ()) (r_pi_ S k x) Q) : fs_W A (fs_bind (fs_pi (A 0) 12 k x) K) S Q := fun F σ hb => by
  have hb2 := rb_pi hb (upd S.1 k x)
  obtain ⟨r, S1, σ1, h1, h2, h3, h4⟩ := h F _ hb2
  refine ⟨r, S1, σ1, r_b (v := ()) (σ1 := fs_su σ (A 0) (fs_rfo A (upd S.1 k x))) ?_ h1, h2, st_tr (st_su _ _ _) h3, h4⟩
  rw [← hf]
  exact x_pi (rb_o hb) k x hk
theorem w_ai {β : Type} {A : Nat → Nat} {K : Int32 → fs_T β} {S : fs_R} {Q : β → fs_R → Prop} {k n j : Nat} {i : Int32} (hk : (k, n) ∈ fs_tab) (hi : i = Int32.ofNat j) (hj : j < n) (h : fs_W A (K (S.2.1 k j)) S Q) : fs_W A (fs_bind (fs_ai (A k) i) K) S Q := fun F σ hb => by
  obtain ⟨r, S1, σ1, h1, h2⟩ := h F σ hb
  exact ⟨r, S1, σ1, r_b (x_ai (x_lk (rb_a hb hk)) hi hj (tab_lt (k, n) hk).2.2.2.1) h1, h2⟩
theorem w_si {β : Type} {A : Nat → Nat} {K : Unit → fs_T β} {S : fs_R} {Q : β → fs_R → Prop} {k n j : Nat} {i x : Int32} (hk : (k, n) ∈ fs_tab) (hi : i = Int32.ofNat j) (hj : j < n) (h : fs_W A (K ()) (r_si_ S k j x) Q) : fs_W A (fs_bind (fs_si (A k) i x) K) S Q := fun F σ hb => by
  obtain ⟨r, S1, σ1, h1, h2, h3, h4⟩ := h F _ (rb_si hb hk (upd (S.2.1 k) j x))
  exact ⟨r, S1, σ1, r_b (x_si (rb_a hb hk) hi hj (tab_lt (k, n) hk).2.2.2.1) h1, h2, st_tr (st_su _ _ _) h3, h4⟩
theorem w_az {β : Type} {A : Nat → Nat} {K : Int32 → fs_T β} {S : fs_R} {Q : β → fs_R → Prop} {k n j : Nat} {i : Int32} (hk : (k, n) ∈ fs_ztab) (hi : i = Int32.ofNat j) (hj : j < n) (h : fs_W A (K (S.2.1 k j)) S Q) : fs_W A (fs_bind (fs_az (A k) i) K) S Q := fun F σ hb => by
  obtain ⟨r, S1, σ1, h1, h2⟩ := h F σ hb
  exact ⟨r, S1, σ1, r_b (x_az (rb_z hb hk) hi hj (ztab_lt (k, n) hk).2.2.2) h1, h2⟩
theorem w_sz {β : Type} {A : Nat → Nat} {K : Unit → fs_T β} {S : fs_R} {Q : β → fs_R → Prop} {k n j : Nat} {i x : Int32} (hk : (k, n) ∈ fs_ztab) (hx : x = 0 ∨ x = 1) (hi : i = Int32.ofNat j) (hj : j < n) (h : fs_W A (K ()) (r_si_ S k j x) Q) : fs_W A (fs_bind (fs_sz (A k) i x) K) S Q := fun F σ hb => by
  obtain ⟨r, S1, σ1, h1, h2, h3, h4⟩ := h F _ (rb_sz hb hk (upd (S.2.1 k) j x))
  exact ⟨r, S1, σ1, r_b (x_sz (rb_z hb hk) hx hi hj (ztab_lt (k, n) hk).2.2.2) h1, h2, st_tr (st_su _ _ _) h3, h4⟩
theorem w_aj {β : Type} {A : Nat → Nat} {K : Int64 → fs_T β} {S : fs_R} {Q : β → fs_R → Prop} {j : Nat} {i : Int32} (hi : i = Int32.ofNat j) (hj : j < 640) (h : fs_W A (K (S.2.2 j)) S Q) : fs_W A (fs_bind (fs_aj (A 39) i) K) S Q := fun F σ hb => by
  obtain ⟨r, S1, σ1, h1, h2⟩ := h F σ hb
  exact ⟨r, S1, σ1, r_b (x_aj (rb_j hb) hi hj (by decide)) h1, h2⟩
theorem w_sj {β : Type} {A : Nat → Nat} {K : Unit → fs_T β} {S : fs_R} {Q : β → fs_R → Prop} {j : Nat} {i : Int32} {x : Int64} (hi : i = Int32.ofNat j) (hj : j < 640) (h : fs_W A (K ()) (r_sj_ S j x) Q) : fs_W A (fs_bind (fs_sj (A 39) i x) K) S Q := fun F σ hb => by
  obtain ⟨r, S1, σ1, h1, h2, h3, h4⟩ := h F _ (rb_sj hb (vp_updL S.2.2 j x))
  exact ⟨r, S1, σ1, r_b (x_sj (rb_j hb) hi hj (by decide)) h1, h2, st_tr (st_su _ _ _) h3, h4⟩
theorem w_lp1 {X α : Type} {A : Nat → Nat} {n : Nat} {b : (X → fs_T α) → X → fs_T α} {x : X} {S : fs_R} {Q : α → fs_R → Prop} (h : fs_W A (b (fs_lp1 n b) x) S Q) : fs_W A (fs_lp1 (n + 1) b x) S Q := h
theorem w_lp2 {X Y α : Type} {A : Nat → Nat} {n : Nat} {b : (X → Y → fs_T α) → X → Y → fs_T α} {x : X} {y : Y} {S : fs_R} {Q : α → fs_R → Prop} (h : fs_W A (b (fs_lp2 n b) x y) S Q) : fs_W A (fs_lp2 (n + 1) b x y) S Q := h
theorem w_lp3 {X Y Z α : Type} {A : Nat → Nat} {n : Nat} {b : (X → Y → Z → fs_T α) → X → Y → Z → fs_T α} {x : X} {y : Y} {z : Z} {S : fs_R} {Q : α → fs_R → Prop} (h : fs_W A (b (fs_lp3 n b) x y z) S Q) : fs_W A (fs_lp3 (n + 1) b x y z) S Q := h
theorem w_lp4 {X Y Z V α : Type} {A : Nat → Nat} {n : Nat} {b : (X → Y → Z → V → fs_T α) → X → Y → Z → V → fs_T α} {x : X} {y : Y} {z : Z} {u : V} {S : fs_R} {Q : α → fs_R → Prop} (h : fs_W A (b (fs_lp4 n b) x y z u) S Q) : fs_W A (fs_lp4 (n + 1) b x y z u) S Q := h
