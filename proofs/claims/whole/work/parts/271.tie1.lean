/-! flows: a call's answer and what it leaves, on both sides -/
def fs_ag {α β : Type} (l : List (String × Int32)) (ok : α → β → Prop) (a : α ⊕ String) (r : β) (th : Int32) : Prop := match a with
  | .inl v => th = 0 ∧ ok v r
  | .inr e => (e, th) ∈ l
def fs_Sp {α β : Type} (k c1 : Nat) (A B : Nat → Nat) (F : List fs_C) (σ : fs_S) (S : fs_R) (pc : fs_T (α ⊕ String)) (pr : fs_T β) (l : List (String × Int32)) (ok : α → β → Prop) : Prop := ∃ ans Z, fs_Rn c1 A F σ pc ans Z ∧ fs_W B pr S fun r S1 => fs_In (k + 1) Z S1 ∧ fs_ag l ok ans r (S1.1 0)
theorem sp_f {α β : Type} {k c1 : Nat} {A B : Nat → Nat} {F : List fs_C} {σ : fs_S} {S : fs_R} {Z : fs_Z} {pc : fs_T (α ⊕ String)} {pr : fs_T β} {l : List (String × Int32)} {ok : α → β → Prop} {e : String} {c : Int32} (hI : fs_In k Z S) (h1 : fs_Rn c1 A F σ pc (.inr e) Z) (h2 : fs_W B pr S fun _ S1 => S1 = r_pi_ S 0 c) (hl : (e, c) ∈ l) : fs_Sp k c1 A B F σ S pc pr l ok := ⟨_, Z, h1, w_mono h2 fun r S1 h => by
  subst h
  exact ⟨in_same c hI, hl⟩⟩
theorem sp_r {α β : Type} {k c1 : Nat} {A B : Nat → Nat} {F : List fs_C} {σ : fs_S} {S : fs_R} {Z : fs_Z} {pc : fs_T (α ⊕ String)} {pr : fs_T β} {l : List (String × Int32)} {ok : α → β → Prop} {v : α} {r0 : β} (hI : fs_In k Z S) (h1 : fs_Rn c1 A F σ pc (.inl v) Z) (h2 : fs_W B pr S fun r S1 => S1 = r_pi_ S 0 0 ∧ r = r0) (ho : ok v r0) : fs_Sp k c1 A B F σ S pc pr l ok := ⟨_, Z, h1, w_mono h2 fun r S1 h => by
  obtain ⟨rfl, rfl⟩ := h
  exact ⟨in_same 0 hI, rfl, ho⟩⟩
/-- small numbers out of a range -/
theorem i_rng {y : Int32} {n : Nat} (h0 : ¬ y < 0) (h1 : y ≤ Int32.ofNat n) (hn : n < 2 ^ 31) : ∃ m, m ≤ n ∧ y = Int32.ofNat m := ⟨y.toNatClampNeg, i_le h1 hn, (i_toN h0).1⟩
theorem i_neg1 {y : Int32} (h : ¬ y < 1) : ¬ y < 0 := fun z => h (Int32.lt_trans z (by decide))
theorem fv_ed {k t w : Nat} {v : Nat → Int32} (h : fs_fv k v) (ht : t ≤ fs_bd_ k) (hw : w ≤ fs_bd_ k) : fs_fv k (upd (upd v 7 (Int32.ofNat t)) 8 (Int32.ofNat w)) := by
  refine ⟨fun i hi => ?_, fun i hi => ?_⟩
  · rw [up_miss (by omega), up_miss (by omega)]
    exact h.1 i hi
  · by_cases h8 : i = 8
    · rw [h8, up_hit]
      exact ⟨w, hw, rfl⟩
    · rw [up_miss h8]
      by_cases h7 : i = 7
      · rw [h7, up_hit]
        exact ⟨t, ht, rfl⟩
      · rw [up_miss h7]
        exact h.2 i hi
theorem fv_ad {k t z : Nat} {v : Nat → Int32} (h : fs_fv k v) (ht : t ≤ 100 * k) (hz : z ≤ 9999) : fs_fv (k + 1) (upd (upd (upd v 4 (v 4 + Int32.ofNat z)) 5 (v 5 + 1)) 6 (Int32.ofNat t)) := by
  refine ⟨fun i hi => ?_, fun i hi => ?_⟩
  · rw [up_miss (by omega), up_miss (by omega), up_miss (by omega)]
    exact h.1 i hi
  · obtain ⟨n, h1, h2⟩ := h.2 i hi
    unfold fs_bd_ at *
    by_cases h6 : i = 6
    · rw [h6, up_hit]
      exact ⟨t, by omega, rfl⟩
    · rw [up_miss h6]
      by_cases h5 : i = 5
      · subst h5
        rw [up_hit, h2, ofNat_add1]
        exact ⟨n + 1, by omega, rfl⟩
      · rw [up_miss h5]
        by_cases h4 : i = 4
        · subst h4
          rw [up_hit, h2, n_a]
          exact ⟨n + z, by omega, rfl⟩
        · rw [up_miss h4]
          exact ⟨n, by omega, h2⟩
theorem fv_nf {k t a b c : Nat} (ha : a ≤ 255) (hb : b ≤ 255) (hc : c ≤ 255) (ht : t ≤ 100 * k) : fs_fv k (fs_nf (Int32.ofNat a) (Int32.ofNat b) (Int32.ofNat c) (Int32.ofNat t)) := by
  refine ⟨fun i hi => ?_, fun i hi => ?_⟩
  · match i, hi with
    | 0, _ => exact ⟨a, ha, rfl⟩
    | 1, _ => exact ⟨b, hb, rfl⟩
    | 2, _ => exact ⟨c, hc, rfl⟩
    | n + 3, h => exact absurd h (by omega)
  · unfold fs_bd_
    match i, hi with
    | 0, _ => exact ⟨a, by omega, rfl⟩
    | 1, _ => exact ⟨b, by omega, rfl⟩
    | 2, _ => exact ⟨c, by omega, rfl⟩
    | 3, _ => exact ⟨t, by omega, rfl⟩
    | n + 4, _ => exact ⟨0, by omega, rfl⟩
theorem rs_sm (t : Int32) (v : Nat → Int32) : ∃ w, w ≤ 2 ∧ fs_rs t v = Int32.ofNat w := by
  unfold fs_rs
  split
  · split
    · exact ⟨0, by omega, rfl⟩
    · exact ⟨2, by omega, rfl⟩
  · exact ⟨1, by omega, rfl⟩
/-! ticks -/
theorem tks_s (i : Nat) (hi : i ≠ 4) : ∀ (m : Nat) (X : (Nat → Int32) × fs_Fs × fs_Fs), (fs_tks m X).1 i = X.1 i
  | 0, _ => rfl
  | m + 1, X => by
    have e1 : fs_tks (m + 1) X = fs_tks m (upd X.1 4 (X.1 4 + 1), fs_kp (X.1 4 + 1) X.2.1, X.2.2 ++ fs_gn (X.1 4 + 1) X.2.1) := rfl
    rw [e1, tks_s i hi m]
    exact up_miss hi _
theorem tks_all {k : Nat} : ∀ (m : Nat) (X : (Nat → Int32) × fs_Fs × fs_Fs) (t : Nat), X.1 4 = Int32.ofNat t → t + m ≤ fs_bd_ k → (∀ q ∈ X.2.1, fs_fv k q.2) → (∀ q ∈ X.2.2, fs_fv k q.2) → (fs_tks m X).1 4 = Int32.ofNat (t + m) ∧ (fs_tks m X).2.1.length ≤ X.2.1.length ∧ (∀ q ∈ (fs_tks m X).2.1, fs_fv k q.2) ∧ ∀ q ∈ (fs_tks m X).2.2, fs_fv k q.2
  | 0, X, t, h1, _, h3, h4 => ⟨h1, Nat.le_refl _, h3, h4⟩
  | m + 1, X, t, h1, h2, h3, h4 => by
    have e1 : fs_tks (m + 1) X = fs_tks m (upd X.1 4 (X.1 4 + 1), fs_kp (X.1 4 + 1) X.2.1, X.2.2 ++ fs_gn (X.1 4 + 1) X.2.1) := rfl
    rw [e1]
    have hB : 255 ≤ fs_bd_ k := by unfold fs_bd_; omega
    obtain ⟨a, b, c, d⟩ := tks_all m (upd X.1 4 (X.1 4 + 1), fs_kp (X.1 4 + 1) X.2.1, X.2.2 ++ fs_gn (X.1 4 + 1) X.2.1) (t + 1) ((up_hit X.1 4 (X.1 4 + 1)).trans (by rw [h1, ofNat_add1])) (by omega) (fun q hq => h3 q (kp_mem hq)) (fun q hq => by
      rcases List.mem_append.mp hq with hq | hq
      · exact h4 q hq
      · obtain ⟨p, hp, rfl⟩ := List.mem_map.mp hq
        obtain ⟨w, hw, e⟩ := rs_sm (X.1 4 + 1) p.2
        show fs_fv k (upd (upd p.2 7 (X.1 4 + 1)) 8 (fs_rs (X.1 4 + 1) p.2))
        rw [e, h1, ofNat_add1]
        exact fv_ed (h3 p (List.mem_filter.mp hp).1) (by omega) (by omega))
    refine ⟨by rw [a, show t + 1 + m = t + (m + 1) by omega], Nat.le_trans b ?_, c, d⟩
    have := kg_len (X.1 4 + 1) X.2.1
    show (fs_kp (X.1 4 + 1) X.2.1).length ≤ _
    omega
/-- exporter x: flows and numbers changed, slots not -/
theorem ix_fl {k n x : Nat} {X : fs_Xs} {s : Nat → Int32} {C E : fs_Fs} {S S1 : fs_R} (h : fs_IX k n x X S) (h1 : fs_I1 (k + 1) n x s S1.2.1) (h2 : fs_I2 (k + 1) x C E S1.2.1) (h8 : s 8 = X.1 8) (e24 : S1.1 24 = S.1 24) (e : ∀ a j, 15 ≤ a → a ≤ 23 → S1.2.1 a j = S.2.1 a j) : fs_IX (k + 1) n x (s, C, E, X.2.2.2) S1 := by
  refine ⟨h1, h2, i3_cg (i3_mono h.2.2.1) (fun a j g => e a j (by unfold fs_rg3 at g; omega) (by unfold fs_rg3 at g; omega)), ?_⟩
  have := i4_cg (S1 := S1) h.2.2.1.1.1 h.2.2.2 (fun j _ _ => e 23 j (by decide) (by decide)) (Or.inl e24)
  show fs_I4 (k + 1) x (s 8) X.2.2.2 S1
  rw [h8]
  exact this
theorem l40 {k : Nat} {Z : fs_Z} {S : fs_R} (h : fs_In k Z S) : ∀ n, n < 2 → (z_X Z n).2.1.length + (z_X Z n).2.2.1.length < 40 := fun n hn => by
  have := (h.1 n hn).2.1.2.2.1
  omega
theorem e0_of {S S1 : fs_R} {c : Int32} (h : S1.1 = upd S.1 0 c) : ∀ a, a ≠ 0 → S1.1 a = S.1 a := fun a ha => by rw [h, up_miss ha]
theorem st_tick {k c1 : Nat} {A B : Nat → Nat} {Z : fs_Z} {h F : List fs_C} {σ : fs_S} {S : fs_R} (hI : fs_In k Z S) (hX : fs_WF c1 A Z h) (ho : fs_own (h ++ F) σ) (hc : fs_kc c1 σ) (x y : Int32) :
    fs_Sp k c1 A B F σ S (fs_cv (A 7) 0 (f_Fs_tick (A 7) x y)) (fs_cv (B 0) 12 (f_Rf_tick (B 0) x y)) [(fs_IAE, 1)] (fun v r => v = r) := by
  obtain ⟨b1, b2⟩ := c_tick hX ho hc x y (l40 hI)
  by_cases hb : ¬ (x = 0 ∨ x = 1) ∨ y < 1 ∨ ¬ y ≤ 100
  · exact sp_f hI (b1 hb) (rt_bad hb) List.mem_cons_self
  · have hx : x = 0 ∨ x = 1 := Decidable.not_not.mp fun z => hb (Or.inl z)
    have hy1 : ¬ y < 1 := fun z => hb (Or.inr (Or.inl z))
    have hy2 : y ≤ 100 := Decidable.not_not.mp fun z => hb (Or.inr (Or.inr z))
    obtain ⟨n, hn, rfl⟩ := x01 hx
    obtain ⟨m, hm, rfl⟩ := i_rng (n := 100) (i_neg1 hy1) hy2 (by decide)
    have hm1 : 1 ≤ m := Decidable.not_not.mp fun z => hy1 ((n_lt (y := 1) (by omega) (by decide)).mpr (by omega))
    have hx3 := hI.1 n hn
    obtain ⟨⟨i0, ⟨t, t1, t2, t3⟩, i5, i6, i9, i10⟩, ⟨f1, f2, f3, f4, f5⟩, -, -⟩ := hI.1 n hn
    refine ⟨_, _, b2 n m hn rfl rfl hm1 hm, w_mono (rt_ok hn hm1 hm f1 t3 f2 f3 (fun q hq => (f4 q hq).1)) fun r S1 ⟨g1, g2, g3, g4, g5, g6⟩ => ⟨in_x hn hI (ix_fl hx3 ?_ ?_ ?_ (e0_of g2 24 (by decide)) ?_) (fun a h1 _ => e0_of g2 a h1) (Or.inl (e0_of g2 24 (by decide))) ?_ g3, ?_, g1.symm⟩⟩
    · have ot : ∀ a, 2 ≤ a → a ≤ 6 → S1.2.1 a n = S.2.1 a n := fun a h1 h2 => g6 a n (by unfold fs_reg; omega) (by omega)
      obtain ⟨q1, -⟩ := tks_all (k := k + 1) m ((z_X Z n).1, (z_X Z n).2.1, (z_X Z n).2.2.1) t t2 (by unfold fs_bd_; omega) (fun q hq => fv_mono (f4 q hq)) (fun q hq => fv_mono (f5 q hq))
      refine ⟨?_, ⟨t + m, by omega, q1, g5⟩, ?_, ?_, ?_, ?_⟩
      · rw [tks_s 0 (by decide)]; exact i0
      · rw [tks_s 5 (by decide), ot 2 (by decide) (by decide)]; exact i5
      · rw [tks_s 6 (by decide), tks_s 7 (by decide), ot 3 (by decide) (by decide), ot 4 (by decide) (by decide)]; exact i6
      · rw [tks_s 9 (by decide), ot 5 (by decide) (by decide)]; exact i9
      · rw [tks_s 10 (by decide), ot 6 (by decide) (by decide)]; exact i10
    · obtain ⟨-, q2, q3, q4⟩ := tks_all (k := k + 1) m ((z_X Z n).1, (z_X Z n).2.1, (z_X Z n).2.2.1) t t2 (by unfold fs_bd_; omega) (fun q hq => fv_mono (f4 q hq)) (fun q hq => fv_mono (f5 q hq))
      have ln := (tks_len m ((z_X Z n).1, (z_X Z n).2.1, (z_X Z n).2.2.1)).1
      exact ⟨g4, Nat.le_trans q2 f2, by rw [ln]; exact f3, q3, q4⟩
    · exact tks_s 8 (by decide) _ _
    · exact fun a j h1 h2 => g6 a j (by unfold fs_reg; omega) (by omega)
    · exact fun a j h1 h2 h3 => g6 a j h2 (fun z => h1 ⟨by omega, by omega, z.2⟩)
    · rw [g2]; rfl
theorem st_flush {k c1 : Nat} {A B : Nat → Nat} {Z : fs_Z} {h F : List fs_C} {σ : fs_S} {S : fs_R} (hI : fs_In k Z S) (hX : fs_WF c1 A Z h) (ho : fs_own (h ++ F) σ) (hc : fs_kc c1 σ) (x : Int32) :
    fs_Sp k c1 A B F σ S (fs_cv (A 7) 0 (f_Fs_flush (A 7) x)) (fs_cv (B 0) 12 (f_Rf_flush (B 0) x)) [(fs_IAE, 1)] (fun v r => v = r) := by
  obtain ⟨b1, b2⟩ := c_flush hX ho hc x (l40 hI)
  by_cases hx : x = 0 ∨ x = 1
  · obtain ⟨n, hn, rfl⟩ := x01 hx
    have hx3 := hI.1 n hn
    obtain ⟨i1, ⟨f1, f2, f3, f4, f5⟩, -, -⟩ := hI.1 n hn
    have i1b := i1
    obtain ⟨i0, ⟨t, t1, t2, t3⟩, -⟩ := i1b
    refine ⟨_, _, b2 n hn rfl, w_mono (rf_ok hn f1 t3 f2 f3 (fun q hq => (f4 q hq).1)) fun r S1 ⟨g1, g2, g3, g4, g6⟩ => ⟨in_x hn hI (ix_fl hx3 ?_ ?_ rfl (e0_of g2 24 (by decide)) ?_) (fun a h1 _ => e0_of g2 a h1) (Or.inl (e0_of g2 24 (by decide))) ?_ g3, ?_, g1.symm⟩⟩
    · exact i1_cg (i1_mono i1 (Nat.le_refl _)) fun a h1 h2 => g6 a n (by unfold fs_reg; omega)
    · refine ⟨g4, by simp, ?_, fun q hq => absurd hq List.not_mem_nil, fun q hq => ?_⟩
      · rw [List.length_append, List.length_map]
        show 0 + _ ≤ 20
        omega
      · rcases List.mem_append.mp hq with hq | hq
        · exact fv_mono (f5 q hq)
        · obtain ⟨p, hp, rfl⟩ := List.mem_map.mp hq
          show fs_fv (k + 1) (upd (upd p.2 7 ((z_X Z n).1 4)) 8 5)
          rw [t2]
          exact fv_ed (w := 5) (fv_mono (f4 p hp)) (by unfold fs_bd_; omega) (by unfold fs_bd_; omega)
    · exact fun a j h1 h2 => g6 a j (by unfold fs_reg; omega)
    · exact fun a j h1 h2 h3 => g6 a j h2
    · rw [g2]; rfl
  · exact sp_f hI (b1 hx) (rf_bad hx) List.mem_cons_self
theorem r_si_at (S : fs_R) (k j : Nat) (x : Int32) : (r_si_ S k j x).2.1 k = upd (S.2.1 k) j x := va_up_self _ _ _
theorem r_si_ne {S : fs_R} {k j a : Nat} {x : Int32} (h : a ≠ k) : (r_si_ S k j x).2.1 a = S.2.1 a := va_up_ne _ _ h
theorem st_sampler {k c1 : Nat} {A B : Nat → Nat} {Z : fs_Z} {h F : List fs_C} {σ : fs_S} {S : fs_R} (hI : fs_In k Z S) (hX : fs_WF c1 A Z h) (ho : fs_own (h ++ F) σ) (x y : Int32) :
    fs_Sp k c1 A B F σ S (fs_cv (A 7) 0 (f_Fs_sampler (A 7) x y)) (fs_cv (B 0) 12 (f_Rf_sampler (B 0) x y)) [(fs_IAE, 1)] (fun _ _ => True) := by
  obtain ⟨b1, b2⟩ := c_sampler hX ho x y
  by_cases hb : ¬ (x = 0 ∨ x = 1) ∨ y < 1 ∨ ¬ y ≤ 9
  · exact sp_f hI (b1 hb) (rs_bad hb) List.mem_cons_self
  · have hx : x = 0 ∨ x = 1 := Decidable.not_not.mp fun z => hb (Or.inl z)
    have hy1 : ¬ y < 1 := fun z => hb (Or.inr (Or.inl z))
    have hy2 : y ≤ 9 := Decidable.not_not.mp fun z => hb (Or.inr (Or.inr z))
    obtain ⟨n, hn, rfl⟩ := x01 hx
    obtain ⟨m, hm, rfl⟩ := i_rng (n := 9) (i_neg1 hy1) hy2 (by decide)
    have hm1 : 1 ≤ m := Decidable.not_not.mp fun z => hy1 ((n_lt (y := 1) (by omega) (by decide)).mpr (by omega))
    have hx3 := hI.1 n hn
    obtain ⟨⟨i0, i4, i5, i6, i9, i10⟩, i2, -, -⟩ := hI.1 n hn
    refine ⟨_, _, b2 n hn rfl hy1 hy2, w_mono (rs_ok hn hy1 hy2) fun r S1 g => ?_⟩
    have e3 : ∀ a, a ≠ 3 → a ≠ 4 → S1.2.1 a = S.2.1 a := fun a h3 h4 => by
      rw [g, r_si_ne h4, r_si_ne h3]
      rfl
    have q3 : S1.2.1 3 = upd (S.2.1 3) n (Int32.ofNat m) := by
      rw [g, r_si_ne (by decide), r_si_at]
      rfl
    have q4 : S1.2.1 4 = upd (S.2.1 4) n 0 := by
      rw [g, r_si_at, r_si_ne (by decide)]
      rfl
    have g2 : S1.1 = upd S.1 0 0 := by subst g; rfl
    have g3 : S1.2.2 = S.2.2 := by subst g; rfl
    refine ⟨in_x hn hI (ix_fl hx3 ?_ ?_ ?_ (e0_of g2 24 (by decide)) ?_) (fun a h1 _ => e0_of g2 a h1) (Or.inl (e0_of g2 24 (by decide))) ?_ g3, ?_, trivial⟩
    · refine ⟨i0, ?_, ?_, ⟨m, 0, by omega, by omega, rfl, ?_, rfl, ?_⟩, ?_, ?_⟩
      · rw [e3 1 (by decide) (by decide)]
        obtain ⟨t, t1, t2⟩ := i4
        exact ⟨t, by omega, t2⟩
      · rw [e3 2 (by decide) (by decide)]; exact i5
      · rw [q3, up_hit]; rfl
      · rw [q4, up_hit]; rfl
      · rw [e3 5 (by decide) (by decide)]; exact i9
      · rw [e3 6 (by decide) (by decide)]; exact i10
    · exact i2_cg (i2_mono i2) fun a j g => congrFun (e3 a (by unfold fs_reg at g; omega) (by unfold fs_reg at g; omega)) j
    · rfl
    · exact fun a j h1 h2 => congrFun (e3 a (by omega) (by omega)) j
    · intro a j h1 h2 h3
      by_cases ha : a = 3
      · subst ha
        rw [q3]
        exact up_miss (fun z => h1 ⟨by decide, by decide, z⟩) _
      · by_cases hb4 : a = 4
        · subst hb4
          rw [q4]
          exact up_miss (fun z => h1 ⟨by decide, by decide, z⟩) _
        · exact congrFun (e3 a ha hb4) j
    · rw [g2]; rfl
theorem st_ended {k c1 : Nat} {A B : Nat → Nat} {Z : fs_Z} {h F : List fs_C} {σ : fs_S} {S : fs_R} (hI : fs_In k Z S) (hX : fs_WF c1 A Z h) (ho : fs_own (h ++ F) σ) (x i f : Int32) :
    fs_Sp k c1 A B F σ S (fs_cv (A 7) 0 (f_Fs_ended (A 7) x i f)) (fs_cv (B 0) 12 (f_Rf_ended (B 0) x i f)) [(fs_IAE, 1), (fs_IOB, 2)] (fun v r => v = r) := by
  obtain ⟨b1, b2⟩ := c_ended hX ho x i f (l40 hI)
  have h87 : f < 8 ↔ f ≤ 7 := by
    rw [Int32.lt_iff_toInt_lt, Int32.le_iff_toInt_le]
    show f.toInt < 8 ↔ f.toInt ≤ 7
    omega
  by_cases hb : ¬ (x = 0 ∨ x = 1) ∨ f < 0 ∨ ¬ f < 8
  · exact sp_f hI (b1 hb) (re_bad (by rw [← h87]; exact hb)) List.mem_cons_self
  · have hx : x = 0 ∨ x = 1 := Decidable.not_not.mp fun z => hb (Or.inl z)
    have hy1 : ¬ f < 0 := fun z => hb (Or.inr (Or.inl z))
    have hy2 : f < 8 := Decidable.not_not.mp fun z => hb (Or.inr (Or.inr z))
    obtain ⟨n, hn, rfl⟩ := x01 hx
    obtain ⟨-, ⟨f1, f2, f3, -⟩, -, -⟩ := hI.1 n hn
    obtain ⟨d1, d2⟩ := b2 n hn rfl hy1 hy2
    obtain ⟨w1, w2⟩ := re_ok (A := B) (i := i) hn f1 (by omega) hy1 (h87.mp hy2)
    by_cases hi : i < 0 ∨ ¬ i < Int32.ofNat (z_X Z n).2.2.1.length
    · exact sp_f hI (d1 hi) (w1 hi) (by simp)
    · have hi0 : ¬ i < 0 := fun z => hi (Or.inl z)
      have hi1 : i < Int32.ofNat (z_X Z n).2.2.1.length := Decidable.not_not.mp fun z => hi (Or.inr z)
      obtain ⟨e, hs⟩ := i_toN hi0
      rw [e] at hi1
      have hj := (n_lt hs (by omega)).mp hi1
      have hq := List.getElem?_eq_getElem hj
      exact sp_r hI (d2 _ _ e hq) (w2 _ _ e hq) rfl
