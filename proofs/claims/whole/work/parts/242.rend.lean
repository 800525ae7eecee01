/-! the reference's flows -/
def fs_reg (x k j : Nat) : Prop := (k = 7 ∨ k = 13) ∧ j = x ∨ (8 ≤ k ∧ k ≤ 12) ∧ 6 * x ≤ j ∧ j < 6 * x + 6 ∨ k = 14 ∧ 168 * x ≤ j ∧ j < 168 * x + 168
def fs_ofr (x : Nat) (v w : Nat → Nat → Int32) : Prop := ∀ k j, ¬ fs_reg x k j → w k j = v k j
theorem out_rf (x : Nat) (v : Nat → Nat → Int32) : fs_ofr x v v := fun _ _ _ => rfl
theorem out_tr {x : Nat} {u v w : Nat → Nat → Int32} (h : fs_ofr x u v) (k : fs_ofr x v w) : fs_ofr x u w := fun a b c => (k a b c).trans (h a b c)
def fs_fr (x : Nat) (C E : fs_Fs) (v : Nat → Nat → Int32) : Prop := v 7 x = Int32.ofNat C.length ∧ v 13 x = Int32.ofNat E.length ∧ (∀ i q, C[i]? = some q → v 8 (6 * x + i) = fs_key q.2 ∧ v 9 (6 * x + i) = q.2 4 ∧ v 10 (6 * x + i) = q.2 5 ∧ v 11 (6 * x + i) = q.2 3 ∧ v 12 (6 * x + i) = q.2 6) ∧ ∀ i q, E[i]? = some q → ∀ j, j < 8 → v 14 (8 * (21 * x + i) + j) = fs_vo q.2 (Int32.ofNat j)
theorem fr_out {x y : Nat} {C E : fs_Fs} {v w : Nat → Nat → Int32} (h : fs_fr y C E v) (ho : fs_ofr x v w) (hx : x < 2) (hy : y < 2) (hxy : y ≠ x) (hC : C.length ≤ 6) (hE : E.length ≤ 21) : fs_fr y C E w := by
  obtain ⟨h1, h2, h3, h4⟩ := h
  refine ⟨by rw [ho 7 y (by unfold fs_reg; omega)]; exact h1, by rw [ho 13 y (by unfold fs_reg; omega)]; exact h2, fun i q hq => ?_, fun i q hq j hj => ?_⟩
  · have hi := (List.getElem?_eq_some_iff.mp hq).1
    obtain ⟨a, b, c, d, e⟩ := h3 i q hq
    rw [ho 8 _ (by unfold fs_reg; omega), ho 9 _ (by unfold fs_reg; omega), ho 10 _ (by unfold fs_reg; omega), ho 11 _ (by unfold fs_reg; omega), ho 12 _ (by unfold fs_reg; omega)]
    exact ⟨a, b, c, d, e⟩
  · have hi := (List.getElem?_eq_some_iff.mp hq).1
    rw [ho 14 _ (by unfold fs_reg; omega)]
    exact h4 i q hq j hj
theorem w_noExporter {A : Nat → Nat} {x : Int32} {S : fs_R} : fs_W A (fs_cv (A 0) 12 (f_Rf_noExporter (A 0) x)) S fun r S1 => S1 = S ∧ r = if x = 0 ∨ x = 1 then 0 else 1 := by
  refine w_cv <| w_i (fun h => w_rz (Or.inr rfl) ⟨rfl, (if_neg fun z => ?_).symm⟩) fun h => w_i (fun h1 => w_rz (Or.inl rfl) ⟨rfl, (if_pos ?_).symm⟩) fun h1 => w_rz (Or.inr rfl) ⟨rfl, (if_neg fun z => ?_).symm⟩
  · rcases z with rfl | rfl
    · exact absurd h (by decide)
    · exact absurd h (by decide)
  · obtain ⟨a, b⟩ := i_toN h
    have := i_le (n := 1) h1 (by decide)
    have h2 : x.toNatClampNeg = 0 ∨ x.toNatClampNeg = 1 := by omega
    rcases h2 with h2 | h2
    · exact Or.inl (by rw [a, h2]; rfl)
    · exact Or.inr (by rw [a, h2]; rfl)
  · rcases z with rfl | rfl
    · exact absurd (by decide) h1
    · exact absurd (by decide) h1
theorem w_noByte {A : Nat → Nat} {x : Int32} {S : fs_R} : fs_W A (fs_cv (A 0) 12 (f_Rf_noByte (A 0) x)) S fun r S1 => S1 = S ∧ (fs_nb_ x ∧ r = 1 ∨ ¬ fs_nb_ x ∧ r = 0) := by
  refine w_cv <| w_i (fun h => w_rz (Or.inr rfl) ⟨rfl, Or.inl ⟨Or.inl h, rfl⟩⟩) fun h => w_i (fun h1 => w_rz (Or.inl rfl) ⟨rfl, Or.inr ⟨fun z => ?_, rfl⟩⟩) fun h1 => w_rz (Or.inr rfl) ⟨rfl, Or.inl ⟨Or.inr (Int32.not_le.mp h1), rfl⟩⟩
  exact z.elim h (fun z => Int32.not_le.mpr z h1)
def fs_sh1 (f : Nat → Int32) (a p : Nat) : Nat → Int32 := fun j => if a ≤ j ∧ j < p then f (j + 1) else f j
def fs_shf (v : Nat → Nat → Int32) (a p : Nat) : Nat → Nat → Int32 := fun k => if 8 ≤ k ∧ k ≤ 12 then fs_sh1 (v k) a p else v k
theorem sh1_0 (f : Nat → Int32) (a : Nat) : fs_sh1 f a a = f := funext fun j => if_neg (by omega)
theorem shf_0 (v : Nat → Nat → Int32) (a : Nat) : fs_shf v a a = v := funext fun k => by
  unfold fs_shf
  rw [sh1_0]
  split <;> rfl
theorem sh1_s (f : Nat → Int32) {a p : Nat} (h : a ≤ p) : upd (fs_sh1 f a p) p (fs_sh1 f a p (p + 1)) = fs_sh1 f a (p + 1) := funext fun j => by
  unfold upd fs_sh1
  by_cases hj : j = p
  · rw [if_pos hj, if_neg (by omega), if_pos (by omega), hj]
  · rw [if_neg hj]
    by_cases h2 : a ≤ j ∧ j < p
    · rw [if_pos h2, if_pos (by omega)]
    · rw [if_neg h2, if_neg (by omega)]
theorem shf_s (S : fs_R) (v : Nat → Nat → Int32) {a p : Nat} (h : a ≤ p) (hS : S.2.1 = fs_shf v a p) : (r_si_ (r_si_ (r_si_ (r_si_ (r_si_ S 8 p (S.2.1 8 (p + 1))) 9 p (S.2.1 9 (p + 1))) 10 p (S.2.1 10 (p + 1))) 11 p (S.2.1 11 (p + 1))) 12 p (S.2.1 12 (p + 1))).2.1 = fs_shf v a (p + 1) := by
  funext k
  have e : ∀ k, 8 ≤ k ∧ k ≤ 12 → upd (S.2.1 k) p (S.2.1 k (p + 1)) = fs_shf v a (p + 1) k := fun k hk => by
    rw [hS]
    unfold fs_shf
    rw [if_pos hk, if_pos hk]
    exact sh1_s (v k) h
  by_cases h8 : k = 8
  · subst h8; exact e 8 (by decide)
  by_cases h9 : k = 9
  · subst h9; exact e 9 (by decide)
  by_cases h10 : k = 10
  · subst h10; exact e 10 (by decide)
  by_cases h11 : k = 11
  · subst h11; exact e 11 (by decide)
  by_cases h12 : k = 12
  · subst h12; exact e 12 (by decide)
  have : (r_si_ (r_si_ (r_si_ (r_si_ (r_si_ S 8 p (S.2.1 8 (p + 1))) 9 p (S.2.1 9 (p + 1))) 10 p (S.2.1 10 (p + 1))) 11 p (S.2.1 11 (p + 1))) 12 p (S.2.1 12 (p + 1))).2.1 k = S.2.1 k := by
    simp [r_si_, va_up, h8, h9, h10, h11, h12]
  rw [this, hS]
  unfold fs_shf
  rw [if_neg (by omega), if_neg (by omega)]
theorem w_shift {A : Nat → Nat} {x n a : Nat} (hx : x < 2) (hn : n ≤ 5) (v : Nat → Nat → Int32) (hv : v 7 x = Int32.ofNat n) (ha : 6 * x ≤ a) (ha2 : a ≤ 6 * x + n) (s : Nat → Int32) (w : Nat → Int64) : ∀ (m fuel p : Nat) (S : fs_R), p + m = 6 * x + n → m < fuel → a ≤ p → S = (s, fs_shf v a p, w) →
    fs_W A (fs_lp1 fuel (lb_Rf_end_183 (A 0) (Int32.ofNat x)) (Int32.ofNat p)) S fun _ S1 => S1 = (s, fs_shf v a (6 * x + n), w)
  | 0, fuel + 1, p, S, hp, _, hap, hS => by
    subst hS
    have hp2 : p = 6 * x + n := by omega
    subst hp2
    refine w_lp1 <| w_gr 7 rfl <| w_ai m7 rfl hx <| w_p ?_ <| w_ret rfl
    show 6 * Int32.ofNat x + fs_shf v a (6 * x + n) 7 x ≤ _
    rw [show fs_shf v a (6 * x + n) 7 x = Int32.ofNat n from hv]
    rw [show (6 : Int32) * Int32.ofNat x + Int32.ofNat n = Int32.ofNat (6 * x + n) from n_ma 6 x n]
    exact Int32.le_refl _
  | m + 1, fuel + 1, p, S, hp, hf, hap, hS => by
    have e7 : S.2.1 7 x = Int32.ofNat n := by rw [hS]; exact hv
    refine w_lp1 <| w_gr 7 rfl <| w_ai m7 rfl hx <| w_n ?_ <| w_gr 8 rfl <| w_gr 8 rfl <| w_ai m8 (ofNat_add1 p) (by omega) <| w_si m8 rfl (by omega) <| w_gr 9 rfl <| w_gr 9 rfl <| w_ai m9 (ofNat_add1 p) (by omega) <| w_si m9 rfl (by omega) <| w_gr 10 rfl <| w_gr 10 rfl <| w_ai m10 (ofNat_add1 p) (by omega) <| w_si m10 rfl (by omega) <| w_gr 11 rfl <| w_gr 11 rfl <| w_ai m11 (ofNat_add1 p) (by omega) <| w_si m11 rfl (by omega) <| w_gr 12 rfl <| w_gr 12 rfl <| w_ai m12 (ofNat_add1 p) (by omega) <| w_si m12 rfl (by omega) <| w_m ?_
    · rw [e7, show (6 : Int32) * Int32.ofNat x + Int32.ofNat n = Int32.ofNat (6 * x + n) from n_ma 6 x n, n_le (by omega) (by omega)]
      omega
    · rw [ofNat_add1]
      have e2 := shf_s S v hap (by rw [hS])
      refine w_shift hx hn v hv ha ha2 s w m fuel (p + 1) _ (by omega) (by omega) (by omega) ?_
      refine Prod.ext (by rw [hS]; rfl) (Prod.ext e2 (by rw [hS]; rfl))
  | _, 0, _, _, _, h, _, _ => absurd h (Nat.not_lt_zero _)
