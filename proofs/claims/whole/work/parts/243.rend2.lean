theorem up_hit (f : Nat → Int32) (n : Nat) (x : Int32) : upd f n x n = x := if_pos rfl
theorem up_miss {f : Nat → Int32} {n j : Nat} (h : j ≠ n) (x : Int32) : upd f n x j = f j := if_neg h
/-- eight numbers from b on -/
def fs_u8 (f g : Nat → Int32) (b : Nat) : Nat → Int32 := fun j => if b ≤ j ∧ j < b + 8 then g (j - b) else f j
theorem u8_eq (f : Nat → Int32) (b : Nat) (g : Nat → Int32) : upd (upd (upd (upd (upd (upd (upd (upd f b (g 0)) (b + 1) (g 1)) (b + 2) (g 2)) (b + 3) (g 3)) (b + 4) (g 4)) (b + 5) (g 5)) (b + 6) (g 6)) (b + 7) (g 7) = fs_u8 f g b := by
  funext j
  unfold fs_u8
  by_cases h7 : j = b + 7
  · subst h7; rw [up_hit, if_pos (by omega), show b + 7 - b = 7 by omega]
  rw [up_miss h7]
  by_cases h6 : j = b + 6
  · subst h6; rw [up_hit, if_pos (by omega), show b + 6 - b = 6 by omega]
  rw [up_miss h6]
  by_cases h5 : j = b + 5
  · subst h5; rw [up_hit, if_pos (by omega), show b + 5 - b = 5 by omega]
  rw [up_miss h5]
  by_cases h4 : j = b + 4
  · subst h4; rw [up_hit, if_pos (by omega), show b + 4 - b = 4 by omega]
  rw [up_miss h4]
  by_cases h3 : j = b + 3
  · subst h3; rw [up_hit, if_pos (by omega), show b + 3 - b = 3 by omega]
  rw [up_miss h3]
  by_cases h2 : j = b + 2
  · subst h2; rw [up_hit, if_pos (by omega), show b + 2 - b = 2 by omega]
  rw [up_miss h2]
  by_cases h1 : j = b + 1
  · subst h1; rw [up_hit, if_pos (by omega), show b + 1 - b = 1 by omega]
  rw [up_miss h1]
  by_cases h0 : j = b
  · subst h0; rw [up_hit, if_pos (by omega), Nat.sub_self]
  rw [up_miss h0, if_neg (by omega)]
theorem n_a1 (b k : Nat) : Int32.ofNat b + Int32.ofNat k = Int32.ofNat (b + k) := by rw [Int32.ofNat_add]
/-- the arrays after an end -/
def fs_ve (v : Nat → Nat → Int32) (x i n m : Nat) (g : Nat → Int32) : Nat → Nat → Int32 := fun k => if k = 7 then upd (v 7) x (Int32.ofNat (n - 1)) else if k = 13 then upd (v 13) x (Int32.ofNat (m + 1)) else if k = 14 then fs_u8 (v 14) g (8 * (21 * x + m)) else v k
set_option maxRecDepth 100000 in
theorem w_end {A : Nat → Nat} {x i : Nat} {C E : fs_Fs} {q : Nat × (Nat → Int32)} {why : Int32} (hx : x < 2) (S : fs_R) (hf : fs_fr x C E S.2.1) (hi : C[i]? = some q) (hC : C.length ≤ 6) (hE : E.length < 21) (hb : fs_by3 q.2) :
    fs_W A (fs_cv (A 0) 12 (f_Rf_end (A 0) (Int32.ofNat x) (Int32.ofNat i) why)) S fun _ S1 => S1.1 = S.1 ∧ S1.2.2 = S.2.2 ∧ fs_fr x (C.eraseIdx i) (E ++ [fs_ed (S.2.1 1 x) why q]) S1.2.1 ∧ fs_ofr x S.2.1 S1.2.1 := by
  obtain ⟨f7, f13, fC, fE⟩ := hf
  have hin := (List.getElem?_eq_some_iff.mp hi).1
  obtain ⟨c8, c9, c10, c11, c12⟩ := fC i q hi
  obtain ⟨kp0, kp1, kp2⟩ := key_parts hb
  have e1 : (6 : Int32) * Int32.ofNat x + Int32.ofNat i = Int32.ofNat (6 * x + i) := n_ma 6 x i
  have e4 : (8 : Int32) * ((21 : Int32) * Int32.ofNat x + Int32.ofNat E.length) = Int32.ofNat (8 * (21 * x + E.length)) := by
    rw [show (21 : Int32) * Int32.ofNat x + Int32.ofNat E.length = Int32.ofNat (21 * x + E.length) from n_ma 21 x _]
    exact n_m 8 _
  refine w_cv <| w_m <| w_gr 13 rfl <| w_ai m13 rfl hx ?_
  rw [f13]
  refine w_m ?_
  rw [e1, e4]
  refine w_gr 14 rfl <| w_gr 8 rfl <| w_ai m8 rfl (by omega) <| w_si m14 rfl (by omega) <| w_gr 14 rfl <| w_gr 8 rfl <| w_ai m8 rfl (by omega) <| w_si m14 (n_a1 _ 1) (by omega) <| w_gr 14 rfl <| w_gr 8 rfl <| w_ai m8 rfl (by omega) <| w_si m14 (n_a1 _ 2) (by omega) <| w_gr 14 rfl <| w_gr 9 rfl <| w_ai m9 rfl (by omega) <| w_si m14 (n_a1 _ 3) (by omega) <| w_gr 14 rfl <| w_gr 10 rfl <| w_ai m10 rfl (by omega) <| w_si m14 (n_a1 _ 4) (by omega) <| w_gr 14 rfl <| w_gr 11 rfl <| w_ai m11 rfl (by omega) <| w_si m14 (n_a1 _ 5) (by omega) <| w_gr 14 rfl <| w_gr 1 rfl <| w_ai m1 rfl hx <| w_si m14 (n_a1 _ 6) (by omega) <| w_gr 14 rfl <| w_si m14 (n_a1 _ 7) (by omega) <| w_gr 13 rfl <| w_ai m13 rfl hx <| w_si m13 rfl hx <| w_gr 7 rfl <| w_ai m7 rfl hx <| w_si m7 rfl hx ?_
  let g : Nat → Int32 := fun j => match j with
    | 0 => q.2 0
    | 1 => q.2 1
    | 2 => q.2 2
    | 3 => q.2 4
    | 4 => q.2 5
    | 5 => q.2 3
    | 6 => S.2.1 1 x
    | _ => why
  have hg : ∀ j, j < 8 → fs_vo (fs_ed (S.2.1 1 x) why q).2 (Int32.ofNat j) = g j := fun j hj => by
    have : j = 0 ∨ j = 1 ∨ j = 2 ∨ j = 3 ∨ j = 4 ∨ j = 5 ∨ j = 6 ∨ j = 7 := by omega
    rcases this with rfl | rfl | rfl | rfl | rfl | rfl | rfl | rfl <;> rfl
  have hv7 : (fs_ve S.2.1 x i C.length E.length g) 7 x = Int32.ofNat (C.length - 1) := if_pos rfl
  refine w_mono (w_shift (a := 6 * x + i) (n := C.length - 1) hx (by omega) (fs_ve S.2.1 x i C.length E.length g) hv7 (by omega) (by omega) S.1 S.2.2 (6 * x + (C.length - 1) - (6 * x + i)) 4096 (6 * x + i) _ (by omega) (by omega) (Nat.le_refl _) ?_) ?_
  · rw [shf_0]
    refine Prod.ext rfl (Prod.ext ?_ rfl)
    funext k
    by_cases h7 : k = 7
    · subst h7
      show upd (S.2.1 7) x (S.2.1 7 x - 1) = upd (S.2.1 7) x (Int32.ofNat (C.length - 1))
      rw [f7, ofNat_sub1 (by omega)]
    · by_cases h13 : k = 13
      · subst h13
        show upd (S.2.1 13) x (S.2.1 13 x + 1) = upd (S.2.1 13) x (Int32.ofNat (E.length + 1))
        rw [f13, ofNat_add1]
      · by_cases h14 : k = 14
        · subst h14
          show _ = fs_u8 (S.2.1 14) g (8 * (21 * x + E.length))
          rw [← u8_eq]
          show upd (upd (upd (upd (upd (upd (upd (upd (S.2.1 14) _ (S.2.1 8 (6 * x + i) >>> (16 &&& 31))) _ ((S.2.1 8 (6 * x + i) >>> (8 &&& 31)) &&& 255)) _ (S.2.1 8 (6 * x + i) &&& 255)) _ (S.2.1 9 (6 * x + i))) _ (S.2.1 10 (6 * x + i))) _ (S.2.1 11 (6 * x + i))) _ (S.2.1 1 x)) _ why = _
          rw [c8, c9, c10, c11, kp0, kp1, kp2]
          rfl
        · show _ = fs_ve S.2.1 x i C.length E.length g k
          unfold fs_ve
          rw [if_neg h7, if_neg h13, if_neg h14]
          simp [r_si_, va_up, h7, h13, h14]
  · intro _ S1 h1
    subst h1
    refine ⟨rfl, rfl, ⟨?_, ?_, fun j p hp => ?_, fun j p hp k hk => ?_⟩, fun k j hr => ?_⟩
    · show fs_ve S.2.1 x i C.length E.length g 7 x = _
      rw [hv7, List.length_eraseIdx, if_pos hin]
    · show upd (S.2.1 13) x _ x = _
      rw [up_hit, List.length_append]
      rfl
    · have hpl := (List.getElem?_eq_some_iff.mp hp).1
      rw [List.length_eraseIdx, if_pos hin] at hpl
      rw [List.getElem?_eraseIdx] at hp
      have rd : ∀ k, 8 ≤ k → k ≤ 12 → fs_shf (fs_ve S.2.1 x i C.length E.length g) (6 * x + i) (6 * x + (C.length - 1)) k (6 * x + j) = S.2.1 k (6 * x + (if j < i then j else j + 1)) := fun k hk1 hk2 => by
        have ev : fs_ve S.2.1 x i C.length E.length g k = S.2.1 k := by
          unfold fs_ve
          rw [if_neg (by omega), if_neg (by omega), if_neg (by omega)]
        unfold fs_shf
        rw [if_pos ⟨hk1, hk2⟩, ev]
        unfold fs_sh1
        by_cases hji : j < i
        · rw [if_neg (by omega), if_pos hji]
        · rw [if_pos (by omega), if_neg hji]
          rfl
      have hp2 : C[if j < i then j else j + 1]? = some p := by
        by_cases hji : j < i
        · rw [if_pos hji] at hp ⊢
          exact hp
        · rw [if_neg hji] at hp ⊢
          exact hp
      show fs_shf _ _ _ 8 _ = _ ∧ fs_shf _ _ _ 9 _ = _ ∧ fs_shf _ _ _ 10 _ = _ ∧ fs_shf _ _ _ 11 _ = _ ∧ fs_shf _ _ _ 12 _ = _
      rw [rd 8 (by decide) (by decide), rd 9 (by decide) (by decide), rd 10 (by decide) (by decide), rd 11 (by decide) (by decide), rd 12 (by decide) (by decide)]
      exact fC _ p hp2
    · show fs_u8 (S.2.1 14) g (8 * (21 * x + E.length)) _ = _
      unfold fs_u8
      by_cases hj : j < E.length
      · rw [if_neg (by omega)]
        rw [List.getElem?_append_left hj] at hp
        exact fE j p hp k hk
      · have hpl := (List.getElem?_eq_some_iff.mp hp).1
        rw [List.length_append] at hpl
        have hje : j = E.length := by simp at hpl; omega
        subst hje
        rw [if_pos (by omega), show 8 * (21 * x + E.length) + k - 8 * (21 * x + E.length) = k by omega]
        rw [List.getElem?_append_right (Nat.le_refl _), Nat.sub_self] at hp
        cases hp
        exact (hg k hk).symm
    · show fs_shf _ _ _ k j = _
      have hve : ¬ (8 ≤ k ∧ k ≤ 12) → fs_ve S.2.1 x i C.length E.length g k j = S.2.1 k j := fun hk => by
        unfold fs_ve
        by_cases h7 : k = 7
        · subst h7
          rw [if_pos rfl]
          exact up_miss (fun z => hr (Or.inl ⟨Or.inl rfl, z⟩)) _
        · rw [if_neg h7]
          by_cases h13 : k = 13
          · subst h13
            rw [if_pos rfl]
            exact up_miss (fun z => hr (Or.inl ⟨Or.inr rfl, z⟩)) _
          · rw [if_neg h13]
            by_cases h14 : k = 14
            · subst h14
              rw [if_pos rfl]
              unfold fs_u8
              rw [if_neg (fun z => hr (Or.inr (Or.inr ⟨rfl, by omega, by omega⟩)))]
            · rw [if_neg h14]
      unfold fs_shf
      by_cases hk : 8 ≤ k ∧ k ≤ 12
      · rw [if_pos hk]
        have ev : fs_ve S.2.1 x i C.length E.length g k = S.2.1 k := by
          unfold fs_ve
          rw [if_neg (by omega), if_neg (by omega), if_neg (by omega)]
        rw [ev]
        unfold fs_sh1
        rw [if_neg (fun z => hr (Or.inr (Or.inl ⟨hk, by omega, by omega⟩)))]
      · rw [if_neg hk]
        exact hve hk
