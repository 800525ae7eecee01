/-! pairs, in the reference -/
def fs_pg (P : Nat → Int32) : Prop := ∀ i, i < 80 → P i = -1 ∨ ∃ k, k < 80 ∧ P i = Int32.ofNat k
theorem pg_neg {P : Nat → Int32} (h : fs_pg P) {i : Nat} (hi : i < 80) : 0 ≤ P i ↔ ¬ P i = -1 := by
  rcases h i hi with e | ⟨k, hk, e⟩
  · rw [e]
    exact ⟨fun z => absurd z (by decide), fun z => absurd rfl z⟩
  · rw [e]
    exact ⟨fun _ z => ofNat_ne_m1 (by omega) z, fun _ => Int32.not_lt.mp (Int32.ofNat_not_neg (by omega))⟩
theorem pg_up {P : Nat → Int32} (h : fs_pg P) {k : Nat} (hk : k < 80) (j : Nat) : fs_pg (upd P j (Int32.ofNat k)) := fun i hi => by
  by_cases hij : i = j
  · rw [hij, up_hit]
    exact Or.inr ⟨k, hk, rfl⟩
  · rw [up_miss hij]
    exact h i hi
theorem w_one_loop {A : Nat → Nat} {a : Nat} {V : fs_Vs} {S : fs_R} {P D : Nat → Int32} (hV : fs_rws V S) (hg : fs_vg V) (hVl : V.length ≤ 80) (ha : a < V.length) (hP : fs_pg P) : ∀ (m fuel i : Nat) (b : Option Nat), i + m = V.length → m < fuel → (∀ k, b = some k → k < V.length) →
    fs_W A (fs_lp2 fuel (lb_Rf_pairOne_4 (A 0) (Int32.ofNat a)) (fs_o32 b) (Int32.ofNat i)) (fs_pd2 S P D) fun _ S1 => S1 = fs_pd2 S (match fs_nn (fs_ex V) (fs_va V) P a m i b with
      | none => P
      | some k => upd (upd P a (Int32.ofNat k)) k (Int32.ofNat a)) D
  | 0, fuel + 1, i, b, hi, _, hb => by
    refine w_lp2 <| w_gi 37 rfl ?_
    rw [show (fs_pd2 S P D).1 37 = Int32.ofNat V.length from hV.1]
    refine w_p ((n_le (by omega) (by omega)).mpr (by omega)) ?_
    cases b with
    | none => exact w_p (by decide) <| w_ret rfl
    | some k =>
      have hk := hb k rfl
      refine w_n (Int32.ofNat_not_neg (by omega)) <| w_gr 48 rfl <| w_si m48 rfl (by omega) <| w_gr 48 rfl <| w_si m48 rfl (by omega) <| w_ret ?_
      rw [pd_si, pd_si]
      rfl
  | m + 1, fuel + 1, i, b, hi, hf, hb => by
    have hil : i < V.length := by omega
    have hV2 := pd_rws hV P D
    have es : fs_nn (fs_ex V) (fs_va V) P a (m + 1) i b = fs_nn (fs_ex V) (fs_va V) P a m (i + 1) (fs_nk (fs_ex V) (fs_va V) P a i b) := rfl
    have rec_ : ∀ b', fs_nk (fs_ex V) (fs_va V) P a i b = b' → fs_W A (fs_lp2 fuel (lb_Rf_pairOne_4 (A 0) (Int32.ofNat a)) (fs_o32 b') (Int32.ofNat i + 1)) (fs_pd2 S P D) fun _ S1 => S1 = fs_pd2 S (match fs_nn (fs_ex V) (fs_va V) P a (m + 1) i b with
      | none => P
      | some k => upd (upd P a (Int32.ofNat k)) k (Int32.ofNat a)) D := fun b' e => by
      rw [es, ofNat_add1 i, e]
      exact w_one_loop hV hg hVl ha hP m fuel (i + 1) b' (by omega) (by omega) (fun k hk => nn_lt (ex := fs_ex V) (va := fs_va V) (P := P) (a := a) (n := V.length) 1 i b (by omega) hb k (by rw [← hk, ← e]; rfl))
    refine w_lp2 <| w_gi 37 rfl ?_
    rw [show (fs_pd2 S P D).1 37 = Int32.ofNat V.length from hV.1]
    refine w_n (fun z => ?_) <| w_l <| w_l ?_
    · have := (n_le (by omega) (by omega)).mp z
      omega
    have no : ∀ {T : fs_T Unit}, fs_nk (fs_ex V) (fs_va V) P a i b = b → fs_W A (fs_let (fun (v13 : Int32) => fs_nm (Int32.ofNat i + 1 : Int32) fun v14 => fs_lp2 fuel (lb_Rf_pairOne_4 (A 0) (Int32.ofNat a)) v13 v14) fun j80 => fs_let (fun (_ : Unit) => j80 (fs_o32 b)) fun j79 => if (0 : Int32) = 0 then j79 () else T) (fs_pd2 S P D) fun _ S1 => S1 = fs_pd2 S (match fs_nn (fs_ex V) (fs_va V) P a (m + 1) i b with
      | none => P
      | some k => upd (upd P a (Int32.ofNat k)) k (Int32.ofNat a)) D := fun {T} e => w_l <| w_l <| w_p rfl <| w_m <| rec_ b e
    by_cases c0 : i = a
    · exact w_p (congrArg Int32.ofNat c0) <| w_l <| w_l <| w_p rfl <| w_m <| rec_ b (if_pos c0)
    refine w_n (fun z => c0 (n_inj (by omega) (by omega) z)) <| w_gr 48 rfl <| w_ai m48 rfl (by omega) ?_
    rw [pd_P]
    by_cases c1 : P i = -1
    · refine w_n (fun z => (pg_neg hP (by omega)).mp z c1) <| w_wholek hV2 hg hVl hil ?_
      cases c2 : fs_pb (fs_va V i) with
      | false => exact w_p rfl <| w_l <| w_l <| w_p rfl <| w_m <| rec_ b (by unfold fs_nk; rw [if_neg c0, if_pos c1, c2]; rfl)
      | true =>
        refine w_n (by decide) <| w_backk hV2 hVl ha hil ?_
        cases c3 : fs_rv (fs_ex V i) (fs_va V i) (fs_ex V a) (fs_va V a) with
        | false => exact w_p rfl <| w_l <| w_l <| w_p rfl <| w_m <| rec_ b (by unfold fs_nk; rw [if_neg c0, if_pos c1, c2, c3]; rfl)
        | true =>
          refine w_n (by decide) <| w_l <| w_l <| w_n (by decide) <| w_l ?_
          cases b with
          | none => exact w_p (by decide) <| w_m <| rec_ (some i) (by unfold fs_nk; rw [if_neg c0, if_pos c1, c2, c3]; rfl)
          | some p =>
            have hp := hb p rfl
            refine w_n (Int32.ofNat_not_neg (by omega)) <| w_fark hV2 hVl ha hil <| w_fark hV2 hVl ha hp ?_
            by_cases c4 : fs_tkd (fs_va V p) (fs_va V a) ≤ fs_tkd (fs_va V i) (fs_va V a)
            · exact w_p ((lg_ge _ _).mpr c4) <| w_m <| rec_ (some p) (by unfold fs_nk; rw [if_neg c0, if_pos c1, c2, c3]; exact if_pos c4)
            · exact w_n (fun z => c4 ((lg_ge _ _).mp z)) <| w_m <| rec_ (some i) (by unfold fs_nk; rw [if_neg c0, if_pos c1, c2, c3]; exact if_neg c4)
    · exact w_p ((pg_neg hP (by omega)).mpr c1) <| w_l <| w_l <| w_p rfl <| w_m <| rec_ b (by unfold fs_nk; rw [if_neg c0, if_neg c1])
  | _, 0, _, _, _, h, _ => absurd h (Nat.not_lt_zero _)
/-! the order of the rows -/
def fs_lx (b : Nat → Int) (i j : Nat) : Prop := b i < b j ∨ (b i = b j ∧ i < j)
def fs_bg (va : Nat → Nat → Int64) (r : Nat) : Int := (va r 5).toInt
theorem ip_le (bg : Nat → Int64) (x : Nat) (L : List Nat) : ∀ t, fs_ip bg x L t ≤ t
  | 0 => Nat.le_refl _
  | t + 1 => by
    show (if bg (L.getD t 0) ≤ bg x then t + 1 else fs_ip bg x L t) ≤ t + 1
    split
    · exact Nat.le_refl _
    · have := ip_le bg x L t
      omega
theorem ip_hi (bg : Nat → Int64) (x : Nat) (L : List Nat) : ∀ t j, fs_ip bg x L t ≤ j → j < t → ¬ bg (L.getD j 0) ≤ bg x
  | 0, j, _, h => absurd h (Nat.not_lt_zero _)
  | t + 1, j, h1, h2 => by
    have e : fs_ip bg x L (t + 1) = if bg (L.getD t 0) ≤ bg x then t + 1 else fs_ip bg x L t := rfl
    rw [e] at h1
    split at h1
    · omega
    · rename_i hn
      by_cases hj : j = t
      · rw [hj]; exact hn
      · exact ip_hi bg x L t j h1 (by omega)
theorem ip_lo (bg : Nat → Int64) (x : Nat) (L : List Nat) : ∀ t, fs_ip bg x L t = 0 ∨ ∃ j, fs_ip bg x L t = j + 1 ∧ bg (L.getD j 0) ≤ bg x
  | 0 => Or.inl rfl
  | t + 1 => by
    have e : fs_ip bg x L (t + 1) = if bg (L.getD t 0) ≤ bg x then t + 1 else fs_ip bg x L t := rfl
    rw [e]
    split
    · rename_i h
      exact Or.inr ⟨t, rfl, h⟩
    · exact ip_lo bg x L t
theorem is_pw {va : Nat → Nat → Int64} {x : Nat} {L : List Nat} (hL : L.Pairwise (fs_lx (fs_bg va))) (hx : ∀ k ∈ L, k < x) : (fs_is (fun r => va r 5) x L).Pairwise (fs_lx (fs_bg va)) := by
  have h0 := ip_le (fun r => va r 5) x L L.length
  have h1 := ip_hi (fun r => va r 5) x L L.length
  have h2 := ip_lo (fun r => va r 5) x L L.length
  unfold fs_is
  generalize fs_ip (fun r => va r 5) x L L.length = p at *
  have hhi : ∀ b ∈ L.drop p, fs_lx (fs_bg va) x b := fun b hb => by
    obtain ⟨j, hj, e⟩ := List.mem_iff_getElem.mp hb
    rw [List.length_drop] at hj
    rw [List.getElem_drop] at e
    have := h1 (p + j) (by omega) (by omega)
    rw [List.getD_eq_getElem?_getD, List.getElem?_eq_getElem (by omega), Option.getD_some, e] at this
    rw [Int64.le_iff_toInt_le] at this
    left
    unfold fs_bg
    omega
  have hlo : ∀ a ∈ L.take p, fs_lx (fs_bg va) a x := fun a ha => by
    obtain ⟨i, hi, e⟩ := List.mem_iff_getElem.mp ha
    rw [List.length_take] at hi
    rw [List.getElem_take] at e
    have hax := hx a (List.mem_of_mem_take ha)
    rcases h2 with h2 | ⟨j, hj, h2⟩
    · omega
    · rw [List.getD_eq_getElem?_getD, List.getElem?_eq_getElem (by omega), Option.getD_some] at h2
      rw [Int64.le_iff_toInt_le] at h2
      have hij : fs_bg va a ≤ fs_bg va (L[j]'(by omega)) := by
        by_cases hij : i = j
        · subst hij
          rw [e]
          exact Int.le_refl _
        · have := List.pairwise_iff_getElem.mp hL i j (by omega) (by omega) (by omega)
          rw [e] at this
          rcases this with h | h
          · omega
          · omega
      have h3 : fs_bg va a ≤ fs_bg va x := Int.le_trans hij h2
      unfold fs_lx
      omega
  refine List.pairwise_append.mpr ⟨hL.sublist (List.take_sublist _ _), List.pairwise_cons.mpr ⟨hhi, hL.sublist (List.drop_sublist _ _)⟩, fun a ha b hb => ?_⟩
  rcases List.mem_cons.mp hb with rfl | hb
  · exact hlo a ha
  · have h3 := hlo a ha
    have h4 := hhi b hb
    unfold fs_lx at *
    omega
theorem is_mem2 (bg : Nat → Int64) (x k : Nat) (L : List Nat) : k ∈ fs_is bg x L ↔ k = x ∨ k ∈ L := by
  unfold fs_is
  rw [List.mem_append, List.mem_cons]
  refine ⟨fun h => h.elim (fun h => Or.inr (List.mem_of_mem_take h)) (fun h => h.elim Or.inl (fun h => Or.inr (List.mem_of_mem_drop h))), fun h => h.elim (fun h => Or.inr (Or.inl h)) fun h => ?_⟩
  rw [← List.take_append_drop (fs_ip bg x L L.length) L] at h
  rcases List.mem_append.mp h with h | h
  · exact Or.inl h
  · exact Or.inr (Or.inr h)
theorem od_spec (va : Nat → Nat → Int64) : ∀ (m i : Nat) (L : List Nat), L.Pairwise (fs_lx (fs_bg va)) → (∀ k, k ∈ L ↔ k < i ∧ fs_pb (va k) = true) → (fs_od va m i L).Pairwise (fs_lx (fs_bg va)) ∧ ∀ k, k ∈ fs_od va m i L ↔ k < i + m ∧ fs_pb (va k) = true
  | 0, i, L, h1, h2 => ⟨h1, h2⟩
  | m + 1, i, L, h1, h2 => by
    have e : fs_od va (m + 1) i L = fs_od va m (i + 1) (if fs_pb (va i) = true then fs_is (fun r => va r 5) i L else L) := rfl
    rw [e, show i + (m + 1) = i + 1 + m by omega]
    refine od_spec va m (i + 1) _ ?_ fun k => ?_
    · split
      · exact is_pw h1 fun k hk => ((h2 k).mp hk).1
      · exact h1
    · by_cases hb : fs_pb (va i) = true
      · rw [if_pos hb, is_mem2, h2]
        refine ⟨fun h => h.elim (fun h => ⟨by omega, by rw [h]; exact hb⟩) (fun h => ⟨by omega, h.2⟩), fun h => ?_⟩
        by_cases hk : k = i
        · exact Or.inl hk
        · exact Or.inr ⟨by omega, h.2⟩
      · rw [if_neg hb, h2]
        refine ⟨fun h => ⟨by omega, h.2⟩, fun h => ⟨?_, h.2⟩⟩
        by_cases hk : k = i
        · rw [hk] at h
          exact absurd h.2 hb
        · omega
/-- the first row left: it is left, and it comes before all others left -/
theorem lf_spec (va : Nat → Nat → Int64) (D : Nat → Int32) : ∀ (m i : Nat) (b : Option Nat), (∀ k, b = some k → k < i ∧ D k = 0 ∧ fs_pb (va k) = true ∧ ∀ j, j < i → D j = 0 → fs_pb (va j) = true → j = k ∨ fs_lx (fs_bg va) k j) → (b = none → ∀ j, j < i → D j = 0 → fs_pb (va j) = true → False) →
    (∀ k, fs_lf_ va D m i b = some k → k < i + m ∧ D k = 0 ∧ fs_pb (va k) = true ∧ ∀ j, j < i + m → D j = 0 → fs_pb (va j) = true → j = k ∨ fs_lx (fs_bg va) k j) ∧ (fs_lf_ va D m i b = none → ∀ j, j < i + m → D j = 0 → fs_pb (va j) = true → False)
  | 0, i, b, h1, h2 => ⟨h1, h2⟩
  | m + 1, i, b, h1, h2 => by
    have e : fs_lf_ va D (m + 1) i b = fs_lf_ va D m (i + 1) (fs_fk va D i b) := rfl
    rw [e, show i + (m + 1) = i + 1 + m by omega]
    refine lf_spec va D m (i + 1) _ (fun k hk => ?_) fun hk j hj d1 d2 => ?_
    · unfold fs_fk at hk
      by_cases c1 : D i = 0
      · rw [if_pos c1] at hk
        by_cases c2 : fs_pb (va i) = true
        · rw [if_pos c2] at hk
          cases b with
          | none =>
            cases hk
            refine ⟨by omega, c1, c2, fun j hj d1 d2 => ?_⟩
            by_cases hji : j = i
            · exact Or.inl hji
            · exact absurd (h2 rfl j (by omega) d1 d2) id
          | some p =>
            obtain ⟨q1, q2, q3, q4⟩ := h1 p rfl
            dsimp only at hk
            by_cases c3 : va p 5 ≤ va i 5
            · rw [if_pos c3] at hk
              cases hk
              refine ⟨by omega, q2, q3, fun j hj d1 d2 => ?_⟩
              by_cases hji : j = i
              · right
                rw [Int64.le_iff_toInt_le] at c3
                rw [hji]
                unfold fs_lx fs_bg
                omega
              · exact q4 j (by omega) d1 d2
            · rw [if_neg c3] at hk
              cases hk
              refine ⟨by omega, c1, c2, fun j hj d1 d2 => ?_⟩
              by_cases hji : j = i
              · exact Or.inl hji
              · right
                rw [Int64.le_iff_toInt_le] at c3
                have := q4 j (by omega) d1 d2
                rcases this with rfl | h
                · unfold fs_lx fs_bg
                  omega
                · unfold fs_lx fs_bg at *
                  omega
        · rw [if_neg c2] at hk
          obtain ⟨q1, q2, q3, q4⟩ := h1 k hk
          refine ⟨by omega, q2, q3, fun j hj d1 d2 => ?_⟩
          by_cases hji : j = i
          · rw [hji] at d2
            exact absurd d2 c2
          · exact q4 j (by omega) d1 d2
      · rw [if_neg c1] at hk
        obtain ⟨q1, q2, q3, q4⟩ := h1 k hk
        refine ⟨by omega, q2, q3, fun j hj d1 d2 => ?_⟩
        by_cases hji : j = i
        · rw [hji] at d1
          exact absurd d1 c1
        · exact q4 j (by omega) d1 d2
    · unfold fs_fk at hk
      by_cases hji : j = i
      · rw [hji] at d1 d2
        rw [if_pos d1, if_pos d2] at hk
        cases b with
        | none => cases hk
        | some p =>
          dsimp only at hk
          split at hk
          · cases hk
          · cases hk
      · have : b = none := by
          cases b with
          | none => rfl
          | some p =>
            exfalso
            dsimp only at hk
            split at hk
            · split at hk
              · split at hk
                · cases hk
                · cases hk
              · cases hk
            · cases hk
        exact h2 this j (by omega) d1 d2
/-- so it is the head of what is left of the order -/
theorem lf_head {va : Nat → Nat → Int64} {D : Nat → Int32} {n : Nat} {l0 l : List Nat} (hs : fs_od va n 0 [] = l0 ++ l) (hD : ∀ k, k < n → (D k = 0 ↔ k ∉ l0)) : fs_lf_ va D n 0 none = l.head? := by
  obtain ⟨o1, o2⟩ := od_spec va n 0 [] List.Pairwise.nil (fun k => ⟨fun h => absurd h List.not_mem_nil, fun h => absurd h.1 (Nat.not_lt_zero _)⟩)
  obtain ⟨f1, f2⟩ := lf_spec va D n 0 none (fun k hk => by cases hk) (fun _ j hj => absurd hj (Nat.not_lt_zero _))
  rw [Nat.zero_add] at o2 f1 f2
  rw [hs] at o1 o2
  obtain ⟨p1, p2, p3⟩ := List.pairwise_append.mp o1
  have irr : ∀ k, ¬ fs_lx (fs_bg va) k k := fun k => by unfold fs_lx; omega
  cases l with
  | nil =>
    cases hf : fs_lf_ va D n 0 none with
    | none => rfl
    | some k =>
      exfalso
      obtain ⟨q1, q2, q3, -⟩ := f1 k hf
      have := (o2 k).mpr ⟨q1, q3⟩
      rw [List.append_nil] at this
      exact (hD k q1).mp q2 this
  | cons a l =>
    have hal : a ∈ l0 ++ a :: l := List.mem_append_right _ List.mem_cons_self
    obtain ⟨a1, a2⟩ := (o2 a).mp hal
    have ad : D a = 0 := (hD a a1).mpr fun h => irr a (p3 a h a List.mem_cons_self)
    cases hf : fs_lf_ va D n 0 none with
    | none => exact absurd (f2 hf a a1 ad a2) id
    | some k =>
      obtain ⟨q1, q2, q3, q4⟩ := f1 k hf
      have hk := (o2 k).mpr ⟨q1, q3⟩
      have hkl : k ∈ a :: l := (List.mem_append.mp hk).elim (fun h => absurd h ((hD k q1).mp q2)) id
      rcases List.mem_cons.mp hkl with rfl | hkl
      · rfl
      · have h1 := (List.pairwise_cons.mp p2).1 k hkl
        rcases q4 a a1 ad a2 with rfl | h2
        · rfl
        · exfalso
          unfold fs_lx at h1 h2
          omega
theorem od_len (va : Nat → Nat → Int64) : ∀ (m i : Nat) (L : List Nat), (fs_od va m i L).length ≤ L.length + m
  | 0, i, L => Nat.le_refl _
  | m + 1, i, L => by
    have e : fs_od va (m + 1) i L = fs_od va m (i + 1) (if fs_pb (va i) = true then fs_is (fun r => va r 5) i L else L) := rfl
    rw [e]
    have := od_len va m (i + 1) (if fs_pb (va i) = true then fs_is (fun r => va r 5) i L else L)
    split at this
    · rw [if_pos (by assumption)]
      rw [is_len] at this
      omega
    · rw [if_neg (by assumption)]
      omega
theorem vs_pg {ex : Nat → Int32} {va : Nat → Nat → Int64} {n a : Nat} {P : Nat → Int32} (h : fs_pg P) (hn : n ≤ 80) (ha : a < n) : fs_pg (fs_vs ex va n P a) := by
  unfold fs_vs
  split
  · cases hb : fs_nn ex va P a n 0 none with
    | none => exact h
    | some b =>
      have hbn := nn_lt (n := n) n 0 none (by omega) (fun k hk => by cases hk) b hb
      exact pg_up (pg_up h (k := b) (by omega) _) (k := a) (by omega) _
  · exact h
theorem w_sel_loop {A : Nat → Nat} {r : Nat} {V : fs_Vs} {S : fs_R} (hV : fs_rws V S) (hg : fs_vg V) (hVl : V.length ≤ 80) (hr : r < V.length) : ∀ (l l0 : List Nat) (fuel : Nat) (P D : Nat → Int32), fs_od (fs_va V) V.length 0 [] = l0 ++ l → l.length < fuel → fs_pg P → (∀ k, k < V.length → (D k = 0 ↔ k ∉ l0)) →
    fs_W A (fs_lp1 fuel (lb_Rf_other_63 (A 0) (Int32.ofNat r)) (fs_o32 l.head?)) (fs_pd2 S P D) fun x S1 => (∃ P1 D1, S1 = fs_pd2 S P1 D1) ∧ x = l.foldl (fs_vs (fs_ex V) (fs_va V) V.length) P r
  | [], l0, fuel + 1, P, D, hs, _, hP, hD => by
    refine w_lp1 <| w_p (by decide) <| w_gr 48 rfl <| w_ai m48 rfl (by omega) <| w_ret ⟨⟨P, D, rfl⟩, ?_⟩
    rw [pd_P]
    rfl
  | a :: l, l0, fuel + 1, P, D, hs, hf, hP, hD => by
    have hal : a ∈ fs_od (fs_va V) V.length 0 [] := by rw [hs]; exact List.mem_append_right _ List.mem_cons_self
    obtain ⟨o1, o2⟩ := od_spec (fs_va V) V.length 0 [] List.Pairwise.nil (fun k => ⟨fun h => absurd h List.not_mem_nil, fun h => absurd h.1 (Nat.not_lt_zero _)⟩)
    obtain ⟨a1, a2⟩ := (o2 a).mp hal
    rw [Nat.zero_add] at a1
    have hs2 : fs_od (fs_va V) V.length 0 [] = (l0 ++ [a]) ++ l := by rw [hs, List.append_assoc]; rfl
    have hD2 : ∀ k, k < V.length → (upd D a 1 k = 0 ↔ k ∉ l0 ++ [a]) := fun k hk => by
      by_cases hka : k = a
      · rw [hka, up_hit]
        exact ⟨fun z => absurd z (by decide), fun z => absurd (List.mem_append_right _ (List.mem_singleton.mpr rfl)) z⟩
      · rw [up_miss hka, hD k hk, List.mem_append, List.mem_singleton]
        exact ⟨fun h => fun z => z.elim h hka, fun h z => h (Or.inl z)⟩
    have es : (a :: l).foldl (fs_vs (fs_ex V) (fs_va V) V.length) P = l.foldl (fs_vs (fs_ex V) (fs_va V) V.length) (fs_vs (fs_ex V) (fs_va V) V.length P a) := rfl
    rw [es]
    have nxt : ∀ P', fs_pg P' → fs_vs (fs_ex V) (fs_va V) V.length P a = P' → fs_W A (fs_bind (fs_cv (A 0) 12 (f_Rf_firstLeft (A 0))) fun v12 => fs_lp1 fuel (lb_Rf_other_63 (A 0) (Int32.ofNat r)) v12) (fs_pd2 S P' (upd D a 1)) fun x S1 => (∃ P1 D1, S1 = fs_pd2 S P1 D1) ∧ x = l.foldl (fs_vs (fs_ex V) (fs_va V) V.length) (fs_vs (fs_ex V) (fs_va V) V.length P a) r := fun P' hP' e => by
      refine w_firstk (pd_rws hV _ _) hg hVl ?_
      rw [pd_D, lf_head hs2 hD2, e]
      exact w_sel_loop hV hg hVl hr l (l0 ++ [a]) fuel P' _ hs2 (by simp at hf; omega) hP' hD2
    refine w_lp1 <| w_n (Int32.ofNat_not_neg (by omega)) <| w_gr 49 rfl <| w_sz m49 (Or.inr rfl) rfl (by omega) <| w_gr 48 rfl <| w_ai m48 rfl (by omega) <| w_l ?_
    rw [pd_sz, pd_P]
    by_cases c : P a = -1
    · refine w_n (fun z => (pg_neg hP (by omega)).mp z c) <| w_b (w_cv (w_one_loop hV hg hVl a1 hP V.length 4096 0 none (by omega) (by omega) (fun k hk => by cases hk))) fun _ S1 e => ?_
      subst e
      refine nxt _ ?_ (if_pos c)
      have := vs_pg (ex := fs_ex V) (va := fs_va V) hP hVl a1
      unfold fs_vs at this
      rw [if_pos c] at this
      exact this
    · exact w_p ((pg_neg hP (by omega)).mpr c) <| nxt P hP (if_neg c)
  | _, _, 0, _, _, _, h, _, _ => absurd h (Nat.not_lt_zero _)
theorem ro_bad {A : Nat → Nat} {x : Int32} {S : fs_R} (hb : x < 0 ∨ ¬ x < S.1 37) : fs_W A (fs_cv (A 0) 12 (f_Rf_other (A 0) x)) S fun _ S1 => S1 = r_pi_ S 0 1 := by
  have fin : ∀ {T : fs_T Int32}, fs_W A (fs_bind (fs_pi (A 0) 12 0 1) fun _ => fs_bind (fs_gi (A 0) 12 0) fun v3 => if v3 = 0 then T else fs_ret 0) S fun _ S1 => S1 = r_pi_ S 0 1 := fun {T} => w_pi0 <| w_gi 0 rfl <| w_n (by show ¬ (1 : Int32) = 0; decide) <| w_ret rfl
  refine w_cv <| w_l <| w_l ?_
  by_cases h1 : x < 0
  · exact w_p h1 fin
  · exact w_n h1 <| w_gi 37 rfl <| w_n (hb.elim (fun z => absurd z h1) id) fin
set_option maxRecDepth 100000 in
theorem w_fill_loop {A : Nat → Nat} {r : Nat} {S : fs_R} {P0 D0 : Nat → Int32} {Q : Int32 → fs_R → Prop} (hK : ∀ fuel, fs_W A (lb_Rf_other_32 (A 0) (Int32.ofNat r) (fs_lp1 fuel (lb_Rf_other_32 (A 0) (Int32.ofNat r))) (Int32.ofNat 80)) (fs_pd2 S (fs_p0 80 P0) (fun k => if k < 80 then 0 else D0 k)) Q) : ∀ (m fuel i : Nat), i + m = 80 → m < fuel →
    fs_W A (fs_lp1 fuel (lb_Rf_other_32 (A 0) (Int32.ofNat r)) (Int32.ofNat i)) (fs_pd2 S (fs_p0 i P0) (fun k => if k < i then 0 else D0 k)) Q
  | 0, fuel + 1, i, hi, _ => by
    have : i = 80 := by omega
    subst this
    exact w_lp1 (hK fuel)
  | m + 1, fuel + 1, i, hi, hf => by
    refine w_lp1 <| w_n (fun z => ?_) <| w_gr 48 rfl <| w_si m48 rfl (by omega) <| w_gr 49 rfl <| w_sz m49 (Or.inl rfl) rfl (by omega) <| w_m ?_
    · have := (n_le (x := 80) (by decide) (by omega)).mp z
      omega
    · rw [pd_si, pd_sz, p0_up, ofNat_add1 i, show upd (fun k => if k < i then 0 else D0 k) i 0 = (fun k => if k < i + 1 then 0 else D0 k) from ?_]
      · exact w_fill_loop hK m fuel (i + 1) (by omega) (by omega)
      · funext k
        by_cases h : k = i
        · rw [h, up_hit, if_pos (by omega)]
        · rw [up_miss h]
          by_cases h2 : k < i
          · rw [if_pos h2, if_pos (by omega)]
          · rw [if_neg h2, if_neg (by omega)]
  | _, 0, _, _, h => absurd h (Nat.not_lt_zero _)
set_option maxRecDepth 100000 in
theorem ro_ok {A : Nat → Nat} {r : Nat} {V : fs_Vs} {S : fs_R} (hV : fs_rws V S) (hg : fs_vg V) (hVl : V.length ≤ 80) (hr : r < V.length) : fs_W A (fs_cv (A 0) 12 (f_Rf_other (A 0) (Int32.ofNat r))) S fun x S1 => (∃ P1 D1, S1 = fs_pd2 (r_pi_ S 0 0) P1 D1) ∧ x = fs_pa V (S.2.1 48) r := by
  have h0 : ¬ Int32.ofNat r < 0 := Int32.ofNat_not_neg (by omega)
  have h1 : Int32.ofNat r < S.1 37 := by rw [hV.1]; exact (n_lt (by omega) (by omega)).mpr hr
  have hV2 : fs_rws V (r_pi_ S 0 0) := hV
  refine w_cv <| w_l <| w_l <| w_n h0 <| w_gi 37 rfl <| w_p h1 <| w_pi0 <| w_gi 0 rfl <| w_p rfl ?_
  have e0 : fs_pd2 (r_pi_ S 0 0) (fs_p0 0 (S.2.1 48)) (fun k => if k < 0 then 0 else S.2.1 49 k) = r_pi_ S 0 0 := by
    rw [show fs_p0 0 (S.2.1 48) = (r_pi_ S 0 0).2.1 48 from funext fun k => if_neg (Nat.not_lt_zero k), show (fun k => if k < 0 then 0 else S.2.1 49 k) = (r_pi_ S 0 0).2.1 49 from funext fun k => if_neg (Nat.not_lt_zero k)]
    exact pd_id _
  have main := w_fill_loop (A := A) (r := r) (S := r_pi_ S 0 0) (P0 := S.2.1 48) (D0 := S.2.1 49) (Q := fun x S1 => (∃ P1 D1, S1 = fs_pd2 (r_pi_ S 0 0) P1 D1) ∧ x = fs_pa V (S.2.1 48) r) (fun fuel => by
    refine w_p (by decide) <| w_firstk (pd_rws hV2 _ _) hg hVl ?_
    have hD : ∀ k, k < V.length → ((fun k => if k < 80 then (0 : Int32) else S.2.1 49 k) k = 0 ↔ k ∉ ([] : List Nat)) := fun k hk => ⟨fun _ => List.not_mem_nil, fun _ => if_pos (by omega)⟩
    rw [pd_D, lf_head (l0 := []) rfl hD]
    refine w_sel_loop hV2 hg hVl hr _ [] 4096 _ _ rfl ?_ (fun i hi => Or.inl (if_pos hi)) hD
    have := od_len (fs_va V) V.length 0 []
    rw [List.length_nil] at this
    omega) 80 4096 0 rfl (by decide)
  rw [e0] at main
  exact main
/-- the pairs don't depend on what stood there before -/
theorem nn_cg {ex : Nat → Int32} {va : Nat → Nat → Int64} {P P2 : Nat → Int32} {a : Nat} (h : ∀ i, i < 80 → P i = P2 i) : ∀ (m i : Nat) (b : Option Nat), i + m ≤ 80 → fs_nn ex va P a m i b = fs_nn ex va P2 a m i b
  | 0, _, _, _ => rfl
  | m + 1, i, b, hi => by
    have e : fs_nk ex va P a i b = fs_nk ex va P2 a i b := by
      unfold fs_nk
      rw [h i (by omega)]
    show fs_nn ex va P a m (i + 1) (fs_nk ex va P a i b) = fs_nn ex va P2 a m (i + 1) (fs_nk ex va P2 a i b)
    rw [e]
    exact nn_cg h m (i + 1) _ (by omega)
theorem vs_cg {ex : Nat → Int32} {va : Nat → Nat → Int64} {n : Nat} {P P2 : Nat → Int32} {a : Nat} (h : ∀ i, i < 80 → P i = P2 i) (hn : n ≤ 80) (ha : a < 80) : ∀ i, i < 80 → fs_vs ex va n P a i = fs_vs ex va n P2 a i := fun i hi => by
  unfold fs_vs
  rw [h a ha, nn_cg h n 0 none (by omega)]
  split
  · cases fs_nn ex va P2 a n 0 none with
    | none => exact h i hi
    | some b =>
      show upd (upd P a (Int32.ofNat b)) b (Int32.ofNat a) i = upd (upd P2 a (Int32.ofNat b)) b (Int32.ofNat a) i
      unfold upd
      split
      · rfl
      · split
        · rfl
        · exact h i hi
  · exact h i hi
theorem pa_cg {V : fs_Vs} (hV : V.length ≤ 80) (P P2 : Nat → Int32) : ∀ i, i < 80 → fs_pa V P i = fs_pa V P2 i := by
  have go : ∀ (l : List Nat) (P P2 : Nat → Int32), (∀ k ∈ l, k < 80) → (∀ i, i < 80 → P i = P2 i) → ∀ i, i < 80 → l.foldl (fs_vs (fs_ex V) (fs_va V) V.length) P i = l.foldl (fs_vs (fs_ex V) (fs_va V) V.length) P2 i := by
    intro l
    induction l with
    | nil => intro P P2 _ h; exact h
    | cons a l ih =>
      intro P P2 hl h
      exact ih _ _ (fun k hk => hl k (List.mem_cons_of_mem _ hk)) (vs_cg h hV (hl a List.mem_cons_self))
  obtain ⟨o1, o2⟩ := od_spec (fs_va V) V.length 0 [] List.Pairwise.nil (fun k => ⟨fun h => absurd h List.not_mem_nil, fun h => absurd h.1 (Nat.not_lt_zero _)⟩)
  exact go _ _ _ (fun k hk => by have := ((o2 k).mp hk).1; omega) (fun i hi => by unfold fs_p0; rw [if_pos hi, if_pos hi])
