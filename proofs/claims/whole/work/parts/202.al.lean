/-! ArrayList -/
theorem x_oo {σ : fs_S} {f : Nat → Option Nat} {sp n : Nat} (h : ∀ i, i < n → ∀ y, f (sp + i) = some y → ∃ c fs, σ.1 y = some (.inr (c, fs)) ∧ c ≠ 2) : (fs_oo f sp n).1 σ = some ((), σ) := by
  have e : (List.range n).all (fun i => match f (sp + i) with
    | none => true
    | some y => (match fs_lk σ y with
      | some (.inr (c, _)) => decide (c ≠ 2)
      | _ => false)) = true := by
    rw [List.all_eq_true]
    intro i hi
    cases hy : f (sp + i) with
    | none => rfl
    | some y =>
      obtain ⟨c, fs, h1, h2⟩ := h i (List.mem_range.mp hi) y hy
      simp only [x_lk h1]
      exact decide_eq_true h2
  exact if_pos e
theorem x_cp {σ : fs_S} {a b ka kb s d n : Nat} {f g : Nat → Option Nat} {sp dp m : Int32} (ha : σ.1 a = some (fs_oa 3 ka f)) (hb : σ.1 b = some (fs_oa 3 kb g)) (hs : sp = Int32.ofNat s) (hd : dp = Int32.ofNat d) (hm : m = Int32.ofNat n) (h1 : s + n ≤ ka) (h2 : d + n ≤ kb) (h3 : ka ≤ 65536) (h4 : kb ≤ 65536)
    (ho : ∀ i, i < n → ∀ y, f (s + i) = some y → ∃ c fs, σ.1 y = some (.inr (c, fs)) ∧ c ≠ 2) : (fs_cp a sp b dp m).1 σ = some ((), fs_su σ b (fs_oa 3 kb (va_cpy f g s d n))) := by
  have s1 : sp.toNatClampNeg = s := by rw [hs]; exact Int32.toNatClampNeg_ofNat_of_lt (by omega)
  have d1 : dp.toNatClampNeg = d := by rw [hd]; exact Int32.toNatClampNeg_ofNat_of_lt (by omega)
  have m1 : m.toNatClampNeg = n := by rw [hm]; exact Int32.toNatClampNeg_ofNat_of_lt (by omega)
  have s2 : ¬ sp < 0 := by rw [hs]; exact Int32.ofNat_not_neg (by omega)
  have d2 : ¬ dp < 0 := by rw [hd]; exact Int32.ofNat_not_neg (by omega)
  have m2 : ¬ m < 0 := by rw [hm]; exact Int32.ofNat_not_neg (by omega)
  unfold fs_cp
  rw [x_bind, x_rdm, ha]
  simp only [Option.bind_some, fs_oa, fs_xQ, if_true, Option.map_some, s1, d1, m1]
  rw [if_pos ⟨s2, d2, m2, h1⟩, x_bind, x_oo ho, Option.bind_some, x_wr, hb]
  simp only [Option.bind_some, fs_oa, fs_yQ]
  rw [if_pos ⟨trivial, h2⟩]
  rfl
def fs_ao (ed n : Nat) (mc : Int32) : fs_E := .inr (2, [.ref ed, .int (Int32.ofNat n), .int mc])
def fs_caps : List Nat := [10, 15, 22, 33, 49, 73, 109]
/-- the list at al holds the objects rs; c1 is the constant empty array -/
def fs_AL (c1 al : Nat) (rs : List Nat) (h : List fs_C) : Prop := (∃ mc, rs = [] ∧ h = [(al, fs_ao c1 0 mc)]) ∨ ∃ ed cap f mc, h = [(al, fs_ao ed rs.length mc), (ed, fs_oa 3 cap f)] ∧ rs.length ≤ cap ∧ cap ∈ fs_caps ∧ ∀ i, i < rs.length → f i = rs[i]?
theorem caps_le {c : Nat} (h : c ∈ fs_caps) : 10 ≤ c ∧ c ≤ 109 := by
  simp only [fs_caps, List.mem_cons, List.not_mem_nil, or_false] at h
  omega
theorem al_obj {c1 al : Nat} {rs : List Nat} {h F : List fs_C} {σ : fs_S} (hA : fs_AL c1 al rs h) (ho : fs_own (h ++ F) σ) : ∃ ed mc, σ.1 al = some (fs_ao ed rs.length mc) := by
  rcases hA with ⟨mc, rfl, rfl⟩ | ⟨ed, cap, f, mc, rfl, -⟩
  · exact ⟨c1, mc, own_at ho List.mem_cons_self⟩
  · exact ⟨ed, mc, own_at ho List.mem_cons_self⟩
theorem p_AL_size {c1 al : Nat} {rs : List Nat} {h F : List fs_C} {σ : fs_S} (hA : fs_AL c1 al rs h) (ho : fs_own (h ++ F) σ) : (fs_cv al 2 (f_ArrayList_size al)).1 σ = some (Int32.ofNat rs.length, σ) := by
  obtain ⟨ed, mc, e⟩ := al_obj hA ho
  rw [x_cv e]
  unfold f_ArrayList_size
  rw [x_bind, x_gi e 1 rfl, Option.bind_some, x_ret]
theorem p_AL_isEmpty {c1 al : Nat} {rs : List Nat} {h F : List fs_C} {σ : fs_S} (hA : fs_AL c1 al rs h) (ho : fs_own (h ++ F) σ) (hl : rs.length < 2000) : (fs_cv al 2 (f_ArrayList_isEmpty al)).1 σ = some (if rs.length = 0 then 1 else 0, σ) := by
  obtain ⟨ed, mc, e⟩ := al_obj hA ho
  rw [x_cv e]
  unfold f_ArrayList_isEmpty
  rw [x_bind, x_gi e 1 rfl, Option.bind_some]
  by_cases h0 : rs.length = 0
  · simp [h0, fs_rz, x_ret]
  · have : ¬ Int32.ofNat rs.length = 0 := fun q => h0 (by
      have := congrArg Int32.toNatClampNeg q
      rw [Int32.toNatClampNeg_ofNat_of_lt (by omega)] at this
      exact this)
    simp [h0, this, fs_rz, x_ret]
theorem p_chk {σ : fs_S} {i v : Int32} {j n : Nat} (hi : i = Int32.ofNat j) (hv : v = Int32.ofNat n) (hj : j < n) (hn : n < 65536) : (f_Objects_checkIndex i v).1 σ = some (i, σ) := by
  have h1 : ¬ i < 0 := by rw [hi]; exact Int32.ofNat_not_neg (by omega)
  have h2 : i < v := by rw [hi, hv]; exact (Int32.ofNat_lt_ofNat (by omega) (by omega)).mpr hj
  unfold f_Objects_checkIndex f_Preconditions_checkIndex
  rw [x_bind, x_let, if_neg h1, if_pos h2, x_ret, Option.bind_some, x_ret]
theorem p_AL_get {c1 al j r : Nat} {rs : List Nat} {h F : List fs_C} {σ : fs_S} {i : Int32} (hA : fs_AL c1 al rs h) (ho : fs_own (h ++ F) σ) (hi : i = Int32.ofNat j) (hr : rs[j]? = some r) : (fs_cv al 2 (f_ArrayList_get al i)).1 σ = some (r, σ) := by
  have hj : j < rs.length := (List.getElem?_eq_some_iff.mp hr).1
  rcases hA with ⟨mc, rfl, rfl⟩ | ⟨ed, cap, f, mc, rfl, hle, hcap, hf⟩
  · exact absurd hj (Nat.not_lt_zero _)
  · have e := own_at ho (List.mem_cons_self)
    have e2 := own_at ho (List.mem_cons_of_mem _ List.mem_cons_self)
    have := caps_le hcap
    rw [x_cv e]
    unfold f_ArrayList_get
    rw [x_bind, x_gi e 1 rfl, Option.bind_some, x_bind, p_chk hi rfl hj (by omega), Option.bind_some, x_bind, x_cv e]
    unfold f_ArrayList_elementData
    rw [x_bind, x_gr e 0 rfl, Option.bind_some, x_bind, x_ar e2 (Or.inl rfl) hi (by omega) (by omega) (by rw [hf j hj]; exact hr), Option.bind_some, x_ret, Option.bind_some, x_ret]
theorem x_ca {σ : fs_S} {a n : Nat} {f : Nat → Option Nat} (h : σ.1 a = some (fs_oa 3 n f)) : (fs_ca a).1 σ = some ((), σ) := by
  show ((σ.1 a).bind _).map _ = _
  rw [h]
  simp [fs_oa]
/-- how a full list grows -/
def fs_nx (c : Nat) : Nat := c + c / 2
theorem nx_cap {c : Nat} (h : c ∈ fs_caps) (h1 : c < 100) : fs_nx c ∈ fs_caps := by
  simp only [fs_caps, List.mem_cons, List.not_mem_nil, or_false] at h
  rcases h with rfl | rfl | rfl | rfl | rfl | rfl | rfl <;> first | decide | omega
theorem p_newLength {σ : fs_S} {c : Nat} (h : c ∈ fs_caps) (h1 : c < 100) : (f_ArraysSupport_newLength (Int32.ofNat c) (Int32.ofNat c + 1 - Int32.ofNat c) (Int32.ofNat c >>> (1 &&& 31))).1 σ = some (Int32.ofNat (fs_nx c), σ) := by
  simp only [fs_caps, List.mem_cons, List.not_mem_nil, or_false] at h
  rcases h with rfl | rfl | rfl | rfl | rfl | rfl | rfl <;> first | rfl | omega
theorem min_cap {c : Nat} (h : c ∈ fs_caps) (h1 : c < 100) : fs_min (Int32.ofNat c) (Int32.ofNat (fs_nx c)) = Int32.ofNat c := by
  simp only [fs_caps, List.mem_cons, List.not_mem_nil, or_false] at h
  rcases h with rfl | rfl | rfl | rfl | rfl | rfl | rfl <;> first | rfl | omega
theorem ofNat_add1 (n : Nat) : Int32.ofNat n + 1 = Int32.ofNat (n + 1) := by
  rw [Int32.ofNat_add]
  rfl
theorem p_AL_add {c1 al r c : Nat} {fs : List Value} {rs : List Nat} {h F : List fs_C} {σ : fs_S} (hA : fs_AL c1 al rs h) (ho : fs_own (h ++ F) σ) (hc : σ.2.2.1 1 = c1) (hk : ∃ q, σ.2.1 c1 = some (fs_oa 3 0 q)) (hr : (r, (.inr (c, fs) : fs_E)) ∈ F) (hc2 : c ≠ 2)
    (hob : ∀ y ∈ rs, ∃ c fs, (y, (.inr (c, fs) : fs_E)) ∈ F ∧ c ≠ 2) (hl : rs.length < 100) : ∃ σ1 h1, (fs_cv al 2 (f_ArrayList_add_0 al r)).1 σ = some (1, σ1) ∧ fs_AL c1 al (rs ++ [r]) h1 ∧ fs_own (h1 ++ F) σ1 ∧ fs_st σ σ1 1 (10 + 2 * rs.length) := by
  rcases hA with ⟨mc, rfl, rfl⟩ | ⟨ed, cap, f, mc, rfl, hle, hcap, hf⟩
  · have e := own_at ho (List.mem_cons_self)
    have o1 := own_up (e1 := fs_ao c1 0 (mc + 1)) ho
    have e1 := own_at o1 (List.mem_cons_self)
    obtain ⟨q, hq⟩ := hk
    have hcn : (fs_su σ al (fs_ao c1 0 (mc + 1))).1 c1 = none := (o1.2.2 c1 (by show σ.2.1 c1 ≠ none; rw [hq]; exact fun h => by cases h)).2
    have hal : fs_lk (fs_su σ al (fs_ao c1 0 (mc + 1))) c1 = some (fs_oa 3 0 q) := x_lkc hcn hq
    have o2 := own_perm (own_mk (e := fs_oa 3 10 fun _ => none) (w := 10) o1) (List.Perm.swap _ _ _)
    have e2 := own_at o2 (List.mem_cons_self)
    have o3 := own_up (e1 := fs_ao σ.2.2.2.1 0 (mc + 1)) o2
    have o4 := own_perm o3 (List.Perm.swap _ _ _)
    have e4 := own_at o4 (List.mem_cons_self)
    have er := own_at o4 (List.mem_cons_of_mem _ (List.mem_cons_of_mem _ hr))
    have o5 := own_perm (own_up (e1 := fs_oa 3 10 (va_up (fun _ => none) 0 (some r))) o4) (List.Perm.swap _ _ _)
    have e5 := own_at o5 (List.mem_cons_self)
    have o6 := own_up (e1 := fs_ao σ.2.2.2.1 1 (mc + 1)) o5
    refine ⟨_, _, ?_, Or.inr ⟨σ.2.2.2.1, 10, va_up (fun _ => none) 0 (some r), mc + 1, rfl, Nat.le_of_ble_eq_true rfl, by decide, ?_⟩, o6, ⟨rfl, rfl, Nat.le_refl _, Nat.le_refl _⟩⟩
    · refine r_cv e (r_b (x_gi e 2 rfl) (r_b (x_pi e 2 _ (Nat.le_of_ble_eq_true rfl)) (r_b (x_gr e1 0 rfl) (r_b (x_gi e1 1 rfl) (r_b (v := ()) (r_cv e1 ?_) rfl)))))
      refine r_b (x_al hal (by decide)) (r_l (r_p rfl (r_b (v := σ.2.2.2.1) (r_cv e1 ?_) (r_b (x_sr e4 er hc2 (j := 0) rfl (by decide) (by decide)) (r_b (x_pi e5 1 _ (Nat.le_of_ble_eq_true rfl)) rfl)))))
      refine r_b (x_gi e1 1 rfl) (r_b (v := σ.2.2.2.1) (r_cv e1 ?_) rfl)
      refine r_b (x_gr e1 0 rfl) (r_b (x_al hal (by decide)) (r_l (r_n (show ¬ (0 : Int32) < Int32.ofNat 0 by decide) (r_b (x_gr e1 0 rfl) (r_b (x_gs _ _) (r_p (show c1 = σ.2.2.1 1 from hc.symm) (r_b (x_nr (j := 10) rfl (by decide)) (r_b (x_pr e2 0 _ (Nat.le_of_ble_eq_true rfl)) rfl))))))))
    · intro i hi
      have : i = 0 := by simpa using hi
      subst this
      rfl
  · have e := own_at ho (List.mem_cons_self)
    have o1 := own_up (e1 := fs_ao ed rs.length (mc + 1)) ho
    have e1 := own_at o1 (List.mem_cons_self)
    have o1b := own_perm o1 (List.Perm.swap _ _ _)
    have e2 := own_at o1b (List.mem_cons_self)
    have hcl := caps_le hcap
    by_cases hfull : rs.length = cap
    · have hc1 : cap < 100 := by omega
      have hnx := nx_cap hcap hc1
      have hnl := caps_le hnx
      have hnx2 : cap ≤ fs_nx cap := Nat.le_add_right _ _
      have hlt2 : rs.length < fs_nx cap := by
        unfold fs_nx
        omega
      have o2 := own_perm (own_mk (e := fs_oa 3 (fs_nx cap) fun _ => none) (w := fs_nx cap) o1b) (List.Perm.swap _ _ _)
      have e3 := own_at o2 (List.mem_cons_self)
      have o3 := own_perm o2 (List.Perm.swap _ _ _)
      have e4 := own_at o3 (List.mem_cons_self)
      have o4 := own_up (e1 := fs_oa 3 (fs_nx cap) (va_cpy f (fun _ => none) 0 0 cap)) o3
      have o5 := own_perm o4 ((List.Perm.cons _ (List.Perm.swap _ _ _)).trans (List.Perm.swap _ _ _))
      have e5 := own_at o5 (List.mem_cons_self)
      have o6 := own_up (e1 := fs_ao σ.2.2.2.1 rs.length (mc + 1)) o5
      have o7 := own_perm o6 (List.Perm.swap _ _ _)
      have e7 := own_at o7 (List.mem_cons_self)
      have er := own_at o7 (List.mem_cons_of_mem _ (List.mem_cons_of_mem _ (List.mem_cons_of_mem _ hr)))
      have o8 := own_perm (own_up (e1 := fs_oa 3 (fs_nx cap) (va_up (va_cpy f (fun _ => none) 0 0 cap) rs.length (some r))) o7) (List.Perm.swap _ _ _)
      have e8 := own_at o8 (List.mem_cons_self)
      have o9 := own_up (e1 := fs_ao σ.2.2.2.1 (rs ++ [r]).length (mc + 1)) o8
      have o10 : fs_own ([(al, fs_ao σ.2.2.2.1 (rs ++ [r]).length (mc + 1)), (σ.2.2.2.1, fs_oa 3 (fs_nx cap) (va_up (va_cpy f (fun _ => none) 0 0 cap) rs.length (some r)))] ++ F) _ := own_drop (H := [(ed, fs_oa 3 cap f)]) (own_perm o9 ((List.Perm.cons _ (List.Perm.swap _ _ _)).trans (List.Perm.swap _ _ _)))
      refine ⟨_, _, ?_, Or.inr ⟨σ.2.2.2.1, fs_nx cap, va_up (va_cpy f (fun _ => none) 0 0 cap) rs.length (some r), mc + 1, rfl, ?_, hnx, ?_⟩, o10, ⟨rfl, rfl, Nat.le_refl _, ?_⟩⟩
      · refine r_cv e (r_b (x_gi e 2 rfl) (r_b (x_pi e 2 _ (Nat.le_of_ble_eq_true rfl)) (r_b (x_gr e1 0 rfl) (r_b (x_gi e1 1 rfl) (r_b (v := ()) (r_cv e1 ?_) rfl)))))
        refine r_b (x_al (x_lk e2) (by decide)) (r_l (r_p (by rw [hfull]) (r_b (v := σ.2.2.2.1) (r_cv e1 ?_) (r_b (x_sr e7 er hc2 (j := rs.length) rfl hlt2 (by omega)) (r_b (x_pi e8 1 _ (Nat.le_of_ble_eq_true rfl)) ?_)))))
        · refine r_b (x_gi e1 1 rfl) (r_b (v := σ.2.2.2.1) (r_cv e1 ?_) rfl)
          refine r_b (x_gr e1 0 rfl) (r_b (x_al (x_lk e2) (by decide)) (r_l (r_p ?_ ?_)))
          · exact (Int32.ofNat_lt_ofNat (k := 0) (n := cap) (by omega) (by omega)).mpr (by omega)
          · refine r_b (v := Int32.ofNat (fs_nx cap)) (by rw [hfull]; exact p_newLength hcap hc1) (r_b (x_gr e1 0 rfl) (r_b (v := σ.2.2.2.1) ?_ (r_b (x_pr e5 0 _ (Nat.le_of_ble_eq_true rfl)) rfl)))
            refine r_b (v := σ.2.2.1 2) (r_b (x_ca e2) (x_gs _ _)) (r_b (v := σ.2.2.2.1) ?_ rfl)
            refine r_b (x_gs _ _) (r_l (r_p rfl (r_b (x_nr (j := fs_nx cap) rfl (by omega)) (r_b (x_al (x_lk e3) (by decide)) (r_b (x_cp e3 e4 (s := 0) (d := 0) (n := cap) rfl rfl (min_cap hcap hc1) (by omega) (by omega) (by omega) (by omega) ?_) rfl)))))
            intro i hi y hy
            rw [Nat.zero_add, hf i (by omega)] at hy
            obtain ⟨c9, fs9, h9, hc9⟩ := hob y (List.mem_of_getElem? hy)
            exact ⟨c9, fs9, own_at o3 (List.mem_cons_of_mem _ (List.mem_cons_of_mem _ (List.mem_cons_of_mem _ h9))), hc9⟩
        · rw [ofNat_add1]
          simp only [List.length_append, List.length_cons, List.length_nil]
          rfl
      · rw [List.length_append]
        show rs.length + 1 ≤ fs_nx cap
        unfold fs_nx
        omega
      · intro i hi
        rw [List.length_append] at hi
        by_cases hq : i = rs.length
        · subst hq
          rw [va_up_self]
          simp
        · have hi2 : i < rs.length := by simp at hi; omega
          rw [va_up_ne _ _ hq, List.getElem?_append_left hi2]
          unfold va_cpy
          rw [if_pos ⟨Nat.zero_le _, by omega⟩, Nat.sub_zero, Nat.zero_add]
          exact hf i hi2
      · show σ.2.2.2.2 + fs_nx cap ≤ _
        unfold fs_nx
        omega
    · have er := own_at o1b (List.mem_cons_of_mem _ (List.mem_cons_of_mem _ hr))
      have o2 := own_perm (own_up (e1 := fs_oa 3 cap (va_up f rs.length (some r))) o1b) (List.Perm.swap _ _ _)
      have e3 := own_at o2 (List.mem_cons_self)
      have o3 := own_up (e1 := fs_ao ed (rs ++ [r]).length (mc + 1)) o2
      refine ⟨_, _, ?_, Or.inr ⟨ed, cap, va_up f rs.length (some r), mc + 1, rfl, by rw [List.length_append]; show rs.length + 1 ≤ cap; omega, hcap, ?_⟩, o3, ⟨rfl, rfl, Nat.le_add_right _ _, Nat.le_add_right _ _⟩⟩
      · refine r_cv e (r_b (x_gi e 2 rfl) (r_b (x_pi e 2 _ (Nat.le_of_ble_eq_true rfl)) (r_b (x_gr e1 0 rfl) (r_b (x_gi e1 1 rfl) (r_b (v := ()) (r_cv e1 ?_) rfl)))))
        refine r_b (x_al (x_lk e2) (by decide)) (r_l (r_n (fun q => hfull ?_) (r_b (x_sr e2 er hc2 (j := rs.length) rfl (by omega) (by omega)) (r_b (x_pi e3 1 _ (Nat.le_of_ble_eq_true rfl)) ?_))))
        · have := congrArg Int32.toNatClampNeg q
          rw [Int32.toNatClampNeg_ofNat_of_lt (by omega)] at this
          exact this.trans (Int32.toNatClampNeg_ofNat_of_lt (by omega))
        · rw [ofNat_add1]
          simp only [List.length_append, List.length_cons, List.length_nil]
          rfl
      · intro i hi
        rw [List.length_append] at hi
        by_cases hq : i = rs.length
        · subst hq
          rw [va_up_self]
          simp
        · rw [va_up_ne _ _ hq, List.getElem?_append_left (by simp at hi; omega)]
          exact hf i (by simp at hi; omega)
theorem ofNat_sub1 {n : Nat} (h : 0 < n) : Int32.ofNat n - 1 = Int32.ofNat (n - 1) := (Int32.ofNat_sub n 1 h).symm
theorem p_AL_remove {c1 al j r : Nat} {rs : List Nat} {h F : List fs_C} {σ : fs_S} {i : Int32} (hA : fs_AL c1 al rs h) (ho : fs_own (h ++ F) σ) (hi : i = Int32.ofNat j) (hr : rs[j]? = some r)
    (hob : ∀ y ∈ rs, ∃ c fs, (y, (.inr (c, fs) : fs_E)) ∈ F ∧ c ≠ 2) : ∃ σ1 h1, (fs_cv al 2 (f_ArrayList_remove al i)).1 σ = some (r, σ1) ∧ fs_AL c1 al (rs.eraseIdx j) h1 ∧ fs_own (h1 ++ F) σ1 ∧ fs_st σ σ1 0 0 := by
  have hj : j < rs.length := (List.getElem?_eq_some_iff.mp hr).1
  rcases hA with ⟨mc, rfl, rfl⟩ | ⟨ed, cap, f, mc, rfl, hle, hcap, hf⟩
  · exact absurd hj (Nat.not_lt_zero _)
  · have e := own_at ho (List.mem_cons_self)
    have e2 := own_at ho (List.mem_cons_of_mem _ List.mem_cons_self)
    have hcl := caps_le hcap
    have hlen : (rs.eraseIdx j).length = rs.length - 1 := List.length_eraseIdx_of_lt hj
    have o1 := own_up (e1 := fs_ao ed rs.length (mc + 1)) ho
    have e3 := own_at o1 (List.mem_cons_self)
    by_cases hlast : rs.length - 1 ≤ j
    · have o2 := own_perm (own_up (e1 := fs_ao ed (rs.length - 1) (mc + 1)) o1) (List.Perm.swap _ _ _)
      have e4 := own_at o2 (List.mem_cons_self)
      have o3 := own_perm (own_up (e1 := fs_oa 3 cap (va_up f (rs.length - 1) none)) o2) (List.Perm.swap _ _ _)
      refine ⟨_, _, ?_, Or.inr ⟨ed, cap, va_up f (rs.length - 1) none, mc + 1, by rw [hlen], by omega, hcap, ?_⟩, o3, ?_⟩
      rotate_left 2
      · exact ⟨rfl, rfl, Nat.le_refl _, Nat.le_refl _⟩
      · refine r_cv e (r_b (x_gi e 1 rfl) (r_b (p_chk hi rfl hj (by omega)) (r_b (x_gr e 0 rfl) (r_b (x_ar e2 (Or.inl rfl) hi (by omega) (by omega) (by rw [hf j hj]; exact hr)) (r_b (v := ()) (r_cv e ?_) rfl)))))
        refine r_b (x_gi e 2 rfl) (r_b (x_pi e 2 _ (Nat.le_of_ble_eq_true rfl)) (r_b (x_gi e3 1 rfl) (r_m (r_l (r_p ?_ (r_b (v := ()) (σ1 := fs_su _ al (fs_ao ed (rs.length - 1) (mc + 1))) ?_ (r_b (x_s0 e4 (j := rs.length - 1) ?_ (by omega) (by omega)) rfl)))))))
        · rw [ofNat_sub1 (by omega), hi]
          exact (Int32.ofNat_le_ofNat (by omega) (by omega)).mpr hlast
        · rw [ofNat_sub1 (by omega)]
          exact x_pi e3 1 _ (Nat.le_of_ble_eq_true rfl)
        · exact ofNat_sub1 (by omega)
      · intro i hi2
        rw [hlen] at hi2
        rw [va_up_ne _ _ (by omega), hf i (by omega), List.getElem?_eraseIdx_of_lt (by omega)]
    · have o2 := own_perm o1 (List.Perm.swap _ _ _)
      have e4 := own_at o2 (List.mem_cons_self)
      have o3 := own_perm (own_up (e1 := fs_oa 3 cap (va_cpy f f (j + 1) j (rs.length - 1 - j))) o2) (List.Perm.swap _ _ _)
      have e5 := own_at o3 (List.mem_cons_self)
      have o4 := own_perm (own_up (e1 := fs_ao ed (rs.length - 1) (mc + 1)) o3) (List.Perm.swap _ _ _)
      have e6 := own_at o4 (List.mem_cons_self)
      have o5 := own_perm (own_up (e1 := fs_oa 3 cap (va_up (va_cpy f f (j + 1) j (rs.length - 1 - j)) (rs.length - 1) none)) o4) (List.Perm.swap _ _ _)
      refine ⟨_, _, ?_, Or.inr ⟨ed, cap, _, mc + 1, by rw [hlen], by omega, hcap, ?_⟩, o5, ?_⟩
      rotate_left 2
      · exact ⟨rfl, rfl, Nat.le_refl _, Nat.le_refl _⟩
      · refine r_cv e (r_b (x_gi e 1 rfl) (r_b (p_chk hi rfl hj (by omega)) (r_b (x_gr e 0 rfl) (r_b (x_ar e2 (Or.inl rfl) hi (by omega) (by omega) (by rw [hf j hj]; exact hr)) (r_b (v := ()) (r_cv e ?_) rfl)))))
        refine r_b (x_gi e 2 rfl) (r_b (x_pi e 2 _ (Nat.le_of_ble_eq_true rfl)) (r_b (x_gi e3 1 rfl) (r_m (r_l (r_n ?_ (r_b (x_cp e4 e4 (s := j + 1) (d := j) (n := rs.length - 1 - j) ?_ hi ?_ (by omega) (by omega) (by omega) (by omega) ?_) (r_b (v := ()) (σ1 := fs_su _ al (fs_ao ed (rs.length - 1) (mc + 1))) ?_ (r_b (x_s0 e6 (j := rs.length - 1) ?_ (by omega) (by omega)) rfl))))))))
        · rw [ofNat_sub1 (by omega), hi]
          exact fun q => hlast ((Int32.ofNat_le_ofNat (by omega) (by omega)).mp q)
        · rw [hi]
          exact ofNat_add1 j
        · rw [ofNat_sub1 (by omega), hi]
          exact (Int32.ofNat_sub _ _ (by omega)).symm
        · intro i hi2 y hy
          rw [hf (j + 1 + i) (by omega)] at hy
          obtain ⟨c9, fs9, h9, hc9⟩ := hob y (List.mem_of_getElem? hy)
          exact ⟨c9, fs9, own_at o2 (List.mem_cons_of_mem _ (List.mem_cons_of_mem _ h9)), hc9⟩
        · rw [ofNat_sub1 (by omega)]
          exact x_pi e5 1 _ (Nat.le_of_ble_eq_true rfl)
        · exact ofNat_sub1 (by omega)
      · intro i hi2
        rw [hlen] at hi2
        rw [va_up_ne _ _ (by omega)]
        unfold va_cpy
        by_cases hq : i < j
        · rw [if_neg (by omega), hf i (by omega), List.getElem?_eraseIdx_of_lt hq]
        · rw [if_pos (by omega), hf _ (by omega), List.getElem?_eraseIdx_of_ge (by omega)]
          congr 1
          omega
def al_cl (ed : Nat) (v : Int32) (k : Int32 → fs_T Unit) (i : Int32) : fs_T Unit := if v ≤ i then fs_ret () else fs_bind (fs_s0 ed i) fun _ => fs_nm (i + 1) fun w => k w
theorem al_loop {ed cap n : Nat} {G : List fs_C} (hn : n ≤ cap) (hc : cap ≤ 109) : ∀ (m fuel i : Nat) (f : Nat → Option Nat) (σ : fs_S), n - i = m → i ≤ n → m < fuel → fs_own ((ed, fs_oa 3 cap f) :: G) σ →
    ∃ f1 σ1, (fs_lp1 fuel (al_cl ed (Int32.ofNat n)) (Int32.ofNat i)).1 σ = some ((), σ1) ∧ fs_own ((ed, fs_oa 3 cap f1) :: G) σ1 ∧ fs_st σ σ1 0 0
  | 0, fuel + 1, i, f, σ, h1, h2, _, ho => ⟨f, σ, r_p ((Int32.ofNat_le_ofNat (by omega) (by omega)).mpr (by omega)) rfl, ho, st_rf σ⟩
  | m + 1, fuel + 1, i, f, σ, h1, h2, h3, ho => by
    obtain ⟨f1, σ1, q1, q2, q3⟩ := al_loop hn hc m fuel (i + 1) (va_up f i none) _ (by omega) (by omega) (by omega) (own_up (e1 := fs_oa 3 cap (va_up f i none)) ho)
    refine ⟨f1, σ1, r_n (fun q => ?_) (r_b (x_s0 (own_at ho List.mem_cons_self) (j := i) rfl (by omega) (by omega)) (r_m ?_)), q2, q3⟩
    · have := (Int32.ofNat_le_ofNat (k := n) (n := i) (by omega) (by omega)).mp q
      omega
    · rw [ofNat_add1]
      exact q1
  | _, 0, _, _, _, _, _, h, _ => absurd h (Nat.not_lt_zero _)
set_option maxRecDepth 100000 in
theorem p_AL_clear {c1 al : Nat} {rs : List Nat} {h F : List fs_C} {σ : fs_S} (hA : fs_AL c1 al rs h) (ho : fs_own (h ++ F) σ) : ∃ σ1 h1, (fs_cv al 2 (f_ArrayList_clear al)).1 σ = some ((), σ1) ∧ fs_AL c1 al [] h1 ∧ fs_own (h1 ++ F) σ1 ∧ fs_st σ σ1 0 0 := by
  rcases hA with ⟨mc, rfl, rfl⟩ | ⟨ed, cap, f, mc, rfl, hle, hcap, hf⟩
  · have e := own_at ho (List.mem_cons_self)
    have o1 := own_up (e1 := fs_ao c1 0 (mc + 1)) ho
    have e1 := own_at o1 (List.mem_cons_self)
    have o2 := own_up (e1 := fs_ao c1 0 (mc + 1)) o1
    refine ⟨_, _, ?_, Or.inl ⟨mc + 1, rfl, rfl⟩, o2, ⟨rfl, rfl, Nat.le_refl _, Nat.le_refl _⟩⟩
    exact r_cv e (r_b (x_gi e 2 rfl) (r_b (x_pi e 2 _ (Nat.le_of_ble_eq_true rfl)) (r_b (x_gr e1 0 rfl) (r_b (x_gi e1 1 rfl) (r_b (x_pi e1 1 _ (Nat.le_of_ble_eq_true rfl)) (r_lp1 (n := 4095) (r_p (show Int32.ofNat 0 ≤ 0 by decide) rfl)))))))
  · have e := own_at ho (List.mem_cons_self)
    have hcl := caps_le hcap
    have o1 := own_up (e1 := fs_ao ed rs.length (mc + 1)) ho
    have e1 := own_at o1 (List.mem_cons_self)
    have o2 := own_perm (own_up (e1 := fs_ao ed 0 (mc + 1)) o1) (List.Perm.swap _ _ _)
    obtain ⟨f1, σ1, q1, q2, q3⟩ := al_loop hle hcl.2 rs.length 4096 0 f _ (by omega) (by omega) (by omega) o2
    refine ⟨σ1, _, ?_, Or.inr ⟨ed, cap, f1, mc + 1, rfl, Nat.zero_le _, hcap, fun i hi => absurd hi (Nat.not_lt_zero _)⟩, own_perm q2 (List.Perm.swap _ _ _), q3⟩
    exact r_cv e (r_b (x_gi e 2 rfl) (r_b (x_pi e 2 _ (Nat.le_of_ble_eq_true rfl)) (r_b (x_gr e1 0 rfl) (r_b (x_gi e1 1 rfl) (r_b (x_pi e1 1 _ (Nat.le_of_ble_eq_true rfl)) q1)))))
