/-! running programs; cells and who holds them -/
abbrev fs_C : Type := Nat × fs_E
def fs_su (σ : fs_S) (a : Nat) (e : fs_E) : fs_S := (fs_up (fs_m σ) a e, σ.2)
def fs_sm (σ : fs_S) (e : fs_E) (w : Nat) : fs_S := (fs_up (fs_m σ) (fs_n σ) e, fs_k σ, fs_c σ, fs_n σ + 1, fs_u σ + w)
theorem su_m (σ : fs_S) (a b : Nat) (e : fs_E) : (fs_su σ a e).1 b = if b = a then some e else σ.1 b := rfl
theorem su_2 (σ : fs_S) (a : Nat) (e : fs_E) : (fs_su σ a e).2 = σ.2 := rfl
theorem sm_m (σ : fs_S) (b w : Nat) (e : fs_E) : (fs_sm σ e w).1 b = if b = σ.2.2.2.1 then some e else σ.1 b := rfl
theorem sm_k (σ : fs_S) (w : Nat) (e : fs_E) : (fs_sm σ e w).2.1 = σ.2.1 := rfl
theorem sm_c (σ : fs_S) (w : Nat) (e : fs_E) : (fs_sm σ e w).2.2.1 = σ.2.2.1 := rfl
theorem sm_n (σ : fs_S) (w : Nat) (e : fs_E) : (fs_sm σ e w).2.2.2.1 = σ.2.2.2.1 + 1 := rfl
theorem sm_u (σ : fs_S) (w : Nat) (e : fs_E) : (fs_sm σ e w).2.2.2.2 = σ.2.2.2.2 + w := rfl
theorem x_bind {α β : Type} (x : fs_T α) (k : α → fs_T β) (σ : fs_S) : (fs_bind x k).1 σ = (x.1 σ).bind fun q => (k q.1).1 q.2 := rfl
theorem x_ret {α : Type} (v : α) (σ : fs_S) : (fs_ret v).1 σ = some (v, σ) := rfl
theorem x_rd {α : Type} (a : Nat) (g : fs_E → Option α) (σ : fs_S) : (fs_rd a g).1 σ = ((fs_lk σ a).bind g).map fun v => (v, σ) := rfl
theorem x_rdm {α : Type} (a : Nat) (g : fs_E → Option α) (σ : fs_S) : (fs_rdm a g).1 σ = ((σ.1 a).bind g).map fun v => (v, σ) := rfl
theorem x_wr (a : Nat) (g : fs_E → Option fs_E) (σ : fs_S) : (fs_wr a g).1 σ = ((σ.1 a).bind g).map fun e => ((), fs_su σ a e) := rfl
theorem x_mk (e : fs_E) (w : Nat) (σ : fs_S) : (fs_mk e w).1 σ = some (σ.2.2.2.1, fs_sm σ e w) := rfl
theorem x_gs (i : Nat) (σ : fs_S) : (fs_gs i).1 σ = some (σ.2.2.1 i, σ) := rfl
theorem x_nm {α β : Type} (x : α) (k : α → fs_T β) : fs_nm x k = k x := rfl
theorem x_let {α β : Type} (x : α) (k : α → fs_T β) : fs_let x k = k x := rfl
theorem x_if {α : Type} (c : Prop) [Decidable c] (x y : fs_T α) (σ : fs_S) : (if c then x else y).1 σ = if c then x.1 σ else y.1 σ := by
  split <;> rfl
theorem x_lk {σ : fs_S} {a : Nat} {e : fs_E} (h : σ.1 a = some e) : fs_lk σ a = some e := by
  show (match σ.1 a with
    | some e => some e
    | none => σ.2.1 a) = some e
  rw [h]
theorem x_lkc {σ : fs_S} {a : Nat} {e : fs_E} (h : σ.1 a = none) (k : σ.2.1 a = some e) : fs_lk σ a = some e := by
  show (match σ.1 a with
    | some e => some e
    | none => σ.2.1 a) = some e
  rw [h]
  exact k
/-- the cells of H stand in σ, no two at one place; constants lie apart -/
def fs_own (H : List fs_C) (σ : fs_S) : Prop := (H.map Prod.fst).Nodup ∧ (∀ q ∈ H, σ.1 q.1 = some q.2 ∧ q.1 < σ.2.2.2.1) ∧ ∀ a, σ.2.1 a ≠ none → a < σ.2.2.2.1 ∧ σ.1 a = none
theorem own_at {H : List fs_C} {σ : fs_S} (h : fs_own H σ) {a : Nat} {e : fs_E} (hm : (a, e) ∈ H) : σ.1 a = some e := (h.2.1 (a, e) hm).1
theorem own_perm {H H2 : List fs_C} {σ : fs_S} (h : fs_own H σ) (p : H.Perm H2) : fs_own H2 σ :=
  ⟨(p.map _).nodup_iff.mp h.1, fun q hq => h.2.1 q (p.mem_iff.mpr hq), h.2.2⟩
theorem own_drop {H F : List fs_C} {σ : fs_S} (h : fs_own (H ++ F) σ) : fs_own F σ := by
  refine ⟨?_, fun q hq => h.2.1 q (List.mem_append_right _ hq), h.2.2⟩
  have := h.1
  rw [List.map_append] at this
  exact (List.nodup_append.mp this).2.1
theorem own_up {a : Nat} {e e1 : fs_E} {F : List fs_C} {σ : fs_S} (h : fs_own ((a, e) :: F) σ) : fs_own ((a, e1) :: F) (fs_su σ a e1) := by
  obtain ⟨h1, h2, h3⟩ := h
  have ha := h2 (a, e) List.mem_cons_self
  rw [List.map_cons, List.nodup_cons] at h1
  refine ⟨by rw [List.map_cons, List.nodup_cons]; exact h1, fun q hq => ?_, fun b hb => ?_⟩
  · rcases List.mem_cons.mp hq with rfl | hq
    · exact ⟨by rw [su_m, if_pos rfl], ha.2⟩
    · have hne : q.1 ≠ a := fun e => h1.1 (by rw [← e]; exact List.mem_map.mpr ⟨q, hq, rfl⟩)
      exact ⟨by rw [su_m, if_neg hne]; exact (h2 q (List.mem_cons_of_mem _ hq)).1, (h2 q (List.mem_cons_of_mem _ hq)).2⟩
  · have := h3 b hb
    have hne : b ≠ a := fun e => by
      rw [e, ha.1] at this
      cases this.2
    exact ⟨this.1, by rw [su_m, if_neg hne]; exact this.2⟩
theorem own_mk {e : fs_E} {w : Nat} {F : List fs_C} {σ : fs_S} (h : fs_own F σ) : fs_own ((σ.2.2.2.1, e) :: F) (fs_sm σ e w) := by
  obtain ⟨h1, h2, h3⟩ := h
  refine ⟨?_, fun q hq => ?_, fun b hb => ?_⟩
  · rw [List.map_cons, List.nodup_cons]
    refine ⟨fun hm => ?_, h1⟩
    obtain ⟨q, hq, he⟩ := List.mem_map.mp hm
    have := (h2 q hq).2
    rw [he] at this
    exact absurd this (Nat.lt_irrefl _)
  · rcases List.mem_cons.mp hq with rfl | hq
    · exact ⟨by rw [sm_m, if_pos rfl], by rw [sm_n]; exact Nat.lt_succ_self _⟩
    · have := h2 q hq
      exact ⟨by rw [sm_m, if_neg (Nat.ne_of_lt this.2)]; exact this.1, by rw [sm_n]; exact Nat.lt_succ_of_lt this.2⟩
  · have := h3 b hb
    exact ⟨by rw [sm_n]; exact Nat.lt_succ_of_lt this.1, by rw [sm_m, if_neg (Nat.ne_of_lt this.1)]; exact this.2⟩
/-- what a run leaves, and how much it takes -/
def fs_st (σ σ1 : fs_S) (N U : Nat) : Prop := σ1.2.1 = σ.2.1 ∧ σ1.2.2.1 = σ.2.2.1 ∧ σ1.2.2.2.1 ≤ σ.2.2.2.1 + N ∧ σ1.2.2.2.2 ≤ σ.2.2.2.2 + U
theorem st_rf (σ : fs_S) : fs_st σ σ 0 0 := ⟨rfl, rfl, Nat.le_refl _, Nat.le_refl _⟩
theorem st_tr {σ σ1 σ2 : fs_S} {N U N2 U2 : Nat} (h : fs_st σ σ1 N U) (k : fs_st σ1 σ2 N2 U2) : fs_st σ σ2 (N + N2) (U + U2) := by
  obtain ⟨a1, a2, a3, a4⟩ := h
  obtain ⟨b1, b2, b3, b4⟩ := k
  exact ⟨b1.trans a1, b2.trans a2, by omega, by omega⟩
theorem st_le {σ σ1 : fs_S} {N U N2 U2 : Nat} (h : fs_st σ σ1 N U) (h1 : N ≤ N2) (h2 : U ≤ U2) : fs_st σ σ1 N2 U2 := ⟨h.1, h.2.1, Nat.le_trans h.2.2.1 (Nat.add_le_add_left h1 _), Nat.le_trans h.2.2.2 (Nat.add_le_add_left h2 _)⟩
theorem st_su (σ : fs_S) (a : Nat) (e : fs_E) : fs_st σ (fs_su σ a e) 0 0 := ⟨rfl, rfl, Nat.le_refl _, Nat.le_refl _⟩
theorem st_sm (σ : fs_S) (e : fs_E) (w : Nat) : fs_st σ (fs_sm σ e w) 1 w := ⟨rfl, rfl, Nat.le_refl _, Nat.le_refl _⟩
theorem su_su (σ : fs_S) (a : Nat) (e e1 : fs_E) : fs_su (fs_su σ a e) a e1 = fs_su σ a e1 := by
  refine Prod.ext (funext fun b => ?_) rfl
  rw [su_m, su_m, su_m]
  split <;> rfl
theorem su_at (σ : fs_S) (a : Nat) (e : fs_E) : (fs_su σ a e).1 a = some e := by rw [su_m, if_pos rfl]
theorem su_ne {σ : fs_S} {a b : Nat} (h : b ≠ a) (e : fs_E) : (fs_su σ a e).1 b = σ.1 b := by rw [su_m, if_neg h]
theorem x_cv {α : Type} {σ : fs_S} {b ci : Nat} {fs : List Value} (h : σ.1 b = some (.inr (ci, fs))) (x : fs_T α) : (fs_cv b ci x).1 σ = x.1 σ := by
  show ((fs_ck b ci).1 σ).bind _ = _
  rw [show (fs_ck b ci).1 σ = some ((), σ) by
    show ((fs_lk σ b).bind _).map _ = _
    rw [x_lk h]
    simp]
  rfl
theorem x_gi {σ : fs_S} {a ci : Nat} {fs : List Value} (h : σ.1 a = some (.inr (ci, fs))) (k : Nat) {v : Int32} (hv : fs[k]? = some (.int v)) : (fs_gi a ci k).1 σ = some (v, σ) := by
  show ((fs_lk σ a).bind _).map _ = _
  rw [x_lk h]
  simp [fs_fI, hv]
theorem x_gr {σ : fs_S} {a ci : Nat} {fs : List Value} (h : σ.1 a = some (.inr (ci, fs))) (k : Nat) {v : Nat} (hv : fs[k]? = some (.ref v)) : (fs_gr a ci k).1 σ = some (v, σ) := by
  show ((fs_lk σ a).bind _).map _ = _
  rw [x_lk h]
  simp [fs_fR, hv]
theorem x_ck {σ : fs_S} {a ci : Nat} {fs : List Value} (h : σ.1 a = some (.inr (ci, fs))) : (fs_ck a ci).1 σ = some ((), σ) := by
  show ((fs_lk σ a).bind _).map _ = _
  rw [x_lk h]
  simp
theorem x_pi {σ : fs_S} {a ci : Nat} {fs : List Value} (h : σ.1 a = some (.inr (ci, fs))) (k : Nat) (v : Int32) (hk : k < fs.length) : (fs_pi a ci k v).1 σ = some ((), fs_su σ a (.inr (ci, fs.set k (.int v)))) := by
  show ((σ.1 a).bind _).map _ = _
  rw [h]
  simp [fs_fP, hk, fs_su]
theorem x_pr {σ : fs_S} {a ci : Nat} {fs : List Value} (h : σ.1 a = some (.inr (ci, fs))) (k v : Nat) (hk : k < fs.length) : (fs_pr a ci k v).1 σ = some ((), fs_su σ a (.inr (ci, fs.set k (.ref v)))) := by
  show ((σ.1 a).bind _).map _ = _
  rw [h]
  simp [fs_fP, hk, fs_su]
theorem x_pz {σ : fs_S} {a ci : Nat} {fs : List Value} (h : σ.1 a = some (.inr (ci, fs))) (k : Nat) {v : Int32} (hz : v = 0 ∨ v = 1) (hk : k < fs.length) : (fs_pz a ci k v).1 σ = some ((), fs_su σ a (.inr (ci, fs.set k (.int v)))) := by
  unfold fs_pz
  rw [if_pos hz]
  show ((σ.1 a).bind _).map _ = _
  rw [h]
  simp [fs_fP, hk, fs_su]
/-- arrays -/
def fs_ia (n : Nat) (f : Nat → Int32) : fs_E := .inl (0, n, .inl f)
def fs_oa (t n : Nat) (f : Nat → Option Nat) : fs_E := .inl (t, n, .inr (.inr (.inr (.inr f))))
theorem x_in {i : Int32} {n j : Nat} (hi : i = Int32.ofNat j) (hj : j < n) (hn : n ≤ 65536) : (¬ (i < 0 ∨ n ≤ i.toNatClampNeg)) ∧ i.toNatClampNeg = j := by
  have h1 : i.toNatClampNeg = j := by rw [hi]; exact Int32.toNatClampNeg_ofNat_of_lt (by omega)
  have h2 : ¬ i < 0 := by rw [hi]; exact Int32.ofNat_not_neg (by omega)
  exact ⟨fun h => h.elim h2 (fun h => by rw [h1] at h; omega), h1⟩
theorem x_ai {σ : fs_S} {a n j : Nat} {f : Nat → Int32} {i : Int32} (h : fs_lk σ a = some (fs_ia n f)) (hi : i = Int32.ofNat j) (hj : j < n) (hn : n ≤ 65536) : (fs_ai a i).1 σ = some (f j, σ) := by
  obtain ⟨h1, h2⟩ := x_in hi hj hn
  show ((fs_lk σ a).bind _).map _ = _
  rw [h]
  simp only [Option.bind_some, fs_ia, fs_xI]
  rw [if_pos ⟨trivial, h1⟩, h2]
  rfl
theorem x_ar {σ : fs_S} {a t n j : Nat} {f : Nat → Option Nat} {i : Int32} {r : Nat} (h : σ.1 a = some (fs_oa t n f)) (ht : t = 3 ∨ t = 4) (hi : i = Int32.ofNat j) (hj : j < n) (hn : n ≤ 65536) (hr : f j = some r) : (fs_ar a i).1 σ = some (r, σ) := by
  obtain ⟨h1, h2⟩ := x_in hi hj hn
  show ((fs_lk σ a).bind _).map _ = _
  rw [x_lk h]
  simp only [Option.bind_some, fs_oa, fs_xR]
  rw [if_pos ⟨ht, h1⟩, h2, hr]
  rfl
theorem x_si {σ : fs_S} {a n j : Nat} {f : Nat → Int32} {i v : Int32} (h : σ.1 a = some (fs_ia n f)) (hi : i = Int32.ofNat j) (hj : j < n) (hn : n ≤ 65536) : (fs_si a i v).1 σ = some ((), fs_su σ a (fs_ia n (upd f j v))) := by
  obtain ⟨h1, h2⟩ := x_in hi hj hn
  show ((σ.1 a).bind _).map _ = _
  rw [h]
  simp only [Option.bind_some, fs_ia, fs_yI]
  rw [if_pos ⟨trivial, h1⟩, h2]
  rfl
theorem x_al {σ : fs_S} {a t : Nat} {x : vp_A} (h : fs_lk σ a = some (.inl (t, x))) (ht : t < 5) : (fs_al a).1 σ = some (Int32.ofNat x.1, σ) := by
  show ((fs_lk σ a).bind _).map _ = _
  rw [h]
  simp [fs_xL, ht]
theorem x_s0 {σ : fs_S} {a n j : Nat} {f : Nat → Option Nat} {i : Int32} (h : σ.1 a = some (fs_oa 3 n f)) (hi : i = Int32.ofNat j) (hj : j < n) (hn : n ≤ 65536) : (fs_s0 a i).1 σ = some ((), fs_su σ a (fs_oa 3 n (va_up f j none))) := by
  obtain ⟨h1, h2⟩ := x_in hi hj hn
  show ((σ.1 a).bind _).map _ = _
  rw [h]
  simp only [Option.bind_some, fs_oa, fs_y0]
  rw [if_pos ⟨trivial, h1⟩, h2]
  rfl
theorem x_sr {σ : fs_S} {a n j v c : Nat} {fs : List Value} {f : Nat → Option Nat} {i : Int32} (h : σ.1 a = some (fs_oa 3 n f)) (hv : σ.1 v = some (.inr (c, fs))) (hc : c ≠ 2) (hi : i = Int32.ofNat j) (hj : j < n) (hn : n ≤ 65536) : (fs_sr a i v).1 σ = some ((), fs_su σ a (fs_oa 3 n (va_up f j (some v)))) := by
  obtain ⟨h1, h2⟩ := x_in hi hj hn
  have e1 : (fs_rd v fs_oc).1 σ = some (c, σ) := by
    show ((fs_lk σ v).bind _).map _ = _
    rw [x_lk hv]
    rfl
  show ((fs_rd v fs_oc).1 σ).bind _ = _
  rw [e1]
  show ((σ.1 a).bind _).map _ = _
  rw [h]
  simp only [Option.bind_some, fs_oa, fs_yC]
  rw [if_pos ⟨Or.inl ⟨trivial, hc⟩, h1⟩, h2]
  rfl
theorem x_nr {σ : fs_S} {t j : Nat} {i : Int32} (hi : i = Int32.ofNat j) (hj : j ≤ 65536) : (fs_nr t i).1 σ = some (σ.2.2.2.1, fs_sm σ (fs_oa t j fun _ => none) j) := by
  have h1 : i.toNatClampNeg = j := by rw [hi]; exact Int32.toNatClampNeg_ofNat_of_lt (by omega)
  have h2 : ¬ i < 0 := by rw [hi]; exact Int32.ofNat_not_neg (by omega)
  unfold fs_nr
  rw [if_pos ⟨h2, by omega⟩, h1]
  rfl
/-! steps -/
theorem r_b {α β : Type} {x : fs_T α} {k : α → fs_T β} {σ σ1 : fs_S} {v : α} {R : Option (β × fs_S)} (h : x.1 σ = some (v, σ1)) (hk : (k v).1 σ1 = R) : (fs_bind x k).1 σ = R := by
  rw [x_bind, h]
  exact hk
theorem r_p {α : Type} {c : Prop} [Decidable c] {x y : fs_T α} {σ : fs_S} {R : Option (α × fs_S)} (h : c) (hk : x.1 σ = R) : (if c then x else y).1 σ = R := by rw [if_pos h]; exact hk
theorem r_n {α : Type} {c : Prop} [Decidable c] {x y : fs_T α} {σ : fs_S} {R : Option (α × fs_S)} (h : ¬ c) (hk : y.1 σ = R) : (if c then x else y).1 σ = R := by rw [if_neg h]; exact hk
theorem r_cv {α : Type} {σ : fs_S} {b ci : Nat} {fs : List Value} {x : fs_T α} {R : Option (α × fs_S)} (h : σ.1 b = some (.inr (ci, fs))) (hk : x.1 σ = R) : (fs_cv b ci x).1 σ = R := by rw [x_cv h]; exact hk
theorem r_bx {α β : Type} {x : fs_T (α ⊕ String)} {k : α → fs_T (β ⊕ String)} {σ σ1 : fs_S} {v : α} {R : Option ((β ⊕ String) × fs_S)} (h : x.1 σ = some (.inl v, σ1)) (hk : (k v).1 σ1 = R) : (fs_bindx x k).1 σ = R := by
  show ((x.1 σ).bind _) = R
  rw [h]
  exact hk
theorem r_be {α β : Type} {x : fs_T (α ⊕ String)} {k : α → fs_T (β ⊕ String)} {σ σ1 : fs_S} {v : String} (h : x.1 σ = some (.inr v, σ1)) : (fs_bindx x k).1 σ = some (.inr v, σ1) := by
  show ((x.1 σ).bind _) = _
  rw [h]
  rfl
theorem r_l {α β : Type} {x : β} {k : β → fs_T α} {σ : fs_S} {R : Option (α × fs_S)} (hk : (k x).1 σ = R) : (fs_let x k).1 σ = R := hk
theorem r_m {α β : Type} {x : β} {k : β → fs_T α} {σ : fs_S} {R : Option (α × fs_S)} (hk : (k x).1 σ = R) : (fs_nm x k).1 σ = R := hk
theorem r_lp1 {A α : Type} {n : Nat} {b : (A → fs_T α) → A → fs_T α} {x : A} {σ : fs_S} {R : Option (α × fs_S)} (hk : (b (fs_lp1 n b) x).1 σ = R) : (fs_lp1 (n + 1) b x).1 σ = R := hk
theorem r_lp2 {A B α : Type} {n : Nat} {b : (A → B → fs_T α) → A → B → fs_T α} {x : A} {y : B} {σ : fs_S} {R : Option (α × fs_S)} (hk : (b (fs_lp2 n b) x y).1 σ = R) : (fs_lp2 (n + 1) b x y).1 σ = R := hk
theorem r_lp3 {A B C α : Type} {n : Nat} {b : (A → B → C → fs_T α) → A → B → C → fs_T α} {x : A} {y : B} {w : C} {σ : fs_S} {R : Option (α × fs_S)} (hk : (b (fs_lp3 n b) x y w).1 σ = R) : (fs_lp3 (n + 1) b x y w).1 σ = R := hk
theorem r_lp4 {A B C D α : Type} {n : Nat} {b : (A → B → C → D → fs_T α) → A → B → C → D → fs_T α} {x : A} {y : B} {w : C} {v : D} {σ : fs_S} {R : Option (α × fs_S)} (hk : (b (fs_lp4 n b) x y w v).1 σ = R) : (fs_lp4 (n + 1) b x y w v).1 σ = R := hk
