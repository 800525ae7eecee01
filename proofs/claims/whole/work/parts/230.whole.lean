/-! the whole object -/
abbrev fs_Xs : Type := (Nat → Int32) × fs_Fs × fs_Fs × List fs_Sl
def fs_XF (c1 : Nat) (B : Nat → Nat) (X : fs_Xs) (h : List fs_C) : Prop := ∃ he, h = he ++ fs_SS (B 3) X.2.2.2 ∧ fs_EF c1 (B 0) (B 1) (B 2) (B 3) X.1 X.2.1 X.2.2.1 he ∧ X.2.2.2.length = 3
abbrev fs_Z : Type := (Nat → fs_Xs) × List fs_Rp × List fs_Rp × List fs_Rp × fs_Tq × List fs_Rw × (Nat → Nat → Int32) × (Nat → Nat → Int32)
abbrev z_X (Z : fs_Z) : Nat → fs_Xs := Z.1
abbrev z_R (Z : fs_Z) : List fs_Rp := Z.2.1
abbrev z_K (Z : fs_Z) : List fs_Rp := Z.2.2.1
abbrev z_S (Z : fs_Z) : List fs_Rp := Z.2.2.2.1
abbrev z_Q (Z : fs_Z) : fs_Tq := Z.2.2.2.2.1
abbrev z_W (Z : fs_Z) : List fs_Rw := Z.2.2.2.2.2.1
abbrev z_H (Z : fs_Z) : Nat → Nat → Int32 := Z.2.2.2.2.2.2.1
abbrev z_q (Z : fs_Z) : Nat → Nat → Int32 := Z.2.2.2.2.2.2.2
def z_sX (Z : fs_Z) (x : Nat) (X : fs_Xs) : fs_Z := (va_up Z.1 x X, Z.2)
def z_sR (Z : fs_Z) (R : List fs_Rp) : fs_Z := (Z.1, R, Z.2.2)
def fs_fo (A : Nat → Nat) : fs_E := .inr (0, [.ref (A 10), .ref (A 20), .ref (A 8), .ref (A 0)])
def fs_WF (c1 : Nat) (A : Nat → Nat) (Z : fs_Z) (h : List fs_C) : Prop := ∃ hx hy hr hc, h = [[(A 7, fs_fo A)], hx, hy, hr, hc].flatten ∧ fs_XF c1 (fun k => A (10 + k)) (z_X Z 0) hx ∧ fs_XF c1 (fun k => A (20 + k)) (z_X Z 1) hy ∧ fs_RF c1 (A 8) (z_R Z) hr ∧ fs_CF c1 A (z_K Z) (z_S Z) (z_Q Z) (z_W Z) (A 30, A 31, z_H Z 0, z_q Z 0) (A 32, A 33, z_H Z 1, z_q Z 1) hc
def fs_kc (c1 : Nat) (σ : fs_S) : Prop := σ.2.2.1 1 = c1 ∧ ∃ q, σ.2.1 c1 = some (fs_oa 3 0 q)
theorem kc_st {c1 N U : Nat} {σ σ1 : fs_S} (h : fs_kc c1 σ) (s : fs_st σ σ1 N U) : fs_kc c1 σ1 := ⟨by rw [s.2.1]; exact h.1, by rw [s.1]; exact h.2⟩
/-- a run of a call: its answer, what it leaves, and its room -/
def fs_Rn {α : Type} (c1 : Nat) (A : Nat → Nat) (F : List fs_C) (σ : fs_S) (x : fs_T α) (r : α) (Z : fs_Z) : Prop := ∃ σ1 h1, x.1 σ = some (r, σ1) ∧ fs_WF c1 A Z h1 ∧ fs_own (h1 ++ F) σ1 ∧ fs_st σ σ1 300 9000
theorem wf_rd {c1 : Nat} {A : Nat → Nat} {Z : fs_Z} {h F : List fs_C} {σ : fs_S} (hX : fs_WF c1 A Z h) (ho : fs_own (h ++ F) σ) : σ.1 (A 7) = some (fs_fo A) ∧ fs_RR (A 8) (z_R Z) σ := by
  obtain ⟨hx, hy, hr, hc, rfl, h1, h2, h3, h4⟩ := hX
  rw [flat5] at ho
  exact ⟨own_c ho 0 rfl List.mem_cons_self, rf_rd h3 (own_ix _ [3, 0, 1, 2, 4, 5] rfl (by decide) ho)⟩
theorem wf_c {c1 : Nat} {A : Nat → Nat} {Z : fs_Z} {h F : List fs_C} {σ : fs_S} (hX : fs_WF c1 A Z h) (ho : fs_own (h ++ F) σ) : ∃ hc F1, fs_CF c1 A (z_K Z) (z_S Z) (z_Q Z) (z_W Z) (A 30, A 31, z_H Z 0, z_q Z 0) (A 32, A 33, z_H Z 1, z_q Z 1) hc ∧ fs_own (hc ++ (F1 ++ F)) σ ∧ (∀ R ∈ z_R Z, (R.1, fs_ro R) ∈ F1 ∧ (R.2.1, fs_ia 64 R.2.2.2) ∈ F1) ∧
    ∀ (K S : List fs_Rp) (Q : fs_Tq) (W : List fs_Rw) (H q : Nat → Nat → Int32) (hc1 : List fs_C) (σ1 : fs_S), fs_CF c1 A K S Q W (A 30, A 31, H 0, q 0) (A 32, A 33, H 1, q 1) hc1 → fs_own (hc1 ++ (F1 ++ F)) σ1 → ∃ h1, fs_WF c1 A (Z.1, Z.2.1, K, S, Q, W, H, q) h1 ∧ fs_own (h1 ++ F) σ1 := by
  obtain ⟨hx, hy, hr, hc, rfl, h1, h2, h3, h4⟩ := hX
  rw [flat5] at ho
  refine ⟨hc, [[(A 7, fs_fo A)], hx, hy, hr].flatten, h4, own_eq (own_ix _ [4, 0, 1, 2, 3, 5] rfl (by decide) ho) (by simp), fun R hR => ⟨mem_c 3 rfl (rf_mem h3 hR).1, mem_c 3 rfl (rf_mem h3 hR).2⟩, fun K S Q W H q hc1 σ1 g1 o1 => ⟨_, ⟨hx, hy, hr, hc1, rfl, h1, h2, h3, g1⟩, ?_⟩⟩
  rw [flat5]
  exact own_ix [hc1, [(A 7, fs_fo A)], hx, hy, hr, F] [1, 2, 3, 4, 0, 5] rfl (by decide) (own_eq o1 (by simp))
theorem wf_x {c1 x : Nat} {A : Nat → Nat} {Z : fs_Z} {h F : List fs_C} {σ : fs_S} (hX : fs_WF c1 A Z h) (ho : fs_own (h ++ F) σ) (hx : x < 2) : ∃ B hx F1, fs_XF c1 B (z_X Z x) hx ∧ fs_own (hx ++ (F1 ++ F)) σ ∧ (A 7, fs_fo A) ∈ F1 ∧ (fs_cv (A 7) 0 (f_Fs_exporterOf (A 7) (Int32.ofNat x))).1 σ = some (.inl (B 0), σ) ∧
    (∀ τ : fs_S, τ.1 (A 7) = some (fs_fo A) → (fs_cv (A 7) 0 (f_Fs_exporterOf (A 7) (Int32.ofNat x))).1 τ = some (.inl (B 0), τ)) ∧ ∀ {G : List fs_C} (X : fs_Xs) (h2 : List fs_C) (σ1 : fs_S), fs_XF c1 B X h2 → fs_own (h2 ++ (F1 ++ G)) σ1 → ∃ h1, fs_WF c1 A (z_sX Z x X) h1 ∧ fs_own (h1 ++ G) σ1 := by
  have e := (wf_rd hX ho).1
  obtain ⟨hx9, hy9, hr, hc, rfl, h1, h2, h3, h4⟩ := hX
  rw [flat5] at ho
  have hx2 : x = 0 ∨ x = 1 := by omega
  rcases hx2 with rfl | rfl
  · have hE : ∀ τ : fs_S, τ.1 (A 7) = some (fs_fo A) → (fs_cv (A 7) 0 (f_Fs_exporterOf (A 7) (Int32.ofNat 0))).1 τ = some (.inl (A 10), τ) := fun τ et => r_cv et <| r_b (p_isExporter _) <| r_n (by decide) <| r_p rfl <| r_b (x_gr et 0 rfl) rfl
    refine ⟨fun k => A (10 + k), hx9, [[(A 7, fs_fo A)], hy9, hr, hc].flatten, h1, own_eq (own_ix _ [1, 0, 2, 3, 4, 5] rfl (by decide) ho) (by simp), mem_c 0 rfl List.mem_cons_self, hE σ e, hE, fun {G} X h5 σ1 g o1 => ⟨_, ⟨h5, hy9, hr, hc, rfl, g, h2, h3, h4⟩, ?_⟩⟩
    rw [flat5]
    exact own_ix [h5, [(A 7, fs_fo A)], hy9, hr, hc, G] [1, 0, 2, 3, 4, 5] rfl (by decide) (own_eq o1 (by simp))
  · have hE : ∀ τ : fs_S, τ.1 (A 7) = some (fs_fo A) → (fs_cv (A 7) 0 (f_Fs_exporterOf (A 7) (Int32.ofNat 1))).1 τ = some (.inl (A 20), τ) := fun τ et => r_cv et <| r_b (p_isExporter _) <| r_n (by decide) <| r_n (by decide) <| r_b (x_gr et 1 rfl) rfl
    refine ⟨fun k => A (20 + k), hy9, [[(A 7, fs_fo A)], hx9, hr, hc].flatten, h2, own_eq (own_ix _ [2, 0, 1, 3, 4, 5] rfl (by decide) ho) (by simp), mem_c 0 rfl List.mem_cons_self, hE σ e, hE, fun {G} X h5 σ1 g o1 => ⟨_, ⟨hx9, h5, hr, hc, rfl, h1, g, h3, h4⟩, ?_⟩⟩
    rw [flat5]
    exact own_ix [h5, [(A 7, fs_fo A)], hx9, hr, hc, G] [1, 2, 0, 3, 4, 5] rfl (by decide) (own_eq o1 (by simp))
theorem wf_xn {c1 : Nat} {x : Int32} {A : Nat → Nat} {Z : fs_Z} {h F : List fs_C} {σ : fs_S} (hX : fs_WF c1 A Z h) (ho : fs_own (h ++ F) σ) (hx : ¬ (x = 0 ∨ x = 1)) : (fs_cv (A 7) 0 (f_Fs_exporterOf (A 7) x)).1 σ = some (.inr "java/lang/IllegalArgumentException", fs_thr σ) := by
  refine r_cv (wf_rd hX ho).1 <| r_b (p_isExporter x) <| r_p ?_ (x_throw _ _)
  rw [if_neg (fun z => hx (Or.inl z)), if_neg (fun z => hx (Or.inr z))]
theorem rn_thr {α : Type} {c1 : Nat} {A : Nat → Nat} {Z : fs_Z} {h F : List fs_C} {σ : fs_S} {x : fs_T α} {r : α} (hX : fs_WF c1 A Z h) (ho : fs_own (h ++ F) σ) (hr : x.1 σ = some (r, fs_thr σ)) : fs_Rn c1 A F σ x r Z := ⟨_, h, hr, hX, own_thr ho, st_le (st_thr σ) (by decide) (by decide)⟩
theorem rn_rf {α : Type} {c1 : Nat} {A : Nat → Nat} {Z : fs_Z} {h F : List fs_C} {σ : fs_S} {x : fs_T α} {r : α} (hX : fs_WF c1 A Z h) (ho : fs_own (h ++ F) σ) (hr : x.1 σ = some (r, σ)) : fs_Rn c1 A F σ x r Z := ⟨_, h, hr, hX, ho, st_le (st_rf σ) (by decide) (by decide)⟩
theorem x01 {x : Int32} (h : x = 0 ∨ x = 1) : ∃ n, n < 2 ∧ x = Int32.ofNat n := by
  rcases h with rfl | rfl
  · exact ⟨0, by decide, rfl⟩
  · exact ⟨1, by decide, rfl⟩
theorem xf_rd {c1 : Nat} {B : Nat → Nat} {X : fs_Xs} {h F : List fs_C} {σ : fs_S} (hX : fs_XF c1 B X h) (ho : fs_own (h ++ F) σ) : ∃ he, fs_EF c1 (B 0) (B 1) (B 2) (B 3) X.1 X.2.1 X.2.2.1 he ∧ fs_own (he ++ (fs_SS (B 3) X.2.2.2 ++ F)) σ ∧ X.2.2.2.length = 3 := by
  obtain ⟨he, rfl, h1, h2⟩ := hX
  exact ⟨he, h1, own_eq ho (List.append_assoc _ _ _), h2⟩
theorem xf_mk {c1 : Nat} {B : Nat → Nat} {s : Nat → Int32} {C E : fs_Fs} {S : List fs_Sl} {he F : List fs_C} {σ : fs_S} (h1 : fs_EF c1 (B 0) (B 1) (B 2) (B 3) s C E he) (h2 : S.length = 3) (ho : fs_own (he ++ (fs_SS (B 3) S ++ F)) σ) : ∃ h, fs_XF c1 B (s, C, E, S) h ∧ fs_own (h ++ F) σ := ⟨_, ⟨he, rfl, h1, h2⟩, own_eq ho (List.append_assoc _ _ _).symm⟩
/-! calls on one exporter's flows -/
def fs_IAE : String := "java/lang/IllegalArgumentException"
def fs_ISE : String := "java/lang/IllegalStateException"
def fs_IOB : String := "java/lang/IndexOutOfBoundsException"
def fs_UOE : String := "java/lang/UnsupportedOperationException"
theorem c_flush {c1 : Nat} {A : Nat → Nat} {Z : fs_Z} {h F : List fs_C} {σ : fs_S} (hX : fs_WF c1 A Z h) (ho : fs_own (h ++ F) σ) (hc : fs_kc c1 σ) (x : Int32) (hl : ∀ n, n < 2 → (z_X Z n).2.1.length + (z_X Z n).2.2.1.length < 40) :
    (¬ (x = 0 ∨ x = 1) → fs_Rn c1 A F σ (fs_cv (A 7) 0 (f_Fs_flush (A 7) x)) (.inr fs_IAE) Z) ∧
    (∀ n, n < 2 → x = Int32.ofNat n → fs_Rn c1 A F σ (fs_cv (A 7) 0 (f_Fs_flush (A 7) x)) (.inl (Int32.ofNat (z_X Z n).2.1.length)) (z_sX Z n ((z_X Z n).1, [], (z_X Z n).2.2.1 ++ (z_X Z n).2.1.map (fs_ed ((z_X Z n).1 4) 5), (z_X Z n).2.2.2))) := by
  have e := (wf_rd hX ho).1
  refine ⟨fun hx => rn_thr hX ho (r_cv e <| r_be (wf_xn hX ho hx)), fun n hn hx => ?_⟩
  subst hx
  obtain ⟨B, hx9, F1, g1, g2, -, g3, -, g4⟩ := wf_x hX ho hn
  obtain ⟨he, E1, o1, l3⟩ := xf_rd g1 g2
  have hl2 := hl n hn
  obtain ⟨σ1, h1, k1, k2, k3, k4⟩ := p_Exporter_flushCache E1 o1 hc.1 hc.2 (by omega)
  obtain ⟨h5, m1, m2⟩ := xf_mk k2 l3 k3
  obtain ⟨h6, n1, n2⟩ := g4 _ h5 σ1 m1 m2
  exact ⟨σ1, h6, r_cv e <| r_bx g3 <| r_b k1 rfl, n1, n2, st_le k4 (by omega) (by omega)⟩
theorem c_sampler {c1 : Nat} {A : Nat → Nat} {Z : fs_Z} {h F : List fs_C} {σ : fs_S} (hX : fs_WF c1 A Z h) (ho : fs_own (h ++ F) σ) (x y : Int32) :
    (¬ (x = 0 ∨ x = 1) ∨ y < 1 ∨ ¬ y ≤ 9 → fs_Rn c1 A F σ (fs_cv (A 7) 0 (f_Fs_sampler (A 7) x y)) (.inr fs_IAE) Z) ∧
    (∀ n, n < 2 → x = Int32.ofNat n → ¬ y < 1 → y ≤ 9 → fs_Rn c1 A F σ (fs_cv (A 7) 0 (f_Fs_sampler (A 7) x y)) (.inl ()) (z_sX Z n (upd (upd (z_X Z n).1 6 y) 7 0, (z_X Z n).2))) := by
  have e := (wf_rd hX ho).1
  refine ⟨fun hb => ?_, fun n hn hx h1 h9 => ?_⟩
  · by_cases hx : x = 0 ∨ x = 1
    · obtain ⟨n, hn, rfl⟩ := x01 hx
      obtain ⟨B, hx9, F1, g1, g2, -, g3, -, g4⟩ := wf_x hX ho hn
      refine rn_thr hX ho (r_cv e <| r_bx g3 <| r_l ?_)
      by_cases h1 : y < 1
      · exact r_p h1 (x_throw _ _)
      · by_cases h9 : y ≤ 9
        · exact absurd hb (fun z => z.elim (fun z => z hx) (fun z => z.elim h1 (fun z => z h9)))
        · exact r_n h1 <| r_n h9 (x_throw _ _)
    · exact rn_thr hX ho (r_cv e <| r_be (wf_xn hX ho hx))
  · subst hx
    obtain ⟨B, hx9, F1, g1, g2, -, g3, -, g4⟩ := wf_x hX ho hn
    obtain ⟨he, E1, o1, l3⟩ := xf_rd g1 g2
    obtain ⟨e1, -, -⟩ := ef_rd E1 o1
    obtain ⟨h2, E2, o2⟩ := ef_s E1 o1 (upd (upd (z_X Z n).1 6 y) 7 0)
    obtain ⟨h5, m1, m2⟩ := xf_mk E2 l3 o2
    obtain ⟨h6, n1, n2⟩ := g4 _ h5 _ m1 m2
    exact ⟨_, h6, r_cv e <| r_bx g3 <| r_l <| r_n h1 <| r_p h9 <| r_b (p_Exporter_sampleEvery e1 y) rfl, n1, n2, st_le (st_su _ _ _) (by omega) (by omega)⟩
/-- n ticks -/
def fs_tks : Nat → (Nat → Int32) × fs_Fs × fs_Fs → (Nat → Int32) × fs_Fs × fs_Fs
  | 0, X => X
  | m + 1, X => fs_tks m (upd X.1 4 (X.1 4 + 1), fs_kp (X.1 4 + 1) X.2.1, X.2.2 ++ fs_gn (X.1 4 + 1) X.2.1)
def fs_tkg : Nat → (Nat → Int32) × fs_Fs × fs_Fs → Nat
  | 0, _ => 0
  | m + 1, X => (fs_gn (X.1 4 + 1) X.2.1).length + fs_tkg m (upd X.1 4 (X.1 4 + 1), fs_kp (X.1 4 + 1) X.2.1, X.2.2 ++ fs_gn (X.1 4 + 1) X.2.1)
theorem tkg_le : ∀ (m : Nat) (X : (Nat → Int32) × fs_Fs × fs_Fs), fs_tkg m X ≤ X.2.1.length
  | 0, _ => Nat.zero_le _
  | m + 1, X => by
    have h1 := tkg_le m (upd X.1 4 (X.1 4 + 1), fs_kp (X.1 4 + 1) X.2.1, X.2.2 ++ fs_gn (X.1 4 + 1) X.2.1)
    have h2 := kg_len (X.1 4 + 1) X.2.1
    show (fs_gn (X.1 4 + 1) X.2.1).length + fs_tkg m _ ≤ _
    have h3 : fs_tkg m (upd X.1 4 (X.1 4 + 1), fs_kp (X.1 4 + 1) X.2.1, X.2.2 ++ fs_gn (X.1 4 + 1) X.2.1) ≤ (fs_kp (X.1 4 + 1) X.2.1).length := h1
    omega
set_option maxRecDepth 100000 in
theorem tks_loop {c1 n : Nat} {B : Nat → Nat} {F : List fs_C} (hn : n ≤ 100) : ∀ (m fuel i t : Nat) (s : Nat → Int32) (C E : fs_Fs) (h : List fs_C) (σ : fs_S), fs_EF c1 (B 0) (B 1) (B 2) (B 3) s C E h → fs_own (h ++ F) σ → fs_kc c1 σ → i + m = n → m < fuel → C.length + E.length < 90 →
    ∃ σ1 h1, (fs_lp2 fuel (lb_Fs_tick_33 (Int32.ofNat n) (B 0)) (Int32.ofNat t) (Int32.ofNat i)).1 σ = some (.inl (Int32.ofNat (t + fs_tkg m (s, C, E))), σ1) ∧ fs_EF c1 (B 0) (B 1) (B 2) (B 3) (fs_tks m (s, C, E)).1 (fs_tks m (s, C, E)).2.1 (fs_tks m (s, C, E)).2.2 h1 ∧ fs_own (h1 ++ F) σ1 ∧ fs_st σ σ1 (fs_tkg m (s, C, E)) (fs_tkg m (s, C, E) * 200)
  | 0, fuel + 1, i, t, s, C, E, h, σ, hX, ho, _, hi, _, _ => ⟨σ, h, r_lp2 <| r_p ((Int32.ofNat_le_ofNat (by omega) (by omega)).mpr (by omega)) rfl, hX, ho, st_rf σ⟩
  | m + 1, fuel + 1, i, t, s, C, E, h, σ, hX, ho, hc, hi, hf, hl => by
    have hne : ¬ Int32.ofNat n ≤ Int32.ofNat i := fun z => by
      have := (Int32.ofNat_le_ofNat (by omega) (by omega)).mp z
      omega
    obtain ⟨σ2, h2, w1, w2, w3, w4⟩ := p_Exporter_passTick hX ho hc.1 hc.2 hl
    have hlen := kg_len (s 4 + 1) C
    obtain ⟨σ1, h1, k1, k2, k3, k4⟩ := tks_loop hn m fuel (i + 1) (t + (fs_gn (s 4 + 1) C).length) _ _ _ h2 σ2 w2 w3 (kc_st hc w4) (by omega) (by omega) (by rw [List.length_append]; omega)
    have es : fs_tkg (m + 1) (s, C, E) = (fs_gn (s 4 + 1) C).length + fs_tkg m (upd s 4 (s 4 + 1), fs_kp (s 4 + 1) C, E ++ fs_gn (s 4 + 1) C) := rfl
    refine ⟨σ1, h1, r_lp2 <| r_n hne <| r_b w1 <| r_m <| r_m ?_, k2, k3, st_le (st_tr w4 k4) (by rw [es]; omega) (by rw [es]; omega)⟩
    rw [ofNat_add1, ← Int32.ofNat_add, es, ← Nat.add_assoc]
    exact k1
  | _, 0, _, _, _, _, _, _, _, _, _, _, _, h, _ => absurd h (Nat.not_lt_zero _)
set_option maxRecDepth 100000 in
theorem c_tick {c1 : Nat} {A : Nat → Nat} {Z : fs_Z} {h F : List fs_C} {σ : fs_S} (hX : fs_WF c1 A Z h) (ho : fs_own (h ++ F) σ) (hc : fs_kc c1 σ) (x y : Int32) (hl : ∀ n, n < 2 → (z_X Z n).2.1.length + (z_X Z n).2.2.1.length < 40) :
    (¬ (x = 0 ∨ x = 1) ∨ y < 1 ∨ ¬ y ≤ 100 → fs_Rn c1 A F σ (fs_cv (A 7) 0 (f_Fs_tick (A 7) x y)) (.inr fs_IAE) Z) ∧
    (∀ n m, n < 2 → x = Int32.ofNat n → y = Int32.ofNat m → 1 ≤ m → m ≤ 100 → fs_Rn c1 A F σ (fs_cv (A 7) 0 (f_Fs_tick (A 7) x y)) (.inl (Int32.ofNat (fs_tkg m ((z_X Z n).1, (z_X Z n).2.1, (z_X Z n).2.2.1)))) (z_sX Z n ((fs_tks m ((z_X Z n).1, (z_X Z n).2.1, (z_X Z n).2.2.1)).1, (fs_tks m ((z_X Z n).1, (z_X Z n).2.1, (z_X Z n).2.2.1)).2.1, (fs_tks m ((z_X Z n).1, (z_X Z n).2.1, (z_X Z n).2.2.1)).2.2, (z_X Z n).2.2.2))) := by
  have e := (wf_rd hX ho).1
  refine ⟨fun hb => ?_, fun n m hn hx hy h1 h9 => ?_⟩
  · by_cases hx : x = 0 ∨ x = 1
    · obtain ⟨n, hn, rfl⟩ := x01 hx
      obtain ⟨B, hx9, F1, g1, g2, -, g3, -, g4⟩ := wf_x hX ho hn
      refine rn_thr hX ho (r_cv e <| r_bx g3 <| r_l ?_)
      by_cases h1 : y < 1
      · exact r_p h1 (x_throw _ _)
      · by_cases h9 : y ≤ 100
        · exact absurd hb (fun z => z.elim (fun z => z hx) (fun z => z.elim h1 (fun z => z h9)))
        · exact r_n h1 <| r_n h9 (x_throw _ _)
    · exact rn_thr hX ho (r_cv e <| r_be (wf_xn hX ho hx))
  · subst hx
    subst hy
    obtain ⟨B, hx9, F1, g1, g2, -, g3, -, g4⟩ := wf_x hX ho hn
    obtain ⟨he, E1, o1, l3⟩ := xf_rd g1 g2
    have hl2 := hl n hn
    obtain ⟨σ1, h1', k1, k2, k3, k4⟩ := tks_loop h9 m 4096 0 0 _ _ _ he σ E1 o1 hc (by omega) (by omega) (by omega)
    obtain ⟨h5, m1, m2⟩ := xf_mk k2 l3 k3
    obtain ⟨h6, n1, n2⟩ := g4 _ h5 _ m1 m2
    have hle := tkg_le m ((z_X Z n).1, (z_X Z n).2.1, (z_X Z n).2.2.1)
    have hle2 : fs_tkg m ((z_X Z n).1, (z_X Z n).2.1, (z_X Z n).2.2.1) ≤ (z_X Z n).2.1.length := hle
    rw [Nat.zero_add] at k1
    refine ⟨σ1, h6, r_cv e <| r_bx g3 <| r_l <| r_n (fun z => ?_) <| r_p ((Int32.ofNat_le_ofNat (n := 100) (by omega) (by omega)).mpr h9) k1, n1, n2, st_le k4 (by omega) (by omega)⟩
    have := (Int32.ofNat_lt_ofNat (n := 1) (by omega) (by omega)).mp z
    omega
