/-! all calls, and the beginning -/
set_option maxRecDepth 100000 in
theorem law_lp {k0 : fs_M} {cz A B : Nat → Nat} {b L r3 : Nat} {xs g : Nat → Int32} (hC : fs_Cx k0 cz b L xs g) : ∀ (m fuel k : Nat) (Z : fs_Z) (S : fs_R) (h : List fs_C) (w : Nat → Int64) (σ : fs_S), fs_Ls k0 cz A B r3 k Z S h w σ → L < 7 * (k + m) + 7 → k ≤ 512 → m < fuel →
    fs_Ok (fs_lp1 fuel (lb_Lw_law_23 b (A 7) r3 (B 0)) (Int32.ofNat (7 * k))) σ (σ.2.2.2.1 + 300 * m) (σ.2.2.2.2 + 9000 * m)
  | m, fuel + 1, k, Z, S, h, w, σ, hL, hm, hk, hf => by
    have hL35 := hC.1
    by_cases hkL : 7 * k + 7 ≤ L
    · match m, hm, hf with
      | 0, hm, _ => omega
      | m + 1, hm, hf =>
        refine ok_lp <| lw_body hC hL hkL fun Z2 S2 h2 w2 σ2 a c => ?_
        have ih := law_lp hC m fuel (k + 1) Z2 S2 h2 w2 σ2 a (by omega) (by omega) (by omega)
        have c3 := c.2.2.1
        have c4 := c.2.2.2
        exact ok_mono ih (by omega) (by omega)
    · have sc := ls_sc hC hL
      refine ok_lp <| ok_b sc.1 <| ok_p ?_ <| ok_1 (by omega) (by omega)
      by_cases h7 : 7 ≤ L
      · rw [show Int32.ofNat L - 7 = Int32.ofNat (L - 7) from n_s (y := 7) h7]
        exact (n_lt (by omega) (by omega)).mpr (by omega)
      · have : Int32.ofNat L - 7 < 0 := by
          have hl : L = 0 ∨ L = 1 ∨ L = 2 ∨ L = 3 ∨ L = 4 ∨ L = 5 ∨ L = 6 := by omega
          rcases hl with rfl | rfl | rfl | rfl | rfl | rfl | rfl <;> decide
        have h2 : (0 : Int32) ≤ Int32.ofNat (7 * k) := Int32.not_lt.mp (Int32.ofNat_not_neg (by omega))
        rw [Int32.lt_iff_toInt_lt] at this ⊢
        rw [Int32.le_iff_toInt_le] at h2
        omega
  | _, 0, _, _, _, _, _, _, _, _, _, h => absurd h (Nat.not_lt_zero _)
theorem nt_at {T : List fs_Sl} (h : fs_nt T) : T.length = 3 ∧ ∀ t V, T[t]? = some V → t < 3 ∧ ∃ n d p, V = fs_Ti n d p (Int32.ofNat t) := by
  obtain ⟨n0, d0, p0, n1, d1, p1, n2, d2, p2, rfl⟩ := h
  refine ⟨rfl, fun t V ht => ?_⟩
  have htl := (List.getElem?_eq_some_iff.mp ht).1
  have htl3 : t < 3 := htl
  refine ⟨htl3, ?_⟩
  match t, htl3 with
  | 0, _ => cases ht; exact ⟨n0, d0, p0, rfl⟩
  | 1, _ => cases ht; exact ⟨n1, d1, p1, rfl⟩
  | 2, _ => cases ht; exact ⟨n2, d2, p2, rfl⟩
  | n + 3, h => exact absurd h (by omega)
theorem rz1_n {a : Nat} (h : a ≠ 3) (j : Nat) : fs_rz1_.2.1 a j = 0 := by
  unfold fs_rz1_
  rw [r_si_ne h, r_si_ne h]
  rfl
theorem rz1_3 {x : Nat} (h : x < 2) : fs_rz1_.2.1 3 x = 1 := by
  unfold fs_rz1_
  rw [r_si_at, r_si_at]
  have : x = 0 ∨ x = 1 := by omega
  rcases this with rfl | rfl
  · rw [up_miss (by decide), up_hit]
  · rw [up_hit]
theorem in_0x {x : Nat} {T : List fs_Sl} (hx : x < 2) (hT : fs_nt T) : fs_IX 0 0 x (fs_s0_ (Int32.ofNat x), [], [], T) fs_rz1_ := by
  obtain ⟨l3, at_⟩ := nt_at hT
  have s3 : ∀ n d p y, (fs_Ti n d p y).2.1 3 = 0 := fun n d p y => rfl
  refine ⟨⟨rfl, ⟨0, Nat.zero_le _, rfl, rz1_n (by decide) x⟩, ⟨0, Nat.zero_le _, rfl, rz1_n (by decide) x⟩, ⟨1, 0, by decide, by decide, rfl, rz1_3 hx, rfl, rz1_n (by decide) x⟩, ⟨0, Nat.zero_le _, rfl, rz1_n (by decide) x⟩, ⟨0, Nat.zero_le _, rfl, rz1_n (by decide) x⟩⟩, ⟨⟨rz1_n (by decide) x, rz1_n (by decide) x, fun i q hq => absurd hq (by simp), fun i q hq => absurd hq (by simp)⟩, Nat.zero_le _, Nat.zero_le _, fun q hq => absurd hq List.not_mem_nil, fun q hq => absurd hq List.not_mem_nil⟩, ⟨⟨l3, fun t V ht => ?_, fun t V u W ht hu n1 n2 => ?_⟩, fun t V ht => ?_⟩, ⟨0, 0, Nat.le_refl _, Nat.le_refl _, rfl, rfl, fun t V ht n1 => ?_⟩⟩
  · obtain ⟨-, n, d, p, rfl⟩ := at_ t V ht
    exact ⟨⟨rz1_n (by decide) _, fun k hk => absurd hk (Nat.not_lt_zero _), rz1_n (by decide) _, rz1_n (by decide) _, fun z => absurd (s3 n d p _) z⟩, fun z => absurd (s3 n d p _) z⟩
  · obtain ⟨-, n, d, p, rfl⟩ := at_ t V ht
    exact absurd (s3 n d p _) n1
  · obtain ⟨-, n, d, p, rfl⟩ := at_ t V ht
    exact ⟨rfl, ⟨Nat.zero_le _, fun i hi => absurd hi (Nat.not_lt_zero _)⟩, fun i j _ hj => absurd hj (Nat.not_lt_zero _), ⟨Nat.zero_le _, fun i hi => absurd hi (Nat.not_lt_zero _)⟩, 0, rfl, Nat.le_refl _⟩
  · obtain ⟨-, n, d, p, rfl⟩ := at_ t V ht
    exact absurd (s3 n d p _) n1
theorem nil_no {α : Type} {i : Nat} {x : α} {P : Prop} (h : ([] : List α)[i]? = some x) : P := absurd h (by simp)
theorem in_0 {T U : List fs_Sl} (hT : fs_nt T) (hU : fs_nt U) : fs_In 0 (fs_Z0 T U) fs_rz1_ := by
  refine ⟨fun x hx => ?_, ⟨⟨rfl, fun r R hr => nil_no (α := fs_Rp) hr⟩, Nat.zero_le _, fun R hR => absurd hR List.not_mem_nil⟩, ⟨⟨rfl, fun k T hk => nil_no (α := fs_Rp) hk⟩, Nat.zero_le _, fun T hT => absurd hT List.not_mem_nil, ⟨rfl, fun i R hi => nil_no (α := fs_Rp) hi⟩, Nat.zero_le _, fun R hR => absurd hR List.not_mem_nil, ⟨rfl, fun r q hr => nil_no (α := Int32 × (Nat → Int64)) hr⟩, Nat.zero_le _, fun q hq => absurd hq List.not_mem_nil⟩, ⟨0, rfl, Nat.zero_le _, fun _ r hr => absurd hr (Nat.not_lt_zero _)⟩, fun x hx => ⟨fun p hp => rz1_n (by decide) _, rz1_n (by decide) x, rz1_n (by decide) x, rz1_n (by decide) x, rz1_n (by decide) x, rz1_n (by decide) x⟩⟩
  have : x = 0 ∨ x = 1 := by omega
  rcases this with rfl | rfl
  · exact in_0x (by decide) hT
  · exact in_0x (by decide) hU
set_option maxRecDepth 100000 in
theorem law_ok {b z L : Nat} {xs g : Nat → Int32} {k0 : fs_M} {cz : Nat → Nat} (hC : fs_Cx k0 cz b L xs g) (hz : ∀ a e, k0 a = some e → a < z) : fs_Ok (f_Lw_law b) (fun _ => none, k0, cz, z, 0) (z + 601024) 7293034 := by
  have o0 : fs_own [] ((fun _ => none, k0, cz, z, 0) : fs_S) := ⟨List.nodup_nil, fun q hq => absurd hq List.not_mem_nil, fun a ha => ⟨?_, rfl⟩⟩
  · have hL35 := hC.1
    obtain ⟨τ0, τ1, A, T, U, h, a1, a2, a3, a4, a5, a6, a7⟩ := p_Fs_new (c1 := cz 1) o0 ⟨rfl, hC.2.2.2.2⟩
    obtain ⟨B, υ0, υ1, b1, b2, b3, b4⟩ := p_Rf_new (F := h) (own_eq a6 (List.append_nil h))
    obtain ⟨H, o1, back⟩ := rb_swap (h := h) (G := []) (by rw [List.append_nil]; exact b3)
    rw [List.append_nil] at o1
    have o2 := own_mk (e := fs_ja 1 fun _ => 0) (w := 1) o1
    have o3 := own_perm o2 (H2 := h ++ (H ++ [(υ1.2.2.2.1, fs_ja 1 fun _ => 0)])) (by
      rw [← List.append_assoc]
      exact (List.perm_append_comm (l₁ := h ++ H) (l₂ := [(υ1.2.2.2.1, fs_ja 1 fun _ => 0)])).symm)
    have st3 := st_tr a7 (st_tr b4 (st_sm υ1 (fs_ja 1 fun _ => 0) 1))
    have hL : fs_Ls k0 cz A B υ1.2.2.2.1 0 (fs_Z0 T U) fs_rz1_ h (fun _ => 0) (fs_sm υ1 (fs_ja 1 fun _ => 0) 1) := ⟨a3, back h _ _ o3, in_0 a4 a5, st3.1, st3.2.1⟩
    have main := law_lp hC 512 4096 0 _ _ _ _ _ hL (by omega) (by omega) (by omega)
    have s3 := st3.2.2.1
    have s4 := st3.2.2.2
    refine ok_b a1 <| ok_b a2 <| ok_b b1 <| ok_b b2 <| ok_b (x_nj (j := 1) rfl (by decide)) ?_
    refine ok_mono main ?_ ?_
    · have : (fs_sm υ1 (fs_ja 1 fun _ => 0) 1).2.2.2.1 ≤ z + (63 + (43 + 1)) := s3
      omega
    · have : (fs_sm υ1 (fs_ja 1 fun _ => 0) 1).2.2.2.2 ≤ 0 + (1798 + (5538 + 1)) := s4
      omega
  · cases hk : k0 a with
    | none => exact absurd hk ha
    | some e => exact hz a e hk
