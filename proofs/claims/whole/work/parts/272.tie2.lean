/-! a packet, on both sides -/
theorem en_fv {k t w : Nat} {s : Nat → Int32} {C E : fs_Fs} {j : Nat} (hs : s 4 = Int32.ofNat t) (ht : t ≤ fs_bd_ k) (hw : w ≤ fs_bd_ k) (hC : ∀ q ∈ C, fs_fv k q.2) (hE : ∀ q ∈ E, fs_fv k q.2) : (∀ q ∈ (fs_en s C E j (Int32.ofNat w)).1, fs_fv k q.2) ∧ (∀ q ∈ (fs_en s C E j (Int32.ofNat w)).2, fs_fv k q.2) ∧ (fs_en s C E j (Int32.ofNat w)).1.length + (fs_en s C E j (Int32.ofNat w)).2.length = C.length + E.length ∧ (fs_en s C E j (Int32.ofNat w)).1.length ≤ C.length ∧ (j < C.length → (fs_en s C E j (Int32.ofNat w)).1.length + 1 = C.length) := by
  unfold fs_en
  by_cases hj : j < C.length
  · have hq : C[j]? = some C[j] := List.getElem?_eq_getElem hj
    rw [hq]
    dsimp only
    have hl : (C.eraseIdx j).length + 1 = C.length := by
      rw [List.length_eraseIdx]
      rw [if_pos hj]
      omega
    refine ⟨fun q hq2 => hC q (List.mem_of_mem_eraseIdx hq2), fun q hq2 => ?_, ?_, by omega, fun _ => hl⟩
    · rcases List.mem_append.mp hq2 with hq2 | hq2
      · exact hE q hq2
      · rw [List.mem_singleton] at hq2
        subst hq2
        show fs_fv k (upd (upd C[j].2 7 (s 4)) 8 (Int32.ofNat w))
        rw [hs]
        exact fv_ed (hC _ (List.getElem_mem hj)) ht hw
    · rw [List.length_append, List.length_singleton]
      omega
  · rw [List.getElem?_eq_none (by omega)]
    exact ⟨hC, hE, rfl, Nat.le_refl _, fun h => absurd h hj⟩
theorem lr_bd : ∀ (l : fs_Fs) (b : Nat) (m : Int32) (i : Nat), fs_lr l b m i = b ∨ fs_lr l b m i < i + l.length
  | [], b, m, i => Or.inl rfl
  | q :: l, b, m, i => by
    have e : fs_lr (q :: l) b m i = if m ≤ q.2 6 then fs_lr l b m (i + 1) else fs_lr l i (q.2 6) (i + 1) := rfl
    rw [e, List.length_cons]
    split
    · rcases lr_bd l b m (i + 1) with h | h
      · exact Or.inl h
      · exact Or.inr (by omega)
    · rcases lr_bd l i (q.2 6) (i + 1) with h | h
      · exact Or.inr (by omega)
      · exact Or.inr (by omega)
theorem w2_fv {k t z : Nat} {s : Nat → Int32} {C E : fs_Fs} {j : Nat} {fin : Int32} (hs : s 4 = Int32.ofNat t) (ht : t ≤ 100 * k) (hz : z ≤ 9999) (hC : ∀ q ∈ C, fs_fv k q.2) (hE : ∀ q ∈ E, fs_fv k q.2) : (∀ q ∈ (fs_w2 s C E j (Int32.ofNat z) fin).1, fs_fv (k + 1) q.2) ∧ (∀ q ∈ (fs_w2 s C E j (Int32.ofNat z) fin).2, fs_fv (k + 1) q.2) ∧ (fs_w2 s C E j (Int32.ofNat z) fin).1.length + (fs_w2 s C E j (Int32.ofNat z) fin).2.length = C.length + E.length ∧ (fs_w2 s C E j (Int32.ofNat z) fin).1.length ≤ C.length := by
  have ha : (∀ q ∈ fs_ad s C j (Int32.ofNat z), fs_fv (k + 1) q.2) ∧ (fs_ad s C j (Int32.ofNat z)).length = C.length := by
    unfold fs_ad
    by_cases hj : j < C.length
    · have hq : C[j]? = some C[j] := List.getElem?_eq_getElem hj
      rw [hq]
      dsimp only
      refine ⟨fun q hq2 => ?_, List.length_set ..⟩
      rcases List.mem_or_eq_of_mem_set hq2 with hq2 | hq2
      · exact fv_mono (hC q hq2)
      · subst hq2
        show fs_fv (k + 1) (upd (upd (upd C[j].2 4 (C[j].2 4 + Int32.ofNat z)) 5 (C[j].2 5 + 1)) 6 (s 4))
        rw [hs]
        exact fv_ad (hC _ (List.getElem_mem hj)) ht hz
    · rw [List.getElem?_eq_none (by omega)]
      exact ⟨fun q hq => fv_mono (hC q hq), rfl⟩
  unfold fs_w2
  split
  · exact ⟨ha.1, fun q hq => fv_mono (hE q hq), by dsimp only; rw [ha.2], by dsimp only; rw [ha.2]; exact Nat.le_refl _⟩
  · obtain ⟨a, b, c, d, -⟩ := en_fv (k := k + 1) (w := 3) (j := j) hs (by unfold fs_bd_; omega) (by unfold fs_bd_; omega) ha.1 (fun q hq => fv_mono (hE q hq))
    rw [ha.2] at c d
    exact ⟨a, b, c, d⟩
theorem wt_fv {k t z a b c : Nat} {s : Nat → Int32} {C E : fs_Fs} {fin : Int32} {na : Nat} (hs : s 4 = Int32.ofNat t) (ht : t ≤ 100 * k) (hz : z ≤ 9999) (ha : a ≤ 255) (hb : b ≤ 255) (hc : c ≤ 255) (h6 : C.length ≤ 6) (h20 : C.length + E.length < 20) (hC : ∀ q ∈ C, fs_fv k q.2) (hE : ∀ q ∈ E, fs_fv k q.2) : (fs_watch s C E (Int32.ofNat a) (Int32.ofNat b) (Int32.ofNat c) (Int32.ofNat z) fin na).1.length ≤ 6 ∧ (fs_watch s C E (Int32.ofNat a) (Int32.ofNat b) (Int32.ofNat c) (Int32.ofNat z) fin na).1.length + (fs_watch s C E (Int32.ofNat a) (Int32.ofNat b) (Int32.ofNat c) (Int32.ofNat z) fin na).2.length ≤ 20 ∧ (∀ q ∈ (fs_watch s C E (Int32.ofNat a) (Int32.ofNat b) (Int32.ofNat c) (Int32.ofNat z) fin na).1, fs_fv (k + 1) q.2) ∧ ∀ q ∈ (fs_watch s C E (Int32.ofNat a) (Int32.ofNat b) (Int32.ofNat c) (Int32.ofNat z) fin na).2, fs_fv (k + 1) q.2 := by
  unfold fs_watch
  cases hf : fs_fd (Int32.ofNat a) (Int32.ofNat b) (Int32.ofNat c) C 0 with
  | some j =>
    obtain ⟨h1, h2, h3, h4⟩ := w2_fv (j := j) (fin := fin) hs ht hz hC hE
    dsimp only
    exact ⟨by omega, by omega, h1, h2⟩
  | none =>
    have hev : (∀ q ∈ (fs_ev s C E).1, fs_fv k q.2) ∧ (∀ q ∈ (fs_ev s C E).2, fs_fv k q.2) ∧ (fs_ev s C E).1.length + (fs_ev s C E).2.length = C.length + E.length ∧ (fs_ev s C E).1.length ≤ 5 := by
      unfold fs_ev
      split
      · exact ⟨hC, hE, rfl, by dsimp only; omega⟩
      · obtain ⟨e1, e2, e3, e4, e5⟩ := en_fv (k := k) (w := 4) (j := fs_lr (C.drop 1) 0 ((C.getD 0 (0, fun _ => 0)).2 6) 1) hs (by unfold fs_bd_; omega) (by unfold fs_bd_; omega) hC hE
        have hl := lr_bd (C.drop 1) 0 ((C.getD 0 (0, fun _ => 0)).2 6) 1
        rw [List.length_drop] at hl
        have h7 := e5 (by omega)
        have h8 : (fs_en s C E (fs_lr (C.drop 1) 0 ((C.getD 0 (0, fun _ => 0)).2 6) 1) 4).1.length + 1 = C.length := h7
        exact ⟨e1, e2, e3, by omega⟩
    obtain ⟨v1, v2, v3, v4⟩ := hev
    dsimp only
    rw [hs]
    obtain ⟨h1, h2, h3, h4⟩ := w2_fv (C := (fs_ev s C E).1 ++ [(na, fs_nf (Int32.ofNat a) (Int32.ofNat b) (Int32.ofNat c) (Int32.ofNat t))]) (j := (fs_ev s C E).1.length) (fin := fin) hs ht hz (fun q hq => by
      rcases List.mem_append.mp hq with hq | hq
      · exact v1 q hq
      · rw [List.mem_singleton] at hq
        subst hq
        exact fv_nf ha hb hc ht) v2
    rw [List.length_append, List.length_singleton] at h3 h4
    exact ⟨by omega, by omega, h1, h2⟩
theorem nb_by {a : Int32} (h : ¬ fs_nb_ a) : ∃ n, n ≤ 255 ∧ a = Int32.ofNat n := i_rng (n := 255) (fun z => h (Or.inl z)) (Int32.not_lt.mp fun z => h (Or.inr z)) (by decide)
theorem st_packet {k c1 : Nat} {A B : Nat → Nat} {Z : fs_Z} {h F : List fs_C} {σ : fs_S} {S : fs_R} (hI : fs_In k Z S) (hX : fs_WF c1 A Z h) (ho : fs_own (h ++ F) σ) (hc : fs_kc c1 σ) (x a b c z fin : Int32) :
    fs_Sp k c1 A B F σ S (fs_cv (A 7) 0 (f_Fs_packet (A 7) x a b c z fin)) (fs_cv (B 0) 12 (f_Rf_packet (B 0) x a b c z fin)) [(fs_IAE, 1), (fs_ISE, 2)] (fun v r => v = r) := by
  obtain ⟨b1, b2⟩ := c_packet hX ho hc x a b c z fin (l40 hI)
  by_cases hb : ¬ (x = 0 ∨ x = 1) ∨ fs_nb_ a ∨ fs_nb_ b ∨ fs_nb_ c ∨ z < 0 ∨ ¬ z ≤ 9999
  · exact sp_f hI (b1 hb) (rp_bad hb) List.mem_cons_self
  · have hx : x = 0 ∨ x = 1 := Decidable.not_not.mp fun z => hb (Or.inl z)
    have ha : ¬ fs_nb_ a := fun z => hb (Or.inr (Or.inl z))
    have hbb : ¬ fs_nb_ b := fun z => hb (Or.inr (Or.inr (Or.inl z)))
    have hcc : ¬ fs_nb_ c := fun z => hb (Or.inr (Or.inr (Or.inr (Or.inl z))))
    have hz0 : ¬ z < 0 := fun z => hb (Or.inr (Or.inr (Or.inr (Or.inr (Or.inl z)))))
    have hz9 : z ≤ 9999 := Decidable.not_not.mp fun z => hb (Or.inr (Or.inr (Or.inr (Or.inr (Or.inr z)))))
    obtain ⟨n, hn, rfl⟩ := x01 hx
    have hx3 := hI.1 n hn
    obtain ⟨⟨i0, ⟨t, t1, t2, t3⟩, i5, ⟨m, j, m1, m2, m3, m4, m5, m6⟩, i9, i10⟩, ⟨f1, f2, f3, f4, f5⟩, -, -⟩ := hI.1 n hn
    obtain ⟨d1, d2, d3⟩ := b2 n hn rfl ha hbb hcc hz0 hz9
    by_cases h20 : 20 ≤ (z_X Z n).2.1.length + (z_X Z n).2.2.1.length
    · exact sp_f hI (d1 h20) (rp_full hn f1 ha hbb hcc hz0 hz9 (by omega) h20) (by simp)
    · have hlt : (z_X Z n).2.1.length + (z_X Z n).2.2.1.length < 20 := by omega
      have e7 : (if (z_X Z n).1 7 + 1 < (z_X Z n).1 6 then (z_X Z n).1 7 + 1 else 0) = Int32.ofNat ((j + 1) % m) := by
        rw [m5, m3, ofNat_add1]
        by_cases hjm : j + 1 < m
        · rw [if_pos ((n_lt (by omega) (by omega)).mpr hjm), Nat.mod_eq_of_lt hjm]
        · rw [if_neg (fun z => hjm ((n_lt (by omega) (by omega)).mp z)), show j + 1 = m by omega, Nat.mod_self]
          rfl
      rw [e7] at d2 d3
      have wk := fun na => rp_go (A := B) (fin := fin) (s := upd (z_X Z n).1 7 (Int32.ofNat ((j + 1) % m))) na hn f1 ha hbb hcc hz0 hz9 f2 hlt (fun q hq => (f4 q hq).1) (m6.trans m5) (m4.trans m3) m2 m1 t3
      have key : ∀ (C E : fs_Fs) (S1 : fs_R), fs_fr n C E S1.2.1 → C.length ≤ 6 → C.length + E.length ≤ 20 → (∀ q ∈ C, fs_fv (k + 1) q.2) → (∀ q ∈ E, fs_fv (k + 1) q.2) → S1.1 = upd S.1 0 0 → S1.2.2 = S.2.2 → fs_ofr n (va_up S.2.1 4 (upd (S.2.1 4) n (Int32.ofNat ((j + 1) % m)))) S1.2.1 → fs_In (k + 1) (z_sX Z n (upd (z_X Z n).1 7 (Int32.ofNat ((j + 1) % m)), C, E, (z_X Z n).2.2.2)) S1 := by
        intro C E S1 g1 g2 g3 g4 g5 g6 g7 g8
        have o : ∀ a, a ≠ 4 → ∀ i, ¬ fs_reg n a i → S1.2.1 a i = S.2.1 a i := fun a h1 i h2 => by
          rw [g8 a i h2]
          exact congrFun (va_up_ne _ _ h1) i
        have o4 : S1.2.1 4 = upd (S.2.1 4) n (Int32.ofNat ((j + 1) % m)) := funext fun i => by
          rw [g8 4 i (by unfold fs_reg; omega)]
          exact congrFun (va_up_self _ _ _) i
        have q : ∀ a, 1 ≤ a → a ≤ 6 → a ≠ 4 → S1.2.1 a n = S.2.1 a n := fun a h1 h2 h3 => o a h3 n (by unfold fs_reg; omega)
        refine in_x hn hI (ix_fl hx3 ⟨i0, ⟨t, by omega, t2, ?_⟩, ?_, ⟨m, (j + 1) % m, m1, Nat.mod_lt _ (by omega), m3, ?_, rfl, ?_⟩, ?_, ?_⟩ ⟨g1, g2, g3, g4, g5⟩ rfl (e0_of g6 24 (by decide)) ?_) (fun a h1 _ => e0_of g6 a h1) (Or.inl (e0_of g6 24 (by decide))) ?_ g7
        · rw [q 1 (by decide) (by decide) (by decide)]; exact t3
        · rw [q 2 (by decide) (by decide) (by decide)]; exact i5
        · rw [q 3 (by decide) (by decide) (by decide)]; exact m4
        · rw [o4, up_hit]; rfl
        · rw [q 5 (by decide) (by decide) (by decide)]; exact i9
        · rw [q 6 (by decide) (by decide) (by decide)]; exact i10
        · exact fun a i h1 h2 => o a (by omega) i (by unfold fs_reg; omega)
        · intro a i h1 h2 h3
          by_cases h4 : a = 4
          · subst h4
            rw [o4]
            exact up_miss (fun z => h1 ⟨by decide, by decide, z⟩) _
          · exact o a h4 i h2
      by_cases h7 : (z_X Z n).1 7 = 0
      · have hj0 : j = 0 := n_inj (b := 0) (by omega) (by decide) (m5.symm.trans h7)
        obtain ⟨na, d4⟩ := d3 hlt h7
        refine ⟨_, _, d4, w_mono (wk na) fun r S1 ⟨g1, g2, g3, v, g4, g5, g6, g7⟩ => ⟨?_, by rw [g1]; rfl, ?_⟩⟩
        · subst g5
          obtain ⟨an, ha1, rfl⟩ := nb_by ha
          obtain ⟨bn, hb1, rfl⟩ := nb_by hbb
          obtain ⟨cn, hc1, rfl⟩ := nb_by hcc
          obtain ⟨zn, hz1, rfl⟩ := i_rng (n := 9999) hz0 hz9 (by decide)
          obtain ⟨u1, u2, u3, u4⟩ := wt_fv (s := upd (z_X Z n).1 7 (Int32.ofNat ((j + 1) % m))) (fin := fin) (na := na) t2 t1 hz1 ha1 hb1 hc1 f2 hlt f4 f5
          exact key _ _ S1 (g7 hj0) u1 u2 u3 u4 g1 g2 g4
        · rw [g3, if_pos hj0]
      · have hj0 : j ≠ 0 := fun z => h7 (by rw [m5, z]; rfl)
        refine ⟨_, _, d2 hlt h7, w_mono (wk 0) fun r S1 ⟨g1, g2, g3, v, g4, g5, g6, g7⟩ => ⟨?_, by rw [g1]; rfl, ?_⟩⟩
        · subst g5
          exact key _ _ S1 (g6 hj0) f2 f3 (fun q hq => fv_mono (f4 q hq)) (fun q hq => fv_mono (f5 q hq)) g1 g2 g4
        · rw [g3, if_neg hj0]
