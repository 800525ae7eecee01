/-! a template heard, in the reference -/
theorem pd_rd : ∀ (Vs : fs_Vs) (r : Nat) (a : Nat → Int32) (w : Nat → Int64), (∀ i q, Vs[i]? = some q → (fs_pd Vs r a w).1 (r + i) = q.1 ∧ ∀ j, j < 8 → (fs_pd Vs r a w).2 (8 * (r + i) + j) = q.2 j) ∧ (∀ j, j < r → (fs_pd Vs r a w).1 j = a j) ∧ ∀ j, j < 8 * r → (fs_pd Vs r a w).2 j = w j
  | [], r, a, w => ⟨fun i q h => by simp at h, fun _ _ => rfl, fun _ _ => rfl⟩
  | p :: l, r, a, w => by
    obtain ⟨h1, h2, h3⟩ := pd_rd l (r + 1) (upd a r p.1) (fs_wrow w (8 * r) p.2)
    have e : fs_pd (p :: l) r a w = fs_pd l (r + 1) (upd a r p.1) (fs_wrow w (8 * r) p.2) := rfl
    rw [e]
    refine ⟨fun i q hq => ?_, fun j hj => ?_, fun j hj => ?_⟩
    · cases i with
      | zero =>
        cases hq
        show (fs_pd l (r + 1) (upd a r p.1) (fs_wrow w (8 * r) p.2)).1 r = p.1 ∧ ∀ j, j < 8 → (fs_pd l (r + 1) (upd a r p.1) (fs_wrow w (8 * r) p.2)).2 (8 * r + j) = p.2 j
        refine ⟨by rw [h2 r (Nat.lt_succ_self r)]; exact up_hit _ _ _, fun j hj => ?_⟩
        rw [h3 _ (by omega)]
        unfold fs_wrow
        rw [if_pos (by omega), show 8 * r + j - 8 * r = j by omega]
      | succ i =>
        have hq2 : l[i]? = some q := hq
        have := h1 i q hq2
        rw [show r + (i + 1) = r + 1 + i by omega]
        exact this
    · rw [h2 j (by omega)]
      exact up_miss (by omega) _
    · rw [h3 j (by omega)]
      unfold fs_wrow
      rw [if_neg (by omega)]
def fs_rws (V : fs_Vs) (S : fs_R) : Prop := S.1 37 = Int32.ofNat V.length ∧ ∀ r q, V[r]? = some q → S.2.1 38 r = q.1 ∧ ∀ j, j < 8 → S.2.2 (8 * r + j) = q.2 j
theorem rws_add {V Vs : fs_Vs} {S : fs_R} {y : Int32} {n : Nat} (h : fs_rws V S) (hn : Vs.length = n) : fs_rws (V ++ Vs) (r_pi_ (r_pi_ (S.1, va_up S.2.1 38 (fs_pd Vs V.length (S.2.1 38) S.2.2).1, (fs_pd Vs V.length (S.2.1 38) S.2.2).2) 47 y) 37 (Int32.ofNat (V.length + n))) := by
  obtain ⟨h1, h2, h3⟩ := pd_rd Vs V.length (S.2.1 38) S.2.2
  refine ⟨by rw [List.length_append, hn]; exact up_hit (upd S.1 47 y) 37 _, fun r q hq => ?_⟩
  show (fs_pd Vs V.length (S.2.1 38) S.2.2).1 r = _ ∧ ∀ j, j < 8 → (fs_pd Vs V.length (S.2.1 38) S.2.2).2 (8 * r + j) = _
  by_cases hr : r < V.length
  · rw [List.getElem?_append_left hr] at hq
    obtain ⟨a, b⟩ := h.2 r q hq
    refine ⟨by rw [h2 r hr]; exact a, fun j hj => by rw [h3 _ (by omega)]; exact b j hj⟩
  · rw [List.getElem?_append_right (by omega)] at hq
    have := h1 (r - V.length) q hq
    rw [show V.length + (r - V.length) = r by omega] at this
    exact this
def fs_oth (S0 S : fs_R) : Prop := (∀ k, k ≠ 33 → k ≠ 37 → k ≠ 45 → k ≠ 47 → S.1 k = S0.1 k) ∧ ∀ k, k ≠ 34 → k ≠ 35 → k ≠ 38 → k ≠ 41 → k ≠ 46 → S.2.1 k = S0.2.1 k
theorem oth_rf (S : fs_R) : fs_oth S S := ⟨fun _ _ _ _ _ => rfl, fun _ _ _ _ _ _ => rfl⟩
theorem oth_tr {S0 S1 S2 : fs_R} (h : fs_oth S0 S1) (k : fs_oth S1 S2) : fs_oth S0 S2 := ⟨fun i a b c d => (k.1 i a b c d).trans (h.1 i a b c d), fun i a b c d e => (k.2 i a b c d e).trans (h.2 i a b c d e)⟩
theorem oth_ft (S : fs_R) (u : Nat) (g : Nat → Int32) : fs_oth S (fs_ft46 S u g) := ⟨fun k _ _ c _ => up_miss c _, fun k _ _ _ _ e => va_up_ne _ _ e⟩
theorem oth_47 (S : fs_R) (y : Int32) : fs_oth S (r_pi_ S 47 y) := ⟨fun k _ _ _ d => up_miss d _, fun _ _ _ _ _ _ => rfl⟩
theorem oth_us (S : fs_R) (i n : Nat) : fs_oth S (fs_usS S i n) := ⟨fun k a _ _ _ => up_miss a _, fun k a b _ _ _ => by
  show fs_us S.2.1 i n (64 * n) k = _
  unfold fs_us
  rw [va_up_ne _ _ b, va_up_ne _ _ a]⟩
theorem oth_41 (S : fs_R) (x : Nat) (y : Int32) : fs_oth S (r_si_ S 41 x y) := ⟨fun _ _ _ _ _ => rfl, fun k _ _ _ d _ => va_up_ne _ _ d⟩
theorem oth_mk (S : fs_R) (a : Nat → Int32) (w : Nat → Int64) (y z : Int32) : fs_oth S (r_pi_ (r_pi_ (S.1, va_up S.2.1 38 a, w) 47 y) 37 z) := ⟨fun k _ b _ d => (up_miss b _).trans (up_miss d _), fun k _ _ c _ _ => va_up_ne _ _ c⟩
/-- what the shelf's reports are like -/
def fs_rok (R : fs_Rp) : Prop := fs_RG R ∧ fs_ng R.2.2.2 ∧ 7 ≤ R.2.2.1
set_option maxRecDepth 100000 in
theorem w_161 {A : Nat → Nat} {k nf w0 : Nat} {g : Nat → Int32} {S0 : fs_R} (hk : k < 20) (hT : fs_tpl k nf g S0) (hg : fs_TG g nf) (hng : fs_ng g) : ∀ (l : List fs_Rp) (fuel : Nat) (Kp : List fs_Rp) (V : fs_Vs) (q1 q2 : Nat → Int32) (S : fs_R), fs_sf (Kp ++ l) S → fs_rws V S → S.2.1 41 0 = q1 2 → S.2.1 41 1 = q2 2 → fs_oth S0 S → l.length < fuel → Kp.length + l.length ≤ 5 → (∀ R ∈ Kp ++ l, fs_rok R) → V.length + fs_rwn g l ≤ 80 →
    fs_W A (fs_lp1 fuel (lb_Rf_hearTemplate_161 (A 0) (Int32.ofNat w0) (fs_nme g) (Int32.ofNat k)) (Int32.ofNat Kp.length)) S fun r S1 => ∃ V1 p1 p2, (V1, p1, p2) = fs_rsh g nf l (V, q1, q2) ∧ r = Int32.ofNat V1.length - Int32.ofNat w0 ∧ fs_sf (Kp ++ fs_kept g l) S1 ∧ fs_rws V1 S1 ∧ S1.2.1 41 0 = p1 2 ∧ S1.2.1 41 1 = p2 2 ∧ fs_oth S0 S1 ∧ V1.length ≤ V.length + fs_rwn g l
  | [], fuel + 1, Kp, V, q1, q2, S, hS, hV, h0, h1, ho, _, hl, _, _ => by
    rw [List.append_nil] at hS
    have hl2 : Kp.length ≤ 5 := hl
    refine w_lp1 <| w_gi 33 rfl ?_
    rw [hS.1]
    refine w_p (Int32.le_refl _) <| w_gi 37 rfl <| w_ret ⟨V, q1, q2, rfl, by rw [hV.1], ?_, hV, h0, h1, ho, Nat.le_add_right _ _⟩
    show fs_sf (Kp ++ []) S
    rw [List.append_nil]
    exact hS
  | R :: l, fuel + 1, Kp, V, q1, q2, S, hS, hV, h0, h1, ho, hf, hl, hok, hrw => by
    rw [List.length_cons] at hl hf
    have hq : (Kp ++ R :: l)[Kp.length]? = some R := at_mid Kp R l
    have hlen : (Kp ++ R :: l).length = Kp.length + (l.length + 1) := by rw [List.length_append, List.length_cons]
    obtain ⟨⟨u64, r5, r100⟩, gR, u7⟩ := hok R (List.mem_append_right _ List.mem_cons_self)
    have hnm := nm_inj gR hng
    have es : fs_rsh g nf (R :: l) (V, q1, q2) = fs_rsh g nf l (if fs_sb R.2.2.2 g = true then fs_ros g nf R.2.2.1 R.2.2.2 (V, q1, q2) else (V, q1, q2)) := rfl
    have er : fs_rwn g (R :: l) = (if fs_sb R.2.2.2 g = true then fs_nR R.2.2.2 else 0) + fs_rwn g l := rfl
    refine w_lp1 <| w_gi 33 rfl ?_
    rw [hS.1, hlen]
    refine w_n (fun z => ?_) <| w_fetchk hS (by omega) hq u64 <| w_nameOf (ft46_buf S R.2.2.1 R.2.2.2) (by omega) ?_
    · have := (n_le (by omega) (by omega)).mp z
      omega
    · have ho2 := oth_tr ho (oth_ft S R.2.2.1 R.2.2.2)
      have hV2 : fs_rws V (fs_ft46 S R.2.2.1 R.2.2.2) := hV
      have hS2 : fs_sf (Kp ++ R :: l) (fs_ft46 S R.2.2.1 R.2.2.2) := hS
      refine w_i (fun z => ?_) fun z => w_m ?_
      · have hsb := hnm.mp z
        rw [if_pos hsb] at es er
        have ek : fs_kept g (R :: l) = fs_kept g l := by
          unfold fs_kept
          rw [List.filter_cons_of_neg (by rw [hsb]; decide)]
        have hT2 : fs_tpl k nf g (fs_ft46 S R.2.2.1 R.2.2.2) := by
          refine ⟨?_, fun j hj => ?_⟩
          · rw [ho2.2 30 (by decide) (by decide) (by decide) (by decide) (by decide)]; exact hT.1
          · rw [ho2.2 31 (by decide) (by decide) (by decide) (by decide) (by decide), ho2.2 32 (by decide) (by decide) (by decide) (by decide) (by decide)]; exact hT.2 j hj
        obtain ⟨x, hx2, ex⟩ := x01 gR.1
        have hb0 : (fs_ft46 S R.2.2.1 R.2.2.2).2.1 46 0 = Int32.ofNat x := ((ft46_buf S R.2.2.1 R.2.2.2).2 0 (by omega)).trans ex
        have h41 : ∀ y : Nat, (fs_ft46 S R.2.2.1 R.2.2.2).2.1 41 y = S.2.1 41 y := fun _ => rfl
        refine w_gr 41 rfl <| w_gr 46 rfl <| w_ai (j := 0) m46 rfl (by decide) ?_
        rw [hb0]
        refine w_ai m41 rfl hx2 <| w_mkk (rm := V.length) (ft46_buf S R.2.2.1 R.2.2.2) u64 u7 gR.2 hk hT2 hg r5 (by omega) hV2.1 (fun _ => by omega) (fun y hcr => ?_) fun y hcr => ?_
        · have ero : fs_ros g nf R.2.2.1 R.2.2.2 (V, q1, q2) = (V ++ fs_mr R.2.2.1 R.2.2.2 g nf (fs_nR R.2.2.2) (7, 0), q1, q2) := if_pos hcr
          refine w_l <| w_p (Int32.not_lt.mp (Int32.ofNat_not_neg (by omega))) ?_
          refine w_si m41 rfl hx2 ?_
          rw [Int32.add_zero, h41]
          have hmr := mr_len R.2.2.1 R.2.2.2 g nf (fs_nR R.2.2.2) (7, 0)
          have hV3 := rws_add (S := fs_ft46 S R.2.2.1 R.2.2.2) (y := y) hV2 hmr
          have hV4 : fs_rws (V ++ fs_mr R.2.2.1 R.2.2.2 g nf (fs_nR R.2.2.2) (7, 0)) (r_si_ (r_pi_ (r_pi_ ((fs_ft46 S R.2.2.1 R.2.2.2).1, va_up (fs_ft46 S R.2.2.1 R.2.2.2).2.1 38 (fs_pd (fs_mr R.2.2.1 R.2.2.2 g nf (fs_nR R.2.2.2) (7, 0)) V.length ((fs_ft46 S R.2.2.1 R.2.2.2).2.1 38) (fs_ft46 S R.2.2.1 R.2.2.2).2.2).1, (fs_pd (fs_mr R.2.2.1 R.2.2.2 g nf (fs_nR R.2.2.2) (7, 0)) V.length ((fs_ft46 S R.2.2.1 R.2.2.2).2.1 38) (fs_ft46 S R.2.2.1 R.2.2.2).2.2).2) 47 y) 37 (Int32.ofNat (V.length + fs_nR R.2.2.2))) 41 x (S.2.1 41 x)) := hV3
          have hS4 : fs_sf (Kp ++ R :: l) (r_si_ (r_pi_ (r_pi_ ((fs_ft46 S R.2.2.1 R.2.2.2).1, va_up (fs_ft46 S R.2.2.1 R.2.2.2).2.1 38 (fs_pd (fs_mr R.2.2.1 R.2.2.2 g nf (fs_nR R.2.2.2) (7, 0)) V.length ((fs_ft46 S R.2.2.1 R.2.2.2).2.1 38) (fs_ft46 S R.2.2.1 R.2.2.2).2.2).1, (fs_pd (fs_mr R.2.2.1 R.2.2.2 g nf (fs_nR R.2.2.2) (7, 0)) V.length ((fs_ft46 S R.2.2.1 R.2.2.2).2.1 38) (fs_ft46 S R.2.2.1 R.2.2.2).2.2).2) 47 y) 37 (Int32.ofNat (V.length + fs_nR R.2.2.2))) 41 x (S.2.1 41 x)) := hS
          generalize hS5 : r_si_ (r_pi_ (r_pi_ ((fs_ft46 S R.2.2.1 R.2.2.2).1, va_up (fs_ft46 S R.2.2.1 R.2.2.2).2.1 38 (fs_pd (fs_mr R.2.2.1 R.2.2.2 g nf (fs_nR R.2.2.2) (7, 0)) V.length ((fs_ft46 S R.2.2.1 R.2.2.2).2.1 38) (fs_ft46 S R.2.2.1 R.2.2.2).2.2).1, (fs_pd (fs_mr R.2.2.1 R.2.2.2 g nf (fs_nR R.2.2.2) (7, 0)) V.length ((fs_ft46 S R.2.2.1 R.2.2.2).2.1 38) (fs_ft46 S R.2.2.1 R.2.2.2).2.2).2) 47 y) 37 (Int32.ofNat (V.length + fs_nR R.2.2.2))) 41 x (S.2.1 41 x) = S5 at *
          have ho5 : fs_oth S0 S5 := by
            rw [← hS5]
            exact oth_tr ho2 (oth_tr (oth_mk _ _ _ _ _) (oth_41 _ _ _))
          have h41b : ∀ z, S5.2.1 41 z = S.2.1 41 z := fun z => by
            rw [← hS5]
            show upd (S.2.1 41) x (S.2.1 41 x) z = _
            by_cases hz : z = x
            · rw [hz, up_hit]
            · exact up_miss hz _
          refine w_usk hS4 (by omega) (by omega) ?_
          have hS6 := sf_us hS4 (by omega) (i := Kp.length) (by omega) (fun R hR => (hok R hR).1.1)
          rw [erase_mid] at hS6
          rw [hlen] at hS6 ⊢
          have hV6 : fs_rws (V ++ fs_mr R.2.2.1 R.2.2.2 g nf (fs_nR R.2.2.2) (7, 0)) (fs_usS S5 Kp.length (Kp.length + (l.length + 1) - 1)) := hV4
          rw [ero] at es
          refine w_mono (w_161 hk hT hg hng l fuel Kp _ q1 q2 _ hS6 hV6 ((h41b 0).trans h0) ((h41b 1).trans h1) (oth_tr ho5 (oth_us _ _ _)) (by omega) (by omega) (fun R hR => ?_) (by rw [List.length_append, hmr]; omega)) fun r S1 ⟨V1, p1, p2, a1, a2, a3, a4, a5, a6, a7, a8⟩ => ⟨V1, p1, p2, by rw [es]; exact a1, a2, by rw [ek]; exact a3, a4, a5, a6, a7, by rw [List.length_append, hmr] at a8; omega⟩
          rcases List.mem_append.mp hR with hR | hR
          · exact hok R (List.mem_append_left _ hR)
          · exact hok R (List.mem_append_right _ (List.mem_cons_of_mem _ hR))
        · have ero : fs_ros g nf R.2.2.1 R.2.2.2 (V, q1, q2) = if R.2.2.2 0 = 0 then (V, upd q1 2 (q1 2 + 1), q2) else (V, q1, upd q2 2 (q2 2 + 1)) := by
            unfold fs_ros
            rw [hcr]
            rfl
          refine w_l <| w_n (by decide) ?_
          refine w_si m41 rfl hx2 ?_
          rw [h41]
          have hV4 : fs_rws V (r_si_ (r_pi_ (fs_ft46 S R.2.2.1 R.2.2.2) 47 y) 41 x (S.2.1 41 x + 1)) := hV
          have hS4 : fs_sf (Kp ++ R :: l) (r_si_ (r_pi_ (fs_ft46 S R.2.2.1 R.2.2.2) 47 y) 41 x (S.2.1 41 x + 1)) := hS
          have ho5 : fs_oth S0 (r_si_ (r_pi_ (fs_ft46 S R.2.2.1 R.2.2.2) 47 y) 41 x (S.2.1 41 x + 1)) := oth_tr ho2 (oth_tr (oth_47 _ _) (oth_41 _ _ _))
          have h41b : ∀ z, (r_si_ (r_pi_ (fs_ft46 S R.2.2.1 R.2.2.2) 47 y) 41 x (S.2.1 41 x + 1)).2.1 41 z = upd (S.2.1 41) x (S.2.1 41 x + 1) z := fun z => rfl
          refine w_usk hS4 (by omega) (by omega) ?_
          have hS6 := sf_us hS4 (by omega) (i := Kp.length) (by omega) (fun R hR => (hok R hR).1.1)
          rw [erase_mid] at hS6
          rw [hlen] at hS6 ⊢
          have hokl : ∀ R ∈ Kp ++ l, fs_rok R := fun R hR => by
            rcases List.mem_append.mp hR with hR | hR
            · exact hok R (List.mem_append_left _ hR)
            · exact hok R (List.mem_append_right _ (List.mem_cons_of_mem _ hR))
          have hx01 : x = 0 ∨ x = 1 := by omega
          rcases hx01 with rfl | rfl
          · rw [if_pos (show R.2.2.2 0 = 0 from ex)] at ero
            rw [ero] at es
            refine w_mono (w_161 hk hT hg hng l fuel Kp V (upd q1 2 (q1 2 + 1)) q2 _ hS6 hV4 ((up_hit (S.2.1 41) 0 (S.2.1 41 0 + 1)).trans (by rw [h0]; exact (up_hit q1 2 (q1 2 + 1)).symm)) ((up_miss (f := S.2.1 41) (n := 0) (j := 1) (by decide) (S.2.1 41 0 + 1)).trans h1) (oth_tr ho5 (oth_us _ _ _)) (by omega) (by omega) hokl (by omega)) fun r S1 ⟨V1, p1, p2, a1, a2, a3, a4, a5, a6, a7, a8⟩ => ⟨V1, p1, p2, by rw [es]; exact a1, a2, by rw [ek]; exact a3, a4, a5, a6, a7, by omega⟩
          · rw [if_neg (by rw [ex]; decide)] at ero
            rw [ero] at es
            refine w_mono (w_161 hk hT hg hng l fuel Kp V q1 (upd q2 2 (q2 2 + 1)) _ hS6 hV4 ((up_miss (f := S.2.1 41) (n := 1) (j := 0) (by decide) (S.2.1 41 1 + 1)).trans h0) ((up_hit (S.2.1 41) 1 (S.2.1 41 1 + 1)).trans (by rw [h1]; exact (up_hit q2 2 (q2 2 + 1)).symm)) (oth_tr ho5 (oth_us _ _ _)) (by omega) (by omega) hokl (by omega)) fun r S1 ⟨V1, p1, p2, a1, a2, a3, a4, a5, a6, a7, a8⟩ => ⟨V1, p1, p2, by rw [es]; exact a1, a2, by rw [ek]; exact a3, a4, a5, a6, a7, by omega⟩
      · have hsb : ¬ fs_sb R.2.2.2 g = true := fun w => z (hnm.mpr w)
        have hsb2 : fs_sb R.2.2.2 g = false := by simpa using hsb
        rw [if_neg hsb] at es er
        have ek : Kp ++ fs_kept g (R :: l) = (Kp ++ [R]) ++ fs_kept g l := by
          unfold fs_kept
          rw [List.filter_cons_of_pos (by rw [hsb2]; rfl), List.append_assoc]
          rfl
        rw [ofNat_add1]
        have hgo := w_161 (A := A) (w0 := w0) hk hT hg hng l fuel (Kp ++ [R]) V q1 q2 (fs_ft46 S R.2.2.1 R.2.2.2) (by rw [List.append_assoc]; exact hS2) hV2 h0 h1 ho2 (by omega) (by rw [List.length_append]; simp; omega) (fun Q hQ => hok Q (by rw [List.append_assoc] at hQ; exact hQ)) (by omega)
        rw [List.length_append] at hgo
        exact w_mono hgo fun r S1 ⟨V1, p1, p2, a1, a2, a3, a4, a5, a6, a7, a8⟩ => ⟨V1, p1, p2, by rw [es]; exact a1, a2, by rw [ek]; exact a3, a4, a5, a6, a7, by omega⟩
  | _, 0, _, _, _, _, _, _, _, _, _, _, h, _, _, _ => absurd h (Nat.not_lt_zero _)
