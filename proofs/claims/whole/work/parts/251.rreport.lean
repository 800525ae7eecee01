/-! a record written, and the report of records, in the reference -/
theorem w_wb {A : Nat → Nat} {nn nv : Nat} {v2 v8 : Int32} {k6 : Int32 → fs_T Unit} {S0 : fs_R} {Q : Unit → fs_R → Prop} (hn : nn < 30) (h25 : S0.1 25 = Int32.ofNat nn) (hv : v8 = Int32.ofNat nv) (hnv : nv < 2 ^ 31) : ∀ (n fuel : Nat) (R : fs_Rp) (S : fs_R), fs_wst nn R S0 S → n < fuel → n ≤ 4 → R.2.2.1 + n ≤ 64 → (∀ S1, fs_wst nn (fs_an v8 R n) S0 S1 → fs_W A (k6 (v2 + 1)) S1 Q) →
    fs_W A (fs_lp1 fuel (lb_Rf_writeRecord_80 (A 0) v2 k6 v8) (Int32.ofNat n - 1)) S Q
  | 0, fuel + 1, R, S, hw, _, _, _, hk => w_lp1 <| w_p (by decide) <| w_m <| hk S hw
  | n + 1, fuel + 1, R, S, hw, hf, h4, hR, hk => by
    have hs : Int32.ofNat (n + 1) - 1 = Int32.ofNat n := ofNat_sub1 (n := n + 1) (Nat.succ_pos n)
    rw [hs]
    have hand : ∀ n, n < 4 → (8 * Int32.ofNat n) &&& 31 = Int32.ofNat (8 * n) := by decide
    have e1 : (v8 >>> ((8 * Int32.ofNat n) &&& 31)) = fs_ushr v8 (8 * Int32.ofNat n) := by
      rw [hand n (by omega), hv, show (8 : Int32) * Int32.ofNat n = Int32.ofNat (8 * n) from n_m 8 n, n_shr hnv (by omega), n_ushr hnv (by omega)]
    refine w_lp1 <| w_n (Int32.ofNat_not_neg (by omega)) <| w_wk hw hn h25 (by omega) (y := fs_ushr v8 (8 * Int32.ofNat n)) (by rw [e1]) fun S1 w1 => w_m ?_
    have e2 := ra_used (R := R) (fs_ushr v8 (8 * Int32.ofNat n)) (by omega)
    rw [sub_m1]
    exact w_wb hn h25 hv hnv n fuel _ S1 w1 (by omega) (by omega) (by omega) hk
  | _, 0, _, _, _, h, _, _, _ => absurd h (Nat.not_lt_zero _)
set_option maxRecDepth 100000 in
theorem w_wrr {A : Nat → Nat} {nn x a i u : Nat} {f g v : Nat → Int32} {S0 : fs_R} {Q : Unit → fs_R → Prop} (hn : nn < 30) (h25 : S0.1 25 = Int32.ofNat nn) (hx : x < 2) (ha : a < 6) (hi : i < 21) (hu : u ≤ 8) (hr : fs_rx x a i u f g v S0) (hb : fs_bl f g u) (hv : fs_vn v) : ∀ (m fuel k : Nat) (R : fs_Rp) (S : fs_R), fs_wst nn R S0 S → k + m = u → m < fuel → R.2.2.1 + fs_bfn f g v k m ≤ 64 → (∀ S1, fs_wst nn (fs_lw f g v R k m) S0 S1 → Q () S1) →
    fs_W A (fs_lp1 fuel (lb_Rf_writeRecord_6 (A 0) (Int32.ofNat x) (Int32.ofNat a) (Int32.ofNat i)) (Int32.ofNat (8 * a + k))) S Q
  | 0, fuel + 1, k, R, S, hw, hk, _, _, hq => by
    have hke : k = u := by omega
    subst hke
    refine w_lp1 <| w_gr 20 rfl <| w_ai m20 rfl ha ?_
    rw [wst_rd hw (by decide) (by decide), hr.1, show (8 : Int32) * Int32.ofNat a + Int32.ofNat k = Int32.ofNat (8 * a + k) from n_ma 8 a k]
    exact w_p (Int32.le_refl _) <| w_ret (hq S hw)
  | m + 1, fuel + 1, k, R, S, hw, hk, hf, hR, hq => by
    obtain ⟨⟨j, hj, ej⟩, l, hl, el⟩ := hb k (by omega)
    obtain ⟨r1, r2⟩ := hr.2.1 k (by omega)
    obtain ⟨nv, hnv, env⟩ := vo_n hv (f k)
    have eb : fs_bfn f g v k (m + 1) = fs_wdn f g v k + fs_bfn f g v (k + 1) m := rfl
    rw [eb] at hR
    have el2 : fs_lw f g v R k (m + 1) = fs_lw f g v (fs_wf R (fs_vo v (f k)) (g k)) (k + 1) m := rfl
    rw [el2] at hq
    have eu := wf_used (R := R) (f := f) (g := g) (v := v) (i := k) (by omega)
    have rec_ : ∀ S1, fs_wst nn (fs_wf R (fs_vo v (f k)) (g k)) S0 S1 → fs_W A (fs_lp1 fuel (lb_Rf_writeRecord_6 (A 0) (Int32.ofNat x) (Int32.ofNat a) (Int32.ofNat i)) (Int32.ofNat (8 * a + k) + 1)) S1 Q := fun S1 w1 => by
      rw [ofNat_add1]
      exact w_wrr hn h25 hx ha hi hu hr hb hv m fuel (k + 1) _ S1 w1 (by omega) (by omega) (by omega) hq
    refine w_lp1 <| w_gr 20 rfl <| w_ai m20 rfl ha ?_
    rw [wst_rd hw (by decide) (by decide), hr.1, show (8 : Int32) * Int32.ofNat a + Int32.ofNat u = Int32.ofNat (8 * a + u) from n_ma 8 a u]
    refine w_n (fun z => ?_) <| w_gr 14 rfl <| w_gr 21 rfl <| w_ai m21 rfl (by omega) ?_
    · have := (n_le (by omega) (by omega)).mp z
      omega
    · rw [wst_rd hw (by decide) (by decide), r1]
      refine w_ai (j := 8 * (21 * x + i) + j) m14 ?_ (by omega) ?_
      · rw [ej, show (21 : Int32) * Int32.ofNat x + Int32.ofNat i = Int32.ofNat (21 * x + i) from n_ma 21 x i]
        exact n_ma 8 _ j
      · rw [wst_rd hw (by decide) (by decide), hr.2.2 j hj, ← ej]
        refine w_gr 22 rfl <| w_ai m22 rfl (by omega) ?_
        rw [wst_rd hw (by decide) (by decide), r2]
        refine w_l ?_
        by_cases hg0 : g k = 0
        · have ewf : fs_wf R (fs_vo v (f k)) (g k) = fs_an (fs_vo v (f k)) (fs_ra R (Int32.ofNat (fs_fb (fs_vo v (f k))))) (fs_fb (fs_vo v (f k))) := if_pos hg0
          have ewd : fs_wdn f g v k = 1 + fs_fb (fs_vo v (f k)) := if_pos hg0
          rw [ewf] at rec_
          have hfb := fb_le (fs_vo v (f k))
          rw [env] at hfb ewd rec_ ⊢
          have e1 := ra_used (R := R) (Int32.ofNat (fs_fb (Int32.ofNat nv))) (by omega)
          exact w_p hg0 <| w_width hnv <| w_wk hw hn h25 (by omega) (and255 (by omega)).symm fun S1 w1 => w_m <| w_wb (k6 := fs_lp1 fuel (lb_Rf_writeRecord_6 (A 0) (Int32.ofNat x) (Int32.ofNat a) (Int32.ofNat i))) hn h25 rfl hnv (fs_fb (Int32.ofNat nv)) 4096 _ S1 w1 (by omega) (by omega) (by omega) rec_
        · have ewf : fs_wf R (fs_vo v (f k)) (g k) = fs_an (fs_vo v (f k)) R (g k).toNatClampNeg := if_neg hg0
          have ewd : fs_wdn f g v k = (g k).toNatClampNeg := if_neg hg0
          have hgn : (g k).toNatClampNeg = l := by rw [el]; exact Int32.toNatClampNeg_ofNat_of_lt (by omega)
          rw [ewf, hgn] at rec_
          rw [hgn] at ewd
          rw [env] at rec_ ⊢
          refine w_n hg0 <| w_m ?_
          rw [el]
          exact w_wb (k6 := fs_lp1 fuel (lb_Rf_writeRecord_6 (A 0) (Int32.ofNat x) (Int32.ofNat a) (Int32.ofNat i))) hn h25 rfl hnv l 4096 R S hw (by omega) (by omega) (by omega) rec_
  | _, 0, _, _, _, _, _, h, _, _ => absurd h (Nat.not_lt_zero _)
set_option maxRecDepth 100000 in
theorem w_wrk {β : Type} {A : Nat → Nat} {nn x a i u : Nat} {f g v : Nat → Int32} {R : fs_Rp} {S0 S : fs_R} {K : Unit → fs_T β} {Q : β → fs_R → Prop} (hw : fs_wst nn R S0 S) (hn : nn < 30) (h25 : S0.1 25 = Int32.ofNat nn) (hx : x < 2) (ha : a < 6) (hi : i < 21) (hu : u ≤ 8) (hr : fs_rx x a i u f g v S0) (hb : fs_bl f g u) (hv : fs_vn v) (hR : R.2.2.1 + fs_bfn f g v 0 u ≤ 64) (hk : ∀ S1, fs_wst nn (fs_lw f g v R 0 u) S0 S1 → fs_W A (K ()) S1 Q) : fs_W A (fs_bind (fs_cv (A 0) 12 (f_Rf_writeRecord (A 0) (Int32.ofNat x) (Int32.ofNat a) (Int32.ofNat i))) K) S Q := by
  refine w_b (P := fun _ S1 => fs_wst nn (fs_lw f g v R 0 u) S0 S1) (w_cv <| w_m ?_) fun _ S1 h => hk S1 h
  show fs_W A (fs_lp1 4096 (lb_Rf_writeRecord_6 (A 0) (Int32.ofNat x) (Int32.ofNat a) (Int32.ofNat i)) (8 * Int32.ofNat a)) _ _
  rw [show (8 : Int32) * Int32.ofNat a = Int32.ofNat (8 * a + 0) from n_m 8 a]
  exact w_wrr hn h25 hx ha hi hu hr hb hv u 4096 0 R S hw (by omega) (by omega) hR (fun S1 h => h)
/-- ended flows moved down -/
def fs_shE (f : Nat → Int32) (x c p : Nat) : Nat → Int32 := fun j => if 168 * x ≤ j ∧ j < p then f (j + 8 * c) else f j
theorem shE_0 (f : Nat → Int32) (x c : Nat) : fs_shE f x c (168 * x) = f := funext fun j => if_neg (by omega)
theorem shE_s (f : Nat → Int32) {x c p : Nat} (h : 168 * x ≤ p) : upd (fs_shE f x c p) p (fs_shE f x c p (p + 8 * c)) = fs_shE f x c (p + 1) := funext fun j => by
  unfold upd fs_shE
  by_cases hj : j = p
  · rw [if_pos hj, if_neg (by omega), if_pos (by omega), hj]
  · rw [if_neg hj]
    by_cases h2 : 168 * x ≤ j ∧ j < p
    · rw [if_pos h2, if_pos (by omega)]
    · rw [if_neg h2, if_neg (by omega)]
/-- the state a report leaves -/
def fs_rpv (S : fs_R) (x c e w : Nat) : fs_R := (S.1, va_up (va_up S.2.1 14 (fs_shE (S.2.1 14) x c (168 * x + 8 * e))) 5 (upd (S.2.1 5) x (Int32.ofNat (w + c))), S.2.2)
theorem w_shE {A : Nat → Nat} {x c e w n : Nat} {S : fs_R} (hx : x < 2) (hce : c + e ≤ 21) (hw : w + c ≤ 100) (h13 : S.2.1 13 x = Int32.ofNat e) (h5 : S.2.1 5 x = Int32.ofNat w) (h25 : S.1 25 = Int32.ofNat n) (hn : n < 30) : ∀ (m fuel p : Nat), p + m = 168 * x + 8 * e → m < fuel → 168 * x ≤ p →
    fs_W A (fs_lp1 fuel (lb_Rf_report_212 (A 0) (Int32.ofNat x) (Int32.ofNat c)) (Int32.ofNat p)) (S.1, va_up S.2.1 14 (fs_shE (S.2.1 14) x c p), S.2.2) fun r S1 => r = Int32.ofNat n ∧ S1 = r_pi_ (fs_rpv S x c e w) 25 (Int32.ofNat (n + 1))
  | 0, fuel + 1, p, hp, _, hap => by
    have hp2 : p = 168 * x + 8 * e := by omega
    subst hp2
    refine w_lp1 <| w_gr 13 rfl <| w_ai m13 rfl hx ?_
    rw [show (S.1, va_up S.2.1 14 (fs_shE (S.2.1 14) x c (168 * x + 8 * e)), S.2.2).2.1 13 x = Int32.ofNat e from h13, show (168 : Int32) * Int32.ofNat x + (8 : Int32) * Int32.ofNat e = Int32.ofNat (168 * x + 8 * e) by rw [Int32.ofNat_add, Int32.ofNat_mul, Int32.ofNat_mul]; rfl]
    refine w_p (Int32.le_refl _) <| w_gr 5 rfl <| w_ai m5 rfl hx ?_
    rw [show (S.1, va_up S.2.1 14 (fs_shE (S.2.1 14) x c (168 * x + 8 * e)), S.2.2).2.1 5 x = Int32.ofNat w from h5, n_a]
    refine w_si m5 rfl hx <| w_gi 25 rfl ?_
    rw [show (r_si_ (S.1, va_up S.2.1 14 (fs_shE (S.2.1 14) x c (168 * x + 8 * e)), S.2.2) 5 x (Int32.ofNat (w + c))).1 25 = Int32.ofNat n from h25, ofNat_add1]
    exact w_pi 25 rfl (by decide) <| w_gi 25 rfl <| w_ret ⟨ofNat_sub1 (n := n + 1) (Nat.succ_pos n), rfl⟩
  | m + 1, fuel + 1, p, hp, hf, hap => by
    refine w_lp1 <| w_gr 13 rfl <| w_ai m13 rfl hx ?_
    rw [show (S.1, va_up S.2.1 14 (fs_shE (S.2.1 14) x c p), S.2.2).2.1 13 x = Int32.ofNat e from h13, show (168 : Int32) * Int32.ofNat x + (8 : Int32) * Int32.ofNat e = Int32.ofNat (168 * x + 8 * e) by rw [Int32.ofNat_add, Int32.ofNat_mul, Int32.ofNat_mul]; rfl]
    refine w_n (fun z => ?_) <| w_gr 14 rfl <| w_gr 14 rfl <| w_ai (j := p + 8 * c) m14 ?_ (by omega) <| w_si m14 rfl (by omega) <| w_m ?_
    · have := (n_le (by omega) (by omega)).mp z
      omega
    · rw [show (8 : Int32) * Int32.ofNat c = Int32.ofNat (8 * c) from n_m 8 c, n_a]
    · rw [ofNat_add1]
      have e1 : r_si_ (S.1, va_up S.2.1 14 (fs_shE (S.2.1 14) x c p), S.2.2) 14 p ((S.1, va_up S.2.1 14 (fs_shE (S.2.1 14) x c p), S.2.2).2.1 14 (p + 8 * c)) = (S.1, va_up S.2.1 14 (fs_shE (S.2.1 14) x c (p + 1)), S.2.2) := by
        refine Prod.ext rfl (Prod.ext (funext fun k => ?_) rfl)
        by_cases h14 : k = 14
        · subst h14
          exact shE_s (S.2.1 14) hap
        · simp [r_si_, va_up, h14]
      rw [e1]
      exact w_shE hx hce hw h13 h5 h25 hn m fuel (p + 1) (by omega) (by omega) (by omega)
  | _, 0, _, _, h, _ => absurd h (Nat.not_lt_zero _)
