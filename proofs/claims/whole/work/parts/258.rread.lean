/-! records read, in the reference -/
def fs_tpl (k nf : Nat) (g : Nat → Int32) (S : fs_R) : Prop := S.2.1 30 k = Int32.ofNat nf ∧ ∀ j, j < nf → S.2.1 31 (8 * k + j) = g (6 + 2 * j) ∧ S.2.1 32 (8 * k + j) = g (6 + 2 * j + 1)
theorem kf_st {u : Nat} {f g : Nat → Int32} : ∀ (m i : Nat) (c : fs_Cu), c.2 = 1 → (fs_kf u f g m i c).2 = 1
  | 0, _, _, h => h
  | m + 1, i, c, h => kf_st m (i + 1) _ (tf_st h)
theorem kr_st {u : Nat} {f g : Nat → Int32} {nf : Nat} : ∀ (m : Nat) (c : fs_Cu), c.2 = 1 → (fs_kr u f g nf m c).2 = 1
  | 0, _, h => h
  | m + 1, c, h => kr_st m _ (kf_st nf 0 c h)
theorem w_rd0_in {A : Nat → Nat} {u k nf : Nat} {f g : Nat → Int32} {v1 : Int32} {k8 : Int32 → fs_T Int32} {S : fs_R} {Q : Int32 → fs_R → Prop} (hb : fs_buf u f S) (hu : u ≤ 64) (hf : fs_by f) (hk : k < 20) (hT : fs_tpl k nf g S) (hg : fs_TG g nf) : ∀ (m fuel i p : Nat), i + m = nf → m < fuel → p ≤ u →
    (∀ p1, p1 ≤ u → fs_kf u f g m i (p, 0) = (p1, 0) → fs_W A (k8 (v1 + 1)) (r_pi_ S 47 (Int32.ofNat p1)) Q) → (∀ y, (fs_kf u f g m i (p, 0)).2 = 1 → Q 0 (r_pi_ S 47 y)) →
    fs_W A (fs_lp1 fuel (lb_Rf_read_81 (A 0) (Int32.ofNat k) 0 v1 k8) (Int32.ofNat (8 * k + i))) (r_pi_ S 47 (Int32.ofNat p)) Q
  | 0, fuel + 1, i, p, hi, _, hp, hok, _ => by
    have h8 := hg.2.1
    have hie : i = nf := by omega
    subst hie
    refine w_lp1 <| w_gr 30 rfl <| w_ai m30 rfl hk ?_
    rw [show (r_pi_ S 47 (Int32.ofNat p)).2.1 30 k = Int32.ofNat i from hT.1, show (8 : Int32) * Int32.ofNat k + Int32.ofNat i = Int32.ofNat (8 * k + i) from n_ma 8 k i]
    exact w_p (Int32.le_refl _) <| w_m <| hok p hp rfl
  | m + 1, fuel + 1, i, p, hi, hfu, hp, hok, hbad => by
    have h8 := hg.2.1
    obtain ⟨⟨l, hl, el⟩, -⟩ := hg.2.2 i (by omega)
    refine w_lp1 <| w_gr 30 rfl <| w_ai m30 rfl hk ?_
    rw [show (r_pi_ S 47 (Int32.ofNat p)).2.1 30 k = Int32.ofNat nf from hT.1, show (8 : Int32) * Int32.ofNat k + Int32.ofNat nf = Int32.ofNat (8 * k + nf) from n_ma 8 k nf]
    refine w_n (fun z => ?_) <| w_gr 32 rfl <| w_ai m32 rfl (by omega) ?_
    · have := (n_le (by omega) (by omega)).mp z
      omega
    · rw [show (r_pi_ S 47 (Int32.ofNat p)).2.1 32 (8 * k + i) = g (6 + 2 * i + 1) from (hT.2 i (by omega)).2]
      have es : fs_kf u f g (m + 1) i (p, 0) = fs_kf u f g m (i + 1) (fs_tf u f (g (6 + 2 * i + 1)) (p, 0)).2 := rfl
      refine w_takek hb hu hf hp el hl (fun n p1 hn hp1 e1 => ?_) fun y hy => ?_
      · rw [es, e1] at hok hbad
        refine w_p (j_nn (by omega)) <| w_l <| w_p rfl <| w_m ?_
        rw [ofNat_add1]
        exact w_rd0_in hb hu hf hk hT hg m fuel (i + 1) p1 (by omega) (by omega) hp1 hok hbad
      · rw [es] at hbad
        exact w_n (by decide) <| w_rz (Or.inl rfl) (hbad y (kf_st m (i + 1) _ hy))
  | _, 0, _, _, _, h, _, _, _ => absurd h (Nat.not_lt_zero _)
theorem kf_01 {u : Nat} {f g : Nat → Int32} {nf : Nat} (hf : fs_by f) (hu : u ≤ 64) (hg : fs_TG g nf) : ∀ (m i p : Nat), i + m ≤ nf → p ≤ u → (∃ p1, p1 ≤ u ∧ fs_kf u f g m i (p, 0) = (p1, 0)) ∨ (fs_kf u f g m i (p, 0)).2 = 1 := fun m i p h1 h2 => by
  have htf : ∀ (x : Int32) (l q : Nat), x = Int32.ofNat l → l ≤ 4 → q ≤ u → (∃ v p1, p1 ≤ u ∧ fs_tf u f x (q, 0) = (v, p1, 0)) ∨ (fs_tf u f x (q, 0)).2.2 = 1 := fun x l q hx hl hq => by
    have htl : ∀ (m q : Nat), m ≤ 4 → q ≤ u → (∃ v p1, p1 ≤ u ∧ fs_tl u f m 0 (q, 0) = (v, p1, 0)) ∨ (fs_tl u f m 0 (q, 0)).2.2 = 1 := fun m q hm hq => by
      by_cases hfit : q + m ≤ u
      · exact Or.inl ⟨_, _, hfit, tl_ok hf m q 0 0 hfit (by decide) (by omega)⟩
      · exact Or.inr (tl_bad m _ q hq (by omega))
    unfold fs_tf
    by_cases h0 : x = 0
    · rw [if_pos h0]
      by_cases hqu : q < u
      · have eb : fs_tb u f (q, 0) = (f q, q + 1, 0) := if_pos hqu
        rw [eb]
        dsimp only
        by_cases c1 : f q < 1
        · rw [if_pos c1]; exact Or.inr rfl
        · rw [if_neg c1]
          by_cases c2 : f q ≤ 4
          · rw [if_pos c2]
            exact htl _ _ (i_le (n := 4) c2 (by decide)) (by omega)
          · rw [if_neg c2]; exact Or.inr rfl
      · have eb : fs_tb u f (q, 0) = (0, q, 1) := if_neg hqu
        rw [eb]
        dsimp only
        rw [if_pos (show (0 : Int32) < 1 by decide)]
        exact Or.inr rfl
    · rw [if_neg h0]
      exact htl _ _ (by rw [hx, Int32.toNatClampNeg_ofNat_of_lt (by omega)]; exact hl) hq
  induction m generalizing i p with
  | zero => exact Or.inl ⟨p, h2, rfl⟩
  | succ m ih =>
    obtain ⟨⟨l, hl, el⟩, -⟩ := hg.2.2 i (by omega)
    have es : fs_kf u f g (m + 1) i (p, 0) = fs_kf u f g m (i + 1) (fs_tf u f (g (6 + 2 * i + 1)) (p, 0)).2 := rfl
    rw [es]
    rcases htf _ l p el hl h2 with ⟨v, p1, a, b⟩ | a
    · rw [b]
      exact ih (i + 1) p1 (by omega) a
    · exact Or.inr (kf_st m (i + 1) _ a)
set_option maxRecDepth 100000 in
theorem w_rd0_out {A : Nat → Nat} {u k nf n : Nat} {f g : Nat → Int32} {S : fs_R} (hb : fs_buf u f S) (hu : u ≤ 64) (hu6 : 6 ≤ u) (hf : fs_by f) (hk : k < 20) (hT : fs_tpl k nf g S) (hg : fs_TG g nf) (h5 : f 5 = Int32.ofNat n) (hn : n ≤ 255) : ∀ (m fuel i p : Nat), i + m = n → m < fuel → p ≤ u →
    fs_W A (fs_lp1 fuel (lb_Rf_read_8 (A 0) (Int32.ofNat k) 0) (Int32.ofNat i)) (r_pi_ S 47 (Int32.ofNat p)) fun r S1 => (∃ y, S1 = r_pi_ S 47 y) ∧ ((r = 1 ∧ fs_kr u f g nf m (p, 0) = (u, 0)) ∨ (r = 0 ∧ ¬ ((fs_kr u f g nf m (p, 0)).2 = 0 ∧ (fs_kr u f g nf m (p, 0)).1 = u)))
  | 0, fuel + 1, i, p, hi, _, hp => by
    refine w_lp1 <| w_gr 46 rfl <| w_ai (j := 5) m46 rfl (by decide) ?_
    rw [show (r_pi_ S 47 (Int32.ofNat p)).2.1 46 5 = Int32.ofNat n from (hb.2 5 (by omega)).trans h5]
    refine w_p ((n_le (by omega) (by omega)).mpr (by omega)) <| w_gi 47 rfl <| w_gi 45 rfl ?_
    rw [show (r_pi_ S 47 (Int32.ofNat p)).1 47 = Int32.ofNat p from up_hit S.1 47 _, show (r_pi_ S 47 (Int32.ofNat p)).1 45 = Int32.ofNat u from hb.1]
    refine w_i (fun z => w_rz (Or.inr rfl) ⟨⟨_, rfl⟩, Or.inl ⟨rfl, ?_⟩⟩) fun z => w_rz (Or.inl rfl) ⟨⟨_, rfl⟩, Or.inr ⟨rfl, fun w => z (congrArg Int32.ofNat w.2)⟩⟩
    show (p, (0 : Int32)) = (u, 0)
    rw [n_inj (by omega) (by omega) z]
  | m + 1, fuel + 1, i, p, hi, hfu, hp => by
    have h8 := hg.2.1
    refine w_lp1 <| w_gr 46 rfl <| w_ai (j := 5) m46 rfl (by decide) ?_
    rw [show (r_pi_ S 47 (Int32.ofNat p)).2.1 46 5 = Int32.ofNat n from (hb.2 5 (by omega)).trans h5]
    refine w_n (fun z => ?_) <| w_l <| w_p rfl <| w_m ?_
    · have := (n_le (by omega) (by omega)).mp z
      omega
    · have es : fs_kr u f g nf (m + 1) (p, 0) = fs_kr u f g nf m (fs_kf u f g nf 0 (p, 0)) := rfl
      rw [es]
      show fs_W A (fs_lp1 4096 (lb_Rf_read_81 (A 0) (Int32.ofNat k) 0 (Int32.ofNat i) (fs_lp1 fuel (lb_Rf_read_8 (A 0) (Int32.ofNat k) 0))) (8 * Int32.ofNat k)) _ _
      rw [show (8 : Int32) * Int32.ofNat k = Int32.ofNat (8 * k + 0) from n_m 8 k]
      refine w_rd0_in hb hu hf hk hT hg nf 4096 0 p (by omega) (by omega) hp (fun p1 hp1 e1 => ?_) fun y hy => ⟨⟨y, rfl⟩, Or.inr ⟨rfl, fun w => ?_⟩⟩
      · rw [e1, ofNat_add1]
        exact w_rd0_out hb hu hu6 hf hk hT hg h5 hn m fuel (i + 1) p1 (by omega) (by omega) hp1
      · have := kr_st (u := u) (f := f) (g := g) (nf := nf) m _ hy
        rw [this] at w
        exact absurd w.1 (by decide)
  | _, 0, _, _, _, h, _ => absurd h (Nat.not_lt_zero _)
set_option maxRecDepth 100000 in
theorem w_read0k {β : Type} {A : Nat → Nat} {u k nf n : Nat} {f g : Nat → Int32} {S : fs_R} {K : Int32 → fs_T β} {Q : β → fs_R → Prop} (hb : fs_buf u f S) (hu : u ≤ 64) (hu7 : 7 ≤ u) (hf : fs_by f) (hk : k < 20) (hT : fs_tpl k nf g S) (hg : fs_TG g nf) (h5 : f 5 = Int32.ofNat n) (hn : n ≤ 255) (hok : ∀ y, fs_kr u f g nf n (7, 0) = (u, 0) → fs_W A (K 1) (r_pi_ S 47 y) Q) (hbad : ∀ y, ¬ ((fs_kr u f g nf n (7, 0)).2 = 0 ∧ (fs_kr u f g nf n (7, 0)).1 = u) → fs_W A (K 0) (r_pi_ S 47 y) Q) : fs_W A (fs_bind (fs_cv (A 0) 12 (f_Rf_read (A 0) (Int32.ofNat k) 0)) K) S Q := by
  refine w_b (P := fun r S1 => (∃ y, S1 = r_pi_ S 47 y) ∧ ((r = 1 ∧ fs_kr u f g nf n (7, 0) = (u, 0)) ∨ (r = 0 ∧ ¬ ((fs_kr u f g nf n (7, 0)).2 = 0 ∧ (fs_kr u f g nf n (7, 0)).1 = u)))) (w_cv <| w_pi 47 rfl (by decide) ?_) fun r S1 ⟨⟨y, e⟩, h⟩ => by
    subst e
    rcases h with ⟨rfl, h⟩ | ⟨rfl, h⟩
    · exact hok y h
    · exact hbad y h
  exact w_rd0_out hb hu (by omega) hf hk hT hg h5 hn n 4096 0 7 (by omega) (by omega) hu7
/-! .. and kept -/
def fs_wrow (w : Nat → Int64) (b : Nat) (x : Nat → Int64) : Nat → Int64 := fun j => if b ≤ j ∧ j < b + 8 then x (j - b) else w j
theorem wrow_s (w : Nat → Int64) (b : Nat) (x : Nat → Int64) {t : Nat} (ht : t < 8) (y : Int64) : vp_updL (fs_wrow w b x) (b + t) y = fs_wrow w b (vp_updL x t y) := funext fun j => by
  unfold vp_updL fs_wrow
  by_cases h : j = b + t
  · rw [if_pos h, if_pos (by omega)]
    exact (if_pos (by omega)).symm
  · rw [if_neg h]
    by_cases h2 : b ≤ j ∧ j < b + 8
    · rw [if_pos h2, if_pos h2]
      exact (if_neg (by omega)).symm
    · rw [if_neg h2, if_neg h2]
def fs_wfl (w : Nat → Int64) (b p : Nat) : Nat → Int64 := fun j => if b ≤ j ∧ j < b + p then -1 else w j
theorem wfl_s (w : Nat → Int64) (b p : Nat) : vp_updL (fs_wfl w b p) (b + p) (-1) = fs_wfl w b (p + 1) := funext fun j => by
  unfold vp_updL fs_wfl
  by_cases h : j = b + p
  · rw [if_pos h, if_pos (by omega)]
  · rw [if_neg h]
    by_cases h2 : b ≤ j ∧ j < b + p
    · rw [if_pos h2, if_pos (by omega)]
    · rw [if_neg h2, if_neg (by omega)]
theorem wfl_8 (w : Nat → Int64) (b : Nat) : fs_wfl w b 8 = fs_wrow w b (fs_w0 8) := funext fun j => by
  unfold fs_wfl fs_wrow fs_w0
  by_cases h2 : b ≤ j ∧ j < b + 8
  · rw [if_pos h2, if_pos h2, if_pos (by omega)]
  · rw [if_neg h2, if_neg h2]
theorem w_fill {A : Nat → Nat} {j75 : Unit → fs_T Int32} {c i rm : Nat} {s : Nat → Int32} {v : Nat → Nat → Int32} {w : Nat → Int64} {Q : Int32 → fs_R → Prop} (h37 : s 37 = Int32.ofNat rm) (hc : c = rm + i) (hc8 : c < 80) (hk : fs_W A (j75 ()) (s, v, fs_wrow w (8 * c) (fs_w0 8)) Q) : ∀ (m fuel p : Nat), p + m = 8 → m < fuel →
    fs_W A (fs_lp1 fuel (lb_Rf_read_42 (A 0) j75 (Int32.ofNat i)) (Int32.ofNat p)) (s, v, fs_wfl w (8 * c) p) Q
  | 0, fuel + 1, p, hp, _ => by
    have hp8 : p = 8 := by omega
    subst hp8
    rw [wfl_8]
    exact w_lp1 <| w_p (by decide) hk
  | m + 1, fuel + 1, p, hp, hf => by
    refine w_lp1 <| w_n (fun z => ?_) <| w_gr 39 rfl <| w_gi 37 rfl <| w_sj (j := 8 * c + p) ?_ (by omega) <| w_m ?_
    · have := (n_le (x := 8) (by decide) (by omega)).mp z
      omega
    · rw [show (s, v, fs_wfl w (8 * c) p).1 37 = Int32.ofNat rm from h37, n_a, ← hc]
      exact n_ma 8 c p
    · rw [ofNat_add1]
      have e : r_sj_ (s, v, fs_wfl w (8 * c) p) (8 * c + p) (-1) = (s, v, fs_wfl w (8 * c) (p + 1)) := Prod.ext rfl (Prod.ext rfl (wfl_s w (8 * c) p))
      rw [e]
      exact w_fill h37 hc hc8 hk m fuel (p + 1) (by omega) (by omega)
  | _, 0, _, _, h => absurd h (Nat.not_lt_zero _)
theorem w_rd1_in {A : Nat → Nat} {u k nf c i0 rm : Nat} {f g : Nat → Int32} {k8 : Int32 → fs_T Int32} {s : Nat → Int32} {v : Nat → Nat → Int32} {w : Nat → Int64} {Q : Int32 → fs_R → Prop} (hb : fs_buf u f (s, v, w)) (hu : u ≤ 64) (hf : fs_by f) (hk : k < 20) (hT : fs_tpl k nf g (s, v, w)) (hg : fs_TG g nf) (h37 : s 37 = Int32.ofNat rm) (hc : c = rm + i0) (hc8 : c < 80) : ∀ (m fuel i p : Nat) (x : Nat → Int64), i + m = nf → m < fuel → p ≤ u → (fs_kf u f g m i (p, 0)).2 = 0 →
    (∀ p1, p1 ≤ u → fs_kf u f g m i (p, 0) = (p1, 0) → fs_vf u f g m i (p, 0) x = ((fs_vf u f g m i (p, 0) x).1, p1, 0) → fs_W A (k8 (Int32.ofNat i0 + 1)) (r_pi_ (s, v, fs_wrow w (8 * c) (fs_vf u f g m i (p, 0) x).1) 47 (Int32.ofNat p1)) Q) →
    fs_W A (fs_lp1 fuel (lb_Rf_read_81 (A 0) (Int32.ofNat k) 1 (Int32.ofNat i0) k8) (Int32.ofNat (8 * k + i))) (r_pi_ (s, v, fs_wrow w (8 * c) x) 47 (Int32.ofNat p)) Q
  | 0, fuel + 1, i, p, x, hi, _, hp, _, hok => by
    have h8 := hg.2.1
    have hie : i = nf := by omega
    subst hie
    refine w_lp1 <| w_gr 30 rfl <| w_ai m30 rfl hk ?_
    rw [show (r_pi_ (s, v, fs_wrow w (8 * c) x) 47 (Int32.ofNat p)).2.1 30 k = Int32.ofNat i from hT.1, show (8 : Int32) * Int32.ofNat k + Int32.ofNat i = Int32.ofNat (8 * k + i) from n_ma 8 k i]
    exact w_p (Int32.le_refl _) <| w_m <| hok p hp rfl rfl
  | m + 1, fuel + 1, i, p, x, hi, hfu, hp, hz, hok => by
    have h8 := hg.2.1
    obtain ⟨⟨l, hl, el⟩, t, ht, et⟩ := hg.2.2 i (by omega)
    have hb2 : fs_buf u f (s, v, fs_wrow w (8 * c) x) := hb
    refine w_lp1 <| w_gr 30 rfl <| w_ai m30 rfl hk ?_
    rw [show (r_pi_ (s, v, fs_wrow w (8 * c) x) 47 (Int32.ofNat p)).2.1 30 k = Int32.ofNat nf from hT.1, show (8 : Int32) * Int32.ofNat k + Int32.ofNat nf = Int32.ofNat (8 * k + nf) from n_ma 8 k nf]
    refine w_n (fun z => ?_) <| w_gr 32 rfl <| w_ai m32 rfl (by omega) ?_
    · have := (n_le (by omega) (by omega)).mp z
      omega
    · rw [show (r_pi_ (s, v, fs_wrow w (8 * c) x) 47 (Int32.ofNat p)).2.1 32 (8 * k + i) = g (6 + 2 * i + 1) from (hT.2 i (by omega)).2]
      have es : fs_kf u f g (m + 1) i (p, 0) = fs_kf u f g m (i + 1) (fs_tf u f (g (6 + 2 * i + 1)) (p, 0)).2 := rfl
      have ev : fs_vf u f g (m + 1) i (p, 0) x = fs_vf u f g m (i + 1) (fs_tf u f (g (6 + 2 * i + 1)) (p, 0)).2 (vp_updL x (g (6 + 2 * i)).toNatClampNeg (fs_tf u f (g (6 + 2 * i + 1)) (p, 0)).1) := rfl
      have htn : (g (6 + 2 * i)).toNatClampNeg = t := by rw [et]; exact Int32.toNatClampNeg_ofNat_of_lt (by omega)
      rw [es] at hz hok
      rw [ev, htn] at hok
      refine w_takek hb2 hu hf hp el hl (fun n p1 hn hp1 e1 => ?_) fun y hy => ?_
      · rw [e1] at hz hok
        refine w_p (j_nn (by omega)) <| w_l <| w_n (by decide) <| w_gr 39 rfl <| w_gi 37 rfl <| w_gr 31 rfl <| w_ai m31 rfl (by omega) ?_
        rw [show (r_pi_ (s, v, fs_wrow w (8 * c) x) 47 (Int32.ofNat p1)).2.1 31 (8 * k + i) = g (6 + 2 * i) from (hT.2 i (by omega)).1, et]
        refine w_sj (j := 8 * c + t) ?_ (by omega) <| w_m ?_
        · rw [show (r_pi_ (s, v, fs_wrow w (8 * c) x) 47 (Int32.ofNat p1)).1 37 = Int32.ofNat rm from h37, n_a, ← hc]
          exact n_ma 8 c t
        · rw [ofNat_add1]
          have e : r_sj_ (r_pi_ (s, v, fs_wrow w (8 * c) x) 47 (Int32.ofNat p1)) (8 * c + t) (Int64.ofNat n) = r_pi_ (s, v, fs_wrow w (8 * c) (vp_updL x t (Int64.ofNat n))) 47 (Int32.ofNat p1) := Prod.ext rfl (Prod.ext rfl (wrow_s w (8 * c) x ht _))
          rw [e]
          exact w_rd1_in hb hu hf hk hT hg h37 hc hc8 m fuel (i + 1) p1 _ (by omega) (by omega) hp1 hz hok
      · have := kf_st (u := u) (f := f) (g := g) m (i + 1) _ hy
        rw [this] at hz
        exact absurd hz (by decide)
  | _, 0, _, _, _, _, h, _, _, _ => absurd h (Nat.not_lt_zero _)
/-- rows put down one after another -/
def fs_pd : fs_Vs → Nat → (Nat → Int32) → (Nat → Int64) → (Nat → Int32) × (Nat → Int64)
  | [], _, a, w => (a, w)
  | q :: l, r, a, w => fs_pd l (r + 1) (upd a r q.1) (fs_wrow w (8 * r) q.2)
set_option maxRecDepth 100000 in
theorem w_rd1_out {A : Nat → Nat} {u k nf n rm : Nat} {f g : Nat → Int32} {s : Nat → Int32} {v : Nat → Nat → Int32} (hu : u ≤ 64) (hu6 : 6 ≤ u) (hf : fs_by f) (hk : k < 20) (hg : fs_TG g nf) (h5 : f 5 = Int32.ofNat n) (hn : n ≤ 255) (h37 : s 37 = Int32.ofNat rm) (hrm : rm + n ≤ 80) : ∀ (m fuel i p : Nat) (a : Nat → Int32) (w : Nat → Int64), fs_buf u f (s, va_up v 38 a, w) → fs_tpl k nf g (s, va_up v 38 a, w) → i + m = n → m < fuel → p ≤ u → fs_kr u f g nf m (p, 0) = (u, 0) →
    fs_W A (fs_lp1 fuel (lb_Rf_read_8 (A 0) (Int32.ofNat k) 1) (Int32.ofNat i)) (r_pi_ (s, va_up v 38 a, w) 47 (Int32.ofNat p)) fun r S1 => r = 1 ∧ ∃ y, S1 = r_pi_ (s, va_up v 38 (fs_pd (fs_mr u f g nf m (p, 0)) (rm + i) a w).1, (fs_pd (fs_mr u f g nf m (p, 0)) (rm + i) a w).2) 47 y
  | 0, fuel + 1, i, p, a, w, hb, hT, hi, _, hp, hkr => by
    have hpu : p = u := congrArg Prod.fst hkr
    subst hpu
    refine w_lp1 <| w_gr 46 rfl <| w_ai (j := 5) m46 rfl (by decide) ?_
    rw [show (r_pi_ (s, va_up v 38 a, w) 47 (Int32.ofNat p)).2.1 46 5 = Int32.ofNat n from (hb.2 5 (by omega)).trans h5]
    refine w_p ((n_le (by omega) (by omega)).mpr (by omega)) <| w_gi 47 rfl <| w_gi 45 rfl ?_
    rw [show (r_pi_ (s, va_up v 38 a, w) 47 (Int32.ofNat p)).1 47 = Int32.ofNat p from up_hit s 47 _, show (r_pi_ (s, va_up v 38 a, w) 47 (Int32.ofNat p)).1 45 = Int32.ofNat p from hb.1]
    exact w_p rfl <| w_rz (Or.inr rfl) ⟨rfl, _, rfl⟩
  | m + 1, fuel + 1, i, p, a, w, hb, hT, hi, hfu, hp, hkr => by
    have h8 := hg.2.1
    have es : fs_kr u f g nf (m + 1) (p, 0) = fs_kr u f g nf m (fs_kf u f g nf 0 (p, 0)) := rfl
    have em : fs_mr u f g nf (m + 1) (p, 0) = (f 0, (fs_vf u f g nf 0 (p, 0) (fs_w0 8)).1) :: fs_mr u f g nf m (fs_vf u f g nf 0 (p, 0) (fs_w0 8)).2 := rfl
    rw [es] at hkr
    have hz : (fs_kf u f g nf 0 (p, 0)).2 = 0 := by
      rcases kf_01 hf hu hg nf 0 p (by omega) hp with ⟨p1, -, e1⟩ | e1
      · rw [e1]
      · have := kr_st (u := u) (f := f) (g := g) (nf := nf) m _ e1
        rw [hkr] at this
        exact absurd (show (0 : Int32) = 1 from this) (by decide)
    refine w_lp1 <| w_gr 46 rfl <| w_ai (j := 5) m46 rfl (by decide) ?_
    rw [show (r_pi_ (s, va_up v 38 a, w) 47 (Int32.ofNat p)).2.1 46 5 = Int32.ofNat n from (hb.2 5 (by omega)).trans h5]
    refine w_n (fun z => ?_) <| w_l <| w_n (by decide) <| w_gr 38 rfl <| w_gi 37 rfl <| w_gr 46 rfl <| w_ai (j := 0) m46 rfl (by decide) ?_
    · have := (n_le (by omega) (by omega)).mp z
      omega
    · rw [show (r_pi_ (s, va_up v 38 a, w) 47 (Int32.ofNat p)).2.1 46 0 = f 0 from hb.2 0 (by omega), show (r_pi_ (s, va_up v 38 a, w) 47 (Int32.ofNat p)).1 37 = Int32.ofNat rm from h37]
      refine w_si m38 (n_a rm i) (by omega) ?_
      have e1 : r_si_ (r_pi_ (s, va_up v 38 a, w) 47 (Int32.ofNat p)) 38 (rm + i) (f 0) = (upd s 47 (Int32.ofNat p), va_up v 38 (upd a (rm + i) (f 0)), fs_wfl w (8 * (rm + i)) 0) := by
        refine Prod.ext rfl (Prod.ext (funext fun k => ?_) (funext fun j => (if_neg (by omega)).symm))
        by_cases h38 : k = 38
        · subst h38
          rfl
        · simp [r_si_, r_pi_, va_up, h38]
      rw [e1]
      refine w_fill (rm := rm) (s := upd s 47 (Int32.ofNat p)) (j75 := fun _ => fs_nm ((8 * Int32.ofNat k) : Int32) fun v14 => fs_lp1 4096 (lb_Rf_read_81 (A 0) (Int32.ofNat k) 1 (Int32.ofNat i) (fs_lp1 fuel (lb_Rf_read_8 (A 0) (Int32.ofNat k) 1))) v14) h37 rfl (by omega) ?_ 8 4096 0 rfl (by decide)
      refine w_m ?_
      rw [show (8 : Int32) * Int32.ofNat k = Int32.ofNat (8 * k + 0) from n_m 8 k]
      have hb3 : fs_buf u f (s, va_up v 38 (upd a (rm + i) (f 0)), w) := hb
      have hT3 : fs_tpl k nf g (s, va_up v 38 (upd a (rm + i) (f 0)), w) := hT
      refine w_rd1_in (s := s) (v := va_up v 38 (upd a (rm + i) (f 0))) (w := w) hb3 hu hf hk hT3 hg h37 rfl (by omega) nf 4096 0 p (fs_w0 8) (by omega) (by omega) hp hz fun p1 hp1 e2 e3 => ?_
      rw [ofNat_add1]
      rw [e2] at hkr
      refine w_mono (w_rd1_out hu hu6 hf hk hg h5 hn h37 hrm m fuel (i + 1) p1 (upd a (rm + i) (f 0)) (fs_wrow w (8 * (rm + i)) (fs_vf u f g nf 0 (p, 0) (fs_w0 8)).1) hb3 hT3 (by omega) (by omega) hp1 hkr) fun r S1 ⟨g1, y, g2⟩ => ⟨g1, y, ?_⟩
      rw [g2, em, e3]
      rfl
  | _, 0, _, _, _, _, _, _, _, h, _, _ => absurd h (Nat.not_lt_zero _)
