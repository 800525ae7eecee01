/-! rows made, a report off the shelf: in the reference -/
theorem cr_iff {u n nf : Nat} {f g : Nat → Int32} : fs_cr u f g nf n = true ↔ fs_kr u f g nf n (7, 0) = (u, 0) := by
  unfold fs_cr
  rw [decide_eq_true_iff]
  exact ⟨fun ⟨a, b⟩ => Prod.ext b a, fun e => by rw [e]; exact ⟨rfl, rfl⟩⟩
set_option maxRecDepth 100000 in
theorem w_mkk {β : Type} {A : Nat → Nat} {u k nf n rm : Nat} {f g : Nat → Int32} {S : fs_R} {K : Int32 → fs_T β} {Q : β → fs_R → Prop} (hb : fs_buf u f S) (hu : u ≤ 64) (hu7 : 7 ≤ u) (hf : fs_by f) (hk : k < 20) (hT : fs_tpl k nf g S) (hg : fs_TG g nf) (h5 : f 5 = Int32.ofNat n) (hn : n ≤ 255) (h37 : S.1 37 = Int32.ofNat rm) (hrm : fs_cr u f g nf n = true → rm + n ≤ 80)
    (hok : ∀ y, fs_cr u f g nf n = true → fs_W A (K (Int32.ofNat n)) (r_pi_ (r_pi_ (S.1, va_up S.2.1 38 (fs_pd (fs_mr u f g nf n (7, 0)) rm (S.2.1 38) S.2.2).1, (fs_pd (fs_mr u f g nf n (7, 0)) rm (S.2.1 38) S.2.2).2) 47 y) 37 (Int32.ofNat (rm + n))) Q) (hbad : ∀ y, fs_cr u f g nf n = false → fs_W A (K (-1)) (r_pi_ S 47 y) Q) : fs_W A (fs_bind (fs_cv (A 0) 12 (f_Rf_makeRows (A 0) (Int32.ofNat k))) K) S Q := by
  refine w_b (P := fun r S1 => (fs_cr u f g nf n = true ∧ r = Int32.ofNat n ∧ ∃ y, S1 = r_pi_ (r_pi_ (S.1, va_up S.2.1 38 (fs_pd (fs_mr u f g nf n (7, 0)) rm (S.2.1 38) S.2.2).1, (fs_pd (fs_mr u f g nf n (7, 0)) rm (S.2.1 38) S.2.2).2) 47 y) 37 (Int32.ofNat (rm + n))) ∨ (fs_cr u f g nf n = false ∧ r = -1 ∧ ∃ y, S1 = r_pi_ S 47 y)) (w_cv <| w_read0k hb hu hu7 hf hk hT hg h5 hn (fun y e1 => ?_) fun y e1 => ?_) fun r S1 h => by
    rcases h with ⟨a, rfl, y, rfl⟩ | ⟨a, rfl, y, rfl⟩
    · exact hok y a
    · exact hbad y a
  · have hcr := cr_iff.mpr e1
    have hrm2 := hrm hcr
    refine w_n (by decide) ?_
    have es : r_pi_ S 47 y = (upd S.1 47 y, va_up S.2.1 38 (S.2.1 38), S.2.2) := by
      have := r_self (r_pi_ S 47 y) 38
      exact this
    refine w_b (P := fun r S1 => r = 1 ∧ ∃ y, S1 = r_pi_ (upd S.1 47 0, va_up S.2.1 38 (fs_pd (fs_mr u f g nf n (7, 0)) rm (S.2.1 38) S.2.2).1, (fs_pd (fs_mr u f g nf n (7, 0)) rm (S.2.1 38) S.2.2).2) 47 y) (w_cv <| w_pi 47 rfl (by decide) ?_) fun r S1 ⟨a, y1, e⟩ => ?_
    · rw [pi_pi]
      have e2 : r_pi_ S 47 7 = r_pi_ (upd S.1 47 0, va_up S.2.1 38 (S.2.1 38), S.2.2) 47 (Int32.ofNat 7) := by
        have h1 : r_pi_ (upd S.1 47 0, va_up S.2.1 38 (S.2.1 38), S.2.2) 47 (Int32.ofNat 7) = r_pi_ (r_pi_ (S.1, va_up S.2.1 38 (S.2.1 38), S.2.2) 47 0) 47 (Int32.ofNat 7) := rfl
        rw [h1, pi_pi, ← r_self S 38]
        rfl
      rw [e2]
      have hb2 : fs_buf u f (upd S.1 47 0, va_up S.2.1 38 (S.2.1 38), S.2.2) := ⟨hb.1, fun i hi => hb.2 i hi⟩
      have hT2 : fs_tpl k nf g (upd S.1 47 0, va_up S.2.1 38 (S.2.1 38), S.2.2) := hT
      refine w_mono (w_rd1_out (s := upd S.1 47 0) (v := S.2.1) hu (by omega) hf hk hg h5 hn h37 hrm2 n 4096 0 7 (S.2.1 38) S.2.2 hb2 hT2 (by omega) (by omega) hu7 e1) fun r S1 ⟨g1, y, g2⟩ => ⟨g1, y, g2⟩
    · subst a
      subst e
      refine w_gi 37 rfl <| w_gr 46 rfl <| w_ai (j := 5) m46 rfl (by decide) ?_
      rw [show (r_pi_ (upd S.1 47 0, va_up S.2.1 38 (fs_pd (fs_mr u f g nf n (7, 0)) rm (S.2.1 38) S.2.2).1, (fs_pd (fs_mr u f g nf n (7, 0)) rm (S.2.1 38) S.2.2).2) 47 y1).1 37 = Int32.ofNat rm from h37, show (r_pi_ (upd S.1 47 0, va_up S.2.1 38 (fs_pd (fs_mr u f g nf n (7, 0)) rm (S.2.1 38) S.2.2).1, (fs_pd (fs_mr u f g nf n (7, 0)) rm (S.2.1 38) S.2.2).2) 47 y1).2.1 46 5 = Int32.ofNat n from (hb.2 5 (by omega)).trans h5, n_a]
      refine w_pi 37 rfl (by decide) <| w_n (by decide) <| w_gr 46 rfl <| w_ai (j := 5) m46 rfl (by decide) <| w_ret (Or.inl ⟨hcr, ?_, y1, ?_⟩)
      · exact (hb.2 5 (by omega)).trans h5
      · have h1 : r_pi_ (upd S.1 47 0, va_up S.2.1 38 (fs_pd (fs_mr u f g nf n (7, 0)) rm (S.2.1 38) S.2.2).1, (fs_pd (fs_mr u f g nf n (7, 0)) rm (S.2.1 38) S.2.2).2) 47 y1 = r_pi_ (r_pi_ (S.1, va_up S.2.1 38 (fs_pd (fs_mr u f g nf n (7, 0)) rm (S.2.1 38) S.2.2).1, (fs_pd (fs_mr u f g nf n (7, 0)) rm (S.2.1 38) S.2.2).2) 47 0) 47 y1 := rfl
        rw [h1, pi_pi]
  · refine w_p rfl <| w_ret (Or.inr ⟨?_, rfl, y, rfl⟩)
    cases hc : fs_cr u f g nf n with
    | false => rfl
    | true =>
      have := cr_iff.mp hc
      exact absurd (by rw [this]; exact ⟨rfl, rfl⟩) e1
/-! off the shelf -/
def fs_s64 (f : Nat → Int32) (a q : Nat) : Nat → Int32 := fun j => if a ≤ j ∧ j < q then f (j + 64) else f j
theorem s64_s (f : Nat → Int32) {a q : Nat} (h : a ≤ q) : upd (fs_s64 f a q) q (fs_s64 f a q (q + 64)) = fs_s64 f a (q + 1) := funext fun j => by
  unfold upd fs_s64
  by_cases hj : j = q
  · rw [if_pos hj, if_neg (by omega), if_pos (by omega), hj]
  · rw [if_neg hj]
    by_cases h2 : a ≤ j ∧ j < q
    · rw [if_pos h2, if_pos (by omega)]
    · rw [if_neg h2, if_neg (by omega)]
def fs_us (v : Nat → Nat → Int32) (i p q : Nat) : Nat → Nat → Int32 := va_up (va_up v 34 (fs_sh1 (v 34) i p)) 35 (fs_s64 (v 35) (64 * i) q)
theorem w_us_in {A : Nat → Nat} {i k : Nat} {k12 : Int32 → fs_T Unit} {s : Nat → Int32} {v : Nat → Nat → Int32} {w : Nat → Int64} {Q : Unit → fs_R → Prop} (hk5 : k < 5) (hik : i ≤ k) (hq : fs_W A (k12 (Int32.ofNat k + 1)) (s, fs_us v i (k + 1) (64 * k + 64), w) Q) : ∀ (m fuel j : Nat), j + m = 64 → m < fuel →
    fs_W A (fs_lp1 fuel (lb_Rf_unshelve_36 (A 0) (Int32.ofNat k) k12) (Int32.ofNat j)) (s, fs_us v i (k + 1) (64 * k + j), w) Q
  | 0, fuel + 1, j, hj, _ => by
    have h64 : j = 64 := by omega
    subst h64
    exact w_lp1 <| w_p (by decide) <| w_m hq
  | m + 1, fuel + 1, j, hj, hf => by
    refine w_lp1 <| w_n (fun z => ?_) <| w_gr 35 rfl <| w_gr 35 rfl <| w_ai (j := 64 * k + j + 64) m35 ?_ (by omega) <| w_si m35 (n_ma 64 k j) (by omega) <| w_m ?_
    · have := (n_le (x := 64) (by decide) (by omega)).mp z
      omega
    · rw [show (64 : Int32) * Int32.ofNat k = Int32.ofNat (64 * k) from n_m 64 k, show (64 : Int32) = Int32.ofNat 64 by decide, n_a, n_a]
      congr 1
      omega
    · rw [ofNat_add1]
      have e : r_si_ (s, fs_us v i (k + 1) (64 * k + j), w) 35 (64 * k + j) ((s, fs_us v i (k + 1) (64 * k + j), w).2.1 35 (64 * k + j + 64)) = (s, fs_us v i (k + 1) (64 * k + (j + 1)), w) := by
        refine Prod.ext rfl (Prod.ext (funext fun k' => ?_) rfl)
        by_cases h35 : k' = 35
        · subst h35
          exact s64_s (v 35) (by omega)
        · simp [r_si_, va_up, fs_us, h35]
      rw [e]
      exact w_us_in hk5 hik hq m fuel (j + 1) (by omega) (by omega)
  | _, 0, _, _, h => absurd h (Nat.not_lt_zero _)
set_option maxRecDepth 100000 in
theorem w_us_out {A : Nat → Nat} {i n : Nat} {s : Nat → Int32} {v : Nat → Nat → Int32} {w : Nat → Int64} (hn : n ≤ 5) (h33 : s 33 = Int32.ofNat n) : ∀ (m fuel k : Nat), k + m = n → m < fuel → i ≤ k →
    fs_W A (fs_lp1 fuel (lb_Rf_unshelve_12 (A 0)) (Int32.ofNat k)) (s, fs_us v i k (64 * k), w) fun _ S1 => S1 = (s, fs_us v i n (64 * n), w)
  | 0, fuel + 1, k, hk, _, _ => by
    have hkn : k = n := by omega
    subst hkn
    refine w_lp1 <| w_gi 33 rfl ?_
    rw [show (s, fs_us v i k (64 * k), w).1 33 = Int32.ofNat k from h33]
    exact w_p (Int32.le_refl _) <| w_ret rfl
  | m + 1, fuel + 1, k, hk, hf, hik => by
    refine w_lp1 <| w_gi 33 rfl ?_
    rw [show (s, fs_us v i k (64 * k), w).1 33 = Int32.ofNat n from h33]
    refine w_n (fun z => ?_) <| w_gr 34 rfl <| w_gr 34 rfl <| w_ai m34 (ofNat_add1 k) (by omega) <| w_si m34 rfl (by omega) ?_
    · have := (n_le (by omega) (by omega)).mp z
      omega
    · have e : r_si_ (s, fs_us v i k (64 * k), w) 34 k ((s, fs_us v i k (64 * k), w).2.1 34 (k + 1)) = (s, fs_us v i (k + 1) (64 * k + 0), w) := by
        refine Prod.ext rfl (Prod.ext (funext fun k' => ?_) rfl)
        by_cases h34 : k' = 34
        · subst h34
          exact sh1_s (v 34) hik
        · by_cases h35 : k' = 35
          · subst h35
            rfl
          · simp [r_si_, va_up, fs_us, h34, h35]
      rw [e]
      refine w_us_in (k12 := fs_lp1 fuel (lb_Rf_unshelve_12 (A 0))) (by omega) hik ?_ 64 4096 0 rfl (by decide)
      rw [ofNat_add1, show 64 * k + 64 = 64 * (k + 1) by omega]
      exact w_us_out hn h33 m fuel (k + 1) (by omega) (by omega) (by omega)
  | _, 0, _, _, h, _ => absurd h (Nat.not_lt_zero _)
theorem us_0 (v : Nat → Nat → Int32) (i : Nat) : fs_us v i i (64 * i) = v := funext fun k => by
  unfold fs_us
  have e1 : fs_s64 (v 35) (64 * i) (64 * i) = v 35 := funext fun j => if_neg (by omega)
  rw [e1, sh1_0]
  unfold va_up
  by_cases h35 : k = 35
  · rw [if_pos h35, h35]
  · rw [if_neg h35]
    by_cases h34 : k = 34
    · rw [if_pos h34, h34]
    · rw [if_neg h34]
def fs_usS (S : fs_R) (i n : Nat) : fs_R := (upd S.1 33 (Int32.ofNat n), fs_us S.2.1 i n (64 * n), S.2.2)
set_option maxRecDepth 100000 in
theorem w_usk {β : Type} {A : Nat → Nat} {i : Nat} {Sh : List fs_Rp} {S : fs_R} {K : Unit → fs_T β} {Q : β → fs_R → Prop} (hS : fs_sf Sh S) (hl : Sh.length ≤ 5) (hi : i < Sh.length) (hk : fs_W A (K ()) (fs_usS S i (Sh.length - 1)) Q) : fs_W A (fs_bind (fs_cv (A 0) 12 (f_Rf_unshelve (A 0) (Int32.ofNat i))) K) S Q := by
  refine w_b (P := fun _ S1 => S1 = fs_usS S i (Sh.length - 1)) (w_cv <| w_gi 33 rfl ?_) fun r S1 e => by
    subst e
    exact hk
  rw [hS.1, ofNat_sub1 (by omega)]
  refine w_pi 33 rfl (by decide) ?_
  have e : r_pi_ S 33 (Int32.ofNat (Sh.length - 1)) = (upd S.1 33 (Int32.ofNat (Sh.length - 1)), fs_us S.2.1 i i (64 * i), S.2.2) := by
    rw [us_0]
    rfl
  rw [e]
  exact w_us_out (by omega) (up_hit _ _ _) (Sh.length - 1 - i) 4096 i (by omega) (by omega) (Nat.le_refl _)
theorem sf_us {i : Nat} {Sh : List fs_Rp} {S : fs_R} (hS : fs_sf Sh S) (hl : Sh.length ≤ 5) (hi : i < Sh.length) (hu : ∀ R ∈ Sh, R.2.2.1 ≤ 64) : fs_sf (Sh.eraseIdx i) (fs_usS S i (Sh.length - 1)) := by
  have hlen : (Sh.eraseIdx i).length = Sh.length - 1 := by rw [List.length_eraseIdx, if_pos hi]
  refine ⟨by rw [hlen]; exact up_hit S.1 33 _, fun j R hR => ?_⟩
  have hj := (List.getElem?_eq_some_iff.mp hR).1
  rw [hlen] at hj
  rw [List.getElem?_eraseIdx] at hR
  show fs_sh1 (S.2.1 34) i (Sh.length - 1) j = _ ∧ ∀ t, t < R.2.2.1 → fs_s64 (S.2.1 35) (64 * i) (64 * (Sh.length - 1)) (64 * j + t) = _
  unfold fs_sh1 fs_s64
  by_cases hji : j < i
  · rw [if_pos hji] at hR
    have h64 := hu R (List.mem_of_getElem? hR)
    obtain ⟨a, b⟩ := hS.2 j R hR
    rw [if_neg (by omega)]
    refine ⟨a, fun t ht => ?_⟩
    rw [if_neg (by omega)]
    exact b t ht
  · rw [if_neg hji] at hR
    have h64 := hu R (List.mem_of_getElem? hR)
    obtain ⟨a, b⟩ := hS.2 (j + 1) R hR
    rw [if_pos (by omega)]
    refine ⟨a, fun t ht => ?_⟩
    rw [if_pos (by omega), show 64 * j + t + 64 = 64 * (j + 1) + t by omega]
    exact b t ht
