/-! names of templates, in the reference -/
def fs_nme (f : Nat → Int32) : Int32 := (((f 0 <<< (24 &&& 31)) ||| (f 1 <<< (16 &&& 31))) ||| (f 3 <<< (8 &&& 31))) ||| f 4
def fs_ng (f : Nat → Int32) : Prop := (f 0 = 0 ∨ f 0 = 1) ∧ fs_by f
theorem nm_n {a b c d : Nat} (hb : b ≤ 255) (hc : c ≤ 255) (hd : d ≤ 255) : ((a <<< 24 ||| b <<< 16) ||| c <<< 8) ||| d = 16777216 * a + 65536 * b + 256 * c + d := by
  have h1 := Nat.two_pow_add_eq_or_of_lt (i := 24) (b := 65536 * b) (by omega) a
  have h2 := Nat.two_pow_add_eq_or_of_lt (i := 16) (b := 256 * c) (by omega) (256 * a + b)
  have h3 := Nat.two_pow_add_eq_or_of_lt (i := 8) (b := d) (by omega) (65536 * a + 256 * b + c)
  rw [Nat.shiftLeft_eq, Nat.shiftLeft_eq, Nat.shiftLeft_eq]
  rw [show a * 2 ^ 24 = 2 ^ 24 * a by omega, show b * 2 ^ 16 = 65536 * b by omega, ← h1, show 2 ^ 24 * a + 65536 * b = 2 ^ 16 * (256 * a + b) by omega, show c * 2 ^ 8 = 256 * c by omega, ← h2, show 2 ^ 16 * (256 * a + b) + 256 * c = 2 ^ 8 * (65536 * a + 256 * b + c) by omega, ← h3]
theorem nm_eq {f : Nat → Int32} (h : fs_ng f) : ∃ a b c d, a ≤ 1 ∧ b ≤ 255 ∧ c ≤ 255 ∧ d ≤ 255 ∧ f 0 = Int32.ofNat a ∧ f 1 = Int32.ofNat b ∧ f 3 = Int32.ofNat c ∧ f 4 = Int32.ofNat d ∧ fs_nme f = Int32.ofNat (16777216 * a + 65536 * b + 256 * c + d) := by
  obtain ⟨h0, hby⟩ := h
  obtain ⟨a, ha, ea⟩ : ∃ a, a ≤ 1 ∧ f 0 = Int32.ofNat a := by
    rcases h0 with h0 | h0
    · exact ⟨0, by decide, h0⟩
    · exact ⟨1, by decide, h0⟩
  obtain ⟨b, hb, eb⟩ := hby 1
  obtain ⟨c, hc, ec⟩ := hby 3
  obtain ⟨d, hd, ed⟩ := hby 4
  refine ⟨a, b, c, d, ha, hb, hc, hd, ea, eb, ec, ed, ?_⟩
  unfold fs_nme
  rw [ea, eb, ec, ed, show ((24 : Int32) &&& 31) = Int32.ofNat 24 by decide, show ((16 : Int32) &&& 31) = Int32.ofNat 16 by decide, show ((8 : Int32) &&& 31) = Int32.ofNat 8 by decide, n_shl a (by decide), n_shl b (by decide), n_shl c (by decide), n_or, n_or, n_or, nm_n hb hc hd]
theorem nm_inj {f g : Nat → Int32} (h : fs_ng f) (k : fs_ng g) : fs_nme f = fs_nme g ↔ fs_sb f g = true := by
  obtain ⟨a, b, c, d, ha, hb, hc, hd, ea, eb, ec, ed, e⟩ := nm_eq h
  obtain ⟨a2, b2, c2, d2, ha2, hb2, hc2, hd2, ea2, eb2, ec2, ed2, e2⟩ := nm_eq k
  unfold fs_sb
  rw [e, e2, decide_eq_true_iff, ea, eb, ec, ed, ea2, eb2, ec2, ed2]
  constructor
  · intro z
    have := n_inj (by omega) (by omega) z
    have h1 : a = a2 := by omega
    have h2 : b = b2 := by omega
    have h3 : c = c2 := by omega
    have h4 : d = d2 := by omega
    rw [h1, h2, h3, h4]
    exact ⟨rfl, rfl, rfl, rfl⟩
  · intro ⟨z1, z2, z3, z4⟩
    rw [n_inj (by omega) (by omega) z1, n_inj (by omega) (by omega) z2, n_inj (by omega) (by omega) z3, n_inj (by omega) (by omega) z4]
theorem w_nameOf {β : Type} {A : Nat → Nat} {u : Nat} {f : Nat → Int32} {S : fs_R} {K : Int32 → fs_T β} {Q : β → fs_R → Prop} (hb : fs_buf u f S) (hu : 5 ≤ u) (hk : fs_W A (K (fs_nme f)) S Q) : fs_W A (fs_bind (fs_cv (A 0) 12 (f_Rf_nameOf (A 0))) K) S Q := by
  refine w_b (P := fun r S1 => S1 = S ∧ r = fs_nme f) (w_cv ?_) fun r S1 ⟨e1, e2⟩ => by
    subst e1
    subst e2
    exact hk
  refine w_gr 46 rfl <| w_ai (j := 0) m46 rfl (by decide) <| w_gr 46 rfl <| w_ai (j := 1) m46 rfl (by decide) <| w_gr 46 rfl <| w_ai (j := 3) m46 rfl (by decide) <| w_gr 46 rfl <| w_ai (j := 4) m46 rfl (by decide) <| w_ret ⟨rfl, ?_⟩
  rw [hb.2 0 (by omega), hb.2 1 (by omega), hb.2 3 (by omega), hb.2 4 (by omega)]
  rfl
def fs_kn (K : List fs_Rp) (S : fs_R) : Prop := S.1 28 = Int32.ofNat K.length ∧ ∀ k T, K[k]? = some T → S.2.1 29 k = fs_nme T.2.2.2 ∧ S.2.1 30 k = T.2.2.2 5 ∧ ∀ j, j < (T.2.2.2 5).toNatClampNeg → S.2.1 31 (8 * k + j) = T.2.2.2 (6 + 2 * j) ∧ S.2.1 32 (8 * k + j) = T.2.2.2 (6 + 2 * j + 1)
theorem w_find_loop {A : Nat → Nat} {g : Nat → Int32} {K : List fs_Rp} {S : fs_R} (hK : fs_kn K S) (hl : K.length ≤ 20) (hg : fs_ng g) (hKg : ∀ T ∈ K, fs_ng T.2.2.2) : ∀ (l : List fs_Rp) (fuel i : Nat), K.drop i = l → i ≤ K.length → l.length < fuel →
    fs_W A (fs_lp1 fuel (lb_Rf_find_2 (A 0) (fs_nme g)) (Int32.ofNat i)) S fun r S1 => S1 = S ∧ r = fs_o32 (fs_kt g l i)
  | [], fuel + 1, i, h1, h2, _ => by
    have : K.length ≤ i := List.drop_eq_nil_iff.mp h1
    refine w_lp1 <| w_gi 28 rfl ?_
    rw [hK.1]
    exact w_p ((n_le (by omega) (by omega)).mpr this) <| w_ret ⟨rfl, rfl⟩
  | T :: l, fuel + 1, i, h1, h2, h3 => by
    have hi : i < K.length := by
      have := congrArg List.length h1
      rw [List.length_drop, List.length_cons] at this
      omega
    have hq : K[i]? = some T := by
      have := congrArg (fun z : List fs_Rp => z[0]?) h1
      simpa using this
    have hd : K.drop (i + 1) = l := by
      have := congrArg List.tail h1
      simpa using this
    have es : fs_kt g (T :: l) i = if fs_sb T.2.2.2 g = true then some i else fs_kt g l (i + 1) := rfl
    have hnm := nm_inj (hKg T (List.mem_of_getElem? hq)) hg
    refine w_lp1 <| w_gi 28 rfl ?_
    rw [hK.1]
    refine w_n (fun z => ?_) <| w_gr 29 rfl <| w_ai m29 rfl (by omega) ?_
    · have := (n_le (by omega) (by omega)).mp z
      omega
    · rw [(hK.2 i T hq).1]
      refine w_i (fun z => w_ret ⟨rfl, ?_⟩) fun z => w_m ?_
      · rw [es, if_pos (hnm.mp z)]
        rfl
      · rw [ofNat_add1]
        refine w_mono (w_find_loop hK hl hg hKg l fuel (i + 1) hd (by omega) (by simp at h3; omega)) fun r S1 ⟨a, b⟩ => ⟨a, ?_⟩
        rw [b, es, if_neg (fun w => z (hnm.mpr w))]
  | _, 0, _, _, _, h => absurd h (Nat.not_lt_zero _)
set_option maxRecDepth 100000 in
theorem w_findk {β : Type} {A : Nat → Nat} {g : Nat → Int32} {K : List fs_Rp} {S : fs_R} {C : Int32 → fs_T β} {Q : β → fs_R → Prop} (hK : fs_kn K S) (hl : K.length ≤ 20) (hg : fs_ng g) (hKg : ∀ T ∈ K, fs_ng T.2.2.2) (hk : fs_W A (C (fs_o32 (fs_kt g K 0))) S Q) : fs_W A (fs_bind (fs_cv (A 0) 12 (f_Rf_find (A 0) (fs_nme g))) C) S Q := by
  refine w_b (P := fun r S1 => S1 = S ∧ r = fs_o32 (fs_kt g K 0)) (w_cv ?_) fun r S1 ⟨e1, e2⟩ => by
    subst e1
    subst e2
    exact hk
  exact w_find_loop hK hl hg hKg K 4096 0 rfl (Nat.zero_le _) (by omega)
def fs_sf (Sh : List fs_Rp) (S : fs_R) : Prop := S.1 33 = Int32.ofNat Sh.length ∧ ∀ i R, Sh[i]? = some R → S.2.1 34 i = Int32.ofNat R.2.2.1 ∧ ∀ j, j < R.2.2.1 → S.2.1 35 (64 * i + j) = R.2.2.2 j
theorem w_wait_loop {A : Nat → Nat} {g : Nat → Int32} {Sh : List fs_Rp} {S : fs_R} (hS : fs_sf Sh S) (hl : Sh.length ≤ 5) (hg : fs_ng g) (hSg : ∀ R ∈ Sh, fs_ng R.2.2.2 ∧ 7 ≤ R.2.2.1) : ∀ (l : List fs_Rp) (fuel i : Nat) (t : Int32), Sh.drop i = l → i ≤ Sh.length → l.length < fuel →
    fs_W A (fs_lp2 fuel (lb_Rf_waiting_4 (A 0) (fs_nme g)) t (Int32.ofNat i)) S fun r S1 => S1 = S ∧ r = fs_rw g l t
  | [], fuel + 1, i, t, h1, h2, _ => by
    have : Sh.length ≤ i := List.drop_eq_nil_iff.mp h1
    refine w_lp2 <| w_gi 33 rfl ?_
    rw [hS.1]
    exact w_p ((n_le (by omega) (by omega)).mpr this) <| w_ret ⟨rfl, rfl⟩
  | R :: l, fuel + 1, i, t, h1, h2, h3 => by
    have hi : i < Sh.length := by
      have := congrArg List.length h1
      rw [List.length_drop, List.length_cons] at this
      omega
    have hq : Sh[i]? = some R := by
      have := congrArg (fun z : List fs_Rp => z[0]?) h1
      simpa using this
    have hd : Sh.drop (i + 1) = l := by
      have := congrArg List.tail h1
      simpa using this
    have es : fs_rw g (R :: l) t = fs_rw g l (if fs_sb R.2.2.2 g = true then t + R.2.2.2 5 else t) := rfl
    obtain ⟨gR, u7⟩ := hSg R (List.mem_of_getElem? hq)
    have hnm := nm_inj gR hg
    obtain ⟨-, rd⟩ := hS.2 i R hq
    have e64 : (64 : Int32) * Int32.ofNat i = Int32.ofNat (64 * i + 0) := n_m 64 i
    have ek : ∀ k : Nat, (64 : Int32) * Int32.ofNat i + Int32.ofNat k = Int32.ofNat (64 * i + k) := fun k => n_ma 64 i k
    refine w_lp2 <| w_gi 33 rfl ?_
    rw [hS.1]
    refine w_n (fun z => ?_) <| w_gr 35 rfl <| w_ai m35 e64 (by omega) <| w_gr 35 rfl <| w_ai m35 (ek 1) (by omega) <| w_gr 35 rfl <| w_ai m35 (ek 3) (by omega) <| w_gr 35 rfl <| w_ai m35 (ek 4) (by omega) <| w_m <| w_l ?_
    · have := (n_le (by omega) (by omega)).mp z
      omega
    · rw [rd 0 (by omega), rd 1 (by omega), rd 3 (by omega), rd 4 (by omega)]
      refine w_i (fun z => w_gr 35 rfl <| w_ai m35 (ek 5) (by omega) <| w_m <| w_m ?_) fun z => w_m <| w_m ?_
      · rw [rd 5 (by omega), ofNat_add1]
        refine w_mono (w_wait_loop hS hl hg hSg l fuel (i + 1) (t + R.2.2.2 5) hd (by omega) (by simp at h3; omega)) fun r S1 ⟨a, b⟩ => ⟨a, ?_⟩
        rw [b, es, if_pos (hnm.mp z)]
      · rw [ofNat_add1]
        refine w_mono (w_wait_loop hS hl hg hSg l fuel (i + 1) (t + 0) hd (by omega) (by simp at h3; omega)) fun r S1 ⟨a, b⟩ => ⟨a, ?_⟩
        rw [b, es, if_neg (fun w => z (hnm.mpr w)), Int32.add_zero]
  | _, 0, _, _, _, _, h => absurd h (Nat.not_lt_zero _)
set_option maxRecDepth 100000 in
theorem w_waitk {β : Type} {A : Nat → Nat} {g : Nat → Int32} {Sh : List fs_Rp} {S : fs_R} {C : Int32 → fs_T β} {Q : β → fs_R → Prop} (hS : fs_sf Sh S) (hl : Sh.length ≤ 5) (hg : fs_ng g) (hSg : ∀ R ∈ Sh, fs_ng R.2.2.2 ∧ 7 ≤ R.2.2.1) (hk : fs_W A (C (fs_rw g Sh 0)) S Q) : fs_W A (fs_bind (fs_cv (A 0) 12 (f_Rf_waiting (A 0) (fs_nme g))) C) S Q := by
  refine w_b (P := fun r S1 => S1 = S ∧ r = fs_rw g Sh 0) (w_cv ?_) fun r S1 ⟨e1, e2⟩ => by
    subst e1
    subst e2
    exact hk
  exact w_wait_loop hS hl hg hSg Sh 4096 0 0 rfl (Nat.zero_le _) (by omega)
/-- a report copied into the buffer -/
def fs_cpb (f g : Nat → Int32) (p : Nat) : Nat → Int32 := fun j => if j < p then g j else f j
theorem cpb_s (f g : Nat → Int32) (p : Nat) : upd (fs_cpb f g p) p (g p) = fs_cpb f g (p + 1) := funext fun j => by
  unfold upd fs_cpb
  by_cases h : j = p
  · rw [if_pos h, if_pos (by omega), h]
  · rw [if_neg h]
    by_cases h2 : j < p
    · rw [if_pos h2, if_pos (by omega)]
    · rw [if_neg h2, if_neg (by omega)]
theorem cpb_st (s : Nat → Int32) (v : Nat → Nat → Int32) (w : Nat → Int64) (g : Nat → Int32) (p : Nat) : r_si_ (s, va_up v 46 (fs_cpb (v 46) g p), w) 46 p (g p) = (s, va_up v 46 (fs_cpb (v 46) g (p + 1)), w) := by
  refine Prod.ext rfl (Prod.ext (funext fun k => ?_) rfl)
  by_cases h : k = 46
  · subst h
    exact cpb_s (v 46) g p
  · simp [r_si_, va_up, h]
theorem w_fetch_loop {A : Nat → Nat} {i u : Nat} {g : Nat → Int32} {s : Nat → Int32} {v : Nat → Nat → Int32} {w : Nat → Int64} (hi : i < 6) (hu : u ≤ 64) (h45 : s 45 = Int32.ofNat u) (hg : ∀ j, j < u → v 35 (64 * i + j) = g j) : ∀ (m fuel p : Nat), p + m = u → m < fuel →
    fs_W A (fs_lp1 fuel (lb_Rf_fetch_12 (A 0) (Int32.ofNat i)) (Int32.ofNat p)) (s, va_up v 46 (fs_cpb (v 46) g p), w) fun _ S1 => S1 = (s, va_up v 46 (fs_cpb (v 46) g u), w)
  | 0, fuel + 1, p, hp, _ => by
    have hpu : p = u := by omega
    subst hpu
    refine w_lp1 <| w_gi 45 rfl ?_
    rw [show (s, va_up v 46 (fs_cpb (v 46) g p), w).1 45 = Int32.ofNat p from h45]
    exact w_p (Int32.le_refl _) <| w_ret rfl
  | m + 1, fuel + 1, p, hp, hf => by
    refine w_lp1 <| w_gi 45 rfl ?_
    rw [show (s, va_up v 46 (fs_cpb (v 46) g p), w).1 45 = Int32.ofNat u from h45]
    refine w_n (fun z => ?_) <| w_gr 46 rfl <| w_gr 35 rfl <| w_ai m35 (n_ma 64 i p) (by omega) <| w_si m46 rfl (by omega) <| w_m ?_
    · have := (n_le (by omega) (by omega)).mp z
      omega
    · rw [show (s, va_up v 46 (fs_cpb (v 46) g p), w).2.1 35 (64 * i + p) = g p from hg p (by omega), cpb_st, ofNat_add1]
      exact w_fetch_loop hi hu h45 hg m fuel (p + 1) (by omega) (by omega)
  | _, 0, _, _, h => absurd h (Nat.not_lt_zero _)
def fs_ft46 (S : fs_R) (u : Nat) (g : Nat → Int32) : fs_R := (upd S.1 45 (Int32.ofNat u), va_up S.2.1 46 (fs_cpb (S.2.1 46) g u), S.2.2)
theorem ft46_buf (S : fs_R) (u : Nat) (g : Nat → Int32) : fs_buf u g (fs_ft46 S u g) := ⟨up_hit S.1 45 _, fun i hi => if_pos hi⟩
set_option maxRecDepth 100000 in
theorem w_fetchk {β : Type} {A : Nat → Nat} {i : Nat} {R : fs_Rp} {Sh : List fs_Rp} {S : fs_R} {C : Unit → fs_T β} {Q : β → fs_R → Prop} (hS : fs_sf Sh S) (hl : Sh.length ≤ 5) (hR : Sh[i]? = some R) (hu : R.2.2.1 ≤ 64) (hk : fs_W A (C ()) (fs_ft46 S R.2.2.1 R.2.2.2) Q) : fs_W A (fs_bind (fs_cv (A 0) 12 (f_Rf_fetch (A 0) (Int32.ofNat i))) C) S Q := by
  have hi := (List.getElem?_eq_some_iff.mp hR).1
  obtain ⟨g1, g2⟩ := hS.2 i R hR
  refine w_b (P := fun _ S1 => S1 = fs_ft46 S R.2.2.1 R.2.2.2) (w_cv ?_) fun r S1 e1 => by
    subst e1
    exact hk
  refine w_gr 34 rfl <| w_ai m34 rfl (by omega) ?_
  rw [g1]
  refine w_pi 45 rfl (by decide) ?_
  have e0 : r_pi_ S 45 (Int32.ofNat R.2.2.1) = (upd S.1 45 (Int32.ofNat R.2.2.1), va_up S.2.1 46 (fs_cpb (S.2.1 46) R.2.2.2 0), S.2.2) := by
    have : fs_cpb (S.2.1 46) R.2.2.2 0 = S.2.1 46 := funext fun j => if_neg (Nat.not_lt_zero j)
    rw [this]
    exact r_self (r_pi_ S 45 (Int32.ofNat R.2.2.1)) 46
  rw [e0]
  exact w_fetch_loop (v := S.2.1) (by omega) hu (up_hit _ _ _) g2 R.2.2.1 4096 0 (by omega) (by omega)
