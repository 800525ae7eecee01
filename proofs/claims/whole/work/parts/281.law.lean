/-! the law: one call after another -/
def fs_Ok (p : fs_T Int32) (σ : fs_S) (N U : Nat) : Prop := ∃ σF, p.1 σ = some (1, σF) ∧ σF.2.2.2.1 ≤ N ∧ σF.2.2.2.2 ≤ U
theorem ok_b {α : Type} {x : fs_T α} {k : α → fs_T Int32} {σ σ1 : fs_S} {v : α} {N U : Nat} (h : x.1 σ = some (v, σ1)) (hk : fs_Ok (k v) σ1 N U) : fs_Ok (fs_bind x k) σ N U := by
  obtain ⟨σF, h1, h2⟩ := hk
  exact ⟨σF, r_b h h1, h2⟩
theorem ok_p {c : Prop} [Decidable c] {x y : fs_T Int32} {σ : fs_S} {N U : Nat} (h : c) (hk : fs_Ok x σ N U) : fs_Ok (if c then x else y) σ N U := by rw [if_pos h]; exact hk
theorem ok_n {c : Prop} [Decidable c] {x y : fs_T Int32} {σ : fs_S} {N U : Nat} (h : ¬ c) (hk : fs_Ok y σ N U) : fs_Ok (if c then x else y) σ N U := by rw [if_neg h]; exact hk
theorem ok_l {β : Type} {x : β} {k : β → fs_T Int32} {σ : fs_S} {N U : Nat} (hk : fs_Ok (k x) σ N U) : fs_Ok (fs_let x k) σ N U := hk
theorem ok_m {β : Type} {x : β} {k : β → fs_T Int32} {σ : fs_S} {N U : Nat} (hk : fs_Ok (k x) σ N U) : fs_Ok (fs_nm x k) σ N U := hk
theorem ok_lp {A : Type} {n : Nat} {b : (A → fs_T Int32) → A → fs_T Int32} {x : A} {σ : fs_S} {N U : Nat} (hk : fs_Ok (b (fs_lp1 n b) x) σ N U) : fs_Ok (fs_lp1 (n + 1) b x) σ N U := hk
theorem ok_1 {σ : fs_S} {N U : Nat} (h1 : σ.2.2.2.1 ≤ N) (h2 : σ.2.2.2.2 ≤ U) : fs_Ok (fs_rz 1) σ N U := by
  refine ⟨σ, ?_, h1, h2⟩
  unfold fs_rz
  rw [if_pos (Or.inr rfl)]
  rfl
/-- what is fixed: the script, the least lengths, the empty Object[] -/
def fs_Cx (k0 : fs_M) (cz : Nat → Nat) (b L : Nat) (xs g : Nat → Int32) : Prop := L ≤ 3584 ∧ k0 b = some (fs_ia L xs) ∧ k0 (cz 0) = some (fs_ia 8 g) ∧ fs_gL g ∧ ∃ q, k0 (cz 1) = some (fs_oa 3 0 q)
def fs_Ls (k0 : fs_M) (cz A B : Nat → Nat) (r3 k : Nat) (Z : fs_Z) (S : fs_R) (h : List fs_C) (w : Nat → Int64) (σ : fs_S) : Prop := fs_WF (cz 1) A Z h ∧ fs_Rb B S (h ++ [(r3, fs_ja 1 w)]) σ ∧ fs_In k Z S ∧ σ.2.1 = k0 ∧ σ.2.2.1 = cz
/-- the script can be read -/
def fs_Sc (b L : Nat) (xs : Nat → Int32) (σ : fs_S) : Prop := (fs_al b).1 σ = some (Int32.ofNat L, σ) ∧ ∀ j, j < L → (fs_ai b (Int32.ofNat j)).1 σ = some (xs j, σ)
theorem sc_ok {k0 : fs_M} {cz : Nat → Nat} {b L : Nat} {xs g : Nat → Int32} {H : List fs_C} {σ : fs_S} (hC : fs_Cx k0 cz b L xs g) (ho : fs_own H σ) (e : σ.2.1 = k0) : fs_Sc b L xs σ := by
  have hk : σ.2.1 b = some (fs_ia L xs) := by rw [e]; exact hC.2.1
  have hn : σ.1 b = none := (ho.2.2 b (by rw [hk]; exact fun z => by cases z)).2
  have hl := x_lkc hn hk
  have := hC.1
  exact ⟨x_al hl (by decide), fun j hj => x_ai hl rfl hj (by omega)⟩
theorem sc_rd {b L k : Nat} {xs : Nat → Int32} {σ : fs_S} (h : fs_Sc b L xs σ) {x : Int32} {i : Nat} (hi : x = Int32.ofNat i) (hl : 7 * k + i < L) : (fs_ai b (Int32.ofNat (7 * k) + x)).1 σ = some (xs (7 * k + i), σ) := by
  rw [hi, n_a]
  exact h.2 _ hl
/-- class cells and reference cells, the one and the other first -/
theorem rb_swap {B : Nat → Nat} {S : fs_R} {h G : List fs_C} {σ : fs_S} (hb : fs_Rb B S (h ++ G) σ) : ∃ H, fs_own (h ++ (H ++ G)) σ ∧ ∀ h1 G1 σ1, fs_own (h1 ++ (H ++ G1)) σ1 → fs_Rb B S (h1 ++ G1) σ1 := by
  obtain ⟨hi, H, h1, h2, h3, h4, h5⟩ := hb
  refine ⟨H, own_perm h1 ?_, fun h2' G1 σ1 ho => ⟨hi, H, own_perm ho ?_, h2, h3, h4, h5⟩⟩
  · rw [← List.append_assoc, ← List.append_assoc]
    exact List.Perm.append_right _ List.perm_append_comm
  · rw [← List.append_assoc, ← List.append_assoc]
    exact List.Perm.append_right _ List.perm_append_comm
theorem ls_thr {B : Nat → Nat} {S : fs_R} {F : List fs_C} {σ : fs_S} (hb : fs_Rb B S F σ) : (fs_cv (B 0) 12 (f_Rf_thrown (B 0))).1 σ = some (S.1 0, σ) := by
  have e := rb_o hb
  exact r_cv e <| r_b (x_gi e 0 rfl) rfl
/-- a call whose answer goes into the long[] -/
theorem lw_out {α β : Type} {k0 : fs_M} {cz A B : Nat → Nat} {b L r3 k : Nat} {xs g : Nat → Int32} {Z : fs_Z} {S : fs_R} {h : List fs_C} {w : Nat → Int64} {σ : fs_S} {pc : fs_T (α ⊕ String)} {pr : fs_T β} {l : List (String × Int32)} {ok : α → β → Prop} {conv : α → Int64} {cvr : β → Int64} {kv : α → fs_T Int32} {hd : String → fs_T Int32} {P : fs_T Int32}
    (hC : fs_Cx k0 cz b L xs g) (hL : fs_Ls k0 cz A B r3 k Z S h w σ) (hsp : ∀ F, fs_own (h ++ F) σ → fs_Sp k (cz 1) A B F σ S pc pr l ok) (hP : P = fs_try pc kv hd) (hok : ∀ v r, ok v r → conv v = cvr r) (hkv : ∀ v, kv v = fs_bind (fs_sj r3 0 (conv v)) fun _ => fs_ret 0) (hhd : ∀ q ∈ l, hd q.1 = fs_ret q.2 ∧ q.2 ≠ 0) :
    ∃ c σ1 r σ2 Z2 S2 h2 w2, P.1 σ = some (c, σ1) ∧ fs_Sc b L xs σ1 ∧ pr.1 σ1 = some (r, σ2) ∧ (fs_cv (B 0) 12 (f_Rf_thrown (B 0))).1 σ2 = some (c, σ2) ∧ (c = 0 → (fs_aj r3 0).1 σ2 = some (cvr r, σ2)) ∧ fs_Ls k0 cz A B r3 (k + 1) Z2 S2 h2 w2 σ2 ∧ fs_st σ σ2 300 9000 := by
  subst hP
  obtain ⟨h1, h2, h3, h4, h5⟩ := hL
  obtain ⟨H, o1, back⟩ := rb_swap h2
  obtain ⟨ans, Z2, ⟨τ, g2, r1, r2, r3', r4⟩, wk⟩ := hsp _ o1
  cases ans with
  | inl v =>
    have o2 := own_perm r3' (H2 := (r3, fs_ja 1 w) :: (g2 ++ H)) (by
      rw [← List.append_assoc]
      exact List.perm_append_comm)
    have e3 := own_at o2 List.mem_cons_self
    have o3 := own_up (e1 := fs_ja 1 (vp_updL w 0 (conv v))) o2
    have o4 := own_perm o3 (H2 := g2 ++ (H ++ [(r3, fs_ja 1 (vp_updL w 0 (conv v)))])) (by
      rw [← List.append_assoc]
      exact (List.perm_append_comm (l₁ := g2 ++ H) (l₂ := [(r3, fs_ja 1 (vp_updL w 0 (conv v)))])).symm)
    have st1 : fs_st σ (fs_su τ r3 (fs_ja 1 (vp_updL w 0 (conv v)))) 300 9000 := st_tr r4 (st_su _ _ _)
    have hb := back g2 _ _ o4
    obtain ⟨r, S2, σ2, p1, p2, p3, p4, p5⟩ := wk _ _ hb
    have st2 : fs_st σ σ2 300 9000 := st_tr st1 p3
    have p5' : S2.1 0 = 0 ∧ ok v r := p5
    refine ⟨0, _, r, σ2, Z2, S2, g2, vp_updL w 0 (conv v), ?_, sc_ok hC o4 (st1.1.trans h4), p1, by rw [ls_thr p2, p5'.1], fun _ => ?_, ⟨r2, p2, p4, st2.1.trans h4, st2.2.1.trans h5⟩, st2⟩
    · refine r_b r1 ?_
      show (kv v).1 τ = _
      rw [hkv]
      exact r_b (x_sj e3 (j := 0) rfl (by decide) (by decide)) rfl
    · obtain ⟨H2, o5, -⟩ := rb_swap p2
      have e5 := own_at o5 (a := r3) (e := fs_ja 1 (vp_updL w 0 (conv v))) (List.mem_append_right _ (List.mem_append_right _ List.mem_cons_self))
      have e6 : (fs_aj r3 0).1 σ2 = some (vp_updL w 0 (conv v) 0, σ2) := x_aj e5 (j := 0) rfl (by decide) (by decide)
      rw [e6, ← hok v r p5'.2]
      rfl
  | inr e =>
    have hb := back g2 _ _ r3'
    obtain ⟨r, S2, σ2, p1, p2, p3, p4, p5⟩ := wk _ _ hb
    have st2 : fs_st σ σ2 300 9000 := st_tr r4 p3
    have p5' : (e, S2.1 0) ∈ l := p5
    obtain ⟨q1, q2⟩ := hhd _ p5'
    refine ⟨S2.1 0, τ, r, σ2, Z2, S2, g2, w, ?_, sc_ok hC r3' (r4.1.trans h4), p1, ls_thr p2, fun z => absurd z q2, ⟨r2, p2, p4, st2.1.trans h4, st2.2.1.trans h5⟩, st2⟩
    refine r_b r1 ?_
    show (hd e).1 τ = _
    rw [q1]
    rfl
/-- a call without an answer -/
theorem lw_no {α β : Type} {k0 : fs_M} {cz A B : Nat → Nat} {b L r3 k : Nat} {xs g : Nat → Int32} {Z : fs_Z} {S : fs_R} {h : List fs_C} {w : Nat → Int64} {σ : fs_S} {pc : fs_T (α ⊕ String)} {pr : fs_T β} {l : List (String × Int32)} {ok : α → β → Prop} {kv : α → fs_T Int32} {hd : String → fs_T Int32} {P : fs_T Int32}
    (hC : fs_Cx k0 cz b L xs g) (hL : fs_Ls k0 cz A B r3 k Z S h w σ) (hsp : ∀ F, fs_own (h ++ F) σ → fs_Sp k (cz 1) A B F σ S pc pr l ok) (hP : P = fs_try pc kv hd) (hkv : ∀ v, kv v = fs_ret 0) (hhd : ∀ q ∈ l, hd q.1 = fs_ret q.2) :
    ∃ c σ1 r σ2 Z2 S2 h2 w2, P.1 σ = some (c, σ1) ∧ fs_Sc b L xs σ1 ∧ pr.1 σ1 = some (r, σ2) ∧ (fs_cv (B 0) 12 (f_Rf_thrown (B 0))).1 σ2 = some (c, σ2) ∧ fs_Ls k0 cz A B r3 (k + 1) Z2 S2 h2 w2 σ2 ∧ fs_st σ σ2 300 9000 := by
  subst hP
  obtain ⟨h1, h2, h3, h4, h5⟩ := hL
  obtain ⟨H, o1, back⟩ := rb_swap h2
  obtain ⟨ans, Z2, ⟨τ, g2, r1, r2, r3', r4⟩, wk⟩ := hsp _ o1
  have hb := back g2 _ _ r3'
  obtain ⟨r, S2, σ2, p1, p2, p3, p4, p5⟩ := wk _ _ hb
  have st2 : fs_st σ σ2 300 9000 := st_tr r4 p3
  refine ⟨S2.1 0, τ, r, σ2, Z2, S2, g2, w, r_b r1 ?_, sc_ok hC r3' (r4.1.trans h4), p1, ls_thr p2, ⟨r2, p2, p4, st2.1.trans h4, st2.2.1.trans h5⟩, st2⟩
  cases ans with
  | inl v =>
    have p5' : S2.1 0 = 0 ∧ ok v r := p5
    show (kv v).1 τ = _
    rw [hkv, p5'.1]
    rfl
  | inr e =>
    have p5' : (e, S2.1 0) ∈ l := p5
    show (hd e).1 τ = _
    rw [hhd _ p5']
    rfl
/-- a call that never fails -/
theorem lw_rd {β : Type} {k0 : fs_M} {cz A B : Nat → Nat} {b L r3 k : Nat} {xs g : Nat → Int32} {Z : fs_Z} {S : fs_R} {h : List fs_C} {w : Nat → Int64} {σ : fs_S} {pc : fs_T β} {pr : fs_T β}
    (hC : fs_Cx k0 cz b L xs g) (hL : fs_Ls k0 cz A B r3 k Z S h w σ) (hsp : ∀ F, fs_own (h ++ F) σ → fs_Sr k (cz 1) A B F σ S pc pr) :
    ∃ c σ1 σ2 Z2 S2 h2 w2, pc.1 σ = some (c, σ1) ∧ fs_Sc b L xs σ1 ∧ pr.1 σ1 = some (c, σ2) ∧ fs_Ls k0 cz A B r3 (k + 1) Z2 S2 h2 w2 σ2 ∧ fs_st σ σ2 300 9000 := by
  obtain ⟨h1, h2, h3, h4, h5⟩ := hL
  obtain ⟨H, o1, back⟩ := rb_swap h2
  obtain ⟨v, Z2, ⟨τ, g2, r1, r2, r3', r4⟩, wk⟩ := hsp _ o1
  have hb := back g2 _ _ r3'
  obtain ⟨r, S2, σ2, p1, p2, p3, p4, p5⟩ := wk _ _ hb
  have st2 : fs_st σ σ2 300 9000 := st_tr r4 p3
  subst p5
  exact ⟨v, τ, σ2, Z2, S2, g2, w, r1, sc_ok hC r3' (r4.1.trans h4), p1, ⟨r2, p2, p4, st2.1.trans h4, st2.2.1.trans h5⟩, st2⟩
/-- the answers compared -/
theorem lw_tail {r3 : Nat} {c : Int32} {y : Int64} {J : fs_T Int32} {σ : fs_S} {N U : Nat} (ha : c = 0 → (fs_aj r3 0).1 σ = some (y, σ)) (hJ : fs_Ok J σ N U) : fs_Ok (fs_let (fun (_ : Unit) => J) fun j => if c = 0 then (fs_bind (fs_aj r3 0) fun v => if lg_cmp v y = 0 then j () else fs_rz 0) else j ()) σ N U := by
  refine ok_l ?_
  by_cases h : c = 0
  · exact ok_p h <| ok_b (ha h) <| ok_p ((lg_0 _ _).mpr rfl) hJ
  · exact ok_n h hJ
