/-! the constructors -/
theorem p_AL_new {c1 : Nat} {F : List fs_C} {σ : fs_S} (ho : fs_own F σ) (hc : fs_kc c1 σ) : ∃ σ0 σ1, (fs_nw 2 fs_d2).1 σ = some (σ.2.2.2.1, σ0) ∧ (f_ArrayList_init σ.2.2.2.1).1 σ0 = some ((), σ1) ∧ fs_own ((σ.2.2.2.1, fs_ao c1 0 0) :: F) σ1 ∧ fs_st σ σ1 1 3 := by
  have o0 := own_mk (e := .inr (2, fs_d2)) (w := 3) ho
  have e0 := own_at o0 List.mem_cons_self
  have o1 := own_up (e1 := .inr (2, [.null, .int 0, .int 0])) o0
  have e1 := own_at o1 List.mem_cons_self
  have o2 := own_up (e1 := .inr (2, [.ref c1, .int 0, .int 0])) o1
  refine ⟨_, _, rfl, r_b (v := ()) (r_b (v := ()) rfl <| r_b (x_pi e0 2 _ (Nat.le_of_ble_eq_true rfl)) rfl) <| r_b (v := c1) (σ1 := fs_su (fs_sm σ (.inr (2, fs_d2)) 3) σ.2.2.2.1 (.inr (2, [.null, .int 0, .int 0]))) ?_ <| r_b (x_pr e1 0 _ (Nat.le_of_ble_eq_true rfl)) rfl, o2, st_tr (st_sm σ _ 3) (st_tr (st_su _ _ _) (st_su _ _ _))⟩
  rw [x_gs, su_2, sm_c, hc.1]
  rfl
theorem p_Layout_new {F : List fs_C} {σ : fs_S} (ho : fs_own F σ) : ∃ σ0 σ1, (fs_nw 4 fs_d4).1 σ = some (σ.2.2.2.1, σ0) ∧ (f_Layout_init σ.2.2.2.1).1 σ0 = some ((), σ1) ∧ fs_own (fs_lc (σ.2.2.2.1, σ.2.2.2.1 + 1, σ.2.2.2.1 + 2, 0, fun _ => 0, fun _ => 0) ++ F) σ1 ∧ fs_st σ σ1 3 19 := by
  have o0 := own_mk (e := .inr (4, fs_d4)) (w := 3) ho
  have o1 := own_mk (e := fs_ia 8 fun _ => 0) (w := 8) o0
  have o1b := own_perm o1 (List.Perm.swap _ _ _)
  have e1 := own_at o1b List.mem_cons_self
  have o2 := own_up (e1 := .inr (4, [.ref (σ.2.2.2.1 + 1), .null, .int 0])) o1b
  have o3 := own_mk (e := fs_ia 8 fun _ => 0) (w := 8) o2
  have o3b := own_perm o3 (List.Perm.swap _ _ _)
  have e3 := own_at o3b List.mem_cons_self
  have o4 := own_up (e1 := .inr (4, [.ref (σ.2.2.2.1 + 1), .ref (σ.2.2.2.1 + 2), .int 0])) o3b
  refine ⟨_, _, rfl, r_b (x_ni (j := 8) rfl (by decide)) <| r_b (x_pr e1 0 _ (Nat.le_of_ble_eq_true rfl)) <| r_b (x_ni (j := 8) rfl (by decide)) <| r_b (x_pr e3 1 _ (Nat.le_of_ble_eq_true rfl)) rfl, own_perm o4 (List.Perm.cons _ (List.Perm.swap _ _ _)), st_tr (st_sm σ _ 3) (st_tr (st_sm _ _ 8) (st_tr (st_su _ _ _) (st_tr (st_sm _ _ 8) (st_su _ _ _))))⟩
def fs_L0 (n : Nat) : fs_Ly := (n, n + 1, n + 2, 0, fun _ => 0, fun _ => 0)
def fs_Ti (n d p : Nat) (x : Int32) : fs_Sl := (n, upd (fun _ => 0) 0 x, fs_L0 d, fs_L0 p)
theorem p_Slot_new {F : List fs_C} {σ : fs_S} (ho : fs_own F σ) (x : Int32) : ∃ σ0 σ1 n d p, (fs_nw 3 fs_d3).1 σ = some (n, σ0) ∧ (f_Slot_init n x).1 σ0 = some ((), σ1) ∧ fs_own (fs_ts (fs_Ti n d p x) ++ F) σ1 ∧ fs_st σ σ1 7 44 := by
  have o0 := own_mk (e := .inr (3, fs_d3)) (w := 6) ho
  obtain ⟨τ0, τ1, a1, a2, a3, a4⟩ := p_Layout_new o0
  generalize hn : σ.2.2.2.1 = n at *
  generalize hd : (fs_sm σ (.inr (3, fs_d3)) 6).2.2.2.1 = d at *
  have o1 := own_ix [fs_lc (fs_L0 d), [(n, .inr (3, fs_d3))], F] [1, 0, 2] rfl (by decide) (own_eq a3 (by simp [fs_L0]))
  have e1 := own_at o1 List.mem_cons_self
  have o2 := own_up (e1 := .inr (3, [.int 0, .ref d, .null, .int 0, .int 0, .int 0])) o1
  obtain ⟨υ0, υ1, b1, b2, b3, b4⟩ := p_Layout_new o2
  generalize hp : (fs_su τ1 n (.inr (3, [.int 0, .ref d, .null, .int 0, .int 0, .int 0]))).2.2.2.1 = p at *
  have o3 := own_ix [fs_lc (fs_L0 p), [(n, .inr (3, [.int 0, .ref d, .null, .int 0, .int 0, .int 0]))], fs_lc (fs_L0 d), F] [1, 2, 0, 3] rfl (by decide) (own_eq b3 (by simp [fs_L0]))
  have e3 := own_at o3 List.mem_cons_self
  have o4 := own_up (e1 := .inr (3, [.int 0, .ref d, .ref p, .int 0, .int 0, .int 0])) o3
  have e4 := own_at o4 List.mem_cons_self
  have o5 := own_up (e1 := fs_so (upd (fun _ => 0) 0 x) d p) o4
  refine ⟨_, _, n, d, p, by subst hn; rfl, r_b a1 <| r_b a2 <| r_b (x_pr e1 1 _ (Nat.le_of_ble_eq_true rfl)) <| r_b b1 <| r_b b2 <| r_b (x_pr e3 2 _ (Nat.le_of_ble_eq_true rfl)) <| r_b (x_pi e4 0 _ (Nat.le_of_ble_eq_true rfl)) rfl, own_eq o5 (by simp [fs_ts, fs_sc, fs_Ti, fs_L0]), st_tr (st_sm σ _ 6) (st_tr a4 (st_tr (st_su _ _ _) (st_tr b4 (st_tr (st_su _ _ _) (st_su _ _ _)))))⟩
theorem x_sr4 {σ : fs_S} {a n j v : Nat} {fs : List Value} {f : Nat → Option Nat} {i : Int32} (h : σ.1 a = some (fs_oa 4 n f)) (hv : σ.1 v = some (.inr (3, fs))) (hi : i = Int32.ofNat j) (hj : j < n) (hn : n ≤ 65536) : (fs_sr a i v).1 σ = some ((), fs_su σ a (fs_oa 4 n (va_up f j (some v)))) := by
  obtain ⟨h1, h2⟩ := x_in hi hj hn
  have e1 : (fs_rd v fs_oc).1 σ = some (3, σ) := by
    show ((fs_lk σ v).bind _).map _ = _
    rw [x_lk hv]
    rfl
  show ((fs_rd v fs_oc).1 σ).bind _ = _
  rw [e1]
  show ((σ.1 a).bind _).map _ = _
  rw [h]
  simp only [Option.bind_some, fs_oa, fs_yC]
  rw [if_pos ⟨Or.inr ⟨trivial, trivial⟩, h1⟩, h2]
  rfl
def fs_s0_ (x : Int32) : Nat → Int32 := upd (upd (fun _ => 0) 6 1) 0 x
theorem sl_step {sl j n : Nat} {f : Nat → Option Nat} {x : Int32} {T : fs_Sl} {G : List fs_C} {σ : fs_S} (hx : x = Int32.ofNat j) (hj : j < 3) (hT : T.1 = n) (ho : fs_own ([(sl, fs_oa 4 3 f)] ++ (fs_ts T ++ G)) σ) : (fs_sr sl x n).1 σ = some ((), fs_su σ sl (fs_oa 4 3 (va_up f j (some n)))) ∧ fs_own ([(sl, fs_oa 4 3 (va_up f j (some n)))] ++ (fs_ts T ++ G)) (fs_su σ sl (fs_oa 4 3 (va_up f j (some n)))) := by
  subst hT
  have e := own_at ho List.mem_cons_self
  have eT := own_at ho (List.mem_append_right _ (List.mem_append_left _ (ts_mem T)))
  exact ⟨x_sr4 e eT hx hj (by decide), own_up ho⟩
set_option maxRecDepth 100000 in
theorem p_Exporter_new {c1 : Nat} {F : List fs_C} {σ : fs_S} (ho : fs_own F σ) (hc : fs_kc c1 σ) (x : Int32) : ∃ σ0 σ1 B h T0 T1 T2, (fs_nw 1 fs_d1).1 σ = some (B 0, σ0) ∧ (f_Exporter_init (B 0) x).1 σ0 = some ((), σ1) ∧ fs_XF c1 B (fs_s0_ x, [], [], [T0, T1, T2]) h ∧ fs_own (h ++ F) σ1 ∧ fs_st σ σ1 25 200 ∧ (∃ n d p, T0 = fs_Ti n d p 0) ∧ (∃ n d p, T1 = fs_Ti n d p 1) ∧ ∃ n d p, T2 = fs_Ti n d p 2 := by
  have o0 := own_mk (e := .inr (1, fs_d1)) (w := 11) ho
  generalize hn : σ.2.2.2.1 = n at *
  have s0 := st_sm σ (.inr (1, fs_d1)) 11
  obtain ⟨α0, α1, a1, a2, a3, a4⟩ := p_AL_new o0 (kc_st hc s0)
  generalize hca : (fs_sm σ (.inr (1, fs_d1)) 11).2.2.2.1 = ca at *
  have oA := own_perm a3 (List.Perm.swap _ _ _)
  have eA := own_at oA List.mem_cons_self
  have oB := own_up (e1 := .inr (1, [.int 0, .ref ca, .null, .null, .int 0, .int 0, .int 0, .int 0, .int 0, .int 0, .int 0])) oA
  have sB := st_tr s0 (st_tr a4 (st_su α1 n (.inr (1, [.int 0, .ref ca, .null, .null, .int 0, .int 0, .int 0, .int 0, .int 0, .int 0, .int 0]))))
  obtain ⟨β0, β1, b1, b2, b3, b4⟩ := p_AL_new oB (kc_st hc sB)
  generalize hen : (fs_su α1 n (.inr (1, [.int 0, .ref ca, .null, .null, .int 0, .int 0, .int 0, .int 0, .int 0, .int 0, .int 0]))).2.2.2.1 = en at *
  have oC := own_perm b3 (List.Perm.swap _ _ _)
  have eC := own_at oC List.mem_cons_self
  have oD := own_up (e1 := .inr (1, [.int 0, .ref ca, .ref en, .null, .int 0, .int 0, .int 0, .int 0, .int 0, .int 0, .int 0])) oC
  have oE := own_mk (e := fs_oa 4 3 fun _ => none) (w := 3) oD
  have hnr : (fs_nr 4 3).1 (fs_su β1 n (.inr (1, [.int 0, .ref ca, .ref en, .null, .int 0, .int 0, .int 0, .int 0, .int 0, .int 0, .int 0]))) = some (_, _) := x_nr (j := 3) rfl (by decide)
  generalize hsl : (fs_su β1 n (.inr (1, [.int 0, .ref ca, .ref en, .null, .int 0, .int 0, .int 0, .int 0, .int 0, .int 0, .int 0]))).2.2.2.1 = sl at *
  have oF := own_perm oE (List.Perm.swap _ _ _)
  have eF := own_at oF List.mem_cons_self
  have oG := own_up (e1 := .inr (1, [.int 0, .ref ca, .ref en, .ref sl, .int 0, .int 0, .int 0, .int 0, .int 0, .int 0, .int 0])) oF
  have eG := own_at oG List.mem_cons_self
  have oH := own_up (e1 := .inr (1, [.int 0, .ref ca, .ref en, .ref sl, .int 0, .int 0, .int 1, .int 0, .int 0, .int 0, .int 0])) oG
  have eH := own_at oH List.mem_cons_self
  have oI := own_up (e1 := fs_xc (fs_s0_ x) ca en sl) oH
  have eI := own_at oI List.mem_cons_self
  obtain ⟨γ0, γ1, n0, d0, p0, c1', c2', c3', c4'⟩ := p_Slot_new oI 0
  obtain ⟨u1, u2⟩ := sl_step (n := n0) (x := 0) (j := 0) rfl (by decide) rfl (own_ix [fs_ts (fs_Ti n0 d0 p0 0), [(n, fs_xc (fs_s0_ x) ca en sl)], [(sl, fs_oa 4 3 fun _ => none)], [(en, fs_ao c1 0 0)], [(ca, fs_ao c1 0 0)], F] [2, 0, 1, 3, 4, 5] rfl (by decide) (own_eq c3' (by simp)))
  have eJ := own_c (L := [[(sl, fs_oa 4 3 (va_up (fun _ => none) 0 (some n0)))], fs_ts (fs_Ti n0 d0 p0 0), [(n, fs_xc (fs_s0_ x) ca en sl)], [(en, fs_ao c1 0 0)], [(ca, fs_ao c1 0 0)], F]) u2 2 rfl List.mem_cons_self
  obtain ⟨δ0, δ1, n1, d1, p1, e1', e2', e3', e4'⟩ := p_Slot_new u2 1
  obtain ⟨v1, v2⟩ := sl_step (n := n1) (x := 0 + 1) (j := 1) rfl (by decide) rfl (own_ix [fs_ts (fs_Ti n1 d1 p1 1), [(sl, fs_oa 4 3 (va_up (fun _ => none) 0 (some n0)))], fs_ts (fs_Ti n0 d0 p0 0), [(n, fs_xc (fs_s0_ x) ca en sl)], [(en, fs_ao c1 0 0)], [(ca, fs_ao c1 0 0)], F] [1, 0, 2, 3, 4, 5, 6] rfl (by decide) (own_eq e3' (by simp)))
  have eK := own_c (L := [[(sl, fs_oa 4 3 (va_up (va_up (fun _ => none) 0 (some n0)) 1 (some n1)))], fs_ts (fs_Ti n1 d1 p1 1), fs_ts (fs_Ti n0 d0 p0 0), [(n, fs_xc (fs_s0_ x) ca en sl)], [(en, fs_ao c1 0 0)], [(ca, fs_ao c1 0 0)], F]) v2 3 rfl List.mem_cons_self
  obtain ⟨ε0, ε1, n2, d2, p2, g1', g2', g3', g4'⟩ := p_Slot_new v2 2
  obtain ⟨w1, w2⟩ := sl_step (n := n2) (x := 0 + 1 + 1) (j := 2) rfl (by decide) rfl (own_ix [fs_ts (fs_Ti n2 d2 p2 2), [(sl, fs_oa 4 3 (va_up (va_up (fun _ => none) 0 (some n0)) 1 (some n1)))], fs_ts (fs_Ti n1 d1 p1 1), fs_ts (fs_Ti n0 d0 p0 0), [(n, fs_xc (fs_s0_ x) ca en sl)], [(en, fs_ao c1 0 0)], [(ca, fs_ao c1 0 0)], F] [1, 0, 2, 3, 4, 5, 6, 7] rfl (by decide) (own_eq g3' (by simp)))
  refine ⟨_, _, fun k => match k with
    | 0 => n
    | 1 => ca
    | 2 => en
    | _ => sl, _, fs_Ti n0 d0 p0 0, fs_Ti n1 d1 p1 1, fs_Ti n2 d2 p2 2, by subst hn; rfl, r_b a1 <| r_b a2 <| r_b (x_pr eA 1 _ (Nat.le_of_ble_eq_true rfl)) <| r_b b1 <| r_b b2 <| r_b (x_pr eC 2 _ (Nat.le_of_ble_eq_true rfl)) <| r_b hnr <| r_b (x_pr eF 3 _ (Nat.le_of_ble_eq_true rfl)) <| r_b (x_pi eG 6 _ (Nat.le_of_ble_eq_true rfl)) <| r_b (x_pi eH 0 _ (Nat.le_of_ble_eq_true rfl)) <| r_lp1 <| r_n (by decide) <| r_b (x_gr eI 3 rfl) <| r_b c1' <| r_b c2' <| r_b u1 <| r_m <| r_lp1 <| r_n (by decide) <| r_b (x_gr eJ 3 rfl) <| r_b e1' <| r_b e2' <| r_b v1 <| r_m <| r_lp1 <| r_n (by decide) <| r_b (x_gr eK 3 rfl) <| r_b g1' <| r_b g2' <| r_b w1 <| r_m <| r_lp1 <| r_p (by decide) rfl, ⟨_, rfl, ⟨[(ca, fs_ao c1 0 0)], [(en, fs_ao c1 0 0)], rfl, Or.inl ⟨0, rfl, rfl⟩, Or.inl ⟨0, rfl, rfl⟩⟩, rfl⟩, ?_, ?_, ⟨n0, d0, p0, rfl⟩, ⟨n1, d1, p1, rfl⟩, ⟨n2, d2, p2, rfl⟩⟩
  · have es : ∀ (S : List fs_Sl) (a b c : Nat), S.map Prod.fst = [a, b, c] → fs_oa 4 3 (va_up (va_up (va_up (fun _ => none) 0 (some a)) 1 (some b)) 2 (some c)) = fs_sa S := fun S a b c hS => by
      unfold fs_sa
      congr 1
      funext i
      rw [← List.getElem?_map, hS]
      match i with
      | 0 => rfl
      | 1 => rfl
      | 2 => rfl
      | i + 3 =>
        unfold va_up
        rw [if_neg (by omega), if_neg (by omega), if_neg (by omega)]
        rfl
    have w3 := own_ix [[(sl, fs_oa 4 3 (va_up (va_up (va_up (fun _ => none) 0 (some n0)) 1 (some n1)) 2 (some n2)))], fs_ts (fs_Ti n2 d2 p2 2), fs_ts (fs_Ti n1 d1 p1 1), fs_ts (fs_Ti n0 d0 p0 0), [(n, fs_xc (fs_s0_ x) ca en sl)], [(en, fs_ao c1 0 0)], [(ca, fs_ao c1 0 0)], F] [4, 6, 5, 0, 3, 2, 1, 7] rfl (by decide) w2
    have es1 := es [fs_Ti n0 d0 p0 0, fs_Ti n1 d1 p1 1, fs_Ti n2 d2 p2 2] n0 n1 n2 rfl
    exact own_eq w3 (by simp [fs_SS, fs_fc, es1])
  · exact st_le (st_tr sB (st_tr b4 (st_tr (st_su _ n _) (st_tr (st_sm _ (fs_oa 4 3 fun _ => none) 3) (st_tr (st_su _ n _) (st_tr (st_su _ n _) (st_tr (st_su _ n (fs_xc (fs_s0_ x) ca en sl)) (st_tr c4' (st_tr (st_su _ _ _) (st_tr e4' (st_tr (st_su _ _ _) (st_tr g4' (st_su _ _ _))))))))))))) (by decide) (by decide)
theorem p_Table_new {c1 : Nat} {F : List fs_C} {σ : fs_S} (ho : fs_own F σ) (hc : fs_kc c1 σ) : ∃ σ0 σ1 n la pa oa h, (fs_nw 6 fs_d6).1 σ = some (n, σ0) ∧ (f_Table_init n).1 σ0 = some ((), σ1) ∧ fs_TF c1 n la pa oa (fun _ => 0) (fun _ => 0) 0 0 [] h ∧ fs_own (h ++ F) σ1 ∧ fs_st σ σ1 4 168 := by
  have o0 := own_mk (e := .inr (6, fs_d6)) (w := 5) ho
  have s0 := st_sm σ (.inr (6, fs_d6)) 5
  generalize hn : σ.2.2.2.1 = n at *
  obtain ⟨α0, α1, a1, a2, a3, a4⟩ := p_AL_new o0 (kc_st hc s0)
  generalize hla : (fs_sm σ (.inr (6, fs_d6)) 5).2.2.2.1 = la at *
  have oA := own_perm a3 (List.Perm.swap _ _ _)
  have eA := own_at oA List.mem_cons_self
  have oB := own_up (e1 := .inr (6, [.ref la, .null, .null, .int 0, .int 0])) oA
  have oC := own_mk (e := fs_ia 80 fun _ => 0) (w := 80) oB
  have nC := x_ni (σ := fs_su α1 n (.inr (6, [.ref la, .null, .null, .int 0, .int 0]))) (j := 80) (i := 80) rfl (by decide)
  generalize hpa : (fs_su α1 n (.inr (6, [.ref la, .null, .null, .int 0, .int 0]))).2.2.2.1 = pa at *
  have oD := own_perm oC (List.Perm.swap _ _ _)
  have eD := own_at oD List.mem_cons_self
  have oE := own_up (e1 := .inr (6, [.ref la, .ref pa, .null, .int 0, .int 0])) oD
  have oF := own_mk (e := fs_ia 80 fun _ => 0) (w := 80) oE
  have nF := x_ni (σ := fs_su (fs_sm (fs_su α1 n (.inr (6, [.ref la, .null, .null, .int 0, .int 0]))) (fs_ia 80 fun _ => 0) 80) n (.inr (6, [.ref la, .ref pa, .null, .int 0, .int 0]))) (j := 80) (i := 80) rfl (by decide)
  generalize hoa : (fs_su (fs_sm (fs_su α1 n (.inr (6, [.ref la, .null, .null, .int 0, .int 0]))) (fs_ia 80 fun _ => 0) 80) n (.inr (6, [.ref la, .ref pa, .null, .int 0, .int 0]))).2.2.2.1 = oa at *
  have oG := own_perm oF (List.Perm.swap _ _ _)
  have eG := own_at oG List.mem_cons_self
  have oH := own_up (e1 := fs_to la pa oa 0 0) oG
  refine ⟨_, _, n, la, pa, oa, _, by subst hn; rfl, r_b a1 <| r_b a2 <| r_b (x_pr eA 0 _ (Nat.le_of_ble_eq_true rfl)) <| r_b nC <| r_b (x_pr eD 1 _ (Nat.le_of_ble_eq_true rfl)) <| r_b nF <| r_b (x_pr eG 2 _ (Nat.le_of_ble_eq_true rfl)) rfl, ⟨[(la, fs_ao c1 0 0)], rfl, Or.inl ⟨0, rfl, rfl⟩⟩, ?_, st_tr s0 (st_tr a4 (st_tr (st_su _ _ _) (st_tr (st_sm _ _ 80) (st_tr (st_su _ _ _) (st_tr (st_sm _ _ 80) (st_su _ _ _))))))⟩
  exact own_eq (own_ix [[(n, fs_to la pa oa 0 0)], [(oa, fs_ia 80 fun _ => 0)], [(pa, fs_ia 80 fun _ => 0)], [(la, fs_ao c1 0 0)], F] [0, 3, 2, 1, 4] rfl (by decide) (own_eq oH (by simp))) (by simp [fs_wcs])
theorem p_Ledger_new {F : List fs_C} {σ : fs_S} (ho : fs_own F σ) : ∃ σ0 σ1 n b, (fs_nw 7 fs_d7).1 σ = some (n, σ0) ∧ (f_Ledger_init n).1 σ0 = some ((), σ1) ∧ fs_own (fs_gc_ (n, b, fun _ => 0, fun _ => 0) ++ F) σ1 ∧ fs_st σ σ1 2 606 := by
  have o0 := own_mk (e := .inr (7, fs_d7)) (w := 6) ho
  have o1 := own_mk (e := fs_za 600 fun _ => 0) (w := 600) o0
  have o1b := own_perm o1 (List.Perm.swap _ _ _)
  have e1 := own_at o1b List.mem_cons_self
  have o2 := own_up (e1 := fs_lgo (σ.2.2.2.1, σ.2.2.2.1 + 1, fun _ => 0, fun _ => 0)) o1b
  exact ⟨_, _, σ.2.2.2.1, σ.2.2.2.1 + 1, rfl, r_b (x_nz (j := 600) rfl (by decide)) <| r_b (x_pr e1 0 _ (Nat.le_of_ble_eq_true rfl)) rfl, o2, st_tr (st_sm σ _ 6) (st_tr (st_sm _ _ 600) (st_su _ _ _))⟩
def fs_ad7 (a b c d e f g : Nat) : Nat → Nat := fun k => match k with
  | 0 => a
  | 1 => b
  | 2 => c
  | 3 => d
  | 4 => e
  | 5 => f
  | _ => g
theorem p_Collector_new {c1 : Nat} {F : List fs_C} {σ : fs_S} (ho : fs_own F σ) (hc : fs_kc c1 σ) : ∃ (σ0 σ1 : fs_S) (n : Nat) (B : Nat → Nat) (a1 b1 a2 b2 : Nat) (h : List fs_C), (fs_nw 5 fs_d5).1 σ = some (n, σ0) ∧ (f_Collector_init n).1 σ0 = some ((), σ1) ∧ (∀ A : Nat → Nat, A 0 = n → (∀ k, k < 7 → A k = B k) → fs_CF c1 A [] [] (fun _ => 0, fun _ => 0, 0, 0) [] (a1, b1, fun _ => 0, fun _ => 0) (a2, b2, fun _ => 0, fun _ => 0) h) ∧ B 0 = n ∧ fs_own (h ++ F) σ1 ∧ fs_st σ σ1 11 1391 := by
  have o0 := own_mk (e := .inr (5, fs_d5)) (w := 5) ho
  have s0 := st_sm σ (.inr (5, fs_d5)) 5
  generalize hn : σ.2.2.2.1 = n at *
  obtain ⟨α0, α1, a1, a2, a3, a4⟩ := p_AL_new o0 (kc_st hc s0)
  generalize hkn : (fs_sm σ (.inr (5, fs_d5)) 5).2.2.2.1 = kn at *
  have oA := own_perm a3 (List.Perm.swap _ _ _)
  have eA := own_at oA List.mem_cons_self
  have oB := own_up (e1 := .inr (5, [.ref kn, .null, .null, .null, .null])) oA
  have sB := st_tr s0 (st_tr a4 (st_su α1 n (.inr (5, [.ref kn, .null, .null, .null, .null]))))
  obtain ⟨β0, β1, b1, b2, b3, b4⟩ := p_AL_new oB (kc_st hc sB)
  generalize hsh : (fs_su α1 n (.inr (5, [.ref kn, .null, .null, .null, .null]))).2.2.2.1 = sh at *
  have oC := own_perm b3 (List.Perm.swap _ _ _)
  have eC := own_at oC List.mem_cons_self
  have oD := own_up (e1 := .inr (5, [.ref kn, .ref sh, .null, .null, .null])) oC
  have sD := st_tr sB (st_tr b4 (st_su β1 n (.inr (5, [.ref kn, .ref sh, .null, .null, .null]))))
  obtain ⟨γ0, γ1, ta, la, pa, oa, ht, c1', c2', c3', c4', c5'⟩ := p_Table_new oD (kc_st hc sD)
  have oE := own_ix [ht, [(n, .inr (5, [.ref kn, .ref sh, .null, .null, .null]))], [(sh, fs_ao c1 0 0)], [(kn, fs_ao c1 0 0)], F] [1, 3, 2, 0, 4] rfl (by decide) (own_eq c4' (by simp))
  have eE := own_at oE List.mem_cons_self
  have oF := own_up (e1 := .inr (5, [.ref kn, .ref sh, .ref ta, .null, .null])) oE
  obtain ⟨δ0, δ1, l1, m1, d1, d2, d3, d4⟩ := p_Ledger_new oF
  have oG := own_ix [fs_gc_ (l1, m1, fun _ => 0, fun _ => 0), [(n, .inr (5, [.ref kn, .ref sh, .ref ta, .null, .null]))], [(kn, fs_ao c1 0 0)], [(sh, fs_ao c1 0 0)], ht, F] [1, 2, 3, 4, 0, 5] rfl (by decide) (own_eq d3 (by simp))
  have eG := own_at oG List.mem_cons_self
  have oH := own_up (e1 := .inr (5, [.ref kn, .ref sh, .ref ta, .ref l1, .null])) oG
  obtain ⟨ε0, ε1, l2, m2, e1', e2', e3', e4'⟩ := p_Ledger_new oH
  have oI := own_ix [fs_gc_ (l2, m2, fun _ => 0, fun _ => 0), [(n, .inr (5, [.ref kn, .ref sh, .ref ta, .ref l1, .null]))], [(kn, fs_ao c1 0 0)], [(sh, fs_ao c1 0 0)], ht, fs_gc_ (l1, m1, fun _ => 0, fun _ => 0), F] [1, 2, 3, 4, 5, 0, 6] rfl (by decide) (own_eq e3' (by simp))
  have eI := own_at oI List.mem_cons_self
  have oJ := own_up (e1 := .inr (5, [.ref kn, .ref sh, .ref ta, .ref l1, .ref l2])) oI
  refine ⟨_, _, n, fs_ad7 n kn sh ta la pa oa, l1, m1, l2, m2, [[(n, (.inr (5, [.ref kn, .ref sh, .ref ta, .ref l1, .ref l2]) : fs_E))], [(kn, fs_ao c1 0 0)], [(sh, fs_ao c1 0 0)], ht, fs_gc_ (l1, m1, fun _ => 0, fun _ => 0), fs_gc_ (l2, m2, fun _ => 0, fun _ => 0)].flatten, by subst hn; rfl, r_b a1 <| r_b a2 <| r_b (x_pr eA 0 _ (Nat.le_of_ble_eq_true rfl)) <| r_b b1 <| r_b b2 <| r_b (x_pr eC 1 _ (Nat.le_of_ble_eq_true rfl)) <| r_b c1' <| r_b c2' <| r_b (x_pr eE 2 _ (Nat.le_of_ble_eq_true rfl)) <| r_b d1 <| r_b d2 <| r_b (x_pr eG 3 _ (Nat.le_of_ble_eq_true rfl)) <| r_b e1' <| r_b e2' <| r_b (x_pr eI 4 _ (Nat.le_of_ble_eq_true rfl)) rfl, fun A h0 hA => ⟨[(kn, fs_ao c1 0 0)], [(sh, fs_ao c1 0 0)], ht, ?_, ?_, ?_, ?_⟩, rfl, own_eq oJ (by simp), st_tr sD (st_tr c5' (st_tr (st_su _ _ _) (st_tr d4 (st_tr (st_su _ _ _) (st_tr e4' (st_su _ _ _))))))⟩
  · show [[(n, (.inr (5, [.ref kn, .ref sh, .ref ta, .ref l1, .ref l2]) : fs_E))], [(kn, fs_ao c1 0 0)], [(sh, fs_ao c1 0 0)], ht, fs_gc_ (l1, m1, fun _ => 0, fun _ => 0), fs_gc_ (l2, m2, fun _ => 0, fun _ => 0)].flatten = _
    unfold fs_ko
    rw [h0, hA 1 (by decide), hA 2 (by decide), hA 3 (by decide)]
    rfl
  · rw [hA 1 (by decide)]
    exact ⟨[(kn, fs_ao c1 0 0)], rfl, Or.inl ⟨0, rfl, rfl⟩⟩
  · rw [hA 2 (by decide)]
    exact ⟨[(sh, fs_ao c1 0 0)], rfl, Or.inl ⟨0, rfl, rfl⟩⟩
  · rw [hA 3 (by decide), hA 4 (by decide), hA 5 (by decide), hA 6 (by decide)]
    exact c3'
/-- the object as it is made -/
def fs_Z0 (T U : List fs_Sl) : fs_Z := (fs_two (fs_s0_ 0, [], [], T) (fs_s0_ 1, [], [], U), [], [], [], (fun _ => 0, fun _ => 0, 0, 0), [], fun _ _ => 0, fun _ _ => 0)
def fs_nt (T : List fs_Sl) : Prop := ∃ n0 d0 p0 n1 d1 p1 n2 d2 p2, T = [fs_Ti n0 d0 p0 0, fs_Ti n1 d1 p1 1, fs_Ti n2 d2 p2 2]
def fs_adr (B C D : Nat → Nat) (n r a1 b1 a2 b2 : Nat) : Nat → Nat := fun k => if k < 7 then D k else if k = 7 then n else if k = 8 then r else if k < 20 then B (k - 10) else if k < 30 then C (k - 20) else if k = 30 then a1 else if k = 31 then b1 else if k = 32 then a2 else b2
theorem p_Fs_new {c1 : Nat} {F : List fs_C} {σ : fs_S} (ho : fs_own F σ) (hc : fs_kc c1 σ) : ∃ σ0 σ1 A T U h, (fs_nw 0 fs_d0).1 σ = some (A 7, σ0) ∧ (f_Fs_init (A 7)).1 σ0 = some ((), σ1) ∧ fs_WF c1 A (fs_Z0 T U) h ∧ fs_nt T ∧ fs_nt U ∧ fs_own (h ++ F) σ1 ∧ fs_st σ σ1 63 1798 := by
  have o0 := own_mk (e := .inr (0, fs_d0)) (w := 4) ho
  have s0 := st_sm σ (.inr (0, fs_d0)) 4
  generalize hn : σ.2.2.2.1 = n at *
  obtain ⟨α0, α1, B, hx, T0, T1, T2, a1, a2, a3, a4, a5, ⟨n0, d0, p0, rfl⟩, ⟨n1, d1, p1, rfl⟩, ⟨n2, d2, p2, rfl⟩⟩ := p_Exporter_new o0 (kc_st hc s0) 0
  have oA := own_ix [hx, [(n, .inr (0, fs_d0))], F] [1, 0, 2] rfl (by decide) (own_eq a4 (by simp))
  have eA := own_at oA List.mem_cons_self
  have oB := own_up (e1 := .inr (0, [.ref (B 0), .null, .null, .null])) oA
  have sB := st_tr s0 (st_tr a5 (st_su α1 n (.inr (0, [.ref (B 0), .null, .null, .null]))))
  obtain ⟨β0, β1, C, hy, U0, U1, U2, b1, b2, b3, b4, b5, ⟨n3, d3, p3, rfl⟩, ⟨n4, d4, p4, rfl⟩, ⟨n5, d5, p5, rfl⟩⟩ := p_Exporter_new oB (kc_st hc sB) 1
  have oC := own_ix [hy, [(n, .inr (0, [.ref (B 0), .null, .null, .null]))], hx, F] [1, 2, 0, 3] rfl (by decide) (own_eq b4 (by simp))
  have eC := own_at oC List.mem_cons_self
  have oD := own_up (e1 := .inr (0, [.ref (B 0), .ref (C 0), .null, .null])) oC
  have sD := st_tr sB (st_tr b5 (st_su β1 n (.inr (0, [.ref (B 0), .ref (C 0), .null, .null]))))
  obtain ⟨γ0, γ1, c1', c2', c3', c4'⟩ := p_AL_new oD (kc_st hc sD)
  generalize hr : (fs_su β1 n (.inr (0, [.ref (B 0), .ref (C 0), .null, .null]))).2.2.2.1 = r at *
  have oE := own_ix [[(r, fs_ao c1 0 0)], [(n, .inr (0, [.ref (B 0), .ref (C 0), .null, .null]))], hx, hy, F] [1, 2, 3, 0, 4] rfl (by decide) (own_eq c3' (by simp))
  have eE := own_at oE List.mem_cons_self
  have oF := own_up (e1 := .inr (0, [.ref (B 0), .ref (C 0), .ref r, .null])) oE
  have sF := st_tr sD (st_tr c4' (st_su γ1 n (.inr (0, [.ref (B 0), .ref (C 0), .ref r, .null]))))
  obtain ⟨δ0, δ1, co, D, l1, m1, l2, m2, hc9, g1, g2, g3, g4, g5, g6⟩ := p_Collector_new oF (kc_st hc sF)
  have oG := own_ix [hc9, [(n, .inr (0, [.ref (B 0), .ref (C 0), .ref r, .null]))], hx, hy, [(r, fs_ao c1 0 0)], F] [1, 2, 3, 4, 0, 5] rfl (by decide) (own_eq g5 (by simp))
  have eG := own_at oG List.mem_cons_self
  have oH := own_up (e1 := .inr (0, [.ref (B 0), .ref (C 0), .ref r, .ref co])) oG
  refine ⟨_, _, fs_adr B C D n r l1 m1 l2 m2, [fs_Ti n0 d0 p0 0, fs_Ti n1 d1 p1 1, fs_Ti n2 d2 p2 2], [fs_Ti n3 d3 p3 0, fs_Ti n4 d4 p4 1, fs_Ti n5 d5 p5 2], [[(n, (.inr (0, [.ref (B 0), .ref (C 0), .ref r, .ref co]) : fs_E))], hx, hy, [(r, fs_ao c1 0 0)], hc9].flatten, by subst hn; rfl, r_b a1 <| r_b a2 <| r_b (x_pr eA 0 _ (Nat.le_of_ble_eq_true rfl)) <| r_b b1 <| r_b b2 <| r_b (x_pr eC 1 _ (Nat.le_of_ble_eq_true rfl)) <| r_b c1' <| r_b c2' <| r_b (x_pr eE 2 _ (Nat.le_of_ble_eq_true rfl)) <| r_b g1 <| r_b g2 <| r_b (x_pr eG 3 _ (Nat.le_of_ble_eq_true rfl)) rfl, ⟨hx, hy, [(r, fs_ao c1 0 0)], hc9, ?_, ?_, ?_, ⟨[(r, fs_ao c1 0 0)], rfl, Or.inl ⟨0, rfl, rfl⟩⟩, g3 _ g4 (fun k hk => if_pos hk)⟩, ⟨_, _, _, _, _, _, _, _, _, rfl⟩, ⟨_, _, _, _, _, _, _, _, _, rfl⟩, own_eq oH (by simp), st_tr sF (st_tr g6 (st_su _ _ _))⟩
  · unfold fs_fo
    rw [show fs_adr B C D n r l1 m1 l2 m2 0 = co from g4]
    rfl
  · obtain ⟨he, w1, w2, w3⟩ := a3
    exact ⟨he, w1, w2, w3⟩
  · obtain ⟨he, w1, w2, w3⟩ := b3
    exact ⟨he, w1, w2, w3⟩
