theorem ef_new {c1 ea ca en sl : Nat} {s : Nat → Int32} {C E : fs_Fs} {h F : List fs_C} {σ : fs_S} {x y w : Int32} (hX : fs_EF c1 ea ca en sl s C E h) (ho : fs_own (h ++ F) σ) (hc : σ.2.2.1 1 = c1) (hk : ∃ q, σ.2.1 c1 = some (fs_oa 3 0 q)) (hl : C.length < 100) :
    ∃ σ1 σ2 h1, (fs_nw 8 fs_d8).1 σ = some (σ.2.2.2.1, fs_sm σ (.inr (8, fs_d8)) 9) ∧ (fs_gi ea 1 4).1 (fs_sm σ (.inr (8, fs_d8)) 9) = some (s 4, fs_sm σ (.inr (8, fs_d8)) 9) ∧ (f_Flow_init σ.2.2.2.1 x y w (s 4)).1 (fs_sm σ (.inr (8, fs_d8)) 9) = some ((), σ1) ∧ (fs_cv ca 2 (f_ArrayList_add_0 ca σ.2.2.2.1)).1 σ1 = some (1, σ2) ∧
      fs_EF c1 ea ca en sl s (C ++ [(σ.2.2.2.1, fs_nf x y w (s 4))]) E h1 ∧ fs_own (h1 ++ F) σ2 ∧ fs_st σ σ2 2 (19 + 2 * C.length) := by
  obtain ⟨hc9, he9, rfl, hA, hB⟩ := hX
  rw [flat5] at ho
  obtain ⟨σ1, q1, q2, q3, q4⟩ := p_Flow_new (x := x) (y := y) (w := w) (t := s 4) (σ := σ)
  have e0 := own_c ho 0 rfl List.mem_cons_self
  have o0 : fs_own _ (fs_sm σ (.inr (8, fs_d8)) 9) := own_mk (e := .inr (8, fs_d8)) (w := 9) ho
  have e1 := own_at o0 (List.mem_cons_of_mem _ List.mem_cons_self)
  have o1 := own_ix [[(σ.2.2.2.1, fs_fl (fs_nf x y w (s 4)))], [(ea, fs_xc s ca en sl)], hc9, he9, fs_fc C, fs_fc E, F] [2, 0, 1, 3, 4, 5, 6] rfl (by decide) (q3 _ ho)
  obtain ⟨σ2, h2, w1, w2, w3, w4⟩ := p_AL_add hA o1 (by rw [q4.2.1]; exact hc) (by rw [q4.1]; exact hk) (r := σ.2.2.2.1) (c := 8) List.mem_cons_self (by decide) (fun y9 hy => by
    obtain ⟨c, fs, h1', h2⟩ := fc_obj hy
    exact ⟨c, fs, mem_c (L := [[(σ.2.2.2.1, fs_fl (fs_nf x y w (s 4)))], [(ea, fs_xc s ca en sl)], he9, fs_fc C, fs_fc E, F]) 3 rfl h1', h2⟩) (by rw [List.length_map]; exact hl)
  refine ⟨σ1, σ2, _, q1, x_gi e1 4 rfl, q2, w1, ⟨h2, he9, rfl, by rw [List.map_append]; exact w2, hB⟩, ?_, ?_⟩
  · rw [flat5]
    have e9 : fs_fc (C ++ [(σ.2.2.2.1, fs_nf x y w (s 4))]) = fs_fc C ++ [(σ.2.2.2.1, fs_fl (fs_nf x y w (s 4)))] := List.map_append
    have := own_ix [h2, [(σ.2.2.2.1, fs_fl (fs_nf x y w (s 4)))], [(ea, fs_xc s ca en sl)], he9, fs_fc C, fs_fc E, F] [2, 0, 3, 4, 1, 5, 6] rfl (by decide) w3
    rw [e9]
    simpa [List.append_assoc] using this
  · have := st_tr q4 w4
    rw [List.length_map] at this
    exact st_le this (by omega) (by omega)
def fs_fd (x y w : Int32) : fs_Fs → Nat → Option Nat
  | [], _ => none
  | q :: l, i => if q.2 0 = x ∧ q.2 1 = y ∧ q.2 2 = w then some i else fs_fd x y w l (i + 1)
theorem fd_pl (x y w : Int32) : ∀ (l : fs_Fs) (i : Nat), (fs_fd x y w l i = none ∧ fs_pl x y w l i = -1) ∨ ∃ j, j < l.length ∧ fs_fd x y w l i = some (i + j) ∧ fs_pl x y w l i = Int32.ofNat (i + j)
  | [], i => Or.inl ⟨rfl, rfl⟩
  | q :: l, i => by
    have e1 : fs_fd x y w (q :: l) i = if q.2 0 = x ∧ q.2 1 = y ∧ q.2 2 = w then some i else fs_fd x y w l (i + 1) := rfl
    have e2 : fs_pl x y w (q :: l) i = if q.2 0 = x ∧ q.2 1 = y ∧ q.2 2 = w then Int32.ofNat i else fs_pl x y w l (i + 1) := rfl
    rw [e1, e2]
    by_cases h : q.2 0 = x ∧ q.2 1 = y ∧ q.2 2 = w
    · rw [if_pos h, if_pos h]
      exact Or.inr ⟨0, Nat.zero_lt_succ _, rfl, rfl⟩
    · rw [if_neg h, if_neg h]
      rcases fd_pl x y w l (i + 1) with q | ⟨j, h1, h2, h3⟩
      · exact Or.inl q
      · exact Or.inr ⟨j + 1, Nat.succ_lt_succ h1, by rw [h2]; congr 1; omega, by rw [h3]; congr 1; omega⟩
theorem ofNat_ne_m1 {n : Nat} (h : n < 2 ^ 31) : ¬ Int32.ofNat n = -1 := fun e => Int32.ofNat_not_neg h (by rw [e]; decide)
def fs_ev (s : Nat → Int32) (C E : fs_Fs) : fs_Fs × fs_Fs := if C.length < 6 then (C, E) else fs_en s C E (fs_lr (C.drop 1) 0 ((C.getD 0 (0, fun _ => 0)).2 6) 1) 4
def fs_watch (s : Nat → Int32) (C E : fs_Fs) (x y w z fin : Int32) (na : Nat) : fs_Fs × fs_Fs := match fs_fd x y w C 0 with
  | some j => fs_w2 s C E j z fin
  | none => fs_w2 s ((fs_ev s C E).1 ++ [(na, fs_nf x y w (s 4))]) (fs_ev s C E).2 (fs_ev s C E).1.length z fin
theorem p_Exporter_watch {c1 ea ca en sl : Nat} {s : Nat → Int32} {C E : fs_Fs} {h F : List fs_C} {σ : fs_S} {x y w z fin : Int32} (hX : fs_EF c1 ea ca en sl s C E h) (ho : fs_own (h ++ F) σ) (hc : σ.2.2.1 1 = c1) (hk : ∃ q, σ.2.1 c1 = some (fs_oa 3 0 q)) (hl : C.length + E.length < 90) :
    ∃ σ1 h1 na, (fs_cv ea 1 (f_Exporter_watch ea x y w z fin)).1 σ = some ((), σ1) ∧ fs_EF c1 ea ca en sl s (fs_watch s C E x y w z fin na).1 (fs_watch s C E x y w z fin na).2 h1 ∧ fs_own (h1 ++ F) σ1 ∧ fs_st σ σ1 4 (60 + 6 * (C.length + E.length)) := by
  obtain ⟨e, hC, hE⟩ := ef_rd hX ho
  have hp := p_Exporter_placeInCache e hC (by omega) x y w
  rcases fd_pl x y w C 0 with ⟨f1, f2⟩ | ⟨j, hj, f1, f2⟩
  · rw [f2] at hp
    have key : ∀ (σ2 : fs_S) (C2 E2 : fs_Fs) (h2 : List fs_C), fs_EF c1 ea ca en sl s C2 E2 h2 → fs_own (h2 ++ F) σ2 → fs_st σ σ2 1 (10 + 2 * E.length) → C2.length ≤ C.length → C2.length + E2.length = C.length + E.length →
        ∃ σ1 h1 na, (fs_bind (fs_gr ea 1 1) fun r5 => fs_bind (fs_nw 8 fs_d8) fun r6 => fs_bind (fs_gi ea 1 4) fun v7 => fs_bind (f_Flow_init r6 x y w v7) fun _ => fs_bind (fs_cv r5 2 (f_ArrayList_add_0 r5 r6)) fun v8 => fs_bind (fs_gr ea 1 1) fun r9 => fs_bind (fs_cv r9 2 (f_ArrayList_size r9)) fun v10 => fs_nm ((v10 - 1) : Int32) fun v11 =>
          fs_bind (fs_gr ea 1 1) fun r13 => fs_bind (fs_cv r13 2 (f_ArrayList_get r13 v11)) fun r14 => fs_bind (fs_ck r14 8) fun _ => fs_bind (fs_gi ea 1 4) fun v15 => fs_bind (fs_cv r14 8 (f_Flow_addPacket r14 z v15)) fun _ =>
          if fin = 0 then (fs_ret ()) else fs_bind (fs_cv ea 1 (f_Exporter_end ea v11 3)) fun _ => fs_ret ()).1 σ2 = some ((), σ1) ∧ fs_EF c1 ea ca en sl s (fs_w2 s (C2 ++ [(na, fs_nf x y w (s 4))]) E2 C2.length z fin).1 (fs_w2 s (C2 ++ [(na, fs_nf x y w (s 4))]) E2 C2.length z fin).2 h1 ∧ fs_own (h1 ++ F) σ1 ∧ fs_st σ σ1 4 (60 + 6 * (C.length + E.length)) := by
      intro σ2 C2 E2 h2 hX2 ho2 s2 l1 l2
      obtain ⟨e2, hC2, hE2⟩ := ef_rd hX2 ho2
      obtain ⟨σ3, σ4, h4, n1, n2, n3, n4, n5, n6, n7⟩ := ef_new (x := x) (y := y) (w := w) hX2 ho2 (by rw [s2.2.1]; exact hc) (by rw [s2.1]; exact hk) (by omega)
      have s4 := st_tr s2 n7
      obtain ⟨e4, hC4, hE4⟩ := ef_rd n5 n6
      have hlen : (C2 ++ [(σ2.2.2.2.1, fs_nf x y w (s 4))]).length = C2.length + 1 := by rw [List.length_append]; rfl
      obtain ⟨σ5, h5, w1, w2, w3, w4⟩ := p_w2 (i := Int32.ofNat C2.length) (j := C2.length) (a := σ2.2.2.2.1) (v := fs_nf x y w (s 4)) (x := z) (fin := fin) n5 n6 (by rw [s4.2.1]; exact hc) (by rw [s4.1]; exact hk) rfl (by simp) (by omega) (by omega)
      refine ⟨σ5, h5, σ2.2.2.2.1, r_b (x_gr e2 1 rfl) (r_b n1 (r_b n2 (r_b n3 (r_b n4 (r_b (x_gr e4 1 rfl) (r_b hC4.1 (r_m ?_))))))), w2, w3, st_le (st_tr s4 w4) (by omega) (by omega)⟩
      rw [hlen, ofNat_sub1 (by omega)]
      exact w1
    have hw : ∀ na, fs_watch s C E x y w z fin na = fs_w2 s ((fs_ev s C E).1 ++ [(na, fs_nf x y w (s 4))]) (fs_ev s C E).2 (fs_ev s C E).1.length z fin := fun na => by
      unfold fs_watch
      rw [f1]
    by_cases h6 : C.length < 6
    · have hev : fs_ev s C E = (C, E) := if_pos h6
      obtain ⟨σ1, h1, na, k1, k2, k3, k4⟩ := key σ C E h hX ho (st_le (st_rf σ) (by omega) (by omega)) (Nat.le_refl _) rfl
      refine ⟨σ1, h1, na, r_cv e (r_b hp (r_l (r_p rfl (r_b (x_gr e 1 rfl) (r_b hC.1 (r_l (r_p ?_ k1))))))), ?_, k3, k4⟩
      · exact (Int32.ofNat_lt_ofNat (k := C.length) (n := 6) (by omega) (by omega)).mpr h6
      · rw [hw na, hev]
        exact k2
    · have h0 : C[0]? = some ((C.getD 0 (0, fun _ => 0)).1, (C.getD 0 (0, fun _ => 0)).2) := by
        cases C with
        | nil => exact absurd (show ([] : fs_Fs).length < 6 by decide) h6
        | cons q l => rfl
      obtain ⟨l1, l2⟩ := p_Exporter_leastRecent e hC (by omega) h0
      obtain ⟨⟨a9, v9⟩, hv9⟩ : ∃ q, C[fs_lr (C.drop 1) 0 ((C.getD 0 (0, fun _ => 0)).2 6) 1]? = some q := ⟨_, List.getElem?_eq_getElem l1⟩
      obtain ⟨σ2, h2, w1, w2, w3, w4⟩ := p_Exporter_end (why := 4) hX ho hc hk rfl hv9 (by omega) (by omega)
      have hev : fs_ev s C E = (C.eraseIdx (fs_lr (C.drop 1) 0 ((C.getD 0 (0, fun _ => 0)).2 6) 1), E ++ [(a9, upd (upd v9 7 (s 4)) 8 4)]) := (if_neg h6).trans (en_eq hv9)
      obtain ⟨σ1, h1, na, k1, k2, k3, k4⟩ := key σ2 _ _ h2 w2 w3 w4 (List.length_eraseIdx_le _ _) (by rw [List.length_eraseIdx_of_lt l1, List.length_append]; simp; omega)
      refine ⟨σ1, h1, na, r_cv e (r_b hp (r_l (r_p rfl (r_b (x_gr e 1 rfl) (r_b hC.1 (r_l (r_n ?_ (r_b l2 (r_b w1 k1))))))))), ?_, k3, k4⟩
      · exact fun q => h6 ((Int32.ofNat_lt_ofNat (k := C.length) (n := 6) (by omega) (by omega)).mp q)
      · rw [hw na, hev]
        exact k2
  · rw [Nat.zero_add] at f1 f2
    rw [f2] at hp
    obtain ⟨⟨a, v⟩, hv⟩ : ∃ q, C[j]? = some q := ⟨_, List.getElem?_eq_getElem hj⟩
    obtain ⟨σ1, h1, w1, w2, w3, w4⟩ := p_w2 (x := z) (fin := fin) hX ho hc hk rfl hv (by omega) (by omega)
    have hw : fs_watch s C E x y w z fin 0 = fs_w2 s C E j z fin := by
      unfold fs_watch
      rw [f1]
    exact ⟨σ1, h1, 0, r_cv e (r_b hp (r_l (r_n (ofNat_ne_m1 (by omega)) w1))), by rw [hw]; exact w2, w3, st_le w4 (by omega) (by omega)⟩
