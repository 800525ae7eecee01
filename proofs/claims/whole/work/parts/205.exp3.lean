/-! watching a packet, ticks, flushing -/
def fs_en (s : Nat → Int32) (C E : fs_Fs) (j : Nat) (why : Int32) : fs_Fs × fs_Fs := match C[j]? with
  | some q => (C.eraseIdx j, E ++ [(q.1, upd (upd q.2 7 (s 4)) 8 why)])
  | none => (C, E)
theorem en_eq {s : Nat → Int32} {C E : fs_Fs} {j a : Nat} {v : Nat → Int32} {why : Int32} (h : C[j]? = some (a, v)) : fs_en s C E j why = (C.eraseIdx j, E ++ [(a, upd (upd v 7 (s 4)) 8 why)]) := by
  unfold fs_en
  rw [h]
def fs_ad (s : Nat → Int32) (C : fs_Fs) (j : Nat) (by_ : Int32) : fs_Fs := match C[j]? with
  | some q => C.set j (q.1, upd (upd (upd q.2 4 (q.2 4 + by_)) 5 (q.2 5 + 1)) 6 (s 4))
  | none => C
theorem ad_eq {s : Nat → Int32} {C : fs_Fs} {j a : Nat} {v : Nat → Int32} {x : Int32} (h : C[j]? = some (a, v)) : fs_ad s C j x = C.set j (a, upd (upd (upd v 4 (v 4 + x)) 5 (v 5 + 1)) 6 (s 4)) := by
  unfold fs_ad
  rw [h]
def fs_w2 (s : Nat → Int32) (C E : fs_Fs) (j : Nat) (x fin : Int32) : fs_Fs × fs_Fs := if fin = 0 then (fs_ad s C j x, E) else fs_en s (fs_ad s C j x) E j 3
/-- a packet for the flow at j -/
theorem p_w2 {c1 ea ca en sl j a : Nat} {s : Nat → Int32} {C E : fs_Fs} {h F : List fs_C} {σ : fs_S} {v : Nat → Int32} {i x fin : Int32} (hX : fs_EF c1 ea ca en sl s C E h) (ho : fs_own (h ++ F) σ) (hc : σ.2.2.1 1 = c1) (hk : ∃ q, σ.2.1 c1 = some (fs_oa 3 0 q))
    (hi : i = Int32.ofNat j) (hv : C[j]? = some (a, v)) (hl : C.length < 100) (hl2 : E.length < 100) : ∃ σ1 h1, (fs_bind (fs_gr ea 1 1) fun r13 => fs_bind (fs_cv r13 2 (f_ArrayList_get r13 i)) fun r14 => fs_bind (fs_ck r14 8) fun _ => fs_bind (fs_gi ea 1 4) fun v15 => fs_bind (fs_cv r14 8 (f_Flow_addPacket r14 x v15)) fun _ =>
      if fin = 0 then (fs_ret ()) else fs_bind (fs_cv ea 1 (f_Exporter_end ea i 3)) fun _ => fs_ret ()).1 σ = some ((), σ1) ∧ fs_EF c1 ea ca en sl s (fs_w2 s C E j x fin).1 (fs_w2 s C E j x fin).2 h1 ∧ fs_own (h1 ++ F) σ1 ∧ fs_st σ σ1 1 (10 + 2 * E.length) := by
  obtain ⟨e, hC, hE⟩ := ef_rd hX ho
  obtain ⟨g1, g2⟩ := hC.2 j a v i hi hv
  have hj : j < C.length := (List.getElem?_eq_some_iff.mp hv).1
  obtain ⟨h1, hX1, ho1⟩ := ef_flow hX ho hv (upd (upd (upd v 4 (v 4 + x)) 5 (v 5 + 1)) 6 (s 4))
  unfold fs_w2
  rw [ad_eq hv]
  by_cases hf : fin = 0
  · rw [show (if fin = 0 then (C.set j (a, upd (upd (upd v 4 (v 4 + x)) 5 (v 5 + 1)) 6 (s 4)), E) else fs_en s (C.set j (a, upd (upd (upd v 4 (v 4 + x)) 5 (v 5 + 1)) 6 (s 4))) E j 3) = (C.set j (a, upd (upd (upd v 4 (v 4 + x)) 5 (v 5 + 1)) 6 (s 4)), E) from if_pos hf]
    exact ⟨_, h1, r_b (x_gr e 1 rfl) (r_b g1 (r_b (x_ck g2) (r_b (x_gi e 4 rfl) (r_b (r_cv g2 (p_Flow_addPacket g2 _ _)) (r_p hf rfl))))), hX1, ho1, st_le (st_su _ _ _) (by omega) (by omega)⟩
  · rw [show (if fin = 0 then (C.set j (a, upd (upd (upd v 4 (v 4 + x)) 5 (v 5 + 1)) 6 (s 4)), E) else fs_en s (C.set j (a, upd (upd (upd v 4 (v 4 + x)) 5 (v 5 + 1)) 6 (s 4))) E j 3) = fs_en s (C.set j (a, upd (upd (upd v 4 (v 4 + x)) 5 (v 5 + 1)) 6 (s 4))) E j 3 from if_neg hf]
    have hv1 : (C.set j (a, upd (upd (upd v 4 (v 4 + x)) 5 (v 5 + 1)) 6 (s 4)))[j]? = some (a, upd (upd (upd v 4 (v 4 + x)) 5 (v 5 + 1)) 6 (s 4)) := List.getElem?_set_self hj
    obtain ⟨σ2, h2, w1, w2, w3, w4⟩ := p_Exporter_end (why := 3) hX1 ho1 (by rw [(st_su _ _ _).2.1]; exact hc) (by rw [(st_su _ _ _).1]; exact hk) hi hv1 (by rw [List.length_set]; exact hl) hl2
    rw [en_eq hv1]
    exact ⟨σ2, h2, r_b (x_gr e 1 rfl) (r_b g1 (r_b (x_ck g2) (r_b (x_gi e 4 rfl) (r_b (r_cv g2 (p_Flow_addPacket g2 _ _)) (r_n hf (r_b w1 rfl)))))), w2, w3, st_le (st_tr (st_su _ _ _) w4) (by omega) (by omega)⟩
/-- a new flow -/
def fs_nf (x y w t : Int32) : Nat → Int32 := fun k => match k with
  | 0 => x
  | 1 => y
  | 2 => w
  | 3 => t
  | _ => 0
theorem p_Flow_new {x y w t : Int32} {σ : fs_S} : ∃ σ1, (fs_nw 8 fs_d8).1 σ = some (σ.2.2.2.1, fs_sm σ (.inr (8, fs_d8)) 9) ∧ (f_Flow_init σ.2.2.2.1 x y w t).1 (fs_sm σ (.inr (8, fs_d8)) 9) = some ((), σ1) ∧ (∀ F, fs_own F σ → fs_own ((σ.2.2.2.1, fs_fl (fs_nf x y w t)) :: F) σ1) ∧ fs_st σ σ1 1 9 := by
  have e : (fs_sm σ (.inr (8, fs_d8)) 9).1 σ.2.2.2.1 = some (.inr (8, fs_d8)) := by rw [sm_m, if_pos rfl]
  refine ⟨fs_su (fs_su (fs_su (fs_su (fs_sm σ (.inr (8, fs_d8)) 9) σ.2.2.2.1 _) σ.2.2.2.1 _) σ.2.2.2.1 _) σ.2.2.2.1 (fs_fl (fs_nf x y w t)), rfl, r_b (x_pi e 0 _ (Nat.le_of_ble_eq_true rfl)) (r_b (x_pi (su_at _ _ _) 1 _ (Nat.le_of_ble_eq_true rfl)) (r_b (x_pi (su_at _ _ _) 2 _ (Nat.le_of_ble_eq_true rfl)) (r_b (x_pi (su_at _ _ _) 3 _ (Nat.le_of_ble_eq_true rfl)) rfl))), fun F hF => own_up (own_up (own_up (own_up (own_mk hF)))), ⟨rfl, rfl, Nat.le_refl _, Nat.le_refl _⟩⟩
