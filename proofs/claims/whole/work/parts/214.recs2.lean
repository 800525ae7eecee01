theorem mn_le (L : fs_Ly) (E : fs_Fs) (w : Nat) : fs_mn L E w ≤ E.length := by
  have := ft_le L.2.2.2.2.1 L.2.2.2.2.2 L.2.2.2.1 (E.take (min E.length (100 - w))) 0 7
  rw [List.length_take] at this
  unfold fs_mn
  omega
def fs_rr (n : Nat) (s t : Nat → Int32) (L : fs_Ly) (E : fs_Fs) (k : Nat) : fs_Rp := fs_wl L.2.2.2.2.1 L.2.2.2.2.2 L.2.2.2.1 (fs_ra (fs_ra (fs_ra (fs_ra (fs_rn n (s 0) (s 5) 1) (t 0)) (t 4)) (Int32.ofNat k)) (s 9)) (E.take k)
theorem p_Exporter_writeRecords {L : fs_Ly} {c1 ea ca en sl sa d w : Nat} {s t : Nat → Int32} {C E : fs_Fs} {h F : List fs_C} {σ : fs_S} (hX : fs_EF c1 ea ca en sl s C E h) (hs : (sa, fs_so t d L.1) ∈ F) (hL : fs_lf L F) (hu : L.2.2.2.1 ≤ 8) (hg : ∀ i, i < L.2.2.2.1 → L.2.2.2.2.2 i = Int32.ofNat (L.2.2.2.2.2 i).toNatClampNeg ∧ (L.2.2.2.2.2 i).toNatClampNeg ≤ 4) (ho : fs_own (h ++ F) σ) (hl : E.length < 100) (hw : s 9 = Int32.ofNat w) (hw1 : w ≤ 100) :
    ∃ σ1 h1, (fs_cv ea 1 (f_Exporter_writeRecords ea sa)).1 σ = some (σ.2.2.2.1, σ1) ∧ fs_EF c1 ea ca en sl (upd s 9 (s 9 + Int32.ofNat (fs_mn L E w))) C (E.drop (fs_mn L E w)) h1 ∧ fs_own (fs_rc (fs_rr σ.2.2.2.1 s t L E (fs_mn L E w)) ++ (h1 ++ F)) σ1 ∧ fs_st σ σ1 2 66 := by
  obtain ⟨e, -, hE⟩ := ef_rd hX ho
  have hm : (ea, fs_xc s ca en sl) ∈ h ++ F := List.mem_append_left _ (ef_mem hX)
  have hs' : (sa, fs_so t d L.1) ∈ h ++ F := List.mem_append_right _ hs
  have es := own_at ho hs'
  have hfit := p_recordsThatFit e hE (own_at ho (List.mem_append_right _ hL.1)) (own_at ho (List.mem_append_right _ hL.2.1)) (own_at ho (List.mem_append_right _ hL.2.2)) hu hl hw hw1
  have hmn := mn_le L E w
  generalize fs_mn L E w = k at hfit hmn ⊢
  obtain ⟨σ0, σ1, n1, n2, n3, n4, n5⟩ := p_Report_new ho (s 0) (s 5) 1
  have e0 := n2 _ _ hm
  have u1 : (fs_rn σ.2.2.2.1 (s 0) (s 5) 1).2.2.1 ≤ 64 := by show 3 ≤ 64; omega
  obtain ⟨σ2, w1, w2, w3⟩ := p_Report_append n4 u1 (t 0)
  have u2 := (ra_1 (fs_rn σ.2.2.2.1 (s 0) (s 5) 1) (t 0)).2 u1
  obtain ⟨σ3, k1, k2, k3⟩ := p_Report_append w2 u2 (t 4)
  rw [(ra_1 _ _).1] at k1
  have u3 := (ra_1 (fs_ra (fs_rn σ.2.2.2.1 (s 0) (s 5) 1) (t 0)) (t 4)).2 u2
  obtain ⟨σ4, j1, j2, j3⟩ := p_Report_append k2 u3 (Int32.ofNat k)
  rw [(ra_1 _ _).1, (ra_1 _ _).1] at j1
  have u4 := (ra_1 (fs_ra (fs_ra (fs_rn σ.2.2.2.1 (s 0) (s 5) 1) (t 0)) (t 4)) (Int32.ofNat k)).2 u3
  obtain ⟨σ5, i1, i2, i3⟩ := p_Report_append j2 u4 (s 9)
  rw [(ra_1 _ _).1, (ra_1 _ _).1, (ra_1 _ _).1] at i1
  have u5 := (ra_1 (fs_ra (fs_ra (fs_ra (fs_rn σ.2.2.2.1 (s 0) (s 5) 1) (t 0)) (t 4)) (Int32.ofNat k)) (s 9)).2 u4
  obtain ⟨σ6, h6, g1, g2, g3, g4⟩ := wl_loop (c1 := c1) (ea := ea) (ca := ca) (en := en) (sl := sl) (C := C) (s := s) (b := σ.2.2.2.1) (n := k) hs hL hu hg (by omega) (E.take k) 4096 (E.drop k) 0 _ σ5 h (by rw [List.take_append_drop]; exact hX) (by rw [(ra_1 _ _).1, (ra_1 _ _).1, (ra_1 _ _).1, (ra_1 _ _).1]; rfl) u5 i2 (by rw [List.length_take]; omega) (by rw [List.length_take]; omega) (by rw [List.length_take, List.length_drop]; omega)
  refine ⟨σ6, h6, r_cv e (r_b (x_gr es 2 rfl) (r_b hfit (r_b n1 (r_b (x_gi e0 0 rfl) (r_b (x_gi e0 5 rfl) (r_b n3 (r_b (x_gi (own_at n4 (List.mem_append_right _ hs')) 0 rfl) (r_b w1 (r_b (x_gi (own_at w2 (List.mem_append_right _ hs')) 4 rfl) (r_b k1 (r_b j1 (r_b (x_gi (own_at j2 (List.mem_append_right _ hm)) 9 rfl) (r_b i1 g1))))))))))))), g2, g3, ?_⟩
  exact st_le (st_tr (st_tr (st_tr (st_tr (st_tr n5 w3) k3) j3) i3) g4) (by omega) (by omega)
theorem p_Exporter_nextSeal {ea ca en sl : Nat} {s : Nat → Int32} {σ : fs_S} (e : σ.1 ea = some (fs_xc s ca en sl)) : (fs_cv ea 1 (f_Exporter_nextSeal ea)).1 σ = some (s 8 + 1, fs_su σ ea (fs_xc (upd s 8 (s 8 + 1)) ca en sl)) :=
  r_cv e (r_b (x_gi e 8 rfl) (r_b (σ1 := fs_su σ ea (fs_xc (upd s 8 (s 8 + 1)) ca en sl)) (x_pi e 8 _ (Nat.le_of_ble_eq_true rfl)) (r_b (x_gi (su_at _ _ _) 8 rfl) rfl)))
