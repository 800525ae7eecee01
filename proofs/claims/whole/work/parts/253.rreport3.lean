theorem rx_wst {n x a i u : Nat} {f g v : Nat → Int32} {R : fs_Rp} {S0 S : fs_R} (h : fs_rx x a i u f g v S0) (hw : fs_wst n R S0 S) : fs_rx x a i u f g v S := by
  obtain ⟨h1, h2, h3⟩ := h
  refine ⟨by rw [wst_rd hw (by decide) (by decide)]; exact h1, fun k hk => ?_, fun j hj => by rw [wst_rd hw (by decide) (by decide)]; exact h3 j hj⟩
  rw [wst_rd hw (by decide) (by decide), wst_rd hw (by decide) (by decide)]
  exact h2 k hk
theorem rpt_bad {A : Nat → Nat} {x : Int32} {S : fs_R} (hb : ¬ (x = 0 ∨ x = 1)) : fs_W A (fs_cv (A 0) 12 (f_Rf_report (A 0) x)) S fun _ S1 => S1 = r_pi_ S 0 1 :=
  w_cv <| w_nxb hb <| w_l <| w_n (by decide) <| w_pi0 <| w_gi 0 rfl <| w_n (by show ¬ (1 : Int32) = 0; decide) <| w_ret rfl
theorem li_neg {x : Nat} (hx : x < 2) {L : List fs_Sl} (hL : L.length = 3) : fs_li x (fs_nl L 0 none) < 0 ↔ fs_nl L 0 none = none := by
  cases hq : fs_nl L 0 none with
  | none => exact ⟨fun _ => rfl, fun _ => (show (-1 : Int32) < 0 by decide)⟩
  | some p =>
    have := nl_in L 0 none _ hq (fun q hq => by cases hq) p rfl
    exact ⟨fun z => absurd z (Int32.ofNat_not_neg (by omega)), fun z => by cases z⟩
theorem rpt_ise {A : Nat → Nat} {x e w : Nat} {L : List fs_Sl} {S : fs_R} (hx : x < 2) (hL : fs_sr_ x L S.2.1) (h13 : S.2.1 13 x = Int32.ofNat e) (he : e ≤ 20) (h5 : S.2.1 5 x = Int32.ofNat w) (hw : w ≤ 100) (hb : e = 0 ∨ fs_nl L 0 none = none ∨ w = 100 ∨ S.1 25 = 30) : fs_W A (fs_cv (A 0) 12 (f_Rf_report (A 0) (Int32.ofNat x))) S fun _ S1 => S1 = r_pi_ S 0 2 := by
  have fin : ∀ {T : fs_T Int32}, fs_W A (fs_bind (fs_pi (A 0) 12 0 2) fun _ => fs_bind (fs_gi (A 0) 12 0) fun v3 => if v3 = 0 then T else fs_ret 0) S fun _ S1 => S1 = r_pi_ S 0 2 := fun {T} => w_pi0 <| w_gi 0 rfl <| w_n (by show ¬ (2 : Int32) = 0; decide) <| w_ret rfl
  refine w_cv <| w_nxk (x2 hx) <| w_l <| w_p rfl <| w_gr 13 rfl <| w_ai m13 rfl hx ?_
  rw [h13]
  refine w_l <| w_i (fun _ => fin) fun h0 => w_lastk hx hL <| w_i (fun _ => fin) fun h1 => w_gr 5 rfl <| w_ai m5 rfl hx ?_
  rw [h5]
  refine w_i (fun _ => fin) fun h2 => w_gi 25 rfl <| w_p ?_ fin
  rcases hb with hb | hb | hb | hb
  · subst hb
    exact absurd rfl h0
  · exact absurd ((li_neg hx hL.1).mpr hb) h1
  · subst hb
    exact absurd rfl h2
  · exact hb
set_option maxRecDepth 100000 in
theorem rpt_ok {A : Nat → Nat} {x k e w n ep rv u : Nat} {y : Int32} {L : List fs_Sl} {E : fs_Fs} {f g : Nat → Int32} {S : fs_R} (na : Nat) (hx : x < 2) (hL : fs_sr_ x L S.2.1) (h13 : S.2.1 13 x = Int32.ofNat E.length) (hE : E.length ≤ 20) (hE0 : E.length ≠ 0) (h5 : S.2.1 5 x = Int32.ofNat w) (hw : w < 100) (hk : fs_nl L 0 none = some (k, y)) (hk3 : k < 3) (hn : n < 30) (h25 : S.1 25 = Int32.ofNat n) (h2 : S.2.1 2 x = Int32.ofNat ep) (hep : ep ≤ 255) (h19 : S.2.1 19 (3 * x + k) = Int32.ofNat rv) (hrv : rv ≤ 255) (hu : u ≤ 8) (hr : ∀ i q, E[i]? = some q → fs_rx x (3 * x + k) i u f g q.2 S) (hb : fs_bl f g u) (hv : ∀ q ∈ E, fs_vn q.2) :
    fs_W A (fs_cv (A 0) 12 (f_Rf_report (A 0) (Int32.ofNat x))) S (fs_rpp n x (fs_ft f g u (E.take (min E.length (100 - w))) 0 7) w E (fs_wl f g u (fs_ra (fs_ra (fs_ra (fs_ra (fs_rn na (Int32.ofNat x) (Int32.ofNat ep) 1) (Int32.ofNat k)) (Int32.ofNat rv)) (Int32.ofNat (fs_ft f g u (E.take (min E.length (100 - w))) 0 7))) (Int32.ofNat w)) (E.take (fs_ft f g u (E.take (min E.length (100 - w))) 0 7))) (r_pi_ S 0 0)) := by
  have hli : fs_li x (fs_nl L 0 none) = Int32.ofNat (3 * x + k) := by rw [hk]; rfl
  obtain ⟨c, c1, c2, c3⟩ := ft_sum hu hb (E.take (min E.length (100 - w))) 0 7 (by decide)
  have c1' : fs_ft f g u (E.take (min E.length (100 - w))) 0 7 = c := by
    rw [Nat.zero_add] at c1
    exact c1
  rw [List.length_take] at c2
  rw [c1']
  have c4 : (E.take (min E.length (100 - w))).take c = E.take c := by rw [List.take_take]; congr 1; omega
  rw [c4] at c3
  have hL2 : fs_sr_ x L (r_pi_ S 0 0).2.1 := hL
  refine w_cv <| w_nxk (x2 hx) <| w_l <| w_p rfl <| w_gr 13 rfl <| w_ai m13 rfl hx ?_
  rw [h13]
  refine w_l <| w_n (fun z => hE0 (n_inj (b := 0) (by omega) (by decide) z)) <| w_lastk hx hL ?_
  rw [hli]
  refine w_n (Int32.ofNat_not_neg (by omega)) <| w_gr 5 rfl <| w_ai m5 rfl hx ?_
  rw [h5]
  refine w_n (fun z => by have := n_inj (b := 100) (by omega) (by decide) z; omega) <| w_gi 25 rfl <| w_n ?_ <| w_pi0 <| w_gi 0 rfl <| w_p rfl <| w_lastk hx hL2 ?_
  · rw [h25]
    exact fun z => by have := n_inj (b := 30) (by omega) (by decide) z; omega
  · rw [hli]
    refine w_head (n := n) (e := ep) na hx hn h25 h2 hep (by decide) fun S1 w1 => ?_
    rw [show (3 : Int32) * Int32.ofNat x = Int32.ofNat (3 * x) from n_m 3 x, n_s (by omega), show 3 * x + k - 3 * x = k by omega]
    refine w_wk w1 hn h25 (show 3 < 64 by decide) (and255 (by omega)).symm fun S2 w2 => w_gr 19 rfl <| w_ai m19 rfl (by omega) ?_
    have e2 : (fs_ra (fs_rn na (Int32.ofNat x) (Int32.ofNat ep) 1) (Int32.ofNat k)).2.2.1 = 4 := ra_used _ (show 3 < 64 by decide)
    rw [wst_rd w2 (by decide) (by decide), show (r_pi_ S 0 0).2.1 19 (3 * x + k) = Int32.ofNat rv from h19]
    refine w_wk w2 hn h25 (by omega) (and255 hrv).symm fun S3 w3 => ?_
    have e3 : (fs_ra (fs_ra (fs_rn na (Int32.ofNat x) (Int32.ofNat ep) 1) (Int32.ofNat k)) (Int32.ofNat rv)).2.2.1 = 5 := (ra_used _ (by omega)).trans (by omega)
    have h13' : S3.2.1 13 x = Int32.ofNat E.length := by rw [wst_rd w3 (by decide) (by decide)]; exact h13
    have h5' : S3.2.1 5 x = Int32.ofNat w := by rw [wst_rd w3 (by decide) (by decide)]; exact h5
    have hr0 : ∀ i q, E[i]? = some q → fs_rx x (3 * x + k) i u f g q.2 (r_pi_ S 0 0) := hr
    show fs_W A (fs_lp2 4096 (lb_Rf_report_104 (A 0) (Int32.ofNat x) (Int32.ofNat (3 * x + k))) 0 57) S3 _
    rw [show (57 : Int32) = Int32.ofNat (64 - 7) by decide]
    refine w_many hx (by omega) hu hE (by omega) h13' h5' (fun i q hq => rx_wst (hr0 i q hq) w3) hb hv (E.take (min E.length (100 - w))) 4096 0 7 rfl (Nat.zero_le _) (by rw [List.length_take]; omega) (by decide) ?_
    rw [show fs_ft f g u (E.take (min E.length (100 - w))) 0 (Int32.ofNat 7) = c from c1']
    refine w_wk w3 hn h25 (by omega) (and255 (by omega)).symm fun S4 w4 => w_gr 5 rfl <| w_ai m5 rfl hx ?_
    have e4 : (fs_ra (fs_ra (fs_ra (fs_rn na (Int32.ofNat x) (Int32.ofNat ep) 1) (Int32.ofNat k)) (Int32.ofNat rv)) (Int32.ofNat c)).2.2.1 = 6 := (ra_used _ (by omega)).trans (by omega)
    rw [wst_rd w4 (by decide) (by decide), show (r_pi_ S 0 0).2.1 5 x = Int32.ofNat w from h5]
    refine w_wk w4 hn h25 (by omega) (and255 (by omega)).symm fun S5 w5 => ?_
    have e5 : (fs_ra (fs_ra (fs_ra (fs_ra (fs_rn na (Int32.ofNat x) (Int32.ofNat ep) 1) (Int32.ofNat k)) (Int32.ofNat rv)) (Int32.ofNat c)) (Int32.ofNat w)).2.2.1 = 7 := (ra_used _ (by omega)).trans (by omega)
    exact w_r175 (S0 := r_pi_ S 0 0) hn h25 hx (by omega) hu hE (by omega) (by omega) h13 h5 hr0 hb hv (E.take c) 4096 0 _ S5 w5 rfl (Nat.zero_le _) (by rw [List.length_take]; omega) (by rw [e5]; exact c3)
