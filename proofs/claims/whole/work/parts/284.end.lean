/-! the claim -/
theorem fs_pure : fs_Pure f_Lw_law := fun b z L xs g q k0 cz hL h1 h2 hg h3 hz => law_ok ⟨hL, h1, h2, hg, q, h3⟩ hz
theorem i_vc : Claimed_1_1 ∧ Claimed_1_2 := fs_claim fs_pure
