/-! small numbers as ints -/
theorem n_and (a b : Nat) : Int32.ofNat a &&& Int32.ofNat b = Int32.ofNat (a &&& b) := by
  apply Int32.toBitVec_inj.mp
  simp [Int32.toBitVec_ofNat', BitVec.ofNat_and]
theorem n_or (a b : Nat) : Int32.ofNat a ||| Int32.ofNat b = Int32.ofNat (a ||| b) := by
  apply Int32.toBitVec_inj.mp
  simp [Int32.toBitVec_ofNat', BitVec.ofNat_or]
theorem n_smod : ∀ k, k < 32 → (BitVec.ofNat 32 k).smod 32 = BitVec.ofNat 32 k := by decide
theorem n_shl (a : Nat) {k : Nat} (hk : k < 32) : Int32.ofNat a <<< Int32.ofNat k = Int32.ofNat (a <<< k) := by
  apply Int32.toBitVec_inj.mp
  rw [Int32.toBitVec_shiftLeft, Int32.toBitVec_ofNat', Int32.toBitVec_ofNat', Int32.toBitVec_ofNat', n_smod k hk]
  apply BitVec.eq_of_toNat_eq
  rw [BitVec.shiftLeft_eq', BitVec.toNat_shiftLeft, BitVec.toNat_ofNat, BitVec.toNat_ofNat, BitVec.toNat_ofNat, Nat.mod_eq_of_lt (show k < 2 ^ 32 by omega), Nat.shiftLeft_eq, Nat.shiftLeft_eq, Nat.mod_mul_mod]
theorem n_shr {a : Nat} (ha : a < 2 ^ 31) {k : Nat} (hk : k < 32) : Int32.ofNat a >>> Int32.ofNat k = Int32.ofNat (a >>> k) := by
  apply Int32.toBitVec_inj.mp
  rw [Int32.toBitVec_shiftRight, Int32.toBitVec_ofNat', Int32.toBitVec_ofNat', Int32.toBitVec_ofNat', n_smod k hk]
  have hm : (BitVec.ofNat 32 a).msb = false := by
    rw [BitVec.msb_eq_false_iff_two_mul_lt, BitVec.toNat_ofNat]
    omega
  have hle : a >>> k ≤ a := by
    rw [Nat.shiftRight_eq_div_pow]
    exact Nat.div_le_self _ _
  show (BitVec.ofNat 32 a).sshiftRight (BitVec.ofNat 32 k).toNat = _
  rw [BitVec.sshiftRight_eq_of_msb_false hm]
  apply BitVec.eq_of_toNat_eq
  rw [BitVec.toNat_ushiftRight, BitVec.toNat_ofNat, BitVec.toNat_ofNat, BitVec.toNat_ofNat, Nat.mod_eq_of_lt (show k < 2 ^ 32 by omega), Nat.mod_eq_of_lt (show a < 2 ^ 32 by omega), Nat.mod_eq_of_lt (show a >>> k < 2 ^ 32 by omega)]
theorem n_ushr {a : Nat} (ha : a < 2 ^ 31) {k : Nat} (hk : k < 32) : fs_ushr (Int32.ofNat a) (Int32.ofNat k) = Int32.ofNat (a >>> k) := by
  unfold fs_ushr
  apply Int32.toBitVec_inj.mp
  have hle : a >>> k ≤ a := by
    rw [Nat.shiftRight_eq_div_pow]
    exact Nat.div_le_self _ _
  have hand : ∀ k, k < 32 → (((Int32.ofNat k).toUInt32 &&& Int32.toUInt32 31).toBitVec % 32).toNat = k := by decide
  show ((Int32.ofNat a).toUInt32 >>> ((Int32.ofNat k).toUInt32 &&& Int32.toUInt32 31)).toBitVec = _
  rw [UInt32.toBitVec_shiftRight]
  apply BitVec.eq_of_toNat_eq
  rw [BitVec.ushiftRight_eq', BitVec.toNat_ushiftRight, hand k hk, Int32.toBitVec_ofNat', BitVec.toNat_ofNat]
  show ((Int32.ofNat a).toBitVec).toNat >>> k = _
  rw [Int32.toBitVec_ofNat', BitVec.toNat_ofNat, Nat.mod_eq_of_lt (show a < 2 ^ 32 by omega), Nat.mod_eq_of_lt (show a >>> k < 2 ^ 32 by omega)]
theorem n_inj {a b : Nat} (ha : a < 2 ^ 31) (hb : b < 2 ^ 31) (h : Int32.ofNat a = Int32.ofNat b) : a = b := by
  have h1 : (Int32.ofNat a).toNatClampNeg = a := Int32.toNatClampNeg_ofNat_of_lt ha
  have h2 : (Int32.ofNat b).toNatClampNeg = b := Int32.toNatClampNeg_ofNat_of_lt hb
  rw [h, h2] at h1
  exact h1.symm
theorem n_ma (c x y : Nat) : Int32.ofNat c * Int32.ofNat x + Int32.ofNat y = Int32.ofNat (c * x + y) := by rw [Int32.ofNat_add, Int32.ofNat_mul]
theorem n_m (c x : Nat) : Int32.ofNat c * Int32.ofNat x = Int32.ofNat (c * x) := by rw [Int32.ofNat_mul]
theorem n_a (x y : Nat) : Int32.ofNat x + Int32.ofNat y = Int32.ofNat (x + y) := by rw [Int32.ofNat_add]
theorem n_s {x y : Nat} (h : y ≤ x) : Int32.ofNat x - Int32.ofNat y = Int32.ofNat (x - y) := (Int32.ofNat_sub x y h).symm
theorem n_le {x y : Nat} (hx : x < 2 ^ 31) (hy : y < 2 ^ 31) : Int32.ofNat x ≤ Int32.ofNat y ↔ x ≤ y := Int32.ofNat_le_ofNat hx hy
theorem n_lt {x y : Nat} (hx : x < 2 ^ 31) (hy : y < 2 ^ 31) : Int32.ofNat x < Int32.ofNat y ↔ x < y := Int32.ofNat_lt_ofNat hx hy
/-! a key -/
def fs_key (v : Nat → Int32) : Int32 := ((v 0 <<< (16 &&& 31)) ||| (v 1 <<< (8 &&& 31))) ||| v 2
def fs_by3 (v : Nat → Int32) : Prop := ∀ i, i < 3 → ∃ b, b ≤ 255 ∧ v i = Int32.ofNat b
theorem key_n {a b c : Nat} (hb : b ≤ 255) (hc : c ≤ 255) : (a <<< 16 ||| b <<< 8) ||| c = 65536 * a + 256 * b + c := by
  have h1 := Nat.two_pow_add_eq_or_of_lt (i := 8) (b := c) (by omega) (256 * a + b)
  have h2 := Nat.two_pow_add_eq_or_of_lt (i := 16) (b := 256 * b) (by omega) a
  rw [Nat.shiftLeft_eq, Nat.shiftLeft_eq]
  have e1 : a * 2 ^ 16 ||| b * 2 ^ 8 = 65536 * a + 256 * b := by
    rw [show a * 2 ^ 16 = 2 ^ 16 * a by omega, show b * 2 ^ 8 = 256 * b by omega, ← h2]
  rw [e1, show 65536 * a + 256 * b = 2 ^ 8 * (256 * a + b) by omega, ← h1]
theorem key_eq {v : Nat → Int32} {a b c : Nat} (h0 : v 0 = Int32.ofNat a) (h1 : v 1 = Int32.ofNat b) (h2 : v 2 = Int32.ofNat c) (hb : b ≤ 255) (hc : c ≤ 255) : fs_key v = Int32.ofNat (65536 * a + 256 * b + c) := by
  unfold fs_key
  rw [h0, h1, h2, show ((16 : Int32) &&& 31) = Int32.ofNat 16 by decide, show ((8 : Int32) &&& 31) = Int32.ofNat 8 by decide, n_shl a (by decide), n_shl b (by decide), n_or, n_or, key_n hb hc]
theorem key_parts {v : Nat → Int32} (h : fs_by3 v) : fs_key v >>> (16 &&& 31) = v 0 ∧ ((fs_key v >>> (8 &&& 31)) &&& 255) = v 1 ∧ (fs_key v &&& 255) = v 2 := by
  obtain ⟨a, ha, e0⟩ := h 0 (by decide)
  obtain ⟨b, hb, e1⟩ := h 1 (by decide)
  obtain ⟨c, hc, e2⟩ := h 2 (by decide)
  rw [key_eq e0 e1 e2 hb hc, show ((16 : Int32) &&& 31) = Int32.ofNat 16 by decide, show ((8 : Int32) &&& 31) = Int32.ofNat 8 by decide, show (255 : Int32) = Int32.ofNat 255 by decide, n_shr (by omega) (by decide), n_shr (by omega) (by decide), n_and, n_and, e0, e1, e2]
  refine ⟨congrArg _ ?_, congrArg _ ?_, congrArg _ ?_⟩
  · rw [Nat.shiftRight_eq_div_pow]
    omega
  · rw [Nat.shiftRight_eq_div_pow, show 255 = 2 ^ 8 - 1 by decide, Nat.and_two_pow_sub_one_eq_mod]
    omega
  · rw [show 255 = 2 ^ 8 - 1 by decide, Nat.and_two_pow_sub_one_eq_mod]
    omega
theorem key_inj {v w : Nat → Int32} (h : fs_by3 v) (k : fs_by3 w) : fs_key v = fs_key w ↔ v 0 = w 0 ∧ v 1 = w 1 ∧ v 2 = w 2 := by
  constructor
  · intro e
    have p := key_parts h
    have q := key_parts k
    rw [e] at p
    exact ⟨p.1.symm.trans q.1, p.2.1.symm.trans q.2.1, p.2.2.symm.trans q.2.2⟩
  · intro ⟨e0, e1, e2⟩
    unfold fs_key
    rw [e0, e1, e2]
theorem rem_n : ∀ a, a < 10 → ∀ b, b < 10 → b ≠ 0 → Int32.ofNat a - Int32.ofNat a / Int32.ofNat b * Int32.ofNat b = Int32.ofNat (a % b) := by decide
theorem m1 : (1, 2) ∈ fs_tab := by decide
theorem m2 : (2, 2) ∈ fs_tab := by decide
theorem m3 : (3, 2) ∈ fs_tab := by decide
theorem m4 : (4, 2) ∈ fs_tab := by decide
theorem m5 : (5, 2) ∈ fs_tab := by decide
theorem m6 : (6, 2) ∈ fs_tab := by decide
theorem m7 : (7, 2) ∈ fs_tab := by decide
theorem m8 : (8, 12) ∈ fs_tab := by decide
theorem m9 : (9, 12) ∈ fs_tab := by decide
theorem m10 : (10, 12) ∈ fs_tab := by decide
theorem m11 : (11, 12) ∈ fs_tab := by decide
theorem m12 : (12, 12) ∈ fs_tab := by decide
theorem m13 : (13, 2) ∈ fs_tab := by decide
theorem m14 : (14, 336) ∈ fs_tab := by decide
theorem m15 : (15, 6) ∈ fs_tab := by decide
theorem m16 : (16, 48) ∈ fs_tab := by decide
theorem m17 : (17, 48) ∈ fs_tab := by decide
theorem m18 : (18, 6) ∈ fs_tab := by decide
theorem m19 : (19, 6) ∈ fs_tab := by decide
theorem m20 : (20, 6) ∈ fs_tab := by decide
theorem m21 : (21, 48) ∈ fs_tab := by decide
theorem m22 : (22, 48) ∈ fs_tab := by decide
theorem m23 : (23, 6) ∈ fs_tab := by decide
theorem m26 : (26, 30) ∈ fs_tab := by decide
theorem m27 : (27, 1920) ∈ fs_tab := by decide
theorem m29 : (29, 20) ∈ fs_tab := by decide
theorem m30 : (30, 20) ∈ fs_tab := by decide
theorem m31 : (31, 160) ∈ fs_tab := by decide
theorem m32 : (32, 160) ∈ fs_tab := by decide
theorem m34 : (34, 6) ∈ fs_tab := by decide
theorem m35 : (35, 384) ∈ fs_tab := by decide
theorem m38 : (38, 80) ∈ fs_tab := by decide
theorem m40 : (40, 2) ∈ fs_tab := by decide
theorem m41 : (41, 2) ∈ fs_tab := by decide
theorem m42 : (42, 2) ∈ fs_tab := by decide
theorem m43 : (43, 2) ∈ fs_tab := by decide
theorem m44 : (44, 2) ∈ fs_tab := by decide
theorem m46 : (46, 64) ∈ fs_tab := by decide
theorem m48 : (48, 80) ∈ fs_tab := by decide
theorem m36 : (36, 1200) ∈ fs_ztab := by decide
theorem m49 : (49, 80) ∈ fs_ztab := by decide
