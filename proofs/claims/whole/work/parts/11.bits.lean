/-! the get and put of the reference on a number of cells, the packing of the component -/
theorem zp_bits {s w lo x hi v : Nat} (hlo : lo < 2 ^ s) (hx : x < 2 ^ w) (hv : v < 2 ^ w) (hs : s + w ≤ 64) :
    (lN (lo + 2 ^ s * (x + 2 ^ w * hi)) &&& (lN ((2 ^ w - 1) * 2 ^ s) ^^^ (-1))) ||| lN (v * 2 ^ s) = lN (lo + 2 ^ s * (v + 2 ^ w * hi)) := by
  apply wb_inj
  have hm1 : (-1 : Int64).toBitVec = BitVec.allOnes 64 := by decide
  rw [Int64.toBitVec_or, Int64.toBitVec_and, Int64.toBitVec_xor, wb_tb, wb_tb, wb_tb, wb_tb, hm1]
  apply BitVec.eq_of_getLsbD_eq
  intro i hi64
  have key : ∀ y, y < 2 ^ w → (lo + 2 ^ s * (y + 2 ^ w * hi)).testBit i = if i < s then lo.testBit i else if i - s < w then y.testBit (i - s) else hi.testBit (i - s - w) := by
    intro y hy
    rw [Nat.add_comm lo, Nat.testBit_two_pow_mul_add _ hlo]
    by_cases h : i < s
    · rw [if_pos h, if_pos h]
    · rw [if_neg h, if_neg h, Nat.add_comm y, Nat.testBit_two_pow_mul_add _ hy]
  have km : ((2 ^ w - 1) * 2 ^ s).testBit i = (decide (s ≤ i) && decide (i - s < w)) := by
    rw [Nat.mul_comm, Nat.testBit_two_pow_mul, Nat.testBit_two_pow_sub_one]
  have kv : (v * 2 ^ s).testBit i = (decide (s ≤ i) && v.testBit (i - s)) := by
    rw [Nat.mul_comm, Nat.testBit_two_pow_mul]
  rw [BitVec.getLsbD_or, BitVec.getLsbD_and, BitVec.getLsbD_xor, BitVec.getLsbD_ofNat, BitVec.getLsbD_ofNat, BitVec.getLsbD_ofNat, BitVec.getLsbD_ofNat, BitVec.getLsbD_allOnes, key x hx, key v hv, km, kv]
  by_cases h : i < s
  · have h' : ¬ s ≤ i := by omega
    simp [hi64, h, h']
  · have h' : s ≤ i := by omega
    by_cases h2 : i - s < w
    · simp [hi64, h, h', h2]
    · have hv0 : v.testBit (i - s) = false := Nat.testBit_lt_two_pow (Nat.lt_of_lt_of_le hv (Nat.pow_le_pow_right (by omega) (by omega)))
      simp [hi64, h, h', h2, hv0]
/-- put: the cell k of the reference's number -/
theorem zp_putY {c : Nat → Nat} (hc : ∀ j, c j < 2 ^ zp_w j) {k v : Nat} (hk : k < 16) (hv : v < 2 ^ zp_w k) :
    (lN (zp_Y c) &&& (lN ((2 ^ zp_w k - 1) * 2 ^ zp_s zp_w 0 k) ^^^ (-1))) ||| lN (v * 2 ^ zp_s zp_w 0 k) = lN (zp_Y (zc_up c k v)) := by
  obtain ⟨lo, hi, h1, h2⟩ := zp_put hc k 0 16 hk
  have e1 := h2 (c k)
  have e2 := h2 v
  rw [Nat.zero_add] at e1 e2
  rw [zp_self] at e1
  unfold zp_Y
  rw [e1, e2]
  exact zp_bits h1 (hc k) hv (by
    have : ∀ k, k < 16 → zp_s zp_w 0 k + zp_w k ≤ 64 := by decide
    exact this k hk)
theorem zp_getN {N k m : Nat} (hN : N < 2 ^ 62) (hk : k < 64) (hm : m ≤ 16) : ((lN N >>> ((nI k).toInt64 &&& 63)).toInt32 &&& nI (2 ^ m - 1)) = nI (N / 2 ^ k % 2 ^ m) := by
  have hD : (((nI k).toInt64 &&& 63).toBitVec.smod 64).toNat = k := by
    rw [wb_c k hk, wb_tb, wb_sm k hk, BitVec.toNat_ofNat, Nat.mod_eq_of_lt (by omega)]
  rw [pf_shr hD hN, lN_i]
  have hmm : 2 ^ m ≤ 2 ^ 16 := Nat.pow_le_pow_right (by omega) hm
  rw [pk_and _ m (by rw [pk_tn (by omega)])]
  have e : (nI (N / 2 ^ k)).toBitVec.toNat = N / 2 ^ k % 2 ^ 32 := BitVec.toNat_ofNat _ _
  rw [e, Nat.mod_mod_of_dvd]
  exact Nat.pow_dvd_pow 2 (by omega)
theorem zp_getY {c : Nat → Nat} (hc : ∀ j, c j < 2 ^ zp_w j) {k : Nat} (hk : k < 16) :
    ((lN (zp_Y c) >>> ((nI (zp_s zp_w 0 k)).toInt64 &&& 63)).toInt32 &&& nI (2 ^ zp_w k - 1)) = nI (c k) := by
  have h1 : zp_Y c < 2 ^ 41 := zp_lt 16 0 hc
  have h2 : ∀ k, k < 16 → zp_s zp_w 0 k < 64 ∧ zp_w k ≤ 16 := by decide
  rw [zp_getN (by omega) (h2 k hk).1 (h2 k hk).2]
  have := zp_get hc k 0 16 hk
  rw [Nat.zero_add] at this
  exact congrArg nI this
/-- the four variables at once -/
theorem zp_getV {c : Nat → Nat} (hc : ∀ j, c j < 2 ^ zp_w j) :
    ((lN (zp_Y c) >>> ((nI 0).toInt64 &&& 63)).toInt32 &&& nI 4095) = nI (c 0 + 8 * c 1 + 64 * c 2 + 512 * c 3) := by
  have h1 : zp_Y c < 2 ^ 41 := zp_lt 16 0 hc
  have e0 := zp_getN (N := zp_Y c) (k := 0) (m := 12) (by omega) (by omega) (by omega)
  have e1 : zp_Y c / 2 ^ 0 % 2 ^ 12 = c 0 + 8 * c 1 + 64 * c 2 + 512 * c 3 := by
    have a0 := hc 0
    have a1 := hc 1
    have a2 := hc 2
    have a3 := hc 3
    have w0 : zp_w 0 = 3 := rfl
    have w1 : zp_w 1 = 3 := rfl
    have w2 : zp_w 2 = 3 := rfl
    have w3 : zp_w 3 = 3 := rfl
    rw [w0] at a0
    rw [w1] at a1
    rw [w2] at a2
    rw [w3] at a3
    have e : zp_Y c = c 0 + 2 ^ zp_w 0 * (c 1 + 2 ^ zp_w 1 * (c 2 + 2 ^ zp_w 2 * (c 3 + 2 ^ zp_w 3 * zp_k zp_w c 4 12))) := rfl
    rw [e, w0, w1, w2, w3]
    generalize zp_k zp_w c 4 12 = r
    omega
  rw [e1] at e0
  exact e0
/-- the component's pieces: one cell off, one cell on -/
theorem zp_off {a r : Nat} (ha : a < 8) (h : a + 8 * r < 2 ^ 63) : (lN (a + 8 * r) &&& 7).toInt32 = nI a ∧
    ((lN (a + 8 * r)).toUInt64 >>> ((3 : Int32).toInt64.toUInt64 &&& Int64.toUInt64 63)).toInt64 = lN r := by
  constructor
  · have e : lN (a + 8 * r) &&& 7 = lN ((a + 8 * r) % 2 ^ 3) := wb_mask (k := 3) (by omega) (by omega)
    rw [e, lN_i]
    exact congrArg nI (by omega)
  · have e := wb_shr (n := a + 8 * r) (k := 3) (by omega) (by omega)
    refine e.trans (congrArg lN ?_)
    omega
theorem zp_on {a r : Nat} (ha : a < 8) (h : a + 8 * r < 2 ^ 63) : (lN r <<< ((3 : Int32).toInt64 &&& 63)) ||| (nI a).toInt64 = lN (a + 8 * r) := by
  have e := wb_shl r (k := 3) (by omega)
  have e2 : lN r <<< ((3 : Int32).toInt64 &&& 63) = lN (r * 2 ^ 3) := e
  rw [e2, nI_l (by omega)]
  have := g_or (k := 3) (p := 8) (a := a) (b := r) (by decide) ha (by omega)
  rw [Nat.add_comm, Nat.mul_comm 8 r]
  exact this
