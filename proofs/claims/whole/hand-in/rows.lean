section
theorem pk_us {f : Nat → Int32} {k : Nat} {x : Int32} : upd f k x k = x := if_pos rfl
theorem pk_un {f : Nat → Int32} {k j : Nat} {x : Int32} (h : j ≠ k) : upd f k x j = f j := if_neg h
theorem pk_uLs {f : Nat → Int64} {k : Nat} {x : Int64} : vp_updL f k x k = x := if_pos rfl
theorem pk_uLn {f : Nat → Int64} {k j : Nat} {x : Int64} (h : j ≠ k) : vp_updL f k x j = f j := if_neg h
theorem pk_sub {a b : Nat} (h : b ≤ a) : nI a - nI b = nI (a - b) := by
  obtain ⟨c, rfl⟩ : ∃ c, a = c + b := ⟨a - b, by omega⟩
  rw [← nI_add, Int32.add_sub_cancel, Nat.add_sub_cancel]
theorem pk_m1 (n : Nat) : nI (n + 1) + (-1) = nI n := by
  rw [← nI_1, Int32.add_assoc, show (1 : Int32) + (-1) = 0 from rfl, Int32.add_zero]
theorem pk_mul (a b : Nat) : nI a * nI b = nI (a * b) := (Int32.ofNat_mul a b).symm
theorem pk_div {a d : Nat} (ha : a < 2 ^ 31) (h0 : 0 < d) (hd : d < 2 ^ 31) : nI a / nI d = nI (a / d) := by
  apply Int32.toInt_inj.mp
  rw [lg_idiv_nonneg (by rw [nI_toInt ha]; omega) (by rw [nI_toInt hd]; omega), nI_toInt ha, nI_toInt hd, nI_toInt (Nat.lt_of_le_of_lt (Nat.div_le_self a d) ha)]
  first | rfl | exact (Int.natCast_ediv _ _).symm
theorem pk_rem {a d : Nat} (ha : a < 2 ^ 31) (h0 : 0 < d) (hd : d < 2 ^ 31) : nI a - nI a / nI d * nI d = nI (a % d) := by
  rw [pk_div ha h0 hd, pk_mul, pk_sub (Nat.div_mul_le_self a d)]
  exact congrArg nI (by have := Nat.div_add_mod' a d; omega)
theorem pk_sub_toInt {a b : Nat} (ha : a < 2 ^ 30) (hb : b < 2 ^ 30) : (nI a - nI b).toInt = (a : Int) - b := by
  rw [Int32.toInt_sub, nI_toInt (by omega), nI_toInt (by omega)]
  exact Int.bmod_eq_of_le (by omega) (by omega)
theorem pk_sneg {a b : Nat} (hb : b < 2 ^ 30) (h : a < b) : nI a - nI b < 0 := by
  rw [Int32.lt_iff_toInt_lt, pk_sub_toInt (by omega) hb, show (0 : Int32).toInt = 0 from by decide]
  omega
theorem pk_ix (x : Int32) {n : Nat} (hn : n < 2 ^ 31) : x < 0 ∨ nI n ≤ x ∨ ∃ j : Nat, j < n ∧ x = nI j := by
  by_cases h : x < 0
  · exact Or.inl h
  · obtain ⟨j, hj, rfl⟩ := nI_of h
    by_cases h2 : j < n
    · exact Or.inr (Or.inr ⟨j, h2, rfl⟩)
    · exact Or.inr (Or.inl (nI_le (by omega) hj))
theorem pk_le {x y : Int32} {A B : Prop} (a b : Nat) (f : a ≤ b → A) (g : b < a → B) (hx : x = nI a := by rfl) (hy : y = nI b := by rfl) (ha : a < 2 ^ 31 := by omega) (hb : b < 2 ^ 31 := by omega) : (x ≤ y → A) ∧ (¬ x ≤ y → B) := by
  subst hx hy
  rw [nI_leI ha hb]
  exact ⟨f, fun z => g (by omega)⟩
theorem pk_lt {x y : Int32} {A B : Prop} (a b : Nat) (f : a < b → A) (g : b ≤ a → B) (hx : x = nI a := by rfl) (hy : y = nI b := by rfl) (ha : a < 2 ^ 31 := by omega) (hb : b < 2 ^ 31 := by omega) : (x < y → A) ∧ (¬ x < y → B) := by
  subst hx hy
  rw [nI_ltI ha hb]
  exact ⟨f, fun z => g (by omega)⟩
theorem pk_eq {x y : Int32} {A B : Prop} (a b : Nat) (f : a = b → A) (g : a ≠ b → B) (hx : x = nI a := by rfl) (hy : y = nI b := by rfl) (ha : a < 2 ^ 31 := by omega) (hb : b < 2 ^ 31 := by omega) : (x = y → A) ∧ (¬ x = y → B) := by
  subst hx hy
  rw [nI_eq ha hb]
  exact ⟨f, g⟩
theorem pk_in {x : Int32} (n N : Nat) (h : n < N) (hx : x = nI n := by rfl) (hN : N < 2 ^ 31 := by omega) : vp_in x N := by
  subst hx
  exact vp_in_nI h hN
theorem pk_cl {x : Int32} (n : Nat) (hx : x = nI n := by rfl) (h : n < 2 ^ 31 := by omega) : x.toNatClampNeg = n := by
  subst hx
  exact nI_clamp h
theorem pk_tn {n : Nat} (h : n < 2 ^ 32) : (nI n).toBitVec.toNat = n := Nat.mod_eq_of_lt h
theorem pk_and (x : Int32) {m : Int32} (k : Nat) (hm : m.toBitVec.toNat = 2 ^ k - 1) : x &&& m = nI (x.toBitVec.toNat % 2 ^ k) := by
  apply Int32.toBitVec_inj.mp
  apply BitVec.eq_of_toNat_eq
  rw [Int32.toBitVec_and, BitVec.toNat_and, hm, Nat.and_two_pow_sub_one_eq_mod]
  show _ = (BitVec.ofNat 32 _).toNat
  rw [BitVec.toNat_ofNat]
  exact (Nat.mod_eq_of_lt (Nat.lt_of_le_of_lt (Nat.mod_le _ _) x.toBitVec.isLt)).symm
theorem pk_andN {n : Nat} (h : n < 2 ^ 32) {m : Int32} (k : Nat) (hm : m.toBitVec.toNat = 2 ^ k - 1) : nI n &&& m = nI (n % 2 ^ k) := by
  rw [pk_and _ k hm, pk_tn h]
theorem pk_andE (x : Int32) {m : Int32} (k : Nat) (hm : m.toBitVec.toNat = 2 ^ k - 1) : ∃ j : Nat, j < 2 ^ k ∧ x &&& m = nI j := ⟨_, Nat.mod_lt _ (Nat.two_pow_pos k), pk_and x k hm⟩
theorem pk_andIn (x : Int32) {m : Int32} (k : Nat) (hm : m.toBitVec.toNat = 2 ^ k - 1) (hk : k ≤ 30) : vp_in (x &&& m) (2 ^ k) := by
  obtain ⟨j, hj, e⟩ := pk_andE x k hm
  rw [e]
  exact vp_in_nI hj (Nat.lt_of_le_of_lt (Nat.pow_le_pow_right (by decide) hk) (by decide))
theorem pk_shl (a s : Int32) (k : Nat) (hs : (s.toBitVec.smod 32).toNat = k) : (a <<< s).toBitVec.toNat = a.toBitVec.toNat * 2 ^ k % 2 ^ 32 := by
  show (a.toBitVec <<< (s.toBitVec.smod 32).toNat).toNat = _
  rw [hs, BitVec.toNat_shiftLeft, Nat.shiftLeft_eq]
theorem pk_shlN {n : Nat} (s : Int32) (k : Nat) (hs : (s.toBitVec.smod 32).toNat = k) (h : n * 2 ^ k < 2 ^ 32) : nI n <<< s = nI (n * 2 ^ k) := by
  apply Int32.toBitVec_inj.mp
  apply BitVec.eq_of_toNat_eq
  have hn : n < 2 ^ 32 := Nat.lt_of_le_of_lt (Nat.le_mul_of_pos_right n (Nat.two_pow_pos k)) h
  rw [pk_shl _ _ k hs, pk_tn hn, pk_tn h, Nat.mod_eq_of_lt h]
theorem pk_shr (a s : Int32) (k : Nat) (hs : (s.toBitVec.smod 32).toNat = k) : (a >>> s).toInt = a.toInt >>> k := by
  show (a.toBitVec.sshiftRight (s.toBitVec.smod 32).toNat).toInt = _
  rw [hs, BitVec.toInt_sshiftRight]
  rfl
theorem pk_shrN {n : Nat} (h : n < 2 ^ 31) (s : Int32) (k : Nat) (hs : (s.toBitVec.smod 32).toNat = k) : nI n >>> s = nI (n / 2 ^ k) := by
  apply Int32.toInt_inj.mp
  have h2 : n / 2 ^ k ≤ n := Nat.div_le_self _ _
  rw [pk_shr _ _ k hs, nI_toInt h, nI_toInt (by omega), Int.shiftRight_eq_div_pow]
  rfl
theorem pk_ushr (x s : Int32) (k : Nat) (hs : ((s.toUInt32 &&& Int32.toUInt32 31).toBitVec % 32).toNat = k) : (x.toUInt32 >>> (s.toUInt32 &&& Int32.toUInt32 31)).toInt32.toBitVec.toNat = x.toBitVec.toNat / 2 ^ k := by
  have e : (x.toUInt32 >>> (s.toUInt32 &&& Int32.toUInt32 31)).toInt32.toBitVec = x.toBitVec >>> k := by
    rw [← hs]
    exact UInt32.toBitVec_shiftRight _ _
  rw [e, BitVec.toNat_ushiftRight, Nat.shiftRight_eq_div_pow]
theorem pk_ushrN {n : Nat} (hn : n < 2 ^ 32) (s : Int32) (k : Nat) (hs : ((s.toUInt32 &&& Int32.toUInt32 31).toBitVec % 32).toNat = k) : ((nI n).toUInt32 >>> (s.toUInt32 &&& Int32.toUInt32 31)).toInt32 = nI (n / 2 ^ k) := by
  apply Int32.toBitVec_inj.mp
  apply BitVec.eq_of_toNat_eq
  rw [pk_ushr _ s k hs, pk_tn hn, pk_tn (Nat.lt_of_le_of_lt (Nat.div_le_self _ _) hn)]
theorem pk_nb (z : Int32) : narrow .byte (.int z.toInt8.toInt32) = .int z.toInt8.toInt32 := congrArg Value.int (by simp)
theorem pk_ns (z : Int32) : narrow .short (.int z.toInt16.toInt32) = .int z.toInt16.toInt32 := congrArg Value.int (by simp)
theorem pk_fb (r : Int32) : fits .byte (.int r.toInt8.toInt32) = true := by
  have ⟨a, b⟩ := lg_i2b_range r
  have h1 : (-128 : Int32).toInt = -128 := by decide
  have h2 : (127 : Int32).toInt = 127 := by decide
  simp only [fits, Bool.and_eq_true, decide_eq_true_eq, Int32.le_iff_toInt_le, h1, h2]
  omega
theorem pk_fs (r : Int32) : fits .short (.int r.toInt16.toInt32) = true := by
  have ⟨a, b⟩ := lg_i2s_range r
  have h1 : (-32768 : Int32).toInt = -32768 := by decide
  have h2 : (32767 : Int32).toInt = 32767 := by decide
  simp only [fits, Bool.and_eq_true, decide_eq_true_eq, Int32.le_iff_toInt_le, h1, h2]
  omega
theorem pk_charN {q : Nat} (hq : q < 65536) : narrow .char (.int (nI q)) = .int (nI q) ∧ fits .char (.int (nI q)) = true := by
  constructor
  · have e : (nI q).toUInt32.toUInt16.toUInt32.toInt32 = nI q := by
      apply Int32.toBitVec_inj.mp
      apply BitVec.eq_of_toNat_eq
      show (nI q).toUInt32.toUInt16.toUInt32.toNat = q % 2 ^ 32
      rw [UInt16.toNat_toUInt32, UInt32.toNat_toUInt16, show (nI q).toUInt32.toNat = q % 2 ^ 32 from rfl]
      omega
    exact congrArg Value.int e
  · have a : (0 : Int32) ≤ nI q := nI_pos' (by omega)
    have b : nI q ≤ 65535 := nI_le (b := 65535) (by omega) (by decide)
    show (decide ((0 : Int32) ≤ nI q) && decide (nI q ≤ 65535)) = true
    rw [decide_eq_true a, decide_eq_true b]
    rfl
theorem pk_char (x : Int32) : (x.toUInt32 % 65536).toInt32 = nI (x.toBitVec.toNat % 65536) := by
  apply Int32.toBitVec_inj.mp
  apply BitVec.eq_of_toNat_eq
  rw [pk_tn (by omega)]
  show (x.toUInt32 % 65536).toNat = _
  rw [UInt32.toNat_mod]
  rfl
theorem pk_nc (x : Int32) : narrow .char (.int (x.toUInt32 % 65536).toInt32) = .int (x.toUInt32 % 65536).toInt32 := by
  rw [pk_char]
  exact (pk_charN (Nat.mod_lt _ (by decide))).1
theorem pk_fc (x : Int32) : fits .char (.int (x.toUInt32 % 65536).toInt32) = true := by
  rw [pk_char]
  exact (pk_charN (Nat.mod_lt _ (by decide))).2
theorem pk_vb (z : Int32) : vp_nar .byte z.toInt8.toInt32 = z.toInt8.toInt32 := by rw [vp_nar_byte]; simp
theorem pk_vs (z : Int32) : vp_nar .short z.toInt16.toInt32 = z.toInt16.toInt32 := by rw [vp_nar_short]; simp
theorem pk_vc (z : Int32) : vp_nar .char (z.toUInt32 % 65536).toInt32 = (z.toUInt32 % 65536).toInt32 := Value.int.inj (pk_nc z)
theorem pk_lT {n : Nat} (h : n < 2 ^ 63) : (lN n).toInt = (n : Int) := lg_ofNat_toInt h
theorem pk_lLT {a b : Nat} (ha : a < 2 ^ 63) (hb : b < 2 ^ 63) : lN a < lN b ↔ a < b := by
  rw [Int64.lt_iff_toInt_lt, pk_lT ha, pk_lT hb]; omega
theorem pk_lLE {a b : Nat} (ha : a < 2 ^ 63) (hb : b < 2 ^ 63) : lN a ≤ lN b ↔ a ≤ b := by
  rw [Int64.le_iff_toInt_le, pk_lT ha, pk_lT hb]; omega
theorem pk_lEQ {a b : Nat} (ha : a < 2 ^ 63) (hb : b < 2 ^ 63) : lN a = lN b ↔ a = b := by
  rw [← Int64.toInt_inj, pk_lT ha, pk_lT hb]; omega
theorem pk_lOf {x : Int64} (h : ¬ x < 0) : ∃ k : Nat, k < 2 ^ 63 ∧ x = lN k := by
  rw [Int64.lt_iff_toInt_lt] at h
  have h0 : (0 : Int64).toInt = 0 := by decide
  have hx := Int64.toInt_lt x
  refine ⟨x.toInt.toNat, by omega, Int64.toInt_inj.mp ?_⟩
  rw [pk_lT (by omega)]
  omega
theorem pk_lDiv {a b : Nat} (ha : a < 2 ^ 63) (h0 : 0 < b) (hb : b < 2 ^ 63) : lN a / lN b = lN (a / b) := by
  apply Int64.toInt_inj.mp
  rw [lg_ldiv_nonneg (by rw [pk_lT ha]; omega) (by rw [pk_lT hb]; omega), pk_lT ha, pk_lT hb, pk_lT (Nat.lt_of_le_of_lt (Nat.div_le_self a b) ha)]
  rfl
theorem pk_lRem {a b : Nat} (ha : a < 2 ^ 63) (h0 : 0 < b) (hb : b < 2 ^ 63) : lN a - lN a / lN b * lN b = lN (a % b) := by
  rw [pk_lDiv ha h0 hb, lN_mul, lN_sub (Nat.div_mul_le_self a b)]
  exact congrArg lN (by have := Nat.div_add_mod' a b; omega)
theorem pk_loop {σ : Type} (W : Nat → Nat → σ → Prop) (I : Nat → σ → Prop) (e i0 : Nat) (s : σ) (hi : i0 ≤ e) (h0 : I i0 s) (hx : ∀ n s, I e s → W (n + 1) e s)
    (hs : ∀ n i s, i < e → I i s → (∀ s', I (i + 1) s' → W n (i + 1) s') → W (n + 1) i s) : ∃ n, W n i0 s :=
  ⟨e + 1, loop_i W I e hx hs (e + 1) i0 s hi (by omega) h0⟩
theorem pk_loopD {σ : Type} (W : Nat → Nat → σ → Prop) (I : Nat → σ → Prop) (hx : ∀ n s, I 0 s → W (n + 1) 0 s)
    (hs : ∀ n i s, I (i + 1) s → (∀ s', I i s' → W n i s') → W (n + 1) (i + 1) s) : ∀ (e : Nat) (s : σ), I e s → W (e + 1) e s := by
  intro e
  induction e with
  | zero => exact fun s h => hx 0 s h
  | succ e ih => exact fun s h => hs (e + 1) e s h (fun s' h' => ih s' h')
theorem lp1 {A1 : Type} (W : Nat → A1 → Prop) (I : A1 → Prop) (μ : A1 → Nat) (hs : ∀ (n : Nat) (a1 : A1), I a1 → (∀ (b1 : A1), I b1 → μ b1 < μ a1 → W n b1) → W (n + 1) a1) (a1 : A1) (h : I a1) : ∃ n, W n a1 :=
  loop_m (σ := A1) (fun n s => W n s) (fun s => I s) (fun s => μ s) (fun n s hI hk => hs n s hI (fun b1 h9 hm => hk b1 h9 hm)) a1 h
theorem lp2 {A1 A2 : Type} (W : Nat → A1 → A2 → Prop) (I : A1 → A2 → Prop) (μ : A1 → A2 → Nat) (hs : ∀ (n : Nat) (a1 : A1) (a2 : A2), I a1 a2 → (∀ (b1 : A1) (b2 : A2), I b1 b2 → μ b1 b2 < μ a1 a2 → W n b1 b2) → W (n + 1) a1 a2) (a1 : A1) (a2 : A2) (h : I a1 a2) : ∃ n, W n a1 a2 :=
  loop_m (σ := A1 × A2) (fun n s => W n s.1 s.2) (fun s => I s.1 s.2) (fun s => μ s.1 s.2) (fun n s hI hk => hs n s.1 s.2 hI (fun b1 b2 h9 hm => hk (b1, b2) h9 hm)) (a1, a2) h
theorem lp3 {A1 A2 A3 : Type} (W : Nat → A1 → A2 → A3 → Prop) (I : A1 → A2 → A3 → Prop) (μ : A1 → A2 → A3 → Nat) (hs : ∀ (n : Nat) (a1 : A1) (a2 : A2) (a3 : A3), I a1 a2 a3 → (∀ (b1 : A1) (b2 : A2) (b3 : A3), I b1 b2 b3 → μ b1 b2 b3 < μ a1 a2 a3 → W n b1 b2 b3) → W (n + 1) a1 a2 a3) (a1 : A1) (a2 : A2) (a3 : A3) (h : I a1 a2 a3) : ∃ n, W n a1 a2 a3 :=
  loop_m (σ := A1 × A2 × A3) (fun n s => W n s.1 s.2.1 s.2.2) (fun s => I s.1 s.2.1 s.2.2) (fun s => μ s.1 s.2.1 s.2.2) (fun n s hI hk => hs n s.1 s.2.1 s.2.2 hI (fun b1 b2 b3 h9 hm => hk (b1, b2, b3) h9 hm)) (a1, a2, a3) h
theorem lp4 {A1 A2 A3 A4 : Type} (W : Nat → A1 → A2 → A3 → A4 → Prop) (I : A1 → A2 → A3 → A4 → Prop) (μ : A1 → A2 → A3 → A4 → Nat) (hs : ∀ (n : Nat) (a1 : A1) (a2 : A2) (a3 : A3) (a4 : A4), I a1 a2 a3 a4 → (∀ (b1 : A1) (b2 : A2) (b3 : A3) (b4 : A4), I b1 b2 b3 b4 → μ b1 b2 b3 b4 < μ a1 a2 a3 a4 → W n b1 b2 b3 b4) → W (n + 1) a1 a2 a3 a4) (a1 : A1) (a2 : A2) (a3 : A3) (a4 : A4) (h : I a1 a2 a3 a4) : ∃ n, W n a1 a2 a3 a4 :=
  loop_m (σ := A1 × A2 × A3 × A4) (fun n s => W n s.1 s.2.1 s.2.2.1 s.2.2.2) (fun s => I s.1 s.2.1 s.2.2.1 s.2.2.2) (fun s => μ s.1 s.2.1 s.2.2.1 s.2.2.2) (fun n s hI hk => hs n s.1 s.2.1 s.2.2.1 s.2.2.2 hI (fun b1 b2 b3 b4 h9 hm => hk (b1, b2, b3, b4) h9 hm)) (a1, a2, a3, a4) h
theorem lp5 {A1 A2 A3 A4 A5 : Type} (W : Nat → A1 → A2 → A3 → A4 → A5 → Prop) (I : A1 → A2 → A3 → A4 → A5 → Prop) (μ : A1 → A2 → A3 → A4 → A5 → Nat) (hs : ∀ (n : Nat) (a1 : A1) (a2 : A2) (a3 : A3) (a4 : A4) (a5 : A5), I a1 a2 a3 a4 a5 → (∀ (b1 : A1) (b2 : A2) (b3 : A3) (b4 : A4) (b5 : A5), I b1 b2 b3 b4 b5 → μ b1 b2 b3 b4 b5 < μ a1 a2 a3 a4 a5 → W n b1 b2 b3 b4 b5) → W (n + 1) a1 a2 a3 a4 a5) (a1 : A1) (a2 : A2) (a3 : A3) (a4 : A4) (a5 : A5) (h : I a1 a2 a3 a4 a5) : ∃ n, W n a1 a2 a3 a4 a5 :=
  loop_m (σ := A1 × A2 × A3 × A4 × A5) (fun n s => W n s.1 s.2.1 s.2.2.1 s.2.2.2.1 s.2.2.2.2) (fun s => I s.1 s.2.1 s.2.2.1 s.2.2.2.1 s.2.2.2.2) (fun s => μ s.1 s.2.1 s.2.2.1 s.2.2.2.1 s.2.2.2.2) (fun n s hI hk => hs n s.1 s.2.1 s.2.2.1 s.2.2.2.1 s.2.2.2.2 hI (fun b1 b2 b3 b4 b5 h9 hm => hk (b1, b2, b3, b4, b5) h9 hm)) (a1, a2, a3, a4, a5) h
theorem lp6 {A1 A2 A3 A4 A5 A6 : Type} (W : Nat → A1 → A2 → A3 → A4 → A5 → A6 → Prop) (I : A1 → A2 → A3 → A4 → A5 → A6 → Prop) (μ : A1 → A2 → A3 → A4 → A5 → A6 → Nat) (hs : ∀ (n : Nat) (a1 : A1) (a2 : A2) (a3 : A3) (a4 : A4) (a5 : A5) (a6 : A6), I a1 a2 a3 a4 a5 a6 → (∀ (b1 : A1) (b2 : A2) (b3 : A3) (b4 : A4) (b5 : A5) (b6 : A6), I b1 b2 b3 b4 b5 b6 → μ b1 b2 b3 b4 b5 b6 < μ a1 a2 a3 a4 a5 a6 → W n b1 b2 b3 b4 b5 b6) → W (n + 1) a1 a2 a3 a4 a5 a6) (a1 : A1) (a2 : A2) (a3 : A3) (a4 : A4) (a5 : A5) (a6 : A6) (h : I a1 a2 a3 a4 a5 a6) : ∃ n, W n a1 a2 a3 a4 a5 a6 :=
  loop_m (σ := A1 × A2 × A3 × A4 × A5 × A6) (fun n s => W n s.1 s.2.1 s.2.2.1 s.2.2.2.1 s.2.2.2.2.1 s.2.2.2.2.2) (fun s => I s.1 s.2.1 s.2.2.1 s.2.2.2.1 s.2.2.2.2.1 s.2.2.2.2.2) (fun s => μ s.1 s.2.1 s.2.2.1 s.2.2.2.1 s.2.2.2.2.1 s.2.2.2.2.2) (fun n s hI hk => hs n s.1 s.2.1 s.2.2.1 s.2.2.2.1 s.2.2.2.2.1 s.2.2.2.2.2 hI (fun b1 b2 b3 b4 b5 b6 h9 hm => hk (b1, b2, b3, b4, b5, b6) h9 hm)) (a1, a2, a3, a4, a5, a6) h
theorem lp7 {A1 A2 A3 A4 A5 A6 A7 : Type} (W : Nat → A1 → A2 → A3 → A4 → A5 → A6 → A7 → Prop) (I : A1 → A2 → A3 → A4 → A5 → A6 → A7 → Prop) (μ : A1 → A2 → A3 → A4 → A5 → A6 → A7 → Nat) (hs : ∀ (n : Nat) (a1 : A1) (a2 : A2) (a3 : A3) (a4 : A4) (a5 : A5) (a6 : A6) (a7 : A7), I a1 a2 a3 a4 a5 a6 a7 → (∀ (b1 : A1) (b2 : A2) (b3 : A3) (b4 : A4) (b5 : A5) (b6 : A6) (b7 : A7), I b1 b2 b3 b4 b5 b6 b7 → μ b1 b2 b3 b4 b5 b6 b7 < μ a1 a2 a3 a4 a5 a6 a7 → W n b1 b2 b3 b4 b5 b6 b7) → W (n + 1) a1 a2 a3 a4 a5 a6 a7) (a1 : A1) (a2 : A2) (a3 : A3) (a4 : A4) (a5 : A5) (a6 : A6) (a7 : A7) (h : I a1 a2 a3 a4 a5 a6 a7) : ∃ n, W n a1 a2 a3 a4 a5 a6 a7 :=
  loop_m (σ := A1 × A2 × A3 × A4 × A5 × A6 × A7) (fun n s => W n s.1 s.2.1 s.2.2.1 s.2.2.2.1 s.2.2.2.2.1 s.2.2.2.2.2.1 s.2.2.2.2.2.2) (fun s => I s.1 s.2.1 s.2.2.1 s.2.2.2.1 s.2.2.2.2.1 s.2.2.2.2.2.1 s.2.2.2.2.2.2) (fun s => μ s.1 s.2.1 s.2.2.1 s.2.2.2.1 s.2.2.2.2.1 s.2.2.2.2.2.1 s.2.2.2.2.2.2) (fun n s hI hk => hs n s.1 s.2.1 s.2.2.1 s.2.2.2.1 s.2.2.2.2.1 s.2.2.2.2.2.1 s.2.2.2.2.2.2 hI (fun b1 b2 b3 b4 b5 b6 b7 h9 hm => hk (b1, b2, b3, b4, b5, b6, b7) h9 hm)) (a1, a2, a3, a4, a5, a6, a7) h
theorem lp8 {A1 A2 A3 A4 A5 A6 A7 A8 : Type} (W : Nat → A1 → A2 → A3 → A4 → A5 → A6 → A7 → A8 → Prop) (I : A1 → A2 → A3 → A4 → A5 → A6 → A7 → A8 → Prop) (μ : A1 → A2 → A3 → A4 → A5 → A6 → A7 → A8 → Nat) (hs : ∀ (n : Nat) (a1 : A1) (a2 : A2) (a3 : A3) (a4 : A4) (a5 : A5) (a6 : A6) (a7 : A7) (a8 : A8), I a1 a2 a3 a4 a5 a6 a7 a8 → (∀ (b1 : A1) (b2 : A2) (b3 : A3) (b4 : A4) (b5 : A5) (b6 : A6) (b7 : A7) (b8 : A8), I b1 b2 b3 b4 b5 b6 b7 b8 → μ b1 b2 b3 b4 b5 b6 b7 b8 < μ a1 a2 a3 a4 a5 a6 a7 a8 → W n b1 b2 b3 b4 b5 b6 b7 b8) → W (n + 1) a1 a2 a3 a4 a5 a6 a7 a8) (a1 : A1) (a2 : A2) (a3 : A3) (a4 : A4) (a5 : A5) (a6 : A6) (a7 : A7) (a8 : A8) (h : I a1 a2 a3 a4 a5 a6 a7 a8) : ∃ n, W n a1 a2 a3 a4 a5 a6 a7 a8 :=
  loop_m (σ := A1 × A2 × A3 × A4 × A5 × A6 × A7 × A8) (fun n s => W n s.1 s.2.1 s.2.2.1 s.2.2.2.1 s.2.2.2.2.1 s.2.2.2.2.2.1 s.2.2.2.2.2.2.1 s.2.2.2.2.2.2.2) (fun s => I s.1 s.2.1 s.2.2.1 s.2.2.2.1 s.2.2.2.2.1 s.2.2.2.2.2.1 s.2.2.2.2.2.2.1 s.2.2.2.2.2.2.2) (fun s => μ s.1 s.2.1 s.2.2.1 s.2.2.2.1 s.2.2.2.2.1 s.2.2.2.2.2.1 s.2.2.2.2.2.2.1 s.2.2.2.2.2.2.2) (fun n s hI hk => hs n s.1 s.2.1 s.2.2.1 s.2.2.2.1 s.2.2.2.2.1 s.2.2.2.2.2.1 s.2.2.2.2.2.2.1 s.2.2.2.2.2.2.2 hI (fun b1 b2 b3 b4 b5 b6 b7 b8 h9 hm => hk (b1, b2, b3, b4, b5, b6, b7, b8) h9 hm)) (a1, a2, a3, a4, a5, a6, a7, a8) h
theorem lp9 {A1 A2 A3 A4 A5 A6 A7 A8 A9 : Type} (W : Nat → A1 → A2 → A3 → A4 → A5 → A6 → A7 → A8 → A9 → Prop) (I : A1 → A2 → A3 → A4 → A5 → A6 → A7 → A8 → A9 → Prop) (μ : A1 → A2 → A3 → A4 → A5 → A6 → A7 → A8 → A9 → Nat) (hs : ∀ (n : Nat) (a1 : A1) (a2 : A2) (a3 : A3) (a4 : A4) (a5 : A5) (a6 : A6) (a7 : A7) (a8 : A8) (a9 : A9), I a1 a2 a3 a4 a5 a6 a7 a8 a9 → (∀ (b1 : A1) (b2 : A2) (b3 : A3) (b4 : A4) (b5 : A5) (b6 : A6) (b7 : A7) (b8 : A8) (b9 : A9), I b1 b2 b3 b4 b5 b6 b7 b8 b9 → μ b1 b2 b3 b4 b5 b6 b7 b8 b9 < μ a1 a2 a3 a4 a5 a6 a7 a8 a9 → W n b1 b2 b3 b4 b5 b6 b7 b8 b9) → W (n + 1) a1 a2 a3 a4 a5 a6 a7 a8 a9) (a1 : A1) (a2 : A2) (a3 : A3) (a4 : A4) (a5 : A5) (a6 : A6) (a7 : A7) (a8 : A8) (a9 : A9) (h : I a1 a2 a3 a4 a5 a6 a7 a8 a9) : ∃ n, W n a1 a2 a3 a4 a5 a6 a7 a8 a9 :=
  loop_m (σ := A1 × A2 × A3 × A4 × A5 × A6 × A7 × A8 × A9) (fun n s => W n s.1 s.2.1 s.2.2.1 s.2.2.2.1 s.2.2.2.2.1 s.2.2.2.2.2.1 s.2.2.2.2.2.2.1 s.2.2.2.2.2.2.2.1 s.2.2.2.2.2.2.2.2) (fun s => I s.1 s.2.1 s.2.2.1 s.2.2.2.1 s.2.2.2.2.1 s.2.2.2.2.2.1 s.2.2.2.2.2.2.1 s.2.2.2.2.2.2.2.1 s.2.2.2.2.2.2.2.2) (fun s => μ s.1 s.2.1 s.2.2.1 s.2.2.2.1 s.2.2.2.2.1 s.2.2.2.2.2.1 s.2.2.2.2.2.2.1 s.2.2.2.2.2.2.2.1 s.2.2.2.2.2.2.2.2) (fun n s hI hk => hs n s.1 s.2.1 s.2.2.1 s.2.2.2.1 s.2.2.2.2.1 s.2.2.2.2.2.1 s.2.2.2.2.2.2.1 s.2.2.2.2.2.2.2.1 s.2.2.2.2.2.2.2.2 hI (fun b1 b2 b3 b4 b5 b6 b7 b8 b9 h9 hm => hk (b1, b2, b3, b4, b5, b6, b7, b8, b9) h9 hm)) (a1, a2, a3, a4, a5, a6, a7, a8, a9) h
theorem lp10 {A1 A2 A3 A4 A5 A6 A7 A8 A9 A10 : Type} (W : Nat → A1 → A2 → A3 → A4 → A5 → A6 → A7 → A8 → A9 → A10 → Prop) (I : A1 → A2 → A3 → A4 → A5 → A6 → A7 → A8 → A9 → A10 → Prop) (μ : A1 → A2 → A3 → A4 → A5 → A6 → A7 → A8 → A9 → A10 → Nat) (hs : ∀ (n : Nat) (a1 : A1) (a2 : A2) (a3 : A3) (a4 : A4) (a5 : A5) (a6 : A6) (a7 : A7) (a8 : A8) (a9 : A9) (a10 : A10), I a1 a2 a3 a4 a5 a6 a7 a8 a9 a10 → (∀ (b1 : A1) (b2 : A2) (b3 : A3) (b4 : A4) (b5 : A5) (b6 : A6) (b7 : A7) (b8 : A8) (b9 : A9) (b10 : A10), I b1 b2 b3 b4 b5 b6 b7 b8 b9 b10 → μ b1 b2 b3 b4 b5 b6 b7 b8 b9 b10 < μ a1 a2 a3 a4 a5 a6 a7 a8 a9 a10 → W n b1 b2 b3 b4 b5 b6 b7 b8 b9 b10) → W (n + 1) a1 a2 a3 a4 a5 a6 a7 a8 a9 a10) (a1 : A1) (a2 : A2) (a3 : A3) (a4 : A4) (a5 : A5) (a6 : A6) (a7 : A7) (a8 : A8) (a9 : A9) (a10 : A10) (h : I a1 a2 a3 a4 a5 a6 a7 a8 a9 a10) : ∃ n, W n a1 a2 a3 a4 a5 a6 a7 a8 a9 a10 :=
  loop_m (σ := A1 × A2 × A3 × A4 × A5 × A6 × A7 × A8 × A9 × A10) (fun n s => W n s.1 s.2.1 s.2.2.1 s.2.2.2.1 s.2.2.2.2.1 s.2.2.2.2.2.1 s.2.2.2.2.2.2.1 s.2.2.2.2.2.2.2.1 s.2.2.2.2.2.2.2.2.1 s.2.2.2.2.2.2.2.2.2) (fun s => I s.1 s.2.1 s.2.2.1 s.2.2.2.1 s.2.2.2.2.1 s.2.2.2.2.2.1 s.2.2.2.2.2.2.1 s.2.2.2.2.2.2.2.1 s.2.2.2.2.2.2.2.2.1 s.2.2.2.2.2.2.2.2.2) (fun s => μ s.1 s.2.1 s.2.2.1 s.2.2.2.1 s.2.2.2.2.1 s.2.2.2.2.2.1 s.2.2.2.2.2.2.1 s.2.2.2.2.2.2.2.1 s.2.2.2.2.2.2.2.2.1 s.2.2.2.2.2.2.2.2.2) (fun n s hI hk => hs n s.1 s.2.1 s.2.2.1 s.2.2.2.1 s.2.2.2.2.1 s.2.2.2.2.2.1 s.2.2.2.2.2.2.1 s.2.2.2.2.2.2.2.1 s.2.2.2.2.2.2.2.2.1 s.2.2.2.2.2.2.2.2.2 hI (fun b1 b2 b3 b4 b5 b6 b7 b8 b9 b10 h9 hm => hk (b1, b2, b3, b4, b5, b6, b7, b8, b9, b10) h9 hm)) (a1, a2, a3, a4, a5, a6, a7, a8, a9, a10) h
theorem lp11 {A1 A2 A3 A4 A5 A6 A7 A8 A9 A10 A11 : Type} (W : Nat → A1 → A2 → A3 → A4 → A5 → A6 → A7 → A8 → A9 → A10 → A11 → Prop) (I : A1 → A2 → A3 → A4 → A5 → A6 → A7 → A8 → A9 → A10 → A11 → Prop) (μ : A1 → A2 → A3 → A4 → A5 → A6 → A7 → A8 → A9 → A10 → A11 → Nat) (hs : ∀ (n : Nat) (a1 : A1) (a2 : A2) (a3 : A3) (a4 : A4) (a5 : A5) (a6 : A6) (a7 : A7) (a8 : A8) (a9 : A9) (a10 : A10) (a11 : A11), I a1 a2 a3 a4 a5 a6 a7 a8 a9 a10 a11 → (∀ (b1 : A1) (b2 : A2) (b3 : A3) (b4 : A4) (b5 : A5) (b6 : A6) (b7 : A7) (b8 : A8) (b9 : A9) (b10 : A10) (b11 : A11), I b1 b2 b3 b4 b5 b6 b7 b8 b9 b10 b11 → μ b1 b2 b3 b4 b5 b6 b7 b8 b9 b10 b11 < μ a1 a2 a3 a4 a5 a6 a7 a8 a9 a10 a11 → W n b1 b2 b3 b4 b5 b6 b7 b8 b9 b10 b11) → W (n + 1) a1 a2 a3 a4 a5 a6 a7 a8 a9 a10 a11) (a1 : A1) (a2 : A2) (a3 : A3) (a4 : A4) (a5 : A5) (a6 : A6) (a7 : A7) (a8 : A8) (a9 : A9) (a10 : A10) (a11 : A11) (h : I a1 a2 a3 a4 a5 a6 a7 a8 a9 a10 a11) : ∃ n, W n a1 a2 a3 a4 a5 a6 a7 a8 a9 a10 a11 :=
  loop_m (σ := A1 × A2 × A3 × A4 × A5 × A6 × A7 × A8 × A9 × A10 × A11) (fun n s => W n s.1 s.2.1 s.2.2.1 s.2.2.2.1 s.2.2.2.2.1 s.2.2.2.2.2.1 s.2.2.2.2.2.2.1 s.2.2.2.2.2.2.2.1 s.2.2.2.2.2.2.2.2.1 s.2.2.2.2.2.2.2.2.2.1 s.2.2.2.2.2.2.2.2.2.2) (fun s => I s.1 s.2.1 s.2.2.1 s.2.2.2.1 s.2.2.2.2.1 s.2.2.2.2.2.1 s.2.2.2.2.2.2.1 s.2.2.2.2.2.2.2.1 s.2.2.2.2.2.2.2.2.1 s.2.2.2.2.2.2.2.2.2.1 s.2.2.2.2.2.2.2.2.2.2) (fun s => μ s.1 s.2.1 s.2.2.1 s.2.2.2.1 s.2.2.2.2.1 s.2.2.2.2.2.1 s.2.2.2.2.2.2.1 s.2.2.2.2.2.2.2.1 s.2.2.2.2.2.2.2.2.1 s.2.2.2.2.2.2.2.2.2.1 s.2.2.2.2.2.2.2.2.2.2) (fun n s hI hk => hs n s.1 s.2.1 s.2.2.1 s.2.2.2.1 s.2.2.2.2.1 s.2.2.2.2.2.1 s.2.2.2.2.2.2.1 s.2.2.2.2.2.2.2.1 s.2.2.2.2.2.2.2.2.1 s.2.2.2.2.2.2.2.2.2.1 s.2.2.2.2.2.2.2.2.2.2 hI (fun b1 b2 b3 b4 b5 b6 b7 b8 b9 b10 b11 h9 hm => hk (b1, b2, b3, b4, b5, b6, b7, b8, b9, b10, b11) h9 hm)) (a1, a2, a3, a4, a5, a6, a7, a8, a9, a10, a11) h
theorem lp12 {A1 A2 A3 A4 A5 A6 A7 A8 A9 A10 A11 A12 : Type} (W : Nat → A1 → A2 → A3 → A4 → A5 → A6 → A7 → A8 → A9 → A10 → A11 → A12 → Prop) (I : A1 → A2 → A3 → A4 → A5 → A6 → A7 → A8 → A9 → A10 → A11 → A12 → Prop) (μ : A1 → A2 → A3 → A4 → A5 → A6 → A7 → A8 → A9 → A10 → A11 → A12 → Nat) (hs : ∀ (n : Nat) (a1 : A1) (a2 : A2) (a3 : A3) (a4 : A4) (a5 : A5) (a6 : A6) (a7 : A7) (a8 : A8) (a9 : A9) (a10 : A10) (a11 : A11) (a12 : A12), I a1 a2 a3 a4 a5 a6 a7 a8 a9 a10 a11 a12 → (∀ (b1 : A1) (b2 : A2) (b3 : A3) (b4 : A4) (b5 : A5) (b6 : A6) (b7 : A7) (b8 : A8) (b9 : A9) (b10 : A10) (b11 : A11) (b12 : A12), I b1 b2 b3 b4 b5 b6 b7 b8 b9 b10 b11 b12 → μ b1 b2 b3 b4 b5 b6 b7 b8 b9 b10 b11 b12 < μ a1 a2 a3 a4 a5 a6 a7 a8 a9 a10 a11 a12 → W n b1 b2 b3 b4 b5 b6 b7 b8 b9 b10 b11 b12) → W (n + 1) a1 a2 a3 a4 a5 a6 a7 a8 a9 a10 a11 a12) (a1 : A1) (a2 : A2) (a3 : A3) (a4 : A4) (a5 : A5) (a6 : A6) (a7 : A7) (a8 : A8) (a9 : A9) (a10 : A10) (a11 : A11) (a12 : A12) (h : I a1 a2 a3 a4 a5 a6 a7 a8 a9 a10 a11 a12) : ∃ n, W n a1 a2 a3 a4 a5 a6 a7 a8 a9 a10 a11 a12 :=
  loop_m (σ := A1 × A2 × A3 × A4 × A5 × A6 × A7 × A8 × A9 × A10 × A11 × A12) (fun n s => W n s.1 s.2.1 s.2.2.1 s.2.2.2.1 s.2.2.2.2.1 s.2.2.2.2.2.1 s.2.2.2.2.2.2.1 s.2.2.2.2.2.2.2.1 s.2.2.2.2.2.2.2.2.1 s.2.2.2.2.2.2.2.2.2.1 s.2.2.2.2.2.2.2.2.2.2.1 s.2.2.2.2.2.2.2.2.2.2.2) (fun s => I s.1 s.2.1 s.2.2.1 s.2.2.2.1 s.2.2.2.2.1 s.2.2.2.2.2.1 s.2.2.2.2.2.2.1 s.2.2.2.2.2.2.2.1 s.2.2.2.2.2.2.2.2.1 s.2.2.2.2.2.2.2.2.2.1 s.2.2.2.2.2.2.2.2.2.2.1 s.2.2.2.2.2.2.2.2.2.2.2) (fun s => μ s.1 s.2.1 s.2.2.1 s.2.2.2.1 s.2.2.2.2.1 s.2.2.2.2.2.1 s.2.2.2.2.2.2.1 s.2.2.2.2.2.2.2.1 s.2.2.2.2.2.2.2.2.1 s.2.2.2.2.2.2.2.2.2.1 s.2.2.2.2.2.2.2.2.2.2.1 s.2.2.2.2.2.2.2.2.2.2.2) (fun n s hI hk => hs n s.1 s.2.1 s.2.2.1 s.2.2.2.1 s.2.2.2.2.1 s.2.2.2.2.2.1 s.2.2.2.2.2.2.1 s.2.2.2.2.2.2.2.1 s.2.2.2.2.2.2.2.2.1 s.2.2.2.2.2.2.2.2.2.1 s.2.2.2.2.2.2.2.2.2.2.1 s.2.2.2.2.2.2.2.2.2.2.2 hI (fun b1 b2 b3 b4 b5 b6 b7 b8 b9 b10 b11 b12 h9 hm => hk (b1, b2, b3, b4, b5, b6, b7, b8, b9, b10, b11, b12) h9 hm)) (a1, a2, a3, a4, a5, a6, a7, a8, a9, a10, a11, a12) h
theorem lp13 {A1 A2 A3 A4 A5 A6 A7 A8 A9 A10 A11 A12 A13 : Type} (W : Nat → A1 → A2 → A3 → A4 → A5 → A6 → A7 → A8 → A9 → A10 → A11 → A12 → A13 → Prop) (I : A1 → A2 → A3 → A4 → A5 → A6 → A7 → A8 → A9 → A10 → A11 → A12 → A13 → Prop) (μ : A1 → A2 → A3 → A4 → A5 → A6 → A7 → A8 → A9 → A10 → A11 → A12 → A13 → Nat) (hs : ∀ (n : Nat) (a1 : A1) (a2 : A2) (a3 : A3) (a4 : A4) (a5 : A5) (a6 : A6) (a7 : A7) (a8 : A8) (a9 : A9) (a10 : A10) (a11 : A11) (a12 : A12) (a13 : A13), I a1 a2 a3 a4 a5 a6 a7 a8 a9 a10 a11 a12 a13 → (∀ (b1 : A1) (b2 : A2) (b3 : A3) (b4 : A4) (b5 : A5) (b6 : A6) (b7 : A7) (b8 : A8) (b9 : A9) (b10 : A10) (b11 : A11) (b12 : A12) (b13 : A13), I b1 b2 b3 b4 b5 b6 b7 b8 b9 b10 b11 b12 b13 → μ b1 b2 b3 b4 b5 b6 b7 b8 b9 b10 b11 b12 b13 < μ a1 a2 a3 a4 a5 a6 a7 a8 a9 a10 a11 a12 a13 → W n b1 b2 b3 b4 b5 b6 b7 b8 b9 b10 b11 b12 b13) → W (n + 1) a1 a2 a3 a4 a5 a6 a7 a8 a9 a10 a11 a12 a13) (a1 : A1) (a2 : A2) (a3 : A3) (a4 : A4) (a5 : A5) (a6 : A6) (a7 : A7) (a8 : A8) (a9 : A9) (a10 : A10) (a11 : A11) (a12 : A12) (a13 : A13) (h : I a1 a2 a3 a4 a5 a6 a7 a8 a9 a10 a11 a12 a13) : ∃ n, W n a1 a2 a3 a4 a5 a6 a7 a8 a9 a10 a11 a12 a13 :=
  loop_m (σ := A1 × A2 × A3 × A4 × A5 × A6 × A7 × A8 × A9 × A10 × A11 × A12 × A13) (fun n s => W n s.1 s.2.1 s.2.2.1 s.2.2.2.1 s.2.2.2.2.1 s.2.2.2.2.2.1 s.2.2.2.2.2.2.1 s.2.2.2.2.2.2.2.1 s.2.2.2.2.2.2.2.2.1 s.2.2.2.2.2.2.2.2.2.1 s.2.2.2.2.2.2.2.2.2.2.1 s.2.2.2.2.2.2.2.2.2.2.2.1 s.2.2.2.2.2.2.2.2.2.2.2.2) (fun s => I s.1 s.2.1 s.2.2.1 s.2.2.2.1 s.2.2.2.2.1 s.2.2.2.2.2.1 s.2.2.2.2.2.2.1 s.2.2.2.2.2.2.2.1 s.2.2.2.2.2.2.2.2.1 s.2.2.2.2.2.2.2.2.2.1 s.2.2.2.2.2.2.2.2.2.2.1 s.2.2.2.2.2.2.2.2.2.2.2.1 s.2.2.2.2.2.2.2.2.2.2.2.2) (fun s => μ s.1 s.2.1 s.2.2.1 s.2.2.2.1 s.2.2.2.2.1 s.2.2.2.2.2.1 s.2.2.2.2.2.2.1 s.2.2.2.2.2.2.2.1 s.2.2.2.2.2.2.2.2.1 s.2.2.2.2.2.2.2.2.2.1 s.2.2.2.2.2.2.2.2.2.2.1 s.2.2.2.2.2.2.2.2.2.2.2.1 s.2.2.2.2.2.2.2.2.2.2.2.2) (fun n s hI hk => hs n s.1 s.2.1 s.2.2.1 s.2.2.2.1 s.2.2.2.2.1 s.2.2.2.2.2.1 s.2.2.2.2.2.2.1 s.2.2.2.2.2.2.2.1 s.2.2.2.2.2.2.2.2.1 s.2.2.2.2.2.2.2.2.2.1 s.2.2.2.2.2.2.2.2.2.2.1 s.2.2.2.2.2.2.2.2.2.2.2.1 s.2.2.2.2.2.2.2.2.2.2.2.2 hI (fun b1 b2 b3 b4 b5 b6 b7 b8 b9 b10 b11 b12 b13 h9 hm => hk (b1, b2, b3, b4, b5, b6, b7, b8, b9, b10, b11, b12, b13) h9 hm)) (a1, a2, a3, a4, a5, a6, a7, a8, a9, a10, a11, a12, a13) h
theorem lp14 {A1 A2 A3 A4 A5 A6 A7 A8 A9 A10 A11 A12 A13 A14 : Type} (W : Nat → A1 → A2 → A3 → A4 → A5 → A6 → A7 → A8 → A9 → A10 → A11 → A12 → A13 → A14 → Prop) (I : A1 → A2 → A3 → A4 → A5 → A6 → A7 → A8 → A9 → A10 → A11 → A12 → A13 → A14 → Prop) (μ : A1 → A2 → A3 → A4 → A5 → A6 → A7 → A8 → A9 → A10 → A11 → A12 → A13 → A14 → Nat) (hs : ∀ (n : Nat) (a1 : A1) (a2 : A2) (a3 : A3) (a4 : A4) (a5 : A5) (a6 : A6) (a7 : A7) (a8 : A8) (a9 : A9) (a10 : A10) (a11 : A11) (a12 : A12) (a13 : A13) (a14 : A14), I a1 a2 a3 a4 a5 a6 a7 a8 a9 a10 a11 a12 a13 a14 → (∀ (b1 : A1) (b2 : A2) (b3 : A3) (b4 : A4) (b5 : A5) (b6 : A6) (b7 : A7) (b8 : A8) (b9 : A9) (b10 : A10) (b11 : A11) (b12 : A12) (b13 : A13) (b14 : A14), I b1 b2 b3 b4 b5 b6 b7 b8 b9 b10 b11 b12 b13 b14 → μ b1 b2 b3 b4 b5 b6 b7 b8 b9 b10 b11 b12 b13 b14 < μ a1 a2 a3 a4 a5 a6 a7 a8 a9 a10 a11 a12 a13 a14 → W n b1 b2 b3 b4 b5 b6 b7 b8 b9 b10 b11 b12 b13 b14) → W (n + 1) a1 a2 a3 a4 a5 a6 a7 a8 a9 a10 a11 a12 a13 a14) (a1 : A1) (a2 : A2) (a3 : A3) (a4 : A4) (a5 : A5) (a6 : A6) (a7 : A7) (a8 : A8) (a9 : A9) (a10 : A10) (a11 : A11) (a12 : A12) (a13 : A13) (a14 : A14) (h : I a1 a2 a3 a4 a5 a6 a7 a8 a9 a10 a11 a12 a13 a14) : ∃ n, W n a1 a2 a3 a4 a5 a6 a7 a8 a9 a10 a11 a12 a13 a14 :=
  loop_m (σ := A1 × A2 × A3 × A4 × A5 × A6 × A7 × A8 × A9 × A10 × A11 × A12 × A13 × A14) (fun n s => W n s.1 s.2.1 s.2.2.1 s.2.2.2.1 s.2.2.2.2.1 s.2.2.2.2.2.1 s.2.2.2.2.2.2.1 s.2.2.2.2.2.2.2.1 s.2.2.2.2.2.2.2.2.1 s.2.2.2.2.2.2.2.2.2.1 s.2.2.2.2.2.2.2.2.2.2.1 s.2.2.2.2.2.2.2.2.2.2.2.1 s.2.2.2.2.2.2.2.2.2.2.2.2.1 s.2.2.2.2.2.2.2.2.2.2.2.2.2) (fun s => I s.1 s.2.1 s.2.2.1 s.2.2.2.1 s.2.2.2.2.1 s.2.2.2.2.2.1 s.2.2.2.2.2.2.1 s.2.2.2.2.2.2.2.1 s.2.2.2.2.2.2.2.2.1 s.2.2.2.2.2.2.2.2.2.1 s.2.2.2.2.2.2.2.2.2.2.1 s.2.2.2.2.2.2.2.2.2.2.2.1 s.2.2.2.2.2.2.2.2.2.2.2.2.1 s.2.2.2.2.2.2.2.2.2.2.2.2.2) (fun s => μ s.1 s.2.1 s.2.2.1 s.2.2.2.1 s.2.2.2.2.1 s.2.2.2.2.2.1 s.2.2.2.2.2.2.1 s.2.2.2.2.2.2.2.1 s.2.2.2.2.2.2.2.2.1 s.2.2.2.2.2.2.2.2.2.1 s.2.2.2.2.2.2.2.2.2.2.1 s.2.2.2.2.2.2.2.2.2.2.2.1 s.2.2.2.2.2.2.2.2.2.2.2.2.1 s.2.2.2.2.2.2.2.2.2.2.2.2.2) (fun n s hI hk => hs n s.1 s.2.1 s.2.2.1 s.2.2.2.1 s.2.2.2.2.1 s.2.2.2.2.2.1 s.2.2.2.2.2.2.1 s.2.2.2.2.2.2.2.1 s.2.2.2.2.2.2.2.2.1 s.2.2.2.2.2.2.2.2.2.1 s.2.2.2.2.2.2.2.2.2.2.1 s.2.2.2.2.2.2.2.2.2.2.2.1 s.2.2.2.2.2.2.2.2.2.2.2.2.1 s.2.2.2.2.2.2.2.2.2.2.2.2.2 hI (fun b1 b2 b3 b4 b5 b6 b7 b8 b9 b10 b11 b12 b13 b14 h9 hm => hk (b1, b2, b3, b4, b5, b6, b7, b8, b9, b10, b11, b12, b13, b14) h9 hm)) (a1, a2, a3, a4, a5, a6, a7, a8, a9, a10, a11, a12, a13, a14) h
theorem lp15 {A1 A2 A3 A4 A5 A6 A7 A8 A9 A10 A11 A12 A13 A14 A15 : Type} (W : Nat → A1 → A2 → A3 → A4 → A5 → A6 → A7 → A8 → A9 → A10 → A11 → A12 → A13 → A14 → A15 → Prop) (I : A1 → A2 → A3 → A4 → A5 → A6 → A7 → A8 → A9 → A10 → A11 → A12 → A13 → A14 → A15 → Prop) (μ : A1 → A2 → A3 → A4 → A5 → A6 → A7 → A8 → A9 → A10 → A11 → A12 → A13 → A14 → A15 → Nat) (hs : ∀ (n : Nat) (a1 : A1) (a2 : A2) (a3 : A3) (a4 : A4) (a5 : A5) (a6 : A6) (a7 : A7) (a8 : A8) (a9 : A9) (a10 : A10) (a11 : A11) (a12 : A12) (a13 : A13) (a14 : A14) (a15 : A15), I a1 a2 a3 a4 a5 a6 a7 a8 a9 a10 a11 a12 a13 a14 a15 → (∀ (b1 : A1) (b2 : A2) (b3 : A3) (b4 : A4) (b5 : A5) (b6 : A6) (b7 : A7) (b8 : A8) (b9 : A9) (b10 : A10) (b11 : A11) (b12 : A12) (b13 : A13) (b14 : A14) (b15 : A15), I b1 b2 b3 b4 b5 b6 b7 b8 b9 b10 b11 b12 b13 b14 b15 → μ b1 b2 b3 b4 b5 b6 b7 b8 b9 b10 b11 b12 b13 b14 b15 < μ a1 a2 a3 a4 a5 a6 a7 a8 a9 a10 a11 a12 a13 a14 a15 → W n b1 b2 b3 b4 b5 b6 b7 b8 b9 b10 b11 b12 b13 b14 b15) → W (n + 1) a1 a2 a3 a4 a5 a6 a7 a8 a9 a10 a11 a12 a13 a14 a15) (a1 : A1) (a2 : A2) (a3 : A3) (a4 : A4) (a5 : A5) (a6 : A6) (a7 : A7) (a8 : A8) (a9 : A9) (a10 : A10) (a11 : A11) (a12 : A12) (a13 : A13) (a14 : A14) (a15 : A15) (h : I a1 a2 a3 a4 a5 a6 a7 a8 a9 a10 a11 a12 a13 a14 a15) : ∃ n, W n a1 a2 a3 a4 a5 a6 a7 a8 a9 a10 a11 a12 a13 a14 a15 :=
  loop_m (σ := A1 × A2 × A3 × A4 × A5 × A6 × A7 × A8 × A9 × A10 × A11 × A12 × A13 × A14 × A15) (fun n s => W n s.1 s.2.1 s.2.2.1 s.2.2.2.1 s.2.2.2.2.1 s.2.2.2.2.2.1 s.2.2.2.2.2.2.1 s.2.2.2.2.2.2.2.1 s.2.2.2.2.2.2.2.2.1 s.2.2.2.2.2.2.2.2.2.1 s.2.2.2.2.2.2.2.2.2.2.1 s.2.2.2.2.2.2.2.2.2.2.2.1 s.2.2.2.2.2.2.2.2.2.2.2.2.1 s.2.2.2.2.2.2.2.2.2.2.2.2.2.1 s.2.2.2.2.2.2.2.2.2.2.2.2.2.2) (fun s => I s.1 s.2.1 s.2.2.1 s.2.2.2.1 s.2.2.2.2.1 s.2.2.2.2.2.1 s.2.2.2.2.2.2.1 s.2.2.2.2.2.2.2.1 s.2.2.2.2.2.2.2.2.1 s.2.2.2.2.2.2.2.2.2.1 s.2.2.2.2.2.2.2.2.2.2.1 s.2.2.2.2.2.2.2.2.2.2.2.1 s.2.2.2.2.2.2.2.2.2.2.2.2.1 s.2.2.2.2.2.2.2.2.2.2.2.2.2.1 s.2.2.2.2.2.2.2.2.2.2.2.2.2.2) (fun s => μ s.1 s.2.1 s.2.2.1 s.2.2.2.1 s.2.2.2.2.1 s.2.2.2.2.2.1 s.2.2.2.2.2.2.1 s.2.2.2.2.2.2.2.1 s.2.2.2.2.2.2.2.2.1 s.2.2.2.2.2.2.2.2.2.1 s.2.2.2.2.2.2.2.2.2.2.1 s.2.2.2.2.2.2.2.2.2.2.2.1 s.2.2.2.2.2.2.2.2.2.2.2.2.1 s.2.2.2.2.2.2.2.2.2.2.2.2.2.1 s.2.2.2.2.2.2.2.2.2.2.2.2.2.2) (fun n s hI hk => hs n s.1 s.2.1 s.2.2.1 s.2.2.2.1 s.2.2.2.2.1 s.2.2.2.2.2.1 s.2.2.2.2.2.2.1 s.2.2.2.2.2.2.2.1 s.2.2.2.2.2.2.2.2.1 s.2.2.2.2.2.2.2.2.2.1 s.2.2.2.2.2.2.2.2.2.2.1 s.2.2.2.2.2.2.2.2.2.2.2.1 s.2.2.2.2.2.2.2.2.2.2.2.2.1 s.2.2.2.2.2.2.2.2.2.2.2.2.2.1 s.2.2.2.2.2.2.2.2.2.2.2.2.2.2 hI (fun b1 b2 b3 b4 b5 b6 b7 b8 b9 b10 b11 b12 b13 b14 b15 h9 hm => hk (b1, b2, b3, b4, b5, b6, b7, b8, b9, b10, b11, b12, b13, b14, b15) h9 hm)) (a1, a2, a3, a4, a5, a6, a7, a8, a9, a10, a11, a12, a13, a14, a15) h
theorem lp16 {A1 A2 A3 A4 A5 A6 A7 A8 A9 A10 A11 A12 A13 A14 A15 A16 : Type} (W : Nat → A1 → A2 → A3 → A4 → A5 → A6 → A7 → A8 → A9 → A10 → A11 → A12 → A13 → A14 → A15 → A16 → Prop) (I : A1 → A2 → A3 → A4 → A5 → A6 → A7 → A8 → A9 → A10 → A11 → A12 → A13 → A14 → A15 → A16 → Prop) (μ : A1 → A2 → A3 → A4 → A5 → A6 → A7 → A8 → A9 → A10 → A11 → A12 → A13 → A14 → A15 → A16 → Nat) (hs : ∀ (n : Nat) (a1 : A1) (a2 : A2) (a3 : A3) (a4 : A4) (a5 : A5) (a6 : A6) (a7 : A7) (a8 : A8) (a9 : A9) (a10 : A10) (a11 : A11) (a12 : A12) (a13 : A13) (a14 : A14) (a15 : A15) (a16 : A16), I a1 a2 a3 a4 a5 a6 a7 a8 a9 a10 a11 a12 a13 a14 a15 a16 → (∀ (b1 : A1) (b2 : A2) (b3 : A3) (b4 : A4) (b5 : A5) (b6 : A6) (b7 : A7) (b8 : A8) (b9 : A9) (b10 : A10) (b11 : A11) (b12 : A12) (b13 : A13) (b14 : A14) (b15 : A15) (b16 : A16), I b1 b2 b3 b4 b5 b6 b7 b8 b9 b10 b11 b12 b13 b14 b15 b16 → μ b1 b2 b3 b4 b5 b6 b7 b8 b9 b10 b11 b12 b13 b14 b15 b16 < μ a1 a2 a3 a4 a5 a6 a7 a8 a9 a10 a11 a12 a13 a14 a15 a16 → W n b1 b2 b3 b4 b5 b6 b7 b8 b9 b10 b11 b12 b13 b14 b15 b16) → W (n + 1) a1 a2 a3 a4 a5 a6 a7 a8 a9 a10 a11 a12 a13 a14 a15 a16) (a1 : A1) (a2 : A2) (a3 : A3) (a4 : A4) (a5 : A5) (a6 : A6) (a7 : A7) (a8 : A8) (a9 : A9) (a10 : A10) (a11 : A11) (a12 : A12) (a13 : A13) (a14 : A14) (a15 : A15) (a16 : A16) (h : I a1 a2 a3 a4 a5 a6 a7 a8 a9 a10 a11 a12 a13 a14 a15 a16) : ∃ n, W n a1 a2 a3 a4 a5 a6 a7 a8 a9 a10 a11 a12 a13 a14 a15 a16 :=
  loop_m (σ := A1 × A2 × A3 × A4 × A5 × A6 × A7 × A8 × A9 × A10 × A11 × A12 × A13 × A14 × A15 × A16) (fun n s => W n s.1 s.2.1 s.2.2.1 s.2.2.2.1 s.2.2.2.2.1 s.2.2.2.2.2.1 s.2.2.2.2.2.2.1 s.2.2.2.2.2.2.2.1 s.2.2.2.2.2.2.2.2.1 s.2.2.2.2.2.2.2.2.2.1 s.2.2.2.2.2.2.2.2.2.2.1 s.2.2.2.2.2.2.2.2.2.2.2.1 s.2.2.2.2.2.2.2.2.2.2.2.2.1 s.2.2.2.2.2.2.2.2.2.2.2.2.2.1 s.2.2.2.2.2.2.2.2.2.2.2.2.2.2.1 s.2.2.2.2.2.2.2.2.2.2.2.2.2.2.2) (fun s => I s.1 s.2.1 s.2.2.1 s.2.2.2.1 s.2.2.2.2.1 s.2.2.2.2.2.1 s.2.2.2.2.2.2.1 s.2.2.2.2.2.2.2.1 s.2.2.2.2.2.2.2.2.1 s.2.2.2.2.2.2.2.2.2.1 s.2.2.2.2.2.2.2.2.2.2.1 s.2.2.2.2.2.2.2.2.2.2.2.1 s.2.2.2.2.2.2.2.2.2.2.2.2.1 s.2.2.2.2.2.2.2.2.2.2.2.2.2.1 s.2.2.2.2.2.2.2.2.2.2.2.2.2.2.1 s.2.2.2.2.2.2.2.2.2.2.2.2.2.2.2) (fun s => μ s.1 s.2.1 s.2.2.1 s.2.2.2.1 s.2.2.2.2.1 s.2.2.2.2.2.1 s.2.2.2.2.2.2.1 s.2.2.2.2.2.2.2.1 s.2.2.2.2.2.2.2.2.1 s.2.2.2.2.2.2.2.2.2.1 s.2.2.2.2.2.2.2.2.2.2.1 s.2.2.2.2.2.2.2.2.2.2.2.1 s.2.2.2.2.2.2.2.2.2.2.2.2.1 s.2.2.2.2.2.2.2.2.2.2.2.2.2.1 s.2.2.2.2.2.2.2.2.2.2.2.2.2.2.1 s.2.2.2.2.2.2.2.2.2.2.2.2.2.2.2) (fun n s hI hk => hs n s.1 s.2.1 s.2.2.1 s.2.2.2.1 s.2.2.2.2.1 s.2.2.2.2.2.1 s.2.2.2.2.2.2.1 s.2.2.2.2.2.2.2.1 s.2.2.2.2.2.2.2.2.1 s.2.2.2.2.2.2.2.2.2.1 s.2.2.2.2.2.2.2.2.2.2.1 s.2.2.2.2.2.2.2.2.2.2.2.1 s.2.2.2.2.2.2.2.2.2.2.2.2.1 s.2.2.2.2.2.2.2.2.2.2.2.2.2.1 s.2.2.2.2.2.2.2.2.2.2.2.2.2.2.1 s.2.2.2.2.2.2.2.2.2.2.2.2.2.2.2 hI (fun b1 b2 b3 b4 b5 b6 b7 b8 b9 b10 b11 b12 b13 b14 b15 b16 h9 hm => hk (b1, b2, b3, b4, b5, b6, b7, b8, b9, b10, b11, b12, b13, b14, b15, b16) h9 hm)) (a1, a2, a3, a4, a5, a6, a7, a8, a9, a10, a11, a12, a13, a14, a15, a16) h
theorem pk_least (P : Nat → Prop) (h : ∃ k, P k) : ∃ k, P k ∧ ∀ j, j < k → ¬ P j := by
  obtain ⟨k, hk⟩ := h
  induction k using Nat.strongRecOn with
  | ind k ih =>
    by_cases e : ∃ j, j < k ∧ P j
    · obtain ⟨j, hj, pj⟩ := e
      exact ih j hj pj
    · exact ⟨k, hk, fun j hj pj => e ⟨j, hj, pj⟩⟩
theorem rp1 {ρ A1 : Type} (W : Nat → (ρ → Prop) → A1 → Prop) (ok : A1 → Prop) (μ : A1 → Nat) (val : A1 → ρ)
    (hs : ∀ (d : Nat) (post : ρ → Prop) (a1 : A1), ok a1 → post (val a1) → (∀ (post' : ρ → Prop) (b1 : A1), ok b1 → μ b1 < μ a1 → post' (val b1) → W d post' b1) → W (d + 1) post a1) :
    ∀ (d : Nat) (post : ρ → Prop) (a1 : A1), ok a1 → μ a1 < d → post (val a1) → W d post a1 := by
  intro d
  induction d with
  | zero => intro post a1 _ h; omega
  | succ d ih =>
    intro post a1 ho hm hp
    exact hs d post a1 ho hp (fun post' b1 ho' hm' hp' => ih post' b1 ho' (by omega) hp')
theorem rp2 {ρ A1 A2 : Type} (W : Nat → (ρ → Prop) → A1 → A2 → Prop) (ok : A1 → A2 → Prop) (μ : A1 → A2 → Nat) (val : A1 → A2 → ρ)
    (hs : ∀ (d : Nat) (post : ρ → Prop) (a1 : A1) (a2 : A2), ok a1 a2 → post (val a1 a2) → (∀ (post' : ρ → Prop) (b1 : A1) (b2 : A2), ok b1 b2 → μ b1 b2 < μ a1 a2 → post' (val b1 b2) → W d post' b1 b2) → W (d + 1) post a1 a2) :
    ∀ (d : Nat) (post : ρ → Prop) (a1 : A1) (a2 : A2), ok a1 a2 → μ a1 a2 < d → post (val a1 a2) → W d post a1 a2 := by
  intro d
  induction d with
  | zero => intro post a1 a2 _ h; omega
  | succ d ih =>
    intro post a1 a2 ho hm hp
    exact hs d post a1 a2 ho hp (fun post' b1 b2 ho' hm' hp' => ih post' b1 b2 ho' (by omega) hp')
theorem rp3 {ρ A1 A2 A3 : Type} (W : Nat → (ρ → Prop) → A1 → A2 → A3 → Prop) (ok : A1 → A2 → A3 → Prop) (μ : A1 → A2 → A3 → Nat) (val : A1 → A2 → A3 → ρ)
    (hs : ∀ (d : Nat) (post : ρ → Prop) (a1 : A1) (a2 : A2) (a3 : A3), ok a1 a2 a3 → post (val a1 a2 a3) → (∀ (post' : ρ → Prop) (b1 : A1) (b2 : A2) (b3 : A3), ok b1 b2 b3 → μ b1 b2 b3 < μ a1 a2 a3 → post' (val b1 b2 b3) → W d post' b1 b2 b3) → W (d + 1) post a1 a2 a3) :
    ∀ (d : Nat) (post : ρ → Prop) (a1 : A1) (a2 : A2) (a3 : A3), ok a1 a2 a3 → μ a1 a2 a3 < d → post (val a1 a2 a3) → W d post a1 a2 a3 := by
  intro d
  induction d with
  | zero => intro post a1 a2 a3 _ h; omega
  | succ d ih =>
    intro post a1 a2 a3 ho hm hp
    exact hs d post a1 a2 a3 ho hp (fun post' b1 b2 b3 ho' hm' hp' => ih post' b1 b2 b3 ho' (by omega) hp')
theorem rp4 {ρ A1 A2 A3 A4 : Type} (W : Nat → (ρ → Prop) → A1 → A2 → A3 → A4 → Prop) (ok : A1 → A2 → A3 → A4 → Prop) (μ : A1 → A2 → A3 → A4 → Nat) (val : A1 → A2 → A3 → A4 → ρ)
    (hs : ∀ (d : Nat) (post : ρ → Prop) (a1 : A1) (a2 : A2) (a3 : A3) (a4 : A4), ok a1 a2 a3 a4 → post (val a1 a2 a3 a4) → (∀ (post' : ρ → Prop) (b1 : A1) (b2 : A2) (b3 : A3) (b4 : A4), ok b1 b2 b3 b4 → μ b1 b2 b3 b4 < μ a1 a2 a3 a4 → post' (val b1 b2 b3 b4) → W d post' b1 b2 b3 b4) → W (d + 1) post a1 a2 a3 a4) :
    ∀ (d : Nat) (post : ρ → Prop) (a1 : A1) (a2 : A2) (a3 : A3) (a4 : A4), ok a1 a2 a3 a4 → μ a1 a2 a3 a4 < d → post (val a1 a2 a3 a4) → W d post a1 a2 a3 a4 := by
  intro d
  induction d with
  | zero => intro post a1 a2 a3 a4 _ h; omega
  | succ d ih =>
    intro post a1 a2 a3 a4 ho hm hp
    exact hs d post a1 a2 a3 a4 ho hp (fun post' b1 b2 b3 b4 ho' hm' hp' => ih post' b1 b2 b3 b4 ho' (by omega) hp')
theorem rp5 {ρ A1 A2 A3 A4 A5 : Type} (W : Nat → (ρ → Prop) → A1 → A2 → A3 → A4 → A5 → Prop) (ok : A1 → A2 → A3 → A4 → A5 → Prop) (μ : A1 → A2 → A3 → A4 → A5 → Nat) (val : A1 → A2 → A3 → A4 → A5 → ρ)
    (hs : ∀ (d : Nat) (post : ρ → Prop) (a1 : A1) (a2 : A2) (a3 : A3) (a4 : A4) (a5 : A5), ok a1 a2 a3 a4 a5 → post (val a1 a2 a3 a4 a5) → (∀ (post' : ρ → Prop) (b1 : A1) (b2 : A2) (b3 : A3) (b4 : A4) (b5 : A5), ok b1 b2 b3 b4 b5 → μ b1 b2 b3 b4 b5 < μ a1 a2 a3 a4 a5 → post' (val b1 b2 b3 b4 b5) → W d post' b1 b2 b3 b4 b5) → W (d + 1) post a1 a2 a3 a4 a5) :
    ∀ (d : Nat) (post : ρ → Prop) (a1 : A1) (a2 : A2) (a3 : A3) (a4 : A4) (a5 : A5), ok a1 a2 a3 a4 a5 → μ a1 a2 a3 a4 a5 < d → post (val a1 a2 a3 a4 a5) → W d post a1 a2 a3 a4 a5 := by
  intro d
  induction d with
  | zero => intro post a1 a2 a3 a4 a5 _ h; omega
  | succ d ih =>
    intro post a1 a2 a3 a4 a5 ho hm hp
    exact hs d post a1 a2 a3 a4 a5 ho hp (fun post' b1 b2 b3 b4 b5 ho' hm' hp' => ih post' b1 b2 b3 b4 b5 ho' (by omega) hp')
theorem rp6 {ρ A1 A2 A3 A4 A5 A6 : Type} (W : Nat → (ρ → Prop) → A1 → A2 → A3 → A4 → A5 → A6 → Prop) (ok : A1 → A2 → A3 → A4 → A5 → A6 → Prop) (μ : A1 → A2 → A3 → A4 → A5 → A6 → Nat) (val : A1 → A2 → A3 → A4 → A5 → A6 → ρ)
    (hs : ∀ (d : Nat) (post : ρ → Prop) (a1 : A1) (a2 : A2) (a3 : A3) (a4 : A4) (a5 : A5) (a6 : A6), ok a1 a2 a3 a4 a5 a6 → post (val a1 a2 a3 a4 a5 a6) → (∀ (post' : ρ → Prop) (b1 : A1) (b2 : A2) (b3 : A3) (b4 : A4) (b5 : A5) (b6 : A6), ok b1 b2 b3 b4 b5 b6 → μ b1 b2 b3 b4 b5 b6 < μ a1 a2 a3 a4 a5 a6 → post' (val b1 b2 b3 b4 b5 b6) → W d post' b1 b2 b3 b4 b5 b6) → W (d + 1) post a1 a2 a3 a4 a5 a6) :
    ∀ (d : Nat) (post : ρ → Prop) (a1 : A1) (a2 : A2) (a3 : A3) (a4 : A4) (a5 : A5) (a6 : A6), ok a1 a2 a3 a4 a5 a6 → μ a1 a2 a3 a4 a5 a6 < d → post (val a1 a2 a3 a4 a5 a6) → W d post a1 a2 a3 a4 a5 a6 := by
  intro d
  induction d with
  | zero => intro post a1 a2 a3 a4 a5 a6 _ h; omega
  | succ d ih =>
    intro post a1 a2 a3 a4 a5 a6 ho hm hp
    exact hs d post a1 a2 a3 a4 a5 a6 ho hp (fun post' b1 b2 b3 b4 b5 b6 ho' hm' hp' => ih post' b1 b2 b3 b4 b5 b6 ho' (by omega) hp')
theorem rec_p {σ ρ : Type} (W : Nat → (ρ → Prop) → σ → Prop) (ok : σ → Prop) (μ : σ → Nat) (val : σ → ρ)
    (hs : ∀ d s post, ok s → post (val s) → (∀ s' post', ok s' → μ s' < μ s → post' (val s') → W d post' s') → W (d + 1) post s) :
    ∀ d s post, ok s → μ s < d → post (val s) → W d post s := by
  intro d
  induction d with
  | zero => intro s post _ h; omega
  | succ d ih =>
    intro s post ho hm hp
    exact hs d s post ho hp (fun s' post' ho' hm' hp' => ih s' post' ho' (by omega) hp')
theorem rec_q {σ ρ : Type} (W : Nat → (ρ → Prop) → σ → Prop) (ok : σ → Prop) (μ : σ → Nat) (Q : σ → ρ → Prop)
    (hs : ∀ d s post, ok s → (∀ r, Q s r → post r) → (∀ s' post', ok s' → μ s' < μ s → (∀ r, Q s' r → post' r) → W d post' s') → W (d + 1) post s) :
    ∀ d s post, ok s → μ s < d → (∀ r, Q s r → post r) → W d post s := by
  intro d
  induction d with
  | zero => intro s post _ h; omega
  | succ d ih =>
    intro s post ho hm hp
    exact hs d s post ho hp (fun s' post' ho' hm' hp' => ih s' post' ho' (by omega) hp')
/-! ===== Int32 by its bits: bt x i ===== -/
def bt (x : Int32) (i : Nat) : Bool := x.toBitVec.getLsbD i
theorem b_ext {x y : Int32} (h : ∀ i, i < 32 → bt x i = bt y i) : x = y := Int32.toBitVec_inj.mp (BitVec.eq_of_getLsbD_eq (fun i hi => h i hi))
theorem b_or (x y : Int32) (i : Nat) : bt (x ||| y) i = (bt x i || bt y i) := by unfold bt; rw [Int32.toBitVec_or, BitVec.getLsbD_or]
theorem b_and (x y : Int32) (i : Nat) : bt (x &&& y) i = (bt x i && bt y i) := by unfold bt; rw [Int32.toBitVec_and, BitVec.getLsbD_and]
theorem b_xor (x y : Int32) (i : Nat) : bt (x ^^^ y) i = (bt x i ^^ bt y i) := by unfold bt; rw [Int32.toBitVec_xor, BitVec.getLsbD_xor]
theorem b_big {x : Int32} {i : Nat} (h : 32 ≤ i) : bt x i = false := BitVec.getLsbD_of_ge _ _ h
theorem b_255 (i : Nat) : bt 255 i = decide (i < 8) := by
  rcases Nat.lt_or_ge i 32 with h | h
  · exact (by decide +kernel : ∀ i, i < 32 → bt 255 i = decide (i < 8)) i h
  · rw [b_big h, decide_eq_false (by omega)]
theorem b_65535 (i : Nat) : bt 65535 i = decide (i < 16) := by
  rcases Nat.lt_or_ge i 32 with h | h
  · exact (by decide +kernel : ∀ i, i < 32 → bt 65535 i = decide (i < 16)) i h
  · rw [b_big h, decide_eq_false (by omega)]
theorem b_m1 : ∀ i, i < 32 → bt (-1) i = true := by decide +kernel
theorem b_0 (i : Nat) : bt 0 i = false := BitVec.getLsbD_zero
theorem s_l : ∀ n, n < 32 → ((nI n &&& 31).toBitVec.smod 32).toNat = n := by decide +kernel
theorem s_u : ∀ n, n < 32 → (((nI n).toUInt32 &&& Int32.toUInt32 31).toBitVec % 32).toNat = n := by decide +kernel
theorem b_shl (n : Nat) (hn : n < 32) (x : Int32) {i : Nat} (hi : i < 32) : bt (x <<< (nI n &&& 31)) i = (decide (n ≤ i) && bt x (i - n)) := by
  unfold bt
  rw [Int32.toBitVec_shiftLeft]
  show (x.toBitVec <<< ((nI n &&& 31).toBitVec.smod 32).toNat).getLsbD i = _
  rw [s_l n hn, BitVec.getLsbD_shiftLeft]
  rcases Nat.lt_or_ge i n with h | h
  · simp [h, Nat.not_le.mpr h]
  · simp [hi, h, Nat.not_lt.mpr h]
theorem b_ushr (n : Nat) (hn : n < 32) (x : Int32) (i : Nat) : bt ((x.toUInt32 >>> ((nI n).toUInt32 &&& Int32.toUInt32 31)).toInt32) i = bt x (n + i) := by
  show (x.toUInt32 >>> ((nI n).toUInt32 &&& Int32.toUInt32 31)).toBitVec.getLsbD i = x.toUInt32.toBitVec.getLsbD (n + i)
  rw [UInt32.toBitVec_shiftRight]
  show (x.toUInt32.toBitVec >>> (((nI n).toUInt32 &&& Int32.toUInt32 31).toBitVec % 32).toNat).getLsbD i = _
  rw [s_u n hn, BitVec.getLsbD_ushiftRight]
theorem b_sshr (n : Nat) (hn : n < 32) (x : Int32) {i : Nat} (hi : i < 32) : bt (x >>> (nI n &&& 31)) i = if n + i < 32 then bt x (n + i) else bt x 31 := by
  unfold bt
  rw [Int32.toBitVec_shiftRight]
  show (x.toBitVec.sshiftRight ((nI n &&& 31).toBitVec.smod 32).toNat).getLsbD i = _
  rw [s_l n hn, BitVec.getLsbD_sshiftRight, BitVec.msb_eq_getLsbD_last]
  simp [hi]
theorem b_shl8 (x : Int32) {i : Nat} (hi : i < 32) : bt (x <<< ((8 : Int32) &&& 31)) i = (decide (8 ≤ i) && bt x (i - 8)) := b_shl 8 (by omega) x hi
theorem b_shl16 (x : Int32) {i : Nat} (hi : i < 32) : bt (x <<< ((16 : Int32) &&& 31)) i = (decide (16 ≤ i) && bt x (i - 16)) := b_shl 16 (by omega) x hi
theorem b_shl24 (x : Int32) {i : Nat} (hi : i < 32) : bt (x <<< ((24 : Int32) &&& 31)) i = (decide (24 ≤ i) && bt x (i - 24)) := b_shl 24 (by omega) x hi
theorem b_sshr8 (x : Int32) {i : Nat} (hi : i < 32) : bt (x >>> ((8 : Int32) &&& 31)) i = if 8 + i < 32 then bt x (8 + i) else bt x 31 := b_sshr 8 (by omega) x hi
/-! ===== nI under and, xor, >>>, one bit, 65535 ===== -/
theorem nx_and (a b : Nat) : nI a &&& nI b = nI (a &&& b) := by
  apply Int32.toBitVec_inj.1
  show BitVec.ofNat 32 a &&& BitVec.ofNat 32 b = BitVec.ofNat 32 (a &&& b)
  apply BitVec.eq_of_getLsbD_eq
  intro i hi
  simp [hi]
theorem nx_xor (a b : Nat) : nI a ^^^ nI b = nI (a ^^^ b) := by
  apply Int32.toBitVec_inj.1
  show BitVec.ofNat 32 a ^^^ BitVec.ofNat 32 b = BitVec.ofNat 32 (a ^^^ b)
  apply BitVec.eq_of_getLsbD_eq
  intro i hi
  simp [hi]
theorem nx_cnt : ∀ j : Fin 32, (UInt32.ofNat j.val &&& Int32.toUInt32 31).toNat % 32 = j.val := by decide +kernel
theorem nx_ush {k j : Nat} (hk : k < 65536) (hj : j < 32) : ((nI k).toUInt32 >>> ((nI j).toUInt32 &&& Int32.toUInt32 31)).toInt32 = nI (k >>> j) := by
  have hs : k >>> j ≤ k := by
    rw [Nat.shiftRight_eq_div_pow]
    exact Nat.div_le_self _ _
  have e2 : UInt32.ofNat k >>> (UInt32.ofNat j &&& Int32.toUInt32 31) = UInt32.ofNat (k >>> j) := by
    apply UInt32.toNat_inj.1
    have h1 : (UInt32.ofNat k).toNat = k := Nat.mod_eq_of_lt (by omega)
    have h2 : (UInt32.ofNat (k >>> j)).toNat = k >>> j := Nat.mod_eq_of_lt (by omega)
    rw [UInt32.toNat_shiftRight, nx_cnt ⟨j, hj⟩, h1, h2]
  show (UInt32.ofNat k >>> (UInt32.ofNat j &&& Int32.toUInt32 31)).toInt32 = _
  rw [e2]
  rfl
theorem nx_bit {k j : Nat} (hk : k < 65536) (hj : j < 16) : (((nI k).toUInt32 >>> ((nI j).toUInt32 &&& Int32.toUInt32 31)).toInt32 &&& 1) = 0 ↔ k.testBit j = false := by
  rw [nx_ush hk (by omega)]
  show nI (k >>> j) &&& nI 1 = 0 ↔ _
  rw [nx_and, Nat.and_one_is_mod, ← nI_0, nI_eq (by omega) (by omega), Nat.testBit_eq_decide_div_mod_eq, Nat.shiftRight_eq_div_pow, decide_eq_false_iff_not]
  generalize k / 2 ^ j = z
  omega
theorem nx_mod (k : Nat) : nI k &&& 65535 = nI (k % 65536) := by
  show nI k &&& nI 65535 = _
  rw [nx_and, show (65535 : Nat) = 2 ^ 16 - 1 from rfl, Nat.and_two_pow_sub_one_eq_mod]
theorem nx_m16 {k : Nat} (h : k < 65536) : nI k &&& 65535 = nI k := by rw [nx_mod, Nat.mod_eq_of_lt h]
theorem nx_mask (x : Int32) : ∃ k, k < 65536 ∧ x &&& 65535 = nI k := by
  have e : x = nI x.toBitVec.toNat := by
    apply Int32.toBitVec_inj.1
    show x.toBitVec = BitVec.ofNat 32 x.toBitVec.toNat
    simp
  refine ⟨x.toBitVec.toNat % 65536, Nat.mod_lt _ (by omega), ?_⟩
  rw [← nx_mod, ← e]
/-! ===== lN n to 2^64: shifts, and, or, masks, one bit ===== -/
theorem wb_tb (n : Nat) : (lN n).toBitVec = BitVec.ofNat 64 n := rfl
theorem wb_inj {a b : Int64} (h : a.toBitVec = b.toBitVec) : a = b := Int64.toBitVec_inj.mp h
theorem wb_tn {n : Nat} (h : n < 2 ^ 64) : (lN n).toBitVec.toNat = n := by rw [wb_tb, BitVec.toNat_ofNat, Nat.mod_eq_of_lt h]
theorem wb_of (x : Int64) : ∃ n, n < 2 ^ 64 ∧ x = lN n := ⟨x.toBitVec.toNat, x.toBitVec.isLt, wb_inj (by rw [wb_tb]; simp)⟩
theorem wb_of32 (x : Int32) : ∃ n, n < 2 ^ 32 ∧ x = nI n := ⟨x.toBitVec.toNat, x.toBitVec.isLt, Int32.toBitVec_inj.mp (by show _ = BitVec.ofNat 32 _; simp)⟩
theorem wb_c : ∀ k, k < 64 → ((nI k).toInt64 &&& 63) = lN k := by decide +kernel
theorem wb_cu : ∀ k, k < 64 → ((nI k).toInt64.toUInt64 &&& Int64.toUInt64 63) = UInt64.ofNat k := by decide +kernel
theorem wb_sm : ∀ k, k < 64 → (BitVec.ofNat 64 k).smod 64 = BitVec.ofNat 64 k := by decide +kernel
theorem wb_pw {a b : Nat} (h : a ≤ b) : 2 ^ b = 2 ^ a * 2 ^ (b - a) := by rw [← Nat.pow_add]; congr 1; omega
theorem wb_lt2 {a b : Nat} (h : a < b) : 2 ^ a < 2 ^ b := Nat.pow_lt_pow_right (by decide) h
theorem wb_mod (n : Nat) : lN n = lN (n % 2 ^ 64) := wb_inj (by rw [wb_tb, wb_tb]; apply BitVec.eq_of_toNat_eq; rw [BitVec.toNat_ofNat, BitVec.toNat_ofNat, Nat.mod_mod])
theorem wb_shr {n k : Nat} (hn : n < 2 ^ 64) (hk : k < 64) : ((lN n).toUInt64 >>> ((nI k).toInt64.toUInt64 &&& Int64.toUInt64 63)).toInt64 = lN (n / 2 ^ k) := by
  rw [wb_cu k hk]
  apply wb_inj
  apply BitVec.eq_of_toNat_eq
  show ((lN n).toUInt64 >>> UInt64.ofNat k).toNat = (BitVec.ofNat 64 _).toNat
  have h1 : (UInt64.ofNat k).toNat = k := by
    show (BitVec.ofNat 64 k).toNat = k
    rw [BitVec.toNat_ofNat, Nat.mod_eq_of_lt (by omega)]
  have h2 : (lN n).toUInt64.toNat = n := wb_tn hn
  rw [UInt64.toNat_shiftRight, h1, h2, Nat.mod_eq_of_lt hk, Nat.shiftRight_eq_div_pow, BitVec.toNat_ofNat, Nat.mod_eq_of_lt (Nat.lt_of_le_of_lt (Nat.div_le_self _ _) hn)]
theorem wb_shl (n : Nat) {k : Nat} (hk : k < 64) : lN n <<< ((nI k).toInt64 &&& 63) = lN (n * 2 ^ k) := by
  rw [wb_c k hk]
  apply wb_inj
  rw [Int64.toBitVec_shiftLeft, wb_tb, wb_tb, wb_tb, wb_sm k hk]
  apply BitVec.eq_of_toNat_eq
  rw [BitVec.shiftLeft_eq', BitVec.toNat_shiftLeft, BitVec.toNat_ofNat, BitVec.toNat_ofNat, BitVec.toNat_ofNat, Nat.mod_eq_of_lt (show k < 2 ^ 64 by omega), Nat.shiftLeft_eq, Nat.mul_mod, Nat.mod_mod, ← Nat.mul_mod]
theorem wb_and {a b : Nat} (ha : a < 2 ^ 64) (hb : b < 2 ^ 64) : lN a &&& lN b = lN (a &&& b) := by
  apply wb_inj
  rw [Int64.toBitVec_and, wb_tb, wb_tb, wb_tb]
  apply BitVec.eq_of_toNat_eq
  rw [BitVec.toNat_and, BitVec.toNat_ofNat, BitVec.toNat_ofNat, BitVec.toNat_ofNat, Nat.mod_eq_of_lt ha, Nat.mod_eq_of_lt hb, Nat.mod_eq_of_lt (Nat.and_lt_two_pow _ hb)]
theorem wb_or {a b : Nat} (ha : a < 2 ^ 64) (hb : b < 2 ^ 64) : lN a ||| lN b = lN (a ||| b) := by
  apply wb_inj
  rw [Int64.toBitVec_or, wb_tb, wb_tb, wb_tb]
  apply BitVec.eq_of_toNat_eq
  rw [BitVec.toNat_or, BitVec.toNat_ofNat, BitVec.toNat_ofNat, BitVec.toNat_ofNat, Nat.mod_eq_of_lt ha, Nat.mod_eq_of_lt hb, Nat.mod_eq_of_lt (Nat.or_lt_two_pow ha hb)]
theorem wb_mask {n k : Nat} (hn : n < 2 ^ 64) (hk : k < 64) : lN n &&& lN (2 ^ k - 1) = lN (n % 2 ^ k) := by
  rw [wb_and hn (by have := wb_lt2 hk; omega), Nat.and_two_pow_sub_one_eq_mod]
theorem wb_a1 {n : Nat} (hn : n < 2 ^ 64) : lN n &&& 1 = lN (n % 2) := wb_mask (k := 1) hn (by decide)
theorem wb_bit {n k : Nat} (hn : n < 2 ^ 64) (hk : k < 64) : ((lN n).toUInt64 >>> ((nI k).toInt64.toUInt64 &&& Int64.toUInt64 63)).toInt64 &&& 1 = lN (n / 2 ^ k % 2) := by
  rw [wb_shr hn hk, wb_a1 (Nat.lt_of_le_of_lt (Nat.div_le_self _ _) hn)]
theorem wb_xor {q k : Nat} (hk : k < 63) (h : 2 ^ k ≤ q) (h2 : q < 2 ^ (k + 1)) : lN q ^^^ lN (2 ^ k) = lN (q - 2 ^ k) := by
  obtain ⟨r, rfl⟩ : ∃ r, q = 2 ^ k + r := ⟨q - 2 ^ k, by omega⟩
  have hr : r < 2 ^ k := by rw [Nat.pow_succ] at h2; omega
  have hx : (2 ^ k + r) ^^^ 2 ^ k = r := by
    apply Nat.eq_of_testBit_eq
    intro i
    rw [Nat.testBit_xor, Nat.testBit_two_pow]
    rcases Nat.lt_trichotomy i k with h | h | h
    · rw [Nat.testBit_two_pow_add_gt h]
      simp [show ¬ k = i by omega]
    · subst h
      rw [Nat.testBit_two_pow_add_eq]
      simp
    · have a1 : 2 ^ (k + 1) ≤ 2 ^ i := Nat.pow_le_pow_right (by decide) h
      rw [Nat.testBit_lt_two_pow (show 2 ^ k + r < 2 ^ i by omega), Nat.testBit_lt_two_pow (show r < 2 ^ i by omega)]
      simp [show ¬ k = i by omega]
  have b1 := wb_lt2 (show k + 1 < 64 by omega)
  have b2 := wb_lt2 (show k < 64 by omega)
  apply wb_inj
  rw [Int64.toBitVec_xor, wb_tb, wb_tb, wb_tb]
  apply BitVec.eq_of_toNat_eq
  rw [BitVec.toNat_xor, BitVec.toNat_ofNat, BitVec.toNat_ofNat, BitVec.toNat_ofNat, Nat.mod_eq_of_lt (by omega : 2 ^ k + r < 2 ^ 64), Nat.mod_eq_of_lt b2, hx, Nat.add_sub_cancel_left, Nat.mod_eq_of_lt (by omega)]
/-! ===== lN: masks, 'or' of parts that don't overlap is a sum ===== -/
theorem u_tn {n : Nat} (h : n < 2 ^ 64) : (UInt64.ofNat n).toNat = n := Nat.mod_eq_of_lt h
theorem g_and {a b c : Nat} (ha : a < 2 ^ 64) (hb : b < 2 ^ 64) (hc : a &&& b = c) : lN a &&& lN b = lN c := by
  subst hc
  have h : UInt64.ofNat a &&& UInt64.ofNat b = UInt64.ofNat (a &&& b) := UInt64.toNat_inj.mp (by rw [UInt64.toNat_and, u_tn ha, u_tn hb, u_tn (Nat.and_lt_two_pow a hb)])
  have h2 := congrArg UInt64.toInt64 h
  exact h2
theorem g_and1 {a : Nat} (ha : a < 2 ^ 64) : lN a &&& 1 = lN (a % 2) := g_and (b := 1) ha (by decide) (Nat.and_two_pow_sub_one_eq_mod a 1)
theorem g_mask {a s p : Nat} (hp : 2 ^ s = p) (hs : s < 64) (ha : a < 2 ^ 64) : lN a &&& lN (p - 1) = lN (a % p) := by
  subst hp
  have := Nat.pow_lt_pow_right (show 1 < 2 by decide) hs
  exact g_and ha (by omega) (Nat.and_two_pow_sub_one_eq_mod a s)
theorem g_or {k p a b : Nat} (hp : 2 ^ k = p) (ha : a < p) (h : b * p + a < 2 ^ 64) : lN (b * p) ||| lN a = lN (b * p + a) := by
  subst hp
  have h1 : b * 2 ^ k ||| a = b * 2 ^ k + a := by rw [← Nat.shiftLeft_eq, Nat.shiftLeft_add_eq_or_of_lt ha]
  have h3 : UInt64.ofNat (b * 2 ^ k) ||| UInt64.ofNat a = UInt64.ofNat (b * 2 ^ k + a) := UInt64.toNat_inj.mp (by rw [UInt64.toNat_or, u_tn (by omega), u_tn (by omega), u_tn h, h1])
  have h2 := congrArg UInt64.toInt64 h3
  exact h2
theorem g_or' {k p a b : Nat} (hp : 2 ^ k = p) (ha : a < p) (h : a + b * p < 2 ^ 64) : lN a ||| lN (b * p) = lN (a + b * p) := by
  rw [Int64.or_comm, g_or hp ha (by omega), Nat.add_comm]
theorem g_ushr {a k p : Nat} {y : UInt64} (hy : y = UInt64.ofNat k) (hk : k < 64) (hp : 2 ^ k = p) (ha : a < 2 ^ 64) : ((lN a).toUInt64 >>> y).toInt64 = lN (a / p) := by
  subst hy hp
  have h : UInt64.ofNat a >>> UInt64.ofNat k = UInt64.ofNat (a / 2 ^ k) := UInt64.toNat_inj.mp (by rw [UInt64.toNat_shiftRight, u_tn ha, u_tn (by omega), u_tn (Nat.lt_of_le_of_lt (Nat.div_le_self _ _) ha), Nat.mod_eq_of_lt hk, Nat.shiftRight_eq_div_pow])
  have h2 := congrArg UInt64.toInt64 h
  exact h2
theorem g_shl {a k p : Nat} {y : Int64} (hy : y.toBitVec.smod 64 = BitVec.ofNat 64 k) (hk : k < 64) (hp : 2 ^ k = p) (ha : a < 2 ^ 64) : lN a <<< y = lN (a * p) := by
  subst hp
  apply Int64.toBitVec_inj.mp
  rw [Int64.toBitVec_shiftLeft, hy]
  apply BitVec.eq_of_toNat_eq
  have hb : (lN a).toBitVec.toNat = a := Nat.mod_eq_of_lt ha
  have hk' : (BitVec.ofNat 64 k).toNat = k := Nat.mod_eq_of_lt (by omega)
  have h : ((lN a).toBitVec <<< BitVec.ofNat 64 k).toNat = (a * 2 ^ k) % 2 ^ 64 := by simp only [BitVec.shiftLeft_eq', BitVec.toNat_shiftLeft, hb, hk', Nat.shiftLeft_eq]
  exact h
/-! ===== lN to 2^62 under >> and >>> ===== -/
theorem pf_lI {a : Nat} (h : a < 2 ^ 63) : (lN a).toInt = (a : Int) := lg_ofNat_toInt h
theorem pf_shr {a d : Nat} {D : Int64} (hD : (D.toBitVec.smod 64).toNat = d) (h : a < 2 ^ 62) : lN a >>> D = lN (a / 2 ^ d) := by
  have hd : a / 2 ^ d ≤ a := Nat.div_le_self _ _
  apply Int64.toInt_inj.mp
  have e : (lN a >>> D).toInt = (lN a).toInt >>> d := by
    rw [← hD]
    exact BitVec.toInt_sshiftRight ..
  rw [e, Int.shiftRight_eq_div_pow, pf_lI (by omega), pf_lI (by omega)]
  rfl
theorem pf_ushr {a d : Nat} {D : UInt64} (hD : D.toNat % 64 = d) (h : a < 2 ^ 62) : ((lN a).toUInt64 >>> D).toInt64 = lN (a / 2 ^ d) := by
  have hd : a / 2 ^ d ≤ a := Nat.div_le_self _ _
  have e : (lN a).toUInt64 >>> D = UInt64.ofNat (a / 2 ^ d) := UInt64.toNat_inj.mp (by
    rw [UInt64.toNat_shiftRight, hD, Nat.shiftRight_eq_div_pow, UInt64.toNat_ofNat']
    show (UInt64.ofNat a).toNat / 2 ^ d = _
    rw [UInt64.toNat_ofNat', Nat.mod_eq_of_lt (by omega), Nat.mod_eq_of_lt (by omega)])
  rw [e]
  rfl
theorem pf_andw (x : Int64) : ∃ m, m < 2 ^ 32 ∧ x &&& 4294967295 = lN m := ⟨x.toBitVec.toNat % 2 ^ 32, Nat.mod_lt _ (by decide), Int64.toBitVec_inj.mp (BitVec.eq_of_toNat_eq (by
  show (x.toBitVec &&& 4294967295#64).toNat = (BitVec.ofNat 64 (x.toBitVec.toNat % 2 ^ 32)).toNat
  rw [BitVec.toNat_and, show (4294967295#64).toNat = 2 ^ 32 - 1 from by decide, Nat.and_two_pow_sub_one_eq_mod, BitVec.toNat_ofNat]
  omega))⟩
end
section
/-! the pure state (cells 0..3 variables, 4..6 accumulators, 7..9 places, 10..11 takers, 12..14 waiters, 15 bad), readiness, step -/
section
variable (o g L : Nat → Nat)
def zc_up (c : Nat → Nat) (k v : Nat) : Nat → Nat := fun j => if j = k then v else c j
def zc_pl (t n : Nat) : Nat := if n < L t then n else 5
def zc_pc (c : Nat → Nat) (t : Nat) : Nat := 5 * t + c (7 + t)
def zc_R (c : Nat → Nat) (t : Nat) : Prop :=
  c (7 + t) < L t ∧ c (12 + t) ≠ 1 ∧ ((o (zc_pc c t) = 7 ∨ c (12 + t) = 2) → c (10 + g (zc_pc c t)) = 0)
def zc_np (c : Nat → Nat) (t : Nat) : Nat :=
  if o (zc_pc c t) = 6 ∧ c (4 + t) = 0 then zc_pl L t (c (7 + t) + 1 + g (zc_pc c t))
  else if o (zc_pc c t) = 10 ∧ c (12 + t) ≠ 2 ∧ c (10 + g (zc_pc c t)) = t + 1 then c (7 + t)
  else zc_pl L t (c (7 + t) + 1)
def zc_na (c : Nat → Nat) (t : Nat) : Nat :=
  if o (zc_pc c t) = 0 ∨ o (zc_pc c t) = 2 then c (g (zc_pc c t))
  else if o (zc_pc c t) = 4 then g (zc_pc c t)
  else if o (zc_pc c t) = 5 then (c (4 + t) + g (zc_pc c t)) % 8
  else c (4 + t)
def zc_nv (c : Nat → Nat) (t j : Nat) : Nat :=
  if (o (zc_pc c t) = 1 ∨ o (zc_pc c t) = 2) ∧ g (zc_pc c t) = j then c (4 + t)
  else if o (zc_pc c t) = 3 ∧ g (zc_pc c t) = j then (c j + 1) % 8
  else c j
def zc_nt (c : Nat → Nat) (t l : Nat) : Nat :=
  if g (zc_pc c t) = l then
    (if o (zc_pc c t) = 7 then t + 1
     else if o (zc_pc c t) = 8 ∧ c (10 + l) = t + 1 then 0
     else if o (zc_pc c t) = 10 then (if c (12 + t) = 2 then t + 1 else if c (10 + l) = t + 1 then 0 else c (10 + l))
     else c (10 + l))
  else c (10 + l)
def zc_nw (c : Nat → Nat) (t w : Nat) : Nat :=
  if w = t ∧ o (zc_pc c t) = 10 then
    (if c (12 + t) = 2 then 0 else if c (10 + g (zc_pc c t)) = t + 1 then 1 else c (12 + t))
  else if o (zc_pc c t) = 11 ∧ c (12 + w) = 1 ∧ g (zc_pc c w) = g (zc_pc c t) then 2
  else c (12 + w)
def zc_nb (c : Nat → Nat) (t : Nat) : Nat :=
  if o (zc_pc c t) = 9 ∧ c (4 + t) ≠ g (zc_pc c t) then 1 else c 15
def zc_step (c : Nat → Nat) (t : Nat) : Nat → Nat := fun j =>
  if j < 4 then zc_nv o g c t j
  else if j < 7 then (if j = 4 + t then zc_na o g c t else c j)
  else if j < 10 then (if j = 7 + t then zc_np o g L c t else c j)
  else if j < 12 then zc_nt o g c t (j - 10)
  else if j < 15 then zc_nw o g c t (j - 12)
  else if j = 15 then zc_nb o g c t
  else c j
/-- what the document calls an instruction: a code and its number -/
def zc_G (op a : Nat) : Prop :=
  op ≤ 11 ∧ a < 8 ∧ (op < 4 → a < 4) ∧ ((op = 7 ∨ op = 8 ∨ op = 10 ∨ op = 11) → a < 2) ∧ (op = 6 → 1 ≤ a ∧ a ≤ 3)
def zc_K : Prop := ∀ t, t < 3 → L t ≤ 5 ∧ ∀ p, p < L t → zc_G (o (5 * t + p)) (g (5 * t + p))
/-- the states that can be -/
def zc_V (c : Nat → Nat) : Prop :=
  (∀ j, j < 7 → c j < 8) ∧
  (∀ t, t < 3 → c (7 + t) < L t ∨ c (7 + t) = 5) ∧
  (∀ l, l < 2 → c (10 + l) < 4) ∧
  (∀ t, t < 3 → c (12 + t) = 0 ∨ ((c (12 + t) = 1 ∨ c (12 + t) = 2) ∧ c (7 + t) < L t ∧ o (zc_pc c t) = 10)) ∧
  c 15 < 2 ∧ (∀ j, 16 ≤ j → c j = 0)
/-- the instructions at two numbers of the code touch -/
def zc_T (k m : Nat) : Prop :=
  g k = g m ∧ (((o k = 7 ∨ o k = 8 ∨ o k = 10 ∨ o k = 11) ∧ (o m = 7 ∨ o m = 8 ∨ o m = 10 ∨ o m = 11)) ∨
    (o k < 4 ∧ o m < 4 ∧ (o k ≠ 0 ∨ o m ≠ 0)))
/-- how far a thread has come: at most 10 -/
def zc_psi (c : Nat → Nat) (t : Nat) : Nat := 2 * c (7 + t) + (if c (12 + t) = 0 then 0 else 1)
end

section
variable {o g L : Nat → Nat} {c : Nat → Nat} {t u : Nat}
theorem zc_up_s {k v : Nat} : zc_up c k v k = v := by simp [zc_up]
theorem zc_up_n {k v j : Nat} (h : j ≠ k) : zc_up c k v j = c j := by simp [zc_up, h]
theorem zc_T_sym {k m : Nat} (h : zc_T o g k m) : zc_T o g m k := by
  refine ⟨h.1.symm, ?_⟩
  rcases h.2 with h | h
  · exact Or.inl ⟨h.2, h.1⟩
  · exact Or.inr ⟨h.2.1, h.1, h.2.2.symm⟩
theorem zc_sv {j : Nat} (h : j < 4) : zc_step o g L c t j = zc_nv o g c t j := by simp [zc_step, h]
theorem zc_sa (hu : u < 3) : zc_step o g L c t (4 + u) = if u = t then zc_na o g c t else c (4 + u) := by
  have h1 : ¬ 4 + u < 4 := by omega
  have h2 : 4 + u < 7 := by omega
  by_cases h : u = t
  · subst h; simp [zc_step, h1, h2]
  · have h3 : ¬ 4 + u = 4 + t := by omega
    simp [zc_step, h1, h2, h, h3]
theorem zc_sp (hu : u < 3) : zc_step o g L c t (7 + u) = if u = t then zc_np o g L c t else c (7 + u) := by
  have h1 : ¬ 7 + u < 4 := by omega
  have h2 : ¬ 7 + u < 7 := by omega
  have h4 : 7 + u < 10 := by omega
  by_cases h : u = t
  · subst h; simp [zc_step, h1, h2, h4]
  · have h3 : ¬ 7 + u = 7 + t := by omega
    simp [zc_step, h1, h2, h, h3, h4]
theorem zc_st {l : Nat} (hl : l < 2) : zc_step o g L c t (10 + l) = zc_nt o g c t l := by
  have h1 : ¬ 10 + l < 4 := by omega
  have h2 : ¬ 10 + l < 7 := by omega
  have h3 : ¬ 10 + l < 10 := by omega
  have h4 : 10 + l < 12 := by omega
  have h5 : 10 + l - 10 = l := by omega
  simp [zc_step, h1, h2, h3, h4, h5]
theorem zc_sw {w : Nat} (hw : w < 3) : zc_step o g L c t (12 + w) = zc_nw o g c t w := by
  have h1 : ¬ 12 + w < 4 := by omega
  have h2 : ¬ 12 + w < 7 := by omega
  have h3 : ¬ 12 + w < 10 := by omega
  have h4 : ¬ 12 + w < 12 := by omega
  have h6 : 12 + w < 15 := by omega
  have h5 : 12 + w - 12 = w := by omega
  simp [zc_step, h1, h2, h3, h4, h5, h6]
theorem zc_sb : zc_step o g L c t 15 = zc_nb o g c t := by simp [zc_step]
theorem zc_sz {j : Nat} (h : 16 ≤ j) : zc_step o g L c t j = c j := by
  have h1 : ¬ j < 4 := by omega
  have h2 : ¬ j < 7 := by omega
  have h3 : ¬ j < 10 := by omega
  have h4 : ¬ j < 12 := by omega
  have h6 : ¬ j < 15 := by omega
  have h5 : ¬ j = 15 := by omega
  simp [zc_step, h1, h2, h3, h4, h5, h6]
/-- two states are one if they agree at every cell -/
theorem zc_ext {d : Nat → Nat} (hv : ∀ j, j < 4 → c j = d j) (ha : ∀ t, t < 3 → c (4 + t) = d (4 + t))
    (hp : ∀ t, t < 3 → c (7 + t) = d (7 + t)) (ht : ∀ l, l < 2 → c (10 + l) = d (10 + l))
    (hw : ∀ t, t < 3 → c (12 + t) = d (12 + t)) (hb : c 15 = d 15) (hz : ∀ j, 16 ≤ j → c j = d j) : c = d := by
  funext j
  by_cases h1 : j < 4
  · exact hv j h1
  by_cases h2 : j < 7
  · have e : j = 4 + (j - 4) := by omega
    rw [e]; exact ha _ (by omega)
  by_cases h3 : j < 10
  · have e : j = 7 + (j - 7) := by omega
    rw [e]; exact hp _ (by omega)
  by_cases h4 : j < 12
  · have e : j = 10 + (j - 10) := by omega
    rw [e]; exact ht _ (by omega)
  by_cases h5 : j < 15
  · have e : j = 12 + (j - 12) := by omega
    rw [e]; exact hw _ (by omega)
  by_cases h6 : j = 15
  · rw [h6]; exact hb
  · exact hz j (by omega)
theorem zc_pl_v (n : Nat) : zc_pl L t n < L t ∨ zc_pl L t n = 5 := by
  unfold zc_pl; split
  · exact Or.inl ‹_›
  · exact Or.inr rfl
theorem zc_pl_ge {n : Nat} (hL : L t ≤ 5) (hn : n ≤ 5) : n ≤ zc_pl L t n := by
  unfold zc_pl; split <;> omega
theorem zc_pl_ge' {n p : Nat} (hL : L t ≤ 5) (hp : p < L t) (hn : p + 1 ≤ n) : p + 1 ≤ zc_pl L t n := by
  unfold zc_pl; split <;> omega
theorem zc_R_G (hK : zc_K o g L) (ht : t < 3) (hR : zc_R o g L c t) : zc_G (o (zc_pc c t)) (g (zc_pc c t)) :=
  (hK t ht).2 _ hR.1
theorem zc_np_v (hR : zc_R o g L c t) : zc_np o g L c t < L t ∨ zc_np o g L c t = 5 := by
  unfold zc_np
  split
  · exact zc_pl_v _
  · split
    · exact Or.inl hR.1
    · exact zc_pl_v _
theorem zc_na_lt (hK : zc_K o g L) (hV : zc_V o L c) (ht : t < 3) (hR : zc_R o g L c t) : zc_na o g c t < 8 := by
  have hG := zc_R_G hK ht hR
  unfold zc_na
  split
  · rename_i h
    have : g (zc_pc c t) < 4 := hG.2.2.1 (by omega)
    exact hV.1 _ (by omega)
  · split
    · exact hG.2.1
    · split
      · omega
      · exact hV.1 _ (by omega)
theorem zc_nv_lt (hV : zc_V o L c) (ht : t < 3) {j : Nat} (hj : j < 4) : zc_nv o g c t j < 8 := by
  unfold zc_nv
  split
  · exact hV.1 _ (by omega)
  · split
    · omega
    · exact hV.1 _ (by omega)
theorem zc_nt_lt (hV : zc_V o L c) (ht : t < 3) {l : Nat} (hl : l < 2) : zc_nt o g c t l < 4 := by
  have h := hV.2.2.1 l hl
  unfold zc_nt
  repeat' split
  all_goals omega
/-- a step keeps the states that can be -/
theorem zc_V_step (hK : zc_K o g L) (hV : zc_V o L c) (ht : t < 3) (hR : zc_R o g L c t) : zc_V o L (zc_step o g L c t) := by
  refine ⟨fun j hj => ?_, fun u hu => ?_, fun l hl => ?_, fun u hu => ?_, ?_, fun j hj => ?_⟩
  · by_cases h : j < 4
    · rw [zc_sv h]; exact zc_nv_lt hV ht h
    · have e : j = 4 + (j - 4) := by omega
      rw [e, zc_sa (by omega)]
      split
      · exact zc_na_lt hK hV ht hR
      · exact hV.1 _ (by omega)
  · rw [zc_sp hu]
    split
    · rename_i h; rw [h]; exact zc_np_v hR
    · exact hV.2.1 u hu
  · rw [zc_st hl]; exact zc_nt_lt hV ht hl
  · unfold zc_pc
    rw [zc_sw hu, zc_sp hu]
    have hw := hV.2.2.2.1 u hu
    by_cases e : u = t
    · subst e
      rw [if_pos rfl]
      by_cases h10 : o (zc_pc c u) = 10
      · by_cases h2 : c (12 + u) = 2
        · left; simp [zc_nw, h10, h2]
        · by_cases h3 : c (10 + g (zc_pc c u)) = u + 1
          · right
            have e1 : zc_nw o g c u u = 1 := by simp [zc_nw, h10, h2, h3]
            have e2 : zc_np o g L c u = c (7 + u) := by simp [zc_np, h10, h2, h3]
            rw [e1, e2]
            exact ⟨Or.inl rfl, hR.1, h10⟩
          · left
            have e1 : zc_nw o g c u u = c (12 + u) := by simp [zc_nw, h10, h2, h3]
            rw [e1]
            have := hR.2.1
            omega
      · left
        have h0 : c (12 + u) = 0 := by
          rcases hw with h | h
          · exact h
          · exact absurd h.2.2 h10
        have e1 : zc_nw o g c u u = 0 := by simp [zc_nw, h10, h0]
        exact e1
    · rw [if_neg e]
      have e1 : zc_nw o g c t u = 2 ∧ c (12 + u) = 1 ∨ zc_nw o g c t u = c (12 + u) := by
        unfold zc_nw
        rw [if_neg (fun h => e h.1)]
        split
        · rename_i h; exact Or.inl ⟨rfl, h.2.1⟩
        · exact Or.inr rfl
      rcases e1 with ⟨e1, e2⟩ | e1
      · rw [e1]
        right
        rcases hw with h | h
        · omega
        · exact ⟨Or.inr rfl, h.2⟩
      · rw [e1]; exact hw
  · rw [zc_sb]
    unfold zc_nb
    split
    · omega
    · exact hV.2.2.2.2.1
  · rw [zc_sz hj]; exact hV.2.2.2.2.2 j hj
theorem zc_psi_le (hK : zc_K o g L) (hV : zc_V o L c) (ht : t < 3) : zc_psi c t ≤ 10 := by
  have h1 := (hK t ht).1
  have h2 := hV.2.1 t ht
  have h3 := hV.2.2.2.1 t ht
  unfold zc_psi
  split <;> omega
theorem zc_psi_o (hu : u < 3) (hn : u ≠ t) : zc_psi (zc_step o g L c t) u = zc_psi c u := by
  unfold zc_psi
  rw [zc_sp hu, zc_sw hu, if_neg hn]
  have e1 : zc_nw o g c t u = 2 ∧ c (12 + u) = 1 ∨ zc_nw o g c t u = c (12 + u) := by
    unfold zc_nw
    rw [if_neg (fun h => hn h.1)]
    split
    · rename_i h; exact Or.inl ⟨rfl, h.2.1⟩
    · exact Or.inr rfl
  rcases e1 with ⟨e1, e2⟩ | e1
  · simp [e1, e2]
  · rw [e1]
theorem zc_psi_s (hK : zc_K o g L) (hV : zc_V o L c) (ht : t < 3) (hR : zc_R o g L c t) : zc_psi c t + 1 ≤ zc_psi (zc_step o g L c t) t := by
  have hL := (hK t ht).1
  have hp := hR.1
  have hw := hV.2.2.2.1 t ht
  have h1 := hR.2.1
  unfold zc_psi
  rw [zc_sp ht, zc_sw ht, if_pos rfl]
  by_cases h10 : o (zc_pc c t) = 10
  · by_cases h2 : c (12 + t) = 2
    · have e2 : zc_np o g L c t = zc_pl L t (c (7 + t) + 1) := by simp [zc_np, h10, h2]
      have := zc_pl_ge' (n := c (7 + t) + 1) hL hp (Nat.le_refl _)
      rw [e2]
      split <;> split <;> omega
    · by_cases h3 : c (10 + g (zc_pc c t)) = t + 1
      · have e1 : zc_nw o g c t t = 1 := by simp [zc_nw, h10, h2, h3]
        have e2 : zc_np o g L c t = c (7 + t) := by simp [zc_np, h10, h2, h3]
        have h0 : c (12 + t) = 0 := by omega
        simp [e1, e2, h0]
      · have e2 : zc_np o g L c t = zc_pl L t (c (7 + t) + 1) := by simp [zc_np, h10, h3]
        have := zc_pl_ge' (n := c (7 + t) + 1) hL hp (Nat.le_refl _)
        rw [e2]
        split <;> split <;> omega
  · have e2 : c (7 + t) + 1 ≤ zc_np o g L c t := by
      unfold zc_np
      split
      · exact zc_pl_ge' hL hp (by omega)
      · rw [if_neg (fun h => h10 h.1)]
        exact zc_pl_ge' hL hp (Nat.le_refl _)
    split <;> split <;> omega
/-- all that a thread has done -/
theorem zc_psi_all (hK : zc_K o g L) (hV : zc_V o L c) (ht : t < 3) (hR : zc_R o g L c t) :
    zc_psi c 0 + zc_psi c 1 + zc_psi c 2 + 1 ≤ zc_psi (zc_step o g L c t) 0 + zc_psi (zc_step o g L c t) 1 + zc_psi (zc_step o g L c t) 2 := by
  have hs := zc_psi_s hK hV ht hR
  have ho : ∀ u, u < 3 → u ≠ t → zc_psi (zc_step o g L c t) u = zc_psi c u := fun u hu hn => zc_psi_o hu hn
  have h0 := ho 0 (by omega)
  have h1 := ho 1 (by omega)
  have h2 := ho 2 (by omega)
  have : t = 0 ∨ t = 1 ∨ t = 2 := by omega
  rcases this with e | e | e <;> subst e
  · have := h1 (by omega); have := h2 (by omega); omega
  · have := h0 (by omega); have := h2 (by omega); omega
  · have := h0 (by omega); have := h1 (by omega); omega
end
end
section
/-! steps that do not touch: neither makes the other ready or not ready, and they commute -/
section
variable {o g L : Nat → Nat} {c : Nat → Nat} {t u : Nat}
theorem zc_pc_o (ht : t < 3) (hn : t ≠ u) : zc_pc (zc_step o g L c u) t = zc_pc c t := by
  unfold zc_pc; rw [zc_sp ht, if_neg hn]
theorem zc_s1 (ht : t < 3) (hn : t ≠ u) : zc_step o g L c u (4 + t) = c (4 + t) := by rw [zc_sa ht, if_neg hn]
theorem zc_s1p (ht : t < 3) (hn : t ≠ u) : zc_step o g L c u (7 + t) = c (7 + t) := by rw [zc_sp ht, if_neg hn]
theorem zc_s2 (hV : zc_V o L c) (ht : t < 3) (hn : t ≠ u) (hT : ¬ zc_T o g (zc_pc c u) (zc_pc c t)) :
    zc_step o g L c u (12 + t) = c (12 + t) := by
  rw [zc_sw ht]
  unfold zc_nw
  rw [if_neg (fun h => hn h.1)]
  split
  · rename_i h
    exfalso
    rcases hV.2.2.2.1 t ht with h0 | h0
    · omega
    · exact hT ⟨h.2.2.symm, Or.inl ⟨by omega, by omega⟩⟩
  · rfl
theorem zc_nv_no {j : Nat} (h : ¬ ((o (zc_pc c u) = 1 ∨ o (zc_pc c u) = 2 ∨ o (zc_pc c u) = 3) ∧ g (zc_pc c u) = j)) : zc_nv o g c u j = c j := by
  unfold zc_nv
  rw [if_neg (fun e => h ⟨by omega, e.2⟩), if_neg (fun e => h ⟨by omega, e.2⟩)]
theorem zc_s3 (hT : ¬ zc_T o g (zc_pc c u) (zc_pc c t)) (ho : o (zc_pc c t) < 4) (hg : g (zc_pc c t) < 4) :
    zc_step o g L c u (g (zc_pc c t)) = c (g (zc_pc c t)) := by
  rw [zc_sv hg]
  exact zc_nv_no fun e => hT ⟨e.2, Or.inr ⟨by omega, ho, by omega⟩⟩
theorem zc_nt_no {l : Nat} (h : ¬ ((o (zc_pc c u) = 7 ∨ o (zc_pc c u) = 8 ∨ o (zc_pc c u) = 10 ∨ o (zc_pc c u) = 11) ∧ g (zc_pc c u) = l)) : zc_nt o g c u l = c (10 + l) := by
  unfold zc_nt
  by_cases e : g (zc_pc c u) = l
  · rw [if_pos e, if_neg (fun a => h ⟨by omega, e⟩), if_neg (fun a => h ⟨by omega, e⟩), if_neg (fun a => h ⟨by omega, e⟩)]
  · rw [if_neg e]
theorem zc_s4 (hT : ¬ zc_T o g (zc_pc c u) (zc_pc c t)) (ho : o (zc_pc c t) = 7 ∨ o (zc_pc c t) = 8 ∨ o (zc_pc c t) = 10 ∨ o (zc_pc c t) = 11) (hg : g (zc_pc c t) < 2) :
    zc_step o g L c u (10 + g (zc_pc c t)) = c (10 + g (zc_pc c t)) := by
  rw [zc_st hg]
  exact zc_nt_no fun e => hT ⟨e.2, Or.inl ⟨e.1, ho⟩⟩
/-- a thread's readiness isn't changed by another's step that does not touch its own -/
theorem zc_Riff (hK : zc_K o g L) (hV : zc_V o L c) (ht : t < 3) (hn : t ≠ u) (hT : ¬ zc_T o g (zc_pc c u) (zc_pc c t)) :
    zc_R o g L (zc_step o g L c u) t ↔ zc_R o g L c t := by
  unfold zc_R
  rw [zc_pc_o ht hn, zc_s1p ht hn, zc_s2 hV ht hn hT]
  by_cases hp : c (7 + t) < L t
  · by_cases hl : o (zc_pc c t) = 7 ∨ c (12 + t) = 2
    · have hG := (hK t ht).2 _ hp
      have h7 : o (zc_pc c t) = 7 ∨ o (zc_pc c t) = 8 ∨ o (zc_pc c t) = 10 ∨ o (zc_pc c t) = 11 := by
        rcases hl with h | h
        · exact Or.inl h
        · rcases hV.2.2.2.1 t ht with h0 | h0
          · omega
          · exact Or.inr (Or.inr (Or.inl h0.2.2))
      rw [zc_s4 hT h7 (hG.2.2.2.1 h7)]
    · constructor
      · intro h; exact ⟨h.1, h.2.1, fun a => absurd a hl⟩
      · intro h; exact ⟨h.1, h.2.1, fun a => absurd a hl⟩
  · constructor
    · intro h; exact absurd h.1 hp
    · intro h; exact absurd h.1 hp
theorem zc_np_c {d : Nat → Nat} (h1 : d (4 + t) = c (4 + t)) (h2 : d (7 + t) = c (7 + t)) (h3 : d (12 + t) = c (12 + t))
    (h4 : o (zc_pc c t) = 10 → d (10 + g (zc_pc c t)) = c (10 + g (zc_pc c t))) : zc_np o g L d t = zc_np o g L c t := by
  have hp : zc_pc d t = zc_pc c t := by unfold zc_pc; rw [h2]
  unfold zc_np
  rw [hp, h1, h2, h3]
  by_cases h : o (zc_pc c t) = 10
  · rw [h4 h]
  · rw [if_neg (c := o (zc_pc c t) = 10 ∧ _) (fun a => h a.1), if_neg (c := o (zc_pc c t) = 10 ∧ _) (fun a => h a.1)]
theorem zc_na_c {d : Nat → Nat} (h1 : d (4 + t) = c (4 + t)) (h2 : d (7 + t) = c (7 + t))
    (h4 : o (zc_pc c t) < 4 → d (g (zc_pc c t)) = c (g (zc_pc c t))) : zc_na o g d t = zc_na o g c t := by
  have hp : zc_pc d t = zc_pc c t := by unfold zc_pc; rw [h2]
  unfold zc_na
  rw [hp, h1]
  by_cases h : o (zc_pc c t) = 0 ∨ o (zc_pc c t) = 2
  · rw [if_pos h, if_pos h, h4 (by omega)]
  · rw [if_neg h, if_neg h]
theorem zc_nv_c {d : Nat → Nat} {j : Nat} (h1 : d (4 + t) = c (4 + t)) (h2 : d (7 + t) = c (7 + t)) (h3 : d j = c j) : zc_nv o g d t j = zc_nv o g c t j := by
  have hp : zc_pc d t = zc_pc c t := by unfold zc_pc; rw [h2]
  unfold zc_nv
  rw [hp, h1, h3]
theorem zc_nt_c {d : Nat → Nat} {l : Nat} (h1 : d (12 + t) = c (12 + t)) (h2 : d (7 + t) = c (7 + t)) (h3 : d (10 + l) = c (10 + l)) : zc_nt o g d t l = zc_nt o g c t l := by
  have hp : zc_pc d t = zc_pc c t := by unfold zc_pc; rw [h2]
  unfold zc_nt
  rw [hp, h1, h3]
theorem zc_nw_c {d : Nat → Nat} (h1 : d (12 + t) = c (12 + t)) (h2 : d (7 + t) = c (7 + t))
    (h3 : o (zc_pc c t) = 10 → d (10 + g (zc_pc c t)) = c (10 + g (zc_pc c t))) : zc_nw o g d t t = zc_nw o g c t t := by
  have hp : zc_pc d t = zc_pc c t := by unfold zc_pc; rw [h2]
  unfold zc_nw
  rw [hp, h1]
  by_cases h : o (zc_pc c t) = 10
  · rw [h3 h]
  · rw [if_neg (c := t = t ∧ _) (fun a => h a.2), if_neg (c := t = t ∧ _) (fun a => h a.2)]
/-- the waiter of the thread that steps: the other's NOTIFY does not reach it -/
theorem zc_ww (hV : zc_V o L c) (ht : t < 3) (hn : t ≠ u) (hR : zc_R o g L c t) (hT : ¬ zc_T o g (zc_pc c t) (zc_pc c u)) (hu : u < 3) :
    zc_nw o g (zc_step o g L c t) u t = zc_nw o g c t t := by
  have e : zc_nw o g (zc_step o g L c t) u t = zc_step o g L c t (12 + t) := by
    unfold zc_nw
    rw [if_neg (fun h => hn h.1), if_neg]
    rintro ⟨h1, h2, h3⟩
    rw [zc_pc_o hu (Ne.symm hn)] at h1 h3
    rw [zc_sw ht] at h2
    unfold zc_nw at h2
    have hr := hR.2.1
    by_cases h10 : o (zc_pc c t) = 10
    · rw [if_pos ⟨rfl, h10⟩] at h2
      by_cases hc : c (12 + t) = 2
      · rw [if_pos hc] at h2; omega
      · rw [if_neg hc] at h2
        by_cases hd : c (10 + g (zc_pc c t)) = t + 1
        · have e2 : zc_np o g L c t = c (7 + t) := by
            unfold zc_np
            rw [if_neg (by omega), if_pos ⟨h10, hc, hd⟩]
          have e3 : zc_pc (zc_step o g L c t) t = zc_pc c t := by
            unfold zc_pc; rw [zc_sp ht, if_pos rfl, e2]
          rw [e3] at h3
          exact hT ⟨h3, Or.inl ⟨by omega, by omega⟩⟩
        · rw [if_neg hd] at h2; exact hr h2
    · rw [if_neg (fun a => h10 a.2)] at h2
      split at h2
      · omega
      · exact hr h2
  rw [e, zc_sw ht]
/-- the third thread's waiter -/
theorem zc_w3 {w : Nat} (hw : w < 3) (h1 : w ≠ t) (h2 : w ≠ u) (ht : t < 3) (hu : u < 3) (hn : t ≠ u) :
    zc_nw o g (zc_step o g L c t) u w = zc_nw o g (zc_step o g L c u) t w := by
  have aux : ∀ (d : Nat → Nat) (s : Nat), w ≠ s → zc_nw o g d s w = if o (zc_pc d s) = 11 ∧ d (12 + w) = 1 ∧ g (zc_pc d w) = g (zc_pc d s) then 2 else d (12 + w) := by
    intro d s hs
    unfold zc_nw
    rw [if_neg (fun h => hs h.1)]
  rw [aux _ u h2, aux _ t h1, zc_pc_o hu (Ne.symm hn), zc_pc_o ht hn, zc_pc_o hw h1, zc_pc_o hw h2, zc_sw hw, zc_sw hw, aux _ t h1, aux _ u h2]
  by_cases a1 : o (zc_pc c t) = 11 ∧ c (12 + w) = 1 ∧ g (zc_pc c w) = g (zc_pc c t)
  · by_cases a2 : o (zc_pc c u) = 11 ∧ c (12 + w) = 1 ∧ g (zc_pc c w) = g (zc_pc c u)
    · rw [if_pos a1, if_pos a2, if_neg (by omega), if_neg (by omega)]
    · rw [if_pos a1, if_neg a2, if_neg (by omega), if_pos a1]
  · by_cases a2 : o (zc_pc c u) = 11 ∧ c (12 + w) = 1 ∧ g (zc_pc c w) = g (zc_pc c u)
    · rw [if_neg a1, if_pos a2, if_neg (by omega)]
    · rw [if_neg a1, if_neg a2, if_neg a1]
theorem zc_bb (ht : t < 3) (hu : u < 3) (hn : t ≠ u) :
    zc_nb o g (zc_step o g L c t) u = zc_nb o g (zc_step o g L c u) t := by
  unfold zc_nb
  rw [zc_pc_o hu (Ne.symm hn), zc_pc_o ht hn, zc_s1 hu (Ne.symm hn), zc_s1 ht hn, zc_sb, zc_sb]
  unfold zc_nb
  by_cases a1 : o (zc_pc c t) = 9 ∧ c (4 + t) ≠ g (zc_pc c t)
  · rw [if_pos a1, if_pos a1]
    split <;> rfl
  · rw [if_neg a1, if_neg a1]
/-- steps that do not touch commute -/
theorem zc_comm (hK : zc_K o g L) (hV : zc_V o L c) (ht : t < 3) (hu : u < 3) (hn : t ≠ u)
    (hRt : zc_R o g L c t) (hRu : zc_R o g L c u) (hT : ¬ zc_T o g (zc_pc c t) (zc_pc c u)) :
    zc_step o g L (zc_step o g L c t) u = zc_step o g L (zc_step o g L c u) t := by
  have hT' : ¬ zc_T o g (zc_pc c u) (zc_pc c t) := fun h => hT (zc_T_sym h)
  have hn' : u ≠ t := Ne.symm hn
  have hGt := zc_R_G hK ht hRt
  have hGu := zc_R_G hK hu hRu
  have at1 := zc_s1 (o := o) (g := g) (L := L) (c := c) ht hn
  have at2 := zc_s1p (o := o) (g := g) (L := L) (c := c) ht hn
  have at3 := zc_s2 (L := L) hV ht hn hT'
  have at4 : o (zc_pc c t) = 10 → zc_step o g L c u (10 + g (zc_pc c t)) = c (10 + g (zc_pc c t)) := fun h =>
    zc_s4 hT' (by omega) (hGt.2.2.2.1 (by omega))
  have au1 := zc_s1 (o := o) (g := g) (L := L) (c := c) hu hn'
  have au2 := zc_s1p (o := o) (g := g) (L := L) (c := c) hu hn'
  have au3 := zc_s2 (L := L) hV hu hn' hT
  have au4 : o (zc_pc c u) = 10 → zc_step o g L c t (10 + g (zc_pc c u)) = c (10 + g (zc_pc c u)) := fun h =>
    zc_s4 hT (by omega) (hGu.2.2.2.1 (by omega))
  refine zc_ext (fun j hj => ?_) (fun w hw => ?_) (fun w hw => ?_) (fun l hl => ?_) (fun w hw => ?_) ?_ (fun j hj => ?_)
  · rw [zc_sv hj, zc_sv hj]
    by_cases hW : (o (zc_pc c u) = 1 ∨ o (zc_pc c u) = 2 ∨ o (zc_pc c u) = 3) ∧ g (zc_pc c u) = j
    · have hW2 : ¬ ((o (zc_pc c t) = 1 ∨ o (zc_pc c t) = 2 ∨ o (zc_pc c t) = 3) ∧ g (zc_pc c t) = j) := fun h =>
        hT ⟨by omega, Or.inr ⟨by omega, by omega, by omega⟩⟩
      have e1 : zc_step o g L c t j = c j := by rw [zc_sv hj]; exact zc_nv_no hW2
      rw [zc_nv_c au1 au2 e1, zc_nv_no (c := zc_step o g L c u) (by rw [zc_pc_o ht hn]; exact hW2), zc_sv hj]
    · have e1 : zc_step o g L c u j = c j := by rw [zc_sv hj]; exact zc_nv_no hW
      rw [zc_nv_c at1 at2 e1, zc_nv_no (c := zc_step o g L c t) (by rw [zc_pc_o hu hn']; exact hW), zc_sv hj]
  · rw [zc_sa hw, zc_sa hw, zc_sa hw, zc_sa hw]
    by_cases e : w = u
    · subst e
      rw [if_pos rfl, if_neg hn', if_pos rfl]
      exact zc_na_c au1 au2 fun h => zc_s3 hT h (hGu.2.2.1 h)
    · rw [if_neg e, if_neg e]
      by_cases e2 : w = t
      · subst e2
        rw [if_pos rfl, if_pos rfl]
        exact (zc_na_c at1 at2 fun h => zc_s3 hT' h (hGt.2.2.1 h)).symm
      · rw [if_neg e2, if_neg e2]
  · rw [zc_sp hw, zc_sp hw, zc_sp hw, zc_sp hw]
    by_cases e : w = u
    · subst e
      rw [if_pos rfl, if_neg hn', if_pos rfl]
      exact zc_np_c au1 au2 au3 au4
    · rw [if_neg e, if_neg e]
      by_cases e2 : w = t
      · subst e2
        rw [if_pos rfl, if_pos rfl]
        exact (zc_np_c at1 at2 at3 at4).symm
      · rw [if_neg e2, if_neg e2]
  · rw [zc_st hl, zc_st hl]
    by_cases hW : (o (zc_pc c u) = 7 ∨ o (zc_pc c u) = 8 ∨ o (zc_pc c u) = 10 ∨ o (zc_pc c u) = 11) ∧ g (zc_pc c u) = l
    · have hW2 : ¬ ((o (zc_pc c t) = 7 ∨ o (zc_pc c t) = 8 ∨ o (zc_pc c t) = 10 ∨ o (zc_pc c t) = 11) ∧ g (zc_pc c t) = l) := fun h =>
        hT ⟨by omega, Or.inl ⟨h.1, hW.1⟩⟩
      have e1 : zc_step o g L c t (10 + l) = c (10 + l) := by rw [zc_st hl]; exact zc_nt_no hW2
      rw [zc_nt_c au3 au2 e1, zc_nt_no (c := zc_step o g L c u) (by rw [zc_pc_o ht hn]; exact hW2), zc_st hl]
    · have e1 : zc_step o g L c u (10 + l) = c (10 + l) := by rw [zc_st hl]; exact zc_nt_no hW
      rw [zc_nt_c at3 at2 e1, zc_nt_no (c := zc_step o g L c t) (by rw [zc_pc_o hu hn']; exact hW), zc_st hl]
  · rw [zc_sw hw, zc_sw hw]
    by_cases e : w = u
    · subst e
      rw [zc_nw_c au3 au2 au4]
      exact (zc_ww hV hu hn' hRu hT' ht).symm
    · by_cases e2 : w = t
      · subst e2
        rw [zc_nw_c at3 at2 at4]
        exact zc_ww hV ht hn hRt hT hu
      · exact zc_w3 hw e2 e ht hu hn
  · rw [zc_sb, zc_sb]; exact zc_bb ht hu hn
  · rw [zc_sz hj, zc_sz hj, zc_sz hj, zc_sz hj]
end
end
section
/-! rows of steps, their labels, rows that are alike, normal rows -/
section
variable (o g L : Nat → Nat)
def zt_ok : (Nat → Nat) → List Nat → Prop
  | _, [] => True
  | c, t :: r => t < 3 ∧ zc_R o g L c t ∧ zt_ok (zc_step o g L c t) r
def zt_run : (Nat → Nat) → List Nat → (Nat → Nat)
  | c, [] => c
  | c, t :: r => zt_run (zc_step o g L c t) r
def zt_lab : (Nat → Nat) → List Nat → List (Nat × Nat)
  | _, [] => []
  | c, t :: r => (t, zc_pc c t) :: zt_lab (zc_step o g L c t) r
def zt_ind (x y : Nat × Nat) : Prop := x.1 ≠ y.1 ∧ ¬ zc_T o g x.2 y.2
/-- a step belongs earlier than some of those before it (the newest first) -/
def zt_bel : List (Nat × Nat) → Nat → Nat → Prop
  | [], _, _ => False
  | x :: r, t, k => (x.1 ≠ t ∧ ¬ zc_T o g x.2 k) ∧ (t < x.1 ∨ zt_bel r t k)
def zt_nor : List (Nat × Nat) → List (Nat × Nat) → Prop
  | _, [] => True
  | acc, x :: r => ¬ zt_bel o g acc x.1 x.2 ∧ zt_nor (x :: acc) r
def zt_sw (a b : List (Nat × Nat)) : Prop := ∃ p x y q, a = p ++ x :: y :: q ∧ b = p ++ y :: x :: q ∧ zt_ind o g x y
def zt_eqn : Nat → List (Nat × Nat) → List (Nat × Nat) → Prop
  | 0, a, b => a = b
  | n + 1, a, b => ∃ m, zt_sw o g a m ∧ zt_eqn n m b
def zt_eqv (a b : List (Nat × Nat)) : Prop := ∃ n, zt_eqn o g n a b
def zt_Q (e : Nat × Nat) (E : List (Nat × Nat)) : Prop := ∃ a b, E = a ++ e :: b ∧ ∀ x, x ∈ a → zt_ind o g x e
end
def zt_del (t : Nat) : List (Nat × Nat) → List (Nat × Nat)
  | [] => []
  | x :: r => if x.1 = t then r else x :: zt_del t r
def zt_cnt (t : Nat) : List (Nat × Nat) → Nat
  | [] => 0
  | x :: r => (if x.1 = t then 1 else 0) + zt_cnt t r
def zt_val : List Nat → Nat
  | [] => 0
  | t :: r => t * 4 ^ r.length + zt_val r
def zt_lex (a b : List Nat) : Prop := a = b ∨ ∃ p t u x y, a = p ++ t :: x ∧ b = p ++ u :: y ∧ t < u
section
variable {o g L : Nat → Nat}
theorem zt_ind_sym {x y : Nat × Nat} (h : zt_ind o g x y) : zt_ind o g y x := ⟨Ne.symm h.1, fun e => h.2 (zc_T_sym e)⟩
theorem zt_sw_sym {a b : List (Nat × Nat)} (h : zt_sw o g a b) : zt_sw o g b a := by
  obtain ⟨p, x, y, q, h1, h2, h3⟩ := h
  exact ⟨p, y, x, q, h2, h1, zt_ind_sym h3⟩
theorem zt_eqn_app : ∀ (n m : Nat) (a b c : List (Nat × Nat)), zt_eqn o g n a b → zt_eqn o g m b c → zt_eqn o g (n + m) a c := by
  intro n
  induction n with
  | zero => intro m a b c h1 h2; cases h1; rw [Nat.zero_add]; exact h2
  | succ n ih =>
    intro m a b c h1 h2
    obtain ⟨x, hs, hr⟩ := h1
    rw [Nat.succ_add]
    exact ⟨x, hs, ih m x b c hr h2⟩
theorem zt_eqv_refl (a : List (Nat × Nat)) : zt_eqv o g a a := ⟨0, rfl⟩
theorem zt_eqv_trans {a b c : List (Nat × Nat)} (h1 : zt_eqv o g a b) (h2 : zt_eqv o g b c) : zt_eqv o g a c := by
  obtain ⟨n, h1⟩ := h1
  obtain ⟨m, h2⟩ := h2
  exact ⟨n + m, zt_eqn_app n m a b c h1 h2⟩
theorem zt_eqv_sw {a b : List (Nat × Nat)} (h : zt_sw o g a b) : zt_eqv o g a b := ⟨1, b, h, rfl⟩
theorem zt_eqn_sym : ∀ (n : Nat) (a b : List (Nat × Nat)), zt_eqn o g n a b → zt_eqv o g b a := by
  intro n
  induction n with
  | zero => intro a b h; cases h; exact zt_eqv_refl _
  | succ n ih =>
    intro a b h
    obtain ⟨x, hs, hr⟩ := h
    exact zt_eqv_trans (ih x b hr) (zt_eqv_sw (zt_sw_sym hs))
theorem zt_eqv_sym {a b : List (Nat × Nat)} (h : zt_eqv o g a b) : zt_eqv o g b a := by
  obtain ⟨n, h⟩ := h
  exact zt_eqn_sym n a b h
theorem zt_sw_cons {a b : List (Nat × Nat)} (z : Nat × Nat) (h : zt_sw o g a b) : zt_sw o g (z :: a) (z :: b) := by
  obtain ⟨p, x, y, q, h1, h2, h3⟩ := h
  exact ⟨z :: p, x, y, q, by rw [h1]; rfl, by rw [h2]; rfl, h3⟩
theorem zt_eqn_cons (z : Nat × Nat) : ∀ (n : Nat) (a b : List (Nat × Nat)), zt_eqn o g n a b → zt_eqn o g n (z :: a) (z :: b) := by
  intro n
  induction n with
  | zero => intro a b h; cases h; rfl
  | succ n ih =>
    intro a b h
    obtain ⟨x, hs, hr⟩ := h
    exact ⟨z :: x, zt_sw_cons z hs, ih x b hr⟩
theorem zt_eqv_cons (z : Nat × Nat) {a b : List (Nat × Nat)} (h : zt_eqv o g a b) : zt_eqv o g (z :: a) (z :: b) := by
  obtain ⟨n, h⟩ := h
  exact ⟨n, zt_eqn_cons z n a b h⟩
theorem zt_eqv_app (p : List (Nat × Nat)) {a b : List (Nat × Nat)} (h : zt_eqv o g a b) : zt_eqv o g (p ++ a) (p ++ b) := by
  induction p with
  | nil => exact h
  | cons z p ih => exact zt_eqv_cons z ih
theorem zt_Q_sw {e : Nat × Nat} {E F : List (Nat × Nat)} (h : zt_sw o g E F) (hQ : zt_Q o g e E) : zt_Q o g e F := by
  obtain ⟨p, x, y, q, h1, h2, h3⟩ := h
  obtain ⟨a, b, h4, h5⟩ := hQ
  rw [h1] at h4
  rw [h2]
  rcases List.append_eq_append_iff.mp h4 with ⟨s, e1, e2⟩ | ⟨s, e1, e2⟩
  · cases s with
    | nil =>
      injection e2 with e3 e4
      subst e3
      refine ⟨p ++ [y], q, by simp, fun z hz => ?_⟩
      rcases List.mem_append.mp hz with hz | hz
      · exact h5 z (by rw [e1]; simp [hz])
      · rw [List.mem_singleton.mp hz]; exact zt_ind_sym h3
    | cons s1 s =>
      injection e2 with e3 e4
      subst e3
      cases s with
      | nil =>
        injection e4 with e5 e6
        subst e5
        exact ⟨p, x :: q, rfl, fun z hz => h5 z (by rw [e1]; simp [hz])⟩
      | cons s2 s =>
        injection e4 with e5 e6
        subst e5
        refine ⟨p ++ y :: x :: s, b, by rw [e6]; simp, fun z hz => h5 z ?_⟩
        rw [e1]
        simp at hz ⊢
        rcases hz with hz | hz | hz | hz
        · exact Or.inl hz
        · exact Or.inr (Or.inr (Or.inl hz))
        · exact Or.inr (Or.inl hz)
        · exact Or.inr (Or.inr (Or.inr hz))
  · cases s with
    | nil =>
      injection e2 with e3 e4
      subst e3
      refine ⟨p ++ [y], q, by simp, fun z hz => ?_⟩
      rcases List.mem_append.mp hz with hz | hz
      · exact h5 z (by rw [e1] at hz; simpa using hz)
      · rw [List.mem_singleton.mp hz]; exact zt_ind_sym h3
    | cons s1 s =>
      injection e2 with e3 e4
      subst e3
      exact ⟨a, s ++ y :: x :: q, by rw [e1]; simp, h5⟩
theorem zt_Q_eqn {e : Nat × Nat} : ∀ (n : Nat) (E F : List (Nat × Nat)), zt_eqn o g n E F → zt_Q o g e E → zt_Q o g e F := by
  intro n
  induction n with
  | zero => intro E F h hQ; cases h; exact hQ
  | succ n ih =>
    intro E F h hQ
    obtain ⟨x, hs, hr⟩ := h
    exact ih x F hr (zt_Q_sw hs hQ)
theorem zt_Q_eqv {e : Nat × Nat} {E F : List (Nat × Nat)} (h : zt_eqv o g E F) (hQ : zt_Q o g e E) : zt_Q o g e F := by
  obtain ⟨n, h⟩ := h
  exact zt_Q_eqn n E F h hQ
theorem zt_del_sw (t : Nat) {x y : Nat × Nat} {q : List (Nat × Nat)} (h : zt_ind o g x y) : ∀ p : List (Nat × Nat),
    zt_del t (p ++ x :: y :: q) = zt_del t (p ++ y :: x :: q) ∨ zt_sw o g (zt_del t (p ++ x :: y :: q)) (zt_del t (p ++ y :: x :: q)) := by
  intro p
  induction p with
  | nil =>
    by_cases hx : x.1 = t
    · have hy : ¬ y.1 = t := fun e => h.1 (hx.trans e.symm)
      left; simp [zt_del, hx, hy]
    · by_cases hy : y.1 = t
      · left; simp [zt_del, hx, hy]
      · right
        exact ⟨[], x, y, zt_del t q, by simp [zt_del, hx, hy], by simp [zt_del, hx, hy], h⟩
  | cons z p ih =>
    by_cases hz : z.1 = t
    · right
      exact ⟨p, x, y, q, by simp [zt_del, hz], by simp [zt_del, hz], h⟩
    · have e1 : zt_del t (z :: p ++ x :: y :: q) = z :: zt_del t (p ++ x :: y :: q) := by simp [zt_del, hz]
      have e2 : zt_del t (z :: p ++ y :: x :: q) = z :: zt_del t (p ++ y :: x :: q) := by simp [zt_del, hz]
      rw [e1, e2]
      rcases ih with ih | ih
      · left; rw [ih]
      · right; exact zt_sw_cons z ih
theorem zt_del_eqn (t : Nat) : ∀ (n : Nat) (a b : List (Nat × Nat)), zt_eqn o g n a b → zt_eqv o g (zt_del t a) (zt_del t b) := by
  intro n
  induction n with
  | zero => intro a b h; cases h; exact zt_eqv_refl _
  | succ n ih =>
    intro a b h
    obtain ⟨m, hs, hr⟩ := h
    refine zt_eqv_trans ?_ (ih m b hr)
    obtain ⟨p, x, y, q, h1, h2, h3⟩ := hs
    rw [h1, h2]
    rcases zt_del_sw t h3 p (q := q) with h | h
    · rw [h]; exact zt_eqv_refl _
    · exact zt_eqv_sw h
theorem zt_cancel {e : Nat × Nat} {a b : List (Nat × Nat)} (h : zt_eqv o g (e :: a) (e :: b)) : zt_eqv o g a b := by
  obtain ⟨n, h⟩ := h
  have := zt_del_eqn e.1 n _ _ h
  simpa [zt_del] using this
theorem zt_cnt0 {t : Nat} : ∀ {w : List (Nat × Nat)}, (∀ x, x ∈ w → x.1 ≠ t) → zt_cnt t w = 0 := by
  intro w
  induction w with
  | nil => intro _; rfl
  | cons z w ih =>
    intro h
    have h1 := h z (by simp)
    simp [zt_cnt, h1, ih fun x hx => h x (by simp [hx])]
theorem zt_cnt_app (t : Nat) : ∀ (a b : List (Nat × Nat)), zt_cnt t (a ++ b) = zt_cnt t a + zt_cnt t b := by
  intro a b
  induction a with
  | nil => simp [zt_cnt]
  | cons z a ih => simp only [List.cons_append, zt_cnt, ih]; omega
theorem zt_pre {w v a b : List (Nat × Nat)} {e : Nat × Nat} (h : w ++ v = a ++ e :: b) (ha : ∀ x, x ∈ a → zt_ind o g x e) (hc : 0 < zt_cnt e.1 w) :
    ∃ b', w = a ++ e :: b' := by
  rcases List.append_eq_append_iff.mp h with ⟨s, e1, e2⟩ | ⟨s, e1, e2⟩
  · have : zt_cnt e.1 w = 0 := zt_cnt0 fun x hx => (ha x (by rw [e1]; simp [hx])).1
    omega
  · cases s with
    | nil =>
      have : zt_cnt e.1 w = 0 := zt_cnt0 fun x hx => (ha x (by rw [e1] at hx; simpa using hx)).1
      omega
    | cons s1 s =>
      injection e2 with e3 e4
      subst e3
      exact ⟨s, e1⟩
theorem zt_nor_at {e : Nat × Nat} {b : List (Nat × Nat)} : ∀ (p acc : List (Nat × Nat)), zt_nor o g acc (p ++ e :: b) → ¬ zt_bel o g (p.reverse ++ acc) e.1 e.2 := by
  intro p
  induction p with
  | nil => intro acc h; exact h.1
  | cons z p ih =>
    intro acc h
    have := ih (z :: acc) h.2
    simpa using this
theorem zt_bel_all {t k : Nat} {y : Nat × Nat} (hy : t < y.1) : ∀ l : List (Nat × Nat), (∀ x, x ∈ l ++ [y] → x.1 ≠ t ∧ ¬ zc_T o g x.2 k) → zt_bel o g (l ++ [y]) t k := by
  intro l
  induction l with
  | nil => intro h; exact ⟨h y (by simp), Or.inl hy⟩
  | cons z l ih => intro h; exact ⟨h z (by simp), Or.inr (ih fun x hx => h x (by simp at hx ⊢; exact Or.inr hx))⟩
theorem zt_bel_mono {t k : Nat} {m : List (Nat × Nat)} : ∀ acc : List (Nat × Nat), zt_bel o g acc t k → zt_bel o g (acc ++ m) t k := by
  intro acc
  induction acc with
  | nil => intro h; exact h.elim
  | cons z acc ih => intro h; exact ⟨h.1, h.2.elim Or.inl fun h => Or.inr (ih h)⟩
theorem zt_nor_mono {m : List (Nat × Nat)} : ∀ (w acc : List (Nat × Nat)), zt_nor o g (acc ++ m) w → zt_nor o g acc w := by
  intro w
  induction w with
  | nil => intro _ _; trivial
  | cons z w ih => intro acc h; exact ⟨fun hb => h.1 (zt_bel_mono acc hb), ih (z :: acc) h.2⟩
theorem zt_bad {e1 e2 : Nat × Nat} {w2 v2 a b : List (Nat × Nat)} (hE : e2 :: w2 ++ v2 = (e2 :: a) ++ e1 :: b) (ha : ∀ x, x ∈ e2 :: a → zt_ind o g x e1)
    (hc : 0 < zt_cnt e1.1 (e2 :: w2)) (hl : e1.1 < e2.1) (hn : zt_nor o g [] (e2 :: w2)) : False := by
  obtain ⟨b', hb⟩ := zt_pre hE ha hc
  rw [hb] at hn
  refine zt_nor_at _ _ hn ?_
  have : (e2 :: a).reverse ++ [] = a.reverse ++ [e2] := by simp
  rw [this]
  refine zt_bel_all hl _ fun x hx => ha x ?_
  simp at hx ⊢
  exact hx.symm
/-- two normal rows with as many steps of each thread, whose continuations are alike, are one row -/
theorem zt_uniq : ∀ (w1 w2 v1 v2 : List (Nat × Nat)), zt_eqv o g (w1 ++ v1) (w2 ++ v2) → zt_nor o g [] w1 → zt_nor o g [] w2 →
    (∀ t, zt_cnt t w1 = zt_cnt t w2) → w1 = w2 := by
  intro w1
  induction w1 with
  | nil =>
    intro w2 v1 v2 _ _ _ hc
    cases w2 with
    | nil => rfl
    | cons x r => have := hc x.1; simp [zt_cnt] at this; omega
  | cons e1 w1 ih =>
    intro w2 v1 v2 hE n1 n2 hc
    cases w2 with
    | nil => have := hc e1.1; simp [zt_cnt] at this
    | cons e2 w2 =>
      obtain ⟨a, b, h1, h2⟩ := zt_Q_eqv hE (e := e1) ⟨[], w1 ++ v1, rfl, fun x hx => by simp at hx⟩
      obtain ⟨a', b', h1', h2'⟩ := zt_Q_eqv (zt_eqv_sym hE) (e := e2) ⟨[], w2 ++ v2, rfl, fun x hx => by simp at hx⟩
      have same : e1 = e2 → e1 :: w1 = e2 :: w2 := by
        intro e
        subst e
        have := ih w2 v1 v2 (zt_cancel hE) (zt_nor_mono w1 [] n1.2) (zt_nor_mono w2 [] n2.2) (fun t => by
          have := hc t
          simp only [zt_cnt] at this
          omega)
        rw [this]
      cases a with
      | nil => injection h1 with h3 h4; exact same h3.symm
      | cons z a =>
        cases a' with
        | nil => injection h1' with h3 h4; exact same h3
        | cons z' a' =>
          have hz : z = e2 := by injection h1 with h3 h4; exact h3.symm
          have hz' : z' = e1 := by injection h1' with h3 h4; exact h3.symm
          subst hz
          subst hz'
          have hne : z.1 ≠ z'.1 := (h2 z (by simp)).1
          exfalso
          rcases Nat.lt_or_gt_of_ne hne with hl | hl
          · exact zt_bad h1' h2' (by rw [hc]; simp [zt_cnt]; omega) hl n1
          · exact zt_bad h1 h2 (by rw [← hc]; simp [zt_cnt]; omega) hl n2
end
end
section
/-! rows that the program can take: moving a step ahead, normal form, completion, how many there can be -/
section
variable {o g L : Nat → Nat} {c : Nat → Nat}
theorem zt_run_app : ∀ (a b : List Nat) (c : Nat → Nat), zt_run o g L c (a ++ b) = zt_run o g L (zt_run o g L c a) b := by
  intro a b
  induction a with
  | nil => intro c; rfl
  | cons t a ih => intro c; exact ih _
theorem zt_lab_app : ∀ (a b : List Nat) (c : Nat → Nat), zt_lab o g L c (a ++ b) = zt_lab o g L c a ++ zt_lab o g L (zt_run o g L c a) b := by
  intro a b
  induction a with
  | nil => intro c; rfl
  | cons t a ih => intro c; exact congrArg _ (ih _)
theorem zt_ok_app : ∀ (a b : List Nat) (c : Nat → Nat), zt_ok o g L c (a ++ b) ↔ zt_ok o g L c a ∧ zt_ok o g L (zt_run o g L c a) b := by
  intro a b
  induction a with
  | nil => intro c; exact ⟨fun h => ⟨trivial, h⟩, fun h => h.2⟩
  | cons t a ih =>
    intro c
    constructor
    · intro h; exact ⟨⟨h.1, h.2.1, ((ih _).mp h.2.2).1⟩, ((ih _).mp h.2.2).2⟩
    · intro h; exact ⟨h.1.1, h.1.2.1, (ih _).mpr ⟨h.1.2.2, h.2⟩⟩
theorem zt_V_run (hK : zc_K o g L) : ∀ (a : List Nat) (c : Nat → Nat), zc_V o L c → zt_ok o g L c a → zc_V o L (zt_run o g L c a) := by
  intro a
  induction a with
  | nil => intro c h _; exact h
  | cons t a ih => intro c h hk; exact ih _ (zc_V_step hK h hk.1 hk.2.1) hk.2.2
theorem zt_lab_fst : ∀ (a : List Nat) (c : Nat → Nat), (zt_lab o g L c a).map Prod.fst = a := by
  intro a
  induction a with
  | nil => intro c; rfl
  | cons t a ih => intro c; exact congrArg _ (ih _)
theorem zt_lab_inj {a b : List Nat} (h : zt_lab o g L c a = zt_lab o g L c b) : a = b := by
  have := congrArg (List.map Prod.fst) h
  rwa [zt_lab_fst, zt_lab_fst] at this
theorem zt_ok_lt : ∀ (a : List Nat) (c : Nat → Nat), zt_ok o g L c a → ∀ t, t ∈ a → t < 3 := by
  intro a
  induction a with
  | nil => intro c _ t ht; simp at ht
  | cons x a ih =>
    intro c h t ht
    rcases List.mem_cons.mp ht with e | e
    · rw [e]; exact h.1
    · exact ih _ h.2.2 t e
/-- a step that does not touch those before it can be taken ahead of them -/
theorem zt_move (hK : zc_K o g L) {t : Nat} {d : List Nat} : ∀ (b : List Nat) (c : Nat → Nat), zc_V o L c → zt_ok o g L c (b ++ t :: d) →
    (∀ x, x ∈ zt_lab o g L c b → zt_ind o g x (t, zc_pc (zt_run o g L c b) t)) →
    zt_ok o g L c (t :: (b ++ d)) ∧ zt_run o g L c (t :: (b ++ d)) = zt_run o g L c (b ++ t :: d) ∧
    zt_eqv o g (zt_lab o g L c (b ++ t :: d)) (zt_lab o g L c (t :: (b ++ d))) ∧ zc_pc c t = zc_pc (zt_run o g L c b) t := by
  intro b
  induction b with
  | nil => intro c _ hk _; exact ⟨hk, rfl, zt_eqv_refl _, rfl⟩
  | cons x b ih =>
    intro c hV hk hi
    have hx3 := hk.1
    have hRx := hk.2.1
    have hV' := zc_V_step hK hV hx3 hRx
    obtain ⟨k1, k2, k3, k4⟩ := ih (zc_step o g L c x) hV' hk.2.2 (fun y hy => hi y (List.mem_cons_of_mem _ hy))
    have hi0 := hi (x, zc_pc c x) (by simp [zt_lab])
    have hne : x ≠ t := hi0.1
    have ht3 := k1.1
    have e1 : zc_pc (zc_step o g L c x) t = zc_pc c t := zc_pc_o ht3 (Ne.symm hne)
    have hT : ¬ zc_T o g (zc_pc c x) (zc_pc c t) := by
      have := hi0.2
      rw [← e1, k4]
      exact this
    have hRt : zc_R o g L c t := (zc_Riff hK hV ht3 (Ne.symm hne) hT).mp k1.2.1
    have hT' : ¬ zc_T o g (zc_pc c t) (zc_pc c x) := fun h => hT (zc_T_sym h)
    have hRx' : zc_R o g L (zc_step o g L c t) x := (zc_Riff hK hV hx3 hne hT').mpr hRx
    have hcm := zc_comm hK hV hx3 ht3 hne hRx hRt hT
    have e2 : zc_pc (zc_step o g L c t) x = zc_pc c x := zc_pc_o hx3 hne
    refine ⟨⟨ht3, hRt, hx3, hRx', ?_⟩, ?_, ?_, ?_⟩
    · rw [← hcm]; exact k1.2.2
    · show zt_run o g L (zc_step o g L (zc_step o g L c t) x) (b ++ d) = _
      rw [← hcm]; exact k2
    · have s1 : zt_eqv o g (zt_lab o g L c (x :: b ++ t :: d)) ((x, zc_pc c x) :: zt_lab o g L (zc_step o g L c x) (t :: (b ++ d))) := zt_eqv_cons _ k3
      refine zt_eqv_trans s1 (zt_eqv_sw ⟨[], (x, zc_pc c x), (t, zc_pc c t), zt_lab o g L (zc_step o g L (zc_step o g L c x) t) (b ++ d), ?_, ?_, hne, hT⟩)
      · show (x, zc_pc c x) :: (t, zc_pc (zc_step o g L c x) t) :: _ = _
        rw [e1]; rfl
      · show (t, zc_pc c t) :: (x, zc_pc (zc_step o g L c t) x) :: zt_lab o g L (zc_step o g L (zc_step o g L c t) x) (b ++ d) = _
        rw [e2, ← hcm]; rfl
    · rw [← e1]; exact k4
theorem zt_lab_split : ∀ (E F : List (Nat × Nat)) (r : List Nat) (c : Nat → Nat), zt_lab o g L c r = E ++ F →
    ∃ a b, r = a ++ b ∧ zt_lab o g L c a = E ∧ zt_lab o g L (zt_run o g L c a) b = F := by
  intro E
  induction E with
  | nil => intro F r c h; exact ⟨[], r, rfl, rfl, h⟩
  | cons e E ih =>
    intro F r c h
    cases r with
    | nil => cases h
    | cons t r =>
      injection h with h1 h2
      obtain ⟨a, b, e1, e2, e3⟩ := ih F r _ h2
      exact ⟨t :: a, b, by rw [e1]; rfl, by show _ :: _ = _; rw [h1, e2], e3⟩
theorem zt_bel_dec {t k : Nat} : ∀ acc : List (Nat × Nat), zt_bel o g acc t k →
    ∃ p x r, acc = p ++ x :: r ∧ t < x.1 ∧ ∀ y, y ∈ p ++ [x] → y.1 ≠ t ∧ ¬ zc_T o g y.2 k := by
  intro acc
  induction acc with
  | nil => intro h; exact h.elim
  | cons z acc ih =>
    intro h
    rcases h.2 with h2 | h2
    · exact ⟨[], z, acc, rfl, h2, fun y hy => by rw [List.mem_singleton.mp hy]; exact h.1⟩
    · obtain ⟨p, x, r, e, hl, ha⟩ := ih h2
      refine ⟨z :: p, x, r, by rw [e]; rfl, hl, fun y hy => ?_⟩
      rcases List.mem_cons.mp hy with e | e
      · rw [e]; exact h.1
      · exact ha y e
theorem zt_nnor : ∀ (E acc : List (Nat × Nat)), ¬ zt_nor o g acc E → ∃ p e q, E = p ++ e :: q ∧ zt_bel o g (p.reverse ++ acc) e.1 e.2 := by
  intro E
  induction E with
  | nil => intro acc h; exact absurd trivial h
  | cons z E ih =>
    intro acc h
    by_cases hb : zt_bel o g acc z.1 z.2
    · exact ⟨[], z, E, rfl, hb⟩
    · obtain ⟨p, e, q, h1, h2⟩ := ih (z :: acc) (fun hn => h ⟨hb, hn⟩)
      refine ⟨z :: p, e, q, by rw [h1]; rfl, ?_⟩
      have : (z :: p).reverse ++ acc = p.reverse ++ z :: acc := by simp
      rw [this]; exact h2
theorem zt_val_lt : ∀ r : List Nat, (∀ t, t ∈ r → t < 3) → zt_val r < 4 ^ r.length := by
  intro r
  induction r with
  | nil => intro _; exact Nat.one_pos
  | cons t r ih =>
    intro h
    have h1 := ih fun x hx => h x (List.mem_cons_of_mem _ hx)
    have h2 := h t (by simp)
    show t * 4 ^ r.length + zt_val r < 4 ^ (r.length + 1)
    rw [Nat.pow_succ]
    have : t * 4 ^ r.length ≤ 2 * 4 ^ r.length := Nat.mul_le_mul_right _ (by omega)
    omega
theorem zt_val_dec {t u : Nat} {x y : List Nat} (hl : x.length = y.length) (hx : ∀ z, z ∈ x → z < 3) (h : t < u) : ∀ a : List Nat,
    zt_val (a ++ t :: x) < zt_val (a ++ u :: y) := by
  intro a
  induction a with
  | nil =>
    show t * 4 ^ x.length + zt_val x < u * 4 ^ y.length + zt_val y
    have h1 := zt_val_lt x hx
    rw [hl] at h1 ⊢
    have : (t + 1) * 4 ^ y.length ≤ u * 4 ^ y.length := Nat.mul_le_mul_right _ h
    rw [Nat.succ_mul] at this
    omega
  | cons z a ih =>
    show z * 4 ^ (a ++ t :: x).length + zt_val (a ++ t :: x) < z * 4 ^ (a ++ u :: y).length + zt_val (a ++ u :: y)
    have e : (a ++ t :: x).length = (a ++ u :: y).length := by simp [hl]
    rw [e]; omega
theorem zt_lex_val : ∀ (a b : List Nat), a.length = b.length → (∀ t, t ∈ b → t < 3) → zt_val a ≤ zt_val b → zt_lex a b := by
  intro a
  induction a with
  | nil =>
    intro b hl _ _
    cases b with
    | nil => exact Or.inl rfl
    | cons _ _ => simp at hl
  | cons t a ih =>
    intro b hl hb hv
    cases b with
    | nil => simp at hl
    | cons u b =>
      have hl' : a.length = b.length := by simpa using hl
      have hv' : t * 4 ^ a.length + zt_val a ≤ u * 4 ^ b.length + zt_val b := hv
      rw [hl'] at hv'
      have hlt := zt_val_lt b fun x hx => hb x (List.mem_cons_of_mem _ hx)
      rcases Nat.lt_trichotomy t u with h | h | h
      · exact Or.inr ⟨[], t, u, a, b, rfl, rfl, h⟩
      · subst h
        rcases ih b hl' (fun x hx => hb x (List.mem_cons_of_mem _ hx)) (by omega) with e | ⟨p, t', u', x, y, e1, e2, e3⟩
        · exact Or.inl (by rw [e])
        · exact Or.inr ⟨t :: p, t', u', x, y, by rw [e1]; rfl, by rw [e2]; rfl, e3⟩
      · exfalso
        have : (u + 1) * 4 ^ b.length ≤ t * 4 ^ b.length := Nat.mul_le_mul_right _ h
        rw [Nat.succ_mul] at this
        omega
/-- each row has a normal one that is alike and not behind it -/
theorem zt_normal (hK : zc_K o g L) (hV : zc_V o L c) : ∀ (N : Nat) (r : List Nat), zt_val r < N → zt_ok o g L c r →
    ∃ l, zt_ok o g L c l ∧ zt_run o g L c l = zt_run o g L c r ∧ zt_eqv o g (zt_lab o g L c r) (zt_lab o g L c l) ∧
      zt_nor o g [] (zt_lab o g L c l) ∧ l.length = r.length ∧ zt_val l ≤ zt_val r := by
  intro N
  induction N with
  | zero => intro r h; omega
  | succ N ih =>
    intro r hN hk
    by_cases hn : zt_nor o g [] (zt_lab o g L c r)
    · exact ⟨r, hk, rfl, zt_eqv_refl _, hn, rfl, Nat.le_refl _⟩
    · obtain ⟨p, e, q, h1, h2⟩ := zt_nnor _ _ hn
      rw [List.append_nil] at h2
      obtain ⟨p1, x, r1, h3, h4, h5⟩ := zt_bel_dec _ h2
      have h6 : p = r1.reverse ++ x :: p1.reverse := by
        have := congrArg List.reverse h3
        simpa using this
      rw [h6, List.append_assoc] at h1
      obtain ⟨a, b, e1, e2, e3⟩ := zt_lab_split _ _ r c h1
      obtain ⟨b1, b2, e4, e5, e6⟩ := zt_lab_split (x :: p1.reverse) (e :: q) b _ e3
      cases b2 with
      | nil => cases e6
      | cons t d =>
        injection e6 with e7 e8
        cases b1 with
        | nil => cases e5
        | cons x0 b1 =>
          have hx0 : x0 = x.1 := by injection e5 with e9 e10; rw [← e9]
          have ht : t = e.1 := by rw [← e7]
          have hka := (zt_ok_app a b c).mp (by rw [← e1]; exact hk)
          have hVa := zt_V_run hK a c hV hka.1
          have hkb := hka.2
          rw [e4] at hkb
          have hind : ∀ y, y ∈ zt_lab o g L (zt_run o g L c a) (x0 :: b1) →
              zt_ind o g y (t, zc_pc (zt_run o g L (zt_run o g L c a) (x0 :: b1)) t) := by
            intro y hy
            rw [e7]
            rw [e5] at hy
            refine h5 y ?_
            simp at hy ⊢
            exact hy.symm
          obtain ⟨m1, m2, m3, _⟩ := zt_move hK (x0 :: b1) _ hVa hkb hind
          have hlt : zt_val (a ++ t :: (x0 :: b1 ++ d)) < zt_val r := by
            rw [e1, e4]
            have hall := zt_ok_lt _ _ hkb
            refine zt_val_dec (t := t) (u := x0) (x := x0 :: b1 ++ d) (y := b1 ++ t :: d) (by simp; omega) (fun z hz => hall z ?_) (by rw [hx0, ht]; exact h4) a
            simp at hz ⊢
            rcases hz with hz | hz | hz
            · exact Or.inl hz
            · exact Or.inr (Or.inl hz)
            · exact Or.inr (Or.inr (Or.inr hz))
          obtain ⟨l, k1, k2, k3, k4, k5, k6⟩ := ih (a ++ t :: (x0 :: b1 ++ d)) (by omega) ((zt_ok_app _ _ _).mpr ⟨hka.1, m1⟩)
          refine ⟨l, k1, ?_, ?_, k4, ?_, by omega⟩
          · rw [k2, e1, e4, zt_run_app a, zt_run_app a, m2]
          · refine zt_eqv_trans ?_ k3
            rw [e1, zt_lab_app, zt_lab_app, e4]
            exact zt_eqv_app _ m3
          · rw [k5, e1, e4]; simp; omega
theorem zt_psi_run (hK : zc_K o g L) {t : Nat} (ht : t < 3) : ∀ (a : List Nat) (c : Nat → Nat), zc_V o L c → zt_ok o g L c a →
    zc_psi c t + zt_cnt t (zt_lab o g L c a) ≤ zc_psi (zt_run o g L c a) t := by
  intro a
  induction a with
  | nil => intro c _ _; exact Nat.le_refl _
  | cons x a ih =>
    intro c hV hk
    have h1 := ih _ (zc_V_step hK hV hk.1 hk.2.1) hk.2.2
    show zc_psi c t + ((if x = t then 1 else 0) + zt_cnt t (zt_lab o g L (zc_step o g L c x) a)) ≤ zc_psi (zt_run o g L (zc_step o g L c x) a) t
    by_cases e : x = t
    · subst e
      have h2 := zc_psi_s hK hV hk.1 hk.2.1
      rw [if_pos rfl]
      omega
    · have h2 := zc_psi_o (o := o) (g := g) (L := L) (c := c) ht (Ne.symm e)
      rw [if_neg e]
      omega
theorem zt_cnt_le (hK : zc_K o g L) (hV : zc_V o L c) {t : Nat} (ht : t < 3) {a : List Nat} (hk : zt_ok o g L c a) : zt_cnt t (zt_lab o g L c a) ≤ 10 := by
  have h1 := zt_psi_run hK ht a c hV hk
  have h2 := zc_psi_le hK (zt_V_run hK a c hV hk) ht
  omega
theorem zt_len : ∀ (a : List Nat) (c : Nat → Nat), zt_ok o g L c a →
    a.length = zt_cnt 0 (zt_lab o g L c a) + zt_cnt 1 (zt_lab o g L c a) + zt_cnt 2 (zt_lab o g L c a) := by
  intro a
  induction a with
  | nil => intro c _; rfl
  | cons x a ih =>
    intro c hk
    have h1 := ih _ hk.2.2
    have h2 := hk.1
    show a.length + 1 = ((if x = 0 then 1 else 0) + zt_cnt 0 (zt_lab o g L (zc_step o g L c x) a)) + ((if x = 1 then 1 else 0) + zt_cnt 1 (zt_lab o g L (zc_step o g L c x) a)) + ((if x = 2 then 1 else 0) + zt_cnt 2 (zt_lab o g L (zc_step o g L c x) a))
    have : x = 0 ∨ x = 1 ∨ x = 2 := by omega
    rcases this with e | e | e <;> subst e <;> simp <;> omega
theorem zt_len30 (hK : zc_K o g L) (hV : zc_V o L c) {a : List Nat} (hk : zt_ok o g L c a) :
    zc_psi c 0 + zc_psi c 1 + zc_psi c 2 + a.length ≤ 30 := by
  have h0 := zt_psi_run hK (t := 0) (by omega) a c hV hk
  have h1 := zt_psi_run hK (t := 1) (by omega) a c hV hk
  have h2 := zt_psi_run hK (t := 2) (by omega) a c hV hk
  have hV' := zt_V_run hK a c hV hk
  have k0 := zc_psi_le hK hV' (t := 0) (by omega)
  have k1 := zc_psi_le hK hV' (t := 1) (by omega)
  have k2 := zc_psi_le hK hV' (t := 2) (by omega)
  have := zt_len a c hk
  omega
def zt_end (o g L c : Nat → Nat) : Prop := ∀ t, t < 3 → ¬ zc_R o g L c t
/-- each state comes to an end -/
theorem zt_compl (hK : zc_K o g L) : ∀ (N : Nat) (c : Nat → Nat), zc_V o L c → 31 ≤ N + (zc_psi c 0 + zc_psi c 1 + zc_psi c 2) →
    ∃ v, zt_ok o g L c v ∧ zt_end o g L (zt_run o g L c v) := by
  intro N
  induction N with
  | zero =>
    intro c hV h
    have k0 := zc_psi_le hK hV (t := 0) (by omega)
    have k1 := zc_psi_le hK hV (t := 1) (by omega)
    have k2 := zc_psi_le hK hV (t := 2) (by omega)
    omega
  | succ N ih =>
    intro c hV h
    by_cases he : zt_end o g L c
    · exact ⟨[], trivial, he⟩
    · have : ∃ t, t < 3 ∧ zc_R o g L c t := by
        refine Classical.byContradiction fun hn => he fun t ht hR => hn ⟨t, ht, hR⟩
      obtain ⟨t, ht, hR⟩ := this
      have h1 := zc_psi_all hK hV ht hR
      obtain ⟨v, hv1, hv2⟩ := ih _ (zc_V_step hK hV ht hR) (by omega)
      exact ⟨t :: v, ⟨ht, hR, hv1⟩, hv2⟩
/-- what a row that the walk has left has been counted by -/
def zt_by (o g L c : Nat → Nat) (w l : List Nat) : Prop := ∃ v, zt_ok o g L c (w ++ v) ∧ zt_eqv o g (zt_lab o g L c (w ++ v)) (zt_lab o g L c l)
theorem zt_left (hK : zc_K o g L) (hV : zc_V o L c) {w : List Nat} (hk : zt_ok o g L c w) :
    ∃ l v, zt_ok o g L c l ∧ zt_end o g L (zt_run o g L c l) ∧ zt_nor o g [] (zt_lab o g L c l) ∧ zt_by o g L c w l ∧ zt_lex l (w ++ v) := by
  obtain ⟨v, hv1, hv2⟩ := zt_compl hK 31 (zt_run o g L c w) (zt_V_run hK w c hV hk) (by omega)
  have hkv : zt_ok o g L c (w ++ v) := (zt_ok_app _ _ _).mpr ⟨hk, hv1⟩
  obtain ⟨l, k1, k2, k3, k4, k5, k6⟩ := zt_normal hK hV _ (w ++ v) (Nat.lt_succ_self _) hkv
  refine ⟨l, v, k1, ?_, k4, ⟨v, hkv, k3⟩, zt_lex_val l (w ++ v) k5 (zt_ok_lt _ _ hkv) k6⟩
  rw [k2, zt_run_app]; exact hv2
theorem zt_by_inj {w1 w2 l : List Nat} (h1 : zt_by o g L c w1 l) (h2 : zt_by o g L c w2 l)
    (n1 : zt_nor o g [] (zt_lab o g L c w1)) (n2 : zt_nor o g [] (zt_lab o g L c w2))
    (hc : ∀ t, zt_cnt t (zt_lab o g L c w1) = zt_cnt t (zt_lab o g L c w2)) : w1 = w2 := by
  obtain ⟨v1, _, e1⟩ := h1
  obtain ⟨v2, _, e2⟩ := h2
  rw [zt_lab_app] at e1 e2
  exact zt_lab_inj (zt_uniq _ _ _ _ (zt_eqv_trans e1 (zt_eqv_sym e2)) n1 n2 hc)
end
/-- pigeonholes -/
theorem zt_holes {α : Type} (R : α → Nat → Prop) (N : Nat) (hR : ∀ x y n, R x n → R y n → x = y) : ∀ G : List α, G.Nodup → (∀ x, x ∈ G → ∃ n, n < N ∧ R x n) →
    ∃ cs : List Nat, cs.length = G.length ∧ cs.Nodup ∧ ∀ n, n ∈ cs → n < N ∧ ∃ x, x ∈ G ∧ R x n := by
  intro G
  induction G with
  | nil => intro _ _; exact ⟨[], rfl, List.nodup_nil, fun n hn => by simp at hn⟩
  | cons x G ih =>
    intro hd ha
    have hd' := List.nodup_cons.mp hd
    obtain ⟨cs, h1, h2, h3⟩ := ih hd'.2 fun y hy => ha y (List.mem_cons_of_mem _ hy)
    obtain ⟨n, hn, hr⟩ := ha x (by simp)
    refine ⟨n :: cs, by simp [h1], List.nodup_cons.mpr ⟨fun hm => ?_, h2⟩, fun m hm => ?_⟩
    · obtain ⟨_, y, hy, hr'⟩ := h3 n hm
      exact hd'.1 (hR x y n hr hr' ▸ hy)
    · rcases List.mem_cons.mp hm with e | e
      · subst e; exact ⟨hn, x, by simp, hr⟩
      · obtain ⟨k1, y, k2, k3⟩ := h3 m e
        exact ⟨k1, y, List.mem_cons_of_mem _ k2, k3⟩
theorem zt_holes_le {α : Type} (R : α → Nat → Prop) (N : Nat) (hR : ∀ x y n, R x n → R y n → x = y) (G : List α) (hd : G.Nodup) (ha : ∀ x, x ∈ G → ∃ n, n < N ∧ R x n) :
    G.length ≤ N := by
  obtain ⟨cs, h1, h2, h3⟩ := zt_holes R N hR G hd ha
  have := List.Nodup.length_le_of_subset h2 (l₂ := List.range N) (fun n hn => List.mem_range.mpr (h3 n hn).1)
  rw [List.length_range] at this
  omega
section
variable {o g L : Nat → Nat} {c : Nat → Nat}
/-- the rows that the walk has left are at most 1331 times as many as the runs that it has counted -/
theorem zt_bound (hK : zc_K o g L) (hV : zc_V o L c) (G C : List (List Nat)) (hd : G.Nodup)
    (hG : ∀ w, w ∈ G → zt_ok o g L c w ∧ zt_nor o g [] (zt_lab o g L c w) ∧ ∃ l, l ∈ C ∧ zt_by o g L c w l) : G.length ≤ C.length * 1331 := by
  refine zt_holes_le (fun w n => zt_ok o g L c w ∧ zt_nor o g [] (zt_lab o g L c w) ∧ ∃ l, C[n / 1331]? = some l ∧ zt_by o g L c w l ∧
    n % 1331 = 121 * zt_cnt 0 (zt_lab o g L c w) + 11 * zt_cnt 1 (zt_lab o g L c w) + zt_cnt 2 (zt_lab o g L c w)) _ ?_ G hd ?_
  · rintro x y n ⟨a1, a2, l, a3, a4, a5⟩ ⟨b1, b2, l', b3, b4, b5⟩
    have el : l = l' := by rw [a3] at b3; injection b3
    subst el
    have x0 := zt_cnt_le hK hV (t := 0) (by omega) a1
    have x1 := zt_cnt_le hK hV (t := 1) (by omega) a1
    have x2 := zt_cnt_le hK hV (t := 2) (by omega) a1
    have y0 := zt_cnt_le hK hV (t := 0) (by omega) b1
    have y1 := zt_cnt_le hK hV (t := 1) (by omega) b1
    have y2 := zt_cnt_le hK hV (t := 2) (by omega) b1
    rw [a5] at b5
    refine zt_by_inj a4 b4 a2 b2 fun t => ?_
    by_cases h0 : t = 0
    · subst h0; omega
    by_cases h1 : t = 1
    · subst h1; omega
    by_cases h2 : t = 2
    · subst h2; omega
    have hz : ∀ w, zt_ok o g L c w → zt_cnt t (zt_lab o g L c w) = 0 := by
      intro w hw
      refine zt_cnt0 fun z hz => ?_
      have hm : z.1 ∈ (zt_lab o g L c w).map Prod.fst := List.mem_map_of_mem hz
      rw [zt_lab_fst] at hm
      have := zt_ok_lt w c hw z.1 hm
      omega
    rw [hz x a1, hz y b1]
  · intro w hw
    obtain ⟨h1, h2, l, h3, h4⟩ := hG w hw
    have x0 := zt_cnt_le hK hV (t := 0) (by omega) h1
    have x1 := zt_cnt_le hK hV (t := 1) (by omega) h1
    have x2 := zt_cnt_le hK hV (t := 2) (by omega) h1
    obtain ⟨i, hi, he⟩ := List.mem_iff_getElem.mp h3
    generalize e0 : zt_cnt 0 (zt_lab o g L c w) = n0 at *
    generalize e1 : zt_cnt 1 (zt_lab o g L c w) = n1 at *
    generalize e2 : zt_cnt 2 (zt_lab o g L c w) = n2 at *
    refine ⟨i * 1331 + (121 * n0 + 11 * n1 + n2), by omega, h1, h2, l, ?_, h4, by omega⟩
    have : (i * 1331 + (121 * n0 + 11 * n1 + n2)) / 1331 = i := by omega
    rw [this, List.getElem?_eq_getElem hi, he]
end
end
section
/-! a list of states in the order in which a breadth-first search finds them: nearest, and the way to it -/
def zg_R (E : Nat → Nat → Nat → Prop) (S : Nat → Prop) : Nat → Nat → Prop
  | 0, k => S k
  | l + 1, k => ∃ t m, E k t m ∧ zg_R E S l m
def zg_an (key : Nat → Nat) (G : Nat) : Nat → Nat
  | 0 => G
  | q + 1 => key (zg_an key G q) / 3
/-- what the search has kept of each state: a key (three times the state before, and the thread), a distance -/
def zg_B (n : Nat) (E : Nat → Nat → Nat → Prop) (key d : Nat → Nat) : Prop :=
  (∀ i t m, E i t m → i < n ∧ t < 3 ∧ m < n) ∧ (∀ i t m m', E i t m → E i t m' → m = m') ∧ d 0 = 0 ∧
  (∀ i, 0 < i → i < n → key i / 3 < i ∧ d i = d (key i / 3) + 1 ∧ E (key i / 3) (key i % 3) i) ∧
  (∀ i j, 0 < i → i < j → j < n → key i < key j) ∧
  (∀ i t m, E i t m → m = 0 ∨ key m ≤ 3 * i + t)
section
variable {n : Nat} {E : Nat → Nat → Nat → Prop} {S : Nat → Prop} {key d : Nat → Nat}
theorem zg_mono (B : zg_B n E key d) : ∀ N j, j < N → j < n → ∀ i, i ≤ j → d i ≤ d j := by
  obtain ⟨_, _, k0, k1, k2, _⟩ := B
  intro N
  induction N with
  | zero => intro j h; omega
  | succ N ih =>
    intro j hj hn i hi
    by_cases e0 : i = 0
    · rw [e0, k0]; exact Nat.zero_le _
    by_cases e : i = j
    · rw [e]; exact Nat.le_refl _
    obtain ⟨a1, a2, _⟩ := k1 j (by omega) hn
    obtain ⟨b1, b2, _⟩ := k1 i (by omega) (by omega)
    have hk := k2 i j (by omega) (by omega) hn
    have := ih (key j / 3) (by omega) (by omega) (key i / 3) (by omega)
    omega
theorem zg_le (B : zg_B n E key d) {i j : Nat} (hj : j < n) (h : i ≤ j) : d i ≤ d j := zg_mono B (j + 1) j (Nat.lt_succ_self _) hj i h
theorem zg_edge (B : zg_B n E key d) {i t m : Nat} (h : E i t m) : d m ≤ d i + 1 := by
  have hh := B.1 i t m h
  rcases B.2.2.2.2.2 i t m h with e | e
  · rw [e, B.2.2.1]; omega
  · by_cases e0 : m = 0
    · rw [e0, B.2.2.1]; omega
    · obtain ⟨a1, a2, _⟩ := B.2.2.2.1 m (by omega) hh.2.2
      have := zg_le B hh.1 (i := key m / 3) (by omega)
      omega
theorem zg_path (B : zg_B n E key d) (hS : ∀ k, S k → k < n) : ∀ l k, zg_R E S l k → ∃ s, S s ∧ d s ≤ d k + l := by
  intro l
  induction l with
  | zero => intro k h; exact ⟨k, h, by omega⟩
  | succ l ih =>
    intro k h
    obtain ⟨t, m, h1, h2⟩ := h
    obtain ⟨s, h3, h4⟩ := ih m h2
    have := zg_edge B h1
    exact ⟨s, h3, by omega⟩
section
variable {G : Nat}
theorem zg_an_d (B : zg_B n E key d) (hG : G < n) : ∀ q, q ≤ d G → zg_an key G q < n ∧ d (zg_an key G q) + q = d G := by
  intro q
  induction q with
  | zero => intro _; exact ⟨hG, rfl⟩
  | succ q ih =>
    intro hq
    obtain ⟨h1, h2⟩ := ih (by omega)
    have h0 : 0 < zg_an key G q := by
      rcases Nat.eq_zero_or_pos (zg_an key G q) with e | e
      · rw [e, B.2.2.1] at h2; omega
      · exact e
    obtain ⟨a1, a2, _⟩ := B.2.2.2.1 _ h0 h1
    show key (zg_an key G q) / 3 < n ∧ d (key (zg_an key G q) / 3) + (q + 1) = d G
    exact ⟨by omega, by omega⟩
theorem zg_an_pos (B : zg_B n E key d) (hG : G < n) {q : Nat} (hq : q < d G) : 0 < zg_an key G q := by
  have := zg_an_d B hG q (by omega)
  rcases Nat.eq_zero_or_pos (zg_an key G q) with e | e
  · rw [e, B.2.2.1] at this; omega
  · exact e
theorem zg_an_0 (B : zg_B n E key d) (hG : G < n) : zg_an key G (d G) = 0 := by
  have := zg_an_d B hG (d G) (Nat.le_refl _)
  rcases Nat.eq_zero_or_pos (zg_an key G (d G)) with e | e
  · exact e
  · obtain ⟨a1, a2, _⟩ := B.2.2.2.1 _ e this.1
    omega
theorem zg_an_E (B : zg_B n E key d) (hG : G < n) {q : Nat} (hq : q < d G) :
    E (zg_an key G (q + 1)) (key (zg_an key G q) % 3) (zg_an key G q) :=
  (B.2.2.2.1 _ (zg_an_pos B hG hq) (zg_an_d B hG q (by omega)).1).2.2
theorem zg_an_R (B : zg_B n E key d) (hG : G < n) (hS : S G) : ∀ q, q ≤ d G → zg_R E S q (zg_an key G q) := by
  intro q
  induction q with
  | zero => intro _; exact hS
  | succ q ih => intro hq; exact ⟨_, _, zg_an_E B hG (by omega), ih (by omega)⟩
theorem zg_far (B : zg_B n E key d) (hS : ∀ k, S k → k < n) (hG : G < n) (hf : ∀ s, S s → G ≤ s) {l k : Nat} (h : zg_R E S l k) : d G ≤ d k + l := by
  obtain ⟨s, h1, h2⟩ := zg_path B hS l k h
  have := zg_le B (hS s h1) (hf s h1)
  omega
theorem zg_ord (B : zg_B n E key d) (hS : ∀ k, S k → k < n) (hG : G < n) (hf : ∀ s, S s → G ≤ s) : ∀ q a, q ≤ d G → a < zg_an key G q →
    d a ≤ d (zg_an key G q) → zg_R E S q a → False := by
  intro q
  induction q with
  | zero => intro a _ ha _ h; exact absurd (hf a h) (by simpa [zg_an] using ha)
  | succ q ih =>
    intro a hq ha hd h
    obtain ⟨t, m, h1, h2⟩ := h
    have hb := zg_an_d B hG q (by omega)
    have hb0 := zg_an_pos B hG (q := q) (by omega)
    have hb1 := zg_an_d B hG (q + 1) hq
    have e1 := zg_edge B h1
    have e2 := zg_far B hS hG hf h2
    have hh := B.1 a t m h1
    have ha' : a < key (zg_an key G q) / 3 := ha
    have hm0 : m ≠ 0 := by
      intro e
      rw [e, B.2.2.1] at e2
      omega
    have hkm : key m ≤ 3 * a + t := by
      rcases B.2.2.2.2.2 a t m h1 with e | e
      · exact absurd e hm0
      · exact e
    have hlt : m < zg_an key G q := by
      refine Classical.byContradiction fun hn => ?_
      by_cases e : m = zg_an key G q
      · rw [e] at hkm; omega
      · have := B.2.2.2.2.1 (zg_an key G q) m hb0 (by omega) hh.2.2
        omega
    exact ih m (by omega) hlt (by omega) h2
/-- what the other search keeps: how far each state is from one that is sought -/
def zg_F (n : Nat) (E : Nat → Nat → Nat → Prop) (S : Nat → Prop) (far : Nat → Nat) : Prop :=
  (∀ k, k < n → far k ≤ 1000) ∧ (∀ k, k < n → far k < 1000 → zg_R E S (far k) k) ∧ (∀ l k, k < n → zg_R E S l k → far k ≤ l)
variable {far : Nat → Nat}
theorem zg_never (hF : zg_F n E S far) (B : zg_B n E key d) (hS : ∀ k, S k → k < n) (hn : 0 < n) (h : ∀ k, ¬ S k) : far 0 = 1000 := by
  have h1 := hF.1 0 hn
  rcases Nat.lt_or_ge (far 0) 1000 with e | e
  · obtain ⟨s, h2, _⟩ := zg_path B hS _ _ (hF.2.1 0 hn e)
    exact absurd h2 (h s)
  · omega
theorem zg_far_an (hF : zg_F n E S far) (B : zg_B n E key d) (hS : ∀ k, S k → k < n) (hG : G < n) (hSG : S G) (hf : ∀ s, S s → G ≤ s) (hb : d G < 1000) {q : Nat} (hq : q ≤ d G) :
    far (zg_an key G q) = q := by
  have h1 := zg_an_d B hG q hq
  have h2 := hF.2.2 q _ h1.1 (zg_an_R B hG hSG q hq)
  have h3 := zg_far B hS hG hf (hF.2.1 _ h1.1 (by omega))
  omega
theorem zg_soon (hF : zg_F n E S far) (B : zg_B n E key d) (hS : ∀ k, S k → k < n) (hG : G < n) (hSG : S G) (hf : ∀ s, S s → G ≤ s) (hb : d G < 1000) :
    far 0 = d G := by
  have := zg_far_an hF B hS hG hSG hf hb (q := d G) (Nat.le_refl _)
  rwa [zg_an_0 B hG] at this
theorem zg_low (hF : zg_F n E S far) (B : zg_B n E key d) (hS : ∀ k, S k → k < n) (hG : G < n) (hSG : S G) (hf : ∀ s, S s → G ≤ s) (hb : d G < 1000) {q : Nat} (hq : q < d G)
    {t m : Nat} (ht : t < key (zg_an key G q) % 3) (h : E (zg_an key G (q + 1)) t m) : far m ≠ q := by
  intro he
  have hh := B.1 _ t m h
  have h2 := hF.2.1 m hh.2.2 (by omega)
  rw [he] at h2
  have hb1 := zg_an_d B hG (q + 1) (by omega)
  have hb0 := zg_an_d B hG q (by omega)
  have hp := zg_an_pos B hG hq
  have e1 := zg_edge B h
  have e2 := zg_far B hS hG hf h2
  have hm0 : m ≠ 0 := by
    intro e
    rw [e, B.2.2.1] at e2
    omega
  have hkm : key m ≤ 3 * zg_an key G (q + 1) + t := by
    rcases B.2.2.2.2.2 _ t m h with e | e
    · exact absurd e hm0
    · exact e
  have hdef : zg_an key G (q + 1) = key (zg_an key G q) / 3 := rfl
  have hlt : m < zg_an key G q := by
    refine Classical.byContradiction fun hn => ?_
    by_cases e : m = zg_an key G q
    · rw [e] at hkm; omega
    · have := B.2.2.2.2.1 (zg_an key G q) m hp (by omega) hh.2.2
      omega
  exact zg_ord B hS hG hf q m (by omega) hlt (by omega) h2
end
end
end
section
/-! cells in one number: each cell i takes w i bits -/
def zp_s (w : Nat → Nat) : Nat → Nat → Nat
  | _, 0 => 0
  | i, n + 1 => w i + zp_s w (i + 1) n
def zp_k (w c : Nat → Nat) : Nat → Nat → Nat
  | _, 0 => 0
  | i, n + 1 => c i + 2 ^ w i * zp_k w c (i + 1) n
theorem zp_lt {w c : Nat → Nat} : ∀ n i, (∀ j, c j < 2 ^ w j) → zp_k w c i n < 2 ^ zp_s w i n := by
  intro n
  induction n with
  | zero => intro i _; exact Nat.one_pos
  | succ n ih =>
    intro i h
    show c i + 2 ^ w i * zp_k w c (i + 1) n < 2 ^ (w i + zp_s w (i + 1) n)
    rw [Nat.pow_add]
    have h1 := ih (i + 1) h
    have h2 := h i
    have h3 : 2 ^ w i * (zp_k w c (i + 1) n + 1) ≤ 2 ^ w i * 2 ^ zp_s w (i + 1) n := Nat.mul_le_mul_left _ h1
    rw [Nat.mul_add, Nat.mul_one] at h3
    omega
theorem zp_get {w c : Nat → Nat} (h : ∀ j, c j < 2 ^ w j) : ∀ k i n, k < n → zp_k w c i n / 2 ^ zp_s w i k % 2 ^ w (i + k) = c (i + k) := by
  intro k
  induction k with
  | zero =>
    intro i n hn
    cases n with
    | zero => omega
    | succ n =>
      show (c i + 2 ^ w i * zp_k w c (i + 1) n) / 2 ^ 0 % 2 ^ w i = c i
      rw [Nat.pow_zero, Nat.div_one, Nat.add_mul_mod_self_left, Nat.mod_eq_of_lt (h i)]
  | succ k ih =>
    intro i n hn
    cases n with
    | zero => omega
    | succ n =>
      have e := ih (i + 1) n (by omega)
      have e1 : i + 1 + k = i + (k + 1) := by omega
      rw [e1] at e
      show (c i + 2 ^ w i * zp_k w c (i + 1) n) / 2 ^ (w i + zp_s w (i + 1) k) % 2 ^ w (i + (k + 1)) = c (i + (k + 1))
      rw [Nat.pow_add, ← Nat.div_div_eq_div_mul, Nat.add_mul_div_left _ _ (Nat.two_pow_pos _), Nat.div_eq_of_lt (h i), Nat.zero_add]
      exact e
theorem zp_o {w c : Nat → Nat} {k v : Nat} : ∀ n i, k < i → zp_k w (zc_up c k v) i n = zp_k w c i n := by
  intro n
  induction n with
  | zero => intro i _; rfl
  | succ n ih =>
    intro i h
    show zc_up c k v i + 2 ^ w i * zp_k w (zc_up c k v) (i + 1) n = c i + 2 ^ w i * zp_k w c (i + 1) n
    rw [ih (i + 1) (by omega), zc_up_n (by omega)]
/-- one cell of the number, and how the number changes with it -/
theorem zp_put {w c : Nat → Nat} (h : ∀ j, c j < 2 ^ w j) : ∀ k i n, k < n → ∃ lo hi, lo < 2 ^ zp_s w i k ∧
    ∀ v, zp_k w (zc_up c (i + k) v) i n = lo + 2 ^ zp_s w i k * (v + 2 ^ w (i + k) * hi) := by
  intro k
  induction k with
  | zero =>
    intro i n hn
    cases n with
    | zero => omega
    | succ n =>
      refine ⟨0, zp_k w c (i + 1) n, Nat.one_pos, fun v => ?_⟩
      show zc_up c i v i + 2 ^ w i * zp_k w (zc_up c i v) (i + 1) n = 0 + 2 ^ 0 * (v + 2 ^ w i * zp_k w c (i + 1) n)
      rw [zp_o n (i + 1) (by omega), zc_up_s, Nat.pow_zero, Nat.one_mul, Nat.zero_add]
  | succ k ih =>
    intro i n hn
    cases n with
    | zero => omega
    | succ n =>
      obtain ⟨lo, hi, h1, h2⟩ := ih (i + 1) n (by omega)
      have e1 : i + 1 + k = i + (k + 1) := by omega
      rw [e1] at h2
      refine ⟨c i + 2 ^ w i * lo, hi, ?_, fun v => ?_⟩
      · show _ < 2 ^ (w i + zp_s w (i + 1) k)
        rw [Nat.pow_add]
        have h3 := h i
        have h4 : 2 ^ w i * (lo + 1) ≤ 2 ^ w i * 2 ^ zp_s w (i + 1) k := Nat.mul_le_mul_left _ h1
        rw [Nat.mul_add, Nat.mul_one] at h4
        omega
      · show zc_up c (i + (k + 1)) v i + 2 ^ w i * zp_k w (zc_up c (i + (k + 1)) v) (i + 1) n = _
        rw [h2 v, zc_up_n (by omega)]
        show _ = c i + 2 ^ w i * lo + 2 ^ (w i + zp_s w (i + 1) k) * (v + 2 ^ w (i + (k + 1)) * hi)
        rw [Nat.pow_add, Nat.mul_add, Nat.mul_assoc, Nat.add_assoc]
theorem zp_self {c : Nat → Nat} {k : Nat} : zc_up c k (c k) = c := by
  funext j
  unfold zc_up
  split
  · rename_i h; rw [h]
  · rfl
/-- the component's number of a state, and the reference's -/
def zp_X (c : Nat → Nat) : Nat := zp_k (fun _ => 3) c 0 16
def zp_w (j : Nat) : Nat := if j < 10 then 3 else if j < 15 then 2 else 1
def zp_Y (c : Nat → Nat) : Nat := zp_k zp_w c 0 16
section
variable {o L c : Nat → Nat}
/-- the code's lengths are at most 5 -/
theorem zp_bX (hL : ∀ t, t < 3 → L t ≤ 5) (hV : zc_V o L c) (j : Nat) : c j < 8 := by
  obtain ⟨h1, h2, h3, h4, h5, h6⟩ := hV
  by_cases a1 : j < 7
  · exact h1 j a1
  by_cases a2 : j < 10
  · have e : j = 7 + (j - 7) := by omega
    have := h2 (j - 7) (by omega)
    have := hL (j - 7) (by omega)
    rw [e]; omega
  by_cases a3 : j < 12
  · have e : j = 10 + (j - 10) := by omega
    have := h3 (j - 10) (by omega)
    rw [e]; omega
  by_cases a4 : j < 15
  · have e : j = 12 + (j - 12) := by omega
    have := h4 (j - 12) (by omega)
    rw [e]; omega
  by_cases a5 : j = 15
  · rw [a5]; omega
  · have := h6 j (by omega)
    omega
theorem zp_bY (hL : ∀ t, t < 3 → L t ≤ 5) (hV : zc_V o L c) (j : Nat) : c j < 2 ^ zp_w j := by
  have h0 := zp_bX hL hV j
  obtain ⟨h1, h2, h3, h4, h5, h6⟩ := hV
  unfold zp_w
  by_cases a2 : j < 10
  · rw [if_pos a2]; exact h0
  rw [if_neg a2]
  by_cases a3 : j < 12
  · have e : j = 10 + (j - 10) := by omega
    have := h3 (j - 10) (by omega)
    rw [if_pos (by omega), e]; omega
  by_cases a4 : j < 15
  · have e : j = 12 + (j - 12) := by omega
    have := h4 (j - 12) (by omega)
    rw [if_pos a4, e]; omega
  rw [if_neg a4]
  by_cases a5 : j = 15
  · rw [a5]; omega
  · have := h6 j (by omega)
    omega
theorem zp_X_lt (hL : ∀ t, t < 3 → L t ≤ 5) (hV : zc_V o L c) : zp_X c < 2 ^ 48 := zp_lt 16 0 (zp_bX hL hV)
theorem zp_Y_lt (hL : ∀ t, t < 3 → L t ≤ 5) (hV : zc_V o L c) : zp_Y c < 2 ^ 41 := zp_lt 16 0 (zp_bY hL hV)
theorem zp_X_inj {d : Nat → Nat} (hL : ∀ t, t < 3 → L t ≤ 5) (hc : zc_V o L c) (hd : zc_V o L d) (h : zp_X c = zp_X d) : c = d := by
  funext j
  by_cases hj : j < 16
  · have e1 := zp_get (w := fun _ => 3) (zp_bX hL hc) j 0 16 hj
    have e2 := zp_get (w := fun _ => 3) (zp_bX hL hd) j 0 16 hj
    unfold zp_X at h
    rw [h, e2] at e1
    rw [Nat.zero_add] at e1
    exact e1.symm
  · rw [hc.2.2.2.2.2 j (by omega), hd.2.2.2.2.2 j (by omega)]
theorem zp_Y_inj {d : Nat → Nat} (hL : ∀ t, t < 3 → L t ≤ 5) (hc : zc_V o L c) (hd : zc_V o L d) (h : zp_Y c = zp_Y d) : c = d := by
  funext j
  by_cases hj : j < 16
  · have e1 := zp_get (w := zp_w) (zp_bY hL hc) j 0 16 hj
    have e2 := zp_get (w := zp_w) (zp_bY hL hd) j 0 16 hj
    unfold zp_Y at h
    rw [h, e2] at e1
    rw [Nat.zero_add] at e1
    exact e1.symm
  · rw [hc.2.2.2.2.2 j (by omega), hd.2.2.2.2.2 j (by omega)]
end
theorem zp_s3 : ∀ k, zp_s (fun _ => 3) 0 k = 3 * k := by
  have : ∀ k i, zp_s (fun _ => 3) i k = 3 * k := by
    intro k
    induction k with
    | zero => intro i; rfl
    | succ k ih => intro i; show 3 + zp_s (fun _ => 3) (i + 1) k = _; rw [ih]; omega
  exact fun k => this k 0
theorem zp_sY : ∀ k, k < 16 → zp_s zp_w 0 k = (if k ≤ 10 then 3 * k else 10 + 2 * k) := by decide
end
section
/-! a table with open slots: the state is found, or the first free slot on its way -/
def zh_c (q : Nat → Nat) : Nat → Nat
  | 0 => 0
  | m + 1 => zh_c q m + (if q m = 0 then 0 else 1)
def zh_I (h : Int64 → Nat) (q : Nat → Nat) (s : Nat → Int64) (n : Nat) : Prop :=
  (∀ j, j < 4096 → q j ≤ n) ∧
  (∀ i, i < n → ∃ d, d < 4096 ∧ q ((h (s i) + d) % 4096) = i + 1 ∧ ∀ d', d' < d → q ((h (s i) + d') % 4096) ≠ 0) ∧
  zh_c q 4096 = n
theorem zh_c_all {q : Nat → Nat} : ∀ m, (∀ j, j < m → q j ≠ 0) → zh_c q m = m := by
  intro m
  induction m with
  | zero => intro _; rfl
  | succ m ih =>
    intro h
    show zh_c q m + (if q m = 0 then 0 else 1) = m + 1
    rw [ih fun j hj => h j (by omega), if_neg (h m (by omega))]
theorem zh_c_0 {q : Nat → Nat} : ∀ m, (∀ j, j < m → q j = 0) → zh_c q m = 0 := by
  intro m
  induction m with
  | zero => intro _; rfl
  | succ m ih =>
    intro h
    show zh_c q m + (if q m = 0 then 0 else 1) = 0
    rw [ih fun j hj => h j (by omega), if_pos (h m (by omega))]
theorem zh_c_up {q : Nat → Nat} {j v : Nat} (h0 : q j = 0) (hv : v ≠ 0) : ∀ m, zh_c (zc_up q j v) m = zh_c q m + (if j < m then 1 else 0) := by
  intro m
  induction m with
  | zero => rfl
  | succ m ih =>
    show zh_c (zc_up q j v) m + (if zc_up q j v m = 0 then 0 else 1) = zh_c q m + (if q m = 0 then 0 else 1) + (if j < m + 1 then 1 else 0)
    rw [ih]
    by_cases e : m = j
    · subst e
      rw [zc_up_s, if_neg hv, h0]
      simp
    · rw [zc_up_n e]
      by_cases e2 : j < m
      · rw [if_pos e2, if_pos (by omega : j < m + 1)]; omega
      · rw [if_neg e2, if_neg (by omega : ¬ j < m + 1)]; omega
theorem zh_free {h : Int64 → Nat} {q : Nat → Nat} {s : Nat → Int64} {n : Nat} (I : zh_I h q s n) (hn : n < 4096) (b : Nat) : ∃ d, d < 4096 ∧ q ((b + d) % 4096) = 0 := by
  have : ∃ z, z < 4096 ∧ q z = 0 := by
    refine Classical.byContradiction fun hh => ?_
    have := zh_c_all (q := q) 4096 fun j hj e => hh ⟨j, hj, e⟩
    rw [I.2.2] at this
    omega
  obtain ⟨z, hz, e⟩ := this
  refine ⟨(z + 4096 - b % 4096) % 4096, by omega, ?_⟩
  have : (b + (z + 4096 - b % 4096) % 4096) % 4096 = z := by omega
  rw [this]; exact e
theorem zh_least (P : Nat → Prop) (h : ∃ k, P k) : ∃ k, P k ∧ ∀ j, j < k → ¬ P j := by
  obtain ⟨k, hk⟩ := h
  induction k using Nat.strongRecOn with
  | ind k ih =>
    by_cases e : ∃ j, j < k ∧ P j
    · obtain ⟨j, hj, hp⟩ := e
      exact ih j hj hp
    · exact ⟨k, hk, fun j hj hp => e ⟨j, hj, hp⟩⟩
/-- where a search for x ends -/
theorem zh_find {h : Int64 → Nat} {q : Nat → Nat} {s : Nat → Int64} {n : Nat} (I : zh_I h q s n) (hn : n < 4096) (x : Int64) :
    ∃ d, d < 4096 ∧ (q ((h x + d) % 4096) = 0 ∨ s (q ((h x + d) % 4096) - 1) = x) ∧
      (∀ d', d' < d → q ((h x + d') % 4096) ≠ 0 ∧ s (q ((h x + d') % 4096) - 1) ≠ x) ∧
      ((q ((h x + d) % 4096) = 0 ∧ ∀ i, i < n → s i ≠ x) ∨
       (q ((h x + d) % 4096) ≠ 0 ∧ q ((h x + d) % 4096) ≤ n ∧ s (q ((h x + d) % 4096) - 1) = x)) := by
  obtain ⟨f, hf, hf0⟩ := zh_free I hn (h x)
  obtain ⟨d, h1, h2⟩ := zh_least (fun d => q ((h x + d) % 4096) = 0 ∨ s (q ((h x + d) % 4096) - 1) = x) ⟨f, Or.inl hf0⟩
  have hd : d < 4096 := by
    refine Classical.byContradiction fun hh => ?_
    exact h2 f (by omega) (Or.inl hf0)
  have h3 : ∀ d', d' < d → q ((h x + d') % 4096) ≠ 0 ∧ s (q ((h x + d') % 4096) - 1) ≠ x := fun d' hd' =>
    ⟨fun e => h2 d' hd' (Or.inl e), fun e => h2 d' hd' (Or.inr e)⟩
  refine ⟨d, hd, h1, h3, ?_⟩
  by_cases e : q ((h x + d) % 4096) = 0
  · left
    refine ⟨e, fun i hi hx => ?_⟩
    obtain ⟨d1, k1, k2, k3⟩ := I.2.1 i hi
    rw [hx] at k2 k3
    rcases Nat.lt_trichotomy d d1 with hl | hl | hl
    · exact k3 d hl e
    · rw [hl, k2] at e; omega
    · refine (h3 d1 hl).2 ?_
      rw [k2]
      exact hx
  · right
    exact ⟨e, I.1 _ (by omega), h1.resolve_left e⟩
theorem zh_put {h : Int64 → Nat} {q : Nat → Nat} {s : Nat → Int64} {n : Nat} (I : zh_I h q s n) (x : Int64) {d : Nat} (hd : d < 4096)
    (h0 : q ((h x + d) % 4096) = 0) (h1 : ∀ d', d' < d → q ((h x + d') % 4096) ≠ 0) {s' : Nat → Int64} (hs : ∀ i, i < n → s' i = s i) (hs' : s' n = x) :
    zh_I h (zc_up q ((h x + d) % 4096) (n + 1)) s' (n + 1) := by
  obtain ⟨i1, i2, i3⟩ := I
  refine ⟨fun j hj => ?_, fun i hi => ?_, ?_⟩
  · by_cases e : j = (h x + d) % 4096
    · rw [e, zc_up_s]; exact Nat.le_refl _
    · rw [zc_up_n e]; have := i1 j hj; omega
  · by_cases e : i = n
    · subst e
      rw [hs']
      refine ⟨d, hd, zc_up_s, fun d' hd' => ?_⟩
      by_cases e2 : (h x + d') % 4096 = (h x + d) % 4096
      · rw [e2, zc_up_s]; omega
      · rw [zc_up_n e2]; exact h1 d' hd'
    · rw [hs i (by omega)]
      obtain ⟨d1, k1, k2, k3⟩ := i2 i (by omega)
      refine ⟨d1, k1, ?_, fun d' hd' => ?_⟩
      · rw [zc_up_n (fun e2 => by rw [e2, h0] at k2; omega)]; exact k2
      · by_cases e2 : (h (s i) + d') % 4096 = (h x + d) % 4096
        · rw [e2, zc_up_s]; omega
        · rw [zc_up_n e2]; exact k3 d' hd'
  · rw [zh_c_up h0 (by omega), i3, if_pos (by omega)]
theorem zh_0 {h : Int64 → Nat} {q : Nat → Nat} {s : Nat → Int64} (hq : ∀ j, j < 4096 → q j = 0) : zh_I h q s 0 :=
  ⟨fun j hj => by rw [hq j hj]; exact Nat.le_refl _, fun i hi => by omega, zh_c_0 _ hq⟩
/-! the list of the states that can come, edge by edge -/
def zb_at (l : List (Nat → Nat)) (i : Nat) : Nat → Nat := l.getD i (fun _ => 0)
section
variable (o g L c0 : Nat → Nat)
noncomputable def zb_L : Nat → List (Nat → Nat)
  | 0 => [c0]
  | e + 1 => @ite _ (e / 3 < (zb_L e).length ∧ (zb_L e).length ≤ 1200 ∧ zc_R o g L (zb_at (zb_L e) (e / 3)) (e % 3) ∧
      zc_step o g L (zb_at (zb_L e) (e / 3)) (e % 3) ∉ zb_L e) (Classical.propDecidable _)
      (zb_L e ++ [zc_step o g L (zb_at (zb_L e) (e / 3)) (e % 3)]) (zb_L e)
end
section
variable {o g L c0 : Nat → Nat}
theorem zb_at_app {l m : List (Nat → Nat)} {i : Nat} (h : i < l.length) : zb_at (l ++ m) i = zb_at l i := by
  unfold zb_at
  rw [List.getD_eq_getElem?_getD, List.getD_eq_getElem?_getD, List.getElem?_append_left h]
theorem zb_at_new {l : List (Nat → Nat)} {x : Nat → Nat} : zb_at (l ++ [x]) l.length = x := by
  unfold zb_at
  rw [List.getD_eq_getElem?_getD, List.getElem?_append_right (Nat.le_refl _)]
  simp
theorem zb_at_mem {l : List (Nat → Nat)} {i : Nat} (h : i < l.length) : zb_at l i ∈ l := by
  unfold zb_at
  rw [List.getD_eq_getElem?_getD, List.getElem?_eq_getElem h]
  exact List.getElem_mem h
theorem zb_mem_at {l : List (Nat → Nat)} {x : Nat → Nat} (h : x ∈ l) : ∃ i, i < l.length ∧ zb_at l i = x := by
  obtain ⟨i, hi, e⟩ := List.mem_iff_getElem.mp h
  refine ⟨i, hi, ?_⟩
  unfold zb_at
  rw [List.getD_eq_getElem?_getD, List.getElem?_eq_getElem hi]
  exact e
theorem zb_pos {e : Nat} (h1 : e / 3 < (zb_L o g L c0 e).length) (h2 : (zb_L o g L c0 e).length ≤ 1200)
    (h3 : zc_R o g L (zb_at (zb_L o g L c0 e) (e / 3)) (e % 3)) (h4 : zc_step o g L (zb_at (zb_L o g L c0 e) (e / 3)) (e % 3) ∉ zb_L o g L c0 e) :
    zb_L o g L c0 (e + 1) = zb_L o g L c0 e ++ [zc_step o g L (zb_at (zb_L o g L c0 e) (e / 3)) (e % 3)] := by
  exact if_pos ⟨h1, h2, h3, h4⟩
theorem zb_neg {e : Nat} (h : ¬ (e / 3 < (zb_L o g L c0 e).length ∧ (zb_L o g L c0 e).length ≤ 1200 ∧ zc_R o g L (zb_at (zb_L o g L c0 e) (e / 3)) (e % 3) ∧
      zc_step o g L (zb_at (zb_L o g L c0 e) (e / 3)) (e % 3) ∉ zb_L o g L c0 e)) : zb_L o g L c0 (e + 1) = zb_L o g L c0 e := by
  exact if_neg h
theorem zb_cases (e : Nat) : zb_L o g L c0 (e + 1) = zb_L o g L c0 e ∨
    (e / 3 < (zb_L o g L c0 e).length ∧ (zb_L o g L c0 e).length ≤ 1200 ∧ zc_R o g L (zb_at (zb_L o g L c0 e) (e / 3)) (e % 3) ∧
      zc_step o g L (zb_at (zb_L o g L c0 e) (e / 3)) (e % 3) ∉ zb_L o g L c0 e ∧
      zb_L o g L c0 (e + 1) = zb_L o g L c0 e ++ [zc_step o g L (zb_at (zb_L o g L c0 e) (e / 3)) (e % 3)]) := by
  by_cases h : e / 3 < (zb_L o g L c0 e).length ∧ (zb_L o g L c0 e).length ≤ 1200 ∧ zc_R o g L (zb_at (zb_L o g L c0 e) (e / 3)) (e % 3) ∧
      zc_step o g L (zb_at (zb_L o g L c0 e) (e / 3)) (e % 3) ∉ zb_L o g L c0 e
  · exact Or.inr ⟨h.1, h.2.1, h.2.2.1, h.2.2.2, zb_pos h.1 h.2.1 h.2.2.1 h.2.2.2⟩
  · exact Or.inl (zb_neg h)
theorem zb_len (e : Nat) : 1 ≤ (zb_L o g L c0 e).length ∧ (zb_L o g L c0 e).length ≤ 1201 := by
  induction e with
  | zero => exact ⟨Nat.le_refl _, by show 1 ≤ 1201; omega⟩
  | succ e ih =>
    rcases zb_cases (o := o) (g := g) (L := L) (c0 := c0) e with h | ⟨h1, h2, h3, h4, h5⟩
    · rw [h]; exact ih
    · rw [h5]; simp; omega
theorem zb_V (hK : zc_K o g L) (hV : zc_V o L c0) (e : Nat) : ∀ x, x ∈ zb_L o g L c0 e → zc_V o L x := by
  induction e with
  | zero => intro x hx; rw [List.mem_singleton.mp hx]; exact hV
  | succ e ih =>
    rcases zb_cases (o := o) (g := g) (L := L) (c0 := c0) e with h | ⟨h1, h2, h3, h4, h5⟩
    · rw [h]; exact ih
    · rw [h5]
      intro x hx
      rcases List.mem_append.mp hx with hx | hx
      · exact ih x hx
      · rw [List.mem_singleton.mp hx]
        exact zc_V_step hK (ih _ (zb_at_mem h1)) (by omega) h3
theorem zb_nodup (e : Nat) : (zb_L o g L c0 e).Nodup := by
  induction e with
  | zero => exact List.nodup_cons.mpr ⟨by simp, List.nodup_nil⟩
  | succ e ih =>
    rcases zb_cases (o := o) (g := g) (L := L) (c0 := c0) e with h | ⟨h1, h2, h3, h4, h5⟩
    · rw [h]; exact ih
    · rw [h5, List.nodup_append]
      refine ⟨ih, List.nodup_cons.mpr ⟨by simp, List.nodup_nil⟩, ?_⟩
      intro a ha b hb e
      rw [List.mem_singleton.mp hb] at e
      exact h4 (e ▸ ha)
theorem zb_inj {l : List (Nat → Nat)} (hd : l.Nodup) {i j : Nat} (hi : i < l.length) (hj : j < l.length) (h : zb_at l i = zb_at l j) : i = j := by
  unfold zb_at at h
  rw [List.getD_eq_getElem?_getD, List.getD_eq_getElem?_getD, List.getElem?_eq_getElem hi, List.getElem?_eq_getElem hj] at h
  exact (List.getElem_inj hd).mp h
/-- where nothing more comes -/
theorem zb_stop {e : Nat} (h : (zb_L o g L c0 e).length ≤ e / 3 ∨ 1200 < (zb_L o g L c0 e).length) : ∀ k, zb_L o g L c0 (e + k) = zb_L o g L c0 e := by
  intro k
  induction k with
  | zero => rfl
  | succ k ih =>
    show zb_L o g L c0 (e + k + 1) = _
    rw [zb_neg, ih]
    rintro ⟨h1, h2, _⟩
    rw [ih] at h1 h2
    omega
noncomputable def zb_F (o g L c0 : Nat → Nat) : List (Nat → Nat) := zb_L o g L c0 3600
theorem zb_F_at {e : Nat} (he : e ≤ 3600) (h : (zb_L o g L c0 e).length ≤ e / 3 ∨ 1200 < (zb_L o g L c0 e).length) : zb_F o g L c0 = zb_L o g L c0 e := by
  have := zb_stop h (3600 - e)
  unfold zb_F
  have e1 : e + (3600 - e) = 3600 := by omega
  rwa [e1] at this
end
end
section
/-! what the searches keep beside the list; sorted endings against marks -/
section
variable (o g L : Nat → Nat)
def zb_D (l : List (Nat → Nat)) (e : Nat) (key d : Nat → Nat) : Prop :=
  d 0 = 0 ∧
  (∀ i, 0 < i → i < l.length → key i / 3 < i ∧ key i < e ∧ d i = d (key i / 3) + 1 ∧ zc_R o g L (zb_at l (key i / 3)) (key i % 3) ∧
    zc_step o g L (zb_at l (key i / 3)) (key i % 3) = zb_at l i) ∧
  (∀ i j, 0 < i → i < j → j < l.length → key i < key j) ∧
  (l.length ≤ 1200 → ∀ i t, t < 3 → i < l.length → 3 * i + t < e → zc_R o g L (zb_at l i) t →
    ∃ m, m < l.length ∧ zb_at l m = zc_step o g L (zb_at l i) t ∧ (m = 0 ∨ key m ≤ 3 * i + t))
def zb_E (l : List (Nat → Nat)) (i t m : Nat) : Prop :=
  i < l.length ∧ t < 3 ∧ m < l.length ∧ zc_R o g L (zb_at l i) t ∧ zc_step o g L (zb_at l i) t = zb_at l m
def zb_N (l : List (Nat → Nat)) (e : Nat) (nx : Nat → Int32) : Prop :=
  l.length ≤ 1200 → ∀ i t, t < 3 → i < l.length → 3 * i + t < e →
    (¬ zc_R o g L (zb_at l i) t → nx (3 * i + t) = -1) ∧
    (zc_R o g L (zb_at l i) t → ∃ m, m < l.length ∧ nx (3 * i + t) = nI m ∧ zb_at l m = zc_step o g L (zb_at l i) t)
end
section
variable {o g L c0 : Nat → Nat} {key d : Nat → Nat} {e : Nat}
theorem zb_D_0 : zb_D o g L (zb_L o g L c0 0) 0 (fun _ => 0) (fun _ => 0) := by
  refine ⟨rfl, fun i h0 h1 => ?_, fun i j h0 h1 h2 => ?_, fun _ i t _ _ h => by omega⟩
  · have : i < 1 := h1
    omega
  · have : j < 1 := h2
    omega
theorem zb_D_same (D : zb_D o g L (zb_L o g L c0 e) e key d) (h1 : e / 3 < (zb_L o g L c0 e).length)
    (h : ¬ (zc_R o g L (zb_at (zb_L o g L c0 e) (e / 3)) (e % 3) ∧ (zb_L o g L c0 e).length ≤ 1200 ∧
      zc_step o g L (zb_at (zb_L o g L c0 e) (e / 3)) (e % 3) ∉ zb_L o g L c0 e)) :
    zb_L o g L c0 (e + 1) = zb_L o g L c0 e ∧ zb_D o g L (zb_L o g L c0 (e + 1)) (e + 1) key d := by
  have hl : zb_L o g L c0 (e + 1) = zb_L o g L c0 e := zb_neg fun ⟨_, a2, a3, a4⟩ => h ⟨a3, a2, a4⟩
  refine ⟨hl, ?_⟩
  rw [hl]
  obtain ⟨d0, d1, d2, d3⟩ := D
  refine ⟨d0, fun i hi hi2 => ?_, d2, fun hM i t ht hi he hR => ?_⟩
  · obtain ⟨a1, a2, a3⟩ := d1 i hi hi2
    exact ⟨a1, by omega, a3⟩
  · by_cases e1 : 3 * i + t < e
    · exact d3 hM i t ht hi e1 hR
    · have ei : e / 3 = i := by omega
      have et : e % 3 = t := by omega
      rw [ei, et] at h
      have hm : zc_step o g L (zb_at (zb_L o g L c0 e) i) t ∈ zb_L o g L c0 e :=
        Classical.byContradiction fun hn => h ⟨hR, hM, hn⟩
      obtain ⟨m, hm1, hm2⟩ := zb_mem_at hm
      refine ⟨m, hm1, hm2, ?_⟩
      rcases Nat.eq_zero_or_pos m with e2 | e2
      · exact Or.inl e2
      · have := (d1 m e2 hm1).2.1
        exact Or.inr (by omega)
theorem zb_D_new (D : zb_D o g L (zb_L o g L c0 e) e key d) (h1 : e / 3 < (zb_L o g L c0 e).length)
    (h2 : zc_R o g L (zb_at (zb_L o g L c0 e) (e / 3)) (e % 3)) (h3 : (zb_L o g L c0 e).length ≤ 1200)
    (h4 : zc_step o g L (zb_at (zb_L o g L c0 e) (e / 3)) (e % 3) ∉ zb_L o g L c0 e) :
    zb_L o g L c0 (e + 1) = zb_L o g L c0 e ++ [zc_step o g L (zb_at (zb_L o g L c0 e) (e / 3)) (e % 3)] ∧
    zb_D o g L (zb_L o g L c0 (e + 1)) (e + 1) (zc_up key (zb_L o g L c0 e).length e) (zc_up d (zb_L o g L c0 e).length (d (e / 3) + 1)) := by
  have hl := zb_pos h1 h3 h2 h4
  refine ⟨hl, ?_⟩
  rw [hl]
  generalize zb_L o g L c0 e = l at *
  obtain ⟨d0, d1, d2, d3⟩ := D
  have hlen : (l ++ [zc_step o g L (zb_at l (e / 3)) (e % 3)]).length = l.length + 1 := by simp
  have hpos : 0 < l.length := by omega
  refine ⟨?_, fun i hi hi2 => ?_, fun i j h0 h5 h6 => ?_, fun hM i t ht hi he hR => ?_⟩
  · rw [zc_up_n (by omega)]; exact d0
  · rw [hlen] at hi2
    by_cases ei : i = l.length
    · subst ei
      rw [zc_up_s, zc_up_s, zc_up_n (by omega), zb_at_app h1, zb_at_new]
      exact ⟨h1, by omega, rfl, h2, rfl⟩
    · obtain ⟨a1, a2, a3, a4, a5⟩ := d1 i hi (by omega)
      rw [zc_up_n ei, zc_up_n ei, zc_up_n (by omega), zb_at_app (by omega), zb_at_app (by omega)]
      exact ⟨a1, by omega, a3, a4, a5⟩
  · rw [hlen] at h6
    rw [zc_up_n (by omega)]
    by_cases ej : j = l.length
    · subst ej
      rw [zc_up_s]
      exact (d1 i h0 h5).2.1
    · rw [zc_up_n ej]
      exact d2 i j h0 h5 (by omega)
  · rw [hlen] at hi hM
    by_cases ei : i < l.length
    · rw [zb_at_app ei] at hR ⊢
      by_cases e1 : 3 * i + t < e
      · obtain ⟨m, m1, m2, m3⟩ := d3 h3 i t ht ei e1 hR
        refine ⟨m, by omega, by rw [zb_at_app m1]; exact m2, ?_⟩
        rw [zc_up_n (by omega)]
        exact m3
      · have ei2 : e / 3 = i := by omega
        have et : e % 3 = t := by omega
        rw [ei2, et]
        refine ⟨l.length, by simp, zb_at_new, Or.inr ?_⟩
        rw [zc_up_s]; omega
    · omega
/-- when every edge is through, the list is what the search in breadth gives -/
theorem zb_B {l : List (Nat → Nat)} (D : zb_D o g L l e key d) (hd : l.Nodup) (hM : l.length ≤ 1200) (he : 3 * l.length ≤ e) : zg_B l.length (zb_E o g L l) key d := by
  obtain ⟨d0, d1, d2, d3⟩ := D
  refine ⟨fun i t m h => ⟨h.1, h.2.1, h.2.2.1⟩, fun i t m m' h h' => zb_inj hd h.2.2.1 h'.2.2.1 (h.2.2.2.2.symm.trans h'.2.2.2.2), d0, fun i hi hi2 => ?_, d2, fun i t m h => ?_⟩
  · obtain ⟨a1, a2, a3, a4, a5⟩ := d1 i hi hi2
    exact ⟨a1, a3, by omega, by omega, hi2, a4, a5⟩
  · obtain ⟨m', m1, m2, m3⟩ := d3 hM i t h.2.1 h.1 (by have := h.1; have := h.2.1; omega) h.2.2.2.1
    have : m' = m := zb_inj hd m1 h.2.2.1 (m2.trans h.2.2.2.2)
    rw [← this]; exact m3
/-- a way in the list is a row of steps: it is short -/
theorem zb_R30 (hK : zc_K o g L) {l : List (Nat → Nat)} (hV : ∀ x, x ∈ l → zc_V o L x) {S : Nat → Prop} : ∀ n k, k < l.length → zg_R (zb_E o g L l) S n k →
    zc_psi (zb_at l k) 0 + zc_psi (zb_at l k) 1 + zc_psi (zb_at l k) 2 + n ≤ 30 := by
  intro n
  induction n with
  | zero =>
    intro k hk _
    have hv := hV _ (zb_at_mem hk)
    have k0 := zc_psi_le hK hv (t := 0) (by omega)
    have k1 := zc_psi_le hK hv (t := 1) (by omega)
    have k2 := zc_psi_le hK hv (t := 2) (by omega)
    omega
  | succ n ih =>
    intro k hk h
    obtain ⟨t, m, h1, h2⟩ := h
    have h3 := ih m h1.2.2.1 h2
    have h4 := zc_psi_all hK (hV _ (zb_at_mem hk)) h1.2.1 h1.2.2.2.1
    rw [h1.2.2.2.2] at h4
    omega
end
/-! endings -/
def ze_S (f : Nat → Nat) (n : Nat) (mk : Nat → Nat) : Prop :=
  (∀ i j, i < j → j < n → f i < f j) ∧ (∀ i, i < n → f i < 16384 ∧ mk (f i) ≠ 0) ∧ (∀ e, e < 16384 → mk e ≠ 0 → ∃ i, i < n ∧ f i = e)
section
variable {f mk : Nat → Nat} {n : Nat}
theorem ze_cnt (h : ze_S f n mk) : ∀ m, m ≤ 16384 → ∃ r, r ≤ n ∧ zh_c mk m = r ∧ (∀ i, i < r → f i < m) ∧ (∀ i, r ≤ i → i < n → m ≤ f i) := by
  obtain ⟨h1, h2, h3⟩ := h
  intro m
  induction m with
  | zero => intro _; exact ⟨0, Nat.zero_le _, rfl, fun i hi => by omega, fun i _ _ => Nat.zero_le _⟩
  | succ m ih =>
    intro hm
    obtain ⟨r, r1, r2, r3, r4⟩ := ih (by omega)
    by_cases e : mk m = 0
    · refine ⟨r, r1, ?_, fun i hi => by have := r3 i hi; omega, fun i hi hn => ?_⟩
      · show zh_c mk m + (if mk m = 0 then 0 else 1) = r
        rw [if_pos e, r2]; omega
      · have a := r4 i hi hn
        have b := (h2 i hn).2
        rcases Nat.lt_or_ge m (f i) with c | c
        · exact c
        · have : f i = m := by omega
          rw [this] at b; exact absurd e b
    · obtain ⟨i, hi, hf⟩ := h3 m (by omega) e
      have hir : i = r := by
        rcases Nat.lt_trichotomy i r with c | c | c
        · have := r3 i c; omega
        · exact c
        · have := h1 r i c hi
          have := r4 r (Nat.le_refl _) (by omega)
          omega
      subst hir
      refine ⟨i + 1, by omega, ?_, fun j hj => ?_, fun j hj hn => ?_⟩
      · show zh_c mk m + (if mk m = 0 then 0 else 1) = i + 1
        rw [if_neg e, r2]
      · by_cases c : j = i
        · rw [c]; omega
        · have := r3 j (by omega); omega
      · have := h1 i j (by omega) hn
        omega
theorem ze_all (h : ze_S f n mk) : zh_c mk 16384 = n := by
  obtain ⟨r, r1, r2, r3, r4⟩ := ze_cnt h 16384 (Nat.le_refl _)
  rcases Nat.lt_or_ge r n with c | c
  · have := r4 r (Nat.le_refl _) c
    have := (h.2.1 r c).1
    omega
  · omega
theorem ze_nth (h : ze_S f n mk) {i : Nat} (hi : i < n) : zh_c mk (f i) = i := by
  obtain ⟨r, r1, r2, r3, r4⟩ := ze_cnt h (f i) (by have := (h.2.1 i hi).1; omega)
  rw [r2]
  rcases Nat.lt_trichotomy r i with c | c | c
  · have := h.1 r i c hi
    have := r4 r (Nat.le_refl _) (by omega)
    omega
  · exact c
  · have := r3 i c
    omega
theorem ze_0 (h : ∀ e, e < 16384 → mk e = 0) : ze_S f 0 mk :=
  ⟨fun i j _ h => by omega, fun i h => by omega, fun e he h2 => absurd (h e he) h2⟩
theorem ze_old (h : ze_S f n mk) {v : Nat} (hv : v < 16384) {i : Nat} (hi : i < n) (he : f i = v) : ze_S f n (zc_up mk v 1) := by
  refine ⟨h.1, fun j hj => ⟨(h.2.1 j hj).1, ?_⟩, fun e he2 hm => ?_⟩
  · by_cases c : f j = v
    · rw [c, zc_up_s]; omega
    · rw [zc_up_n c]; exact (h.2.1 j hj).2
  · by_cases c : e = v
    · exact ⟨i, hi, he.trans c.symm⟩
    · rw [zc_up_n c] at hm
      exact h.2.2 e he2 hm
theorem ze_new (h : ze_S f n mk) {v p : Nat} (hv : v < 16384) (hp : p ≤ n) (h1 : ∀ i, i < p → f i < v) (h2 : ∀ i, p ≤ i → i < n → v < f i)
    {f' : Nat → Nat} (e1 : ∀ i, i < p → f' i = f i) (e2 : f' p = v) (e3 : ∀ i, p ≤ i → i < n → f' (i + 1) = f i) : ze_S f' (n + 1) (zc_up mk v 1) := by
  have ev : ∀ i, i < n → f i ≠ v := by
    intro i hi
    rcases Nat.lt_or_ge i p with c | c
    · have := h1 i c; omega
    · have := h2 i c hi; omega
  have sh : ∀ i, p < i → i < n + 1 → f' i = f (i - 1) := by
    intro i a b
    have := e3 (i - 1) (by omega) (by omega)
    have c : i - 1 + 1 = i := by omega
    rwa [c] at this
  refine ⟨fun i j hij hj => ?_, fun i hi => ?_, fun e he hm => ?_⟩
  · rcases Nat.lt_trichotomy i p with a | a | a
    · rw [e1 i a]
      rcases Nat.lt_trichotomy j p with b | b | b
      · rw [e1 j b]; exact h.1 i j hij (by omega)
      · rw [b, e2]; exact h1 i a
      · rw [sh j b hj]
        exact Nat.lt_trans (h1 i a) (h2 (j - 1) (by omega) (by omega))
    · rw [a, e2, sh j (by omega) hj]
      exact h2 (j - 1) (by omega) (by omega)
    · rw [sh i a (by omega), sh j (by omega) hj]
      exact h.1 _ _ (by omega) (by omega)
  · rcases Nat.lt_trichotomy i p with a | a | a
    · rw [e1 i a, zc_up_n (ev i (by omega))]; exact h.2.1 i (by omega)
    · rw [a, e2, zc_up_s]; exact ⟨hv, by omega⟩
    · rw [sh i a hi, zc_up_n (ev _ (by omega))]; exact h.2.1 _ (by omega)
  · by_cases c : e = v
    · exact ⟨p, by omega, e2.trans c.symm⟩
    · rw [zc_up_n c] at hm
      obtain ⟨i, hi, hf⟩ := h.2.2 e he hm
      rcases Nat.lt_or_ge i p with a | a
      · exact ⟨i, by omega, (e1 i a).trans hf⟩
      · exact ⟨i + 1, by omega, (e3 i a hi).trans hf⟩
end
end
section
/-! the walk over the normal rows, as pure counting: which rows are done, which runs are counted -/
def zk_done (w : List Nat) (tr : Nat) (x : List Nat) : Prop :=
  ∃ p t q, x = p ++ t :: q ∧ ((∃ u y, w = p ++ u :: y ∧ t < u) ∨ (p = w ∧ t < tr))
section
variable (o g L c : Nat → Nat)
def zk_I (w : List Nat) (tr : Nat) (C G : List (List Nat)) : Prop :=
  zt_ok o g L c w ∧ zt_nor o g [] (zt_lab o g L c w) ∧ G.Nodup ∧
  (∀ x, x ∈ G → zt_ok o g L c x ∧ zt_nor o g [] (zt_lab o g L c x) ∧ ∃ l, l ∈ C ∧ zt_by o g L c x l) ∧
  (∀ x, x ∈ G → zk_done w tr x) ∧
  (∀ l, zt_ok o g L c l → zt_end o g L (zt_run o g L c l) → zt_nor o g [] (zt_lab o g L c l) → (zk_done w tr l ∨ l = w) → l ∈ C)
/-- the steps before, the newest first -/
def zk_acc (w : List Nat) : List (Nat × Nat) := (zt_lab o g L c w).reverse
/-- the walk goes on with this thread -/
def zk_via (w : List Nat) (t : Nat) : Prop :=
  zc_R o g L (zt_run o g L c w) t ∧ ¬ zt_bel o g (zk_acc o g L c w) t (zc_pc (zt_run o g L c w) t)
end
theorem zk_not_self {w : List Nat} {tr : Nat} (h : zk_done w tr w) : False := by
  obtain ⟨p, t, q, e, h⟩ := h
  rcases h with ⟨u, y, e2, hl⟩ | ⟨e2, hl⟩
  · rw [e2] at e
    have := List.append_cancel_left e
    injection this with e3 e4
    omega
  · rw [e2] at e
    have := congrArg List.length e
    simp at this
theorem zk_done_mono {w x : List Nat} {tr tr' : Nat} (hl : tr ≤ tr') (h : zk_done w tr x) : zk_done w tr' x := by
  obtain ⟨p, t, q, e, h⟩ := h
  exact ⟨p, t, q, e, h.imp id fun h => ⟨h.1, by omega⟩⟩
theorem zk_done_in {w x : List Nat} {t : Nat} (h : zk_done w t x) : zk_done (w ++ [t]) 0 x := by
  obtain ⟨p, s, q, e, h⟩ := h
  refine ⟨p, s, q, e, Or.inl ?_⟩
  rcases h with ⟨u, y, e2, hl⟩ | ⟨e2, hl⟩
  · exact ⟨u, y ++ [t], by rw [e2]; simp, hl⟩
  · exact ⟨t, [], by rw [e2], hl⟩
theorem zk_snoc {w p y : List Nat} {t u : Nat} (h : w ++ [t] = p ++ u :: y) : (p = w ∧ u = t ∧ y = []) ∨ ∃ y', w = p ++ u :: y' := by
  rcases List.append_eq_append_iff.mp h with ⟨s, e1, e2⟩ | ⟨s, e1, e2⟩
  · cases s with
    | nil =>
      injection e2 with e3 e4
      exact Or.inl ⟨by simpa using e1, e3.symm, e4.symm⟩
    | cons s1 s =>
      injection e2 with e3 e4
      simp at e4
  · cases s with
    | nil =>
      injection e2 with e3 e4
      exact Or.inl ⟨by simpa using e1.symm, e3, e4⟩
    | cons s1 s =>
      injection e2 with e3 e4
      exact Or.inr ⟨s, by rw [e1, e3]⟩
theorem zk_done_out {w x : List Nat} {t : Nat} (h : zk_done (w ++ [t]) 0 x) : zk_done w t x := by
  obtain ⟨p, s, q, e, h⟩ := h
  rcases h with ⟨u, y, e2, hl⟩ | ⟨e2, hl⟩
  · rcases zk_snoc e2 with ⟨e3, e4, e5⟩ | ⟨y', e3⟩
    · exact ⟨p, s, q, e, Or.inr ⟨e3, by omega⟩⟩
    · exact ⟨p, s, q, e, Or.inl ⟨u, y', e3, hl⟩⟩
  · omega
section
variable {o g L c : Nat → Nat} {w : List Nat} {tr : Nat} {C G : List (List Nat)}
theorem zk_next {q : List Nat} {t : Nat} (hk : zt_ok o g L c (w ++ t :: q)) (hn : zt_nor o g [] (zt_lab o g L c (w ++ t :: q))) : t < 3 ∧ zk_via o g L c w t := by
  have h1 := ((zt_ok_app w (t :: q) c).mp hk).2
  refine ⟨h1.1, h1.2.1, ?_⟩
  rw [zt_lab_app] at hn
  have := zt_nor_at (zt_lab o g L c w) [] (e := (t, zc_pc (zt_run o g L c w) t)) hn
  rwa [List.append_nil] at this
theorem zk_skip (I : zk_I o g L c w tr C G) (hv : ¬ zk_via o g L c w tr) : zk_I o g L c w (tr + 1) C G := by
  obtain ⟨i1, i2, i3, i4, i5, i6⟩ := I
  refine ⟨i1, i2, i3, i4, fun x hx => zk_done_mono (Nat.le_succ _) (i5 x hx), fun l k1 k2 k3 h => i6 l k1 k2 k3 ?_⟩
  rcases h with ⟨p, t, q, e, h⟩ | h
  · rcases h with h | ⟨h1, h2⟩
    · exact Or.inl ⟨p, t, q, e, Or.inl h⟩
    · by_cases et : t = tr
      · exfalso
        rw [e, h1, et] at k1 k3
        exact hv (zk_next k1 k3).2
      · exact Or.inl ⟨p, t, q, e, Or.inr ⟨h1, by omega⟩⟩
  · exact Or.inr h
theorem zt_nor_snoc {e : Nat × Nat} : ∀ (E acc : List (Nat × Nat)), zt_nor o g acc E → ¬ zt_bel o g (E.reverse ++ acc) e.1 e.2 → zt_nor o g acc (E ++ [e]) := by
  intro E
  induction E with
  | nil => intro acc _ h; exact ⟨h, trivial⟩
  | cons z E ih =>
    intro acc hn h
    refine ⟨hn.1, ih (z :: acc) hn.2 ?_⟩
    have : (z :: E).reverse ++ acc = E.reverse ++ z :: acc := by simp
    rwa [this] at h
theorem zk_ok1 {t : Nat} (hk : zt_ok o g L c w) (ht : t < 3) (hv : zk_via o g L c w t) : zt_ok o g L c (w ++ [t]) :=
  (zt_ok_app _ _ _).mpr ⟨hk, ht, hv.1, trivial⟩
theorem zk_nor1 {t : Nat} (hn : zt_nor o g [] (zt_lab o g L c w)) (hv : zk_via o g L c w t) : zt_nor o g [] (zt_lab o g L c (w ++ [t])) := by
  rw [zt_lab_app]
  refine zt_nor_snoc _ _ hn ?_
  rw [List.append_nil]
  exact hv.2
theorem zk_in (I : zk_I o g L c w tr C G) (ht : tr < 3) (hv : zk_via o g L c w tr) {C' : List (List Nat)} (hC : ∀ l, l ∈ C → l ∈ C')
    (hw : zt_end o g L (zt_run o g L c (w ++ [tr])) → w ++ [tr] ∈ C') : zk_I o g L c (w ++ [tr]) 0 C' G := by
  obtain ⟨i1, i2, i3, i4, i5, i6⟩ := I
  refine ⟨zk_ok1 i1 ht hv, zk_nor1 i2 hv, i3, fun x hx => ?_, fun x hx => zk_done_in (i5 x hx), fun l k1 k2 k3 h => ?_⟩
  · obtain ⟨a1, a2, l, a3, a4⟩ := i4 x hx
    exact ⟨a1, a2, l, hC l a3, a4⟩
  · rcases h with h | h
    · exact hC l (i6 l k1 k2 k3 (Or.inl (zk_done_out h)))
    · rw [h] at k2 ⊢; exact hw k2
/-- all that begins so is done -/
theorem zk_ext {q l : List Nat} (hk : zt_ok o g L c l) (e : l = w ++ q) : zk_done w 3 l ∨ l = w := by
  cases q with
  | nil => exact Or.inr (by simpa using e)
  | cons t q =>
    have := zt_ok_lt l c hk t (by rw [e]; simp)
    exact Or.inl ⟨w, t, q, e, Or.inr ⟨rfl, this⟩⟩
theorem zk_counted (hK : zc_K o g L) (hV : zc_V o L c) (I : zk_I o g L c w 3 C G) : ∃ l, l ∈ C ∧ zt_by o g L c w l := by
  obtain ⟨i1, i2, i3, i4, i5, i6⟩ := I
  obtain ⟨l, v, k1, k2, k3, k4, k5⟩ := zt_left hK hV i1
  refine ⟨l, i6 l k1 k2 k3 ?_, k4⟩
  rcases k5 with e | ⟨p, t, u, x, y, e1, e2, hl⟩
  · exact zk_ext k1 e
  · rcases List.append_eq_append_iff.mp e2 with ⟨s, e3, e4⟩ | ⟨s, e3, e4⟩
    · rw [e3] at e1
      exact zk_ext k1 (q := s ++ t :: x) (by rw [e1]; simp)
    · cases s with
      | nil =>
        rw [List.append_nil] at e3
        rw [← e3] at e1
        exact zk_ext k1 e1
      | cons s1 s =>
        injection e4 with e5 e6
        rw [← e5] at e3
        exact Or.inl ⟨p, t, x, e1, Or.inl ⟨u, s, e3, hl⟩⟩
theorem zk_out {t : Nat} (hK : zc_K o g L) (hV : zc_V o L c) (I : zk_I o g L c (w ++ [t]) 3 C G) : zk_I o g L c w (t + 1) C ((w ++ [t]) :: G) := by
  have hc := zk_counted hK hV I
  obtain ⟨i1, i2, i3, i4, i5, i6⟩ := I
  have hkw := (zt_ok_app w [t] c).mp i1
  have hnw : zt_nor o g [] (zt_lab o g L c w) := by
    rw [zt_lab_app] at i2
    have aux : ∀ (E F acc : List (Nat × Nat)), zt_nor o g acc (E ++ F) → zt_nor o g acc E := by
      intro E F
      induction E with
      | nil => intro acc _; trivial
      | cons z E ih => intro acc h; exact ⟨h.1, ih _ h.2⟩
    exact aux _ _ _ i2
  refine ⟨hkw.1, hnw, List.nodup_cons.mpr ⟨fun hm => zk_not_self (i5 _ hm), i3⟩, fun x hx => ?_, fun x hx => ?_, fun l k1 k2 k3 h => ?_⟩
  · rcases List.mem_cons.mp hx with e | e
    · rw [e]; exact ⟨i1, i2, hc⟩
    · exact i4 x e
  · rcases List.mem_cons.mp hx with e | e
    · exact ⟨w, t, [], e, Or.inr ⟨rfl, by omega⟩⟩
    · obtain ⟨p, s, q, e1, h⟩ := i5 x e
      rcases h with ⟨u, y, e2, hl⟩ | ⟨e2, hl⟩
      · rcases zk_snoc e2 with ⟨e3, e4, e5⟩ | ⟨y', e3⟩
        · exact ⟨p, s, q, e1, Or.inr ⟨e3, by omega⟩⟩
        · exact ⟨p, s, q, e1, Or.inl ⟨u, y', e3, hl⟩⟩
      · refine ⟨w, t, s :: q, ?_, Or.inr ⟨rfl, by omega⟩⟩
        rw [e1, e2]; simp
  · rcases h with ⟨p, s, q, e1, h⟩ | h
    · refine i6 l k1 k2 k3 ?_
      rcases h with ⟨u, y, e2, hl⟩ | ⟨e2, hl⟩
      · exact Or.inl ⟨p, s, q, e1, Or.inl ⟨u, y ++ [t], by rw [e2]; simp, hl⟩⟩
      · by_cases es : s = t
        · refine zk_ext k1 (q := q) ?_
          rw [e1, e2, es]; simp
        · exact Or.inl ⟨p, s, q, e1, Or.inl ⟨t, [], by rw [e2], by omega⟩⟩
    · rw [h] at k2
      exact absurd hkw.2.2.1 (k2 t hkw.2.1)
theorem zk_0 {C : List (List Nat)} (h : zt_end o g L c → [] ∈ C) : zk_I o g L c [] 0 C [] := by
  refine ⟨trivial, trivial, List.nodup_nil, fun x hx => by simp at hx, fun x hx => by simp at hx, fun l k1 k2 k3 h2 => ?_⟩
  rcases h2 with ⟨p, t, q, e, h3⟩ | h2
  · rcases h3 with ⟨u, y, e2, hl⟩ | ⟨e2, hl⟩
    · have := congrArg List.length e2
      simp at this
    · omega
  · rw [h2] at k2 ⊢; exact h k2
theorem zk_bound (hK : zc_K o g L) (hV : zc_V o L c) (I : zk_I o g L c w tr C G) : G.length ≤ C.length * 1331 :=
  zt_bound hK hV G C I.2.2.1 I.2.2.2.1
end
end
section
/-! the step, instruction by instruction, as single stores -/
section
variable {o g L : Nat → Nat} {c : Nat → Nat} {t : Nat}
/-- what a NOTIFY has done to the first n threads -/
def zc_nf (g : Nat → Nat) (c : Nat → Nat) (a n : Nat) : Nat → Nat := fun j =>
  if 12 ≤ j ∧ j < 12 + n ∧ c j = 1 ∧ g (zc_pc c (j - 12)) = a then 2 else c j
theorem zc_mk {d : Nat → Nat} {p : Nat} (ht : t < 3) (hv : ∀ j, j < 4 → d j = zc_nv o g c t j) (ha : ∀ w, w < 3 → d (4 + w) = if w = t then zc_na o g c t else c (4 + w))
    (hp : ∀ w, w < 3 → w ≠ t → d (7 + w) = c (7 + w)) (hq : p = zc_np o g L c t)
    (hl : ∀ l, l < 2 → d (10 + l) = zc_nt o g c t l) (hw : ∀ w, w < 3 → d (12 + w) = zc_nw o g c t w) (hb : d 15 = zc_nb o g c t) (hz : ∀ j, 16 ≤ j → d j = c j) :
    zc_up d (7 + t) p = zc_step o g L c t := by
  refine zc_ext (fun j hj => ?_) (fun w hw' => ?_) (fun w hw' => ?_) (fun l hl' => ?_) (fun w hw' => ?_) ?_ (fun j hj => ?_)
  · rw [zc_up_n (by omega), zc_sv hj, hv j hj]
  · rw [zc_up_n (by omega), zc_sa hw', ha w hw']
  · rw [zc_sp hw']
    by_cases e : w = t
    · rw [if_pos e, e, zc_up_s, hq]
    · rw [if_neg e, zc_up_n (by omega), hp w hw' e]
  · rw [zc_up_n (by omega), zc_st hl', hl l hl']
  · rw [zc_up_n (by omega), zc_sw hw', hw w hw']
  · rw [zc_up_n (by omega), zc_sb, hb]
  · rw [zc_up_n (by omega), zc_sz hj, hz j hj]
theorem zc_e0 (ht : t < 3) (h : o (zc_pc c t) = 0) (hg : g (zc_pc c t) < 4) :
    zc_up (zc_up c (4 + t) (c (g (zc_pc c t)))) (7 + t) (zc_pl L t (c (7 + t) + 1)) = zc_step o g L c t := by
  refine zc_mk ht (fun j hj => ?_) (fun w hw => ?_) (fun w hw hn => ?_) ?_ (fun l hl => ?_) (fun w hw => ?_) ?_ (fun j hj => ?_)
  · rw [zc_up_n (by omega)]; simp [zc_nv, h]
  · by_cases e : w = t
    · subst e; rw [zc_up_s]; simp [zc_na, h]
    · rw [zc_up_n (by omega), if_neg e]
  · rw [zc_up_n (by omega)]
  · simp [zc_np, h]
  · rw [zc_up_n (by omega)]; simp [zc_nt, h]
  · rw [zc_up_n (by omega)]; simp [zc_nw, h]
  · rw [zc_up_n (by omega)]; simp [zc_nb, h]
  · rw [zc_up_n (by omega)]
theorem zc_e1 (ht : t < 3) (h : o (zc_pc c t) = 1) (hg : g (zc_pc c t) < 4) :
    zc_up (zc_up c (g (zc_pc c t)) (c (4 + t))) (7 + t) (zc_pl L t (c (7 + t) + 1)) = zc_step o g L c t := by
  refine zc_mk ht (fun j hj => ?_) (fun w hw => ?_) (fun w hw hn => ?_) ?_ (fun l hl => ?_) (fun w hw => ?_) ?_ (fun j hj => ?_)
  · by_cases e : j = g (zc_pc c t)
    · subst e; rw [zc_up_s]; simp [zc_nv, h]
    · rw [zc_up_n e]; simp [zc_nv, h, Ne.symm e]
  · rw [zc_up_n (by omega)]
    by_cases e : w = t
    · subst e; simp [zc_na, h]
    · rw [if_neg e]
  · rw [zc_up_n (by omega)]
  · simp [zc_np, h]
  · rw [zc_up_n (by omega)]; simp [zc_nt, h]
  · rw [zc_up_n (by omega)]; simp [zc_nw, h]
  · rw [zc_up_n (by omega)]; simp [zc_nb, h]
  · rw [zc_up_n (by omega)]
theorem zc_e2 (ht : t < 3) (h : o (zc_pc c t) = 2) (hg : g (zc_pc c t) < 4) :
    zc_up (zc_up (zc_up c (4 + t) (c (g (zc_pc c t)))) (g (zc_pc c t)) (c (4 + t))) (7 + t) (zc_pl L t (c (7 + t) + 1)) = zc_step o g L c t := by
  refine zc_mk ht (fun j hj => ?_) (fun w hw => ?_) (fun w hw hn => ?_) ?_ (fun l hl => ?_) (fun w hw => ?_) ?_ (fun j hj => ?_)
  · by_cases e : j = g (zc_pc c t)
    · subst e; rw [zc_up_s]; simp [zc_nv, h]
    · rw [zc_up_n e, zc_up_n (by omega)]; simp [zc_nv, h, Ne.symm e]
  · rw [zc_up_n (by omega)]
    by_cases e : w = t
    · subst e; rw [zc_up_s]; simp [zc_na, h]
    · rw [zc_up_n (by omega), if_neg e]
  · rw [zc_up_n (by omega), zc_up_n (by omega)]
  · simp [zc_np, h]
  · rw [zc_up_n (by omega), zc_up_n (by omega)]; simp [zc_nt, h]
  · rw [zc_up_n (by omega), zc_up_n (by omega)]; simp [zc_nw, h]
  · rw [zc_up_n (by omega), zc_up_n (by omega)]; simp [zc_nb, h]
  · rw [zc_up_n (by omega), zc_up_n (by omega)]
theorem zc_e3 (ht : t < 3) (h : o (zc_pc c t) = 3) (hg : g (zc_pc c t) < 4) :
    zc_up (zc_up c (g (zc_pc c t)) ((c (g (zc_pc c t)) + 1) % 8)) (7 + t) (zc_pl L t (c (7 + t) + 1)) = zc_step o g L c t := by
  refine zc_mk ht (fun j hj => ?_) (fun w hw => ?_) (fun w hw hn => ?_) ?_ (fun l hl => ?_) (fun w hw => ?_) ?_ (fun j hj => ?_)
  · by_cases e : j = g (zc_pc c t)
    · subst e; rw [zc_up_s]; simp [zc_nv, h]
    · rw [zc_up_n e]; simp [zc_nv, h, Ne.symm e]
  · rw [zc_up_n (by omega)]
    by_cases e : w = t
    · subst e; simp [zc_na, h]
    · rw [if_neg e]
  · rw [zc_up_n (by omega)]
  · simp [zc_np, h]
  · rw [zc_up_n (by omega)]; simp [zc_nt, h]
  · rw [zc_up_n (by omega)]; simp [zc_nw, h]
  · rw [zc_up_n (by omega)]; simp [zc_nb, h]
  · rw [zc_up_n (by omega)]
theorem zc_e4 (ht : t < 3) (h : o (zc_pc c t) = 4) :
    zc_up (zc_up c (4 + t) (g (zc_pc c t))) (7 + t) (zc_pl L t (c (7 + t) + 1)) = zc_step o g L c t := by
  refine zc_mk ht (fun j hj => ?_) (fun w hw => ?_) (fun w hw hn => ?_) ?_ (fun l hl => ?_) (fun w hw => ?_) ?_ (fun j hj => ?_)
  · rw [zc_up_n (by omega)]; simp [zc_nv, h]
  · by_cases e : w = t
    · subst e; rw [zc_up_s]; simp [zc_na, h]
    · rw [zc_up_n (by omega), if_neg e]
  · rw [zc_up_n (by omega)]
  · simp [zc_np, h]
  · rw [zc_up_n (by omega)]; simp [zc_nt, h]
  · rw [zc_up_n (by omega)]; simp [zc_nw, h]
  · rw [zc_up_n (by omega)]; simp [zc_nb, h]
  · rw [zc_up_n (by omega)]
theorem zc_e5 (ht : t < 3) (h : o (zc_pc c t) = 5) :
    zc_up (zc_up c (4 + t) ((c (4 + t) + g (zc_pc c t)) % 8)) (7 + t) (zc_pl L t (c (7 + t) + 1)) = zc_step o g L c t := by
  refine zc_mk ht (fun j hj => ?_) (fun w hw => ?_) (fun w hw hn => ?_) ?_ (fun l hl => ?_) (fun w hw => ?_) ?_ (fun j hj => ?_)
  · rw [zc_up_n (by omega)]; simp [zc_nv, h]
  · by_cases e : w = t
    · subst e; rw [zc_up_s]; simp [zc_na, h]
    · rw [zc_up_n (by omega), if_neg e]
  · rw [zc_up_n (by omega)]
  · simp [zc_np, h]
  · rw [zc_up_n (by omega)]; simp [zc_nt, h]
  · rw [zc_up_n (by omega)]; simp [zc_nw, h]
  · rw [zc_up_n (by omega)]; simp [zc_nb, h]
  · rw [zc_up_n (by omega)]
/-- the steps that change the place alone -/
theorem zc_ep (ht : t < 3) {p : Nat} (hp : p = zc_np o g L c t) (h1 : 6 ≤ o (zc_pc c t)) (ht' : ∀ l, l < 2 → zc_nt o g c t l = c (10 + l))
    (hw : ∀ w, w < 3 → zc_nw o g c t w = c (12 + w)) (hb : zc_nb o g c t = c 15) : zc_up c (7 + t) p = zc_step o g L c t := by
  refine zc_mk ht (fun j hj => ?_) (fun w hw => ?_) (fun w hw hn => rfl) hp (fun l hl => (ht' l hl).symm) (fun w h => (hw w h).symm) hb.symm (fun j hj => rfl)
  · have a1 : ¬ o (zc_pc c t) = 1 := by omega
    have a2 : ¬ o (zc_pc c t) = 2 := by omega
    have a3 : ¬ o (zc_pc c t) = 3 := by omega
    simp [zc_nv, a1, a2, a3]
  · have a1 : ¬ o (zc_pc c t) = 0 := by omega
    have a2 : ¬ o (zc_pc c t) = 2 := by omega
    have a3 : ¬ o (zc_pc c t) = 4 := by omega
    have a4 : ¬ o (zc_pc c t) = 5 := by omega
    by_cases e : w = t
    · subst e; simp [zc_na, a1, a2, a3, a4]
    · rw [if_neg e]
theorem zc_e6a (ht : t < 3) (h : o (zc_pc c t) = 6) (ha : c (4 + t) = 0) :
    zc_up c (7 + t) (zc_pl L t (c (7 + t) + 1 + g (zc_pc c t))) = zc_step o g L c t :=
  zc_ep ht (by simp [zc_np, h, ha]) (by omega) (fun l hl => by simp [zc_nt, h]) (fun w hw => by simp [zc_nw, h]) (by simp [zc_nb, h])
theorem zc_e6b (ht : t < 3) (h : o (zc_pc c t) = 6) (ha : c (4 + t) ≠ 0) :
    zc_up c (7 + t) (zc_pl L t (c (7 + t) + 1)) = zc_step o g L c t :=
  zc_ep ht (by simp [zc_np, h, ha]) (by omega) (fun l hl => by simp [zc_nt, h]) (fun w hw => by simp [zc_nw, h]) (by simp [zc_nb, h])
theorem zc_e8b (ht : t < 3) (h : o (zc_pc c t) = 8) (ha : c (10 + g (zc_pc c t)) ≠ t + 1) :
    zc_up c (7 + t) (zc_pl L t (c (7 + t) + 1)) = zc_step o g L c t :=
  zc_ep ht (by simp [zc_np, h]) (by omega) (fun l hl => by
    unfold zc_nt
    by_cases e : g (zc_pc c t) = l
    · subst e; simp [h, ha]
    · simp [e]) (fun w hw => by simp [zc_nw, h]) (by simp [zc_nb, h])
theorem zc_e9b (ht : t < 3) (h : o (zc_pc c t) = 9) (ha : c (4 + t) = g (zc_pc c t)) :
    zc_up c (7 + t) (zc_pl L t (c (7 + t) + 1)) = zc_step o g L c t :=
  zc_ep ht (by simp [zc_np, h]) (by omega) (fun l hl => by simp [zc_nt, h]) (fun w hw => by simp [zc_nw, h]) (by simp [zc_nb, h, ha])
theorem zc_e10b (ht : t < 3) (h : o (zc_pc c t) = 10) (ha : c (12 + t) ≠ 2) (hb : c (10 + g (zc_pc c t)) ≠ t + 1) :
    zc_up c (7 + t) (zc_pl L t (c (7 + t) + 1)) = zc_step o g L c t :=
  zc_ep ht (by simp [zc_np, h, hb]) (by omega) (fun l hl => by
    unfold zc_nt
    by_cases e : g (zc_pc c t) = l
    · subst e; simp [h, ha, hb]
    · simp [e]) (fun w hw => by
    by_cases e : w = t
    · subst e; simp [zc_nw, h, ha, hb]
    · simp [zc_nw, h, e]) (by simp [zc_nb, h])
theorem zc_e7 (ht : t < 3) (h : o (zc_pc c t) = 7) (hg : g (zc_pc c t) < 2) :
    zc_up (zc_up c (10 + g (zc_pc c t)) (t + 1)) (7 + t) (zc_pl L t (c (7 + t) + 1)) = zc_step o g L c t := by
  refine zc_mk ht (fun j hj => ?_) (fun w hw => ?_) (fun w hw hn => ?_) ?_ (fun l hl => ?_) (fun w hw => ?_) ?_ (fun j hj => ?_)
  · rw [zc_up_n (by omega)]; simp [zc_nv, h]
  · rw [zc_up_n (by omega)]
    by_cases e : w = t
    · subst e; simp [zc_na, h]
    · rw [if_neg e]
  · rw [zc_up_n (by omega)]
  · simp [zc_np, h]
  · by_cases e : l = g (zc_pc c t)
    · subst e; rw [zc_up_s]; simp [zc_nt, h]
    · rw [zc_up_n (by omega)]; simp [zc_nt, h, Ne.symm e]
  · rw [zc_up_n (by omega)]; simp [zc_nw, h]
  · rw [zc_up_n (by omega)]; simp [zc_nb, h]
  · rw [zc_up_n (by omega)]
theorem zc_e8a (ht : t < 3) (h : o (zc_pc c t) = 8) (hg : g (zc_pc c t) < 2) (ha : c (10 + g (zc_pc c t)) = t + 1) :
    zc_up (zc_up c (10 + g (zc_pc c t)) 0) (7 + t) (zc_pl L t (c (7 + t) + 1)) = zc_step o g L c t := by
  refine zc_mk ht (fun j hj => ?_) (fun w hw => ?_) (fun w hw hn => ?_) ?_ (fun l hl => ?_) (fun w hw => ?_) ?_ (fun j hj => ?_)
  · rw [zc_up_n (by omega)]; simp [zc_nv, h]
  · rw [zc_up_n (by omega)]
    by_cases e : w = t
    · subst e; simp [zc_na, h]
    · rw [if_neg e]
  · rw [zc_up_n (by omega)]
  · simp [zc_np, h]
  · by_cases e : l = g (zc_pc c t)
    · subst e; rw [zc_up_s]; simp [zc_nt, h, ha]
    · rw [zc_up_n (by omega)]; simp [zc_nt, h, Ne.symm e]
  · rw [zc_up_n (by omega)]; simp [zc_nw, h]
  · rw [zc_up_n (by omega)]; simp [zc_nb, h]
  · rw [zc_up_n (by omega)]
theorem zc_e9a (ht : t < 3) (h : o (zc_pc c t) = 9) (ha : c (4 + t) ≠ g (zc_pc c t)) :
    zc_up (zc_up c 15 1) (7 + t) (zc_pl L t (c (7 + t) + 1)) = zc_step o g L c t := by
  refine zc_mk ht (fun j hj => ?_) (fun w hw => ?_) (fun w hw hn => ?_) ?_ (fun l hl => ?_) (fun w hw => ?_) ?_ (fun j hj => ?_)
  · rw [zc_up_n (by omega)]; simp [zc_nv, h]
  · rw [zc_up_n (by omega)]
    by_cases e : w = t
    · subst e; simp [zc_na, h]
    · rw [if_neg e]
  · rw [zc_up_n (by omega)]
  · simp [zc_np, h]
  · rw [zc_up_n (by omega)]; simp [zc_nt, h]
  · rw [zc_up_n (by omega)]; simp [zc_nw, h]
  · rw [zc_up_s]; simp [zc_nb, h, ha]
  · rw [zc_up_n (by omega)]
theorem zc_e10a (ht : t < 3) (h : o (zc_pc c t) = 10) (hg : g (zc_pc c t) < 2) (ha : c (12 + t) = 2) :
    zc_up (zc_up (zc_up c (12 + t) 0) (10 + g (zc_pc c t)) (t + 1)) (7 + t) (zc_pl L t (c (7 + t) + 1)) = zc_step o g L c t := by
  refine zc_mk ht (fun j hj => ?_) (fun w hw => ?_) (fun w hw hn => ?_) ?_ (fun l hl => ?_) (fun w hw => ?_) ?_ (fun j hj => ?_)
  · rw [zc_up_n (by omega), zc_up_n (by omega)]; simp [zc_nv, h]
  · rw [zc_up_n (by omega), zc_up_n (by omega)]
    by_cases e : w = t
    · subst e; simp [zc_na, h]
    · rw [if_neg e]
  · rw [zc_up_n (by omega), zc_up_n (by omega)]
  · simp [zc_np, h, ha]
  · by_cases e : l = g (zc_pc c t)
    · subst e; rw [zc_up_s]; simp [zc_nt, h, ha]
    · rw [zc_up_n (by omega), zc_up_n (by omega)]; simp [zc_nt, h, Ne.symm e]
  · rw [zc_up_n (by omega)]
    by_cases e : w = t
    · subst e; rw [zc_up_s]; simp [zc_nw, h, ha]
    · rw [zc_up_n (by omega)]; simp [zc_nw, h, e]
  · rw [zc_up_n (by omega), zc_up_n (by omega)]; simp [zc_nb, h]
  · rw [zc_up_n (by omega), zc_up_n (by omega)]
theorem zc_e10c (ht : t < 3) (h : o (zc_pc c t) = 10) (hg : g (zc_pc c t) < 2) (ha : c (12 + t) ≠ 2) (hb : c (10 + g (zc_pc c t)) = t + 1) :
    zc_up (zc_up (zc_up c (10 + g (zc_pc c t)) 0) (12 + t) 1) (7 + t) (c (7 + t)) = zc_step o g L c t := by
  refine zc_mk ht (fun j hj => ?_) (fun w hw => ?_) (fun w hw hn => ?_) ?_ (fun l hl => ?_) (fun w hw => ?_) ?_ (fun j hj => ?_)
  · rw [zc_up_n (by omega), zc_up_n (by omega)]; simp [zc_nv, h]
  · rw [zc_up_n (by omega), zc_up_n (by omega)]
    by_cases e : w = t
    · subst e; simp [zc_na, h]
    · rw [if_neg e]
  · rw [zc_up_n (by omega), zc_up_n (by omega)]
  · simp [zc_np, h, ha, hb]
  · rw [zc_up_n (by omega)]
    by_cases e : l = g (zc_pc c t)
    · subst e; rw [zc_up_s]; simp [zc_nt, h, ha, hb]
    · rw [zc_up_n (by omega)]; simp [zc_nt, h, Ne.symm e]
  · by_cases e : w = t
    · subst e; rw [zc_up_s]; simp [zc_nw, h, ha, hb]
    · rw [zc_up_n (by omega), zc_up_n (by omega)]; simp [zc_nw, h, e]
  · rw [zc_up_n (by omega), zc_up_n (by omega)]; simp [zc_nb, h]
  · rw [zc_up_n (by omega), zc_up_n (by omega)]
theorem zc_e11 (ht : t < 3) (h : o (zc_pc c t) = 11) :
    zc_up (zc_nf g c (g (zc_pc c t)) 3) (7 + t) (zc_pl L t (c (7 + t) + 1)) = zc_step o g L c t := by
  have hn : ∀ j, ¬ (12 ≤ j ∧ j < 15) → zc_nf g c (g (zc_pc c t)) 3 j = c j := by
    intro j hj
    unfold zc_nf
    rw [if_neg (by omega)]
  refine zc_mk ht (fun j hj => ?_) (fun w hw => ?_) (fun w hw hn' => ?_) ?_ (fun l hl => ?_) (fun w hw => ?_) ?_ (fun j hj => ?_)
  · rw [hn _ (by omega)]; simp [zc_nv, h]
  · rw [hn _ (by omega)]
    by_cases e : w = t
    · subst e; simp [zc_na, h]
    · rw [if_neg e]
  · rw [hn _ (by omega)]
  · simp [zc_np, h]
  · rw [hn _ (by omega)]; simp [zc_nt, h]
  · have e1 : 12 + w - 12 = w := by omega
    have e2 : 12 + w < 12 + 3 := by omega
    unfold zc_nf zc_nw
    rw [if_neg (c := w = t ∧ _) (by omega), e1]
    by_cases e : c (12 + w) = 1 ∧ g (zc_pc c w) = g (zc_pc c t)
    · rw [if_pos ⟨by omega, e2, e⟩, if_pos ⟨h, e⟩]
    · rw [if_neg (fun a => e a.2.2), if_neg (fun a => e a.2)]
  · rw [hn _ (by omega)]; simp [zc_nb, h]
  · rw [hn _ (by omega)]
theorem zc_nf_0 {a : Nat} : zc_nf g c a 0 = c := by
  funext j; unfold zc_nf; rw [if_neg (by omega)]
theorem zc_nf_y {a n : Nat} (h1 : c (12 + n) = 1) (h2 : g (zc_pc c n) = a) : zc_nf g c a (n + 1) = zc_up (zc_nf g c a n) (12 + n) 2 := by
  funext j
  by_cases e : j = 12 + n
  · subst e
    have e1 : 12 + n - 12 = n := by omega
    rw [zc_up_s]; unfold zc_nf; rw [e1, if_pos ⟨by omega, by omega, h1, h2⟩]
  · rw [zc_up_n e]; unfold zc_nf
    by_cases e2 : 12 ≤ j ∧ j < 12 + n ∧ c j = 1 ∧ g (zc_pc c (j - 12)) = a
    · rw [if_pos e2, if_pos ⟨e2.1, by omega, e2.2.2⟩]
    · rw [if_neg e2, if_neg (fun x => e2 ⟨x.1, by omega, x.2.2⟩)]
theorem zc_nf_n {a n : Nat} (h : ¬ (c (12 + n) = 1 ∧ g (zc_pc c n) = a)) : zc_nf g c a (n + 1) = zc_nf g c a n := by
  funext j
  by_cases e : j = 12 + n
  · subst e
    have e1 : 12 + n - 12 = n := by omega
    unfold zc_nf; rw [e1, if_neg (fun x => h x.2.2), if_neg (by omega)]
  · unfold zc_nf
    by_cases e2 : 12 ≤ j ∧ j < 12 + n ∧ c j = 1 ∧ g (zc_pc c (j - 12)) = a
    · rw [if_pos e2, if_pos ⟨e2.1, by omega, e2.2.2⟩]
    · rw [if_neg e2, if_neg (fun x => e2 ⟨x.1, by omega, x.2.2⟩)]
theorem zc_nf_at {a n : Nat} : zc_nf g c a n (12 + n) = c (12 + n) := by
  unfold zc_nf; rw [if_neg (by omega)]
theorem zc_nf_lo {a n j : Nat} (h : j < 12) : zc_nf g c a n j = c j := by
  unfold zc_nf; rw [if_neg (by omega)]
end
end
section
/-! the get and put of the reference on a number of cells, the packing of the component -/
theorem zp_bits {s w lo x hi v : Nat} (hlo : lo < 2 ^ s) (hx : x < 2 ^ w) (hv : v < 2 ^ w) (hs : s + w ≤ 64) :
    (lN (lo + 2 ^ s * (x + 2 ^ w * hi)) &&& (lN ((2 ^ w - 1) * 2 ^ s) ^^^ (-1))) ||| lN (v * 2 ^ s) = lN (lo + 2 ^ s * (v + 2 ^ w * hi)) := by
  apply wb_inj
  have hm1 : (-1 : Int64).toBitVec = BitVec.allOnes 64 := by decide
  rw [Int64.toBitVec_or, Int64.toBitVec_and, Int64.toBitVec_xor, wb_tb, wb_tb, wb_tb, wb_tb, hm1]
  apply BitVec.eq_of_getLsbD_eq
  intro i hi64
  have key : ∀ y, y < 2 ^ w → (lo + 2 ^ s * (y + 2 ^ w * hi)).testBit i = if i < s then lo.testBit i else if i - s < w then y.testBit (i - s) else hi.testBit (i - s - w) := by
    intro y hy
    rw [Nat.add_comm lo, Nat.testBit_two_pow_mul_add _ hlo]
    by_cases h : i < s
    · rw [if_pos h, if_pos h]
    · rw [if_neg h, if_neg h, Nat.add_comm y, Nat.testBit_two_pow_mul_add _ hy]
  have km : ((2 ^ w - 1) * 2 ^ s).testBit i = (decide (s ≤ i) && decide (i - s < w)) := by
    rw [Nat.mul_comm, Nat.testBit_two_pow_mul, Nat.testBit_two_pow_sub_one]
  have kv : (v * 2 ^ s).testBit i = (decide (s ≤ i) && v.testBit (i - s)) := by
    rw [Nat.mul_comm, Nat.testBit_two_pow_mul]
  rw [BitVec.getLsbD_or, BitVec.getLsbD_and, BitVec.getLsbD_xor, BitVec.getLsbD_ofNat, BitVec.getLsbD_ofNat, BitVec.getLsbD_ofNat, BitVec.getLsbD_ofNat, BitVec.getLsbD_allOnes, key x hx, key v hv, km, kv]
  by_cases h : i < s
  · have h' : ¬ s ≤ i := by omega
    simp [hi64, h, h']
  · have h' : s ≤ i := by omega
    by_cases h2 : i - s < w
    · simp [hi64, h, h', h2]
    · have hv0 : v.testBit (i - s) = false := Nat.testBit_lt_two_pow (Nat.lt_of_lt_of_le hv (Nat.pow_le_pow_right (by omega) (by omega)))
      simp [hi64, h, h', h2, hv0]
/-- put: the cell k of the reference's number -/
theorem zp_putY {c : Nat → Nat} (hc : ∀ j, c j < 2 ^ zp_w j) {k v : Nat} (hk : k < 16) (hv : v < 2 ^ zp_w k) :
    (lN (zp_Y c) &&& (lN ((2 ^ zp_w k - 1) * 2 ^ zp_s zp_w 0 k) ^^^ (-1))) ||| lN (v * 2 ^ zp_s zp_w 0 k) = lN (zp_Y (zc_up c k v)) := by
  obtain ⟨lo, hi, h1, h2⟩ := zp_put hc k 0 16 hk
  have e1 := h2 (c k)
  have e2 := h2 v
  rw [Nat.zero_add] at e1 e2
  rw [zp_self] at e1
  unfold zp_Y
  rw [e1, e2]
  exact zp_bits h1 (hc k) hv (by
    have : ∀ k, k < 16 → zp_s zp_w 0 k + zp_w k ≤ 64 := by decide
    exact this k hk)
theorem zp_getN {N k m : Nat} (hN : N < 2 ^ 62) (hk : k < 64) (hm : m ≤ 16) : ((lN N >>> ((nI k).toInt64 &&& 63)).toInt32 &&& nI (2 ^ m - 1)) = nI (N / 2 ^ k % 2 ^ m) := by
  have hD : (((nI k).toInt64 &&& 63).toBitVec.smod 64).toNat = k := by
    rw [wb_c k hk, wb_tb, wb_sm k hk, BitVec.toNat_ofNat, Nat.mod_eq_of_lt (by omega)]
  rw [pf_shr hD hN, lN_i]
  have hmm : 2 ^ m ≤ 2 ^ 16 := Nat.pow_le_pow_right (by omega) hm
  rw [pk_and _ m (by rw [pk_tn (by omega)])]
  have e : (nI (N / 2 ^ k)).toBitVec.toNat = N / 2 ^ k % 2 ^ 32 := BitVec.toNat_ofNat _ _
  rw [e, Nat.mod_mod_of_dvd]
  exact Nat.pow_dvd_pow 2 (by omega)
theorem zp_getY {c : Nat → Nat} (hc : ∀ j, c j < 2 ^ zp_w j) {k : Nat} (hk : k < 16) :
    ((lN (zp_Y c) >>> ((nI (zp_s zp_w 0 k)).toInt64 &&& 63)).toInt32 &&& nI (2 ^ zp_w k - 1)) = nI (c k) := by
  have h1 : zp_Y c < 2 ^ 41 := zp_lt 16 0 hc
  have h2 : ∀ k, k < 16 → zp_s zp_w 0 k < 64 ∧ zp_w k ≤ 16 := by decide
  rw [zp_getN (by omega) (h2 k hk).1 (h2 k hk).2]
  have := zp_get hc k 0 16 hk
  rw [Nat.zero_add] at this
  exact congrArg nI this
/-- the four variables at once -/
theorem zp_getV {c : Nat → Nat} (hc : ∀ j, c j < 2 ^ zp_w j) :
    ((lN (zp_Y c) >>> ((nI 0).toInt64 &&& 63)).toInt32 &&& nI 4095) = nI (c 0 + 8 * c 1 + 64 * c 2 + 512 * c 3) := by
  have h1 : zp_Y c < 2 ^ 41 := zp_lt 16 0 hc
  have e0 := zp_getN (N := zp_Y c) (k := 0) (m := 12) (by omega) (by omega) (by omega)
  have e1 : zp_Y c / 2 ^ 0 % 2 ^ 12 = c 0 + 8 * c 1 + 64 * c 2 + 512 * c 3 := by
    have a0 := hc 0
    have a1 := hc 1
    have a2 := hc 2
    have a3 := hc 3
    have w0 : zp_w 0 = 3 := rfl
    have w1 : zp_w 1 = 3 := rfl
    have w2 : zp_w 2 = 3 := rfl
    have w3 : zp_w 3 = 3 := rfl
    rw [w0] at a0
    rw [w1] at a1
    rw [w2] at a2
    rw [w3] at a3
    have e : zp_Y c = c 0 + 2 ^ zp_w 0 * (c 1 + 2 ^ zp_w 1 * (c 2 + 2 ^ zp_w 2 * (c 3 + 2 ^ zp_w 3 * zp_k zp_w c 4 12))) := rfl
    rw [e, w0, w1, w2, w3]
    generalize zp_k zp_w c 4 12 = r
    omega
  rw [e1] at e0
  exact e0
/-- the component's pieces: one cell off, one cell on -/
theorem zp_off {a r : Nat} (ha : a < 8) (h : a + 8 * r < 2 ^ 63) : (lN (a + 8 * r) &&& 7).toInt32 = nI a ∧
    ((lN (a + 8 * r)).toUInt64 >>> ((3 : Int32).toInt64.toUInt64 &&& Int64.toUInt64 63)).toInt64 = lN r := by
  constructor
  · have e : lN (a + 8 * r) &&& 7 = lN ((a + 8 * r) % 2 ^ 3) := wb_mask (k := 3) (by omega) (by omega)
    rw [e, lN_i]
    exact congrArg nI (by omega)
  · have e := wb_shr (n := a + 8 * r) (k := 3) (by omega) (by omega)
    refine e.trans (congrArg lN ?_)
    omega
theorem zp_on {a r : Nat} (ha : a < 8) (h : a + 8 * r < 2 ^ 63) : (lN r <<< ((3 : Int32).toInt64 &&& 63)) ||| (nI a).toInt64 = lN (a + 8 * r) := by
  have e := wb_shl r (k := 3) (by omega)
  have e2 : lN r <<< ((3 : Int32).toInt64 &&& 63) = lN (r * 2 ^ 3) := e
  rw [e2, nI_l (by omega)]
  have := g_or (k := 3) (p := 8) (a := a) (b := r) (by decide) ha (by omega)
  rw [Nat.add_comm, Nat.mul_comm 8 r]
  exact this
end
section
/-! the component: cells, packing, readiness -/
def zx_E (c : Nat → Nat) (a : Nat → Int32) : Prop := ∀ i, i < 16 → a i = nI (c i)
def zx_C (o g L : Nat → Nat) (a_ops a_args a_len : Nat → Int32) : Prop :=
  zc_K o g L ∧ (∀ i, i < 15 → a_ops i = nI (o i)) ∧ (∀ i, i < 15 → a_args i = nI (g i)) ∧ ∀ t, t < 3 → a_len t = nI (L t)
/-- a set of threads as a number -/
def zx_M (m : Nat) (P : Nat → Prop) : Prop := m < 8 ∧ ∀ u, u < 3 → (m.testBit u = true ↔ P u)
theorem zx_M_uniq {m m' : Nat} {P : Nat → Prop} (h : zx_M m P) (h' : zx_M m' P) : m = m' := by
  apply Nat.eq_of_testBit_eq
  intro i
  by_cases hi : i < 3
  · have a := h.2 i hi
    have b := h'.2 i hi
    cases e1 : m.testBit i <;> cases e2 : m'.testBit i
    · rfl
    · rw [e1] at a; rw [e2] at b; exact absurd (a.mpr (b.mp rfl)) (by decide)
    · rw [e1] at a; rw [e2] at b; exact absurd (b.mpr (a.mp rfl)) (by decide)
    · rfl
  · have p8 : 8 ≤ 2 ^ i := by
      have := Nat.pow_le_pow_right (n := 2) (by omega) (show 3 ≤ i by omega)
      omega
    rw [Nat.testBit_lt_two_pow (by have := h.1; omega), Nat.testBit_lt_two_pow (by have := h'.1; omega)]
theorem zx_M_0 {m : Nat} {P : Nat → Prop} (h : zx_M m P) : m = 0 ↔ ∀ u, u < 3 → ¬ P u := by
  constructor
  · intro e u hu hp
    have := (h.2 u hu).mpr hp
    rw [e] at this
    simp at this
  · intro hn
    refine zx_M_uniq h ⟨by omega, fun u hu => ?_⟩
    simp [hn u hu]
theorem zx_or : ∀ t, t < 3 → ∀ m, m < 8 → nI m ||| ((1 : Int32) <<< (nI t &&& 31)) = nI (m ||| 2 ^ t) := by decide +kernel
theorem zx_or8 : ∀ t, t < 3 → ∀ m, m < 8 → m ||| 2 ^ t < 8 := by decide
theorem zx_bit : ∀ t, t < 3 → ∀ m, m < 8 → (((nI m >>> (nI t &&& 31)) &&& 1) = 0 ↔ m.testBit t = false) := by decide +kernel
theorem zx_M_or {m n : Nat} {P : Nat → Prop} (h : m < 8) (hb : ∀ u, u < 3 → (m.testBit u = true ↔ u < n ∧ P u)) (hn : n < 3) (hp : P n) :
    m ||| 2 ^ n < 8 ∧ ∀ u, u < 3 → ((m ||| 2 ^ n).testBit u = true ↔ u < n + 1 ∧ P u) := by
  refine ⟨zx_or8 n hn m h, fun u hu => ?_⟩
  rw [Nat.testBit_or, Nat.testBit_two_pow, Bool.or_eq_true, decide_eq_true_iff, hb u hu]
  constructor
  · rintro (h | h)
    · exact ⟨by omega, h.2⟩
    · subst h; exact ⟨by omega, hp⟩
  · rintro ⟨h1, h2⟩
    by_cases e : n = u
    · exact Or.inr e
    · exact Or.inl ⟨by omega, h2⟩
theorem zx_M_no {m n : Nat} {P : Nat → Prop} (hb : ∀ u, u < 3 → (m.testBit u = true ↔ u < n ∧ P u)) (hp : ¬ P n) :
    ∀ u, u < 3 → (m.testBit u = true ↔ u < n + 1 ∧ P u) := by
  intro u hu
  rw [hb u hu]
  constructor
  · rintro ⟨h1, h2⟩; exact ⟨by omega, h2⟩
  · rintro ⟨h1, h2⟩
    refine ⟨?_, h2⟩
    by_cases e : u = n
    · subst e; exact absurd h2 hp
    · omega
section
variable {o g L c : Nat → Nat} {a a_ops a_args a_len : Nat → Int32}
theorem zx_at {x : Int32} {k : Nat} (hE : zx_E c a) (hx : x = nI k) (hk : k < 16) : a x.toNatClampNeg = nI (c k) := by
  rw [hx, nI_clamp (by omega)]; exact hE k hk
theorem zx_Eu {x v : Int32} {k w : Nat} (hE : zx_E c a) (hx : x = nI k) (hk : k < 2 ^ 31) (hv : v = nI w) : zx_E (zc_up c k w) (upd a x.toNatClampNeg v) := by
  intro i hi
  rw [hx, nI_clamp hk]
  unfold upd zc_up
  split
  · exact hv
  · exact hE i hi
theorem zx_op (hC : zx_C o g L a_ops a_args a_len) {x : Int32} {k : Nat} (hx : x = nI k) (hk : k < 15) : a_ops x.toNatClampNeg = nI (o k) := by
  rw [hx, nI_clamp (by omega)]; exact hC.2.1 k hk
theorem zx_ar (hC : zx_C o g L a_ops a_args a_len) {x : Int32} {k : Nat} (hx : x = nI k) (hk : k < 15) : a_args x.toNatClampNeg = nI (g k) := by
  rw [hx, nI_clamp (by omega)]; exact hC.2.2.1 k hk
theorem zx_ln (hC : zx_C o g L a_ops a_args a_len) {x : Int32} {t : Nat} (hx : x = nI t) (ht : t < 3) : a_len x.toNatClampNeg = nI (L t) := by
  rw [hx, nI_clamp (by omega)]; exact hC.2.2.2 t ht
theorem zx_L5 (hC : zx_C o g L a_ops a_args a_len) : ∀ t, t < 3 → L t ≤ 5 := fun t ht => (hC.1 t ht).1
theorem zx_pc (t p : Nat) : nI t * 5 + nI p = nI (5 * t + p) := by
  have e : nI t * 5 = nI (t * 5) := pk_mul t 5
  rw [e, nI_add, Nat.mul_comm]
theorem zy_pc (t p : Nat) : 5 * nI t + nI p = nI (5 * t + p) := by
  have e : 5 * nI t = nI (5 * t) := pk_mul 5 t
  rw [e, nI_add]
theorem zx_a7 (t : Nat) : 7 + nI t = nI (7 + t) := nI_add 7 t
theorem zx_a4 (t : Nat) : 4 + nI t = nI (4 + t) := nI_add 4 t
theorem zx_a10 (t : Nat) : 10 + nI t = nI (10 + t) := nI_add 10 t
theorem zx_a12 (t : Nat) : 12 + nI t = nI (12 + t) := nI_add 12 t
end
section
variable {o g L c : Nat → Nat} {t : Nat} {f_steps f_foundCount : Int32} {a_ops a_args a_codeLength a_cell a_cameFrom a_cameBy a_distance a_slots a_isEnding a_walkLeft a_walkAsleep : Nat → Int32} {a_trail a_found a_walkState : Nat → Int64}
theorem zx_place {post : SX → Prop} {n : Nat} (hC : zx_C o g L a_ops a_args a_codeLength) (ht : t < 3) (hE : zx_E c a_cell) (hn : n < 2 ^ 31)
    (hp : ∀ a', zx_E (zc_up c (7 + t) (zc_pl L t n)) a' → post (f_steps, f_foundCount, a_ops, a_args, a_codeLength, a_trail, a', a_found, a_cameFrom, a_cameBy, a_distance, a_slots, a_isEnding, a_walkState, a_walkLeft, a_walkAsleep)) : wpX_place post (f_steps, f_foundCount, a_ops, a_args, a_codeLength, a_trail, a_cell, a_found, a_cameFrom, a_cameBy, a_distance, a_slots, a_isEnding, a_walkState, a_walkLeft, a_walkAsleep) (nI t) (nI n) := by
  have hL := (hC.1 t ht).1
  refine And.intro (pk_in t 3 ht) (pk_le (L t) n (fun h => ?_) (fun h => ?_) (zx_ln hC rfl ht) rfl (by omega) hn)
  · refine And.intro (pk_in (7 + t) 16 (by omega) (zx_a7 t)) (nm_e (hp _ ?_))
    have e : zc_pl L t n = 5 := by unfold zc_pl; rw [if_neg (by omega)]
    rw [e]
    exact zx_Eu hE (zx_a7 t) (by omega) rfl
  · refine And.intro (pk_in (7 + t) 16 (by omega) (zx_a7 t)) (nm_e (hp _ ?_))
    have e : zc_pl L t n = n := by unfold zc_pl; rw [if_pos h]
    rw [e]
    exact zx_Eu hE (zx_a7 t) (by omega) rfl
theorem zx_packed {post : Int64 → Prop} (hE : zx_E c a_cell) (hB : ∀ j, c j < 8) (hp : post (lN (zp_X c))) : wpX_packed post (f_steps, f_foundCount, a_ops, a_args, a_codeLength, a_trail, a_cell, a_found, a_cameFrom, a_cameBy, a_distance, a_slots, a_isEnding, a_walkState, a_walkLeft, a_walkAsleep) := by
  have key : ∀ k, k ≤ 16 → wX_packed_5 post f_steps f_foundCount a_ops a_args a_codeLength a_trail a_cell a_found a_cameFrom a_cameBy a_distance a_slots a_isEnding a_walkState a_walkLeft a_walkAsleep (k + 1) (lN (zp_k (fun _ => 3) c k (16 - k))) (nI k + (-1)) := by
    intro k
    induction k with
    | zero =>
      intro _
      exact br_t (by decide) hp
    | succ k ih =>
      intro hk
      rw [pk_m1]
      refine br_f (nI_pos (by omega)) (And.intro (pk_in k 16 (by omega)) (nm_r ?_ (nm_e (ih (by omega)))))
      have e1 : 16 - k = 16 - (k + 1) + 1 := by omega
      have hlt : zp_k (fun _ => 3) c k (16 - k) < 2 ^ zp_s (fun _ => 3) k (16 - k) := zp_lt _ _ hB
      have h48 : zp_s (fun _ => 3) k (16 - k) ≤ 48 := by
        have : ∀ n i, zp_s (fun _ => 3) i n = 3 * n := by
          intro n
          induction n with
          | zero => intro i; rfl
          | succ n ih => intro i; show 3 + zp_s (fun _ => 3) (i + 1) n = _; rw [ih]; omega
        rw [this]; omega
      have h63 : zp_k (fun _ => 3) c k (16 - k) < 2 ^ 63 :=
        Nat.lt_of_lt_of_le hlt (Nat.pow_le_pow_right (by omega) (by omega))
      rw [e1] at h63 ⊢
      rw [zx_at hE rfl (by omega)]
      exact zp_on (hB k) h63
  exact ⟨17, key 16 (Nat.le_refl _)⟩
theorem zx_unpack {post : SX → Prop} (hB : ∀ j, c j < 8) (hp : ∀ a', zx_E c a' → post (f_steps, f_foundCount, a_ops, a_args, a_codeLength, a_trail, a', a_found, a_cameFrom, a_cameBy, a_distance, a_slots, a_isEnding, a_walkState, a_walkLeft, a_walkAsleep)) : wpX_unpack post (f_steps, f_foundCount, a_ops, a_args, a_codeLength, a_trail, a_cell, a_found, a_cameFrom, a_cameBy, a_distance, a_slots, a_isEnding, a_walkState, a_walkLeft, a_walkAsleep) (lN (zp_X c)) := by
  have hs : ∀ n i, zp_s (fun _ => 3) i n = 3 * n := by
    intro n
    induction n with
    | zero => intro i; rfl
    | succ n ih => intro i; show 3 + zp_s (fun _ => 3) (i + 1) n = _; rw [ih]; omega
  have key : ∀ d i (a' : Nat → Int32), i + d = 16 → (∀ j, j < i → a' j = nI (c j)) →
      wX_unpack_5 post f_steps f_foundCount (d + 1) (lN (zp_k (fun _ => 3) c i d)) (nI i) a_ops a_args a_codeLength a_trail a' a_found a_cameFrom a_cameBy a_distance a_slots a_isEnding a_walkState a_walkLeft a_walkAsleep := by
    intro d
    induction d with
    | zero =>
      intro i a' hi ha
      have e : i = 16 := by omega
      subst e
      exact br_t (by decide) (hp a' ha)
    | succ d ih =>
      intro i a' hi ha
      have h63 : zp_k (fun _ => 3) c i (d + 1) < 2 ^ 63 :=
        Nat.lt_of_lt_of_le (zp_lt _ _ hB) (Nat.pow_le_pow_right (by omega) (by rw [hs]; omega))
      have ho := zp_off (hB i) h63
      refine br_f (nI_ge (b := 16) (by omega) (by decide)) (And.intro (pk_in i 16 (by omega)) (nm_e (nm_r ho.2 (nm_r (nI_1 i) (ih (i + 1) _ (by omega) fun j hj => ?_)))))
      rw [nI_clamp (by omega)]
      unfold upd
      by_cases e : j = i
      · rw [if_pos e, e]; exact ho.1
      · rw [if_neg e]; exact ha j (by omega)
  exact ⟨17, key 16 0 a_cell rfl (fun j hj => by omega)⟩
theorem zx_hasEnded {post : Int32 → Prop} (hC : zx_C o g L a_ops a_args a_codeLength) (ht : t < 3) (hE : zx_E c a_cell) (hB : ∀ j, c j < 8)
    (h0 : c (7 + t) < L t → post 0) (h1 : ¬ c (7 + t) < L t → post 1) : wpX_hasEnded post (f_steps, f_foundCount, a_ops, a_args, a_codeLength, a_trail, a_cell, a_found, a_cameFrom, a_cameBy, a_distance, a_slots, a_isEnding, a_walkState, a_walkLeft, a_walkAsleep) (nI t) := by
  have hL := (hC.1 t ht).1
  have hb := hB (7 + t)
  exact And.intro (pk_in (7 + t) 16 (by omega) (zx_a7 t)) (And.intro (pk_in t 3 ht)
    (pk_lt (c (7 + t)) (L t) h0 (fun h => h1 (by omega)) (zx_at hE (zx_a7 t) (by omega)) (zx_ln hC rfl ht) (by omega) (by omega)))
theorem zx_isReady {post : Int32 → Prop} (hC : zx_C o g L a_ops a_args a_codeLength) (hV : zc_V o L c) (ht : t < 3) (hE : zx_E c a_cell)
    (h1 : zc_R o g L c t → post 1) (h0 : ¬ zc_R o g L c t → post 0) : wpX_isReady post (f_steps, f_foundCount, a_ops, a_args, a_codeLength, a_trail, a_cell, a_found, a_cameFrom, a_cameBy, a_distance, a_slots, a_isEnding, a_walkState, a_walkLeft, a_walkAsleep) (nI t) := by
  have hB := zp_bX (zx_L5 hC) hV
  have hb12 := hB (12 + t)
  have hL := (hC.1 t ht).1
  have i12 : vp_in (12 + nI t) 16 := pk_in (12 + t) 16 (by omega) (zx_a12 t)
  have c12 := zx_at hE (zx_a12 t) (show 12 + t < 16 by omega)
  unfold wpX_isReady
  refine zx_hasEnded hC ht hE hB (fun hp => br_t rfl (And.intro i12 ?_)) (fun hp => br_f (by decide) (h0 fun hR => hp hR.1))
  refine pk_eq (c (12 + t)) 1 (fun e => h0 fun hR => hR.2.1 e) (fun e1 => ?_) c12 rfl (by omega) (by omega)
  refine And.intro (pk_in (7 + t) 16 (by omega) (zx_a7 t)) (nm_r (e' := nI (zc_pc c t)) (by rw [zx_at hE (zx_a7 t) (by omega), zx_pc]; rfl) ?_)
  have hk : zc_pc c t < 15 := by unfold zc_pc; omega
  have hG := (hC.1 t ht).2 _ hp
  have hop := zx_op hC (rfl : nI (zc_pc c t) = nI (zc_pc c t)) hk
  have har := zx_ar hC (rfl : nI (zc_pc c t) = nI (zc_pc c t)) hk
  have ho11 : o (zc_pc c t) ≤ 11 := hG.1
  have hlock : (o (zc_pc c t) = 7 ∨ c (12 + t) = 2) → wX_isReady_61 post (nI (zc_pc c t)) f_steps f_foundCount a_ops a_args a_codeLength a_trail a_cell a_found a_cameFrom a_cameBy a_distance a_slots a_isEnding a_walkState a_walkLeft a_walkAsleep := by
    intro hl
    have h2 : g (zc_pc c t) < 2 := by
      refine hG.2.2.2.1 ?_
      rcases hl with h | h
      · exact Or.inl h
      · rcases hV.2.2.2.1 t ht with h3 | h3
        · omega
        · exact Or.inr (Or.inr (Or.inl h3.2.2))
    have e10 : 10 + a_args (nI (zc_pc c t)).toNatClampNeg = nI (10 + g (zc_pc c t)) := by rw [har]; exact zx_a10 _
    have hb10 := hB (10 + g (zc_pc c t))
    refine br_f (by decide) (And.intro (pk_in _ 15 hk) (And.intro (pk_in _ 16 (by omega) e10) ?_))
    exact pk_eq (c (10 + g (zc_pc c t))) 0 (fun e => h1 ⟨hp, e1, fun _ => e⟩) (fun e => h0 fun hR => e (hR.2.2 hl)) (zx_at hE e10 (by omega)) rfl (by omega) (by omega)
  refine And.intro (pk_in _ 15 hk) (pk_eq (o (zc_pc c t)) 7 (fun e => hlock (Or.inl e)) (fun e7 => And.intro i12 ?_) hop rfl (by omega) (by omega))
  refine pk_eq (c (12 + t)) 2 (fun e => hlock (Or.inr e)) (fun e2 => ?_) c12 rfl (by omega) (by omega)
  exact br_t rfl (h1 ⟨hp, e1, fun h => absurd h (by omega)⟩)
theorem zx_readyThreads {post : Int32 → Prop} (hC : zx_C o g L a_ops a_args a_codeLength) (hV : zc_V o L c) (hE : zx_E c a_cell)
    (hp : ∀ m, zx_M m (zc_R o g L c) → post (nI m)) : wpX_readyThreads post (f_steps, f_foundCount, a_ops, a_args, a_codeLength, a_trail, a_cell, a_found, a_cameFrom, a_cameBy, a_distance, a_slots, a_isEnding, a_walkState, a_walkLeft, a_walkAsleep) := by
  have key : ∀ d n m, n + d = 3 → m < 8 → (∀ u, u < 3 → (m.testBit u = true ↔ u < n ∧ zc_R o g L c u)) →
      wX_readyThreads_4 post f_steps f_foundCount a_ops a_args a_codeLength a_trail a_cell a_found a_cameFrom a_cameBy a_distance a_slots a_isEnding a_walkState a_walkLeft a_walkAsleep (d + 1) (nI m) (nI n) := by
    intro d
    induction d with
    | zero =>
      intro n m hn hm hb
      have e : n = 3 := by omega
      subst e
      refine br_t (by decide) (hp m ⟨hm, fun u hu => ?_⟩)
      rw [hb u hu]
      exact ⟨fun h => h.2, fun h => ⟨hu, h⟩⟩
    | succ d ih =>
      intro n m hn hm hb
      refine br_f (nI_ge (b := 3) (by omega) (by decide)) (zx_isReady hC hV (by omega) hE (fun hR => br_f (by decide) ?_) (fun hR => br_t rfl ?_))
      · have hx := zx_M_or hm hb (by omega) hR
        exact nm_r (zx_or n (by omega) m hm) (nm_r (nI_1 n) (ih (n + 1) _ (by omega) hx.1 hx.2))
      · exact nm_r (nI_1 n) (ih (n + 1) m (by omega) hm (zx_M_no hb hR))
  exact ⟨4, key 3 0 0 rfl (by omega) (fun u hu => by simp)⟩
theorem zx_haveAllEnded {post : Int32 → Prop} (hC : zx_C o g L a_ops a_args a_codeLength) (hE : zx_E c a_cell) (hB : ∀ j, c j < 8)
    (h1 : (∀ t, t < 3 → ¬ c (7 + t) < L t) → post 1) (h0 : ¬ (∀ t, t < 3 → ¬ c (7 + t) < L t) → post 0) : wpX_haveAllEnded post (f_steps, f_foundCount, a_ops, a_args, a_codeLength, a_trail, a_cell, a_found, a_cameFrom, a_cameBy, a_distance, a_slots, a_isEnding, a_walkState, a_walkLeft, a_walkAsleep) := by
  unfold wpX_haveAllEnded
  refine zx_hasEnded (t := 0) hC (by omega) hE hB (fun a0 => br_t rfl (h0 fun h => h 0 (by omega) a0)) (fun a0 => br_f (by decide) ?_)
  refine zx_hasEnded (t := 1) hC (by omega) hE hB (fun a1 => br_t rfl (h0 fun h => h 1 (by omega) a1)) (fun a1 => br_f (by decide) ?_)
  refine zx_hasEnded (t := 2) hC (by omega) hE hB (fun a2 => br_t rfl (h0 fun h => h 2 (by omega) a2)) (fun a2 => br_f (by decide) (h1 fun t ht => ?_))
  have : t = 0 ∨ t = 1 ∨ t = 2 := by omega
  rcases this with e | e | e <;> subst e <;> assumption
end
end
section
/-! the component: a step -/
section
variable {o g L c : Nat → Nat} {t : Nat} {f_steps f_foundCount : Int32} {a_ops a_args a_codeLength a_cell a_cameFrom a_cameBy a_distance a_slots a_isEnding a_walkLeft a_walkAsleep : Nat → Int32} {a_trail a_found a_walkState : Nat → Int64}
theorem zx_R_G' {a_ops a_args a_len : Nat → Int32} (hC : zx_C o g L a_ops a_args a_len) (ht : t < 3) (hR : zc_R o g L c t) : zc_G (o (zc_pc c t)) (g (zc_pc c t)) := zc_R_G hC.1 ht hR
theorem zx_isOfVariable {post : Int32 → Prop} {op : Nat} (ho : op ≤ 11) (h1 : op < 4 → post 1) (h0 : ¬ op < 4 → post 0) : wpX_isOfVariable post (nI op) :=
  br_f (nI_pos (by omega)) (pk_lt 3 op (fun h => h0 (by omega)) (fun h => h1 (by omega)))
theorem zx_isOfLock {post : Int32 → Prop} {op : Nat} (ho : op ≤ 11) (h1 : (op = 7 ∨ op = 8 ∨ op = 10 ∨ op = 11) → post 1) (h0 : ¬ (op = 7 ∨ op = 8 ∨ op = 10 ∨ op = 11) → post 0) : wpX_isOfLock post (nI op) :=
  pk_eq op 7 (fun h => h1 (by omega)) (fun h7 => pk_eq op 8 (fun h => h1 (by omega)) (fun h8 => pk_eq op 10 (fun h => h1 (by omega)) (fun h10 => pk_eq op 11 (fun h => h1 (by omega)) (fun h11 => h0 (by omega)))))
def zx_uv (c : Nat → Nat) (t op v : Nat) : Nat → Nat :=
  if op = 0 then zc_up c (4 + t) (c v) else if op = 1 then zc_up c v (c (4 + t))
  else if op = 2 then zc_up (zc_up c (4 + t) (c v)) v (c (4 + t)) else zc_up c v ((c v + 1) % 8)
theorem zx_uv51 {post : SX → Prop} {op v : Nat} (ho : op < 3) (hp : post (f_steps, f_foundCount, a_ops, a_args, a_codeLength, a_trail, a_cell, a_found, a_cameFrom, a_cameBy, a_distance, a_slots, a_isEnding, a_walkState, a_walkLeft, a_walkAsleep)) : wX_useVariable_51 post (nI op) (nI v) f_steps f_foundCount a_ops a_args a_codeLength a_trail a_cell a_found a_cameFrom a_cameBy a_distance a_slots a_isEnding a_walkState a_walkLeft a_walkAsleep :=
  pk_eq op 3 (fun h => by omega) (fun _ => hp)
theorem zx_useVariable {post : SX → Prop} {op v : Nat} (ht : t < 3) (hE : zx_E c a_cell) (hB : ∀ j, c j < 8) (ho : op < 4) (hv : v < 4)
    (hp : ∀ a', zx_E (zx_uv c t op v) a' → post (f_steps, f_foundCount, a_ops, a_args, a_codeLength, a_trail, a', a_found, a_cameFrom, a_cameBy, a_distance, a_slots, a_isEnding, a_walkState, a_walkLeft, a_walkAsleep)) : wpX_useVariable post (f_steps, f_foundCount, a_ops, a_args, a_codeLength, a_trail, a_cell, a_found, a_cameFrom, a_cameBy, a_distance, a_slots, a_isEnding, a_walkState, a_walkLeft, a_walkAsleep) (nI t) (nI op) (nI v) := by
  have i4 : vp_in (4 + nI t) 16 := pk_in (4 + t) 16 (by omega) (zx_a4 t)
  have iv : vp_in (nI v) 16 := pk_in v 16 (by omega)
  have c4 := zx_at hE (zx_a4 t) (show 4 + t < 16 by omega)
  have cv := zx_at hE (rfl : nI v = nI v) (show v < 16 by omega)
  have hbv := hB v
  have : op = 0 ∨ op = 1 ∨ op = 2 ∨ op = 3 := by omega
  rcases this with e | e | e | e <;> subst e
  · refine And.intro i4 (nm_r c4 (br_t rfl (And.intro iv (And.intro i4 (nm_e ?_)))))
    refine br_f (by decide) (br_f (by decide) (zx_uv51 (op := 0) (by omega) (hp _ ?_)))
    exact zx_Eu hE (zx_a4 t) (by omega) cv
  · refine And.intro i4 (nm_r c4 (br_f (by decide) (br_f (by decide) (br_t rfl (And.intro iv (nm_e ?_))))))
    refine zx_uv51 (op := 1) (by omega) (hp _ ?_)
    exact zx_Eu hE rfl (by omega) rfl
  · refine And.intro i4 (nm_r c4 (br_f (by decide) (br_t rfl (And.intro iv (And.intro i4 (nm_e ?_))))))
    refine br_f (by decide) (br_t rfl (And.intro iv (nm_e ?_)))
    refine zx_uv51 (op := 2) (by omega) (hp _ ?_)
    exact zx_Eu (zx_Eu hE (zx_a4 t) (by omega) cv) rfl (by omega) rfl
  · refine And.intro i4 (nm_r c4 (br_f (by decide) (br_f (by decide) (br_f (by decide) (br_f (by decide) (br_t rfl ?_))))))
    refine And.intro iv (And.intro (by decide) (And.intro iv (nm_e (hp _ ?_))))
    refine zx_Eu hE rfl (by omega) ?_
    rw [cv]
    have e1 : nI (c v) + 1 = nI (c v + 1) := nI_1 _
    rw [e1]
    exact pk_rem (d := 8) (by omega) (by omega) (by omega)
theorem zx_useNumber {post : SX → Prop} {op v : Nat} (ht : t < 3) (hE : zx_E c a_cell) (hB : ∀ j, c j < 8) (hv : v < 8)
    (h4 : op = 4 → ∀ a', zx_E (zc_up c (4 + t) v) a' → post (f_steps, f_foundCount, a_ops, a_args, a_codeLength, a_trail, a', a_found, a_cameFrom, a_cameBy, a_distance, a_slots, a_isEnding, a_walkState, a_walkLeft, a_walkAsleep))
    (h5 : op = 5 → ∀ a', zx_E (zc_up c (4 + t) ((c (4 + t) + v) % 8)) a' → post (f_steps, f_foundCount, a_ops, a_args, a_codeLength, a_trail, a', a_found, a_cameFrom, a_cameBy, a_distance, a_slots, a_isEnding, a_walkState, a_walkLeft, a_walkAsleep))
    (h9 : op = 9 → c (4 + t) ≠ v → ∀ a', zx_E (zc_up c 15 1) a' → post (f_steps, f_foundCount, a_ops, a_args, a_codeLength, a_trail, a', a_found, a_cameFrom, a_cameBy, a_distance, a_slots, a_isEnding, a_walkState, a_walkLeft, a_walkAsleep))
    (h9' : op = 9 → c (4 + t) = v → post (f_steps, f_foundCount, a_ops, a_args, a_codeLength, a_trail, a_cell, a_found, a_cameFrom, a_cameBy, a_distance, a_slots, a_isEnding, a_walkState, a_walkLeft, a_walkAsleep)) (ho : op = 4 ∨ op = 5 ∨ op = 9) : wpX_useNumber post (f_steps, f_foundCount, a_ops, a_args, a_codeLength, a_trail, a_cell, a_found, a_cameFrom, a_cameBy, a_distance, a_slots, a_isEnding, a_walkState, a_walkLeft, a_walkAsleep) (nI t) (nI op) (nI v) := by
  have i4 : vp_in (4 + nI t) 16 := pk_in (4 + t) 16 (by omega) (zx_a4 t)
  have c4 := zx_at hE (zx_a4 t) (show 4 + t < 16 by omega)
  have hb4 := hB (4 + t)
  rcases ho with e | e | e <;> subst e
  · exact br_t rfl (And.intro i4 (nm_e (h4 rfl _ (zx_Eu hE (zx_a4 t) (by omega) rfl))))
  · refine br_f (by decide) (br_t rfl (And.intro i4 (And.intro (by decide) (And.intro i4 (nm_e (h5 rfl _ (zx_Eu hE (zx_a4 t) (by omega) ?_)))))))
    rw [c4, nI_add]
    exact pk_rem (d := 8) (by omega) (by omega) (by omega)
  · refine br_f (by decide) (br_f (by decide) (br_t rfl (And.intro i4 ?_)))
    refine pk_eq (c (4 + t)) v (fun e => h9' rfl e) (fun e => nm_e (h9 rfl e _ ?_)) c4 rfl (by omega) (by omega)
    exact zx_Eu (x := 15) (k := 15) hE (by rfl) (by omega) (by rfl)
theorem zx_useWait {post : Int32 → SX → Prop} {v : Nat} (ht : t < 3) (hE : zx_E c a_cell) (hB : ∀ j, c j < 8) (hv : v < 2)
    (h1 : c (12 + t) = 2 → ∀ a', zx_E (zc_up (zc_up c (12 + t) 0) (10 + v) (t + 1)) a' → post 1 (f_steps, f_foundCount, a_ops, a_args, a_codeLength, a_trail, a', a_found, a_cameFrom, a_cameBy, a_distance, a_slots, a_isEnding, a_walkState, a_walkLeft, a_walkAsleep))
    (h2 : c (12 + t) ≠ 2 → c (10 + v) ≠ t + 1 → post 1 (f_steps, f_foundCount, a_ops, a_args, a_codeLength, a_trail, a_cell, a_found, a_cameFrom, a_cameBy, a_distance, a_slots, a_isEnding, a_walkState, a_walkLeft, a_walkAsleep))
    (h3 : c (12 + t) ≠ 2 → c (10 + v) = t + 1 → ∀ a', zx_E (zc_up (zc_up c (10 + v) 0) (12 + t) 1) a' → post 0 (f_steps, f_foundCount, a_ops, a_args, a_codeLength, a_trail, a', a_found, a_cameFrom, a_cameBy, a_distance, a_slots, a_isEnding, a_walkState, a_walkLeft, a_walkAsleep)) :
    wpX_useWait post (f_steps, f_foundCount, a_ops, a_args, a_codeLength, a_trail, a_cell, a_found, a_cameFrom, a_cameBy, a_distance, a_slots, a_isEnding, a_walkState, a_walkLeft, a_walkAsleep) (nI t) (nI v) := by
  have i12 : vp_in (12 + nI t) 16 := pk_in (12 + t) 16 (by omega) (zx_a12 t)
  have i10 : vp_in (10 + nI v) 16 := pk_in (10 + v) 16 (by omega) (zx_a10 v)
  have c12 := zx_at hE (zx_a12 t) (show 12 + t < 16 by omega)
  have c10 := zx_at hE (zx_a10 v) (show 10 + v < 16 by omega)
  have hb12 := hB (12 + t)
  have hb10 := hB (10 + v)
  refine And.intro i12 (pk_eq (c (12 + t)) 2 (fun e => And.intro i12 (nm_e (And.intro i10 (nm_e (h1 e _ ?_))))) (fun e => And.intro i10 ?_) c12 rfl (by omega) (by omega))
  · exact zx_Eu (zx_Eu hE (zx_a12 t) (by omega) (by rfl)) (zx_a10 v) (by omega) (nI_1 t)
  · refine pk_eq (c (10 + v)) (t + 1) (fun e2 => And.intro i10 (nm_e (And.intro i12 (nm_e (h3 e e2 _ ?_))))) (fun e2 => h2 e e2) c10 (nI_1 t) (by omega) (by omega)
    exact zx_Eu (zx_Eu hE (zx_a10 v) (by omega) (by rfl)) (zx_a12 t) (by omega) (by rfl)
theorem zx_notify {post : SX → Prop} {v : Nat} (hC : zx_C o g L a_ops a_args a_codeLength) (hV : zc_V o L c) (hE : zx_E c a_cell) (hv : v < 2)
    (hp : ∀ a', zx_E (zc_nf g c v 3) a' → post (f_steps, f_foundCount, a_ops, a_args, a_codeLength, a_trail, a', a_found, a_cameFrom, a_cameBy, a_distance, a_slots, a_isEnding, a_walkState, a_walkLeft, a_walkAsleep)) : wpX_notifyWaiters post (f_steps, f_foundCount, a_ops, a_args, a_codeLength, a_trail, a_cell, a_found, a_cameFrom, a_cameBy, a_distance, a_slots, a_isEnding, a_walkState, a_walkLeft, a_walkAsleep) (nI v) := by
  have hB := zp_bX (zx_L5 hC) hV
  have key : ∀ d n (a' : Nat → Int32), n + d = 3 → zx_E (zc_nf g c v n) a' →
      wX_notifyWaiters_2 post (nI v) f_steps f_foundCount (d + 1) (nI n) a_ops a_args a_codeLength a_trail a' a_found a_cameFrom a_cameBy a_distance a_slots a_isEnding a_walkState a_walkLeft a_walkAsleep := by
    intro d
    induction d with
    | zero =>
      intro n a' hn ha
      have e : n = 3 := by omega
      subst e
      exact br_t (by decide) (hp a' ha)
    | succ d ih =>
      intro n a' hn ha
      have hb12 := hB (12 + n)
      have c12 : a' (12 + nI n).toNatClampNeg = nI (c (12 + n)) := by
        rw [zx_at ha (zx_a12 n) (by omega), zc_nf_at]
      have c7 : a' (7 + nI n).toNatClampNeg = nI (c (7 + n)) := by
        rw [zx_at ha (zx_a7 n) (by omega), zc_nf_lo (by omega)]
      have i12 : vp_in (12 + nI n) 16 := pk_in (12 + n) 16 (by omega) (zx_a12 n)
      refine br_f (nI_ge (b := 3) (by omega) (by decide)) (And.intro i12 (pk_eq (c (12 + n)) 1 (fun e1 => ?_) (fun e1 => ?_) c12 rfl (by omega) (by omega)))
      · have hp7 : c (7 + n) < L n := by
          rcases hV.2.2.2.1 n (by omega) with h | h
          · omega
          · exact h.2.1
        have hL := zx_L5 hC n (by omega)
        have epc : nI n * 5 + a' (7 + nI n).toNatClampNeg = nI (zc_pc c n) := by rw [c7]; exact zx_pc n _
        have hk : zc_pc c n < 15 := by unfold zc_pc; omega
        have hG := (hC.1 n (by omega)).2 _ hp7
        have hg8 : g (zc_pc c n) < 8 := hG.2.1
        refine And.intro (pk_in (7 + n) 16 (by omega) (zx_a7 n)) (And.intro (pk_in _ 15 hk epc) ?_)
        refine pk_eq (g (zc_pc c n)) v (fun e2 => And.intro i12 (nm_e (nm_r (nI_1 n) (ih (n + 1) _ (by omega) ?_)))) (fun e2 => nm_r (nI_1 n) (ih (n + 1) _ (by omega) ?_)) (zx_ar hC epc hk) rfl (by omega) (by omega)
        · rw [zc_nf_y e1 e2]
          exact zx_Eu ha (zx_a12 n) (by omega) (by rfl)
        · rw [zc_nf_n (fun h => e2 h.2)]
          exact ha
      · refine nm_r (nI_1 n) (ih (n + 1) _ (by omega) ?_)
        rw [zc_nf_n (fun h => e1 h.1)]
        exact ha
  refine ⟨4, key 3 0 a_cell rfl ?_⟩
  rw [zc_nf_0]
  exact hE
theorem zx_useLock {post : SX → Prop} {op v : Nat} (hC : zx_C o g L a_ops a_args a_codeLength) (hV : zc_V o L c) (ht : t < 3) (hE : zx_E c a_cell) (hv : v < 2)
    (h7 : op = 7 → ∀ a', zx_E (zc_up c (10 + v) (t + 1)) a' → post (f_steps, f_foundCount, a_ops, a_args, a_codeLength, a_trail, a', a_found, a_cameFrom, a_cameBy, a_distance, a_slots, a_isEnding, a_walkState, a_walkLeft, a_walkAsleep))
    (h8 : op = 8 → c (10 + v) = t + 1 → ∀ a', zx_E (zc_up c (10 + v) 0) a' → post (f_steps, f_foundCount, a_ops, a_args, a_codeLength, a_trail, a', a_found, a_cameFrom, a_cameBy, a_distance, a_slots, a_isEnding, a_walkState, a_walkLeft, a_walkAsleep))
    (h8' : op = 8 → c (10 + v) ≠ t + 1 → post (f_steps, f_foundCount, a_ops, a_args, a_codeLength, a_trail, a_cell, a_found, a_cameFrom, a_cameBy, a_distance, a_slots, a_isEnding, a_walkState, a_walkLeft, a_walkAsleep))
    (h11 : op = 11 → ∀ a', zx_E (zc_nf g c v 3) a' → post (f_steps, f_foundCount, a_ops, a_args, a_codeLength, a_trail, a', a_found, a_cameFrom, a_cameBy, a_distance, a_slots, a_isEnding, a_walkState, a_walkLeft, a_walkAsleep)) (ho : op = 7 ∨ op = 8 ∨ op = 11) : wpX_useLock post (f_steps, f_foundCount, a_ops, a_args, a_codeLength, a_trail, a_cell, a_found, a_cameFrom, a_cameBy, a_distance, a_slots, a_isEnding, a_walkState, a_walkLeft, a_walkAsleep) (nI t) (nI op) (nI v) := by
  have hB := zp_bX (zx_L5 hC) hV
  have i10 : vp_in (10 + nI v) 16 := pk_in (10 + v) 16 (by omega) (zx_a10 v)
  have c10 := zx_at hE (zx_a10 v) (show 10 + v < 16 by omega)
  have hb10 := hB (10 + v)
  rcases ho with e | e | e <;> subst e
  · exact br_t rfl (And.intro i10 (nm_e (h7 rfl _ (zx_Eu hE (zx_a10 v) (by omega) (nI_1 t)))))
  · refine br_f (by decide) (br_t rfl (And.intro i10 ?_))
    refine pk_eq (c (10 + v)) (t + 1) (fun e => And.intro i10 (nm_e (h8 rfl e _ (zx_Eu hE (zx_a10 v) (by omega) (by rfl))))) (fun e => ?_) c10 (nI_1 t) (by omega) (by omega)
    exact br_f (by decide) (h8' rfl e)
  · refine br_f (by decide) (br_f (by decide) (br_t rfl ?_))
    exact zx_notify hC hV hE hv fun a' ha => h11 rfl a' ha
/-- a step of a thread that is ready -/
theorem zx_advance {post : SX → Prop} (hC : zx_C o g L a_ops a_args a_codeLength) (hV : zc_V o L c) (ht : t < 3) (hE : zx_E c a_cell) (hR : zc_R o g L c t)
    (hp : ∀ a', zx_E (zc_step o g L c t) a' → post (f_steps, f_foundCount, a_ops, a_args, a_codeLength, a_trail, a', a_found, a_cameFrom, a_cameBy, a_distance, a_slots, a_isEnding, a_walkState, a_walkLeft, a_walkAsleep)) : wpX_advance post (f_steps, f_foundCount, a_ops, a_args, a_codeLength, a_trail, a_cell, a_found, a_cameFrom, a_cameBy, a_distance, a_slots, a_isEnding, a_walkState, a_walkLeft, a_walkAsleep) (nI t) := by
  have hB := zp_bX (zx_L5 hC) hV
  have hL := (hC.1 t ht).1
  have h7 := hR.1
  have hG := zx_R_G' hC ht hR
  have hk : zc_pc c t < 15 := by unfold zc_pc; omega
  have c7 := zx_at hE (zx_a7 t) (show 7 + t < 16 by omega)
  have epc : nI t * 5 + nI (c (7 + t)) = nI (zc_pc c t) := zx_pc t _
  have hop : a_ops (nI t * 5 + nI (c (7 + t))).toNatClampNeg = nI (o (zc_pc c t)) := zx_op hC epc hk
  have har : a_args (nI t * 5 + nI (c (7 + t))).toNatClampNeg = nI (g (zc_pc c t)) := zx_ar hC epc hk
  have ik : vp_in (nI t * 5 + nI (c (7 + t))) 15 := pk_in _ 15 hk epc
  have hb4 := hB (4 + t)
  obtain ⟨g1, g2, g3, g4, g5⟩ := hG
  have fin : ∀ (d : Nat → Nat) (a' : Nat → Int32) (n : Nat), zx_E d a' → n < 2 ^ 31 → zc_up d (7 + t) (zc_pl L t n) = zc_step o g L c t →
      wX_advance_144 post (nI t) (nI n) f_steps f_foundCount a_ops a_args a_codeLength a_trail a' a_found a_cameFrom a_cameBy a_distance a_slots a_isEnding a_walkState a_walkLeft a_walkAsleep := by
    intro d a' n hd hn he
    exact zx_place hC ht hd hn fun b hb => hp b (he ▸ hb)
  refine And.intro (pk_in (7 + t) 16 (by omega) (zx_a7 t)) (nm_r c7 (And.intro ik (nm_r hop (And.intro ik (nm_r har (nm_r (nI_1 _) ?_))))))
  refine zx_isOfVariable g1 (fun hv => br_f (by decide) ?_) (fun hv => br_t rfl ?_)
  · refine zx_useVariable ht hE hB hv (g3 hv) fun a' ha => fin _ a' _ ha (by omega) ?_
    unfold zx_uv
    have : o (zc_pc c t) = 0 ∨ o (zc_pc c t) = 1 ∨ o (zc_pc c t) = 2 ∨ o (zc_pc c t) = 3 := by omega
    rcases this with e | e | e | e
    · rw [if_pos e]; exact zc_e0 ht e (g3 hv)
    · rw [if_neg (by omega), if_pos e]; exact zc_e1 ht e (g3 hv)
    · rw [if_neg (by omega), if_neg (by omega), if_pos e]; exact zc_e2 ht e (g3 hv)
    · rw [if_neg (by omega), if_neg (by omega), if_neg (by omega)]; exact zc_e3 ht e (g3 hv)
  · refine pk_eq (o (zc_pc c t)) 10 (fun e10 => ?_) (fun e10 => ?_) rfl rfl (by omega) (by omega)
    · have hg2 := g4 (by omega)
      refine zx_useWait ht hE hB hg2 (fun w a' ha => br_f (by decide) ?_) (fun w w2 => br_f (by decide) ?_) (fun w w2 a' ha => br_t rfl ?_)
      · rw [nI_1]
        exact fin _ a' _ ha (by omega) (zc_e10a ht e10 hg2 w)
      · rw [nI_1]
        exact fin _ _ _ hE (by omega) (zc_e10b ht e10 w w2)
      · refine fin _ a' _ ha (by omega) ?_
        have e : zc_pl L t (c (7 + t)) = c (7 + t) := by unfold zc_pl; rw [if_pos h7]
        rw [e]
        exact zc_e10c ht e10 hg2 w w2
    · refine zx_isOfLock g1 (fun hl => br_f (by decide) ?_) (fun hl => br_t rfl ?_)
      · have hg2 := g4 hl
        refine zx_useLock hC hV ht hE hg2 (fun e a' ha => fin _ a' _ ha (by omega) (zc_e7 ht e hg2)) (fun e w a' ha => fin _ a' _ ha (by omega) (zc_e8a ht e hg2 w))
          (fun e w => fin _ _ _ hE (by omega) (zc_e8b ht e w)) (fun e a' ha => fin _ a' _ ha (by omega) (zc_e11 ht e)) (by omega)
      · refine pk_eq (o (zc_pc c t)) 6 (fun e6 => And.intro (pk_in (4 + t) 16 (by omega) (zx_a4 t)) ?_) (fun e6 => ?_) rfl rfl (by omega) (by omega)
        · have h8 := g5 e6
          refine pk_eq (c (4 + t)) 0 (fun w => ?_) (fun w => ?_) (zx_at hE (zx_a4 t) (by omega)) rfl (by omega) (by omega)
          · rw [nI_1, nI_add]
            exact fin _ _ _ hE (by omega) (zc_e6a ht e6 w)
          · rw [nI_1]
            exact fin _ _ _ hE (by omega) (zc_e6b ht e6 w)
        · refine zx_useNumber ht hE hB g2 (fun e a' ha => fin _ a' _ ha (by omega) (zc_e4 ht e)) (fun e a' ha => fin _ a' _ ha (by omega) (zc_e5 ht e))
            (fun e w a' ha => fin _ a' _ ha (by omega) (zc_e9a ht e w)) (fun e w => fin _ _ _ hE (by omega) (zc_e9b ht e w)) (by omega)
end
end
section
/-! the reference: cells of a number, readiness, a step -/
theorem zy_w3 {k : Nat} (h : k < 10) : zp_w k = 3 := if_pos h
theorem zy_w2 {l : Nat} (h : l < 5) : zp_w (10 + l) = 2 := by unfold zp_w; rw [if_neg (by omega), if_pos (by omega)]
theorem zy_s3 {k : Nat} (h : k < 10) : zp_s zp_w 0 k = 3 * k := by rw [zp_sY k (by omega), if_pos (by omega)]
theorem zy_s2 {l : Nat} (h : l < 5) : zp_s zp_w 0 (10 + l) = 30 + 2 * l := by
  rw [zp_sY (10 + l) (by omega)]
  split <;> omega
theorem zy_up {c : Nat → Nat} {k v : Nat} (hc : ∀ j, c j < 2 ^ zp_w j) (hv : v < 2 ^ zp_w k) : ∀ j, zc_up c k v j < 2 ^ zp_w j := by
  intro j
  unfold zc_up
  split
  · rename_i h; rw [h]; exact hv
  · exact hc j
section
variable {c : Nat → Nat}
theorem zy_get {post : Int32 → Prop} (hc : ∀ j, c j < 2 ^ zp_w j) (k : Nat) (hk : k < 16) {sh mask : Int32} (hs : sh = nI (zp_s zp_w 0 k)) (hm : mask = nI (2 ^ zp_w k - 1))
    (hp : post (nI (c k))) : wpY_get post (lN (zp_Y c)) sh mask := by
  show post (((lN (zp_Y c) >>> (sh.toInt64 &&& 63)).toInt32) &&& mask)
  rw [hs, hm, zp_getY hc hk]
  exact hp
theorem zy_variable {post : Int32 → Prop} (hc : ∀ j, c j < 2 ^ zp_w j) {v : Nat} (hv : v < 4) (hp : post (nI (c v))) : wpY_variable post (lN (zp_Y c)) (nI v) :=
  zy_get hc v (by omega) (by rw [zy_s3 (by omega)]; exact pk_mul 3 v) (by rw [zy_w3 (by omega)]; rfl) hp
theorem zy_acc {post : Int32 → Prop} (hc : ∀ j, c j < 2 ^ zp_w j) {t : Nat} (ht : t < 3) (hp : post (nI (c (4 + t)))) : wpY_acc post (lN (zp_Y c)) (nI t) :=
  zy_get hc (4 + t) (by omega) (by
    rw [zy_s3 (by omega)]
    have e : 3 * nI t = nI (3 * t) := pk_mul 3 t
    rw [e]
    have e2 : 12 + nI (3 * t) = nI (12 + 3 * t) := nI_add 12 _
    rw [e2]; exact congrArg nI (by omega)) (by rw [zy_w3 (by omega)]; rfl) hp
theorem zy_i21 (t : Nat) : 21 + 3 * nI t = nI (3 * (7 + t)) := by
  have e : 3 * nI t = nI (3 * t) := pk_mul 3 t
  rw [e]
  have e2 : 21 + nI (3 * t) = nI (21 + 3 * t) := nI_add 21 _
  rw [e2]; exact congrArg nI (by omega)
theorem zy_i12 (t : Nat) : 12 + 3 * nI t = nI (3 * (4 + t)) := by
  have e : 3 * nI t = nI (3 * t) := pk_mul 3 t
  rw [e]
  have e2 : 12 + nI (3 * t) = nI (12 + 3 * t) := nI_add 12 _
  rw [e2]; exact congrArg nI (by omega)
theorem zy_i30 (l : Nat) : 30 + 2 * nI l = nI (30 + 2 * l) := by
  have e : 2 * nI l = nI (2 * l) := pk_mul 2 l
  rw [e]; exact nI_add 30 _
theorem zy_i34 (l : Nat) : 34 + 2 * nI l = nI (30 + 2 * (2 + l)) := by
  have e : 2 * nI l = nI (2 * l) := pk_mul 2 l
  rw [e]
  have e2 : 34 + nI (2 * l) = nI (34 + 2 * l) := nI_add 34 _
  rw [e2]; exact congrArg nI (by omega)
theorem zy_place {post : Int32 → Prop} (hc : ∀ j, c j < 2 ^ zp_w j) {t : Nat} (ht : t < 3) (hp : post (nI (c (7 + t)))) : wpY_place post (lN (zp_Y c)) (nI t) :=
  zy_get hc (7 + t) (by omega) (by rw [zy_s3 (by omega)]; exact zy_i21 t) (by rw [zy_w3 (by omega)]; rfl) hp
theorem zy_owner {post : Int32 → Prop} (hc : ∀ j, c j < 2 ^ zp_w j) {l : Nat} (hl : l < 2) (hp : post (nI (c (10 + l)))) : wpY_owner post (lN (zp_Y c)) (nI l) :=
  zy_get hc (10 + l) (by omega) (by rw [zy_s2 (by omega)]; exact zy_i30 l) (by rw [zy_w2 (by omega)]; rfl) hp
theorem zy_12 (t : Nat) : 12 + t = 10 + (2 + t) := by omega
theorem zy_waiting {post : Int32 → Prop} (hc : ∀ j, c j < 2 ^ zp_w j) {t : Nat} (ht : t < 3) (hp : post (nI (c (12 + t)))) : wpY_waiting post (lN (zp_Y c)) (nI t) :=
  zy_get hc (12 + t) (by omega) (by rw [zy_12, zy_s2 (by omega)]; exact zy_i34 t) (by rw [zy_12, zy_w2 (by omega)]; rfl) hp
theorem zy_bad {post : Int32 → Prop} (hc : ∀ j, c j < 2 ^ zp_w j) (hp : post (nI (c 15))) : wpY_bad post (lN (zp_Y c)) :=
  zy_get hc 15 (by omega) (by rfl) (by rfl) hp
theorem zy_put {post : Int64 → Prop} (hc : ∀ j, c j < 2 ^ zp_w j) (k : Nat) (hk : k < 16) {sh : Int32} {mask v : Int64} (hs : sh = nI (zp_s zp_w 0 k)) (hm : mask = lN (2 ^ zp_w k - 1))
    {x : Nat} (hv : v = lN x) (hx : x < 2 ^ 63) (hp : post (lN (zp_Y (zc_up c k (x % 2 ^ zp_w k))))) : wpY_put post (lN (zp_Y c)) sh mask v := by
  have h2 : ∀ k, k < 16 → zp_s zp_w 0 k < 64 ∧ zp_w k < 64 := by decide
  show post ((lN (zp_Y c) &&& ((mask <<< (sh.toInt64 &&& 63)) ^^^ (-1))) ||| ((v &&& mask) <<< (sh.toInt64 &&& 63)))
  rw [hs, hm, hv, wb_shl _ (h2 k hk).1, wb_mask (by omega) (h2 k hk).2, wb_shl _ (h2 k hk).1, zp_putY hc hk (Nat.mod_lt _ (Nat.two_pow_pos _))]
  exact hp
/-- put at a cell of three bits -/
theorem zy_put3 {post : Int64 → Prop} (hc : ∀ j, c j < 2 ^ zp_w j) (k : Nat) (hk : k < 10) {sh : Int32} {v : Int64} (hs : sh = nI (3 * k))
    {x : Nat} (hv : v = lN x) (hx : x < 2 ^ 63) (hp : post (lN (zp_Y (zc_up c k (x % 8))))) : wpY_put post (lN (zp_Y c)) sh 7 v :=
  zy_put hc k (by omega) (by rw [zy_s3 hk]; exact hs) (by rw [zy_w3 hk]; rfl) hv hx (by rw [zy_w3 hk]; exact hp)
theorem zy_put2 {post : Int64 → Prop} (hc : ∀ j, c j < 2 ^ zp_w j) (l : Nat) (hl : l < 5) {sh : Int32} {v : Int64} (hs : sh = nI (30 + 2 * l))
    {x : Nat} (hv : v = lN x) (hx : x < 2 ^ 63) (hp : post (lN (zp_Y (zc_up c (10 + l) (x % 4))))) : wpY_put post (lN (zp_Y c)) sh 3 v :=
  zy_put hc (10 + l) (by omega) (by rw [zy_s2 hl]; exact hs) (by rw [zy_w2 hl]; rfl) hv hx (by rw [zy_w2 hl]; exact hp)
theorem zy_up3 {k v : Nat} (hc : ∀ j, c j < 2 ^ zp_w j) (hk : k < 10) (hv : v < 8) : ∀ j, zc_up c k v j < 2 ^ zp_w j := zy_up hc (by rw [zy_w3 hk]; exact hv)
theorem zy_up2 {l v : Nat} (hc : ∀ j, c j < 2 ^ zp_w j) (hl : l < 5) (hv : v < 4) : ∀ j, zc_up c (10 + l) v j < 2 ^ zp_w j := zy_up hc (by rw [zy_w2 hl]; exact hv)
theorem zy_orm (x m : Int64) : x ||| m = (x &&& (m ^^^ (-1))) ||| m := by
  apply wb_inj
  have hm1 : (-1 : Int64).toBitVec = BitVec.allOnes 64 := by decide
  rw [Int64.toBitVec_or, Int64.toBitVec_or, Int64.toBitVec_and, Int64.toBitVec_xor, hm1]
  apply BitVec.eq_of_getLsbD_eq
  intro i hi
  rw [BitVec.getLsbD_or, BitVec.getLsbD_or, BitVec.getLsbD_and, BitVec.getLsbD_xor, BitVec.getLsbD_allOnes]
  cases x.toBitVec.getLsbD i <;> cases m.toBitVec.getLsbD i <;> simp [hi]
theorem zy_or40 (hc : ∀ j, c j < 2 ^ zp_w j) : lN (zp_Y c) ||| 1099511627776 = lN (zp_Y (zc_up c 15 1)) := by
  have h := zp_putY hc (k := 15) (v := 1) (by omega) (by decide)
  have e1 : lN ((2 ^ zp_w 15 - 1) * 2 ^ zp_s zp_w 0 15) = 1099511627776 := by rfl
  have e2 : lN (1 * 2 ^ zp_s zp_w 0 15) = 1099511627776 := by rfl
  rw [e1, e2] at h
  rw [zy_orm, h]
end
section
variable {o g L c : Nat → Nat} {t : Nat} {f_steps f_count f_known f_different : Int32} {a_ops a_args a_length a_next a_table a_far a_found a_who a_what a_tried : Nat → Int32} {a_path a_list a_before : Nat → Int64}
theorem zy_isReady {post : Int32 → Prop} (hC : zx_C o g L a_ops a_args a_length) (hV : zc_V o L c) (ht : t < 3)
    (h1 : zc_R o g L c t → post 1) (h0 : ¬ zc_R o g L c t → post 0) : wpY_isReady post (f_steps, f_count, f_known, f_different, a_ops, a_args, a_length, a_path, a_list, a_next, a_table, a_far, a_found, a_who, a_what, a_before, a_tried) (lN (zp_Y c)) (nI t) := by
  have hB := zp_bX (zx_L5 hC) hV
  have hc := zp_bY (zx_L5 hC) hV
  have hL := (hC.1 t ht).1
  have hb12 := hB (12 + t)
  have hb7 := hB (7 + t)
  have hv7 := hV.2.1 t ht
  have hw := hV.2.2.2.1 t ht
  unfold wpY_isReady
  refine zy_place hc ht (pk_eq (c (7 + t)) 5 (fun e => h0 fun hR => by have := hR.1; omega) (fun e5 => ?_) rfl rfl (by omega) (by omega))
  have hp : c (7 + t) < L t := by omega
  refine zy_waiting hc ht (pk_eq (c (12 + t)) 1 (fun e => h0 fun hR => hR.2.1 e) (fun e1 => nm_r (zy_pc t _) ?_) rfl rfl (by omega) (by omega))
  have hk : zc_pc c t < 15 := by unfold zc_pc; omega
  have hG := (hC.1 t ht).2 _ hp
  have hop : a_ops (nI (5 * t + c (7 + t))).toNatClampNeg = nI (o (zc_pc c t)) := zx_op hC rfl hk
  have har : a_args (nI (5 * t + c (7 + t))).toNatClampNeg = nI (g (zc_pc c t)) := zx_ar hC rfl hk
  have ik : vp_in (nI (5 * t + c (7 + t))) 15 := pk_in _ 15 hk
  have ho11 : o (zc_pc c t) ≤ 11 := hG.1
  have hlock : (o (zc_pc c t) = 7 ∨ c (12 + t) = 2) → wY_isReady_65 post (lN (zp_Y c)) (nI (5 * t + c (7 + t))) f_steps f_count f_known f_different a_ops a_args a_length a_path a_list a_next a_table a_far a_found a_who a_what a_before a_tried := by
    intro hl
    have h2 : g (zc_pc c t) < 2 := by
      refine hG.2.2.2.1 ?_
      rcases hl with h | h
      · exact Or.inl h
      · rcases hw with h3 | h3
        · omega
        · exact Or.inr (Or.inr (Or.inl h3.2.2))
    have hb10 := hB (10 + g (zc_pc c t))
    refine br_f (by decide) (And.intro ik ?_)
    rw [har]
    exact zy_owner hc h2 (pk_eq (c (10 + g (zc_pc c t))) 0 (fun e => h1 ⟨hp, e1, fun _ => e⟩) (fun e => h0 fun hR => e (hR.2.2 hl)) rfl rfl (by omega) (by omega))
  refine And.intro ik (pk_eq (o (zc_pc c t)) 7 (fun e => hlock (Or.inl e)) (fun e7 => And.intro ik ?_) hop rfl (by omega) (by omega))
  refine pk_eq (o (zc_pc c t)) 10 (fun e10 => ?_) (fun e10 => ?_) hop rfl (by omega) (by omega)
  · refine zy_waiting hc ht (pk_eq (c (12 + t)) 2 (fun e => hlock (Or.inr e)) (fun e2 => ?_) rfl rfl (by omega) (by omega))
    exact br_t rfl (h1 ⟨hp, e1, fun h => absurd h (by omega)⟩)
  · refine br_t rfl (h1 ⟨hp, e1, fun h => ?_⟩)
    rcases h with h | h
    · exact absurd h e7
    · rcases hw with h3 | h3
      · omega
      · exact absurd h3.2.2 e10
theorem zy_isEnd {post : Int32 → Prop} (hC : zx_C o g L a_ops a_args a_length) (hV : zc_V o L c)
    (h1 : zt_end o g L c → post 1) (h0 : ¬ zt_end o g L c → post 0) : wpY_isEnd post (f_steps, f_count, f_known, f_different, a_ops, a_args, a_length, a_path, a_list, a_next, a_table, a_far, a_found, a_who, a_what, a_before, a_tried) (lN (zp_Y c)) := by
  unfold wpY_isEnd
  refine zy_isReady (t := 0) hC hV (by omega) (fun a0 => br_f (by decide) (h0 fun h => h 0 (by omega) a0)) (fun a0 => br_t rfl ?_)
  refine zy_isReady (t := 1) hC hV (by omega) (fun a1 => br_f (by decide) (h0 fun h => h 1 (by omega) a1)) (fun a1 => br_t rfl ?_)
  refine zy_isReady (t := 2) hC hV (by omega) (fun a2 => br_f (by decide) (h0 fun h => h 2 (by omega) a2)) (fun a2 => br_t rfl (h1 fun t ht => ?_))
  have : t = 0 ∨ t = 1 ∨ t = 2 := by omega
  rcases this with e | e | e <;> subst e <;> assumption
theorem zy_isDone {post : Int32 → Prop} (hC : zx_C o g L a_ops a_args a_length) (hV : zc_V o L c)
    (h1 : (∀ t, t < 3 → ¬ c (7 + t) < L t) → post 1) (h0 : ¬ (∀ t, t < 3 → ¬ c (7 + t) < L t) → post 0) : wpY_isDone post (lN (zp_Y c)) := by
  have hB := zp_bX (zx_L5 hC) hV
  have hc := zp_bY (zx_L5 hC) hV
  have key : ∀ t, t < 3 → (c (7 + t) = 5 ↔ ¬ c (7 + t) < L t) := by
    intro t ht
    have := hV.2.1 t ht
    have := zx_L5 hC t ht
    omega
  have b0 := hB (7 + 0)
  have b1 := hB (7 + 1)
  have b2 := hB (7 + 2)
  unfold wpY_isDone
  refine zy_place (t := 0) hc (by omega) (pk_eq (c (7 + 0)) 5 (fun a0 => ?_) (fun a0 => h0 fun h => a0 ((key 0 (by omega)).mpr (h 0 (by omega)))) rfl rfl (by omega) (by omega))
  refine zy_place (t := 1) hc (by omega) (pk_eq (c (7 + 1)) 5 (fun a1 => ?_) (fun a1 => h0 fun h => a1 ((key 1 (by omega)).mpr (h 1 (by omega)))) rfl rfl (by omega) (by omega))
  refine zy_place (t := 2) hc (by omega) (pk_eq (c (7 + 2)) 5 (fun a2 => h1 fun t ht => ?_) (fun a2 => h0 fun h => a2 ((key 2 (by omega)).mpr (h 2 (by omega)))) rfl rfl (by omega) (by omega))
  have : t = 0 ∨ t = 1 ∨ t = 2 := by omega
  rcases this with e | e | e <;> subst e
  · exact (key 0 (by omega)).mp a0
  · exact (key 1 (by omega)).mp a1
  · exact (key 2 (by omega)).mp a2
theorem zy_fin {post : Int64 → Prop} (hC : zx_C o g L a_ops a_args a_length) (ht : t < 3) {d : Nat → Nat} (hd : ∀ j, d j < 2 ^ zp_w j) {x4 x9 : Int32} {n : Nat}
    (he : x4 + x9 = nI n) (hn : n < 2 ^ 31) (hp : post (lN (zp_Y (zc_up d (7 + t) (zc_pl L t n))))) :
    wY_after_359 post (nI t) x4 x9 (lN (zp_Y d)) f_steps f_count f_known f_different a_ops a_args a_length a_path a_list a_next a_table a_far a_found a_who a_what a_before a_tried := by
  have hL := (hC.1 t ht).1
  refine And.intro (pk_in t 3 ht) (pk_lt n (L t) (fun h => ?_) (fun h => ?_) he (zx_ln hC rfl ht) hn (by omega))
  · have e : zc_pl L t n = n := by unfold zc_pl; rw [if_pos h]
    rw [e] at hp
    refine zy_put3 hd (7 + t) (by omega) (zy_i21 t) (x := n) (by rw [he]; exact nI_l hn) (by omega) ?_
    rw [Nat.mod_eq_of_lt (by omega)]
    exact hp
  · have e : zc_pl L t n = 5 := by unfold zc_pl; rw [if_neg (by omega)]
    rw [e] at hp
    exact zy_put3 hd (7 + t) (by omega) (zy_i21 t) (x := 5) (by rfl) (by omega) hp
end
end
section
/-! the reference: a step -/
section
variable {o g L c : Nat → Nat} {t : Nat} {f_steps f_count f_known f_different : Int32} {a_ops a_args a_length a_next a_table a_far a_found a_who a_what a_tried : Nat → Int32} {a_path a_list a_before : Nat → Int64}
theorem zy_nf {v n : Nat} (hc : ∀ j, c j < 2 ^ zp_w j) (hn : n ≤ 3) : ∀ j, zc_nf g c v n j < 2 ^ zp_w j := by
  intro j
  unfold zc_nf
  split
  · rename_i h
    have e : j = 10 + (j - 10) := by omega
    rw [e, zy_w2 (by omega)]; decide
  · exact hc j
theorem zy_notify {post : Int64 → Prop} {v : Nat} (hC : zx_C o g L a_ops a_args a_length) (hV : zc_V o L c) (hv : v < 2)
    (hp : post (lN (zp_Y (zc_nf g c v 3)))) : ∃ n, wY_locked_156 post (lN (zp_Y c)) (nI v) f_steps f_count f_known f_different a_ops a_args a_length a_path a_list a_next a_table a_far a_found a_who a_what a_before a_tried n (lN (zp_Y c)) 0 := by
  have hB := zp_bX (zx_L5 hC) hV
  have hc := zp_bY (zx_L5 hC) hV
  have key : ∀ d n, n + d = 3 → wY_locked_156 post (lN (zp_Y c)) (nI v) f_steps f_count f_known f_different a_ops a_args a_length a_path a_list a_next a_table a_far a_found a_who a_what a_before a_tried (d + 1) (lN (zp_Y (zc_nf g c v n))) (nI n) := by
    intro d
    induction d with
    | zero =>
      intro n hn
      have e : n = 3 := by omega
      subst e
      exact br_t (by decide) hp
    | succ d ih =>
      intro n hn
      have hb12 := hB (12 + n)
      refine br_f (nI_ge (b := 3) (by omega) (by decide)) (zy_waiting hc (by omega) (pk_eq (c (12 + n)) 1 (fun e1 => ?_) (fun e1 => ?_) rfl rfl (by omega) (by omega)))
      · have hp7 : c (7 + n) < L n := by
          rcases hV.2.2.2.1 n (by omega) with h | h
          · omega
          · exact h.2.1
        have hL := zx_L5 hC n (by omega)
        have hk : zc_pc c n < 15 := by unfold zc_pc; omega
        have hG := (hC.1 n (by omega)).2 _ hp7
        have hg8 : g (zc_pc c n) < 8 := hG.2.1
        refine zy_place hc (by omega) (nm_r (zy_pc n _) (And.intro (pk_in _ 15 hk) ?_))
        refine pk_eq (g (zc_pc c n)) v (fun e2 => ?_) (fun e2 => nm_r (nI_1 n) ?_) (zx_ar hC rfl hk) rfl (by omega) (by omega)
        · refine zy_put2 (zy_nf hc (by omega)) (2 + n) (by omega) (zy_i34 n) (x := 2) (by rfl) (by omega) (nm_r (nI_1 n) ?_)
          have := ih (n + 1) (by omega)
          rw [zc_nf_y e1 e2] at this
          have e12 : 10 + (2 + n) = 12 + n := by omega
          have e24 : 2 % 4 = 2 := rfl
          rw [e12, e24]
          exact this
        · have := ih (n + 1) (by omega)
          rw [zc_nf_n (fun h => e2 h.2)] at this
          exact this
      · have := ih (n + 1) (by omega)
        rw [zc_nf_n (fun h => e1 h.1)] at this
        exact nm_r (nI_1 n) this
  have := key 3 0 rfl
  rw [zc_nf_0] at this
  exact ⟨4, this⟩
theorem zy_l1 (t : Nat) (ht : t < 3) : (nI t + 1).toInt64 = lN (t + 1) := by rw [nI_1]; exact nI_l (by omega)
theorem zy_locked {post : Int64 → Prop} {op v : Nat} (hC : zx_C o g L a_ops a_args a_length) (hV : zc_V o L c) (ht : t < 3) (hv : v < 2)
    (h8a : op = 8 → c (10 + v) = t + 1 → post (lN (zp_Y (zc_up c (10 + v) 0))))
    (h8b : op = 8 → c (10 + v) ≠ t + 1 → post (lN (zp_Y c)))
    (h10a : op = 10 → c (12 + t) = 2 → post (lN (zp_Y (zc_up (zc_up c (12 + t) 0) (10 + v) (t + 1)))))
    (h10b : op = 10 → c (12 + t) ≠ 2 → c (10 + v) ≠ t + 1 → post (lN (zp_Y c)))
    (h10c : op = 10 → c (12 + t) ≠ 2 → c (10 + v) = t + 1 → post (lN (zp_Y (zc_up (zc_up c (10 + v) 0) (12 + t) 1))))
    (h11 : op = 11 → post (lN (zp_Y (zc_nf g c v 3)))) (ho : op = 8 ∨ op = 10 ∨ op = 11) :
    wpY_locked post (f_steps, f_count, f_known, f_different, a_ops, a_args, a_length, a_path, a_list, a_next, a_table, a_far, a_found, a_who, a_what, a_before, a_tried) (lN (zp_Y c)) (nI t) (nI op) (nI v) := by
  have hB := zp_bX (zx_L5 hC) hV
  have hc := zp_bY (zx_L5 hC) hV
  have hb10 := hB (10 + v)
  have hb12 := hB (12 + t)
  unfold wpY_locked
  rcases ho with e | e | e <;> subst e
  · refine zy_owner hc hv (pk_eq (c (10 + v)) (t + 1) (fun w => ?_) (fun w => ?_) rfl (nI_1 t) (by omega) (by omega))
    · exact br_t rfl (br_f (by decide) (zy_put2 hc v (by omega) (zy_i30 v) (x := 0) (by rfl) (by omega) (by rw [Nat.zero_mod]; exact h8a rfl w)))
    · exact br_t rfl (br_t rfl (h8b rfl w))
  · have h2 : c (12 + t) = 2 → wpY_put (fun r_22 => (wpY_put (fun r_23 => (post r_23)) r_22 (30 + (2 * nI v)) 3 ((nI t + 1).toInt64))) (lN (zp_Y c)) (34 + (2 * nI t)) 3 0 := by
      intro w2
      refine zy_put2 hc (2 + t) (by omega) (zy_i34 t) (x := 0) (by rfl) (by omega) ?_
      rw [Nat.zero_mod]
      refine zy_put2 (zy_up2 hc (by omega) (by omega)) v (by omega) (zy_i30 v) (x := t + 1) (zy_l1 t ht) (by omega) ?_
      rw [Nat.mod_eq_of_lt (show t + 1 < 4 by omega)]
      have e12 : 10 + (2 + t) = 12 + t := by omega
      rw [e12]
      exact h10a rfl w2
    refine zy_owner hc hv (pk_eq (c (10 + v)) (t + 1) (fun w => ?_) (fun w => ?_) rfl (nI_1 t) (by omega) (by omega))
    · refine br_f (by decide) (br_t rfl (zy_waiting hc ht (pk_eq (c (12 + t)) 2 h2 (fun w2 => ?_) rfl rfl (by omega) (by omega))))
      refine br_t rfl (br_f (by decide) (zy_put2 hc v (by omega) (zy_i30 v) (x := 0) (by rfl) (by omega) ?_))
      rw [Nat.zero_mod]
      refine zy_put2 (zy_up2 hc (by omega) (by omega)) (2 + t) (by omega) (zy_i34 t) (x := 1) (by rfl) (by omega) ?_
      have e12 : 10 + (2 + t) = 12 + t := by omega
      have e14 : 1 % 4 = 1 := rfl
      rw [e12, e14]
      exact h10c rfl w2 w
    · refine br_f (by decide) (br_t rfl (zy_waiting hc ht (pk_eq (c (12 + t)) 2 h2 (fun w2 => ?_) rfl rfl (by omega) (by omega))))
      exact br_t rfl (br_t rfl (h10b rfl w2 w))
  · have h3 := zy_notify (post := post) (f_steps := f_steps) (f_count := f_count) (f_known := f_known) (f_different := f_different) (a_ops := a_ops) (a_args := a_args) (a_length := a_length) (a_path := a_path) (a_list := a_list) (a_next := a_next) (a_table := a_table) (a_far := a_far) (a_found := a_found) (a_who := a_who) (a_what := a_what) (a_before := a_before) (a_tried := a_tried) hC hV hv (h11 rfl)
    refine zy_owner hc hv (pk_eq (c (10 + v)) (t + 1) (fun w => ?_) (fun w => ?_) rfl (nI_1 t) (by omega) (by omega))
    · exact br_f (by decide) (br_f (by decide) (br_f (by decide) h3))
    · exact br_f (by decide) (br_f (by decide) (br_f (by decide) h3))
/-- a step of a thread that is ready -/
theorem zy_after {post : Int64 → Prop} (hC : zx_C o g L a_ops a_args a_length) (hV : zc_V o L c) (ht : t < 3) (hR : zc_R o g L c t)
    (hp : post (lN (zp_Y (zc_step o g L c t)))) : wpY_after post (f_steps, f_count, f_known, f_different, a_ops, a_args, a_length, a_path, a_list, a_next, a_table, a_far, a_found, a_who, a_what, a_before, a_tried) (lN (zp_Y c)) (nI t) := by
  have hB := zp_bX (zx_L5 hC) hV
  have hc := zp_bY (zx_L5 hC) hV
  have hL := (hC.1 t ht).1
  have h7 := hR.1
  have hG := zc_R_G hC.1 ht hR
  have hk : zc_pc c t < 15 := by unfold zc_pc; omega
  have epc : 5 * nI t + nI (c (7 + t)) = nI (zc_pc c t) := zy_pc t _
  have hop : a_ops (5 * nI t + nI (c (7 + t))).toNatClampNeg = nI (o (zc_pc c t)) := zx_op hC epc hk
  have har : a_args (5 * nI t + nI (c (7 + t))).toNatClampNeg = nI (g (zc_pc c t)) := zx_ar hC epc hk
  have ik : vp_in (5 * nI t + nI (c (7 + t))) 15 := pk_in _ 15 hk epc
  have hb4 := hB (4 + t)
  have hb12 := hB (12 + t)
  have hw := hV.2.2.2.1 t ht
  have hr1 := hR.2.1
  obtain ⟨g1, g2, g3, g4, g5⟩ := hG
  have go1 : ∀ (d : Nat → Nat), (∀ j, d j < 2 ^ zp_w j) → zc_up d (7 + t) (zc_pl L t (c (7 + t) + 1)) = zc_step o g L c t →
      wY_after_359 post (nI t) (nI (c (7 + t))) 1 (lN (zp_Y d)) f_steps f_count f_known f_different a_ops a_args a_length a_path a_list a_next a_table a_far a_found a_who a_what a_before a_tried := by
    intro d hd he
    exact zy_fin hC ht hd (nI_1 _) (by omega) (by rw [he]; exact hp)
  unfold wpY_after
  refine zy_place hc ht (And.intro ik (nm_r hop (And.intro ik (nm_r har (zy_acc hc ht ?_)))))
  have hlk : (o (zc_pc c t) = 8 ∨ o (zc_pc c t) = 10 ∨ o (zc_pc c t) = 11) →
      wY_after_330 post (lN (zp_Y c)) (nI t) (nI (c (7 + t))) (nI (o (zc_pc c t))) (nI (g (zc_pc c t))) f_steps f_count f_known f_different a_ops a_args a_length a_path a_list a_next a_table a_far a_found a_who a_what a_before a_tried := by
    intro hl
    have hg2 := g4 (by omega)
    unfold wY_after_330
    have w1 : ∀ (d : Nat → Nat), (∀ j, d j < 2 ^ zp_w j) → d (12 + t) ≠ 1 → zc_up d (7 + t) (zc_pl L t (c (7 + t) + 1)) = zc_step o g L c t →
        wpY_waiting (fun r_28 => (((r_28 = 1 → (wY_after_357 post (nI t) (nI (c (7 + t))) (lN (zp_Y d)) 0 f_steps f_count f_known f_different a_ops a_args a_length a_path a_list a_next a_table a_far a_found a_who a_what a_before a_tried)) ∧ (¬ r_28 = 1 → (wY_after_357 post (nI t) (nI (c (7 + t))) (lN (zp_Y d)) 1 f_steps f_count f_known f_different a_ops a_args a_length a_path a_list a_next a_table a_far a_found a_who a_what a_before a_tried))))) (lN (zp_Y d)) (nI t) := by
      intro d hd hn he
      have hd12 : d (12 + t) < 4 := by
        have := hd (12 + t)
        rw [zy_12, zy_w2 (by omega)] at this
        rw [zy_12]; exact this
      exact zy_waiting hd ht (pk_eq (d (12 + t)) 1 (fun e => absurd e hn) (fun _ => go1 d hd he) rfl rfl (by omega) (by omega))
    refine zy_locked hC hV ht hg2 (fun e w => ?_) (fun e w => ?_) (fun e w => ?_) (fun e w w2 => ?_) (fun e w w2 => ?_) (fun e => ?_) hl
    · refine w1 _ (zy_up2 hc (by omega) (by omega)) ?_ (zc_e8a ht e hg2 w)
      rw [zc_up_n (by omega)]; exact hr1
    · exact w1 _ hc hr1 (zc_e8b ht e w)
    · have hd : ∀ j, zc_up (zc_up c (12 + t) 0) (10 + g (zc_pc c t)) (t + 1) j < 2 ^ zp_w j := by
        refine zy_up2 ?_ (by omega) (by omega)
        rw [zy_12]
        exact zy_up2 hc (by omega) (by omega)
      refine w1 _ hd ?_ (zc_e10a ht e hg2 w)
      rw [zc_up_n (by omega), zc_up_s]; omega
    · exact w1 _ hc hr1 (zc_e10b ht e w w2)
    · have hd : ∀ j, zc_up (zc_up c (10 + g (zc_pc c t)) 0) (12 + t) 1 j < 2 ^ zp_w j := by
        rw [zy_12]
        exact zy_up2 (zy_up2 hc (by omega) (by omega)) (by omega) (by omega)
      refine zy_waiting hd ht ?_
      rw [zc_up_s]
      refine br_t rfl (zy_fin hC ht hd (n := c (7 + t)) ?_ (by omega) ?_)
      · exact nI_add _ 0
      · have e2 : zc_pl L t (c (7 + t)) = c (7 + t) := by unfold zc_pl; rw [if_pos h7]
        rw [e2, zc_e10c ht e hg2 w w2]
        exact hp
    · refine w1 _ (zy_nf hc (by omega)) ?_ (zc_e11 ht e)
      unfold zc_nf
      rw [if_neg (fun h => hr1 h.2.2.1)]
      exact hr1
  have f0 : ¬ nI (o (zc_pc c t)) < 0 := nI_pos (by omega)
  refine pk_le 4 (o (zc_pc c t)) (fun h4 => br_f f0 ?_) (fun h4 => zy_variable hc (g3 (by omega)) (br_f f0 ?_)) rfl rfl (by omega) (by omega)
  · refine pk_lt 9 (o (zc_pc c t)) (fun h9 => hlk (by omega)) (fun h9 => ?_) rfl rfl (by omega) (by omega)
    refine pk_eq _ 0 (fun e => by omega) (fun _ => pk_eq _ 1 (fun e => by omega) (fun _ => pk_eq _ 2 (fun e => by omega) (fun _ => pk_eq _ 3 (fun e => by omega) (fun _ => ?_) rfl rfl (by omega) (by omega)) rfl rfl (by omega) (by omega)) rfl rfl (by omega) (by omega)) rfl rfl (by omega) (by omega)
    refine pk_eq _ 4 (fun e => ?_) (fun n4 => ?_) rfl rfl (by omega) (by omega)
    · refine zy_put3 hc (4 + t) (by omega) (zy_i12 t) (x := g (zc_pc c t)) (nI_l (by omega)) (by omega) ?_
      rw [Nat.mod_eq_of_lt g2]
      exact go1 _ (zy_up3 hc (by omega) g2) (zc_e4 ht e)
    refine pk_eq _ 5 (fun e => ?_) (fun n5 => ?_) rfl rfl (by omega) (by omega)
    · refine zy_put3 hc (4 + t) (by omega) (zy_i12 t) (x := c (4 + t) + g (zc_pc c t)) (by rw [nI_add]; exact nI_l (by omega)) (by omega) ?_
      exact go1 _ (zy_up3 hc (by omega) (by omega)) (zc_e5 ht e)
    refine pk_eq _ 6 (fun e => ?_) (fun n6 => ?_) rfl rfl (by omega) (by omega)
    · have h8 := g5 e
      refine pk_eq (c (4 + t)) 0 (fun w => ?_) (fun w => ?_) rfl rfl (by omega) (by omega)
      · refine zy_fin hC ht hc (n := c (7 + t) + 1 + g (zc_pc c t)) ?_ (by omega) (by rw [zc_e6a ht e w]; exact hp)
        have e1 : 1 + nI (g (zc_pc c t)) = nI (1 + g (zc_pc c t)) := nI_add 1 _
        rw [e1, nI_add, Nat.add_assoc]
      · exact go1 _ hc (zc_e6b ht e w)
    refine pk_eq _ 7 (fun e => ?_) (fun n7 => ?_) rfl rfl (by omega) (by omega)
    · have hg2 := g4 (by omega)
      refine zy_put2 hc (g (zc_pc c t)) (by omega) (zy_i30 _) (x := t + 1) (zy_l1 t ht) (by omega) ?_
      rw [Nat.mod_eq_of_lt (show t + 1 < 4 by omega)]
      exact go1 _ (zy_up2 hc (by omega) (by omega)) (zc_e7 ht e hg2)
    refine pk_eq _ 8 (fun e => hlk (by omega)) (fun n8 => ?_) rfl rfl (by omega) (by omega)
    refine pk_eq _ 9 (fun e => ?_) (fun n9 => by omega) rfl rfl (by omega) (by omega)
    refine pk_eq (c (4 + t)) (g (zc_pc c t)) (fun w => go1 _ hc (zc_e9b ht e w)) (fun w => nm_r (zy_or40 hc) ?_) rfl rfl (by omega) (by omega)
    exact go1 _ (zy_up hc (by decide)) (zc_e9a ht e w)
  · have hb := hB (g (zc_pc c t))
    have hg4 := g3 h4
    refine pk_lt 9 (o (zc_pc c t)) (fun h9 => by omega) (fun h9 => ?_) rfl rfl (by omega) (by omega)
    refine pk_eq _ 0 (fun e => ?_) (fun n0 => ?_) rfl rfl (by omega) (by omega)
    · refine zy_put3 hc (4 + t) (by omega) (zy_i12 t) (x := c (g (zc_pc c t))) (nI_l (by omega)) (by omega) ?_
      rw [Nat.mod_eq_of_lt hb]
      exact go1 _ (zy_up3 hc (by omega) hb) (zc_e0 ht e hg4)
    have i3 : 3 * nI (g (zc_pc c t)) = nI (3 * g (zc_pc c t)) := pk_mul 3 _
    refine pk_eq _ 1 (fun e => ?_) (fun n1 => ?_) rfl rfl (by omega) (by omega)
    · refine zy_put3 hc (g (zc_pc c t)) (by omega) i3 (x := c (4 + t)) (nI_l (by omega)) (by omega) ?_
      rw [Nat.mod_eq_of_lt hb4]
      exact go1 _ (zy_up3 hc (by omega) hb4) (zc_e1 ht e hg4)
    refine pk_eq _ 2 (fun e => ?_) (fun n2 => ?_) rfl rfl (by omega) (by omega)
    · refine zy_put3 hc (4 + t) (by omega) (zy_i12 t) (x := c (g (zc_pc c t))) (nI_l (by omega)) (by omega) ?_
      rw [Nat.mod_eq_of_lt hb]
      refine zy_put3 (zy_up3 hc (by omega) hb) (g (zc_pc c t)) (by omega) i3 (x := c (4 + t)) (nI_l (by omega)) (by omega) ?_
      rw [Nat.mod_eq_of_lt hb4]
      exact go1 _ (zy_up3 (zy_up3 hc (by omega) hb) (by omega) hb4) (zc_e2 ht e hg4)
    refine pk_eq _ 3 (fun e => ?_) (fun n3 => by omega) rfl rfl (by omega) (by omega)
    refine zy_put3 hc (g (zc_pc c t)) (by omega) i3 (x := c (g (zc_pc c t)) + 1) (by rw [nI_1]; exact nI_l (by omega)) (by omega) ?_
    exact go1 _ (zy_up3 hc (by omega) (by omega)) (zc_e3 ht e hg4)
end
end
section
/-! the tables of both sides -/
def zh_h (x : Int64) : Nat := (x * (-7046029254386353131)).toBitVec.toNat / 2 ^ 52
theorem zh_lt (x : Int64) : zh_h x < 4096 := by
  unfold zh_h
  have := (x * (-7046029254386353131)).toBitVec.isLt
  omega
theorem zh_y (y : Int64) : ((y.toUInt64 >>> ((52 : Int32).toInt64.toUInt64 &&& Int64.toUInt64 63)).toInt64).toInt32 = nI (y.toBitVec.toNat / 2 ^ 52) := by
  obtain ⟨n, hn, rfl⟩ := wb_of y
  have e : ((lN n).toUInt64 >>> ((52 : Int32).toInt64.toUInt64 &&& Int64.toUInt64 63)).toInt64 = lN (n / 2 ^ 52) := wb_shr (n := n) (k := 52) hn (by omega)
  rw [e, lN_i, wb_tn hn]
theorem zh_eq (x : Int64) : (((x * (-7046029254386353131)).toUInt64 >>> ((52 : Int32).toInt64.toUInt64 &&& Int64.toUInt64 63)).toInt64).toInt32 = nI (zh_h x) := zh_y _
/-- the list l is kept in found and slots -/
def zb_T (pk : (Nat → Nat) → Nat) (l : List (Nat → Nat)) (found : Nat → Int64) (slots : Nat → Int32) : Prop :=
  l.length ≤ 1201 ∧ (∀ i, i < l.length → found i = lN (pk (zb_at l i))) ∧ ∃ q, (∀ j, j < 4096 → slots j = nI (q j)) ∧ zh_I zh_h q found l.length
section
variable {pk : (Nat → Nat) → Nat} {l : List (Nat → Nat)} {found : Nat → Int64} {slots : Nat → Int32} {P : (Nat → Nat) → Prop}
theorem zb_T_new {q : Nat → Nat} {x : Nat → Nat} {d : Nat} (hl : l.length ≤ 1200) (hf : ∀ i, i < l.length → found i = lN (pk (zb_at l i)))
    (hq : ∀ j, j < 4096 → slots j = nI (q j)) (I : zh_I zh_h q found l.length) (hd : d < 4096) (h0 : q ((zh_h (lN (pk x)) + d) % 4096) = 0)
    (h1 : ∀ d', d' < d → q ((zh_h (lN (pk x)) + d') % 4096) ≠ 0) :
    zb_T pk (l ++ [x]) (vp_updL found l.length (lN (pk x))) (upd slots ((zh_h (lN (pk x)) + d) % 4096) (nI (l.length + 1))) := by
  have e1 : (l ++ [x]).length = l.length + 1 := by simp
  refine ⟨by omega, fun i hi => ?_, zc_up q ((zh_h (lN (pk x)) + d) % 4096) (l.length + 1), fun j hj => ?_, ?_⟩
  · rw [e1] at hi
    by_cases e : i = l.length
    · rw [e, pk_uLs, zb_at_new]
    · rw [pk_uLn e, zb_at_app (by omega)]; exact hf i (by omega)
  · unfold upd zc_up
    split
    · rfl
    · exact hq j hj
  · rw [e1]
    exact zh_put I (lN (pk x)) hd h0 h1 (fun i hi => pk_uLn (by omega)) pk_uLs
/-- where the search for the number of x ends, and what is there -/
theorem zb_T_find (T : zb_T pk l found slots) (hinj : ∀ x y, P x → P y → lN (pk x) = lN (pk y) → x = y) (hl : ∀ x, x ∈ l → P x) {x : Nat → Nat} (hx : P x) :
    ∃ d q, d < 4096 ∧ (∀ j, j < 4096 → slots j = nI (q j)) ∧ (∀ j, j < 4096 → q j ≤ l.length) ∧ zh_I zh_h q found l.length ∧
      (∀ d', d' < d → q ((zh_h (lN (pk x)) + d') % 4096) ≠ 0 ∧ found (q ((zh_h (lN (pk x)) + d') % 4096) - 1) ≠ lN (pk x)) ∧
      ((q ((zh_h (lN (pk x)) + d) % 4096) = 0 ∧ x ∉ l) ∨
       (q ((zh_h (lN (pk x)) + d) % 4096) ≠ 0 ∧ found (q ((zh_h (lN (pk x)) + d) % 4096) - 1) = lN (pk x) ∧ q ((zh_h (lN (pk x)) + d) % 4096) - 1 < l.length ∧
         zb_at l (q ((zh_h (lN (pk x)) + d) % 4096) - 1) = x)) := by
  obtain ⟨t1, t2, q, t3, t4⟩ := T
  obtain ⟨d, d1, d2, d3, d4⟩ := zh_find t4 (by omega) (lN (pk x))
  refine ⟨d, q, d1, t3, t4.1, t4, d3, ?_⟩
  rcases d4 with ⟨h1, h2⟩ | ⟨h1, h2, h3⟩
  · refine Or.inl ⟨h1, fun hm => ?_⟩
    obtain ⟨i, hi, e⟩ := zb_mem_at hm
    exact h2 i hi (by rw [t2 i hi, e])
  · refine Or.inr ⟨h1, h3, by omega, ?_⟩
    have hi : q ((zh_h (lN (pk x)) + d) % 4096) - 1 < l.length := by omega
    rw [t2 _ hi] at h3
    exact hinj _ _ (hl _ (zb_at_mem hi)) hx h3
theorem zb_T_0 (hs : ∀ j, j < 4096 → slots j = 0) : zb_T pk [] found slots :=
  ⟨by simp, fun i hi => by simp at hi, fun _ => 0, fun j hj => by rw [hs j hj]; rfl, zh_0 fun _ _ => rfl⟩
end
theorem zh_next (b e : Nat) (hb : b < 4096) : nI ((b + e) % 4096) + 1 - (nI ((b + e) % 4096) + 1) / 4096 * 4096 = nI ((b + (e + 1)) % 4096) := by
  rw [nI_1]
  have h := pk_rem (a := (b + e) % 4096 + 1) (d := 4096) (by omega) (by omega) (by omega)
  refine h.trans (congrArg nI ?_)
  omega
theorem zh_next' (b e : Nat) (hb : b < 4096) : (nI ((b + e) % 4096) + 1) &&& 4095 = nI ((b + (e + 1)) % 4096) := by
  rw [nI_1]
  have h := pk_andN (n := (b + e) % 4096 + 1) (by omega) (m := 4095) 12 (by decide)
  refine h.trans (congrArg nI ?_)
  omega
section
variable {f_steps f_foundCount : Int32} {a_ops a_args a_codeLength a_cell a_cameFrom a_cameBy a_distance a_slots a_isEnding a_walkLeft a_walkAsleep : Nat → Int32} {a_trail a_found a_walkState : Nat → Int64}
/-- the component's search -/
theorem zx_slotOf {post : Int32 → Prop} {x : Int64} {q : Nat → Nat} {n d : Nat} (hn : n ≤ 1201) (hq : ∀ j, j < 4096 → a_slots j = nI (q j)) (hqn : ∀ j, j < 4096 → q j ≤ n)
    (hd : d < 4096) (h1 : ∀ d', d' < d → q ((zh_h x + d') % 4096) ≠ 0 ∧ a_found (q ((zh_h x + d') % 4096) - 1) ≠ x)
    (h2 : q ((zh_h x + d) % 4096) = 0 ∨ (q ((zh_h x + d) % 4096) ≠ 0 ∧ a_found (q ((zh_h x + d) % 4096) - 1) = x))
    (hp : post (nI ((zh_h x + d) % 4096))) : wpX_slotOf post (f_steps, f_foundCount, a_ops, a_args, a_codeLength, a_trail, a_cell, a_found, a_cameFrom, a_cameBy, a_distance, a_slots, a_isEnding, a_walkState, a_walkLeft, a_walkAsleep) x := by
  have hb := zh_lt x
  have sl : ∀ e, a_slots (nI ((zh_h x + e) % 4096)).toNatClampNeg = nI (q ((zh_h x + e) % 4096)) := by
    intro e
    rw [nI_clamp (by omega)]
    exact hq _ (by omega)
  have key : ∀ f e, e + f = d → wX_slotOf_13 post x f_steps f_foundCount a_ops a_args a_codeLength a_trail a_cell a_found a_cameFrom a_cameBy a_distance a_slots a_isEnding a_walkState a_walkLeft a_walkAsleep (f + 1) (nI ((zh_h x + e) % 4096)) (nI e) := by
    intro f
    induction f with
    | zero =>
      intro e he
      have ed : e = d := by omega
      subst ed
      have hqe := hqn ((zh_h x + e) % 4096) (by omega)
      refine br_f (nI_ge (b := 4096) (by omega) (by decide)) (And.intro (vp_in_nI (by omega) (by omega)) ?_)
      refine pk_eq (q ((zh_h x + e) % 4096)) 0 (fun _ => hp) (fun h0 => ?_) (sl e) rfl (by omega) (by omega)
      have e1 : a_slots (nI ((zh_h x + e) % 4096)).toNatClampNeg - 1 = nI (q ((zh_h x + e) % 4096) - 1) := by
        rw [sl e]
        exact pk_sub (b := 1) (by omega)
      refine And.intro (vp_in_nI (by omega) (by omega)) (And.intro (pk_in _ 1201 (by omega) e1) (br_t ?_ hp))
      rw [e1, nI_clamp (by omega)]
      rcases h2 with h2 | h2
      · exact absurd h2 h0
      · exact h2.2
    | succ f ih =>
      intro e he
      have hqe := hqn ((zh_h x + e) % 4096) (by omega)
      have hh := h1 e (by omega)
      refine br_f (nI_ge (b := 4096) (by omega) (by decide)) (And.intro (vp_in_nI (by omega) (by omega)) ?_)
      refine pk_eq (q ((zh_h x + e) % 4096)) 0 (fun h0 => absurd h0 hh.1) (fun h0 => ?_) (sl e) rfl (by omega) (by omega)
      have e1 : a_slots (nI ((zh_h x + e) % 4096)).toNatClampNeg - 1 = nI (q ((zh_h x + e) % 4096) - 1) := by
        rw [sl e]
        exact pk_sub (b := 1) (by omega)
      refine And.intro (vp_in_nI (by omega) (by omega)) (And.intro (pk_in _ 1201 (by omega) e1) (br_f ?_ ?_))
      · rw [e1, nI_clamp (by omega)]; exact hh.2
      · exact And.intro (by decide) (nm_r (zh_next _ e hb) (nm_r (nI_1 e) (ih (e + 1) (by omega))))
  have k0 := key d 0 (by omega)
  have e0 : (zh_h x + 0) % 4096 = zh_h x := by omega
  rw [e0] at k0
  exact nm_r (zh_eq x) ⟨d + 1, k0⟩
theorem zx_keep {post : SX → Prop} {l : List (Nat → Nat)} {x : Nat → Nat} {P : (Nat → Nat) → Prop} {p1 p2 p3 : Int32} (T : zb_T zp_X l a_found a_slots)
    (hinj : ∀ x y, P x → P y → lN (zp_X x) = lN (zp_X y) → x = y) (hl : ∀ x, x ∈ l → P x) (hx : P x)
    (h0 : (x ∈ l ∨ 1200 < l.length) → post (f_steps, nI l.length, a_ops, a_args, a_codeLength, a_trail, a_cell, a_found, a_cameFrom, a_cameBy, a_distance, a_slots, a_isEnding, a_walkState, a_walkLeft, a_walkAsleep))
    (h1 : x ∉ l → l.length ≤ 1200 → ∀ s', zb_T zp_X (l ++ [x]) (vp_updL a_found l.length (lN (zp_X x))) s' →
      post (f_steps, nI (l.length + 1), a_ops, a_args, a_codeLength, a_trail, a_cell, vp_updL a_found l.length (lN (zp_X x)), upd a_cameFrom l.length p1, upd a_cameBy l.length p2, upd a_distance l.length p3, s', a_isEnding, a_walkState, a_walkLeft, a_walkAsleep)) :
    wpX_keep post (f_steps, nI l.length, a_ops, a_args, a_codeLength, a_trail, a_cell, a_found, a_cameFrom, a_cameBy, a_distance, a_slots, a_isEnding, a_walkState, a_walkLeft, a_walkAsleep) (lN (zp_X x)) p1 p2 p3 := by
  obtain ⟨d, q, d1, d2, d3, d4, d5, d6⟩ := zb_T_find T hinj hl hx
  have hlen := T.1
  unfold wpX_keep
  refine zx_slotOf (q := q) (n := l.length) (d := d) hlen d2 d3 d1 d5 ?_ ?_
  · rcases d6 with h | h
    · exact Or.inl h.1
    · exact Or.inr ⟨h.1, h.2.1⟩
  have hq := d3 ((zh_h (lN (zp_X x)) + d) % 4096) (by omega)
  refine And.intro (vp_in_nI (by omega) (by omega)) (pk_eq (q ((zh_h (lN (zp_X x)) + d) % 4096)) 0 (fun e => ?_) (fun e => ?_) ?_ rfl (by omega) (by omega))
  · have hxn : x ∉ l := by
      rcases d6 with h | h
      · exact h.2
      · exact absurd e h.1
    refine pk_le l.length 1200 (fun hle => ?_) (fun hle => h0 (Or.inr hle)) rfl rfl (by omega) (by omega)
    have i1 : vp_in (nI l.length) 1201 := vp_in_nI (by omega) (by omega)
    have ec : (nI l.length).toNatClampNeg = l.length := nI_clamp (by omega)
    have es : (nI ((zh_h (lN (zp_X x)) + d) % 4096)).toNatClampNeg = (zh_h (lN (zp_X x)) + d) % 4096 := nI_clamp (by omega)
    refine And.intro i1 (nm_e (And.intro i1 (nm_e (And.intro i1 (nm_e (And.intro i1 (nm_e (nm_r (nI_1 _) (And.intro (vp_in_nI (by omega) (by omega)) (nm_e ?_))))))))))
    rw [ec, es]
    exact h1 hxn hle _ (zb_T_new hle T.2.1 d2 d4 d1 e fun d' hd' => (d5 d' hd').1)
  · rcases d6 with h | h
    · exact absurd h.1 e
    · refine h0 (Or.inl ?_)
      rw [← h.2.2.2]
      exact zb_at_mem h.2.2.1
  · rw [nI_clamp (by omega)]
    exact d2 _ (by omega)
end
section
variable {f_steps f_count f_known f_different : Int32} {a_ops a_args a_length a_next a_table a_far a_found a_who a_what a_tried : Nat → Int32} {a_path a_list a_before : Nat → Int64}
/-- the reference's search -/
theorem zy_number {post : Int32 → SY → Prop} {l : List (Nat → Nat)} {x : Nat → Nat} {P : (Nat → Nat) → Prop} (T : zb_T zp_Y l a_list a_table) (hle : l.length ≤ 1200)
    (hinj : ∀ x y, P x → P y → lN (zp_Y x) = lN (zp_Y y) → x = y) (hl : ∀ x, x ∈ l → P x) (hx : P x)
    (h0 : ∀ m, m < l.length → zb_at l m = x → post (nI m) (f_steps, nI l.length, f_known, f_different, a_ops, a_args, a_length, a_path, a_list, a_next, a_table, a_far, a_found, a_who, a_what, a_before, a_tried))
    (h1 : x ∉ l → ∀ s', zb_T zp_Y (l ++ [x]) (vp_updL a_list l.length (lN (zp_Y x))) s' →
      post (nI l.length) (f_steps, nI (l.length + 1), f_known, f_different, a_ops, a_args, a_length, a_path, vp_updL a_list l.length (lN (zp_Y x)), a_next, s', a_far, a_found, a_who, a_what, a_before, a_tried)) :
    wpY_number post (f_steps, nI l.length, f_known, f_different, a_ops, a_args, a_length, a_path, a_list, a_next, a_table, a_far, a_found, a_who, a_what, a_before, a_tried) (lN (zp_Y x)) := by
  obtain ⟨d, q, d1, d2, d3, d4, d5, d6⟩ := zb_T_find T hinj hl hx
  have hb := zh_lt (lN (zp_Y x))
  have sl : ∀ e, a_table (nI ((zh_h (lN (zp_Y x)) + e) % 4096)).toNatClampNeg = nI (q ((zh_h (lN (zp_Y x)) + e) % 4096)) := by
    intro e
    rw [nI_clamp (by omega)]
    exact d2 _ (by omega)
  have hqd := d3 ((zh_h (lN (zp_Y x)) + d) % 4096) (by omega)
  have fin : wY_number_48 post (lN (zp_Y x)) (nI ((zh_h (lN (zp_Y x)) + d) % 4096)) f_steps (nI l.length) f_known f_different a_ops a_args a_length a_path a_list a_next a_table a_far a_found a_who a_what a_before a_tried := by
    have i4 : vp_in (nI ((zh_h (lN (zp_Y x)) + d) % 4096)) 4096 := vp_in_nI (by omega) (by omega)
    refine And.intro i4 (pk_eq (q ((zh_h (lN (zp_Y x)) + d) % 4096)) 0 (fun e => ?_) (fun e => And.intro i4 ?_) (sl d) rfl (by omega) (by omega))
    · have hxn : x ∉ l := by
        rcases d6 with h | h
        · exact h.2
        · exact absurd e h.1
      have ec : (nI l.length).toNatClampNeg = l.length := nI_clamp (by omega)
      have es : (nI ((zh_h (lN (zp_Y x)) + d) % 4096)).toNatClampNeg = (zh_h (lN (zp_Y x)) + d) % 4096 := nI_clamp (by omega)
      refine And.intro (vp_in_nI (by omega) (by omega)) (nm_e (nm_r (nI_1 _) (And.intro i4 (nm_e (And.intro i4 ?_)))))
      rw [ec, es, nI_1, pk_us, nI_pred]
      exact h1 hxn _ (zb_T_new hle T.2.1 d2 d4 d1 e fun d' hd' => (d5 d' hd').1)
    · rcases d6 with h | h
      · exact absurd h.1 e
      · have e1 : a_table (nI ((zh_h (lN (zp_Y x)) + d) % 4096)).toNatClampNeg - 1 = nI (q ((zh_h (lN (zp_Y x)) + d) % 4096) - 1) := by
          rw [sl d]
          exact pk_sub (b := 1) (by omega)
        rw [e1]
        exact h0 _ h.2.2.1 h.2.2.2
  have key : ∀ f e, e + f = d → wY_number_10 post (lN (zp_Y x)) f_steps (nI l.length) f_known f_different a_ops a_args a_length a_path a_list a_next a_table a_far a_found a_who a_what a_before a_tried (f + 1) (nI ((zh_h (lN (zp_Y x)) + e) % 4096)) := by
    intro f
    induction f with
    | zero =>
      intro e he
      have ed : e = d := by omega
      subst ed
      have i4 : vp_in (nI ((zh_h (lN (zp_Y x)) + e) % 4096)) 4096 := vp_in_nI (by omega) (by omega)
      refine And.intro i4 (pk_le (q ((zh_h (lN (zp_Y x)) + e) % 4096)) 0 (fun _ => fin) (fun h0 => ?_) (sl e) rfl (by omega) (by omega))
      have e1 : a_table (nI ((zh_h (lN (zp_Y x)) + e) % 4096)).toNatClampNeg - 1 = nI (q ((zh_h (lN (zp_Y x)) + e) % 4096) - 1) := by
        rw [sl e]
        exact pk_sub (b := 1) (by omega)
      refine And.intro i4 (And.intro (pk_in _ 1201 (by omega) e1) (br_t ?_ fin))
      rw [e1, nI_clamp (by omega)]
      rcases d6 with h | h
      · omega
      · exact h.2.1
    | succ f ih =>
      intro e he
      have i4 : vp_in (nI ((zh_h (lN (zp_Y x)) + e) % 4096)) 4096 := vp_in_nI (by omega) (by omega)
      have hqe := d3 ((zh_h (lN (zp_Y x)) + e) % 4096) (by omega)
      have hh := d5 e (by omega)
      refine And.intro i4 (pk_le (q ((zh_h (lN (zp_Y x)) + e) % 4096)) 0 (fun h0 => absurd (by omega) hh.1) (fun h0 => ?_) (sl e) rfl (by omega) (by omega))
      have e1 : a_table (nI ((zh_h (lN (zp_Y x)) + e) % 4096)).toNatClampNeg - 1 = nI (q ((zh_h (lN (zp_Y x)) + e) % 4096) - 1) := by
        rw [sl e]
        exact pk_sub (b := 1) (by omega)
      refine And.intro i4 (And.intro (pk_in _ 1201 (by omega) e1) (br_f ?_ ?_))
      · rw [e1, nI_clamp (by omega)]; exact hh.2
      · exact nm_r (zh_next' _ e hb) (ih (e + 1) (by omega))
  have k0 := key d 0 (by omega)
  have e0 : (zh_h (lN (zp_Y x)) + 0) % 4096 = zh_h (lN (zp_Y x)) := by omega
  rw [e0] at k0
  exact nm_r (zh_eq _) ⟨d + 1, k0⟩
end
end
section
/-! the component's search for the states that can come -/
section
variable {o g L c : Nat → Nat}
theorem zx_inj (hL : ∀ t, t < 3 → L t ≤ 5) : ∀ x y, zc_V o L x → zc_V o L y → lN (zp_X x) = lN (zp_X y) → x = y := by
  intro x y hx hy h
  have a := zp_X_lt hL hx
  have b := zp_X_lt hL hy
  exact zp_X_inj hL hx hy ((pk_lEQ (by omega) (by omega)).mp h)
theorem zy_inj (hL : ∀ t, t < 3 → L t ≤ 5) : ∀ x y, zc_V o L x → zc_V o L y → lN (zp_Y x) = lN (zp_Y y) → x = y := by
  intro x y hx hy h
  have a := zp_Y_lt hL hx
  have b := zp_Y_lt hL hy
  exact zp_Y_inj hL hx hy ((pk_lEQ (by omega) (by omega)).mp h)
def zx_D (o g L c0 : Nat → Nat) (e : Nat) (cf cb ds : Nat → Int32) : Prop :=
  ∃ key d, zb_D o g L (zb_L o g L c0 e) e key d ∧ ∀ j, j < (zb_L o g L c0 e).length → cf j = nI (key j / 3) ∧ cb j = nI (key j % 3) ∧ ds j = nI (d j)
theorem zx_D_same {c0 : Nat → Nat} {e : Nat} {cf cb ds : Nat → Int32} (D : zx_D o g L c0 e cf cb ds) (h1 : e / 3 < (zb_L o g L c0 e).length)
    (h : ¬ (zc_R o g L (zb_at (zb_L o g L c0 e) (e / 3)) (e % 3) ∧ (zb_L o g L c0 e).length ≤ 1200 ∧
      zc_step o g L (zb_at (zb_L o g L c0 e) (e / 3)) (e % 3) ∉ zb_L o g L c0 e)) :
    zb_L o g L c0 (e + 1) = zb_L o g L c0 e ∧ zx_D o g L c0 (e + 1) cf cb ds := by
  obtain ⟨key, d, D1, D2⟩ := D
  obtain ⟨a, b⟩ := zb_D_same D1 h1 h
  refine ⟨a, key, d, b, ?_⟩
  rw [a]; exact D2
theorem zx_D_new {c0 : Nat → Nat} {e : Nat} {cf cb ds : Nat → Int32} (D : zx_D o g L c0 e cf cb ds) (h1 : e / 3 < (zb_L o g L c0 e).length)
    (h2 : zc_R o g L (zb_at (zb_L o g L c0 e) (e / 3)) (e % 3)) (h3 : (zb_L o g L c0 e).length ≤ 1200)
    (h4 : zc_step o g L (zb_at (zb_L o g L c0 e) (e / 3)) (e % 3) ∉ zb_L o g L c0 e) {p1 p2 p3 : Int32} (e1 : p1 = nI (e / 3)) (e2 : p2 = nI (e % 3)) (e3 : p3 = ds (e / 3) + 1) :
    zb_L o g L c0 (e + 1) = zb_L o g L c0 e ++ [zc_step o g L (zb_at (zb_L o g L c0 e) (e / 3)) (e % 3)] ∧
    zx_D o g L c0 (e + 1) (upd cf (zb_L o g L c0 e).length p1) (upd cb (zb_L o g L c0 e).length p2) (upd ds (zb_L o g L c0 e).length p3) := by
  obtain ⟨key, d, D1, D2⟩ := D
  obtain ⟨a, b⟩ := zb_D_new D1 h1 h2 h3 h4
  refine ⟨a, _, _, b, ?_⟩
  rw [a]
  intro j hj
  rw [List.length_append, List.length_singleton] at hj
  by_cases ej : j = (zb_L o g L c0 e).length
  · rw [ej, pk_us, pk_us, pk_us, zc_up_s, zc_up_s, e3, (D2 _ h1).2.2]
    exact ⟨e1, e2, nI_1 _⟩
  · rw [pk_un ej, pk_un ej, pk_un ej, zc_up_n ej, zc_up_n ej]
    exact D2 j (by omega)
end
section
variable {o g L c0 : Nat → Nat} {f_steps f_foundCount : Int32} {a_ops a_args a_codeLength a_cell a_cameFrom a_cameBy a_distance a_slots a_isEnding a_walkLeft a_walkAsleep : Nat → Int32} {a_trail a_found a_walkState : Nat → Int64}
theorem zx_unpack' {post : SX → Prop} {c : Nat → Nat} {s : Int64} (hs : s = lN (zp_X c)) (hB : ∀ j, c j < 8) (hp : ∀ a', zx_E c a' → post (f_steps, f_foundCount, a_ops, a_args, a_codeLength, a_trail, a', a_found, a_cameFrom, a_cameBy, a_distance, a_slots, a_isEnding, a_walkState, a_walkLeft, a_walkAsleep)) : wpX_unpack post (f_steps, f_foundCount, a_ops, a_args, a_codeLength, a_trail, a_cell, a_found, a_cameFrom, a_cameBy, a_distance, a_slots, a_isEnding, a_walkState, a_walkLeft, a_walkAsleep) s := by
  rw [hs]; exact zx_unpack hB hp
theorem zx_ex62 {post : Int32 → SX → Prop} {J : Int32 → Int32 → Int32 → (Nat → Int32) → (Nat → Int32) → (Nat → Int32) → (Nat → Int64) → (Nat → Int32) → (Nat → Int64) → (Nat → Int32) → (Nat → Int32) → (Nat → Int32) → (Nat → Int32) → (Nat → Int32) → (Nat → Int64) → (Nat → Int32) → (Nat → Int32) → Prop}
    (hC : zx_C o g L a_ops a_args a_codeLength) (hV : zc_V o L c0) {i : Nat} (hi : i < 1200)
    (hJ : ∀ (cell : Nat → Int32) (found : Nat → Int64) (cf cb ds sl : Nat → Int32), zb_T zp_X (zb_L o g L c0 (3 * (i + 1))) found sl → zx_D o g L c0 (3 * (i + 1)) cf cb ds →
      J (nI (i + 1)) f_steps (nI (zb_L o g L c0 (3 * (i + 1))).length) a_ops a_args a_codeLength a_trail cell found cf cb ds sl a_isEnding a_walkState a_walkLeft a_walkAsleep) :
    ∀ (d t : Nat) (cell : Nat → Int32) (found : Nat → Int64) (cf cb ds sl : Nat → Int32), t + d = 3 → i < (zb_L o g L c0 (3 * i + t)).length →
      zb_T zp_X (zb_L o g L c0 (3 * i + t)) found sl → zx_D o g L c0 (3 * i + t) cf cb ds →
      wX_explore_62 post J (nI i) (d + 1) (nI t) f_steps (nI (zb_L o g L c0 (3 * i + t)).length) a_ops a_args a_codeLength a_trail cell found cf cb ds sl a_isEnding a_walkState a_walkLeft a_walkAsleep := by
  have hL := zx_L5 hC
  intro d
  induction d with
  | zero =>
    intro t cell found cf cb ds sl ht hl T D
    have e : t = 3 := by omega
    subst e
    exact br_t (by decide) (nm_r (nI_1 i) (hJ cell found cf cb ds sl T D))
  | succ d ih =>
    intro t cell found cf cb ds sl ht hl T D
    have e3 : (3 * i + t) / 3 = i := by omega
    have e4 : (3 * i + t) % 3 = t := by omega
    have hVl := zb_V hC.1 hV (3 * i + t)
    have hVi := hVl _ (zb_at_mem hl)
    have hB := zp_bX hL hVi
    have ii : vp_in (nI i) 1201 := vp_in_nI (by omega) (by omega)
    have ec : (nI i).toNatClampNeg = i := nI_clamp (by omega)
    have ef : found (nI i).toNatClampNeg = lN (zp_X (zb_at (zb_L o g L c0 (3 * i + t)) i)) := by rw [ec]; exact T.2.1 i hl
    refine br_f (nI_ge (b := 3) (by omega) (by decide)) (And.intro ii (zx_unpack' ef hB fun a1 ha1 => ?_))
    refine zx_isReady hC hVi (by omega) ha1 (fun hR => br_f (by decide) ?_) (fun hR => br_t rfl (nm_r (nI_1 t) ?_))
    · have hVs := zc_V_step hC.1 hVi (by omega) hR
      refine zx_advance hC hVi (by omega) ha1 hR fun a2 ha2 => zx_packed ha2 (zp_bX hL hVs) (And.intro ii ?_)
      refine zx_keep (P := zc_V o L) T (zx_inj hL) hVl hVs (fun h0 => nm_r (nI_1 t) ?_) (fun h1 h2 s' T' => nm_r (nI_1 t) ?_)
      · have hs := zx_D_same D (by rw [e3]; exact hl) (by
          rw [e3, e4]
          rintro ⟨_, h6, h7⟩
          rcases h0 with h0 | h0
          · exact h7 h0
          · omega)
        have := ih (t + 1) a2 found cf cb ds sl (by omega) (by show i < (zb_L o g L c0 (3 * i + t + 1)).length; rw [hs.1]; exact hl)
          (by show zb_T zp_X (zb_L o g L c0 (3 * i + t + 1)) found sl; rw [hs.1]; exact T) hs.2
        have el : (zb_L o g L c0 (3 * i + (t + 1))).length = (zb_L o g L c0 (3 * i + t)).length := congrArg List.length hs.1
        rw [el] at this
        exact this
      · have hs := zx_D_new D (by rw [e3]; exact hl) (by rw [e3, e4]; exact hR) h2 (by rw [e3, e4]; exact h1) (p1 := nI i) (p2 := nI t) (p3 := ds (nI i).toNatClampNeg + 1)
          (by rw [e3]) (by rw [e4]) (by rw [e3, ec])
        rw [e3, e4] at hs
        have el : (zb_L o g L c0 (3 * i + (t + 1))).length = (zb_L o g L c0 (3 * i + t)).length + 1 := by
          show (zb_L o g L c0 (3 * i + t + 1)).length = _
          rw [hs.1]; simp
        have := ih (t + 1) a2 (vp_updL found (zb_L o g L c0 (3 * i + t)).length (lN (zp_X (zc_step o g L (zb_at (zb_L o g L c0 (3 * i + t)) i) t))))
          (upd cf (zb_L o g L c0 (3 * i + t)).length (nI i)) (upd cb (zb_L o g L c0 (3 * i + t)).length (nI t)) (upd ds (zb_L o g L c0 (3 * i + t)).length (ds (nI i).toNatClampNeg + 1)) s' (by omega)
          (by rw [el]; omega) (by show zb_T zp_X (zb_L o g L c0 (3 * i + t + 1)) _ _; rw [hs.1]; exact T') hs.2
        rw [el] at this
        exact this
    · have hs := zx_D_same D (by rw [e3]; exact hl) (by rw [e3, e4]; exact fun h => hR h.1)
      have := ih (t + 1) a1 found cf cb ds sl (by omega) (by show i < (zb_L o g L c0 (3 * i + t + 1)).length; rw [hs.1]; exact hl)
        (by show zb_T zp_X (zb_L o g L c0 (3 * i + t + 1)) found sl; rw [hs.1]; exact T) hs.2
      have el : (zb_L o g L c0 (3 * i + (t + 1))).length = (zb_L o g L c0 (3 * i + t)).length := congrArg List.length hs.1
      rw [el] at this
      exact this
/-- what the component knows after a search -/
def zx_K (o g L : Nat → Nat) (l : List (Nat → Nat)) (found : Nat → Int64) (cf cb ds : Nat → Int32) : Prop :=
  (∀ i, i < l.length → found i = lN (zp_X (zb_at l i))) ∧ ∃ key d, zg_B l.length (zb_E o g L l) key d ∧
    ∀ j, j < l.length → cf j = nI (key j / 3) ∧ cb j = nI (key j % 3) ∧ ds j = nI (d j)
theorem zx_ex45 {post : Int32 → SX → Prop} (hC : zx_C o g L a_ops a_args a_codeLength) (hV : zc_V o L c0)
    (h0 : 1200 < (zb_F o g L c0).length → ∀ (cell : Nat → Int32) (found : Nat → Int64) (cf cb ds sl : Nat → Int32),
      post 0 (f_steps, nI (zb_F o g L c0).length, a_ops, a_args, a_codeLength, a_trail, cell, found, cf, cb, ds, sl, a_isEnding, a_walkState, a_walkLeft, a_walkAsleep))
    (h1 : (zb_F o g L c0).length ≤ 1200 → ∀ (cell : Nat → Int32) (found : Nat → Int64) (cf cb ds sl : Nat → Int32), zx_K o g L (zb_F o g L c0) found cf cb ds →
      post 1 (f_steps, nI (zb_F o g L c0).length, a_ops, a_args, a_codeLength, a_trail, cell, found, cf, cb, ds, sl, a_isEnding, a_walkState, a_walkLeft, a_walkAsleep)) :
    ∀ (d i : Nat) (cell : Nat → Int32) (found : Nat → Int64) (cf cb ds sl : Nat → Int32), i + d = 1200 →
      zb_T zp_X (zb_L o g L c0 (3 * i)) found sl → zx_D o g L c0 (3 * i) cf cb ds →
      wX_explore_45 post (d + 1) (nI i) f_steps (nI (zb_L o g L c0 (3 * i)).length) a_ops a_args a_codeLength a_trail cell found cf cb ds sl a_isEnding a_walkState a_walkLeft a_walkAsleep := by
  have fin : ∀ (i : Nat) (cell : Nat → Int32) (found : Nat → Int64) (cf cb ds sl : Nat → Int32), i ≤ 1200 → (i = 1200 ∨ (zb_L o g L c0 (3 * i)).length ≤ i) →
      zb_T zp_X (zb_L o g L c0 (3 * i)) found sl → zx_D o g L c0 (3 * i) cf cb ds →
      wX_explore_122 post f_steps (nI (zb_L o g L c0 (3 * i)).length) a_ops a_args a_codeLength a_trail cell found cf cb ds sl a_isEnding a_walkState a_walkLeft a_walkAsleep := by
    intro i cell found cf cb ds sl hi hd T D
    have hF : zb_F o g L c0 = zb_L o g L c0 (3 * i) := by
      rcases hd with e | e
      · subst e; rfl
      · exact zb_F_at (by omega) (Or.inl (by omega))
    have hlen := T.1
    rw [hF] at h0 h1
    refine pk_lt 1200 (zb_L o g L c0 (3 * i)).length (fun h => h0 h _ _ _ _ _ _) (fun h => h1 h _ _ _ _ _ _ ?_) rfl rfl (by omega) (by omega)
    obtain ⟨key, dd, D1, D2⟩ := D
    exact ⟨T.2.1, key, dd, zb_B D1 (zb_nodup _) h (by omega), D2⟩
  intro d
  induction d with
  | zero =>
    intro i cell found cf cb ds sl hi T D
    have e : i = 1200 := by omega
    subst e
    exact br_t (by decide) (fin 1200 cell found cf cb ds sl (by omega) (Or.inl rfl) T D)
  | succ d ih =>
    intro i cell found cf cb ds sl hi T D
    have hlen := T.1
    refine br_f (nI_ge (b := 1200) (by omega) (by decide)) (pk_le (zb_L o g L c0 (3 * i)).length i (fun h => ?_) (fun h => ?_) rfl rfl (by omega) (by omega))
    · exact fin i cell found cf cb ds sl (by omega) (Or.inr h) T D
    · exact ⟨4, zx_ex62 hC hV (by omega) (fun cell found cf cb ds sl T' D' => ih (i + 1) cell found cf cb ds sl (by omega) T' D') 3 0 cell found cf cb ds sl rfl h T D⟩
theorem zx_explore {post : Int32 → SX → Prop} (hC : zx_C o g L a_ops a_args a_codeLength) (hV : zc_V o L c0) {n : Nat} (hn : n ≤ 30) (ht : a_trail n = lN (zp_X c0))
    (h0 : 1200 < (zb_F o g L c0).length → ∀ (cell : Nat → Int32) (found : Nat → Int64) (cf cb ds sl : Nat → Int32),
      post 0 (nI n, nI (zb_F o g L c0).length, a_ops, a_args, a_codeLength, a_trail, cell, found, cf, cb, ds, sl, a_isEnding, a_walkState, a_walkLeft, a_walkAsleep))
    (h1 : (zb_F o g L c0).length ≤ 1200 → ∀ (cell : Nat → Int32) (found : Nat → Int64) (cf cb ds sl : Nat → Int32), zx_K o g L (zb_F o g L c0) found cf cb ds →
      post 1 (nI n, nI (zb_F o g L c0).length, a_ops, a_args, a_codeLength, a_trail, cell, found, cf, cb, ds, sl, a_isEnding, a_walkState, a_walkLeft, a_walkAsleep)) :
    wpX_explore post (nI n, f_foundCount, a_ops, a_args, a_codeLength, a_trail, a_cell, a_found, a_cameFrom, a_cameBy, a_distance, a_slots, a_isEnding, a_walkState, a_walkLeft, a_walkAsleep) := by
  have key : ∀ d i (sl : Nat → Int32), i + d = 4096 → (∀ j, j < i → sl j = 0) → wX_explore_2 post (nI n) f_foundCount (d + 1) (nI i) a_ops a_args a_codeLength a_trail a_cell a_found a_cameFrom a_cameBy a_distance sl a_isEnding a_walkState a_walkLeft a_walkAsleep := by
    intro d
    induction d with
    | zero =>
      intro i sl hi hs
      have e : i = 4096 := by omega
      subst e
      have et : a_trail (nI n).toNatClampNeg = lN (zp_X c0) := by rw [nI_clamp (by omega)]; exact ht
      refine br_t (by decide) (And.intro (vp_in_nI (by omega) (by omega)) ?_)
      rw [et]
      refine zx_keep (l := []) (P := zc_V o L) (zb_T_0 hs) (zx_inj (zx_L5 hC)) (fun x hx => by simp at hx) hV (fun h => ?_) (fun _ _ s' T' => ⟨1201, ?_⟩)
      · rcases h with h | h
        · simp at h
        · simp at h
      · refine zx_ex45 hC hV h0 h1 1200 0 _ _ _ _ _ _ (by omega) T' ?_
        refine ⟨fun _ => 0, fun _ => 0, zb_D_0, fun j hj => ?_⟩
        have hj' : j < 1 := hj
        have e0 : j = 0 := by omega
        subst e0
        exact ⟨rfl, rfl, rfl⟩
    | succ d ih =>
      intro i sl hi hs
      refine br_f (nI_ge (b := 4096) (by omega) (by decide)) (And.intro (vp_in_nI (by omega) (by omega)) (nm_e (nm_r (nI_1 i) (ih (i + 1) _ (by omega) fun j hj => ?_))))
      rw [nI_clamp (by omega)]
      unfold upd
      by_cases e : j = i
      · rw [if_pos e]
      · rw [if_neg e]; exact hs j (by omega)
  exact ⟨4097, key 4096 0 a_slots rfl fun j hj => by omega⟩
end
end
section
/-! the reference's search for the states that can come -/
section
variable {o g L c0 : Nat → Nat}
theorem zb_N_up {l l' : List (Nat → Nat)} {e : Nat} {nx nx' : Nat → Int32} (N : zb_N o g L l e nx) (hle : l.length ≤ 1200) (hat : ∀ i, i < l.length → zb_at l' i = zb_at l i)
    (hlen : l.length ≤ l'.length) (he : e / 3 < l.length) (hnx : ∀ j, j ≠ e → nx' j = nx j) (hn : ¬ zc_R o g L (zb_at l (e / 3)) (e % 3) → nx' e = -1)
    (hy : zc_R o g L (zb_at l (e / 3)) (e % 3) → ∃ m, m < l'.length ∧ nx' e = nI m ∧ zb_at l' m = zc_step o g L (zb_at l (e / 3)) (e % 3)) : zb_N o g L l' (e + 1) nx' := by
  intro _ i t ht hi hb
  have hil : i < l.length := by omega
  rw [hat i hil]
  by_cases e1 : 3 * i + t = e
  · have ei : e / 3 = i := by omega
    have et : e % 3 = t := by omega
    rw [ei, et] at hn hy
    rw [e1]
    exact ⟨hn, hy⟩
  · have := N hle i t ht hil (by omega)
    rw [hnx _ e1]
    refine ⟨this.1, fun hR => ?_⟩
    obtain ⟨m, m1, m2, m3⟩ := this.2 hR
    exact ⟨m, by omega, m2, by rw [hat m m1]; exact m3⟩
theorem zb_N_big {l : List (Nat → Nat)} {e : Nat} {nx : Nat → Int32} (h : 1200 < l.length) : zb_N o g L l e nx := fun h2 => by omega
def zy_S (o g L c0 : Nat → Nat) (count : Int32) (list : Nat → Int64) (next : Nat → Int32) : Prop :=
  count = nI (zb_F o g L c0).length ∧ (∀ i, i < (zb_F o g L c0).length → list i = lN (zp_Y (zb_at (zb_F o g L c0) i))) ∧
  zb_N o g L (zb_F o g L c0) (3 * (zb_F o g L c0).length) next
end
section
variable {o g L c0 : Nat → Nat} {f_steps f_count f_known f_different : Int32} {a_ops a_args a_length a_next a_table a_far a_found a_who a_what a_tried : Nat → Int32} {a_path a_list a_before : Nat → Int64}
theorem zy_i3 (k t : Nat) : 3 * nI k + nI t = nI (3 * k + t) := by
  have e : 3 * nI k = nI (3 * k) := pk_mul 3 k
  rw [e, nI_add]
theorem zy_kn91 {post : Int32 → SY → Prop} {J : Int32 → Int32 → Int32 → Int32 → Int32 → (Nat → Int32) → (Nat → Int32) → (Nat → Int32) → (Nat → Int64) → (Nat → Int64) → (Nat → Int32) → (Nat → Int32) → (Nat → Int32) → (Nat → Int32) → (Nat → Int32) → (Nat → Int32) → (Nat → Int64) → (Nat → Int32) → Prop}
    (hC : zx_C o g L a_ops a_args a_length) (hV : zc_V o L c0) {k : Nat} (hk : k < 1200)
    (hJ : ∀ (list : Nat → Int64) (next table : Nat → Int32), zb_T zp_Y (zb_L o g L c0 (3 * (k + 1))) list table → zb_N o g L (zb_L o g L c0 (3 * (k + 1))) (3 * (k + 1)) next →
      J (nI (k + 1)) f_steps (nI (zb_L o g L c0 (3 * (k + 1))).length) f_known f_different a_ops a_args a_length a_path list next table a_far a_found a_who a_what a_before a_tried) :
    ∀ (d t : Nat) (list : Nat → Int64) (next table : Nat → Int32), t + d = 3 → k < (zb_L o g L c0 (3 * k + t)).length →
      zb_T zp_Y (zb_L o g L c0 (3 * k + t)) list table → zb_N o g L (zb_L o g L c0 (3 * k + t)) (3 * k + t) next →
      wY_know_91 post J (nI k) (d + 1) (nI t) f_steps (nI (zb_L o g L c0 (3 * k + t)).length) f_known f_different a_ops a_args a_length a_path list next table a_far a_found a_who a_what a_before a_tried := by
  have hL := zx_L5 hC
  intro d
  induction d with
  | zero =>
    intro t list next table ht hl T N
    have e : t = 3 := by omega
    subst e
    exact br_t (by decide) (nm_r (nI_1 k) (hJ list next table T N))
  | succ d ih =>
    intro t list next table ht hl T N
    have hlen := T.1
    have e3 : (3 * k + t) / 3 = k := by omega
    have e4 : (3 * k + t) % 3 = t := by omega
    have hVl := zb_V hC.1 hV (3 * k + t)
    have hVi := hVl _ (zb_at_mem hl)
    have ii : vp_in (nI k) 1201 := vp_in_nI (by omega) (by omega)
    have i3 : vp_in (3 * nI k + nI t) 3603 := pk_in (3 * k + t) 3603 (by omega) (zy_i3 k t)
    have ec3 : (3 * nI k + nI t).toNatClampNeg = 3 * k + t := by rw [zy_i3, nI_clamp (by omega)]
    have ef : list (nI k).toNatClampNeg = lN (zp_Y (zb_at (zb_L o g L c0 (3 * k + t)) k)) := by rw [nI_clamp (by omega)]; exact T.2.1 k hl
    refine br_f (nI_ge (b := 3) (by omega) (by decide)) (pk_lt 1200 (zb_L o g L c0 (3 * k + t)).length (fun hm => nm_r (nI_1 k) ?_) (fun hm => ?_) rfl rfl (by omega) (by omega))
    · have hs : zb_L o g L c0 (3 * (k + 1)) = zb_L o g L c0 (3 * k + t) := by
        have := zb_stop (o := o) (g := g) (L := L) (c0 := c0) (e := 3 * k + t) (Or.inr hm) (d + 1)
        have e : 3 * k + t + (d + 1) = 3 * (k + 1) := by omega
        rwa [e] at this
      have := hJ list next table (by rw [hs]; exact T) (by rw [hs]; exact zb_N_big hm)
      rw [hs] at this
      exact this
    · refine And.intro i3 (nm_e (And.intro ii ?_))
      rw [ef, ec3]
      refine zy_isReady hC hVi (by omega) (fun hR => br_f (by decide) (And.intro ii ?_)) (fun hR => br_t rfl (nm_r (nI_1 t) ?_))
      · have hVs := zc_V_step hC.1 hVi (by omega) hR
        refine zy_after hC hVi (by omega) hR ?_
        refine zy_number (P := zc_V o L) T hm (zy_inj hL) hVl hVs (fun m hm1 hm2 => ?_) (fun h1 s' T' => ?_)
        · refine And.intro i3 (nm_e (nm_r (nI_1 t) ?_))
          have hs : zb_L o g L c0 (3 * k + t + 1) = zb_L o g L c0 (3 * k + t) := by
            refine zb_neg ?_
            rintro ⟨_, _, _, h7⟩
            rw [e3, e4, ← hm2] at h7
            exact h7 (zb_at_mem hm1)
          have := ih (t + 1) list (upd (upd next (3 * k + t) (-1)) (3 * k + t) (nI m)) table (by omega) (by show k < (zb_L o g L c0 (3 * k + t + 1)).length; rw [hs]; exact hl)
            (by show zb_T zp_Y (zb_L o g L c0 (3 * k + t + 1)) list table; rw [hs]; exact T)
            (by
              show zb_N o g L (zb_L o g L c0 (3 * k + t + 1)) (3 * k + t + 1) _
              rw [hs]
              refine zb_N_up N hm (fun i hi => rfl) (Nat.le_refl _) (by rw [e3]; exact hl) (fun j hj => by rw [pk_un hj, pk_un hj]) (fun hn => ?_) (fun hy => ?_)
              · rw [e3, e4] at hn; exact absurd hR hn
              · rw [e3, e4]; exact ⟨m, hm1, pk_us, hm2⟩)
          have el : (zb_L o g L c0 (3 * k + (t + 1))).length = (zb_L o g L c0 (3 * k + t)).length := congrArg List.length hs
          rw [el] at this
          exact this
        · refine And.intro i3 (nm_e (nm_r (nI_1 t) ?_))
          have hs := zb_pos (o := o) (g := g) (L := L) (c0 := c0) (e := 3 * k + t) (by rw [e3]; exact hl) hm (by rw [e3, e4]; exact hR) (by rw [e3, e4]; exact h1)
          rw [e3, e4] at hs
          have el : (zb_L o g L c0 (3 * k + (t + 1))).length = (zb_L o g L c0 (3 * k + t)).length + 1 := by
            show (zb_L o g L c0 (3 * k + t + 1)).length = _
            rw [hs]; simp
          have := ih (t + 1) (vp_updL list (zb_L o g L c0 (3 * k + t)).length (lN (zp_Y (zc_step o g L (zb_at (zb_L o g L c0 (3 * k + t)) k) t))))
            (upd (upd next (3 * k + t) (-1)) (3 * k + t) (nI (zb_L o g L c0 (3 * k + t)).length)) s' (by omega) (by rw [el]; omega)
            (by show zb_T zp_Y (zb_L o g L c0 (3 * k + t + 1)) _ _; rw [hs]; exact T')
            (by
              show zb_N o g L (zb_L o g L c0 (3 * k + t + 1)) (3 * k + t + 1) _
              rw [hs]
              refine zb_N_up N hm (fun i hi => zb_at_app hi) (by simp) (by rw [e3]; exact hl) (fun j hj => by rw [pk_un hj, pk_un hj]) (fun hn => ?_) (fun hy => ?_)
              · rw [e3, e4] at hn; exact absurd hR hn
              · rw [e3, e4]; exact ⟨(zb_L o g L c0 (3 * k + t)).length, by simp, pk_us, zb_at_new⟩)
          rw [el] at this
          exact this
      · have hs : zb_L o g L c0 (3 * k + t + 1) = zb_L o g L c0 (3 * k + t) := by
          refine zb_neg ?_
          rintro ⟨_, _, h6, _⟩
          rw [e3, e4] at h6
          exact hR h6
        have := ih (t + 1) list (upd next (3 * k + t) (-1)) table (by omega) (by show k < (zb_L o g L c0 (3 * k + t + 1)).length; rw [hs]; exact hl)
          (by show zb_T zp_Y (zb_L o g L c0 (3 * k + t + 1)) list table; rw [hs]; exact T)
          (by
            show zb_N o g L (zb_L o g L c0 (3 * k + t + 1)) (3 * k + t + 1) _
            rw [hs]
            refine zb_N_up N hm (fun i hi => rfl) (Nat.le_refl _) (by rw [e3]; exact hl) (fun j hj => pk_un hj) (fun hn => pk_us) (fun hy => ?_)
            rw [e3, e4] at hy; exact absurd hy hR)
        have el : (zb_L o g L c0 (3 * k + (t + 1))).length = (zb_L o g L c0 (3 * k + t)).length := congrArg List.length hs
        rw [el] at this
        exact this
theorem zy_kn71 {post : Int32 → SY → Prop} (hC : zx_C o g L a_ops a_args a_length) (hV : zc_V o L c0)
    (h0 : 1200 < (zb_F o g L c0).length → ∀ (count : Int32) (list : Nat → Int64) (next table : Nat → Int32), zy_S o g L c0 count list next →
      post 0 (f_steps, count, f_known, f_different, a_ops, a_args, a_length, a_path, list, next, table, a_far, a_found, a_who, a_what, a_before, a_tried))
    (h1 : (zb_F o g L c0).length ≤ 1200 → ∀ (count : Int32) (list : Nat → Int64) (next table : Nat → Int32), zy_S o g L c0 count list next →
      post 1 (f_steps, count, f_known, f_different, a_ops, a_args, a_length, a_path, list, next, table, a_far, a_found, a_who, a_what, a_before, a_tried)) :
    ∀ (d k : Nat) (list : Nat → Int64) (next table : Nat → Int32), k + d = 1200 →
      zb_T zp_Y (zb_L o g L c0 (3 * k)) list table → zb_N o g L (zb_L o g L c0 (3 * k)) (3 * k) next →
      wY_know_71 post (d + 1) (nI k) f_steps (nI (zb_L o g L c0 (3 * k)).length) f_known f_different a_ops a_args a_length a_path list next table a_far a_found a_who a_what a_before a_tried := by
  have fin : ∀ (k : Nat) (list : Nat → Int64) (next table : Nat → Int32), k ≤ 1200 → (1200 < (zb_L o g L c0 (3 * k)).length ∨ (zb_L o g L c0 (3 * k)).length ≤ k) →
      zb_T zp_Y (zb_L o g L c0 (3 * k)) list table → zb_N o g L (zb_L o g L c0 (3 * k)) (3 * k) next →
      wY_know_175 post f_steps (nI (zb_L o g L c0 (3 * k)).length) f_known f_different a_ops a_args a_length a_path list next table a_far a_found a_who a_what a_before a_tried := by
    intro k list next table hk hd T N
    have hF : zb_F o g L c0 = zb_L o g L c0 (3 * k) := by
      refine zb_F_at (by omega) ?_
      rcases hd with e | e
      · exact Or.inr e
      · exact Or.inl (by omega)
    have hlen := T.1
    have hS : zy_S o g L c0 (nI (zb_L o g L c0 (3 * k)).length) list next := by
      unfold zy_S
      rw [hF]
      refine ⟨rfl, T.2.1, fun hM i t ht hi he => N hM i t ht hi ?_⟩
      omega
    rw [hF] at h0 h1
    exact pk_lt 1200 (zb_L o g L c0 (3 * k)).length (fun h => h0 h _ _ _ _ hS) (fun h => h1 h _ _ _ _ hS) rfl rfl (by omega) (by omega)
  intro d
  induction d with
  | zero =>
    intro k list next table hk T N
    have hlen := T.1
    have e : k = 1200 := by omega
    subst e
    refine pk_le (zb_L o g L c0 (3 * 1200)).length 1200 (fun h => ?_) (fun h => ?_) rfl rfl (by omega) (by omega)
    · exact fin 1200 list next table (by omega) (Or.inr h) T N
    · refine pk_lt 1200 (zb_L o g L c0 (3 * 1200)).length (fun h => ?_) (fun h2 => by omega) rfl rfl (by omega) (by omega)
      exact fin 1200 list next table (by omega) (Or.inl h) T N
  | succ d ih =>
    intro k list next table hk T N
    have hlen := T.1
    refine pk_le (zb_L o g L c0 (3 * k)).length k (fun h => ?_) (fun h => ?_) rfl rfl (by omega) (by omega)
    · exact fin k list next table (by omega) (Or.inr h) T N
    · refine pk_lt 1200 (zb_L o g L c0 (3 * k)).length (fun h => ?_) (fun h2 => ?_) rfl rfl (by omega) (by omega)
      · exact fin k list next table (by omega) (Or.inl h) T N
      · exact ⟨4, zy_kn91 hC hV (by omega) (fun list next table T' N' => ih (k + 1) list next table (by omega) T' N') 3 0 list next table rfl h T N⟩
theorem zy_know {post : Int32 → SY → Prop} (hC : zx_C o g L a_ops a_args a_length) (hV : zc_V o L c0) {n : Nat} (hn : n ≤ 30) (hpth : a_path n = lN (zp_Y c0))
    (hk : f_known = 0 ∨ (f_known = 1 ∧ zy_S o g L c0 f_count a_list a_next))
    (h0 : 1200 < (zb_F o g L c0).length → ∀ (count : Int32) (list : Nat → Int64) (next table : Nat → Int32), zy_S o g L c0 count list next →
      post 0 (nI n, count, 1, f_different, a_ops, a_args, a_length, a_path, list, next, table, a_far, a_found, a_who, a_what, a_before, a_tried))
    (h1 : (zb_F o g L c0).length ≤ 1200 → ∀ (count : Int32) (list : Nat → Int64) (next table : Nat → Int32), zy_S o g L c0 count list next →
      post 1 (nI n, count, 1, f_different, a_ops, a_args, a_length, a_path, list, next, table, a_far, a_found, a_who, a_what, a_before, a_tried)) : wpY_know post (nI n, f_count, f_known, f_different, a_ops, a_args, a_length, a_path, a_list, a_next, a_table, a_far, a_found, a_who, a_what, a_before, a_tried) := by
  rcases hk with e | ⟨e, hS⟩
  · subst e
    have key : ∀ d i (tb : Nat → Int32), i + d = 4096 → (∀ j, j < i → tb j = 0) → wY_know_30 post (nI n) f_count 1 f_different (d + 1) (nI i) a_ops a_args a_length a_path a_list a_next tb a_far a_found a_who a_what a_before a_tried := by
      intro d
      induction d with
      | zero =>
        intro i tb hi hs
        have e : i = 4096 := by omega
        subst e
        have et : a_path (nI n).toNatClampNeg = lN (zp_Y c0) := by rw [nI_clamp (by omega)]; exact hpth
        refine br_t (by decide) (And.intro (vp_in_nI (by omega) (by omega)) ?_)
        rw [et]
        refine zy_number (l := []) (P := zc_V o L) (zb_T_0 hs) (by simp) (zy_inj (zx_L5 hC)) (fun x hx => by simp at hx) hV (fun m hm => by simp at hm) (fun _ s' T' => ⟨1201, ?_⟩)
        exact zy_kn71 hC hV h0 h1 1200 0 _ _ _ (by omega) T' (fun _ i t _ _ h => by omega)
      | succ d ih =>
        intro i tb hi hs
        refine br_f (nI_ge (b := 4096) (by omega) (by decide)) (And.intro (vp_in_nI (by omega) (by omega)) (nm_e (nm_r (nI_1 i) (ih (i + 1) _ (by omega) fun j hj => ?_))))
        rw [nI_clamp (by omega)]
        unfold upd
        by_cases e : j = i
        · rw [if_pos e]
        · rw [if_neg e]; exact hs j (by omega)
    exact br_t rfl ⟨4097, key 4096 0 a_table rfl fun j hj => by omega⟩
  · subst e
    have hlen := (zb_len (o := o) (g := g) (L := L) (c0 := c0) 3600).2
    exact br_f (by decide) (pk_lt 1200 (zb_F o g L c0).length (fun h => h0 h _ _ _ _ hS) (fun h => h1 h _ _ _ _ hS) rfl hS.1 (by omega) (by unfold zb_F; omega))
end
end
section
/-! the first state on both sides; instructions -/
section
variable {o g L : Nat → Nat}
def zr_0 (L : Nat → Nat) : Nat → Nat := zc_up (zc_up (zc_up (fun _ => 0) 7 (zc_pl L 0 0)) 8 (zc_pl L 1 0)) 9 (zc_pl L 2 0)
theorem zr_0_7 {t : Nat} (ht : t < 3) : zr_0 L (7 + t) = zc_pl L t 0 := by
  have : t = 0 ∨ t = 1 ∨ t = 2 := by omega
  rcases this with e | e | e <;> subst e <;> rfl
theorem zr_0_n {j : Nat} (h : j < 7 ∨ 10 ≤ j) : zr_0 L j = 0 := by
  unfold zr_0
  rw [zc_up_n (by omega), zc_up_n (by omega), zc_up_n (by omega)]
theorem zr_0_V (hK : zc_K o g L) : zc_V o L (zr_0 L) := by
  refine ⟨fun j hj => ?_, fun t ht => ?_, fun l hl => ?_, fun t ht => Or.inl ?_, ?_, fun j hj => ?_⟩
  · rw [zr_0_n (by omega)]; omega
  · rw [zr_0_7 ht]; exact zc_pl_v _
  · rw [zr_0_n (by omega)]; omega
  · exact zr_0_n (by omega)
  · rw [zr_0_n (by omega)]; omega
  · exact zr_0_n (by omega)
end
section
variable {o g L : Nat → Nat} {f_steps f_foundCount : Int32} {a_ops a_args a_codeLength a_cell a_cameFrom a_cameBy a_distance a_slots a_isEnding a_walkLeft a_walkAsleep : Nat → Int32} {a_trail a_found a_walkState : Nat → Int64}
theorem zx_ret23 {post : SX → Prop} (hC : zx_C o g L a_ops a_args a_codeLength)
    (hp : ∀ cell, post (0, f_foundCount, a_ops, a_args, a_codeLength, vp_updL a_trail 0 (lN (zp_X (zr_0 L))), cell, a_found, a_cameFrom, a_cameBy, a_distance, a_slots, a_isEnding, a_walkState, a_walkLeft, a_walkAsleep)) (hE : zx_E (fun _ => 0) a_cell) :
    ∃ n, wX_returnToFirst_23 post n 0 f_steps f_foundCount a_ops a_args a_codeLength a_trail a_cell a_found a_cameFrom a_cameBy a_distance a_slots a_isEnding a_walkState a_walkLeft a_walkAsleep := by
  refine ⟨4, ?_⟩
  refine br_f (by decide) (zx_place (t := 0) (n := 0) hC (by omega) hE (by omega) fun a1 h1 => nm_r (nI_1 0) ?_)
  refine br_f (by decide) (zx_place (t := 1) (n := 0) hC (by omega) h1 (by omega) fun a2 h2 => nm_r (nI_1 1) ?_)
  refine br_f (by decide) (zx_place (t := 2) (n := 0) hC (by omega) h2 (by omega) fun a3 h3 => nm_r (nI_1 2) ?_)
  refine br_t (by decide) (zx_packed (c := zr_0 L) h3 (zp_bX (zx_L5 hC) (zr_0_V hC.1)) (nm_e (hp a3)))
theorem zx_returnToFirst {post : SX → Prop} (hC : zx_C o g L a_ops a_args a_codeLength)
    (hp : ∀ cell, post (0, f_foundCount, a_ops, a_args, a_codeLength, vp_updL a_trail 0 (lN (zp_X (zr_0 L))), cell, a_found, a_cameFrom, a_cameBy, a_distance, a_slots, a_isEnding, a_walkState, a_walkLeft, a_walkAsleep)) : wpX_returnToFirst post (f_steps, f_foundCount, a_ops, a_args, a_codeLength, a_trail, a_cell, a_found, a_cameFrom, a_cameBy, a_distance, a_slots, a_isEnding, a_walkState, a_walkLeft, a_walkAsleep) := by
  have key : ∀ d i (a' : Nat → Int32), i + d = 16 → (∀ j, j < i → a' j = nI 0) → wX_returnToFirst_2 post f_steps f_foundCount (d + 1) (nI i) a_ops a_args a_codeLength a_trail a' a_found a_cameFrom a_cameBy a_distance a_slots a_isEnding a_walkState a_walkLeft a_walkAsleep := by
    intro d
    induction d with
    | zero =>
      intro i a' hi ha
      have e : i = 16 := by omega
      subst e
      exact br_t (by decide) (zx_ret23 hC hp ha)
    | succ d ih =>
      intro i a' hi ha
      refine br_f (nI_ge (b := 16) (by omega) (by decide)) (And.intro (vp_in_nI (by omega) (by omega)) (nm_e (nm_r (nI_1 i) (ih (i + 1) _ (by omega) fun j hj => ?_))))
      rw [nI_clamp (by omega)]
      unfold upd
      by_cases e : j = i
      · rw [if_pos e]; rfl
      · rw [if_neg e]; exact ha j (by omega)
  exact ⟨17, key 16 0 a_cell rfl fun j hj => by omega⟩
/-- an instruction, or not -/
theorem zx_isInstruction {post : Int32 → Prop} {op a : Int32} (h1 : ∀ m b, op = nI m → a = nI b → zc_G m b → post 1) (h0 : (¬ ∃ m b, op = nI m ∧ a = nI b ∧ zc_G m b) → post 0) :
    wpX_isInstruction post op a := by
  have bad : ∀ {m b : Nat}, m < 2 ^ 31 → b < 2 ^ 31 → ¬ zc_G m b → (¬ ∃ m' b', nI m = nI m' ∧ nI b = nI b' ∧ zc_G m' b') := by
    rintro m b hm hb hg ⟨m', b', e1, e2, hG⟩
    have := (nI_eq hm (by have := hG.1; omega)).mp e1
    have := (nI_eq hb (by have := hG.2.1; omega)).mp e2
    subst m' b'
    exact hg hG
  unfold wpX_isInstruction
  refine br_c (fun hn => h0 ?_) (fun hn => ?_)
  · rintro ⟨m, b, e1, _, hG⟩
    rw [e1] at hn
    exact nI_pos (by have := hG.1; omega) hn
  obtain ⟨m, hm, rfl⟩ := nI_of hn
  refine pk_lt 11 m (fun h => h0 ?_) (fun h11 => ?_) rfl rfl (by omega) (by omega)
  · rintro ⟨m', b, e1, _, hG⟩
    have := (nI_eq hm (by have := hG.1; omega)).mp e1
    have := hG.1
    omega
  refine br_c (fun ha => ?_) (fun ha => h0 ?_)
  rotate_left
  · rintro ⟨m', b, _, e2, hG⟩
    rw [e2] at ha
    exact ha (nI_pos' (by have := hG.2.1; omega))
  obtain ⟨b, hb, rfl⟩ := nI_of (x := a) (Int32.not_lt.mpr ha)
  refine zx_isOfVariable h11 (fun h4 => br_f (by decide) ?_) (fun h4 => br_t rfl ?_)
  · exact pk_le 4 b (fun h => h0 (bad hm hb fun hG => by have := hG.2.2.1 h4; omega)) (fun h => h1 m b rfl rfl ⟨h11, by omega, by omega, by omega, by omega⟩) rfl rfl (by omega) (by omega)
  · refine zx_isOfLock h11 (fun hl => br_f (by decide) ?_) (fun hl => br_t rfl ?_)
    · exact pk_le 2 b (fun h => h0 (bad hm hb fun hG => by have := hG.2.2.2.1 hl; omega)) (fun h => h1 m b rfl rfl ⟨h11, by omega, by omega, by omega, by omega⟩) rfl rfl (by omega) (by omega)
    · refine pk_eq m 6 (fun e6 => ?_) (fun e6 => ?_) rfl rfl (by omega) (by omega)
      · refine pk_lt b 1 (fun h => h0 (bad hm hb fun hG => by have := hG.2.2.2.2 e6; omega)) (fun h => ?_) rfl rfl (by omega) (by omega)
        exact pk_lt 3 b (fun h => h0 (bad hm hb fun hG => by have := hG.2.2.2.2 e6; omega)) (fun h' => h1 m b rfl rfl ⟨h11, by omega, by omega, by omega, by omega⟩) rfl rfl (by omega) (by omega)
      · exact pk_le 8 b (fun h => h0 (bad hm hb fun hG => by have := hG.2.1; omega)) (fun h => h1 m b rfl rfl ⟨h11, by omega, by omega, by omega, by omega⟩) rfl rfl (by omega) (by omega)
theorem zx_isThread {post : Int32 → Prop} {x : Int32} (h1 : ∀ t, t < 3 → x = nI t → post 1) (h0 : (∀ t, t < 3 → x ≠ nI t) → post 0) : wpX_isThread post x := by
  refine br_c (fun hn => h0 fun t ht e => ?_) (fun hn => ?_)
  · rw [e] at hn; exact nI_pos (by omega) hn
  obtain ⟨m, hm, rfl⟩ := nI_of hn
  exact pk_le 3 m (fun h => h0 fun t ht e => by have := (nI_eq hm (by omega)).mp e; omega) (fun h => h1 m (by omega) rfl) rfl rfl (by omega) (by omega)
theorem zx_isPlace {post : Int32 → Prop} {x : Int32} (h1 : ∀ t, t ≤ 5 → x = nI t → post 1) (h0 : (∀ t, t ≤ 5 → x ≠ nI t) → post 0) : wpX_isPlace post x := by
  refine br_c (fun hn => h0 fun t ht e => ?_) (fun hn => ?_)
  · rw [e] at hn; exact nI_pos (by omega) hn
  obtain ⟨m, hm, rfl⟩ := nI_of hn
  exact pk_lt 5 m (fun h => h0 fun t ht e => by have := (nI_eq hm (by omega)).mp e; omega) (fun h => h1 m (by omega) rfl) rfl rfl (by omega) (by omega)
end
section
variable {o g L : Nat → Nat} {f_steps f_count f_known f_different : Int32} {a_ops a_args a_length a_next a_table a_far a_found a_who a_what a_tried : Nat → Int32} {a_path a_list a_before : Nat → Int64}
theorem zy_within {post : Int32 → Prop} {x lo hi : Int32} {a b : Nat} (hlo : lo = nI a) (hhi : hi = nI b) (hb : b < 2 ^ 30) (ha : a < 2 ^ 31) (h1 : ∀ t, a ≤ t → t ≤ b → x = nI t → post 1) (h0 : (∀ t, a ≤ t → t ≤ b → x ≠ nI t) → post 0) :
    wpY_within post x lo hi := by
  subst hlo hhi
  rcases pk_ix x (n := b + 1) (by omega) with hx | hx | ⟨j, hj, rfl⟩
  · refine br_t ?_ (h0 fun t _ ht e => ?_)
    · rw [Int32.lt_iff_toInt_lt] at hx ⊢
      rw [nI_toInt ha]
      have : (0 : Int32).toInt = 0 := by decide
      omega
    · rw [e] at hx; exact nI_pos (by omega) hx
  · have hn : ¬ x < 0 := fun h => by
      rw [Int32.lt_iff_toInt_lt] at h
      rw [Int32.le_iff_toInt_le, nI_toInt (by omega)] at hx
      have : (0 : Int32).toInt = 0 := by decide
      omega
    obtain ⟨m, hm, rfl⟩ := nI_of hn
    have hm2 := (nI_leI (by omega) hm).mp hx
    have hno : ∀ t, a ≤ t → t ≤ b → nI m ≠ nI t := fun t _ ht e => by have := (nI_eq hm (by omega)).mp e; omega
    exact pk_lt m a (fun _ => h0 hno) (fun _ => pk_lt b m (fun _ => h0 hno) (fun h => by omega) rfl rfl (by omega) (by omega)) rfl rfl (by omega) (by omega)
  · refine pk_lt j a (fun h => h0 fun t ht _ e => ?_) (fun h => pk_lt b j (fun h => by omega) (fun _ => h1 j (by omega) (by omega) rfl) rfl rfl (by omega) (by omega)) rfl rfl (by omega) (by omega)
    have := (nI_eq (by omega) (by omega)).mp e
    omega
theorem zy_nb1 : narrow .boolean (.int 1) = .int 1 := lw_bz_n 1
theorem zy_nb0 : narrow .boolean (.int 0) = .int 0 := lw_bz_n 0
theorem zy_isGood {post : Int32 → Prop} {op a : Int32} (h1 : ∀ m b, op = nI m → a = nI b → zc_G m b → post 1) (h0 : (¬ ∃ m b, op = nI m ∧ a = nI b ∧ zc_G m b) → post 0) :
    wpY_isGood post op a := by
  unfold wpY_isGood
  refine zy_within (a := 0) (b := 11) rfl rfl (by omega) (by omega) (fun m _ hm e => br_f (by decide) ?_) (fun hn => br_t rfl (h0 ?_))
  rotate_left
  · rintro ⟨m, b, e1, _, hG⟩
    exact hn m (by omega) hG.1 e1
  subst e
  have wi : ∀ (lo hi : Nat), lo ≤ hi → hi < 2 ^ 30 → (∀ b, lo ≤ b → b ≤ hi → zc_G m b) → (∀ b, zc_G m b → lo ≤ b ∧ b ≤ hi) →
      wpY_within (fun r => (narrow .boolean (.int r) = .int r ∧ (post r))) a (nI lo) (nI hi) := by
    intro lo hi _ hhi hy hn
    refine zy_within rfl rfl hhi (by omega) (fun b hb1 hb2 e => And.intro zy_nb1 (h1 m b rfl e (hy b hb1 hb2))) (fun hno => And.intro zy_nb0 (h0 ?_))
    rintro ⟨m', b, e1, e2, hG⟩
    have := (nI_eq (by omega) (by have := hG.1; omega)).mp e1
    subst this
    have := hn b hG
    exact hno b this.1 this.2 e2
  refine pk_le 4 m (fun h4 => ?_) (fun h4 => ?_) rfl rfl (by omega) (by omega)
  · refine pk_eq m 6 (fun e6 => ?_) (fun e6 => ?_) rfl rfl (by omega) (by omega)
    · exact wi 1 3 (by omega) (by omega) (fun b _ _ => ⟨hm, by omega, by omega, by omega, by omega⟩) (fun b hG => hG.2.2.2.2 e6)
    · have w7 : (m = 4 ∨ m = 5 ∨ m = 9) → wY_isGood_55 post 0 a := fun hh =>
        wi 0 7 (by omega) (by omega) (fun b _ _ => ⟨hm, by omega, by omega, by omega, by omega⟩) (fun b hG => ⟨by omega, by have := hG.2.1; omega⟩)
      refine pk_eq m 4 (fun e => w7 (by omega)) (fun e4 => ?_) rfl rfl (by omega) (by omega)
      refine pk_eq m 5 (fun e => w7 (by omega)) (fun e5 => ?_) rfl rfl (by omega) (by omega)
      refine pk_eq m 9 (fun e => w7 (by omega)) (fun e9 => ?_) rfl rfl (by omega) (by omega)
      exact wi 0 1 (by omega) (by omega) (fun b _ _ => ⟨hm, by omega, by omega, by omega, by omega⟩) (fun b hG => ⟨by omega, by have := hG.2.2.2.1 (by omega); omega⟩)
  · exact wi 0 3 (by omega) (by omega) (fun b _ _ => ⟨hm, by omega, by omega, by omega, by omega⟩) (fun b hG => ⟨by omega, by have := hG.2.2.1 h4; omega⟩)
theorem zy_or5 {d : Nat → Nat} (hd : ∀ j, d j < 2 ^ zp_w j) {t : Nat} (ht : t < 3) (h0 : d (7 + t) = 0) :
    lN (zp_Y d) ||| ((5 : Int64) <<< ((21 + (3 * nI t)).toInt64 &&& 63)) = lN (zp_Y (zc_up d (7 + t) 5)) := by
  have e5 := zp_putY hd (k := 7 + t) (v := 5) (by omega) (by rw [zy_w3 (by omega)]; decide)
  have e0 := zp_putY hd (k := 7 + t) (v := 0) (by omega) (by rw [zy_w3 (by omega)]; decide)
  have hu : zc_up d (7 + t) 0 = d := by rw [← h0]; exact zp_self
  rw [hu, Nat.zero_mul] at e0
  have ez : ∀ x : Int64, x ||| lN 0 = x := by
    intro x
    apply wb_inj
    rw [Int64.toBitVec_or, wb_tb]
    simp
  rw [ez] at e0
  rw [e0] at e5
  have es : (5 : Int64) <<< ((21 + (3 * nI t)).toInt64 &&& 63) = lN (5 * 2 ^ zp_s zp_w 0 (7 + t)) := by
    rw [zy_i21, zy_s3 (by omega)]
    exact wb_shl 5 (by omega)
  rw [es]
  exact e5
theorem zy_reset {post : SY → Prop} (hC : zx_C o g L a_ops a_args a_length)
    (hp : post (0, f_count, 0, f_different, a_ops, a_args, a_length, vp_updL a_path 0 (lN (zp_Y (zr_0 L))), a_list, a_next, a_table, a_far, a_found, a_who, a_what, a_before, a_tried)) : wpY_reset post (f_steps, f_count, f_known, f_different, a_ops, a_args, a_length, a_path, a_list, a_next, a_table, a_far, a_found, a_who, a_what, a_before, a_tried) := by
  have hK := hC.1
  have st : ∀ (n t : Nat) (d : Nat → Nat), t < 3 → (∀ j, d j < 2 ^ zp_w j) → d (7 + t) = 0 →
      wY_reset_4 post f_steps f_count f_known f_different a_ops a_args a_length a_path a_list a_next a_table a_far a_found a_who a_what a_before a_tried n (lN (zp_Y (zc_up d (7 + t) (zc_pl L t 0)))) (nI (t + 1)) → wY_reset_4 post f_steps f_count f_known f_different a_ops a_args a_length a_path a_list a_next a_table a_far a_found a_who a_what a_before a_tried (n + 1) (lN (zp_Y d)) (nI t) := by
    intro n t d ht hd h0 hw
    have hL := (hK t ht).1
    refine br_f (nI_ge (b := 3) (by omega) (by decide)) (And.intro (vp_in_nI (by omega) (by omega)) (pk_eq (L t) 0 (fun e => nm_r (zy_or5 hd ht h0) (nm_r (nI_1 t) ?_)) (fun e => nm_r (nI_1 t) ?_) (zx_ln hC rfl ht) rfl (by omega) (by omega)))
    · have ep : zc_pl L t 0 = 5 := by unfold zc_pl; rw [if_neg (by omega)]
      rw [ep] at hw
      exact hw
    · have ep : zc_pl L t 0 = 0 := by unfold zc_pl; rw [if_pos (by omega)]
      rw [ep, ← h0, zp_self] at hw
      exact hw
  have pl8 : ∀ t, t < 3 → zc_pl L t 0 < 8 := by
    intro t ht
    have := (hK t ht).1
    have := zc_pl_v (L := L) (t := t) 0
    omega
  have z0 : ∀ j, (fun _ => 0 : Nat → Nat) j < 2 ^ zp_w j := fun j => Nat.two_pow_pos _
  have b1 := zy_up3 z0 (k := 7) (v := zc_pl L 0 0) (by omega) (pl8 0 (by omega))
  have b2 := zy_up3 b1 (k := 8) (v := zc_pl L 1 0) (by omega) (pl8 1 (by omega))
  refine ⟨4, ?_⟩
  have e0 : lN (zp_Y (fun _ => 0)) = 0 := by rfl
  rw [← e0]
  refine st 3 0 _ (by omega) z0 rfl (st 2 1 _ (by omega) b1 rfl (st 1 2 _ (by omega) b2 rfl ?_))
  exact br_t (by decide) (nm_e hp)
end
end
section
/-! the relation; the calls that need no search -/
def zr_P (xs : Int32) (xops xargs xlen : Nat → Int32) (xtrail : Nat → Int64) (ys yc yk : Int32) (yops yargs ylen : Nat → Int32) (ypath ylist : Nat → Int64) (ynext : Nat → Int32) : Prop :=
  ∃ (o g L : Nat → Nat) (n : Nat) (h : Nat → Nat → Nat), zx_C o g L xops xargs xlen ∧ zx_C o g L yops yargs ylen ∧ xs = nI n ∧ ys = nI n ∧ n ≤ 30 ∧
    (∀ i, i ≤ n → xtrail i = lN (zp_X (h i)) ∧ ypath i = lN (zp_Y (h i)) ∧ zc_V o L (h i) ∧ i ≤ zc_psi (h i) 0 + zc_psi (h i) 1 + zc_psi (h i) 2) ∧
    (yk = 0 ∨ (yk = 1 ∧ zy_S o g L (h n) yc ylist ynext))
def i_Rel (k : Nat) (u : SX) (v : SY) : Prop := match u, v with
  | (f_steps, f_foundCount, a_ops, a_args, a_codeLength, a_trail, a_cell, a_found, a_cameFrom, a_cameBy, a_distance, a_slots, a_isEnding, a_walkState, a_walkLeft, a_walkAsleep), (f_steps1, f_count1, f_known1, f_different1, a_ops1, a_args1, a_length1, a_path1, a_list1, a_next1, a_table1, a_far1, a_found1, a_who1, a_what1, a_before1, a_tried1) => zr_P f_steps a_ops a_args a_codeLength a_trail f_steps1 f_count1 f_known1 a_ops1 a_args1 a_length1 a_path1 a_list1 a_next1
theorem i_up {k : Nat} {u : SX} {v : SY} (h : i_Rel k u v) : i_Rel (k + 5) u v := h
/-- the relation after the code or the start has changed -/
theorem zr_new {o g L : Nat → Nat} {xops xargs xlen yops yargs ylen ynext : Nat → Int32} {xtrail ypath ylist : Nat → Int64} {yc : Int32} (hX : zx_C o g L xops xargs xlen) (hY : zx_C o g L yops yargs ylen) :
    zr_P 0 xops xargs xlen (vp_updL xtrail 0 (lN (zp_X (zr_0 L)))) 0 yc 0 yops yargs ylen (vp_updL ypath 0 (lN (zp_Y (zr_0 L)))) ylist ynext := by
  refine ⟨o, g, L, 0, fun _ => zr_0 L, hX, hY, rfl, rfl, by omega, fun i hi => ?_, Or.inl rfl⟩
  have e : i = 0 := by omega
  subst e
  exact ⟨pk_uLs, pk_uLs, zr_0_V hX.1, Nat.zero_le _⟩
theorem zr_K0 : zc_K (fun _ => 0) (fun _ => 0) (fun _ => 0) := fun t _ => ⟨Nat.zero_le _, fun p hp => absurd hp (Nat.not_lt_zero _)⟩
theorem zr_C0 : zx_C (fun _ => 0) (fun _ => 0) (fun _ => 0) (fun _ => 0) (fun _ => 0) (fun _ => 0) := ⟨zr_K0, fun i _ => rfl, fun i _ => rfl, fun t _ => rfl⟩
theorem i_vc0 : wpX_init (fun u => wpY_init (fun v => i_Rel 0 u v)) := by
  unfold wpX_init
  refine zx_returnToFirst zr_C0 fun cell => ?_
  show wpY_init _
  unfold wpY_init
  refine zy_reset zr_C0 ?_
  exact zr_new zr_C0 zr_C0
theorem zr_nI {a b : Nat} (h : nI a = nI b) (ha : a < 2 ^ 31) (hb : b < 2 ^ 31) : a = b := (nI_eq ha hb).mp h
/-- the code with one instruction written -/
theorem zr_C_up {o g L : Nat → Nat} {ops args len : Nat → Int32} {t p m b : Nat} {x y z : Int32} (hC : zx_C o g L ops args len) (ht : t < 3) (hp : p < 5) (hpL : p ≤ L t)
    (hG : zc_G m b) {n : Nat} (hn : n = L t ∨ (n = L t + 1 ∧ p = L t)) (hn5 : n ≤ 5) (hx : x = nI m) (hy : y = nI b) (hz : z = nI n) :
    zx_C (zc_up o (5 * t + p) m) (zc_up g (5 * t + p) b) (zc_up L t n) (upd ops (5 * t + p) x) (upd args (5 * t + p) y) (upd len t z) := by
  obtain ⟨k1, k2, k3, k4⟩ := hC
  refine ⟨fun t' ht' => ?_, fun i hi => ?_, fun i hi => ?_, fun i hi => ?_⟩
  · by_cases e : t' = t
    · subst e
      rw [zc_up_s]
      refine ⟨hn5, fun q hq => ?_⟩
      by_cases eq : q = p
      · subst eq; rw [zc_up_s, zc_up_s]; exact hG
      · rw [zc_up_n (by omega), zc_up_n (by omega)]
        exact (k1 t' ht').2 q (by omega)
    · rw [zc_up_n e]
      refine ⟨(k1 t' ht').1, fun q hq => ?_⟩
      have := (k1 t' ht').1
      rw [zc_up_n (by omega), zc_up_n (by omega)]
      exact (k1 t' ht').2 q hq
  · unfold upd zc_up
    split
    · exact hx
    · exact k2 i hi
  · unfold upd zc_up
    split
    · exact hy
    · exact k3 i hi
  · unfold upd zc_up
    split
    · exact hz
    · exact k4 i hi
theorem zr_up_same {f : Nat → Int32} {k : Nat} {x : Int32} (h : f k = x) : upd f k x = f := by
  funext j
  unfold upd
  split
  · rename_i e; rw [e, h]
  · rfl
theorem i_vc_add {k : Nat} {u : SX} {v : SY} (I : i_Rel k u v) (hk : k + 5 ≤ 2560) (v1 : Int32) (v2 : Int32) (v3 : Int32) : wpX_add (fun r u' => wpY_add (fun r' v' => r' = r ∧ i_Rel (k + 5) u' v') v v1 v2 v3) u v1 v2 v3 := by
  obtain ⟨f_steps, f_foundCount, a_ops, a_args, a_codeLength, a_trail, a_cell, a_found, a_cameFrom, a_cameBy, a_distance, a_slots, a_isEnding, a_walkState, a_walkLeft, a_walkAsleep⟩ := u
  obtain ⟨f_steps1, f_count1, f_known1, f_different1, a_ops1, a_args1, a_length1, a_path1, a_list1, a_next1, a_table1, a_far1, a_found1, a_who1, a_what1, a_before1, a_tried1⟩ := v
  obtain ⟨o, g, L, n, h, hX, hY, e1, e2, hn, hh, hkn⟩ := I
  have I' : zr_P f_steps a_ops a_args a_codeLength a_trail f_steps1 f_count1 f_known1 a_ops1 a_args1 a_length1 a_path1 a_list1 a_next1 := ⟨o, g, L, n, h, hX, hY, e1, e2, hn, hh, hkn⟩
  unfold wpX_add
  refine zx_isThread (fun t ht e => br_f (by decide) ?_) (fun hno => br_t rfl ?_)
  rotate_left
  · unfold wpY_add
    exact zy_within (a := 0) (b := 2) rfl rfl (by omega) (by omega) (fun t _ ht e => absurd e (hno t (by omega))) (fun _ => br_t rfl ⟨rfl, I'⟩)
  subst e
  have hL := (hX.1 t ht).1
  refine zx_isInstruction (fun m b em eb hG => br_f (by decide) ?_) (fun hno => br_t rfl ?_)
  rotate_left
  · unfold wpY_add
    refine zy_within (a := 0) (b := 2) rfl rfl (by omega) (by omega) (fun t' _ ht' e => br_f (by decide) ?_) (fun hno' => absurd rfl (hno' t (by omega) (by omega)))
    exact zy_isGood (fun m b em eb hG => absurd ⟨m, b, em, eb, hG⟩ hno) (fun _ => br_t rfl ⟨rfl, I'⟩)
  have it : vp_in (nI t) 3 := vp_in_nI ht (by omega)
  have ec : (nI t).toNatClampNeg = t := nI_clamp (by omega)
  refine And.intro it (pk_lt (L t) 5 (fun hlt => ?_) (fun hge => ?_) (zx_ln hX rfl ht) rfl (by omega) (by omega))
  · have eX := zx_ln hX (rfl : nI t = nI t) ht
    have eY := zx_ln hY (rfl : nI t = nI t) ht
    refine And.intro it (And.intro it (nm_e (And.intro it ?_)))
    have hX' := zr_C_up (x := v2) (y := v3) (z := a_codeLength (nI t).toNatClampNeg + 1) hX ht hlt (Nat.le_refl _) hG (n := L t + 1) (Or.inr ⟨rfl, rfl⟩) (by omega) em eb (by rw [eX, nI_1])
    have hY' := zr_C_up (x := v2) (y := v3) (z := a_length1 (nI t).toNatClampNeg + 1) hY ht hlt (Nat.le_refl _) hG (n := L t + 1) (Or.inr ⟨rfl, rfl⟩) (by omega) em eb (by rw [eY, nI_1])
    have ei : nI t * 5 + (upd a_codeLength (nI t).toNatClampNeg (a_codeLength (nI t).toNatClampNeg + 1) (nI t).toNatClampNeg - 1) = nI (5 * t + L t) := by
      rw [pk_us, eX, nI_1, nI_pred, zx_pc]
    unfold wpX_write
    refine And.intro (pk_in _ 15 (by omega) ei) (nm_e (And.intro (pk_in _ 15 (by omega) ei) (nm_e ?_)))
    rw [ei, nI_clamp (show 5 * t + L t < 2 ^ 31 by omega)]
    rw [ec] at hX' hY' ⊢
    refine zx_returnToFirst hX' fun cell => And.intro it ?_
    unfold wpY_add
    refine zy_within (a := 0) (b := 2) rfl rfl (by omega) (by omega) (fun t' _ ht' e => br_f (by decide) ?_) (fun hno' => absurd rfl (hno' t (by omega) (by omega)))
    refine zy_isGood (fun m b em eb hG => br_f (by decide) ?_) (fun hno => absurd ⟨m, b, em, eb, hG⟩ hno)
    refine And.intro it (pk_eq (L t) 5 (fun h5 => by omega) (fun h5 => ?_) eY rfl (by omega) (by omega))
    have ej : 5 * nI t + a_length1 (nI t).toNatClampNeg = nI (5 * t + L t) := by rw [eY, zy_pc]
    refine And.intro it (And.intro it (nm_e (nm_r ej (And.intro (vp_in_nI (by omega) (by omega)) (nm_e (And.intro (vp_in_nI (by omega) (by omega)) (nm_e ?_)))))))
    rw [nI_clamp (show 5 * t + L t < 2 ^ 31 by omega), ec]
    refine zy_reset hY' (And.intro it ⟨?_, zr_new hX' hY'⟩)
    rw [pk_us, pk_us]
    rw [ec] at eX eY
    rw [eX, eY]
  · unfold wpY_add
    refine zy_within (a := 0) (b := 2) rfl rfl (by omega) (by omega) (fun t' _ ht' e => br_f (by decide) ?_) (fun hno' => absurd rfl (hno' t (by omega) (by omega)))
    refine zy_isGood (fun m b em eb hG => br_f (by decide) ?_) (fun hno => absurd ⟨m, b, em, eb, hG⟩ hno)
    exact And.intro it (pk_eq (L t) 5 (fun h5 => ⟨rfl, I'⟩) (fun h5 => by omega) (zx_ln hY rfl ht) rfl (by omega) (by omega))
theorem i_vc_clear {k : Nat} {u : SX} {v : SY} (I : i_Rel k u v) (hk : k + 5 ≤ 2560) (v1 : Int32) : wpX_clear (fun r u' => wpY_clear (fun r' v' => r' = r ∧ i_Rel (k + 5) u' v') v v1) u v1 := by
  obtain ⟨f_steps, f_foundCount, a_ops, a_args, a_codeLength, a_trail, a_cell, a_found, a_cameFrom, a_cameBy, a_distance, a_slots, a_isEnding, a_walkState, a_walkLeft, a_walkAsleep⟩ := u
  obtain ⟨f_steps1, f_count1, f_known1, f_different1, a_ops1, a_args1, a_length1, a_path1, a_list1, a_next1, a_table1, a_far1, a_found1, a_who1, a_what1, a_before1, a_tried1⟩ := v
  obtain ⟨o, g, L, n, h, hX, hY, e1, e2, hn, hh, hkn⟩ := I
  have I' : zr_P f_steps a_ops a_args a_codeLength a_trail f_steps1 f_count1 f_known1 a_ops1 a_args1 a_length1 a_path1 a_list1 a_next1 := ⟨o, g, L, n, h, hX, hY, e1, e2, hn, hh, hkn⟩
  unfold wpX_clear
  refine zx_isThread (fun t ht e => br_f (by decide) ?_) (fun hno => br_t rfl ?_)
  rotate_left
  · unfold wpY_clear
    exact zy_within (a := 0) (b := 2) rfl rfl (by omega) (by omega) (fun t _ ht e => absurd e (hno t (by omega))) (fun _ => br_t rfl ⟨rfl, I'⟩)
  subst e
  have it : vp_in (nI t) 3 := vp_in_nI ht (by omega)
  have ec : (nI t).toNatClampNeg = t := nI_clamp (by omega)
  have cl : ∀ {ops args len : Nat → Int32}, zx_C o g L ops args len → zx_C o g (zc_up L t 0) ops args (upd len t 0) := by
    intro ops args len hC
    refine ⟨fun t' ht' => ?_, hC.2.1, hC.2.2.1, fun i hi => ?_⟩
    · by_cases e : t' = t
      · subst e; rw [zc_up_s]; exact ⟨by omega, fun p hp => by omega⟩
      · rw [zc_up_n e]; exact hC.1 t' ht'
    · unfold upd zc_up
      split
      · rfl
      · exact hC.2.2.2 i hi
  refine And.intro it (nm_r (zx_ln hX rfl ht) (And.intro it (nm_e ?_)))
  rw [ec]
  refine zx_returnToFirst (cl hX) fun cell => ?_
  show wpY_clear _ _ _
  unfold wpY_clear
  refine zy_within (a := 0) (b := 2) rfl rfl (by omega) (by omega) (fun t' _ ht' e => br_f (by decide) ?_) (fun hno' => absurd rfl (hno' t (by omega) (by omega)))
  refine And.intro it (nm_r (zx_ln hY rfl ht) (And.intro it (nm_e ?_)))
  rw [ec]
  exact zy_reset (cl hY) ⟨rfl, zr_new (cl hX) (cl hY)⟩
theorem i_vc_change {k : Nat} {u : SX} {v : SY} (I : i_Rel k u v) (hk : k + 5 ≤ 2560) (v1 : Int32) (v2 : Int32) (v3 : Int32) (v4 : Int32) : wpX_change (fun r u' => wpY_change (fun r' v' => r' = r ∧ i_Rel (k + 5) u' v') v v1 v2 v3 v4) u v1 v2 v3 v4 := by
  obtain ⟨f_steps, f_foundCount, a_ops, a_args, a_codeLength, a_trail, a_cell, a_found, a_cameFrom, a_cameBy, a_distance, a_slots, a_isEnding, a_walkState, a_walkLeft, a_walkAsleep⟩ := u
  obtain ⟨f_steps1, f_count1, f_known1, f_different1, a_ops1, a_args1, a_length1, a_path1, a_list1, a_next1, a_table1, a_far1, a_found1, a_who1, a_what1, a_before1, a_tried1⟩ := v
  obtain ⟨o, g, L, n, h, hX, hY, e1, e2, hn, hh, hkn⟩ := I
  have I' : zr_P f_steps a_ops a_args a_codeLength a_trail f_steps1 f_count1 f_known1 a_ops1 a_args1 a_length1 a_path1 a_list1 a_next1 := ⟨o, g, L, n, h, hX, hY, e1, e2, hn, hh, hkn⟩
  unfold wpX_change
  refine zx_isThread (fun t ht e => br_f (by decide) ?_) (fun hno => br_t rfl ?_)
  rotate_left
  · show wpY_change _ _ _ _ _ _
    unfold wpY_change
    exact zy_within (a := 0) (b := 2) rfl rfl (by omega) (by omega) (fun t _ ht e => absurd e (hno t (by omega))) (fun _ => br_t rfl ⟨rfl, I'⟩)
  subst e
  have it : vp_in (nI t) 3 := vp_in_nI ht (by omega)
  have ec : (nI t).toNatClampNeg = t := nI_clamp (by omega)
  have hL := (hX.1 t ht).1
  -- the reference refuses
  have no : ((¬ ∃ m b, v3 = nI m ∧ v4 = nI b ∧ zc_G m b) ∨ v2 < 0 ∨ (∃ q, q < 2 ^ 31 ∧ v2 = nI q ∧ L t ≤ q)) → wpY_change (fun r' v' => r' = 0 ∧ i_Rel (k + 5) (f_steps, f_foundCount, a_ops, a_args, a_codeLength, a_trail, a_cell, a_found, a_cameFrom, a_cameBy, a_distance, a_slots, a_isEnding, a_walkState, a_walkLeft, a_walkAsleep) v') (f_steps1, f_count1, f_known1, f_different1, a_ops1, a_args1, a_length1, a_path1, a_list1, a_next1, a_table1, a_far1, a_found1, a_who1, a_what1, a_before1, a_tried1) (nI t) v2 v3 v4 := by
    intro hno
    unfold wpY_change
    refine zy_within (a := 0) (b := 2) rfl rfl (by omega) (by omega) (fun t' _ ht' e => br_f (by decide) ?_) (fun hno' => absurd rfl (hno' t (by omega) (by omega)))
    refine br_c (fun _ => ⟨rfl, I'⟩) (fun h0 => And.intro it ?_)
    obtain ⟨q, hq, rfl⟩ := nI_of h0
    refine pk_le (L t) q (fun _ => ⟨rfl, I'⟩) (fun hlt => ?_) (zx_ln hY rfl ht) rfl (by omega) (by omega)
    refine zy_isGood (fun m b em eb hG => ?_) (fun _ => br_t rfl ⟨rfl, I'⟩)
    rcases hno with hno | hno | ⟨q', hq', e, hle⟩
    · exact absurd ⟨m, b, em, eb, hG⟩ hno
    · exact absurd hno h0
    · have := zr_nI e hq hq'
      omega
  refine zx_isInstruction (fun m b em eb hG => br_f (by decide) ?_) (fun hno => br_t rfl (no (Or.inl hno)))
  refine br_c (fun hneg => no (Or.inr (Or.inl hneg))) (fun h0 => And.intro it ?_)
  obtain ⟨q, hq, rfl⟩ := nI_of h0
  refine pk_lt q (L t) (fun hlt => ?_) (fun hge => no (Or.inr (Or.inr ⟨q, hq, rfl, hge⟩))) rfl (zx_ln hX rfl ht) (by omega) (by omega)
  have eX := hX.2.2.2 t ht
  have eY := hY.2.2.2 t ht
  have hX' := zr_C_up (x := v3) (y := v4) (z := nI (L t)) hX ht (p := q) (by omega) (by omega) hG (n := L t) (Or.inl rfl) (by omega) em eb rfl
  have hY' := zr_C_up (x := v3) (y := v4) (z := nI (L t)) hY ht (p := q) (by omega) (by omega) hG (n := L t) (Or.inl rfl) (by omega) em eb rfl
  rw [zr_up_same eX] at hX'
  rw [zr_up_same eY] at hY'
  unfold wpX_write
  refine And.intro (pk_in _ 15 (show 5 * t + q < 15 by omega) (zx_pc t q)) (nm_e (And.intro (pk_in _ 15 (show 5 * t + q < 15 by omega) (zx_pc t q)) (nm_e ?_)))
  rw [zx_pc, nI_clamp (show 5 * t + q < 2 ^ 31 by omega)]
  refine zx_returnToFirst hX' fun cell => ?_
  show wpY_change _ _ _ _ _ _
  unfold wpY_change
  refine zy_within (a := 0) (b := 2) rfl rfl (by omega) (by omega) (fun t' _ ht' e => br_f (by decide) ?_) (fun hno' => absurd rfl (hno' t (by omega) (by omega)))
  refine br_f h0 (And.intro it (pk_le (L t) q (fun h => by omega) (fun _ => ?_) (zx_ln hY rfl ht) rfl (by omega) (by omega)))
  refine zy_isGood (fun _ _ _ _ _ => br_f (by decide) ?_) (fun hno => absurd ⟨m, b, em, eb, hG⟩ hno)
  refine And.intro (pk_in _ 15 (show 5 * t + q < 15 by omega) (zy_pc t q)) (nm_e (And.intro (pk_in _ 15 (show 5 * t + q < 15 by omega) (zy_pc t q)) (nm_e ?_)))
  rw [zy_pc, nI_clamp (show 5 * t + q < 2 ^ 31 by omega)]
  exact zy_reset hY' ⟨rfl, zr_new hX' hY'⟩
end
section
/-! go, back, now, states -/
theorem i_vc_go {k : Nat} {u : SX} {v : SY} (I : i_Rel k u v) (hk : k + 5 ≤ 2560) (v1 : Int32) : wpX_go (fun r u' => wpY_go (fun r' v' => r' = r ∧ i_Rel (k + 5) u' v') v v1) u v1 := by
  obtain ⟨f_steps, f_foundCount, a_ops, a_args, a_codeLength, a_trail, a_cell, a_found, a_cameFrom, a_cameBy, a_distance, a_slots, a_isEnding, a_walkState, a_walkLeft, a_walkAsleep⟩ := u
  obtain ⟨f_steps1, f_count1, f_known1, f_different1, a_ops1, a_args1, a_length1, a_path1, a_list1, a_next1, a_table1, a_far1, a_found1, a_who1, a_what1, a_before1, a_tried1⟩ := v
  obtain ⟨o, g, L, n, h, hX, hY, e1, e2, hn, hh, hkn⟩ := I
  have I' : zr_P f_steps a_ops a_args a_codeLength a_trail f_steps1 f_count1 f_known1 a_ops1 a_args1 a_length1 a_path1 a_list1 a_next1 := ⟨o, g, L, n, h, hX, hY, e1, e2, hn, hh, hkn⟩
  subst e1 e2
  obtain ⟨hx, hy, hV, hps⟩ := hh n (Nat.le_refl _)
  have hB := zp_bX (zx_L5 hX) hV
  have ecn : (nI n).toNatClampNeg = n := nI_clamp (by omega)
  have ex : a_trail (nI n).toNatClampNeg = lN (zp_X (h n)) := by rw [ecn]; exact hx
  have ey : a_path1 (nI n).toNatClampNeg = lN (zp_Y (h n)) := by rw [ecn]; exact hy
  have i31 : vp_in (nI n) 31 := vp_in_nI (by omega) (by omega)
  have i32 : vp_in (nI n) 32 := vp_in_nI (by omega) (by omega)
  unfold wpX_go
  refine And.intro i31 (zx_unpack' ex hB fun a1 ha1 => ?_)
  refine zx_isThread (fun t ht e => br_f (by decide) ?_) (fun hno => br_t rfl ?_)
  rotate_left
  · show wpY_go _ _ _
    unfold wpY_go
    exact zy_within (a := 0) (b := 2) rfl rfl (by omega) (by omega) (fun t _ ht e => absurd e (hno t (by omega))) (fun _ => br_t rfl ⟨rfl, I'⟩)
  subst e
  refine zx_isReady hX hV ht ha1 (fun hR => br_f (by decide) ?_) (fun hR => br_t rfl ?_)
  rotate_left
  · show wpY_go _ _ _
    unfold wpY_go
    refine zy_within (a := 0) (b := 2) rfl rfl (by omega) (by omega) (fun t' _ ht' e => br_f (by decide) (And.intro i32 ?_)) (fun hno' => absurd rfl (hno' t (by omega) (by omega)))
    rw [ey]
    exact zy_isReady hY hV ht (fun hR' => absurd hR' hR) (fun _ => br_t rfl ⟨rfl, I'⟩)
  have hVs := zc_V_step hX.1 hV ht hR
  have hps' := zc_psi_all hX.1 hV ht hR
  have k0 := zc_psi_le hX.1 hVs (t := 0) (by omega)
  have k1 := zc_psi_le hX.1 hVs (t := 1) (by omega)
  have k2 := zc_psi_le hX.1 hVs (t := 2) (by omega)
  have hn30 : n < 30 := by omega
  have ecn1 : (nI (n + 1)).toNatClampNeg = n + 1 := nI_clamp (by omega)
  refine pk_lt n 30 (fun _ => ?_) (fun h => by omega) rfl rfl (by omega) (by omega)
  refine zx_advance hX hV ht ha1 hR fun a2 ha2 => nm_r (nI_1 n) (zx_packed ha2 (zp_bX (zx_L5 hX) hVs) (And.intro (vp_in_nI (by omega) (by omega)) (nm_e ?_)))
  show wpY_go _ _ _
  unfold wpY_go
  refine zy_within (a := 0) (b := 2) rfl rfl (by omega) (by omega) (fun t' _ ht' e => br_f (by decide) (And.intro i32 ?_)) (fun hno' => absurd rfl (hno' t (by omega) (by omega)))
  rw [ey]
  refine zy_isReady hY hV ht (fun _ => br_f (by decide) (And.intro i32 ?_)) (fun hR' => absurd hR hR')
  refine zy_after hY hV ht hR (And.intro (pk_in (n + 1) 32 (by omega) (nI_1 n)) (nm_e (nm_e ⟨nI_1 n, ?_⟩)))
  refine ⟨o, g, L, n + 1, fun i => if i = n + 1 then zc_step o g L (h n) t else h i, hX, hY, rfl, nI_1 n, by omega, fun i hi => ?_, Or.inl rfl⟩
  rw [nI_1, ecn1]
  by_cases e : i = n + 1
  · subst e
    dsimp only
    rw [pk_uLs, pk_uLs, if_pos rfl]
    exact ⟨rfl, rfl, hVs, by omega⟩
  · dsimp only
    rw [pk_uLn e, pk_uLn e, if_neg e]
    exact hh i (by omega)
theorem i_vc_back {k : Nat} {u : SX} {v : SY} (I : i_Rel k u v) (hk : k + 5 ≤ 2560) : wpX_back (fun r u' => wpY_back (fun r' v' => r' = r ∧ i_Rel (k + 5) u' v') v) u := by
  obtain ⟨f_steps, f_foundCount, a_ops, a_args, a_codeLength, a_trail, a_cell, a_found, a_cameFrom, a_cameBy, a_distance, a_slots, a_isEnding, a_walkState, a_walkLeft, a_walkAsleep⟩ := u
  obtain ⟨f_steps1, f_count1, f_known1, f_different1, a_ops1, a_args1, a_length1, a_path1, a_list1, a_next1, a_table1, a_far1, a_found1, a_who1, a_what1, a_before1, a_tried1⟩ := v
  obtain ⟨o, g, L, n, h, hX, hY, e1, e2, hn, hh, hkn⟩ := I
  have I' : zr_P f_steps a_ops a_args a_codeLength a_trail f_steps1 f_count1 f_known1 a_ops1 a_args1 a_length1 a_path1 a_list1 a_next1 := ⟨o, g, L, n, h, hX, hY, e1, e2, hn, hh, hkn⟩
  subst e1 e2
  refine pk_eq n 0 (fun e => ?_) (fun e => ?_) rfl rfl (by omega) (by omega)
  · exact pk_eq n 0 (fun _ => ⟨rfl, I'⟩) (fun e' => absurd e e') rfl rfl (by omega) (by omega)
  · have em : nI n - 1 = nI (n - 1) := pk_sub (b := 1) (by omega)
    refine nm_r em (pk_eq n 0 (fun e' => absurd e' e) (fun _ => nm_r em ⟨em, ?_⟩) rfl rfl (by omega) (by omega))
    exact ⟨o, g, L, n - 1, h, hX, hY, rfl, rfl, by omega, fun i hi => hh i (by omega), Or.inl rfl⟩
section
variable {o g L c : Nat → Nat} {f_steps f_count f_known f_different : Int32} {a_ops a_args a_length a_next a_table a_far a_found a_who a_what a_tried : Nat → Int32} {a_path a_list a_before : Nat → Int64}
theorem zy_set {post : Int32 → Prop} (hC : zx_C o g L a_ops a_args a_length) (hV : zc_V o L c)
    (hp : ∀ m, zx_M m (zc_R o g L c) → post (nI m)) : ∃ n, wY_now_111 post (lN (zp_Y c)) f_steps f_count f_known f_different a_ops a_args a_length a_path a_list a_next a_table a_far a_found a_who a_what a_before a_tried n 0 0 := by
  have key : ∀ d n m, n + d = 3 → m < 8 → (∀ u, u < 3 → (m.testBit u = true ↔ u < n ∧ zc_R o g L c u)) →
      wY_now_111 post (lN (zp_Y c)) f_steps f_count f_known f_different a_ops a_args a_length a_path a_list a_next a_table a_far a_found a_who a_what a_before a_tried (d + 1) (nI m) (nI n) := by
    intro d
    induction d with
    | zero =>
      intro n m hn hm hb
      have e : n = 3 := by omega
      subst e
      refine br_t (by decide) (hp m ⟨hm, fun u hu => ?_⟩)
      rw [hb u hu]
      exact ⟨fun h => h.2, fun h => ⟨hu, h⟩⟩
    | succ d ih =>
      intro n m hn hm hb
      refine br_f (nI_ge (b := 3) (by omega) (by decide)) (zy_isReady hC hV (by omega) (fun hR => br_f (by decide) ?_) (fun hR => br_t rfl ?_))
      · have hx := zx_M_or hm hb (by omega) hR
        exact nm_r (zx_or n (by omega) m hm) (nm_r (nI_1 n) (ih (n + 1) _ (by omega) hx.1 hx.2))
      · exact nm_r (nI_1 n) (ih (n + 1) m (by omega) hm (zx_M_no hb hR))
  exact ⟨4, key 3 0 0 rfl (by omega) (fun u hu => by simp)⟩
end
theorem i_vc_now {k : Nat} {u : SX} {v : SY} (I : i_Rel k u v) (hk : k + 5 ≤ 2560) (v1 : Int32) : wpX_now (fun r u' => wpY_now (fun r' => r' = r ∧ i_Rel (k + 5) u' v) v v1) u v1 := by
  obtain ⟨f_steps, f_foundCount, a_ops, a_args, a_codeLength, a_trail, a_cell, a_found, a_cameFrom, a_cameBy, a_distance, a_slots, a_isEnding, a_walkState, a_walkLeft, a_walkAsleep⟩ := u
  obtain ⟨f_steps1, f_count1, f_known1, f_different1, a_ops1, a_args1, a_length1, a_path1, a_list1, a_next1, a_table1, a_far1, a_found1, a_who1, a_what1, a_before1, a_tried1⟩ := v
  obtain ⟨o, g, L, n, h, hX, hY, e1, e2, hn, hh, hkn⟩ := I
  have I' : zr_P f_steps a_ops a_args a_codeLength a_trail f_steps1 f_count1 f_known1 a_ops1 a_args1 a_length1 a_path1 a_list1 a_next1 := ⟨o, g, L, n, h, hX, hY, e1, e2, hn, hh, hkn⟩
  subst e1 e2
  obtain ⟨hx, hy, hV, hps⟩ := hh n (Nat.le_refl _)
  have hB := zp_bX (zx_L5 hX) hV
  have hc := zp_bY (zx_L5 hX) hV
  have ecn : (nI n).toNatClampNeg = n := nI_clamp (by omega)
  have ex : a_trail (nI n).toNatClampNeg = lN (zp_X (h n)) := by rw [ecn]; exact hx
  have ey : a_path1 (nI n).toNatClampNeg = lN (zp_Y (h n)) := by rw [ecn]; exact hy
  have i31 : vp_in (nI n) 31 := vp_in_nI (by omega) (by omega)
  have i32 : vp_in (nI n) 32 := vp_in_nI (by omega) (by omega)
  refine br_c (fun hneg => ?_) (fun h0 => ?_)
  · exact And.intro i32 (nm_e (br_t hneg ⟨rfl, I'⟩))
  obtain ⟨w, hw, rfl⟩ := nI_of h0
  refine pk_le w 16 (fun h16 => ?_) (fun h16 => ?_) rfl rfl (by omega) (by omega)
  rotate_left
  · exact And.intro i32 (nm_e (br_f h0 (pk_le w 16 (fun h => by omega) (fun _ => ⟨rfl, I'⟩) rfl rfl (by omega) (by omega))))
  have ey0 : ∀ {P : Int64 → Prop}, P (lN (zp_Y (h n))) → ∀ x, x = a_path1 (nI n).toNatClampNeg → P x := fun hp x e => by rw [e, ey]; exact hp
  have sub : ∀ b, b ≤ w → nI w - nI b = nI (w - b) := fun b hb => pk_sub hb
  refine And.intro i31 (zx_unpack' ex hB fun a1 ha1 => ?_)
  refine pk_eq w 16 (fun e => ?_) (fun e16 => ?_) rfl rfl (by omega) (by omega)
  · refine zx_readyThreads hX hV ha1 fun m hm => ?_
    refine And.intro i32 (ey0 (br_f h0 (pk_le w 16 (fun _ => ?_) (fun h => by omega) rfl rfl (by omega) (by omega))))
    refine pk_le 4 w (fun _ => pk_le 7 w (fun _ => pk_le 10 w (fun _ => pk_le 12 w (fun _ => pk_le 15 w (fun _ => pk_eq w 15 (fun h => by omega) (fun _ => ?_) rfl rfl (by omega) (by omega)) (fun h => by omega) rfl rfl (by omega) (by omega)) (fun h => by omega) rfl rfl (by omega) (by omega)) (fun h => by omega) rfl rfl (by omega) (by omega)) (fun h => by omega) rfl rfl (by omega) (by omega)) (fun h => by omega) rfl rfl (by omega) (by omega)
    exact zy_set hY hV fun m' hm' => ⟨congrArg nI (zx_M_uniq hm' hm), I'⟩
  · -- a cell
    have fin : ∀ r, r = nI (h n w) → (¬ (10 ≤ w ∧ w < 12) → wX_now_53 (fun r u' => wpY_now (fun r' => r' = r ∧ i_Rel (k + 5) u' (nI n, f_count1, f_known1, f_different1, a_ops1, a_args1, a_length1, a_path1, a_list1, a_next1, a_table1, a_far1, a_found1, a_who1, a_what1, a_before1, a_tried1)) (nI n, f_count1, f_known1, f_different1, a_ops1, a_args1, a_length1, a_path1, a_list1, a_next1, a_table1, a_far1, a_found1, a_who1, a_what1, a_before1, a_tried1) (nI w)) (nI w) 0 (nI n) f_foundCount a_ops a_args a_codeLength a_trail a1 a_found a_cameFrom a_cameBy a_distance a_slots a_isEnding a_walkState a_walkLeft a_walkAsleep) ∧
        ((10 ≤ w ∧ w < 12) → wX_now_53 (fun r u' => wpY_now (fun r' => r' = r ∧ i_Rel (k + 5) u' (nI n, f_count1, f_known1, f_different1, a_ops1, a_args1, a_length1, a_path1, a_list1, a_next1, a_table1, a_far1, a_found1, a_who1, a_what1, a_before1, a_tried1)) (nI n, f_count1, f_known1, f_different1, a_ops1, a_args1, a_length1, a_path1, a_list1, a_next1, a_table1, a_far1, a_found1, a_who1, a_what1, a_before1, a_tried1) (nI w)) (nI w) 1 (nI n) f_foundCount a_ops a_args a_codeLength a_trail a1 a_found a_cameFrom a_cameBy a_distance a_slots a_isEnding a_walkState a_walkLeft a_walkAsleep) := by
      intro r hr
      have i16 : vp_in (nI w) 16 := vp_in_nI (by omega) (by omega)
      have cw := zx_at ha1 (rfl : nI w = nI w) (show w < 16 by omega)
      constructor
      · intro hno
        refine br_t rfl (And.intro i16 ?_)
        rw [cw]
        refine And.intro i32 (ey0 (br_f h0 (pk_le w 16 (fun _ => ?_) (fun h => by omega) rfl rfl (by omega) (by omega))))
        refine pk_le 4 w (fun h4 => ?_) (fun h4 => ?_) rfl rfl (by omega) (by omega)
        rotate_left
        · exact zy_variable hc (by omega) ⟨rfl, I'⟩
        refine pk_le 7 w (fun h7 => ?_) (fun h7 => ?_) rfl rfl (by omega) (by omega)
        rotate_left
        · have e4 : nI w - 4 = nI (w - 4) := sub 4 h4
          rw [e4]
          refine zy_acc hc (by omega) ⟨?_, I'⟩
          rw [show 4 + (w - 4) = w by omega]
        refine pk_le 10 w (fun h10 => ?_) (fun h10 => ?_) rfl rfl (by omega) (by omega)
        rotate_left
        · have e4 : nI w - 7 = nI (w - 7) := sub 7 h7
          rw [e4]
          refine zy_place hc (by omega) ⟨?_, I'⟩
          rw [show 7 + (w - 7) = w by omega]
        refine pk_le 12 w (fun h12 => ?_) (fun h12 => by omega) rfl rfl (by omega) (by omega)
        refine pk_le 15 w (fun h15 => ?_) (fun h15 => ?_) rfl rfl (by omega) (by omega)
        rotate_left
        · have e4 : nI w - 12 = nI (w - 12) := sub 12 h12
          rw [e4]
          refine zy_waiting hc (by omega) ⟨?_, I'⟩
          rw [show 12 + (w - 12) = w by omega]
        refine pk_eq w 15 (fun e15 => ?_) (fun e15 => by omega) rfl rfl (by omega) (by omega)
        subst e15
        exact zy_bad hc ⟨rfl, I'⟩
      · intro hy
        refine br_f (by decide) (And.intro i16 ?_)
        rw [cw]
        refine And.intro i32 (ey0 (br_f h0 (pk_le w 16 (fun _ => ?_) (fun h => by omega) rfl rfl (by omega) (by omega))))
        refine pk_le 4 w (fun _ => pk_le 7 w (fun _ => pk_le 10 w (fun h10 => pk_le 12 w (fun _ => by omega) (fun h => ?_) rfl rfl (by omega) (by omega)) (fun h => by omega) rfl rfl (by omega) (by omega)) (fun h => by omega) rfl rfl (by omega) (by omega)) (fun h => by omega) rfl rfl (by omega) (by omega)
        have e4 : nI w - 10 = nI (w - 10) := sub 10 h10
        rw [e4]
        refine zy_owner hc (by omega) ⟨?_, I'⟩
        rw [show 10 + (w - 10) = w by omega]
    have ff := fin _ rfl
    refine pk_lt w 10 (fun h10 => ff.1 (by omega)) (fun h10 => ?_) rfl rfl (by omega) (by omega)
    exact pk_le 12 w (fun h12 => ff.1 (by omega)) (fun h12 => ff.2 (by omega)) rfl rfl (by omega) (by omega)
theorem i_vc_states {k : Nat} {u : SX} {v : SY} (I : i_Rel k u v) (hk : k + 5 ≤ 2560) : wpX_states (fun r u' => wpY_states (fun r' v' => r' = r ∧ i_Rel (k + 5) u' v') v) u := by
  obtain ⟨f_steps, f_foundCount, a_ops, a_args, a_codeLength, a_trail, a_cell, a_found, a_cameFrom, a_cameBy, a_distance, a_slots, a_isEnding, a_walkState, a_walkLeft, a_walkAsleep⟩ := u
  obtain ⟨f_steps1, f_count1, f_known1, f_different1, a_ops1, a_args1, a_length1, a_path1, a_list1, a_next1, a_table1, a_far1, a_found1, a_who1, a_what1, a_before1, a_tried1⟩ := v
  obtain ⟨o, g, L, n, h, hX, hY, e1, e2, hn, hh, hkn⟩ := I
  subst e1 e2
  obtain ⟨hx, hy, hV, hps⟩ := hh n (Nat.le_refl _)
  unfold wpX_states
  refine zx_explore hX hV hn hx (fun hm cell found cf cb ds sl => br_t rfl ?_) (fun hm cell found cf cb ds sl K => br_f (by decide) ?_)
  · show wpY_states _ _
    unfold wpY_states
    refine zy_know hY hV hn hy hkn (fun _ count list next table hS => br_t rfl ⟨rfl, ?_⟩) (fun h _ _ _ _ _ => by omega)
    exact ⟨o, g, L, n, h, hX, hY, rfl, rfl, hn, hh, Or.inr ⟨rfl, hS⟩⟩
  · show wpY_states _ _
    unfold wpY_states
    refine zy_know hY hV hn hy hkn (fun h _ _ _ _ _ => by omega) (fun _ count list next table hS => br_f (by decide) ⟨hS.1, ?_⟩)
    exact ⟨o, g, L, n, h, hX, hY, rfl, rfl, hn, hh, Or.inr ⟨rfl, hS⟩⟩
end
section
/-! touching, race, meet -/
def zr_race (o g L c : Nat → Nat) (t u v : Nat) : Prop :=
  c (7 + t) < L t ∧ c (7 + u) < L u ∧ o (zc_pc c t) < 4 ∧ g (zc_pc c t) = v ∧ zc_T o g (zc_pc c t) (zc_pc c u)
theorem zr_race_sym {o g L c : Nat → Nat} {t u v : Nat} (h : zr_race o g L c t u v) : zr_race o g L c u t v := by
  obtain ⟨h1, h2, h3, h4, h5⟩ := h
  refine ⟨h2, h1, ?_, by rw [← h5.1]; exact h4, zc_T_sym h5⟩
  rcases h5.2 with h | h
  · omega
  · exact h.2.1
def zr_any (o g L c : Nat → Nat) (v : Nat) : Prop := zr_race o g L c 0 1 v ∨ zr_race o g L c 0 2 v ∨ zr_race o g L c 1 2 v
section
variable {o g L c : Nat → Nat} {t u : Nat} {f_steps f_foundCount : Int32} {a_ops a_args a_codeLength a_cell a_cameFrom a_cameBy a_distance a_slots a_isEnding a_walkLeft a_walkAsleep : Nat → Int32} {a_trail a_found a_walkState : Nat → Int64}
theorem zx_doTouch {post : Int32 → Prop} (hC : zx_C o g L a_ops a_args a_codeLength) (hE : zx_E c a_cell) (ht : t < 3) (hu : u < 3) (hpt : c (7 + t) < L t) (hpu : c (7 + u) < L u)
    (h1 : zc_T o g (zc_pc c t) (zc_pc c u) → post 1) (h0 : ¬ zc_T o g (zc_pc c t) (zc_pc c u) → post 0) : wpX_doTouch post (f_steps, f_foundCount, a_ops, a_args, a_codeLength, a_trail, a_cell, a_found, a_cameFrom, a_cameBy, a_distance, a_slots, a_isEnding, a_walkState, a_walkLeft, a_walkAsleep) (nI t) (nI u) := by
  have hLt := (hC.1 t ht).1
  have hLu := (hC.1 u hu).1
  have hGt := (hC.1 t ht).2 _ hpt
  have hGu := (hC.1 u hu).2 _ hpu
  have hkt : zc_pc c t < 15 := by unfold zc_pc; omega
  have hku : zc_pc c u < 15 := by unfold zc_pc; omega
  have ot : o (zc_pc c t) ≤ 11 := hGt.1
  have ou : o (zc_pc c u) ≤ 11 := hGu.1
  have gt : g (zc_pc c t) < 8 := hGt.2.1
  have gu : g (zc_pc c u) < 8 := hGu.2.1
  have it : vp_in (nI (zc_pc c t)) 15 := vp_in_nI hkt (by omega)
  have iu : vp_in (nI (zc_pc c u)) 15 := vp_in_nI hku (by omega)
  have opt := zx_op hC (rfl : nI (zc_pc c t) = nI (zc_pc c t)) hkt
  have opu := zx_op hC (rfl : nI (zc_pc c u) = nI (zc_pc c u)) hku
  have art := zx_ar hC (rfl : nI (zc_pc c t) = nI (zc_pc c t)) hkt
  have aru := zx_ar hC (rfl : nI (zc_pc c u) = nI (zc_pc c u)) hku
  have ept : nI t * 5 + a_cell (7 + nI t).toNatClampNeg = nI (zc_pc c t) := by rw [zx_at hE (zx_a7 t) (by omega), zx_pc]; rfl
  have epu : nI u * 5 + a_cell (7 + nI u).toNatClampNeg = nI (zc_pc c u) := by rw [zx_at hE (zx_a7 u) (by omega), zx_pc]; rfl
  refine And.intro (pk_in (7 + t) 16 (by omega) (zx_a7 t)) (nm_r ept (And.intro (pk_in (7 + u) 16 (by omega) (zx_a7 u)) (nm_r epu (And.intro it (And.intro iu ?_)))))
  refine pk_eq (g (zc_pc c t)) (g (zc_pc c u)) (fun eg => And.intro it ?_) (fun eg => h0 fun h => eg h.1) art aru (by omega) (by omega)
  rw [opt]
  refine zx_isOfLock ot (fun hl => br_f (by decide) (And.intro iu ?_)) (fun hl => br_t rfl (And.intro it ?_))
  · rw [opu]
    exact zx_isOfLock ou (fun hl2 => And.intro zy_nb1 (h1 ⟨eg, Or.inl ⟨hl, hl2⟩⟩)) (fun hl2 => And.intro zy_nb0 (h0 fun h => by
      rcases h.2 with h | h
      · exact hl2 h.2
      · omega))
  · refine zx_isOfVariable ot (fun hv => br_f (by decide) (And.intro iu ?_)) (fun hv => br_t rfl (br_t rfl (h0 fun h => ?_)))
    rotate_left
    · rcases h.2 with h | h
      · exact hl h.1
      · omega
    rw [opu]
    refine zx_isOfVariable ou (fun hv2 => br_f (by decide) (br_f (by decide) (And.intro it ?_))) (fun hv2 => br_t rfl (br_t rfl (h0 fun h => ?_)))
    · refine pk_eq (o (zc_pc c t)) 0 (fun e => And.intro iu ?_) (fun e => h1 ⟨eg, Or.inr ⟨hv, hv2, Or.inl e⟩⟩) opt rfl (by omega) (by omega)
      refine pk_eq (o (zc_pc c u)) 0 (fun e2 => h0 fun h => ?_) (fun e2 => h1 ⟨eg, Or.inr ⟨hv, hv2, Or.inr e2⟩⟩) opu rfl (by omega) (by omega)
      rcases h.2 with h | h
      · omega
      · omega
    · rcases h.2 with h | h
      · exact hl h.1
      · omega
theorem zx_isRaceOf {post : Int32 → Prop} {v : Nat} (hC : zx_C o g L a_ops a_args a_codeLength) (hV : zc_V o L c) (hE : zx_E c a_cell) (ht : t < 3) (hu : u < 3) (hv : v < 4)
    (h1 : zr_race o g L c t u v → post 1) (h0 : ¬ zr_race o g L c t u v → post 0) : wpX_isRaceOf post (f_steps, f_foundCount, a_ops, a_args, a_codeLength, a_trail, a_cell, a_found, a_cameFrom, a_cameBy, a_distance, a_slots, a_isEnding, a_walkState, a_walkLeft, a_walkAsleep) (nI t) (nI u) (nI v) := by
  have hB := zp_bX (zx_L5 hC) hV
  unfold wpX_isRaceOf
  refine zx_hasEnded hC ht hE hB (fun hpt => br_t rfl ?_) (fun hn => br_f (by decide) (h0 fun h => hn h.1))
  refine zx_hasEnded hC hu hE hB (fun hpu => br_t rfl ?_) (fun hn => br_f (by decide) (h0 fun h => hn h.2.1))
  have hLt := (hC.1 t ht).1
  have hGt := (hC.1 t ht).2 _ hpt
  have hkt : zc_pc c t < 15 := by unfold zc_pc; omega
  have ot : o (zc_pc c t) ≤ 11 := hGt.1
  have gt : g (zc_pc c t) < 8 := hGt.2.1
  have it : vp_in (nI (zc_pc c t)) 15 := vp_in_nI hkt (by omega)
  have ept : nI t * 5 + a_cell (7 + nI t).toNatClampNeg = nI (zc_pc c t) := by rw [zx_at hE (zx_a7 t) (by omega), zx_pc]; rfl
  refine And.intro (pk_in (7 + t) 16 (by omega) (zx_a7 t)) (nm_r ept (And.intro it ?_))
  rw [zx_op hC (rfl : nI (zc_pc c t) = nI (zc_pc c t)) hkt]
  refine zx_isOfVariable ot (fun hv4 => br_f (by decide) (And.intro it ?_)) (fun hv4 => br_t rfl (h0 fun h => hv4 h.2.2.1))
  refine pk_eq (g (zc_pc c t)) v (fun eg => ?_) (fun eg => h0 fun h => eg h.2.2.2.1) (zx_ar hC rfl hkt) rfl (by omega) (by omega)
  exact zx_doTouch hC hE ht hu hpt hpu (fun hT => br_f (by decide) (h1 ⟨hpt, hpu, hv4, eg, hT⟩)) (fun hT => br_t rfl (h0 fun h => hT h.2.2.2.2))
theorem zx_raceL {post : Int32 → SX → Prop} {v : Nat} {l : List (Nat → Nat)} (hC : zx_C o g L a_ops a_args a_codeLength) (hV : ∀ x, x ∈ l → zc_V o L x) (hlen : l.length ≤ 1201)
    (hf : ∀ i, i < l.length → a_found i = lN (zp_X (zb_at l i))) (hv : v < 4)
    (h1 : (∃ i, i < l.length ∧ zr_any o g L (zb_at l i) v) → ∀ cell, post 1 (f_steps, nI l.length, a_ops, a_args, a_codeLength, a_trail, cell, a_found, a_cameFrom, a_cameBy, a_distance, a_slots, a_isEnding, a_walkState, a_walkLeft, a_walkAsleep))
    (h0 : (¬ ∃ i, i < l.length ∧ zr_any o g L (zb_at l i) v) → ∀ cell, post 0 (f_steps, nI l.length, a_ops, a_args, a_codeLength, a_trail, cell, a_found, a_cameFrom, a_cameBy, a_distance, a_slots, a_isEnding, a_walkState, a_walkLeft, a_walkAsleep)) :
    ∀ d i cell, i + d = l.length → (∀ j, j < i → ¬ zr_any o g L (zb_at l j) v) → wX_race_23 post (nI v) (d + 1) (nI i) f_steps (nI l.length) a_ops a_args a_codeLength a_trail cell a_found a_cameFrom a_cameBy a_distance a_slots a_isEnding a_walkState a_walkLeft a_walkAsleep := by
  intro d
  induction d with
  | zero =>
    intro i cell hi hj
    refine pk_le l.length i (fun _ => h0 (fun ⟨j, hj1, hj2⟩ => hj j (by omega) hj2) cell) (fun h => by omega) rfl rfl (by omega) (by omega)
  | succ d ih =>
    intro i cell hi hj
    have hil : i < l.length := by omega
    have hVi := hV _ (zb_at_mem hil)
    have ef : a_found (nI i).toNatClampNeg = lN (zp_X (zb_at l i)) := by rw [nI_clamp (by omega)]; exact hf i hil
    refine pk_le l.length i (fun h => by omega) (fun h => And.intro (vp_in_nI (by omega) (by omega)) (zx_unpack' ef (zp_bX (zx_L5 hC) hVi) fun a1 ha1 => ?_)) rfl rfl (by omega) (by omega)
    refine zx_isRaceOf (t := 0) (u := 1) hC hVi ha1 (by omega) (by omega) hv (fun r => br_f (by decide) (h1 ⟨i, hil, Or.inl r⟩ _)) (fun r1 => br_t rfl ?_)
    refine zx_isRaceOf (t := 0) (u := 2) hC hVi ha1 (by omega) (by omega) hv (fun r => br_f (by decide) (h1 ⟨i, hil, Or.inr (Or.inl r)⟩ _)) (fun r2 => br_t rfl ?_)
    refine zx_isRaceOf (t := 1) (u := 2) hC hVi ha1 (by omega) (by omega) hv (fun r => br_f (by decide) (h1 ⟨i, hil, Or.inr (Or.inr r)⟩ _)) (fun r3 => br_t rfl (nm_r (nI_1 i) ?_))
    refine ih (i + 1) a1 (by omega) fun j hji => ?_
    by_cases e : j = i
    · subst e
      rintro (r | r | r)
      · exact r1 r
      · exact r2 r
      · exact r3 r
    · exact hj j (by omega)
def zr_mc (l : List (Nat → Nat)) (t i u j : Nat) : Nat → Nat
  | 0 => 0
  | k + 1 => zr_mc l t i u j k + (if zb_at l k (7 + t) = i ∧ zb_at l k (7 + u) = j then 1 else 0)
theorem zx_meetL {post : Int32 → SX → Prop} {i j : Nat} {l : List (Nat → Nat)} (hC : zx_C o g L a_ops a_args a_codeLength) (hV : ∀ x, x ∈ l → zc_V o L x) (hlen : l.length ≤ 1201)
    (hf : ∀ i, i < l.length → a_found i = lN (zp_X (zb_at l i))) (ht : t < 3) (hu : u < 3) (hi : i ≤ 5) (hj : j ≤ 5)
    (h1 : ∀ cell, post (nI (zr_mc l t i u j l.length)) (f_steps, nI l.length, a_ops, a_args, a_codeLength, a_trail, cell, a_found, a_cameFrom, a_cameBy, a_distance, a_slots, a_isEnding, a_walkState, a_walkLeft, a_walkAsleep)) :
    ∀ d k cell, k + d = l.length → wX_meet_52 post (nI t) (nI i) (nI u) (nI j) (d + 1) (nI (zr_mc l t i u j k)) (nI k) f_steps (nI l.length) a_ops a_args a_codeLength a_trail cell a_found a_cameFrom a_cameBy a_distance a_slots a_isEnding a_walkState a_walkLeft a_walkAsleep := by
  intro d
  induction d with
  | zero =>
    intro k cell hk
    have e : k = l.length := by omega
    subst e
    exact pk_le l.length l.length (fun _ => h1 cell) (fun h => by omega) rfl rfl (by omega) (by omega)
  | succ d ih =>
    intro k cell hk
    have hil : k < l.length := by omega
    have hVi := hV _ (zb_at_mem hil)
    have hB := zp_bX (zx_L5 hC) hVi
    have ef : a_found (nI k).toNatClampNeg = lN (zp_X (zb_at l k)) := by rw [nI_clamp (by omega)]; exact hf k hil
    have bt := hB (7 + t)
    have bu := hB (7 + u)
    refine pk_le l.length k (fun h => by omega) (fun h => And.intro (vp_in_nI (by omega) (by omega)) (zx_unpack' ef hB fun a1 ha1 => ?_)) rfl rfl (by omega) (by omega)
    refine And.intro (pk_in (7 + t) 16 (by omega) (zx_a7 t)) (pk_eq (zb_at l k (7 + t)) i (fun e1 => And.intro (pk_in (7 + u) 16 (by omega) (zx_a7 u)) ?_) (fun e1 => nm_r (nI_1 k) ?_) (zx_at ha1 (zx_a7 t) (by omega)) rfl (by omega) (by omega))
    · refine pk_eq (zb_at l k (7 + u)) j (fun e2 => ?_) (fun e2 => nm_r (nI_1 k) ?_) (zx_at ha1 (zx_a7 u) (by omega)) rfl (by omega) (by omega)
      · have e : zr_mc l t i u j (k + 1) = zr_mc l t i u j k + 1 := by simp [zr_mc, e1, e2]
        have := ih (k + 1) a1 (by omega)
        rw [e] at this
        exact nm_r (nI_1 _) (nm_r (nI_1 k) this)
      · have e : zr_mc l t i u j (k + 1) = zr_mc l t i u j k := by simp [zr_mc, e2]
        have := ih (k + 1) a1 (by omega)
        rw [e] at this
        exact this
    · have e : zr_mc l t i u j (k + 1) = zr_mc l t i u j k := by simp [zr_mc, e1]
      have := ih (k + 1) a1 (by omega)
      rw [e] at this
      exact this
end
section
variable {o g L c : Nat → Nat} {t u : Nat} {f_steps f_count f_known f_different : Int32} {a_ops a_args a_length a_next a_table a_far a_found a_who a_what a_tried : Nat → Int32} {a_path a_list a_before : Nat → Int64}
theorem zy_isOfVariable {post : Int32 → Prop} {op : Nat} (ho : op ≤ 11) (h1 : op < 4 → post 1) (h0 : ¬ op < 4 → post 0) : wpY_isOfVariable post (nI op) :=
  pk_le 4 op (fun h => h0 (by omega)) (fun h => h1 (by omega))
theorem zy_isOfLock {post : Int32 → Prop} {op : Nat} (ho : op ≤ 11) (h1 : (op = 7 ∨ op = 8 ∨ op = 10 ∨ op = 11) → post 1) (h0 : ¬ (op = 7 ∨ op = 8 ∨ op = 10 ∨ op = 11) → post 0) : wpY_isOfLock post (nI op) :=
  pk_eq op 7 (fun h => h1 (by omega)) (fun h7 => pk_eq op 8 (fun h => h1 (by omega)) (fun h8 => pk_lt op 10 (fun h => h0 (by omega)) (fun h => h1 (by omega))))
theorem zy_touch {post : Int32 → Prop} {k m : Nat} (hC : zx_C o g L a_ops a_args a_length) (hk : k < 15) (hm : m < 15) (ok : o k ≤ 11) (om : o m ≤ 11) (gk : g k < 8) (gm : g m < 8)
    (h1 : zc_T o g k m → post 1) (h0 : ¬ zc_T o g k m → post 0) : wpY_touch post (f_steps, f_count, f_known, f_different, a_ops, a_args, a_length, a_path, a_list, a_next, a_table, a_far, a_found, a_who, a_what, a_before, a_tried) (nI k) (nI m) := by
  have ik : vp_in (nI k) 15 := vp_in_nI hk (by omega)
  have im : vp_in (nI m) 15 := vp_in_nI hm (by omega)
  have opk := zx_op hC (rfl : nI k = nI k) hk
  have opm := zx_op hC (rfl : nI m = nI m) hm
  have t43 : g k = g m → ¬ ((o k = 7 ∨ o k = 8 ∨ o k = 10 ∨ o k = 11) ∧ (o m = 7 ∨ o m = 8 ∨ o m = 10 ∨ o m = 11)) → wY_touch_43 post (nI k) (nI m) f_steps f_count f_known f_different a_ops a_args a_length a_path a_list a_next a_table a_far a_found a_who a_what a_before a_tried := by
    intro eg hl
    unfold wY_touch_43
    refine And.intro ik ?_
    rw [opk]
    refine zy_isOfVariable ok (fun hv => br_f (by decide) (And.intro im ?_)) (fun hv => br_t rfl (h0 fun h => ?_))
    · rw [opm]
      refine zy_isOfVariable om (fun hv2 => br_f (by decide) (And.intro ik ?_)) (fun hv2 => br_t rfl (h0 fun h => ?_))
      · refine pk_eq (o k) 0 (fun e => And.intro im ?_) (fun e => h1 ⟨eg, Or.inr ⟨hv, hv2, Or.inl e⟩⟩) (by rfl) rfl (by omega) (by omega)
        refine pk_eq (o m) 0 (fun e2 => h0 fun h => ?_) (fun e2 => h1 ⟨eg, Or.inr ⟨hv, hv2, Or.inr e2⟩⟩) rfl rfl (by omega) (by omega)
        rcases h.2 with h | h <;> omega
      · rcases h.2 with h | h
        · exact hl h
        · omega
    · rcases h.2 with h | h
      · exact hl h
      · omega
  refine And.intro ik (And.intro im (pk_eq (g k) (g m) (fun eg => And.intro ik ?_) (fun eg => h0 fun h => eg h.1) (zx_ar hC rfl hk) (zx_ar hC rfl hm) (by omega) (by omega)))
  rw [opk]
  refine zy_isOfLock ok (fun hl => br_f (by decide) (And.intro im ?_)) (fun hl => br_t rfl (t43 eg fun h => hl h.1))
  rw [opm]
  exact zy_isOfLock om (fun hl2 => br_f (by decide) (h1 ⟨eg, Or.inl ⟨hl, hl2⟩⟩)) (fun hl2 => br_t rfl (t43 eg fun h => hl2 h.2))
theorem zy_races {post : Int32 → Prop} {v : Nat} (hC : zx_C o g L a_ops a_args a_length) (hV : zc_V o L c) (ht : t < 3) (hu : u < 3) (hv : v < 4)
    (h1 : zr_race o g L c t u v → post 1) (h0 : ¬ zr_race o g L c t u v → post 0) : wpY_races post (f_steps, f_count, f_known, f_different, a_ops, a_args, a_length, a_path, a_list, a_next, a_table, a_far, a_found, a_who, a_what, a_before, a_tried) (lN (zp_Y c)) (nI v) (nI t) (nI u) := by
  have hB := zp_bX (zx_L5 hC) hV
  have hc := zp_bY (zx_L5 hC) hV
  have bt := hB (7 + t)
  have bu := hB (7 + u)
  have hLt := (hC.1 t ht).1
  have hLu := (hC.1 u hu).1
  have vt := hV.2.1 t ht
  have vu := hV.2.1 u hu
  unfold wpY_races
  refine zy_place hc ht (zy_place hc hu ?_)
  refine pk_eq (c (7 + t)) 5 (fun e => h0 fun h => by have := h.1; omega) (fun e => ?_) rfl rfl (by omega) (by omega)
  refine pk_eq (c (7 + u)) 5 (fun e2 => h0 fun h => by have := h.2.1; omega) (fun e2 => ?_) rfl rfl (by omega) (by omega)
  have hpt : c (7 + t) < L t := by omega
  have hpu : c (7 + u) < L u := by omega
  have hGt := (hC.1 t ht).2 _ hpt
  have hGu := (hC.1 u hu).2 _ hpu
  have hkt : zc_pc c t < 15 := by unfold zc_pc; omega
  have hku : zc_pc c u < 15 := by unfold zc_pc; omega
  have ot : o (zc_pc c t) ≤ 11 := hGt.1
  have ou : o (zc_pc c u) ≤ 11 := hGu.1
  have gt : g (zc_pc c t) < 8 := hGt.2.1
  have gu : g (zc_pc c u) < 8 := hGu.2.1
  have it : vp_in (nI (zc_pc c t)) 15 := vp_in_nI hkt (by omega)
  refine nm_r (e' := nI (zc_pc c t)) (zy_pc t _) (nm_r (e' := nI (zc_pc c u)) (zy_pc u _) (And.intro it ?_))
  rw [zx_op hC (rfl : nI (zc_pc c t) = nI (zc_pc c t)) hkt]
  refine zy_isOfVariable ot (fun hv4 => br_f (by decide) (And.intro it ?_)) (fun hv4 => br_t rfl (h0 fun h => hv4 h.2.2.1))
  refine pk_eq (g (zc_pc c t)) v (fun eg => ?_) (fun eg => h0 fun h => eg h.2.2.2.1) (zx_ar hC rfl hkt) rfl (by omega) (by omega)
  exact zy_touch hC hkt hku ot ou gt gu (fun hT => br_f (by decide) (h1 ⟨hpt, hpu, hv4, eg, hT⟩)) (fun hT => br_t rfl (h0 fun h => hT h.2.2.2.2))
theorem zy_raceL {post : Int32 → SY → Prop} {v : Nat} {l : List (Nat → Nat)} (hC : zx_C o g L a_ops a_args a_length) (hV : ∀ x, x ∈ l → zc_V o L x) (hlen : l.length ≤ 1201)
    (hf : ∀ i, i < l.length → a_list i = lN (zp_Y (zb_at l i))) (hv : v < 4)
    (h1 : (∃ i, i < l.length ∧ zr_any o g L (zb_at l i) v) → post 1 (f_steps, nI l.length, f_known, f_different, a_ops, a_args, a_length, a_path, a_list, a_next, a_table, a_far, a_found, a_who, a_what, a_before, a_tried))
    (h0 : (¬ ∃ i, i < l.length ∧ zr_any o g L (zb_at l i) v) → post 0 (f_steps, nI l.length, f_known, f_different, a_ops, a_args, a_length, a_path, a_list, a_next, a_table, a_far, a_found, a_who, a_what, a_before, a_tried)) :
    ∀ d i, i + d = l.length → (∀ j, j < i → ¬ zr_any o g L (zb_at l j) v) → wY_race_23 post (nI v) f_steps (nI l.length) f_known f_different a_ops a_args a_length a_path a_list a_next a_table a_far a_found a_who a_what a_before a_tried (d + 1) (nI i) := by
  intro d
  induction d with
  | zero =>
    intro i hi hj
    exact pk_le l.length i (fun _ => h0 (fun ⟨j, hj1, hj2⟩ => hj j (by omega) hj2)) (fun h => by omega) rfl rfl (by omega) (by omega)
  | succ d ih =>
    intro i hi hj
    have hil : i < l.length := by omega
    have hVi := hV _ (zb_at_mem hil)
    have ii : vp_in (nI i) 1201 := vp_in_nI (by omega) (by omega)
    have ef : a_list (nI i).toNatClampNeg = lN (zp_Y (zb_at l i)) := by rw [nI_clamp (by omega)]; exact hf i hil
    have m0 : (0 : Int32) + 1 - (0 + 1) / 3 * 3 = nI 1 := by decide
    have m1 : nI 1 + 1 - (nI 1 + 1) / 3 * 3 = nI 2 := by decide
    have m2 : nI 2 + 1 - (nI 2 + 1) / 3 * 3 = nI 0 := by decide
    refine pk_le l.length i (fun h => by omega) (fun h => ⟨4, ?_⟩) rfl rfl (by omega) (by omega)
    refine br_f (by decide) (And.intro ii (And.intro (by decide) ?_))
    rw [ef, m0]
    refine zy_races (t := 0) (u := 1) hC hVi (by omega) (by omega) hv (fun r => br_f (by decide) (h1 ⟨i, hil, Or.inl r⟩)) (fun r1 => br_t rfl (nm_r (nI_1 0) ?_))
    refine br_f (by decide) (And.intro ii (And.intro (by decide) ?_))
    rw [ef, m1]
    refine zy_races (t := 1) (u := 2) hC hVi (by omega) (by omega) hv (fun r => br_f (by decide) (h1 ⟨i, hil, Or.inr (Or.inr r)⟩)) (fun r2 => br_t rfl (nm_r (nI_1 1) ?_))
    refine br_f (by decide) (And.intro ii (And.intro (by decide) ?_))
    rw [ef, m2]
    refine zy_races (t := 2) (u := 0) hC hVi (by omega) (by omega) hv (fun r => br_f (by decide) (h1 ⟨i, hil, Or.inr (Or.inl (zr_race_sym r))⟩)) (fun r3 => br_t rfl (nm_r (nI_1 2) ?_))
    refine br_t (by decide) (nm_r (nI_1 i) (ih (i + 1) (by omega) fun j hji => ?_))
    by_cases e : j = i
    · subst e
      rintro (r | r | r)
      · exact r1 r
      · exact r3 (zr_race_sym r)
      · exact r2 r
    · exact hj j (by omega)
theorem zy_meetL {post : Int32 → SY → Prop} {i j : Nat} {l : List (Nat → Nat)} (hC : zx_C o g L a_ops a_args a_length) (hV : ∀ x, x ∈ l → zc_V o L x) (hlen : l.length ≤ 1201)
    (hf : ∀ i, i < l.length → a_list i = lN (zp_Y (zb_at l i))) (ht : t < 3) (hu : u < 3) (hi : i ≤ 5) (hj : j ≤ 5)
    (h1 : post (nI (zr_mc l t i u j l.length)) (f_steps, nI l.length, f_known, f_different, a_ops, a_args, a_length, a_path, a_list, a_next, a_table, a_far, a_found, a_who, a_what, a_before, a_tried)) :
    ∀ d k, k + d = l.length → wY_meet_60 post (nI t) (nI i) (nI u) (nI j) f_steps (nI l.length) f_known f_different a_ops a_args a_length a_path a_list a_next a_table a_far a_found a_who a_what a_before a_tried (d + 1) (nI (zr_mc l t i u j k)) (nI k) := by
  intro d
  induction d with
  | zero =>
    intro k hk
    have e : k = l.length := by omega
    subst e
    exact pk_le l.length l.length (fun _ => h1) (fun h => by omega) rfl rfl (by omega) (by omega)
  | succ d ih =>
    intro k hk
    have hil : k < l.length := by omega
    have hVi := hV _ (zb_at_mem hil)
    have hB := zp_bX (zx_L5 hC) hVi
    have hc := zp_bY (zx_L5 hC) hVi
    have ii : vp_in (nI k) 1201 := vp_in_nI (by omega) (by omega)
    have ef : a_list (nI k).toNatClampNeg = lN (zp_Y (zb_at l k)) := by rw [nI_clamp (by omega)]; exact hf k hil
    have bt := hB (7 + t)
    have bu := hB (7 + u)
    refine pk_le l.length k (fun h => by omega) (fun h => And.intro ii ?_) rfl rfl (by omega) (by omega)
    rw [ef]
    refine zy_place hc ht (pk_eq (zb_at l k (7 + t)) i (fun e1 => And.intro ii ?_) (fun e1 => nm_r (nI_1 k) ?_) rfl rfl (by omega) (by omega))
    · refine zy_place hc hu (pk_eq (zb_at l k (7 + u)) j (fun e2 => ?_) (fun e2 => nm_r (nI_1 k) ?_) rfl rfl (by omega) (by omega))
      · have e : zr_mc l t i u j (k + 1) = zr_mc l t i u j k + 1 := by simp [zr_mc, e1, e2]
        have := ih (k + 1) (by omega)
        rw [e] at this
        exact nm_r (nI_1 _) (nm_r (nI_1 k) this)
      · have e : zr_mc l t i u j (k + 1) = zr_mc l t i u j k := by simp [zr_mc, e2]
        have := ih (k + 1) (by omega)
        rw [e] at this
        exact this
    · have e : zr_mc l t i u j (k + 1) = zr_mc l t i u j k := by simp [zr_mc, e1]
      have := ih (k + 1) (by omega)
      rw [e] at this
      exact this
end
end
section
/-! race and meet, owed -/
theorem zr_Fl (o g L c0 : Nat → Nat) : (zb_F o g L c0).length ≤ 1201 := (zb_len 3600).2
theorem i_vc_race {k : Nat} {u : SX} {v : SY} (I : i_Rel k u v) (hk : k + 5 ≤ 2560) (v1 : Int32) : wpX_race (fun r u' => wpY_race (fun r' v' => r' = r ∧ i_Rel (k + 5) u' v') v v1) u v1 := by
  obtain ⟨f_steps, f_foundCount, a_ops, a_args, a_codeLength, a_trail, a_cell, a_found, a_cameFrom, a_cameBy, a_distance, a_slots, a_isEnding, a_walkState, a_walkLeft, a_walkAsleep⟩ := u
  obtain ⟨f_steps1, f_count1, f_known1, f_different1, a_ops1, a_args1, a_length1, a_path1, a_list1, a_next1, a_table1, a_far1, a_found1, a_who1, a_what1, a_before1, a_tried1⟩ := v
  obtain ⟨o, g, L, n, h, hX, hY, e1, e2, hn, hh, hkn⟩ := I
  have I' : zr_P f_steps a_ops a_args a_codeLength a_trail f_steps1 f_count1 f_known1 a_ops1 a_args1 a_length1 a_path1 a_list1 a_next1 := ⟨o, g, L, n, h, hX, hY, e1, e2, hn, hh, hkn⟩
  subst e1 e2
  obtain ⟨hx, hy, hV, hps⟩ := hh n (Nat.le_refl _)
  have hFl := zr_Fl o g L (h n)
  have hFV : ∀ x, x ∈ zb_F o g L (h n) → zc_V o L x := zb_V hX.1 hV 3600
  have no : (∀ t, 0 ≤ t → t ≤ 3 → v1 ≠ nI t) → wpY_race (fun r' v' => r' = -1 ∧ i_Rel (k + 5) (nI n, f_foundCount, a_ops, a_args, a_codeLength, a_trail, a_cell, a_found, a_cameFrom, a_cameBy, a_distance, a_slots, a_isEnding, a_walkState, a_walkLeft, a_walkAsleep) v') (nI n, f_count1, f_known1, f_different1, a_ops1, a_args1, a_length1, a_path1, a_list1, a_next1, a_table1, a_far1, a_found1, a_who1, a_what1, a_before1, a_tried1) v1 := by
    intro hno
    unfold wpY_race
    exact zy_within (a := 0) (b := 3) rfl rfl (by omega) (by omega) (fun t h0 h3 e => absurd e (hno t h0 h3)) (fun _ => br_t rfl ⟨rfl, I'⟩)
  refine br_c (fun hneg => no fun t _ ht e => by rw [e] at hneg; exact nI_pos (by omega) hneg) (fun h0 => ?_)
  obtain ⟨w, hw, rfl⟩ := nI_of h0
  refine pk_lt w 4 (fun h4 => ?_) (fun h4 => no fun t _ ht e => by have := zr_nI e hw (by omega); omega) rfl rfl (by omega) (by omega)
  have yk : ∀ (P : Int32 → SY → Prop), ((1200 < (zb_F o g L (h n)).length → ∀ (count : Int32) (list : Nat → Int64) (next table : Nat → Int32), zy_S o g L (h n) count list next → P (-2) (nI n, count, 1, f_different1, a_ops1, a_args1, a_length1, a_path1, list, next, table, a_far1, a_found1, a_who1, a_what1, a_before1, a_tried1))) →
      ((zb_F o g L (h n)).length ≤ 1200 → ∀ (count : Int32) (list : Nat → Int64) (next table : Nat → Int32), zy_S o g L (h n) count list next → ∃ n23, wY_race_23 P (nI w) (nI n) count 1 f_different1 a_ops1 a_args1 a_length1 a_path1 list next table a_far1 a_found1 a_who1 a_what1 a_before1 a_tried1 n23 0) →
      wpY_race P (nI n, f_count1, f_known1, f_different1, a_ops1, a_args1, a_length1, a_path1, a_list1, a_next1, a_table1, a_far1, a_found1, a_who1, a_what1, a_before1, a_tried1) (nI w) := by
    intro P a b
    unfold wpY_race
    refine zy_within (a := 0) (b := 3) rfl rfl (by omega) (by omega) (fun t h0 h3 e => br_f (by decide) ?_) (fun hno => absurd rfl (hno w (by omega) (by omega)))
    exact zy_know hY hV hn hy hkn (fun hm count list next table hS => br_t rfl (a hm count list next table hS)) (fun hm count list next table hS => br_f (by decide) (b hm count list next table hS))
  refine zx_explore hX hV hn hx (fun hm cell found cf cb ds sl => br_t rfl ?_) (fun hm cell found cf cb ds sl K => br_f (by decide) ⟨(zb_F o g L (h n)).length + 1, ?_⟩)
  · refine yk _ (fun _ count list next table hS => ⟨rfl, ?_⟩) (fun hm' => by omega)
    exact ⟨o, g, L, n, h, hX, hY, rfl, rfl, hn, hh, Or.inr ⟨rfl, hS⟩⟩
  · refine zx_raceL hX hFV hFl K.1 h4 (fun hr cell => ?_) (fun hr cell => ?_) _ 0 cell (by omega) (fun j hj => by omega)
    · refine yk _ (fun hm' => by omega) (fun _ count list next table hS => ⟨(zb_F o g L (h n)).length + 1, ?_⟩)
      obtain ⟨s1, s2, s3⟩ := hS
      subst s1
      exact zy_raceL hY hFV hFl s2 h4 (fun _ => ⟨rfl, o, g, L, n, h, hX, hY, rfl, rfl, hn, hh, Or.inr ⟨rfl, rfl, s2, s3⟩⟩) (fun hr' => absurd hr hr') _ 0 (by omega) (fun j hj => by omega)
    · refine yk _ (fun hm' => by omega) (fun _ count list next table hS => ⟨(zb_F o g L (h n)).length + 1, ?_⟩)
      obtain ⟨s1, s2, s3⟩ := hS
      subst s1
      exact zy_raceL hY hFV hFl s2 h4 (fun hr' => absurd hr' hr) (fun _ => ⟨rfl, o, g, L, n, h, hX, hY, rfl, rfl, hn, hh, Or.inr ⟨rfl, rfl, s2, s3⟩⟩) _ 0 (by omega) (fun j hj => by omega)
theorem i_vc_meet {k : Nat} {u : SX} {v : SY} (I : i_Rel k u v) (hk : k + 5 ≤ 2560) (v1 : Int32) (v2 : Int32) (v3 : Int32) (v4 : Int32) : wpX_meet (fun r u' => wpY_meet (fun r' v' => r' = r ∧ i_Rel (k + 5) u' v') v v1 v2 v3 v4) u v1 v2 v3 v4 := by
  obtain ⟨f_steps, f_foundCount, a_ops, a_args, a_codeLength, a_trail, a_cell, a_found, a_cameFrom, a_cameBy, a_distance, a_slots, a_isEnding, a_walkState, a_walkLeft, a_walkAsleep⟩ := u
  obtain ⟨f_steps1, f_count1, f_known1, f_different1, a_ops1, a_args1, a_length1, a_path1, a_list1, a_next1, a_table1, a_far1, a_found1, a_who1, a_what1, a_before1, a_tried1⟩ := v
  obtain ⟨o, g, L, n, h, hX, hY, e1, e2, hn, hh, hkn⟩ := I
  have I' : zr_P f_steps a_ops a_args a_codeLength a_trail f_steps1 f_count1 f_known1 a_ops1 a_args1 a_length1 a_path1 a_list1 a_next1 := ⟨o, g, L, n, h, hX, hY, e1, e2, hn, hh, hkn⟩
  subst e1 e2
  obtain ⟨hx, hy, hV, hps⟩ := hh n (Nat.le_refl _)
  have hFl := zr_Fl o g L (h n)
  have hFV : ∀ x, x ∈ zb_F o g L (h n) → zc_V o L x := zb_V hX.1 hV 3600
  have no : ((∀ t, t < 3 → v1 ≠ nI t) ∨ (∀ t, t < 3 → v3 ≠ nI t) ∨ v1 = v3 ∨ (∀ t, t ≤ 5 → v2 ≠ nI t) ∨ (∀ t, t ≤ 5 → v4 ≠ nI t)) → wpY_meet (fun r' v' => r' = -1 ∧ i_Rel (k + 5) (nI n, f_foundCount, a_ops, a_args, a_codeLength, a_trail, a_cell, a_found, a_cameFrom, a_cameBy, a_distance, a_slots, a_isEnding, a_walkState, a_walkLeft, a_walkAsleep) v') (nI n, f_count1, f_known1, f_different1, a_ops1, a_args1, a_length1, a_path1, a_list1, a_next1, a_table1, a_far1, a_found1, a_who1, a_what1, a_before1, a_tried1) v1 v2 v3 v4 := by
    intro hno
    have R : (-1 : Int32) = -1 ∧ i_Rel (k + 5) (nI n, f_foundCount, a_ops, a_args, a_codeLength, a_trail, a_cell, a_found, a_cameFrom, a_cameBy, a_distance, a_slots, a_isEnding, a_walkState, a_walkLeft, a_walkAsleep) (nI n, f_count1, f_known1, f_different1, a_ops1, a_args1, a_length1, a_path1, a_list1, a_next1, a_table1, a_far1, a_found1, a_who1, a_what1, a_before1, a_tried1) := ⟨rfl, I'⟩
    unfold wpY_meet
    refine zy_within (a := 0) (b := 2) rfl rfl (by omega) (by omega) (fun t _ ht et => br_f (by decide) ?_) (fun _ => br_t rfl R)
    refine zy_within (a := 0) (b := 2) rfl rfl (by omega) (by omega) (fun s _ hs es => br_f (by decide) ?_) (fun _ => br_t rfl R)
    refine br_c (fun _ => R) (fun hne => ?_)
    refine zy_within (a := 0) (b := 5) rfl rfl (by omega) (by omega) (fun i _ hi ei => br_f (by decide) ?_) (fun _ => br_t rfl R)
    refine zy_within (a := 0) (b := 5) rfl rfl (by omega) (by omega) (fun j _ hj ej => br_f (by decide) ?_) (fun _ => br_t rfl R)
    exfalso
    rcases hno with a | a | a | a | a
    · exact a t (by omega) et
    · exact a s (by omega) es
    · exact hne a
    · exact a i hi ei
    · exact a j hj ej
  unfold wpX_meet
  refine zx_isThread (fun t ht et => br_f (by decide) ?_) (fun hno => br_t rfl (no (Or.inl hno)))
  refine zx_isThread (fun s hs es => br_f (by decide) ?_) (fun hno => br_t rfl (no (Or.inr (Or.inl hno))))
  refine br_c (fun e => no (Or.inr (Or.inr (Or.inl e)))) (fun hne => ?_)
  refine zx_isPlace (fun i hi ei => br_f (by decide) ?_) (fun hno => br_t rfl (no (Or.inr (Or.inr (Or.inr (Or.inl hno))))))
  refine zx_isPlace (fun j hj ej => br_f (by decide) ?_) (fun hno => br_t rfl (no (Or.inr (Or.inr (Or.inr (Or.inr hno))))))
  subst et es ei ej
  have yk : ∀ (P : Int32 → SY → Prop), ((1200 < (zb_F o g L (h n)).length → ∀ (count : Int32) (list : Nat → Int64) (next table : Nat → Int32), zy_S o g L (h n) count list next → P (-2) (nI n, count, 1, f_different1, a_ops1, a_args1, a_length1, a_path1, list, next, table, a_far1, a_found1, a_who1, a_what1, a_before1, a_tried1))) →
      ((zb_F o g L (h n)).length ≤ 1200 → ∀ (count : Int32) (list : Nat → Int64) (next table : Nat → Int32), zy_S o g L (h n) count list next → ∃ n60, wY_meet_60 P (nI t) (nI i) (nI s) (nI j) (nI n) count 1 f_different1 a_ops1 a_args1 a_length1 a_path1 list next table a_far1 a_found1 a_who1 a_what1 a_before1 a_tried1 n60 0 0) →
      wpY_meet P (nI n, f_count1, f_known1, f_different1, a_ops1, a_args1, a_length1, a_path1, a_list1, a_next1, a_table1, a_far1, a_found1, a_who1, a_what1, a_before1, a_tried1) (nI t) (nI i) (nI s) (nI j) := by
    intro P a b
    unfold wpY_meet
    refine zy_within (a := 0) (b := 2) rfl rfl (by omega) (by omega) (fun _ _ _ _ => br_f (by decide) ?_) (fun hno => absurd rfl (hno t (by omega) (by omega)))
    refine zy_within (a := 0) (b := 2) rfl rfl (by omega) (by omega) (fun _ _ _ _ => br_f (by decide) ?_) (fun hno => absurd rfl (hno s (by omega) (by omega)))
    refine br_f hne ?_
    refine zy_within (a := 0) (b := 5) rfl rfl (by omega) (by omega) (fun _ _ _ _ => br_f (by decide) ?_) (fun hno => absurd rfl (hno i (by omega) (by omega)))
    refine zy_within (a := 0) (b := 5) rfl rfl (by omega) (by omega) (fun _ _ _ _ => br_f (by decide) ?_) (fun hno => absurd rfl (hno j (by omega) (by omega)))
    exact zy_know hY hV hn hy hkn (fun hm count list next table hS => br_t rfl (a hm count list next table hS)) (fun hm count list next table hS => br_f (by decide) (b hm count list next table hS))
  refine zx_explore hX hV hn hx (fun hm cell found cf cb ds sl => br_t rfl ?_) (fun hm cell found cf cb ds sl K => br_f (by decide) ⟨(zb_F o g L (h n)).length + 1, ?_⟩)
  · refine yk _ (fun _ count list next table hS => ⟨rfl, ?_⟩) (fun hm' => by omega)
    exact ⟨o, g, L, n, h, hX, hY, rfl, rfl, hn, hh, Or.inr ⟨rfl, hS⟩⟩
  · refine zx_meetL hX hFV hFl K.1 ht hs hi hj (fun cell => ?_) _ 0 cell (by omega)
    refine yk _ (fun hm' => by omega) (fun _ count list next table hS => ⟨(zb_F o g L (h n)).length + 1, ?_⟩)
    obtain ⟨s1, s2, s3⟩ := hS
    subst s1
    exact zy_meetL hY hFV hFl s2 ht hs hi hj ⟨rfl, o, g, L, n, h, hX, hY, rfl, rfl, hn, hh, Or.inr ⟨rfl, rfl, s2, s3⟩⟩ _ 0 (by omega)
end
section
/-! what is sought; the nearest -/
def zs_done (L c : Nat → Nat) : Prop := ∀ t, t < 3 → ¬ c (7 + t) < L t
def zs_S (o g L c : Nat → Nat) (w : Nat) : Prop :=
  (w = 0 ∧ c 15 ≠ 0) ∨ (w = 1 ∧ zt_end o g L c ∧ ¬ zs_done L c) ∨ (w = 2 ∧ zs_done L c) ∨ (w = 3 ∧ zs_done L c ∧ c 15 = 0)
theorem zs_end {o g L c : Nat → Nat} (h : zs_done L c) : zt_end o g L c := fun t ht hR => h t ht hR.1
section
variable {o g L c : Nat → Nat} {f_steps f_foundCount : Int32} {a_ops a_args a_codeLength a_cell a_cameFrom a_cameBy a_distance a_slots a_isEnding a_walkLeft a_walkAsleep : Nat → Int32} {a_trail a_found a_walkState : Nat → Int64}
theorem zx_isSought {post : Int32 → Prop} {w : Nat} (hC : zx_C o g L a_ops a_args a_codeLength) (hV : zc_V o L c) (hE : zx_E c a_cell) (hw : w ≤ 3)
    (h1 : zs_S o g L c w → post 1) (h0 : ¬ zs_S o g L c w → post 0) : wpX_isSought post (f_steps, f_foundCount, a_ops, a_args, a_codeLength, a_trail, a_cell, a_found, a_cameFrom, a_cameBy, a_distance, a_slots, a_isEnding, a_walkState, a_walkLeft, a_walkAsleep) (nI w) := by
  have hB := zp_bX (zx_L5 hC) hV
  have b15 := hB 15
  have c15 : a_cell 15 = nI (c 15) := hE 15 (by omega)
  refine pk_eq w 0 (fun e0 => ?_) (fun e0 => ?_) rfl rfl (by omega) (by omega)
  · refine pk_eq (c 15) 0 (fun e => h0 fun h => ?_) (fun e => h1 (Or.inl ⟨e0, e⟩)) c15 rfl (by omega) (by omega)
    rcases h with h | h | h | h
    · exact h.2 e
    · omega
    · omega
    · omega
  refine pk_eq w 1 (fun e1 => ?_) (fun e1 => ?_) rfl rfl (by omega) (by omega)
  · refine zx_readyThreads hC hV hE fun m hm => pk_eq m 0 (fun em => ?_) (fun em => h0 fun h => ?_) rfl rfl (by have := hm.1; omega) (by omega)
    · have hend : zt_end o g L c := (zx_M_0 hm).mp em
      refine zx_haveAllEnded hC hE hB (fun hd => br_f (by decide) (h0 fun h => ?_)) (fun hd => br_t rfl (h1 (Or.inr (Or.inl ⟨e1, hend, hd⟩))))
      rcases h with h | h | h | h
      · omega
      · exact h.2.2 hd
      · omega
      · omega
    · rcases h with h | h | h | h
      · omega
      · exact em ((zx_M_0 hm).mpr h.2.1)
      · omega
      · omega
  refine zx_haveAllEnded hC hE hB (fun hd => br_f (by decide) ?_) (fun hd => br_t rfl (h0 fun h => ?_))
  · refine pk_eq w 2 (fun e2 => h1 (Or.inr (Or.inr (Or.inl ⟨e2, hd⟩)))) (fun e2 => ?_) rfl rfl (by omega) (by omega)
    refine pk_eq (c 15) 0 (fun e => h1 (Or.inr (Or.inr (Or.inr ⟨by omega, hd, e⟩)))) (fun e => h0 fun h => ?_) c15 rfl (by omega) (by omega)
    rcases h with h | h | h | h
    · omega
    · omega
    · omega
    · exact e h.2.2
  · rcases h with h | h | h | h
    · omega
    · omega
    · exact hd h.2
    · exact hd h.2.1
theorem zx_nearest {post : Int32 → SX → Prop} {w : Nat} {l : List (Nat → Nat)} (hC : zx_C o g L a_ops a_args a_codeLength) (hV : ∀ x, x ∈ l → zc_V o L x) (hlen : l.length ≤ 1201)
    (hf : ∀ i, i < l.length → a_found i = lN (zp_X (zb_at l i))) (hw : w ≤ 3)
    (h1 : ∀ G, G < l.length → zs_S o g L (zb_at l G) w → (∀ j, j < G → ¬ zs_S o g L (zb_at l j) w) → ∀ cell, post (nI G) (f_steps, nI l.length, a_ops, a_args, a_codeLength, a_trail, cell, a_found, a_cameFrom, a_cameBy, a_distance, a_slots, a_isEnding, a_walkState, a_walkLeft, a_walkAsleep))
    (h0 : (∀ j, j < l.length → ¬ zs_S o g L (zb_at l j) w) → ∀ cell, post (-1) (f_steps, nI l.length, a_ops, a_args, a_codeLength, a_trail, cell, a_found, a_cameFrom, a_cameBy, a_distance, a_slots, a_isEnding, a_walkState, a_walkLeft, a_walkAsleep)) :
    wpX_nearest post (f_steps, nI l.length, a_ops, a_args, a_codeLength, a_trail, a_cell, a_found, a_cameFrom, a_cameBy, a_distance, a_slots, a_isEnding, a_walkState, a_walkLeft, a_walkAsleep) (nI w) := by
  have key : ∀ d i cell, i + d = l.length → (∀ j, j < i → ¬ zs_S o g L (zb_at l j) w) → wX_nearest_2 post (nI w) (d + 1) (nI i) f_steps (nI l.length) a_ops a_args a_codeLength a_trail cell a_found a_cameFrom a_cameBy a_distance a_slots a_isEnding a_walkState a_walkLeft a_walkAsleep := by
    intro d
    induction d with
    | zero =>
      intro i cell hi hj
      exact pk_le l.length i (fun _ => h0 (fun j hj2 => hj j (by omega)) cell) (fun h => by omega) rfl rfl (by omega) (by omega)
    | succ d ih =>
      intro i cell hi hj
      have hil : i < l.length := by omega
      have hVi := hV _ (zb_at_mem hil)
      have ef : a_found (nI i).toNatClampNeg = lN (zp_X (zb_at l i)) := by rw [nI_clamp (by omega)]; exact hf i hil
      refine pk_le l.length i (fun h => by omega) (fun h => And.intro (vp_in_nI (by omega) (by omega)) (zx_unpack' ef (zp_bX (zx_L5 hC) hVi) fun a1 ha1 => ?_)) rfl rfl (by omega) (by omega)
      refine zx_isSought hC hVi ha1 hw (fun hs => br_f (by decide) (h1 i hil hs hj a1)) (fun hs => br_t rfl (nm_r (nI_1 i) (ih (i + 1) a1 (by omega) fun j hji => ?_)))
      by_cases e : j = i
      · subst e; exact hs
      · exact hj j (by omega)
  exact ⟨l.length + 1, key _ 0 a_cell (by omega) fun j hj => by omega⟩
/-- what soonest comes to -/
theorem zx_soonest {post : Int32 → SX → Prop} {c0 : Nat → Nat} {w : Nat} (hC : zx_C o g L a_ops a_args a_codeLength) (hV : zc_V o L c0) {n : Nat} (hn : n ≤ 30) (ht : a_trail n = lN (zp_X c0)) (hw : w ≤ 3)
    (hM : 1200 < (zb_F o g L c0).length → ∀ (cell : Nat → Int32) (found : Nat → Int64) (cf cb ds sl : Nat → Int32),
      post (-2) (nI n, nI (zb_F o g L c0).length, a_ops, a_args, a_codeLength, a_trail, cell, found, cf, cb, ds, sl, a_isEnding, a_walkState, a_walkLeft, a_walkAsleep))
    (hN : (zb_F o g L c0).length ≤ 1200 → (∀ j, j < (zb_F o g L c0).length → ¬ zs_S o g L (zb_at (zb_F o g L c0) j) w) → ∀ (cell : Nat → Int32) (found : Nat → Int64) (cf cb ds sl key d : Nat → Int32),
      zx_K o g L (zb_F o g L c0) found cf cb ds →
      post (-3) (nI n, nI (zb_F o g L c0).length, a_ops, a_args, a_codeLength, a_trail, cell, found, cf, cb, ds, sl, a_isEnding, a_walkState, a_walkLeft, a_walkAsleep))
    (hS : (zb_F o g L c0).length ≤ 1200 → ∀ G, G < (zb_F o g L c0).length → zs_S o g L (zb_at (zb_F o g L c0) G) w → (∀ j, j < G → ¬ zs_S o g L (zb_at (zb_F o g L c0) j) w) →
      ∀ (cell : Nat → Int32) (found : Nat → Int64) (cf cb ds sl : Nat → Int32) (key d : Nat → Nat), (∀ i, i < (zb_F o g L c0).length → found i = lN (zp_X (zb_at (zb_F o g L c0) i))) →
      zg_B (zb_F o g L c0).length (zb_E o g L (zb_F o g L c0)) key d → (∀ j, j < (zb_F o g L c0).length → cf j = nI (key j / 3) ∧ cb j = nI (key j % 3) ∧ ds j = nI (d j)) →
      post (nI (d G)) (nI n, nI (zb_F o g L c0).length, a_ops, a_args, a_codeLength, a_trail, cell, found, cf, cb, ds, sl, a_isEnding, a_walkState, a_walkLeft, a_walkAsleep)) :
    wpX_soonest post (nI n, f_foundCount, a_ops, a_args, a_codeLength, a_trail, a_cell, a_found, a_cameFrom, a_cameBy, a_distance, a_slots, a_isEnding, a_walkState, a_walkLeft, a_walkAsleep) (nI w) := by
  have hFl := zr_Fl o g L c0
  have hFV : ∀ x, x ∈ zb_F o g L c0 → zc_V o L x := zb_V hC.1 hV 3600
  refine br_f (nI_pos (by omega)) (pk_le w 3 (fun _ => ?_) (fun h => by omega) rfl rfl (by omega) (by omega))
  refine zx_explore hC hV hn ht (fun hm cell found cf cb ds sl => br_t rfl (hM hm _ _ _ _ _ _)) (fun hm cell found cf cb ds sl K => br_f (by decide) ?_)
  refine zx_nearest hC hFV hFl K.1 hw (fun G hG hs hf cell' => br_t (nI_pos' (by omega)) (And.intro (vp_in_nI (by omega) (by omega)) ?_)) (fun hno cell' => br_f (by decide) (hN hm hno _ _ _ _ _ _ cell' cell' K))
  obtain ⟨kf, key, d, hB, hD⟩ := K
  have e : ds (nI G).toNatClampNeg = nI (d G) := by rw [nI_clamp (by omega)]; exact (hD G hG).2.2
  rw [e]
  exact hS hm G hG hs hf _ _ _ _ _ _ key d kf hB hD
end
section
variable {o g L c : Nat → Nat} {f_steps f_count f_known f_different : Int32} {a_ops a_args a_length a_next a_table a_far a_found a_who a_what a_tried : Nat → Int32} {a_path a_list a_before : Nat → Int64}
theorem zy_isSought {post : Int32 → Prop} {w : Nat} (hC : zx_C o g L a_ops a_args a_length) (hV : zc_V o L c) (hw : w ≤ 3)
    (h1 : zs_S o g L c w → post 1) (h0 : ¬ zs_S o g L c w → post 0) : wpY_isSought post (f_steps, f_count, f_known, f_different, a_ops, a_args, a_length, a_path, a_list, a_next, a_table, a_far, a_found, a_who, a_what, a_before, a_tried) (lN (zp_Y c)) (nI w) := by
  have hc := zp_bY (zx_L5 hC) hV
  have b15 : c 15 < 2 := hV.2.2.2.2.1
  refine pk_eq w 0 (fun e0 => ?_) (fun e0 => ?_) rfl rfl (by omega) (by omega)
  · refine zy_bad hc (pk_eq (c 15) 1 (fun e => h1 (Or.inl ⟨e0, by omega⟩)) (fun e => h0 fun h => ?_) rfl rfl (by omega) (by omega))
    rcases h with h | h | h | h
    · omega
    · omega
    · omega
    · omega
  refine zy_isEnd hC hV (fun he => br_f (by decide) ?_) (fun he => br_t rfl (h0 fun h => ?_))
  · refine pk_eq w 1 (fun e1 => ?_) (fun e1 => ?_) rfl rfl (by omega) (by omega)
    · refine zy_isDone hC hV (fun hd => br_f (by decide) (h0 fun h => ?_)) (fun hd => br_t rfl (h1 (Or.inr (Or.inl ⟨e1, he, hd⟩))))
      rcases h with h | h | h | h
      · omega
      · exact h.2.2 hd
      · omega
      · omega
    · refine zy_isDone hC hV (fun hd => br_f (by decide) ?_) (fun hd => br_t rfl (h0 fun h => ?_))
      · refine pk_eq w 2 (fun e2 => h1 (Or.inr (Or.inr (Or.inl ⟨e2, hd⟩)))) (fun e2 => ?_) rfl rfl (by omega) (by omega)
        refine zy_bad hc (pk_eq (c 15) 0 (fun e => h1 (Or.inr (Or.inr (Or.inr ⟨by omega, hd, e⟩)))) (fun e => h0 fun h => ?_) rfl rfl (by omega) (by omega))
        rcases h with h | h | h | h
        · omega
        · omega
        · omega
        · exact e h.2.2
      · rcases h with h | h | h | h
        · omega
        · omega
        · exact hd h.2
        · exact hd h.2.1
  · rcases h with h | h | h | h
    · omega
    · exact he h.2.1
    · exact he (zs_end h.2)
    · exact he (zs_end h.2.1)
end
end
section
/-! the reference's measure -/
def zs_sum (far : Nat → Nat) : Nat → Nat
  | 0 => 0
  | k + 1 => zs_sum far k + far k
theorem zs_sum_o {far : Nat → Nat} {k v : Nat} : ∀ n, n ≤ k → zs_sum (zc_up far k v) n = zs_sum far n := by
  intro n
  induction n with
  | zero => intro _; rfl
  | succ n ih =>
    intro h
    show zs_sum (zc_up far k v) n + zc_up far k v n = zs_sum far n + far n
    rw [ih (by omega), zc_up_n (by omega)]
theorem zs_sum_up {far : Nat → Nat} {k v : Nat} (h : v < far k) : ∀ n, k < n → zs_sum (zc_up far k v) n < zs_sum far n := by
  intro n
  induction n with
  | zero => intro h; omega
  | succ n ih =>
    intro hk
    show zs_sum (zc_up far k v) n + zc_up far k v n < zs_sum far n + far n
    by_cases e : k = n
    · subst e
      rw [zs_sum_o _ (Nat.le_refl _), zc_up_s]; omega
    · rw [zc_up_n (by omega)]
      have := ih (by omega)
      omega
def zs_FI (n : Nat) (E : Nat → Nat → Nat → Prop) (S : Nat → Prop) (far : Nat → Nat) : Prop :=
  ∀ k, k < n → far k ≤ 1000 ∧ (far k < 1000 → zg_R E S (far k) k) ∧ (S k → far k = 0)
theorem zs_FI_up {n : Nat} {E : Nat → Nat → Nat → Prop} {S : Nat → Prop} {far : Nat → Nat} (h : zs_FI n E S far) {k t m : Nat} (hk : k < n) (hm : m < n) (hE : E k t m) (hl : far m + 1 < far k) :
    zs_FI n E S (zc_up far k (far m + 1)) := by
  intro j hj
  by_cases e : j = k
  · subst e
    rw [zc_up_s]
    have := (h j hj).1
    have hmm := h m hm
    refine ⟨by omega, fun _ => ⟨t, m, hE, hmm.2.1 (by omega)⟩, fun hs => ?_⟩
    have := (h j hj).2.2 hs
    omega
  · rw [zc_up_n e]; exact h j hj
theorem zs_fix {n : Nat} {E : Nat → Nat → Nat → Prop} {S : Nat → Prop} {far : Nat → Nat} (h : zs_FI n E S far) (hE : ∀ i t m, E i t m → i < n ∧ t < 3 ∧ m < n)
    (hx : ∀ k, k < n → ∀ s m, E k s m → far k ≤ far m + 1) : zg_F n E S far := by
  refine ⟨fun k hk => (h k hk).1, fun k hk => (h k hk).2.1, fun l => ?_⟩
  induction l with
  | zero => intro k hk hR; have := (h k hk).2.2 hR; omega
  | succ l ih =>
    intro k hk hR
    obtain ⟨t, m, e, r⟩ := hR
    have := ih m (hE k t m e).2.2 r
    have := hx k hk t m e
    omega
def zs_Q (n : Nat) (E : Nat → Nat → Nat → Prop) (far0 : Nat → Nat) (kk : Nat) (far : Nat → Nat) (more : Int32) : Prop :=
  (more = 0 ∧ far = far0 ∧ ∀ k, kk ≤ k → k < n → ∀ s m, E k s m → far k ≤ far m + 1) ∨ (more = 1 ∧ zs_sum far n < zs_sum far0 n)
def zs_P (n : Nat) (E : Nat → Nat → Nat → Prop) (far0 : Nat → Nat) (k t : Nat) (far : Nat → Nat) (more : Int32) : Prop :=
  (more = 0 ∧ far = far0 ∧ (∀ k', k + 1 ≤ k' → k' < n → ∀ s m, E k' s m → far k' ≤ far m + 1) ∧ (∀ s, s < t → ∀ m, E k s m → far k ≤ far m + 1)) ∨
  (more = 1 ∧ zs_sum far n < zs_sum far0 n)
def zs_A (n : Nat) (a_far : Nat → Int32) (far : Nat → Nat) : Prop := ∀ j, j < n → a_far j = nI (far j)
section
variable {o g L : Nat → Nat} {l : List (Nat → Nat)} {S : Nat → Prop} {f_steps f_count f_known f_different : Int32} {a_ops a_args a_length a_next a_table a_far a_found a_who a_what a_tried : Nat → Int32} {a_path a_list a_before : Nat → Int64}
theorem zy_me65 {post : SY → Prop} {J45 : Int32 → (Nat → Int32) → (Nat → Int32) → (Nat → Int32) → (Nat → Int64) → (Nat → Int64) → (Nat → Int32) → (Nat → Int32) → (Nat → Int32) → (Nat → Int32) → (Nat → Int32) → (Nat → Int32) → (Nat → Int64) → (Nat → Int32) → Prop}
    {J58 : Int32 → Int32 → (Nat → Int32) → (Nat → Int32) → (Nat → Int32) → (Nat → Int64) → (Nat → Int64) → (Nat → Int32) → (Nat → Int32) → (Nat → Int32) → (Nat → Int32) → (Nat → Int32) → (Nat → Int32) → (Nat → Int64) → (Nat → Int32) → Prop}
    (hM : l.length ≤ 1200) (hd : l.Nodup) (hN : zb_N o g L l (3 * l.length) a_next) {far0 : Nat → Nat} {k : Nat} (hk : k < l.length)
    (hJ : ∀ (far : Nat → Nat) (more : Int32) (af : Nat → Int32), zs_FI l.length (zb_E o g L l) S far → zs_A l.length af far → zs_Q l.length (zb_E o g L l) far0 k far more → J58 more (nI k + (-1)) a_ops a_args a_length a_path a_list a_next a_table af a_found a_who a_what a_before a_tried) :
    ∀ (d t : Nat) (far : Nat → Nat) (more : Int32) (af : Nat → Int32), t + d = 3 → zs_FI l.length (zb_E o g L l) S far → zs_A l.length af far → zs_P l.length (zb_E o g L l) far0 k t far more →
      wY_measure_65 post J45 J58 (nI k) f_steps f_count f_known f_different (d + 1) more (nI t) a_ops a_args a_length a_path a_list a_next a_table af a_found a_who a_what a_before a_tried := by
  intro d
  induction d with
  | zero =>
    intro t far more af ht hF hA hP
    have e : t = 3 := by omega
    subst e
    refine br_t (by decide) (nm_e (hJ far more af hF hA ?_))
    rcases hP with ⟨p1, p2, p3, p4⟩ | hP
    · refine Or.inl ⟨p1, p2, fun k' hk' hn s m hE => ?_⟩
      by_cases e : k' = k
      · subst e; exact p4 s hE.2.1 m hE
      · exact p3 k' (by omega) hn s m hE
    · exact Or.inr hP
  | succ d ih =>
    intro t far more af ht hF hA hP
    have i3 : vp_in (3 * nI k + nI t) 3603 := pk_in (3 * k + t) 3603 (by omega) (zy_i3 k t)
    have hNk := hN hM k t (by omega) hk (by omega)
    have ik : vp_in (nI k) 1201 := vp_in_nI (by omega) (by omega)
    have eck : af (nI k).toNatClampNeg = nI (far k) := by rw [nI_clamp (by omega)]; exact hA k hk
    have fk := (hF k hk).1
    refine br_f (nI_ge (b := 3) (by omega) (by decide)) (And.intro i3 ?_)
    by_cases hR : zc_R o g L (zb_at l k) t
    · obtain ⟨m, m1, m2, m3⟩ := hNk.2 hR
      have hE : zb_E o g L l k t m := ⟨hk, by omega, m1, hR, m3.symm⟩
      have im : vp_in (nI m) 1201 := vp_in_nI (by omega) (by omega)
      have ecm : af (nI m).toNatClampNeg = nI (far m) := by rw [nI_clamp (by omega)]; exact hA m m1
      have fm := (hF m m1).1
      refine nm_r (e' := nI m) (by rw [zy_i3, nI_clamp (by omega)]; exact m2) (br_f (nI_pos (by omega)) (And.intro im (And.intro ik ?_)))
      refine pk_lt (far m + 1) (far k) (fun hl => And.intro im (And.intro ik (nm_e (nm_r (nI_1 t) ?_)))) (fun hl => nm_r (nI_1 t) ?_) (by rw [ecm, nI_1]) eck (by omega) (by omega)
      · refine ih (t + 1) (zc_up far k (far m + 1)) 1 _ (by omega) (zs_FI_up hF hk m1 hE hl) (fun j hj => ?_) (Or.inr ⟨rfl, ?_⟩)
        · rw [nI_clamp (show k < 2 ^ 31 by omega), ecm]
          unfold upd zc_up
          split
          · exact nI_1 _
          · exact hA j hj
        · have hs := zs_sum_up hl l.length hk
          rcases hP with ⟨p1, p2, p3, p4⟩ | hP
          · rw [p2] at hs ⊢; exact hs
          · omega
      · refine ih (t + 1) far more af (by omega) hF hA ?_
        rcases hP with ⟨p1, p2, p3, p4⟩ | hP
        · refine Or.inl ⟨p1, p2, p3, fun s hs m' hE' => ?_⟩
          by_cases e : s = t
          · subst e
            have : m' = m := zb_inj hd hE'.2.2.1 m1 (hE'.2.2.2.2.symm.trans m3.symm)
            rw [this]; exact hl
          · exact p4 s (by omega) m' hE'
        · exact Or.inr hP
    · refine nm_r (e' := -1) (by rw [zy_i3, nI_clamp (by omega)]; exact hNk.1 hR) (br_t (by decide) (nm_r (nI_1 t) ?_))
      refine ih (t + 1) far more af (by omega) hF hA ?_
      rcases hP with ⟨p1, p2, p3, p4⟩ | hP
      · refine Or.inl ⟨p1, p2, p3, fun s hs m' hE' => ?_⟩
        by_cases e : s = t
        · subst e; exact absurd hE'.2.2.2.1 hR
        · exact p4 s (by omega) m' hE'
      · exact Or.inr hP
theorem zy_me58 {post : SY → Prop} {J45 : Int32 → (Nat → Int32) → (Nat → Int32) → (Nat → Int32) → (Nat → Int64) → (Nat → Int64) → (Nat → Int32) → (Nat → Int32) → (Nat → Int32) → (Nat → Int32) → (Nat → Int32) → (Nat → Int32) → (Nat → Int64) → (Nat → Int32) → Prop}
    (hM : l.length ≤ 1200) (hd : l.Nodup) (hN : zb_N o g L l (3 * l.length) a_next) {far0 : Nat → Nat}
    (hJ : ∀ (far : Nat → Nat) (more : Int32) (af : Nat → Int32), zs_FI l.length (zb_E o g L l) S far → zs_A l.length af far → zs_Q l.length (zb_E o g L l) far0 0 far more → J45 more a_ops a_args a_length a_path a_list a_next a_table af a_found a_who a_what a_before a_tried) :
    ∀ (kk : Nat) (far : Nat → Nat) (more : Int32) (af : Nat → Int32), kk ≤ l.length → zs_FI l.length (zb_E o g L l) S far → zs_A l.length af far → zs_Q l.length (zb_E o g L l) far0 kk far more →
      wY_measure_58 post J45 f_steps f_count f_known f_different (kk + 1) more (nI kk + (-1)) a_ops a_args a_length a_path a_list a_next a_table af a_found a_who a_what a_before a_tried := by
  intro kk
  induction kk with
  | zero =>
    intro far more af _ hF hA hQ
    exact br_t (by decide) (hJ far more af hF hA hQ)
  | succ kk ih =>
    intro far more af hkk hF hA hQ
    rw [pk_m1]
    refine br_f (nI_pos (by omega)) ⟨4, ?_⟩
    refine zy_me65 hM hd hN (by omega) (fun far more af hF hA hQ => ih far more af (by omega) hF hA hQ) 3 0 far more af rfl hF hA ?_
    rcases hQ with ⟨p1, p2, p3⟩ | hQ
    · exact Or.inl ⟨p1, p2, p3, fun s hs => by omega⟩
    · exact Or.inr hQ
theorem zy_me45 {post : SY → Prop} (hM : l.length ≤ 1200) (h1 : 1 ≤ l.length) (hd : l.Nodup) (hN : zb_N o g L l (3 * l.length) a_next)
    (hp : ∀ (far : Nat → Nat) (af : Nat → Int32), zg_F l.length (zb_E o g L l) S far → zs_A l.length af far → post (f_steps, nI l.length, f_known, f_different, a_ops, a_args, a_length, a_path, a_list, a_next, a_table, af, a_found, a_who, a_what, a_before, a_tried)) :
    ∀ (N : Nat) (far : Nat → Nat) (af : Nat → Int32), zs_FI l.length (zb_E o g L l) S far → zs_A l.length af far → zs_sum far l.length < N →
      wY_measure_45 post f_steps (nI l.length) f_known f_different (N + 1) 1 a_ops a_args a_length a_path a_list a_next a_table af a_found a_who a_what a_before a_tried := by
  intro N
  induction N with
  | zero => intro far af _ _ h; omega
  | succ N ih =>
    intro far af hF hA hs
    refine br_f (by decide) (nm_r (e' := nI l.length + (-1)) ?_ ⟨l.length + 1, ?_⟩)
    · obtain ⟨q, hq⟩ : ∃ q, l.length = q + 1 := ⟨l.length - 1, by omega⟩
      rw [hq, pk_m1, nI_pred]
    · refine zy_me58 (far0 := far) hM hd hN (fun far' more af' hF' hA' hQ' => ?_) l.length far 0 af (Nat.le_refl _) hF hA (Or.inl ⟨rfl, rfl, fun k hk hn => by omega⟩)
      rcases hQ' with ⟨p1, p2, p3⟩ | ⟨p1, p2⟩
      · subst p1
        exact br_t rfl (hp far' af' (zs_fix hF' (fun i t m h => ⟨h.1, h.2.1, h.2.2.1⟩) fun k hk => p3 k (by omega) hk) hA')
      · subst p1
        exact ih far' af' hF' hA' (by omega)
end
end
section
/-! soonest and step, owed -/
section
variable {o g L c0 : Nat → Nat} {l : List (Nat → Nat)} {f_steps f_count f_known f_different : Int32} {a_ops a_args a_length a_next a_table a_far a_found a_who a_what a_tried : Nat → Int32} {a_path a_list a_before : Nat → Int64}
def zs_T (o g L : Nat → Nat) (l : List (Nat → Nat)) (w k : Nat) : Prop := k < l.length ∧ zs_S o g L (zb_at l k) w
theorem zy_measure {post : SY → Prop} {w : Nat} (hC : zx_C o g L a_ops a_args a_length) (hV : ∀ x, x ∈ l → zc_V o L x) (hw : w ≤ 3) (hM : l.length ≤ 1200) (h1 : 1 ≤ l.length) (hd : l.Nodup)
    (hl : ∀ i, i < l.length → a_list i = lN (zp_Y (zb_at l i))) (hN : zb_N o g L l (3 * l.length) a_next)
    (hp : ∀ (far : Nat → Nat) (af : Nat → Int32), zg_F l.length (zb_E o g L l) (zs_T o g L l w) far → zs_A l.length af far → post (f_steps, nI l.length, f_known, f_different, a_ops, a_args, a_length, a_path, a_list, a_next, a_table, af, a_found, a_who, a_what, a_before, a_tried)) :
    wpY_measure post (f_steps, nI l.length, f_known, f_different, a_ops, a_args, a_length, a_path, a_list, a_next, a_table, a_far, a_found, a_who, a_what, a_before, a_tried) (nI w) := by
  have key : ∀ d i (af : Nat → Int32), i + d = l.length → (∀ j, j < i → (zs_S o g L (zb_at l j) w → af j = nI 0) ∧ (¬ zs_S o g L (zb_at l j) w → af j = nI 1000)) →
      wY_measure_2 post (nI w) f_steps (nI l.length) f_known f_different (d + 1) (nI i) a_ops a_args a_length a_path a_list a_next a_table af a_found a_who a_what a_before a_tried := by
    intro d
    induction d with
    | zero =>
      intro i af hi hA
      have e : i = l.length := by omega
      subst e
      refine pk_le l.length l.length (fun _ => ?_) (fun h => by omega) rfl rfl (by omega) (by omega)
      refine ⟨_, zy_me45 (S := zs_T o g L l w) hM h1 hd hN hp _ (fun j => @ite _ (zs_S o g L (zb_at l j) w) (Classical.propDecidable _) 0 1000) af ?_ ?_ (Nat.lt_succ_self _)⟩
      · intro k hk
        dsimp only
        by_cases hs : zs_S o g L (zb_at l k) w
        · rw [if_pos hs]
          exact ⟨by omega, fun _ => ⟨hk, hs⟩, fun _ => rfl⟩
        · rw [if_neg hs]
          exact ⟨by omega, fun h => by omega, fun h => absurd h.2 hs⟩
      · intro k hk
        dsimp only
        by_cases hs : zs_S o g L (zb_at l k) w
        · rw [if_pos hs]; exact (hA k hk).1 hs
        · rw [if_neg hs]; exact (hA k hk).2 hs
    | succ d ih =>
      intro i af hi hA
      have hil : i < l.length := by omega
      have hVi := hV _ (zb_at_mem hil)
      have ii : vp_in (nI i) 1201 := vp_in_nI (by omega) (by omega)
      have ec : (nI i).toNatClampNeg = i := nI_clamp (by omega)
      have ef : a_list (nI i).toNatClampNeg = lN (zp_Y (zb_at l i)) := by rw [ec]; exact hl i hil
      refine pk_le l.length i (fun h => by omega) (fun h => And.intro ii ?_) rfl rfl (by omega) (by omega)
      rw [ef]
      have up : ∀ (v : Int32), (zs_S o g L (zb_at l i) w → v = nI 0) → (¬ zs_S o g L (zb_at l i) w → v = nI 1000) →
          ∀ j, j < i + 1 → (zs_S o g L (zb_at l j) w → upd af (nI i).toNatClampNeg v j = nI 0) ∧ (¬ zs_S o g L (zb_at l j) w → upd af (nI i).toNatClampNeg v j = nI 1000) := by
        intro v v1 v2 j hj
        rw [ec]
        unfold upd
        by_cases e : j = i
        · subst e; rw [if_pos rfl]; exact ⟨v1, v2⟩
        · rw [if_neg e]; exact hA j (by omega)
      refine zy_isSought hC hVi hw (fun hs => br_f (by decide) (And.intro ii (nm_e (nm_r (nI_1 i) (ih (i + 1) _ (by omega) ?_))))) (fun hs => br_t rfl (And.intro ii (nm_e (nm_r (nI_1 i) (ih (i + 1) _ (by omega) ?_)))))
      · exact up 0 (fun _ => rfl) (fun h => absurd hs h)
      · exact up 1000 (fun h => absurd h hs) (fun _ => rfl)
  exact ⟨l.length + 1, key _ 0 a_far (by omega) fun j hj => by omega⟩
theorem zy_soonest {post : Int32 → SY → Prop} {w : Nat} (hC : zx_C o g L a_ops a_args a_length) (hV : zc_V o L c0) {n : Nat} (hn : n ≤ 30) (hpth : a_path n = lN (zp_Y c0))
    (hk : f_known = 0 ∨ (f_known = 1 ∧ zy_S o g L c0 f_count a_list a_next)) (hw : w ≤ 3)
    (h0 : 1200 < (zb_F o g L c0).length → ∀ (count : Int32) (list : Nat → Int64) (next table : Nat → Int32), zy_S o g L c0 count list next →
      post (-2) (nI n, count, 1, f_different, a_ops, a_args, a_length, a_path, list, next, table, a_far, a_found, a_who, a_what, a_before, a_tried))
    (h1 : (zb_F o g L c0).length ≤ 1200 → ∀ (count : Int32) (list : Nat → Int64) (next table af : Nat → Int32) (far : Nat → Nat), zy_S o g L c0 count list next →
      zg_F (zb_F o g L c0).length (zb_E o g L (zb_F o g L c0)) (zs_T o g L (zb_F o g L c0) w) far → zs_A (zb_F o g L c0).length af far →
      (far 0 = 1000 → post (-3) (nI n, count, 1, f_different, a_ops, a_args, a_length, a_path, list, next, table, af, a_found, a_who, a_what, a_before, a_tried)) ∧
      (far 0 ≠ 1000 → post (nI (far 0)) (nI n, count, 1, f_different, a_ops, a_args, a_length, a_path, list, next, table, af, a_found, a_who, a_what, a_before, a_tried))) :
    wpY_soonest post (nI n, f_count, f_known, f_different, a_ops, a_args, a_length, a_path, a_list, a_next, a_table, a_far, a_found, a_who, a_what, a_before, a_tried) (nI w) := by
  have hFV : ∀ x, x ∈ zb_F o g L c0 → zc_V o L x := zb_V hC.1 hV 3600
  have hF1 : 1 ≤ (zb_F o g L c0).length := (zb_len 3600).1
  have hFd : (zb_F o g L c0).Nodup := zb_nodup 3600
  unfold wpY_soonest
  refine zy_within (a := 0) (b := 3) rfl rfl (by omega) (by omega) (fun _ _ _ _ => br_f (by decide) ?_) (fun hno => absurd rfl (hno w (by omega) (by omega)))
  refine zy_know hC hV hn hpth hk (fun hm count list next table hS => br_t rfl (h0 hm count list next table hS)) (fun hm count list next table hS => br_f (by decide) ?_)
  have hS' := hS
  obtain ⟨s1, s2, s3⟩ := hS
  subst s1
  refine zy_measure hC hFV hw hm hF1 hFd s2 s3 fun far af hF hA => ?_
  have hh := h1 hm _ list next table af far hS' hF hA
  have f0 := hF.1 0 hF1
  have e0 : af 0 = nI (far 0) := hA 0 hF1
  refine pk_eq (far 0) 1000 (fun e => hh.1 e) (fun e => ?_) e0 rfl (by omega) (by omega)
  rw [e0]
  exact hh.2 e
/-- the row to the nearest: the lowest thread that comes nearer -/
theorem zy_stepL {post : Int32 → SY → Prop} {key dd far : Nat → Nat} {G kk : Nat} {S : Nat → Prop} (hM : l.length ≤ 1200) (hd : l.Nodup) (hN : zb_N o g L l (3 * l.length) a_next)
    (hB : zg_B l.length (zb_E o g L l) key dd) (hF : zg_F l.length (zb_E o g L l) S far) (hA : zs_A l.length a_far far) (hSn : ∀ k, S k → k < l.length) (hG : G < l.length) (hS : S G) (hf : ∀ s, S s → G ≤ s)
    (hb : dd G ≤ 30) (hkk : kk < dd G) (hp : post (nI (key (zg_an key G (dd G - 1 - kk)) % 3)) (f_steps, f_count, f_known, f_different, a_ops, a_args, a_length, a_path, a_list, a_next, a_table, a_far, a_found, a_who, a_what, a_before, a_tried)) :
    ∃ n, wY_step_32 post (nI kk) f_steps f_count f_known f_different a_ops a_args a_length a_path a_list a_next a_table a_far a_found a_who a_what a_before a_tried n 0 0 0 := by
  have outer : ∀ e j (th : Int32), j + e = kk + 1 → (j = kk + 1 → th = nI (key (zg_an key G (dd G - 1 - kk)) % 3)) → wY_step_32 post (nI kk) f_steps f_count f_known f_different a_ops a_args a_length a_path a_list a_next a_table a_far a_found a_who a_what a_before a_tried (e + 1) (nI (zg_an key G (dd G - j))) th (nI j) := by
    intro e
    induction e with
    | zero =>
      intro j th hj hth
      refine pk_lt kk j (fun _ => ?_) (fun h => by omega) rfl rfl (by omega) (by omega)
      rw [hth (by omega)]
      exact hp
    | succ e ih =>
      intro j th hj hth
      refine pk_lt kk j (fun h => by omega) (fun _ => ?_) rfl rfl (by omega) (by omega)
      have eq1 : dd G - j = dd G - 1 - j + 1 := by omega
      rw [eq1]
      have hq : dd G - 1 - j < dd G := by omega
      have hJ := ih (j + 1) (nI (key (zg_an key G (dd G - 1 - j)) % 3)) (by omega) (by
        intro h
        have : j = kk := by omega
        rw [this])
      have eq2 : dd G - (j + 1) = dd G - 1 - j := by omega
      rw [eq2] at hJ
      generalize dd G - 1 - j = q at *
      have a1 := (zg_an_d hB hG (q + 1) (by omega)).1
      have a0 := (zg_an_d hB hG q (by omega)).1
      have fa1 := zg_far_an hF hB hSn hG hS hf (by omega) (q := q + 1) (by omega)
      have fa0 := zg_far_an hF hB hSn hG hS hf (by omega) (q := q) (by omega)
      have hE := zg_an_E hB hG hq
      have i4 : vp_in (nI (zg_an key G (q + 1))) 1201 := vp_in_nI (by omega) (by omega)
      have ef1 : a_far (nI (zg_an key G (q + 1))).toNatClampNeg - 1 = nI q := by
        rw [nI_clamp (by omega), hA _ a1, fa1, nI_pred]
      have inner : ∀ f t, t + f = key (zg_an key G q) % 3 → wY_step_41 post (wY_step_32 post (nI kk) f_steps f_count f_known f_different a_ops a_args a_length a_path a_list a_next a_table a_far a_found a_who a_what a_before a_tried (e + 1)) (nI kk) (nI (zg_an key G (q + 1))) (nI j) f_steps f_count f_known f_different a_ops a_args a_length a_path a_list a_next a_table a_far a_found a_who a_what a_before a_tried (f + 1) (nI t) := by
        intro f
        induction f with
        | zero =>
          intro t ht
          have et : t = key (zg_an key G q) % 3 := by omega
          have i3 : vp_in (3 * nI (zg_an key G (q + 1)) + nI t) 3603 := pk_in _ 3603 (by omega) (zy_i3 _ t)
          have ec3 : (3 * nI (zg_an key G (q + 1)) + nI t).toNatClampNeg = 3 * zg_an key G (q + 1) + t := by rw [zy_i3, nI_clamp (by omega)]
          rw [← et] at hE hJ
          obtain ⟨m, m1, m2, m3⟩ := (hN hM _ t hE.2.1 a1 (by omega)).2 hE.2.2.2.1
          have em : m = zg_an key G q := zb_inj hd m1 a0 (m3.trans hE.2.2.2.2)
          subst em
          have en : a_next (3 * nI (zg_an key G (q + 1)) + nI t).toNatClampNeg = nI (zg_an key G q) := by rw [ec3]; exact m2
          refine And.intro i3 (br_f (by rw [en]; exact nI_pos (by omega)) (And.intro i3 (And.intro (by rw [en]; exact vp_in_nI (by omega) (by omega)) (And.intro i4 (br_t ?_ (And.intro i3 (nm_r en (nm_r (nI_1 j) hJ))))))))
          rw [en, ef1, nI_clamp (by omega), hA _ a0, fa0]
        | succ f ihf =>
          intro t ht
          have i3 : vp_in (3 * nI (zg_an key G (q + 1)) + nI t) 3603 := pk_in _ 3603 (by omega) (zy_i3 _ t)
          have ec3 : (3 * nI (zg_an key G (q + 1)) + nI t).toNatClampNeg = 3 * zg_an key G (q + 1) + t := by rw [zy_i3, nI_clamp (by omega)]
          have hNt := hN hM _ t (by omega) a1 (by omega)
          refine And.intro i3 ?_
          by_cases hR : zc_R o g L (zb_at l (zg_an key G (q + 1))) t
          · obtain ⟨m, m1, m2, m3⟩ := hNt.2 hR
            have en : a_next (3 * nI (zg_an key G (q + 1)) + nI t).toNatClampNeg = nI m := by rw [ec3]; exact m2
            have hlow := zg_low hF hB hSn hG hS hf (by omega) hq (t := t) (m := m) (by omega) ⟨a1, by omega, m1, hR, m3.symm⟩
            have fm := hF.1 m m1
            refine br_f (by rw [en]; exact nI_pos (by omega)) (And.intro i3 (And.intro (by rw [en]; exact vp_in_nI (by omega) (by omega)) (And.intro i4 (br_f ?_ (nm_r (nI_1 t) (ihf (t + 1) (by omega)))))))
            rw [en, ef1, nI_clamp (by omega), hA _ m1]
            exact fun h => hlow (zr_nI h (by omega) (by omega))
          · have en : a_next (3 * nI (zg_an key G (q + 1)) + nI t).toNatClampNeg = -1 := by rw [ec3]; exact hNt.1 hR
            exact br_t (by rw [en]; decide) (nm_r (nI_1 t) (ihf (t + 1) (by omega)))
      exact ⟨_, inner (key (zg_an key G q) % 3) 0 (by omega)⟩
  have := outer (kk + 1) 0 0 (by omega) (fun h => by omega)
  rw [Nat.sub_zero, zg_an_0 hB hG] at this
  exact ⟨_, this⟩
end
section
variable {l : List (Nat → Nat)} {f_steps f_foundCount : Int32} {a_ops a_args a_codeLength a_cell a_cameFrom a_cameBy a_distance a_slots a_isEnding a_walkLeft a_walkAsleep : Nat → Int32} {a_trail a_found a_walkState : Nat → Int64}
theorem zx_stepL {post : Int32 → SX → Prop} {E : Nat → Nat → Nat → Prop} {key dd : Nat → Nat} {G kk : Nat} (hM : l.length ≤ 1200) (hB : zg_B l.length E key dd) (hG : G < l.length)
    (hD : ∀ j, j < l.length → a_cameFrom j = nI (key j / 3) ∧ a_cameBy j = nI (key j % 3)) (hb : dd G ≤ 30) (hkk : kk < dd G)
    (hp : post (nI (key (zg_an key G (dd G - 1 - kk)) % 3)) (f_steps, f_foundCount, a_ops, a_args, a_codeLength, a_trail, a_cell, a_found, a_cameFrom, a_cameBy, a_distance, a_slots, a_isEnding, a_walkState, a_walkLeft, a_walkAsleep)) : ∃ n, wX_step_35 post (nI kk) f_steps f_foundCount a_ops a_args a_codeLength a_trail a_cell a_found a_cameFrom a_cameBy a_distance a_slots a_isEnding a_walkState a_walkLeft a_walkAsleep n (nI G) (nI (dd G - 1)) := by
  have main : ∀ e q, q + e + kk + 1 = dd G → wX_step_35 post (nI kk) f_steps f_foundCount a_ops a_args a_codeLength a_trail a_cell a_found a_cameFrom a_cameBy a_distance a_slots a_isEnding a_walkState a_walkLeft a_walkAsleep (e + 1) (nI (zg_an key G q)) (nI (dd G - 1 - q)) := by
    intro e
    induction e with
    | zero =>
      intro q hq
      have a := (zg_an_d hB hG q (by omega)).1
      have e1 : dd G - 1 - q = kk := by omega
      have e2 : q = dd G - 1 - kk := by omega
      refine pk_le (dd G - 1 - q) kk (fun _ => And.intro (vp_in_nI (by omega) (by omega)) ?_) (fun h => by omega) rfl rfl (by omega) (by omega)
      rw [nI_clamp (by omega), (hD _ a).2, e2]
      exact hp
    | succ e ih =>
      intro q hq
      have a := (zg_an_d hB hG q (by omega)).1
      refine pk_le (dd G - 1 - q) kk (fun h => by omega) (fun _ => And.intro (vp_in_nI (by omega) (by omega)) (nm_r (e' := nI (zg_an key G (q + 1))) ?_ (nm_r (e' := nI (dd G - 1 - (q + 1))) ?_ (ih (q + 1) (by omega))))) rfl rfl (by omega) (by omega)
      · rw [nI_clamp (by omega), (hD _ a).1]; rfl
      · have e1 : dd G - 1 - q = dd G - 1 - (q + 1) + 1 := by omega
        rw [e1, pk_m1]
  have := main (dd G - 1 - kk) 0 (by omega)
  exact ⟨_, this⟩
end
theorem zs_30 {o g L c0 : Nat → Nat} {key dd : Nat → Nat} {G w : Nat} (hK : zc_K o g L) (hV : zc_V o L c0) (hB : zg_B (zb_F o g L c0).length (zb_E o g L (zb_F o g L c0)) key dd) (hG : G < (zb_F o g L c0).length)
    (hS : zs_T o g L (zb_F o g L c0) w G) : dd G ≤ 30 := by
  have h1 := zg_an_R hB hG hS (dd G) (Nat.le_refl _)
  rw [zg_an_0 hB hG] at h1
  have := zb_R30 hK (zb_V hK hV 3600) _ 0 (zb_len 3600).1 h1
  omega
theorem i_vc_soonest {k : Nat} {u : SX} {v : SY} (I : i_Rel k u v) (hk : k + 5 ≤ 2560) (v1 : Int32) : wpX_soonest (fun r u' => wpY_soonest (fun r' v' => r' = r ∧ i_Rel (k + 5) u' v') v v1) u v1 := by
  obtain ⟨f_steps, f_foundCount, a_ops, a_args, a_codeLength, a_trail, a_cell, a_found, a_cameFrom, a_cameBy, a_distance, a_slots, a_isEnding, a_walkState, a_walkLeft, a_walkAsleep⟩ := u
  obtain ⟨f_steps1, f_count1, f_known1, f_different1, a_ops1, a_args1, a_length1, a_path1, a_list1, a_next1, a_table1, a_far1, a_found1, a_who1, a_what1, a_before1, a_tried1⟩ := v
  obtain ⟨o, g, L, n, h, hX, hY, e1, e2, hn, hh, hkn⟩ := I
  have I' : zr_P f_steps a_ops a_args a_codeLength a_trail f_steps1 f_count1 f_known1 a_ops1 a_args1 a_length1 a_path1 a_list1 a_next1 := ⟨o, g, L, n, h, hX, hY, e1, e2, hn, hh, hkn⟩
  subst e1 e2
  obtain ⟨hx, hy, hV, hps⟩ := hh n (Nat.le_refl _)
  by_cases hw : ∃ w, w ≤ 3 ∧ v1 = nI w
  · obtain ⟨w, hw, rfl⟩ := hw
    have rel : ∀ (count : Int32) (list : Nat → Int64) (next : Nat → Int32), zy_S o g L (h n) count list next → zr_P (nI n) a_ops a_args a_codeLength a_trail (nI n) count 1 a_ops1 a_args1 a_length1 a_path1 list next :=
      fun count list next hS => ⟨o, g, L, n, h, hX, hY, rfl, rfl, hn, hh, Or.inr ⟨rfl, hS⟩⟩
    have hF1 : 1 ≤ (zb_F o g L (h n)).length := (zb_len 3600).1
    refine zx_soonest hX hV hn hx hw (fun hm cell found cf cb ds sl => ?_) (fun hm hno cell found cf cb ds sl _ _ K => ?_) (fun hm G hG hs hf cell found cf cb ds sl key dd hfo hB hD => ?_)
    · exact zy_soonest hY hV hn hy hkn hw (fun _ count list next table hS => ⟨rfl, rel _ _ _ hS⟩) (fun hm' => by omega)
    · obtain ⟨_, key, dd, hB, _⟩ := K
      refine zy_soonest hY hV hn hy hkn hw (fun hm' => by omega) (fun _ count list next table af far hS hF hA => ⟨fun _ => ⟨rfl, rel _ _ _ hS⟩, fun hne => absurd ?_ hne⟩)
      exact zg_never hF hB (fun k hk => hk.1) hF1 fun k hk => hno k hk.1 hk.2
    · have hT : zs_T o g L (zb_F o g L (h n)) w G := ⟨hG, hs⟩
      have h30 := zs_30 hX.1 hV hB hG hT
      refine zy_soonest hY hV hn hy hkn hw (fun hm' => by omega) (fun _ count list next table af far hS hF hA => ?_)
      have e := zg_soon hF hB (fun k hk => hk.1) hG hT (fun s hs' => Classical.byContradiction fun hlt => hf s (by omega) hs'.2) (by omega)
      exact ⟨fun he => by omega, fun _ => ⟨by rw [e], rel _ _ _ hS⟩⟩
  · have yno : wpY_soonest (fun r' v' => r' = -1 ∧ i_Rel (k + 5) (nI n, f_foundCount, a_ops, a_args, a_codeLength, a_trail, a_cell, a_found, a_cameFrom, a_cameBy, a_distance, a_slots, a_isEnding, a_walkState, a_walkLeft, a_walkAsleep) v') (nI n, f_count1, f_known1, f_different1, a_ops1, a_args1, a_length1, a_path1, a_list1, a_next1, a_table1, a_far1, a_found1, a_who1, a_what1, a_before1, a_tried1) v1 := by
      unfold wpY_soonest
      exact zy_within (a := 0) (b := 3) rfl rfl (by omega) (by omega) (fun t _ ht e => absurd ⟨t, ht, e⟩ hw) (fun _ => br_t rfl ⟨rfl, I'⟩)
    refine br_c (fun _ => yno) (fun h0 => br_c (fun hle => ?_) (fun _ => yno))
    obtain ⟨w, hw2, rfl⟩ := nI_of h0
    exact absurd ⟨w, (nI_leI hw2 (b := 3) (by omega)).mp hle, rfl⟩ hw
theorem i_vc_step {k : Nat} {u : SX} {v : SY} (I : i_Rel k u v) (hk : k + 5 ≤ 2560) (v1 : Int32) (v2 : Int32) : wpX_step (fun r u' => wpY_step (fun r' v' => r' = r ∧ i_Rel (k + 5) u' v') v v1 v2) u v1 v2 := by
  obtain ⟨f_steps, f_foundCount, a_ops, a_args, a_codeLength, a_trail, a_cell, a_found, a_cameFrom, a_cameBy, a_distance, a_slots, a_isEnding, a_walkState, a_walkLeft, a_walkAsleep⟩ := u
  obtain ⟨f_steps1, f_count1, f_known1, f_different1, a_ops1, a_args1, a_length1, a_path1, a_list1, a_next1, a_table1, a_far1, a_found1, a_who1, a_what1, a_before1, a_tried1⟩ := v
  obtain ⟨o, g, L, n, h, hX, hY, e1, e2, hn, hh, hkn⟩ := I
  have I' : zr_P f_steps a_ops a_args a_codeLength a_trail f_steps1 f_count1 f_known1 a_ops1 a_args1 a_length1 a_path1 a_list1 a_next1 := ⟨o, g, L, n, h, hX, hY, e1, e2, hn, hh, hkn⟩
  subst e1 e2
  obtain ⟨hx, hy, hV, hps⟩ := hh n (Nat.le_refl _)
  have ng : ∀ {A B : Prop} (x : Int32), x < 0 → B → ((0 ≤ x → A) ∧ (¬ 0 ≤ x → B)) := fun x hx b => br_f (fun h => by
    rw [Int32.le_iff_toInt_le] at h
    rw [Int32.lt_iff_toInt_lt] at hx
    omega) b
  by_cases hw : ∃ w, w ≤ 3 ∧ v1 = nI w
  · obtain ⟨w, hw, rfl⟩ := hw
    have rel : ∀ (count : Int32) (list : Nat → Int64) (next : Nat → Int32), zy_S o g L (h n) count list next → zr_P (nI n) a_ops a_args a_codeLength a_trail (nI n) count 1 a_ops1 a_args1 a_length1 a_path1 list next :=
      fun count list next hS => ⟨o, g, L, n, h, hX, hY, rfl, rfl, hn, hh, Or.inr ⟨rfl, hS⟩⟩
    have hF1 : 1 ≤ (zb_F o g L (h n)).length := (zb_len 3600).1
    have hFd : (zb_F o g L (h n)).Nodup := zb_nodup 3600
    have hFl := zr_Fl o g L (h n)
    have hFV : ∀ x, x ∈ zb_F o g L (h n) → zc_V o L x := zb_V hX.1 hV 3600
    unfold wpX_step
    refine zx_soonest hX hV hn hx hw (fun hm cell found cf cb ds sl => ng _ (by decide) ?_) (fun hm hno cell found cf cb ds sl _ _ K => ng _ (by decide) ?_) (fun hm G hG hs hf cell found cf cb ds sl key dd hfo hB hD => ?_)
    · show wpY_step _ _ _ _
      unfold wpY_step
      exact zy_soonest hY hV hn hy hkn hw (fun _ count list next table hS => ng _ (by decide) ⟨rfl, rel _ _ _ hS⟩) (fun hm' => by omega)
    · show wpY_step _ _ _ _
      unfold wpY_step
      obtain ⟨_, key, dd, hB, _⟩ := K
      refine zy_soonest hY hV hn hy hkn hw (fun hm' => by omega) (fun _ count list next table af far hS hF hA => ⟨fun _ => ng _ (by decide) ⟨rfl, rel _ _ _ hS⟩, fun hne => absurd ?_ hne⟩)
      exact zg_never hF hB (fun k hk => hk.1) hF1 fun k hk => hno k hk.1 hk.2
    · have hT : zs_T o g L (zb_F o g L (h n)) w G := ⟨hG, hs⟩
      have h30 := zs_30 hX.1 hV hB hG hT
      have hfirst : ∀ s, zs_T o g L (zb_F o g L (h n)) w s → G ≤ s := fun s hs' => Classical.byContradiction fun hlt => hf s (by omega) hs'.2
      -- the reference, once it knows the length
      have yl : ∀ (P : Int32 → SY → Prop), (∀ (count : Int32) (list : Nat → Int64) (next table af : Nat → Int32) (far : Nat → Nat), zy_S o g L (h n) count list next →
          zg_F (zb_F o g L (h n)).length (zb_E o g L (zb_F o g L (h n))) (zs_T o g L (zb_F o g L (h n)) w) far → zs_A (zb_F o g L (h n)).length af far →
          ((v2 < 0 → P (-1) (nI n, count, 1, f_different1, a_ops1, a_args1, a_length1, a_path1, list, next, table, af, a_found1, a_who1, a_what1, a_before1, a_tried1)) ∧ (¬ v2 < 0 → ((v2 < nI (dd G) → ∃ n32, wY_step_32 P v2 (nI n) count 1 f_different1 a_ops1 a_args1 a_length1 a_path1 list next table af a_found1 a_who1 a_what1 a_before1 a_tried1 n32 0 0 0) ∧ (¬ v2 < nI (dd G) → P (-1) (nI n, count, 1, f_different1, a_ops1, a_args1, a_length1, a_path1, list, next, table, af, a_found1, a_who1, a_what1, a_before1, a_tried1))))) ) →
          wpY_step P (nI n, f_count1, f_known1, f_different1, a_ops1, a_args1, a_length1, a_path1, a_list1, a_next1, a_table1, a_far1, a_found1, a_who1, a_what1, a_before1, a_tried1) (nI w) v2 := by
        intro P hP
        unfold wpY_step
        refine zy_soonest hY hV hn hy hkn hw (fun hm' => by omega) (fun _ count list next table af far hS hF hA => ?_)
        have e := zg_soon hF hB (fun k hk => hk.1) hG hT hfirst (by omega)
        refine ⟨fun he => by omega, fun _ => br_t (nI_pos' (by omega)) ?_⟩
        rw [e]
        exact hP count list next table af far hS hF hA
      refine br_t (nI_pos' (by omega)) (br_c (fun hneg => ?_) (fun h0 => ?_))
      · exact yl _ fun count list next table af far hS hF hA => br_t hneg ⟨rfl, rel _ _ _ hS⟩
      obtain ⟨kk, hkk, rfl⟩ := nI_of h0
      refine pk_lt kk (dd G) (fun hlt => ?_) (fun hge => ?_) rfl rfl (by omega) (by omega)
      rotate_left
      · exact yl _ fun count list next table af far hS hF hA => br_f h0 (pk_lt kk (dd G) (fun hlt => by omega) (fun _ => ⟨rfl, rel _ _ _ hS⟩) rfl rfl (by omega) (by omega))
      refine zx_nearest hX hFV hFl hfo hw (fun G' hG' hs' hf' cell' => nm_r (e' := nI (dd G - 1)) (pk_sub (b := 1) (by omega)) ?_) (fun hno => absurd hs (hno G hG))
      have eG : G' = G := by
        rcases Nat.lt_trichotomy G' G with c | c | c
        · exact absurd hs' (hf G' c)
        · exact c
        · exact absurd hs (hf' G c)
      subst eG
      refine zx_stepL hm hB hG (fun j hj => ⟨(hD j hj).1, (hD j hj).2.1⟩) h30 hlt ?_
      refine yl _ fun count list next table af far hS hF hA => br_f h0 (pk_lt kk (dd G') (fun _ => ?_) (fun hge => by omega) rfl rfl (by omega) (by omega))
      exact zy_stepL hm hFd hS.2.2 hB hF hA (fun k hk => hk.1) hG hT hfirst h30 hlt ⟨rfl, rel _ _ _ hS⟩
  · have yno : wpY_step (fun r' v' => r' = -1 ∧ i_Rel (k + 5) (nI n, f_foundCount, a_ops, a_args, a_codeLength, a_trail, a_cell, a_found, a_cameFrom, a_cameBy, a_distance, a_slots, a_isEnding, a_walkState, a_walkLeft, a_walkAsleep) v') (nI n, f_count1, f_known1, f_different1, a_ops1, a_args1, a_length1, a_path1, a_list1, a_next1, a_table1, a_far1, a_found1, a_who1, a_what1, a_before1, a_tried1) v1 v2 := by
      unfold wpY_step wpY_soonest
      exact zy_within (a := 0) (b := 3) rfl rfl (by omega) (by omega) (fun t _ ht e => absurd ⟨t, ht, e⟩ hw) (fun _ => br_t rfl (ng _ (by decide) ⟨rfl, I'⟩))
    refine br_c (fun _ => ng _ (by decide) yno) (fun h0 => br_c (fun hle => ?_) (fun _ => ng _ (by decide) yno))
    obtain ⟨w, hw2, rfl⟩ := nI_of h0
    exact absurd ⟨w, (nI_leI hw2 (b := 3) (by omega)).mp hle, rfl⟩ hw
end
section
/-! endings -/
noncomputable def ze_v (L c : Nat → Nat) : Nat := c 0 + 8 * c 1 + 64 * c 2 + 512 * c 3 + (if c 15 = 0 then 0 else 4096) + @ite _ (zs_done L c) (Classical.propDecidable _) 0 8192
noncomputable def ze_m (o g L : Nat → Nat) (l : List (Nat → Nat)) : Nat → Nat → Nat
  | 0 => fun _ => 0
  | i + 1 => @ite _ (zt_end o g L (zb_at l i)) (Classical.propDecidable _) (zc_up (ze_m o g L l i) (ze_v L (zb_at l i)) 1) (ze_m o g L l i)
section
variable {o g L c : Nat → Nat} {l : List (Nat → Nat)}
theorem ze_v_lt (hB : ∀ j, c j < 8) : ze_v L c < 16384 := by
  have b0 := hB 0
  have b1 := hB 1
  have b2 := hB 2
  have b3 := hB 3
  unfold ze_v
  have h1 : (if c 15 = 0 then 0 else 4096) ≤ 4096 := by split <;> omega
  have h2 : @ite _ (zs_done L c) (Classical.propDecidable _) 0 8192 ≤ 8192 := by
    by_cases h : zs_done L c
    · rw [if_pos h]; omega
    · rw [if_neg h]; omega
  omega
theorem ze_m_y {i : Nat} (h : zt_end o g L (zb_at l i)) : ze_m o g L l (i + 1) = zc_up (ze_m o g L l i) (ze_v L (zb_at l i)) 1 := if_pos h
theorem ze_m_n {i : Nat} (h : ¬ zt_end o g L (zb_at l i)) : ze_m o g L l (i + 1) = ze_m o g L l i := if_neg h
theorem ze_m_1 (i e : Nat) : ze_m o g L l i e ≤ 1 := by
  induction i with
  | zero => exact Nat.zero_le _
  | succ i ih =>
    by_cases h : zt_end o g L (zb_at l i)
    · rw [ze_m_y h]
      unfold zc_up
      split
      · omega
      · exact ih
    · rw [ze_m_n h]; exact ih
theorem zh_c_le (q : Nat → Nat) : ∀ m, zh_c q m ≤ m := by
  intro m
  induction m with
  | zero => exact Nat.le_refl _
  | succ m ih =>
    show zh_c q m + (if q m = 0 then 0 else 1) ≤ m + 1
    split <;> omega
end
theorem ze_b1 : vp_nar .boolean 1 = 1 := by decide
theorem ze_b0 : vp_nar .boolean 0 = 0 := by decide
section
variable {o g L c : Nat → Nat} {l : List (Nat → Nat)} {f_steps f_foundCount : Int32} {a_ops a_args a_codeLength a_cell a_cameFrom a_cameBy a_distance a_slots a_isEnding a_walkLeft a_walkAsleep : Nat → Int32} {a_trail a_found a_walkState : Nat → Int64}
theorem zx_endingHere {post : Int32 → Prop} (hC : zx_C o g L a_ops a_args a_codeLength) (hE : zx_E c a_cell) (hB : ∀ j, c j < 8) (hp : post (nI (ze_v L c))) : wpX_endingHere post (f_steps, f_foundCount, a_ops, a_args, a_codeLength, a_trail, a_cell, a_found, a_cameFrom, a_cameBy, a_distance, a_slots, a_isEnding, a_walkState, a_walkLeft, a_walkAsleep) := by
  have b0 := hB 0
  have b1 := hB 1
  have b2 := hB 2
  have b3 := hB 3
  have b15 := hB 15
  have st : ∀ (x k : Nat), k < 16 → nI x * 8 + a_cell (nI k).toNatClampNeg = nI (x * 8 + c k) := by
    intro x k hk
    rw [zx_at hE rfl hk]
    have e : nI x * 8 = nI (x * 8) := pk_mul x 8
    rw [e, nI_add]
  have fin : ∀ (x z : Nat), z = (if c 15 = 0 then 0 else 4096) → x = c 0 + 8 * c 1 + 64 * c 2 + 512 * c 3 → wX_endingHere_43 post (nI x) (nI z) f_steps f_foundCount a_ops a_args a_codeLength a_trail a_cell a_found a_cameFrom a_cameBy a_distance a_slots a_isEnding a_walkState a_walkLeft a_walkAsleep := by
    intro x z hz hx
    refine zx_haveAllEnded hC hE hB (fun hd => br_f (by decide) ?_) (fun hd => br_t rfl ?_)
    · have e1 : nI x + nI z + 0 = nI (x + z + 0) := by rw [nI_add]; exact nI_add _ 0
      have e2 : x + z + 0 = ze_v L c := by unfold ze_v; rw [if_pos (c := zs_done L c) hd, hx, hz]
      rw [e1, e2]; exact hp
    · have e1 : nI x + nI z + 8192 = nI (x + z + 8192) := by rw [nI_add]; exact nI_add _ 8192
      have e2 : x + z + 8192 = ze_v L c := by unfold ze_v; rw [if_neg (c := zs_done L c) hd, hx, hz]
      rw [e1, e2]; exact hp
  refine ⟨5, ?_⟩
  refine br_f (by decide) (And.intro (vp_in_nI (n := 3) (by omega) (by omega)) (nm_r (st 0 3 (by omega)) (nm_r (pk_m1 2) ?_)))
  refine br_f (by decide) (And.intro (vp_in_nI (n := 2) (by omega) (by omega)) (nm_r (st _ 2 (by omega)) (nm_r (pk_m1 1) ?_)))
  refine br_f (by decide) (And.intro (vp_in_nI (n := 1) (by omega) (by omega)) (nm_r (st _ 1 (by omega)) (nm_r (pk_m1 0) ?_)))
  refine br_f (by decide) (And.intro (vp_in_nI (n := 0) (by omega) (by omega)) (nm_r (st _ 0 (by omega)) (nm_e ?_)))
  refine br_t (by decide) (pk_eq (c 15) 0 (fun e => ?_) (fun e => ?_) (hE 15 (by omega)) rfl (by omega) (by omega))
  · exact fin _ 0 (by rw [if_pos e]) (by omega)
  · exact fin _ 4096 (by rw [if_neg e]) (by omega)
theorem zx_mark26 {post : Int32 → SX → Prop} (hC : zx_C o g L a_ops a_args a_codeLength) (hV : ∀ x, x ∈ l → zc_V o L x) (hlen : l.length ≤ 1201)
    (hf : ∀ i, i < l.length → a_found i = lN (zp_X (zb_at l i)))
    (hp : ∀ (cell ie : Nat → Int32), (∀ e, e < 16384 → ie e = nI (ze_m o g L l l.length e)) → post (nI (zh_c (ze_m o g L l l.length) 16384)) (f_steps, nI l.length, a_ops, a_args, a_codeLength, a_trail, cell, a_found, a_cameFrom, a_cameBy, a_distance, a_slots, ie, a_walkState, a_walkLeft, a_walkAsleep)) :
    ∀ d i (cell ie : Nat → Int32), i + d = l.length → (∀ e, e < 16384 → ie e = nI (ze_m o g L l i e)) →
      wX_markEndings_26 post (d + 1) (nI (zh_c (ze_m o g L l i) 16384)) (nI i) f_steps (nI l.length) a_ops a_args a_codeLength a_trail cell a_found a_cameFrom a_cameBy a_distance a_slots ie a_walkState a_walkLeft a_walkAsleep := by
  intro d
  induction d with
  | zero =>
    intro i cell ie hi hm
    have e : i = l.length := by omega
    subst e
    exact pk_le l.length l.length (fun _ => hp cell ie hm) (fun h => by omega) rfl rfl (by omega) (by omega)
  | succ d ih =>
    intro i cell ie hi hm
    have hil : i < l.length := by omega
    have hVi := hV _ (zb_at_mem hil)
    have hB := zp_bX (zx_L5 hC) hVi
    have ef : a_found (nI i).toNatClampNeg = lN (zp_X (zb_at l i)) := by rw [nI_clamp (by omega)]; exact hf i hil
    refine pk_le l.length i (fun h => by omega) (fun h => And.intro (vp_in_nI (by omega) (by omega)) (zx_unpack' ef hB fun a1 ha1 => ?_)) rfl rfl (by omega) (by omega)
    refine zx_readyThreads hC hVi ha1 fun m hM => pk_eq m 0 (fun em => ?_) (fun em => nm_r (nI_1 i) ?_) rfl rfl (by have := hM.1; omega) (by omega)
    · have hend : zt_end o g L (zb_at l i) := (zx_M_0 hM).mp em
      have hv := ze_v_lt (L := L) hB
      refine zx_endingHere hC ha1 hB (And.intro (vp_in_nI (by omega) (by omega)) ?_)
      have ec : (nI (ze_v L (zb_at l i))).toNatClampNeg = ze_v L (zb_at l i) := nI_clamp (by omega)
      have m1 := ze_m_1 (o := o) (g := g) (L := L) (l := l) i (ze_v L (zb_at l i))
      have hie : ie (nI (ze_v L (zb_at l i))).toNatClampNeg = nI (ze_m o g L l i (ze_v L (zb_at l i))) := by rw [ec]; exact hm _ hv
      have cl := zh_c_le (ze_m o g L l i) 16384
      have up : ∀ e, e < 16384 → upd ie (nI (ze_v L (zb_at l i))).toNatClampNeg (vp_nar .boolean 1) e = nI (ze_m o g L l (i + 1) e) := by
        intro e he
        rw [ec, ze_b1, ze_m_y hend]
        unfold upd zc_up
        split
        · rfl
        · exact hm e he
      refine pk_eq (ze_m o g L l i (ze_v L (zb_at l i))) 0 (fun e0 => ?_) (fun e0 => ?_) hie rfl (by omega) (by omega)
      · refine nm_r (e' := nI (zh_c (ze_m o g L l (i + 1)) 16384)) ?_ (And.intro (vp_in_nI (by omega) (by omega)) (nm_e (nm_r (nI_1 i) (ih (i + 1) a1 _ (by omega) up))))
        rw [ze_m_y hend, zh_c_up e0 (by omega), if_pos hv]
        exact nI_1 _
      · refine nm_r (e' := nI (zh_c (ze_m o g L l (i + 1)) 16384)) ?_ (And.intro (vp_in_nI (by omega) (by omega)) (nm_e (nm_r (nI_1 i) (ih (i + 1) a1 _ (by omega) up))))
        have e1 : ze_m o g L l i (ze_v L (zb_at l i)) = 1 := by omega
        have e2 : zc_up (ze_m o g L l i) (ze_v L (zb_at l i)) 1 = ze_m o g L l i := by rw [← e1]; exact zp_self
        rw [ze_m_y hend, e2]
        exact nI_add _ 0
    · have hend : ¬ zt_end o g L (zb_at l i) := fun he => em ((zx_M_0 hM).mpr he)
      have := ih (i + 1) a1 ie (by omega) (by rw [ze_m_n hend]; exact hm)
      rw [ze_m_n hend] at this
      exact this
theorem zx_markEndings {post : Int32 → SX → Prop} (hC : zx_C o g L a_ops a_args a_codeLength) (hV : ∀ x, x ∈ l → zc_V o L x) (hlen : l.length ≤ 1201)
    (hf : ∀ i, i < l.length → a_found i = lN (zp_X (zb_at l i)))
    (hp : ∀ (cell ie : Nat → Int32), (∀ e, e < 16384 → ie e = nI (ze_m o g L l l.length e)) → post (nI (zh_c (ze_m o g L l l.length) 16384)) (f_steps, nI l.length, a_ops, a_args, a_codeLength, a_trail, cell, a_found, a_cameFrom, a_cameBy, a_distance, a_slots, ie, a_walkState, a_walkLeft, a_walkAsleep)) :
    wpX_markEndings post (f_steps, nI l.length, a_ops, a_args, a_codeLength, a_trail, a_cell, a_found, a_cameFrom, a_cameBy, a_distance, a_slots, a_isEnding, a_walkState, a_walkLeft, a_walkAsleep) := by
  have key : ∀ d i (ie : Nat → Int32), i + d = 16384 → (∀ e, e < i → ie e = nI 0) → wX_markEndings_2 post f_steps (nI l.length) (d + 1) (nI i) a_ops a_args a_codeLength a_trail a_cell a_found a_cameFrom a_cameBy a_distance a_slots ie a_walkState a_walkLeft a_walkAsleep := by
    intro d
    induction d with
    | zero =>
      intro i ie hi hz
      have e : i = 16384 := by omega
      subst e
      have := zx_mark26 hC hV hlen hf hp l.length 0 a_cell ie (by omega) hz
      have e0 : zh_c (ze_m o g L l 0) 16384 = 0 := zh_c_0 _ fun _ _ => rfl
      rw [e0] at this
      exact br_t (by decide) ⟨_, this⟩
    | succ d ih =>
      intro i ie hi hz
      refine br_f (nI_ge (b := 16384) (by omega) (by decide)) (And.intro (vp_in_nI (by omega) (by omega)) (nm_e (nm_r (nI_1 i) (ih (i + 1) _ (by omega) fun j hj => ?_))))
      rw [nI_clamp (by omega), ze_b0]
      unfold upd
      by_cases e : j = i
      · rw [if_pos e]; rfl
      · rw [if_neg e]; exact hz j (by omega)
  exact ⟨16385, key 16384 0 a_isEnding rfl fun j hj => by omega⟩
theorem zx_ending19 {post : Int32 → SX → Prop} {mk f : Nat → Nat} {n : Nat} {x : Int32} (hS : ze_S f n mk) (h01 : ∀ e, mk e ≤ 1) (hm : ∀ e, e < 16384 → a_isEnding e = nI (mk e)) (hn : n ≤ 1201)
    (h1 : ∀ q, q < n → x = nI q → post (nI (f q)) (f_steps, f_foundCount, a_ops, a_args, a_codeLength, a_trail, a_cell, a_found, a_cameFrom, a_cameBy, a_distance, a_slots, a_isEnding, a_walkState, a_walkLeft, a_walkAsleep)) (h0 : (∀ q, q < n → x ≠ nI q) → post (-1) (f_steps, f_foundCount, a_ops, a_args, a_codeLength, a_trail, a_cell, a_found, a_cameFrom, a_cameBy, a_distance, a_slots, a_isEnding, a_walkState, a_walkLeft, a_walkAsleep)) : ∃ n19, wX_ending_19 post x f_steps f_foundCount a_ops a_args a_codeLength a_trail a_cell a_found a_cameFrom a_cameBy a_distance a_slots a_isEnding a_walkState a_walkLeft a_walkAsleep n19 0 0 := by
  have key : ∀ d e, e + d = 16384 → (∀ q, q < n → x = nI q → e ≤ f q) → wX_ending_19 post x f_steps f_foundCount a_ops a_args a_codeLength a_trail a_cell a_found a_cameFrom a_cameBy a_distance a_slots a_isEnding a_walkState a_walkLeft a_walkAsleep (d + 1) (nI (zh_c mk e)) (nI e) := by
    intro d
    induction d with
    | zero =>
      intro e he hq
      have e16 : e = 16384 := by omega
      subst e16
      refine br_t (by decide) (h0 fun q hqn hx => ?_)
      have := hq q hqn hx
      have := (hS.2.1 q hqn).1
      omega
    | succ d ih =>
      intro e he hq
      have cl := zh_c_le mk e
      have m1 := h01 e
      have hme : a_isEnding (nI e).toNatClampNeg = nI (mk e) := by rw [nI_clamp (by omega)]; exact hm e (by omega)
      refine br_f (nI_ge (b := 16384) (by omega) (by decide)) (And.intro (vp_in_nI (by omega) (by omega)) (pk_eq (mk e) 0 (fun e0 => ?_) (fun e0 => ?_) hme rfl (by omega) (by omega)))
      · have ez : zh_c mk (e + 1) = zh_c mk e := by
          show zh_c mk e + (if mk e = 0 then 0 else 1) = _
          rw [if_pos e0]; omega
        have := ih (e + 1) (by omega) (fun q hqn hx => by
          have a := hq q hqn hx
          have b := (hS.2.1 q hqn).2
          rcases Nat.lt_or_ge e (f q) with c | c
          · exact c
          · have : f q = e := by omega
            rw [this] at b; exact absurd e0 b)
        rw [ez] at this
        exact nm_r (nI_1 e) this
      · obtain ⟨i, hi, hfi⟩ := hS.2.2 e (by omega) e0
        have hci : zh_c mk e = i := by rw [← hfi]; exact ze_nth hS hi
        refine br_c (fun hx => ?_) (fun hx => ?_)
        · rw [hci] at hx
          have := h1 i hi hx.symm
          rw [hfi] at this
          exact this
        · have ez : zh_c mk (e + 1) = zh_c mk e + 1 := by
            show zh_c mk e + (if mk e = 0 then 0 else 1) = _
            rw [if_neg e0]
          have := ih (e + 1) (by omega) (fun q hqn hxq => by
            have a := hq q hqn hxq
            rcases Nat.lt_or_ge e (f q) with c | c
            · exact c
            · exfalso
              have e1 : f q = e := by omega
              have : zh_c mk e = q := by rw [← e1]; exact ze_nth hS hqn
              rw [this] at hx
              exact hx hxq.symm)
          rw [ez] at this
          exact nm_r (nI_1 _) (nm_r (nI_1 e) this)
  exact ⟨_, key 16384 0 (by omega) fun q _ _ => Nat.zero_le _⟩
end
end
section
/-! the reference's gather; endings and ending, owed -/
/-- the sorted endings exist, and are one row -/
theorem ze_ins {f mk : Nat → Nat} {n v : Nat} (h : ze_S f n mk) (hv : v < 16384) : ∃ (n' : Nat) (f' : Nat → Nat), n' ≤ n + 1 ∧ ze_S f' n' (zc_up mk v 1) := by
  obtain ⟨p, hp, hmin⟩ := zh_least (fun p => n ≤ p ∨ v ≤ f p) ⟨n, Or.inl (Nat.le_refl _)⟩
  have hpn : p ≤ n := by
    refine Classical.byContradiction fun hh => ?_
    exact hmin n (by omega) (Or.inl (Nat.le_refl _))
  have h1 : ∀ j, j < p → f j < v := fun j hj => by
    have := hmin j hj
    omega
  by_cases e : p < n ∧ f p = v
  · exact ⟨n, f, by omega, ze_old h hv e.1 e.2⟩
  · refine ⟨n + 1, fun j => if j < p then f j else if j = p then v else f (j - 1), Nat.le_refl _, ze_new h hv hpn h1 (fun j hj hjn => ?_) (fun j hj => by rw [if_pos hj]) (by rw [if_neg (by omega), if_pos rfl])
      (fun j hj hjn => by rw [if_neg (by omega), if_neg (by omega), show j + 1 - 1 = j by omega])⟩
    by_cases ej : j = p
    · subst ej; omega
    · have := h.1 p j (by omega) hjn
      omega
theorem ze_ex {o g L : Nat → Nat} {l : List (Nat → Nat)} (hl : l.length ≤ 1200) (hv : ∀ i, i < l.length → ze_v L (zb_at l i) < 16384) :
    ∃ (m : Nat) (f : Nat → Nat), m ≤ 1200 ∧ ze_S f m (ze_m o g L l l.length) := by
  have key : ∀ i, i ≤ l.length → ∃ (m : Nat) (f : Nat → Nat), m ≤ i ∧ ze_S f m (ze_m o g L l i) := by
    intro i
    induction i with
    | zero => intro _; exact ⟨0, fun _ => 0, Nat.le_refl _, ze_0 fun e _ => rfl⟩
    | succ i ih =>
      intro hi
      obtain ⟨m, f, h1, h2⟩ := ih (by omega)
      by_cases he : zt_end o g L (zb_at l i)
      · obtain ⟨m', f', h3, h4⟩ := ze_ins h2 (hv i (by omega))
        exact ⟨m', f', by omega, by rw [ze_m_y he]; exact h4⟩
      · exact ⟨m, f, by omega, by rw [ze_m_n he]; exact h2⟩
  obtain ⟨m, f, h1, h2⟩ := key l.length (Nat.le_refl _)
  exact ⟨m, f, by omega, h2⟩
theorem ze_same {f f' mk : Nat → Nat} {n : Nat} (h : ze_S f n mk) (h' : ze_S f' n mk) {i : Nat} (hi : i < n) : f i = f' i := by
  obtain ⟨j, hj, e⟩ := h'.2.2 (f i) (h.2.1 i hi).1 (h.2.1 i hi).2
  have e1 := ze_nth h hi
  have e2 := ze_nth h' hj
  rw [e] at e2
  have : i = j := e1.symm.trans e2
  rw [this]
  rw [this] at e
  exact e.symm
section
variable {o g L : Nat → Nat} {l : List (Nat → Nat)} {f_steps f_count f_known f_different : Int32} {a_ops a_args a_length a_next a_table a_far a_found a_who a_what a_tried : Nat → Int32} {a_path a_list a_before : Nat → Int64}
theorem zy_ga127 {post : SY → Prop} {J7 : Int32 → Int32 → (Nat → Int32) → (Nat → Int32) → (Nat → Int32) → (Nat → Int64) → (Nat → Int64) → (Nat → Int32) → (Nat → Int32) → (Nat → Int32) → (Nat → Int32) → (Nat → Int32) → (Nat → Int32) → (Nat → Int64) → (Nat → Int32) → Prop}
    {f : Nat → Nat} {n p v i : Nat} (hn : n ≤ 1200) (hp : p ≤ n)
    (hJ : ∀ af : Nat → Int32, (∀ j, j < n + 1 → af j = nI (if j < p then f j else if j = p then v else f (j - 1))) → J7 (nI (i + 1)) (nI (n + 1)) a_ops a_args a_length a_path a_list a_next a_table a_far af a_who a_what a_before a_tried) :
    ∀ d (af : Nat → Int32), p + d ≤ n → (∀ j, j ≤ p + d → j < n → af j = nI (f j)) → (∀ j, p + d < j → j < n + 1 → af j = nI (f (j - 1))) →
      wY_gather_127 post J7 (nI i) (nI v) (nI p) f_steps f_count f_known (nI n) (d + 1) (nI (p + d)) a_ops a_args a_length a_path a_list a_next a_table a_far af a_who a_what a_before a_tried := by
  intro d
  induction d with
  | zero =>
    intro af hd h1 h2
    refine pk_le (p + 0) p (fun _ => And.intro (vp_in_nI (by omega) (by omega)) (nm_e (nm_r (nI_1 n) (nm_r (nI_1 i) (hJ _ fun j hj => ?_))))) (fun h => by omega) rfl rfl (by omega) (by omega)
    rw [nI_clamp (by omega)]
    unfold upd
    by_cases e1 : j < p
    · rw [if_neg (by omega), if_pos e1]; exact h1 j (by omega) (by omega)
    · rw [if_neg e1]
      by_cases e2 : j = p
      · rw [if_pos e2, if_pos e2]
      · rw [if_neg e2, if_neg e2]; exact h2 j (by omega) hj
  | succ d ih =>
    intro af hd h1 h2
    have es : nI (p + (d + 1)) - 1 = nI (p + d) := nI_pred (p + d)
    refine pk_le (p + (d + 1)) p (fun h => by omega) (fun _ => And.intro (pk_in (p + d) 1201 (by omega) es) (And.intro (vp_in_nI (by omega) (by omega)) (nm_e (nm_r (e' := nI (p + d)) (pk_m1 (p + d)) ?_)))) rfl rfl (by omega) (by omega)
    rw [es, nI_clamp (by omega), nI_clamp (by omega)]
    refine ih _ (by omega) (fun j hj hjn => ?_) (fun j hj hjn => ?_)
    · unfold upd; rw [if_neg (by omega)]; exact h1 j (by omega) hjn
    · unfold upd
      by_cases e : j = p + (d + 1)
      · rw [if_pos e, e, h1 (p + d) (by omega) (by omega)]
        have e3 : p + (d + 1) - 1 = p + d := by omega
        rw [e3]
      · rw [if_neg e]; exact h2 j (by omega) hjn
theorem zy_ga70 {post : SY → Prop} {J7 : Int32 → Int32 → (Nat → Int32) → (Nat → Int32) → (Nat → Int32) → (Nat → Int64) → (Nat → Int64) → (Nat → Int32) → (Nat → Int32) → (Nat → Int32) → (Nat → Int32) → (Nat → Int32) → (Nat → Int32) → (Nat → Int64) → (Nat → Int32) → Prop}
    {f mk : Nat → Nat} {n v i : Nat} (hn : n ≤ 1200) (hv : v < 16384) (hS : ze_S f n mk) (hA : ∀ j, j < n → a_found j = nI (f j))
    (hJ : ∀ (n' : Nat) (f' : Nat → Nat) (af : Nat → Int32), n' ≤ n + 1 → ze_S f' n' (zc_up mk v 1) → (∀ j, j < n' → af j = nI (f' j)) → J7 (nI (i + 1)) (nI n') a_ops a_args a_length a_path a_list a_next a_table a_far af a_who a_what a_before a_tried) :
    ∃ n70, wY_gather_70 post J7 (nI i) (nI v) f_steps f_count f_known (nI n) a_ops a_args a_length a_path a_list a_next a_table a_far a_found a_who a_what a_before a_tried n70 0 := by
  have ins : ∀ p, p ≤ n → (∀ j, j < p → f j < v) → (∀ j, p ≤ j → j < n → v < f j) → ∃ n127, wY_gather_127 post J7 (nI i) (nI v) (nI p) f_steps f_count f_known (nI n) n127 (nI n) a_ops a_args a_length a_path a_list a_next a_table a_far a_found a_who a_what a_before a_tried := by
    intro p hp h1 h2
    have := zy_ga127 (post := post) (J7 := J7) (f := f) (v := v) (i := i) (f_steps := f_steps) (f_count := f_count) (f_known := f_known) (a_ops := a_ops) (a_args := a_args) (a_length := a_length) (a_path := a_path) (a_list := a_list) (a_next := a_next) (a_table := a_table) (a_far := a_far) (a_who := a_who) (a_what := a_what) (a_before := a_before) (a_tried := a_tried) hn hp (fun af haf => hJ (n + 1) _ af (Nat.le_refl _) (ze_new hS hv hp h1 h2 (f' := fun j => if j < p then f j else if j = p then v else f (j - 1))
      (fun j hj => by rw [if_pos hj]) (by rw [if_neg (by omega), if_pos rfl])
      (fun j hj hjn => by rw [if_neg (by omega), if_neg (by omega), show j + 1 - 1 = j by omega])) haf) (n - p) a_found (by omega) (fun j _ hjn => hA j hjn) (fun j hj hjn => by omega)
    have e : p + (n - p) = n := by omega
    rw [e] at this
    exact ⟨_, this⟩
  have fin : ∀ p, p ≤ n → (∀ j, j < p → f j < v) → (p < n → v ≤ f p) → wY_gather_97 post J7 (nI i) (nI v) (nI p) f_steps f_count f_known (nI n) a_ops a_args a_length a_path a_list a_next a_table a_far a_found a_who a_what a_before a_tried := by
    intro p hp h1 h2
    refine pk_le n p (fun h => ins p hp h1 fun j hj hjn => by omega) (fun h => And.intro (vp_in_nI (by omega) (by omega)) ?_) rfl rfl (by omega) (by omega)
    have fp := (hS.2.1 p h).1
    refine pk_eq (f p) v (fun e => nm_r (nI_1 i) (hJ n f a_found (by omega) (ze_old hS hv h e) hA)) (fun e => ins p hp h1 fun j hj hjn => ?_) (by rw [nI_clamp (by omega)]; exact hA p h) rfl (by omega) (by omega)
    have := h2 h
    by_cases ej : j = p
    · rw [ej]; omega
    · have := hS.1 p j (by omega) hjn
      omega
  have key : ∀ d p, p + d = n → (∀ j, j < p → f j < v) → wY_gather_70 post J7 (nI i) (nI v) f_steps f_count f_known (nI n) a_ops a_args a_length a_path a_list a_next a_table a_far a_found a_who a_what a_before a_tried (d + 1) (nI p) := by
    intro d
    induction d with
    | zero =>
      intro p hp h1
      exact pk_le n p (fun _ => fin p (by omega) h1 fun h => by omega) (fun h => by omega) rfl rfl (by omega) (by omega)
    | succ d ih =>
      intro p hp h1
      have hpn : p < n := by omega
      have fp := (hS.2.1 p hpn).1
      refine pk_le n p (fun h => by omega) (fun _ => And.intro (vp_in_nI (by omega) (by omega)) ?_) rfl rfl (by omega) (by omega)
      refine pk_le v (f p) (fun h => fin p (by omega) h1 fun _ => h) (fun h => nm_r (nI_1 p) (ih (p + 1) (by omega) fun j hj => ?_)) rfl (by rw [nI_clamp (by omega)]; exact hA p hpn) (by omega) (by omega)
      by_cases e : j = p
      · rw [e]; exact h
      · exact h1 j (by omega)
  exact ⟨_, key n 0 (by omega) fun j hj => by omega⟩
theorem zy_gather {post : SY → Prop} (hC : zx_C o g L a_ops a_args a_length) (hV : ∀ x, x ∈ l → zc_V o L x) (hlen : l.length ≤ 1200)
    (hl : ∀ i, i < l.length → a_list i = lN (zp_Y (zb_at l i)))
    (hp : ∀ (n : Nat) (f : Nat → Nat) (af : Nat → Int32), n ≤ 1200 → ze_S f n (ze_m o g L l l.length) → (∀ j, j < n → af j = nI (f j)) → post (f_steps, nI l.length, f_known, nI n, a_ops, a_args, a_length, a_path, a_list, a_next, a_table, a_far, af, a_who, a_what, a_before, a_tried)) :
    wpY_gather post (f_steps, nI l.length, f_known, f_different, a_ops, a_args, a_length, a_path, a_list, a_next, a_table, a_far, a_found, a_who, a_what, a_before, a_tried) := by
  have key : ∀ d i (n : Nat) (f : Nat → Nat) (af : Nat → Int32), i + d = l.length → n ≤ i → ze_S f n (ze_m o g L l i) → (∀ j, j < n → af j = nI (f j)) →
      wY_gather_7 post f_steps (nI l.length) f_known (d + 1) (nI i) (nI n) a_ops a_args a_length a_path a_list a_next a_table a_far af a_who a_what a_before a_tried := by
    intro d
    induction d with
    | zero =>
      intro i n f af hi hn hS hA
      have e : i = l.length := by omega
      subst e
      exact pk_le l.length l.length (fun _ => hp n f af (by omega) hS hA) (fun h => by omega) rfl rfl (by omega) (by omega)
    | succ d ih =>
      intro i n f af hi hn hS hA
      have hil : i < l.length := by omega
      have hVi := hV _ (zb_at_mem hil)
      have hB := zp_bX (zx_L5 hC) hVi
      have hc := zp_bY (zx_L5 hC) hVi
      have hv := ze_v_lt (L := L) hB
      have ef : a_list (nI i).toNatClampNeg = lN (zp_Y (zb_at l i)) := by rw [nI_clamp (by omega)]; exact hl i hil
      refine pk_le l.length i (fun h => by omega) (fun _ => And.intro (vp_in_nI (by omega) (by omega)) (nm_r ef ?_)) rfl rfl (by omega) (by omega)
      refine zy_isEnd hC hVi (fun he => br_f (by decide) ?_) (fun he => br_t rfl (nm_r (nI_1 i) ?_))
      · have g0 : wpY_get (fun r_23 => (wpY_bad (fun r_24 => (wpY_isDone (fun r_25 => (((r_25 = 0 → (∀ x4_27 : Int32, x4_27 = (r_23 + (4096 * r_24)) + 8192 → (∃ n70 : Nat, wY_gather_70 post (wY_gather_7 post f_steps (nI l.length) f_known (d + 1)) (nI i) x4_27 f_steps (nI l.length) f_known (nI n) a_ops a_args a_length a_path a_list a_next a_table a_far af a_who a_what a_before a_tried n70 0))) ∧ (¬ r_25 = 0 → (∀ x4_45 : Int32, x4_45 = (r_23 + (4096 * r_24)) + 0 → (∃ n70 : Nat, wY_gather_70 post (wY_gather_7 post f_steps (nI l.length) f_known (d + 1)) (nI i) x4_45 f_steps (nI l.length) f_known (nI n) a_ops a_args a_length a_path a_list a_next a_table a_far af a_who a_what a_before a_tried n70 0)))))) (lN (zp_Y (zb_at l i))))) (lN (zp_Y (zb_at l i))))) (lN (zp_Y (zb_at l i))) 0 4095 := by
          show (fun r_23 => (wpY_bad (fun r_24 => (wpY_isDone (fun r_25 => (((r_25 = 0 → (∀ x4_27 : Int32, x4_27 = (r_23 + (4096 * r_24)) + 8192 → (∃ n70 : Nat, wY_gather_70 post (wY_gather_7 post f_steps (nI l.length) f_known (d + 1)) (nI i) x4_27 f_steps (nI l.length) f_known (nI n) a_ops a_args a_length a_path a_list a_next a_table a_far af a_who a_what a_before a_tried n70 0))) ∧ (¬ r_25 = 0 → (∀ x4_45 : Int32, x4_45 = (r_23 + (4096 * r_24)) + 0 → (∃ n70 : Nat, wY_gather_70 post (wY_gather_7 post f_steps (nI l.length) f_known (d + 1)) (nI i) x4_45 f_steps (nI l.length) f_known (nI n) a_ops a_args a_length a_path a_list a_next a_table a_far af a_who a_what a_before a_tried n70 0)))))) (lN (zp_Y (zb_at l i))))) (lN (zp_Y (zb_at l i))))) ((lN (zp_Y (zb_at l i)) >>> ((nI 0).toInt64 &&& 63)).toInt32 &&& nI 4095)
          rw [zp_getV hc]
          have b15 : zb_at l i 15 < 2 := hVi.2.2.2.2.1
          have er : ∀ z, nI (zb_at l i 0 + 8 * zb_at l i 1 + 64 * zb_at l i 2 + 512 * zb_at l i 3) + 4096 * nI (zb_at l i 15) + nI z =
              nI (zb_at l i 0 + 8 * zb_at l i 1 + 64 * zb_at l i 2 + 512 * zb_at l i 3 + (if zb_at l i 15 = 0 then 0 else 4096) + z) := by
            intro z
            have e1 : 4096 * nI (zb_at l i 15) = nI (4096 * zb_at l i 15) := pk_mul 4096 _
            rw [e1, nI_add, nI_add]
            refine congrArg nI ?_
            split <;> omega
          refine zy_bad hc (zy_isDone hC hVi (fun hd => br_f (by decide) (nm_r (e' := nI (ze_v L (zb_at l i))) ?_ ?_)) (fun hd => br_t rfl (nm_r (e' := nI (ze_v L (zb_at l i))) ?_ ?_)))
          · refine (er 0).trans (congrArg nI ?_)
            unfold ze_v; rw [if_pos (c := zs_done L (zb_at l i)) hd]
          · refine zy_ga70 (mk := ze_m o g L l i) (by omega) hv hS hA fun n' f' af' hn' hS' hA' => ih (i + 1) n' f' af' (by omega) (by omega) (by rw [ze_m_y he]; exact hS') hA'
          · refine (er 8192).trans (congrArg nI ?_)
            unfold ze_v; rw [if_neg (c := zs_done L (zb_at l i)) hd]
          · refine zy_ga70 (mk := ze_m o g L l i) (by omega) hv hS hA fun n' f' af' hn' hS' hA' => ih (i + 1) n' f' af' (by omega) (by omega) (by rw [ze_m_y he]; exact hS') hA'
        exact g0
      · exact ih (i + 1) n f af (by omega) (by omega) (by rw [ze_m_n he]; exact hS) hA
  exact ⟨_, key l.length 0 0 (fun _ => 0) a_found (by omega) (Nat.le_refl _) (ze_0 fun e _ => rfl) fun j hj => by omega⟩
end
theorem i_vc_endings {k : Nat} {u : SX} {v : SY} (I : i_Rel k u v) (hk : k + 5 ≤ 2560) : wpX_endings (fun r u' => wpY_endings (fun r' v' => r' = r ∧ i_Rel (k + 5) u' v') v) u := by
  obtain ⟨f_steps, f_foundCount, a_ops, a_args, a_codeLength, a_trail, a_cell, a_found, a_cameFrom, a_cameBy, a_distance, a_slots, a_isEnding, a_walkState, a_walkLeft, a_walkAsleep⟩ := u
  obtain ⟨f_steps1, f_count1, f_known1, f_different1, a_ops1, a_args1, a_length1, a_path1, a_list1, a_next1, a_table1, a_far1, a_found1, a_who1, a_what1, a_before1, a_tried1⟩ := v
  obtain ⟨o, g, L, n, h, hX, hY, e1, e2, hn, hh, hkn⟩ := I
  subst e1 e2
  obtain ⟨hx, hy, hV, hps⟩ := hh n (Nat.le_refl _)
  have rel : ∀ (count : Int32) (list : Nat → Int64) (next : Nat → Int32), zy_S o g L (h n) count list next → zr_P (nI n) a_ops a_args a_codeLength a_trail (nI n) count 1 a_ops1 a_args1 a_length1 a_path1 list next :=
    fun count list next hS => ⟨o, g, L, n, h, hX, hY, rfl, rfl, hn, hh, Or.inr ⟨rfl, hS⟩⟩
  have hFl := zr_Fl o g L (h n)
  have hFV : ∀ x, x ∈ zb_F o g L (h n) → zc_V o L x := zb_V hX.1 hV 3600
  unfold wpX_endings
  refine zx_explore hX hV hn hx (fun hm cell found cf cb ds sl => br_t rfl ?_) (fun hm cell found cf cb ds sl K => br_f (by decide) ?_)
  · show wpY_endings _ _
    unfold wpY_endings
    exact zy_know hY hV hn hy hkn (fun _ count list next table hS => br_t rfl ⟨rfl, rel _ _ _ hS⟩) (fun h _ _ _ _ _ => by omega)
  · refine zx_markEndings hX hFV hFl K.1 fun cell' ie hie => ?_
    show wpY_endings _ _
    unfold wpY_endings
    refine zy_know hY hV hn hy hkn (fun h _ _ _ _ _ => by omega) (fun _ count list next table hS => br_f (by decide) ?_)
    have hr := rel _ _ _ hS
    obtain ⟨s1, s2, s3⟩ := hS
    subst s1
    refine zy_gather hY hFV hm s2 fun m f af hm2 hS2 hA => ⟨?_, hr⟩
    rw [ze_all hS2]
theorem i_vc_ending {k : Nat} {u : SX} {v : SY} (I : i_Rel k u v) (hk : k + 5 ≤ 2560) (v1 : Int32) : wpX_ending (fun r u' => wpY_ending (fun r' v' => r' = r ∧ i_Rel (k + 5) u' v') v v1) u v1 := by
  obtain ⟨f_steps, f_foundCount, a_ops, a_args, a_codeLength, a_trail, a_cell, a_found, a_cameFrom, a_cameBy, a_distance, a_slots, a_isEnding, a_walkState, a_walkLeft, a_walkAsleep⟩ := u
  obtain ⟨f_steps1, f_count1, f_known1, f_different1, a_ops1, a_args1, a_length1, a_path1, a_list1, a_next1, a_table1, a_far1, a_found1, a_who1, a_what1, a_before1, a_tried1⟩ := v
  obtain ⟨o, g, L, n, h, hX, hY, e1, e2, hn, hh, hkn⟩ := I
  subst e1 e2
  obtain ⟨hx, hy, hV, hps⟩ := hh n (Nat.le_refl _)
  have rel : ∀ (count : Int32) (list : Nat → Int64) (next : Nat → Int32), zy_S o g L (h n) count list next → zr_P (nI n) a_ops a_args a_codeLength a_trail (nI n) count 1 a_ops1 a_args1 a_length1 a_path1 list next :=
    fun count list next hS => ⟨o, g, L, n, h, hX, hY, rfl, rfl, hn, hh, Or.inr ⟨rfl, hS⟩⟩
  have hFl := zr_Fl o g L (h n)
  have hFV : ∀ x, x ∈ zb_F o g L (h n) → zc_V o L x := zb_V hX.1 hV 3600
  unfold wpX_ending
  refine zx_explore hX hV hn hx (fun hm cell found cf cb ds sl => br_t rfl ?_) (fun hm cell found cf cb ds sl K => br_f (by decide) ?_)
  · show wpY_ending _ _ _
    unfold wpY_ending
    exact zy_know hY hV hn hy hkn (fun _ count list next table hS => br_t rfl ⟨rfl, rel _ _ _ hS⟩) (fun h _ _ _ _ _ => by omega)
  · refine zx_markEndings hX hFV hFl K.1 fun cell' ie hie => ?_
    -- the sorted endings are what the reference gathers: take them first
    have yl : ∀ (P : Int32 → SY → Prop), (∀ (count : Int32) (list : Nat → Int64) (next table af : Nat → Int32) (m : Nat) (f : Nat → Nat), zy_S o g L (h n) count list next → m ≤ 1200 →
        ze_S f m (ze_m o g L (zb_F o g L (h n)) (zb_F o g L (h n)).length) →
        ((∀ q, q < m → v1 = nI q → P (nI (f q)) (nI n, count, 1, nI m, a_ops1, a_args1, a_length1, a_path1, list, next, table, a_far1, af, a_who1, a_what1, a_before1, a_tried1)) ∧
         ((∀ q, q < m → v1 ≠ nI q) → P (-1) (nI n, count, 1, nI m, a_ops1, a_args1, a_length1, a_path1, list, next, table, a_far1, af, a_who1, a_what1, a_before1, a_tried1)))) →
        wpY_ending P (nI n, f_count1, f_known1, f_different1, a_ops1, a_args1, a_length1, a_path1, a_list1, a_next1, a_table1, a_far1, a_found1, a_who1, a_what1, a_before1, a_tried1) v1 := by
      intro P hP
      unfold wpY_ending
      refine zy_know hY hV hn hy hkn (fun h _ _ _ _ _ => by omega) (fun _ count list next table hS => br_f (by decide) ?_)
      have hS' := hS
      obtain ⟨s1, s2, s3⟩ := hS
      subst s1
      refine zy_gather hY hFV hm s2 fun m f af hm2 hS2 hA => ?_
      have hh2 := hP _ list next table af m f hS' hm2 hS2
      refine br_c (fun hneg => hh2.2 fun q hq e => ?_) (fun h0 => ?_)
      · rw [e] at hneg; exact nI_pos (by omega) hneg
      obtain ⟨q, hq, rfl⟩ := nI_of h0
      refine pk_le m q (fun hge => hh2.2 fun q' hq' e => ?_) (fun hlt => And.intro (vp_in_nI (by omega) (by omega)) ?_) rfl rfl (by omega) (by omega)
      · have := zr_nI e hq (by omega)
        omega
      · rw [nI_clamp (by omega), hA q hlt]
        exact hh2.1 q hlt rfl
    obtain ⟨m, f, hS⟩ : ∃ (m : Nat) (f : Nat → Nat), m ≤ 1200 ∧ ze_S f m (ze_m o g L (zb_F o g L (h n)) (zb_F o g L (h n)).length) := ze_ex hm (fun i hi => ze_v_lt (zp_bX (zx_L5 hX) (hFV _ (zb_at_mem hi))))
    obtain ⟨hm2, hS⟩ := hS
    refine zx_ending19 hS (fun e => ze_m_1 _ e) hie (by omega) (fun q hq e => ?_) (fun hno => ?_)
    · refine yl _ fun count list next table af m' f' hSy hm' hS' => ?_
      have em : m' = m := (ze_all hS').symm.trans (ze_all hS)
      subst em
      refine ⟨fun q' hq' e' => ⟨?_, rel _ _ _ hSy⟩, fun hno => absurd e (hno q hq)⟩
      have eq : q' = q := zr_nI (e'.symm.trans e) (by omega) (by omega)
      subst eq
      exact congrArg nI (ze_same hS' hS hq)
    · refine yl _ fun count list next table af m' f' hSy hm' hS' => ?_
      have em : m' = m := (ze_all hS').symm.trans (ze_all hS)
      subst em
      exact ⟨fun q' hq' e' => absurd e' (hno q' hq'), fun _ => ⟨rfl, rel _ _ _ hSy⟩⟩
end
section
/-! the component's walk: one level, descend, enter -/
theorem zk_nb : ∀ m, m < 8 → ∀ a, a < 8 → nI m &&& (nI a ^^^ (-1)) = nI (m &&& (a ^^^ 7)) := by decide +kernel
theorem zk_nb8 : ∀ m, m < 8 → ∀ a, a < 8 → m &&& (a ^^^ 7) < 8 := by decide
theorem zk_nbt : ∀ m, m < 8 → ∀ a, a < 8 → ∀ u, u < 3 → (m &&& (a ^^^ 7)).testBit u = (m.testBit u && !a.testBit u) := by decide
theorem zk_1t : ∀ t, t < 3 → (1 : Int32) <<< (nI t &&& 31) = nI (2 ^ t) := by decide +kernel
theorem zk_p8 : ∀ t, t < 3 → 2 ^ t < 8 := by decide
theorem zk_M_diff {m a : Nat} {P Q : Nat → Prop} (hm : zx_M m P) (ha : zx_M a Q) : zx_M (m &&& (a ^^^ 7)) (fun u => P u ∧ ¬ Q u) := by
  refine ⟨zk_nb8 m hm.1 a ha.1, fun u hu => ?_⟩
  rw [zk_nbt m hm.1 a ha.1 u hu, Bool.and_eq_true, Bool.not_eq_true', hm.2 u hu]
  have := ha.2 u hu
  cases e : a.testBit u
  · rw [e] at this
    constructor
    · rintro ⟨h1, _⟩; exact ⟨h1, fun h2 => absurd (this.mpr h2) (by decide)⟩
    · rintro ⟨h1, _⟩; exact ⟨h1, rfl⟩
  · rw [e] at this
    constructor
    · rintro ⟨_, h2⟩; exact absurd h2 (by decide)
    · rintro ⟨_, h2⟩; exact absurd (this.mp rfl) h2
theorem zk_M_c {m : Nat} {P Q : Nat → Prop} (h : zx_M m P) (e : ∀ u, u < 3 → (P u ↔ Q u)) : zx_M m Q := ⟨h.1, fun u hu => (h.2 u hu).trans (e u hu)⟩
theorem zk_M_bit (t : Nat) (ht : t < 3) : zx_M (2 ^ t) (fun u => u = t) := by
  refine ⟨zk_p8 t ht, fun u hu => ?_⟩
  rw [Nat.testBit_two_pow, decide_eq_true_iff]
  exact eq_comm
theorem zk_M_or {m a : Nat} {P Q : Nat → Prop} (hm : zx_M m P) (ha : zx_M a Q) (h8 : m ||| a < 8) : zx_M (m ||| a) (fun u => P u ∨ Q u) := by
  refine ⟨h8, fun u hu => ?_⟩
  rw [Nat.testBit_or, Bool.or_eq_true, hm.2 u hu, ha.2 u hu]
/-- one level of the walk: the state, the threads to be tried from t on, the asleep -/
def zk_lx (o g L c : Nat → Nat) (p : List Nat) (t : Nat) (s : Int64) (lf as : Int32) : Prop :=
  s = lN (zp_X (zt_run o g L c p)) ∧ (∃ m, lf = nI m ∧ zx_M m (fun u => t ≤ u ∧ zk_via o g L c p u)) ∧
  ∃ m, as = nI m ∧ zx_M m (fun u => zc_R o g L (zt_run o g L c p) u ∧ (u < t ∨ zt_bel o g (zk_acc o g L c p) u (zc_pc (zt_run o g L c p) u)))
theorem zk_acc_s {o g L c : Nat → Nat} {w : List Nat} {t : Nat} : zk_acc o g L c (w ++ [t]) = (t, zc_pc (zt_run o g L c w) t) :: zk_acc o g L c w := by
  unfold zk_acc
  rw [zt_lab_app]
  simp [zt_lab]
theorem zk_run_s {o g L c : Nat → Nat} {w : List Nat} {t : Nat} : zt_run o g L c (w ++ [t]) = zc_step o g L (zt_run o g L c w) t := by
  rw [zt_run_app]; rfl
/-- the asleep after a step: those that were, or were tried before, and are not touched -/
theorem zk_asl {o g L c : Nat → Nat} {w : List Nat} {t tr : Nat} (hK : zc_K o g L) (hV : zc_V o L (zt_run o g L c w)) (ht : t < 3) (htr : tr ≤ t)
    (hno : ∀ u, tr ≤ u → u < t → ¬ zk_via o g L c w u) (hv : zk_via o g L c w t) {u : Nat} (hu : u < 3) :
    ((zc_R o g L (zt_run o g L c w) u ∧ (u < tr ∨ zt_bel o g (zk_acc o g L c w) u (zc_pc (zt_run o g L c w) u))) ∧ ¬ zc_T o g (zc_pc (zt_run o g L c w) t) (zc_pc (zt_run o g L c w) u)) ↔
    (zc_R o g L (zt_run o g L c (w ++ [t])) u ∧ (u < 0 ∨ zt_bel o g (zk_acc o g L c (w ++ [t])) u (zc_pc (zt_run o g L c (w ++ [t])) u))) := by
  rw [zk_acc_s, zk_run_s]
  constructor
  · rintro ⟨⟨hR, h⟩, hT⟩
    have hne : u ≠ t := by
      intro e
      subst e
      rcases h with h | h
      · omega
      · exact hv.2 h
    refine ⟨(zc_Riff hK hV hu hne hT).mpr hR, Or.inr ?_⟩
    rw [zc_pc_o hu hne]
    refine ⟨⟨Ne.symm hne, hT⟩, ?_⟩
    by_cases hlt : u < t
    · exact Or.inl hlt
    · rcases h with h | h
      · omega
      · exact Or.inr h
  · rintro ⟨hR, h⟩
    rcases h with h | h
    · omega
    · have hne : u ≠ t := fun e => h.1.1 e.symm
      rw [zc_pc_o hu hne] at h
      have hT := h.1.2
      have hR' := (zc_Riff hK hV hu hne hT).mp hR
      refine ⟨⟨hR', ?_⟩, hT⟩
      rcases h.2 with h2 | h2
      · by_cases h3 : u < tr
        · exact Or.inl h3
        · right
          exact Classical.byContradiction fun hb => hno u (by omega) h2 ⟨hR', hb⟩
      · exact Or.inr h2
section
variable {o g L c : Nat → Nat} {f_steps f_foundCount : Int32} {a_ops a_args a_codeLength a_cell a_cameFrom a_cameBy a_distance a_slots a_isEnding a_walkLeft a_walkAsleep : Nat → Int32} {a_trail a_found a_walkState : Nat → Int64}
theorem zx_lowestOf {post : Int32 → Prop} {m : Nat} (hm : m < 8) (h0 : m ≠ 0) (hp : ∀ t, t < 3 → m.testBit t = true → (∀ s, s < t → m.testBit s = false) → post (nI t)) : wpX_lowestOf post (nI m) := by
  refine ⟨3, ?_⟩
  refine br_f (by decide) (br_c (fun e0 => nm_r (nI_1 0) ?_) (fun e0 => hp 0 (by omega) ?_ (fun s hs => by omega)))
  · have b0 := (zx_bit 0 (by omega) m hm).mp e0
    refine br_f (by decide) (br_c (fun e1 => nm_r (nI_1 1) ?_) (fun e1 => hp 1 (by omega) ?_ (fun s hs => ?_)))
    · have b1 := (zx_bit 1 (by omega) m hm).mp e1
      refine br_t (by decide) (hp 2 (by omega) ?_ fun s hs => ?_)
      · have : ∀ m, m < 8 → m ≠ 0 → m.testBit 0 = false → m.testBit 1 = false → m.testBit 2 = true := by decide
        exact this m hm h0 b0 b1
      · have : s = 0 ∨ s = 1 := by omega
        rcases this with e | e <;> subst e <;> assumption
    · cases e : m.testBit 1
      · exact absurd ((zx_bit 1 (by omega) m hm).mpr e) e1
      · rfl
    · have : s = 0 := by omega
      subst this; exact b0
  · cases e : m.testBit 0
    · exact absurd ((zx_bit 0 (by omega) m hm).mpr e) e0
    · rfl
/-- taking a state into the walk -/
theorem zx_enter {post : Int32 → SX → Prop} {w : List Nat} {a d : Nat} (hC : zx_C o g L a_ops a_args a_codeLength) (hV : zc_V o L (zt_run o g L c w)) (hE : zx_E (zt_run o g L c w) a_cell) (hd : d ≤ 30)
    (ha : zx_M a (fun u => zc_R o g L (zt_run o g L c w) u ∧ (u < 0 ∨ zt_bel o g (zk_acc o g L c w) u (zc_pc (zt_run o g L c w) u))))
    (hp : ∀ (s : Int64) (lf : Int32), zk_lx o g L c w 0 s lf (nI a) →
      (zt_end o g L (zt_run o g L c w) → post 1 (f_steps, f_foundCount, a_ops, a_args, a_codeLength, a_trail, a_cell, a_found, a_cameFrom, a_cameBy, a_distance, a_slots, a_isEnding, vp_updL a_walkState d s, upd a_walkLeft d lf, upd a_walkAsleep d (nI a))) ∧
      (¬ zt_end o g L (zt_run o g L c w) → post 0 (f_steps, f_foundCount, a_ops, a_args, a_codeLength, a_trail, a_cell, a_found, a_cameFrom, a_cameBy, a_distance, a_slots, a_isEnding, vp_updL a_walkState d s, upd a_walkLeft d lf, upd a_walkAsleep d (nI a)))) :
    wpX_enter post (f_steps, f_foundCount, a_ops, a_args, a_codeLength, a_trail, a_cell, a_found, a_cameFrom, a_cameBy, a_distance, a_slots, a_isEnding, a_walkState, a_walkLeft, a_walkAsleep) (nI d) (nI a) := by
  have ec : (nI d).toNatClampNeg = d := nI_clamp (by omega)
  have id : vp_in (nI d) 31 := vp_in_nI (by omega) (by omega)
  unfold wpX_enter
  refine zx_readyThreads hC hV hE fun m hm => zx_packed hE (zp_bX (zx_L5 hC) hV) ?_
  refine And.intro id (nm_e (And.intro id (nm_e (And.intro id (nm_e ?_)))))
  rw [ec, zk_nb m hm.1 a ha.1]
  have hh := hp (lN (zp_X (zt_run o g L c w))) (nI (m &&& (a ^^^ 7))) ⟨rfl, ⟨_, rfl, zk_M_c (zk_M_diff hm ha) fun u hu => ?_⟩, a, rfl, ha⟩
  · exact pk_eq m 0 (fun e => hh.1 ((zx_M_0 hm).mp e)) (fun e => hh.2 fun he => e ((zx_M_0 hm).mpr he)) rfl rfl (by have := hm.1; omega) (by omega)
  · unfold zk_via
    constructor
    · rintro ⟨h1, h2⟩; exact ⟨Nat.zero_le _, h1, fun hb => h2 ⟨h1, Or.inr hb⟩⟩
    · rintro ⟨_, h1, h2⟩
      refine ⟨h1, fun h => ?_⟩
      rcases h.2 with h | h
      · omega
      · exact h2 h
/-- going on with the lowest thread left -/
theorem zx_descend {post : Int32 → SX → Prop} {w : List Nat} {tr d : Nat} (hC : zx_C o g L a_ops a_args a_codeLength) (hV : zc_V o L (zt_run o g L c w)) (hd : d < 30)
    (hl : zk_lx o g L c w tr (a_walkState d) (a_walkLeft d) (a_walkAsleep d)) (hne : ∃ u, u < 3 ∧ tr ≤ u ∧ zk_via o g L c w u)
    (hp : ∀ t, t < 3 → tr ≤ t → zk_via o g L c w t → (∀ u, tr ≤ u → u < t → ¬ zk_via o g L c w u) →
      ∀ (cell : Nat → Int32) (lf as : Int32) (s' : Int64) (lf' as' : Int32), zk_lx o g L c w (t + 1) (a_walkState d) lf as → zk_lx o g L c (w ++ [t]) 0 s' lf' as' →
      (zt_end o g L (zt_run o g L c (w ++ [t])) → post 1 (f_steps, f_foundCount, a_ops, a_args, a_codeLength, a_trail, cell, a_found, a_cameFrom, a_cameBy, a_distance, a_slots, a_isEnding, vp_updL a_walkState (d + 1) s', upd (upd a_walkLeft d lf) (d + 1) lf', upd (upd a_walkAsleep d as) (d + 1) as')) ∧
      (¬ zt_end o g L (zt_run o g L c (w ++ [t])) → post 0 (f_steps, f_foundCount, a_ops, a_args, a_codeLength, a_trail, cell, a_found, a_cameFrom, a_cameBy, a_distance, a_slots, a_isEnding, vp_updL a_walkState (d + 1) s', upd (upd a_walkLeft d lf) (d + 1) lf', upd (upd a_walkAsleep d as) (d + 1) as'))) :
    wpX_descend post (f_steps, f_foundCount, a_ops, a_args, a_codeLength, a_trail, a_cell, a_found, a_cameFrom, a_cameBy, a_distance, a_slots, a_isEnding, a_walkState, a_walkLeft, a_walkAsleep) (nI d) := by
  obtain ⟨l1, ⟨m, l2, hm⟩, am, l3, ham⟩ := hl
  have ec : (nI d).toNatClampNeg = d := nI_clamp (by omega)
  have id : vp_in (nI d) 31 := vp_in_nI (by omega) (by omega)
  have hB := zp_bX (zx_L5 hC) hV
  have hm0 : m ≠ 0 := by
    intro e
    obtain ⟨u, hu, h1, h2⟩ := hne
    exact (zx_M_0 hm).mp e u hu ⟨h1, h2⟩
  refine And.intro id (zx_unpack' (c := zt_run o g L c w) (by rw [ec]; exact l1) hB fun a1 ha1 => And.intro id ?_)
  rw [ec, l2]
  refine zx_lowestOf hm.1 hm0 fun t ht hbt hlow => ?_
  have hvt := (hm.2 t ht).mp hbt
  have hno : ∀ u, tr ≤ u → u < t → ¬ zk_via o g L c w u := by
    intro u h1 h2 h3
    have := (hm.2 u (by omega)).mpr ⟨h1, h3⟩
    rw [hlow u h2] at this
    exact absurd this (by decide)
  have hpp := hp t ht hvt.1 hvt.2 hno
  have hR := hvt.2.1
  have hVs := zc_V_step hC.1 hV ht hR
  have asl : a_walkAsleep (nI d).toNatClampNeg = nI am := by rw [ec]; exact l3
  have lft : a_walkLeft (nI d).toNatClampNeg = nI m := by rw [ec]; exact l2
  have key : ∀ e u x, u + e = 3 → x < 8 → (∀ s, s < 3 → (x.testBit s = true ↔ s < u ∧ ((zc_R o g L (zt_run o g L c w) s ∧ (s < tr ∨ zt_bel o g (zk_acc o g L c w) s (zc_pc (zt_run o g L c w) s))) ∧ ¬ zc_T o g (zc_pc (zt_run o g L c w) t) (zc_pc (zt_run o g L c w) s)))) →
      wX_descend_25 post (nI d) (nI t) f_steps f_foundCount a_ops a_args a_codeLength a_trail a1 a_found a_cameFrom a_cameBy a_distance a_slots a_isEnding a_walkState a_walkLeft a_walkAsleep (e + 1) (nI x) (nI u) := by
    intro e
    induction e with
    | zero =>
      intro u x hu hx hb
      have eu : u = 3 := by omega
      subst eu
      have hMx : zx_M x (fun u => zc_R o g L (zt_run o g L c (w ++ [t])) u ∧ (u < 0 ∨ zt_bel o g (zk_acc o g L c (w ++ [t])) u (zc_pc (zt_run o g L c (w ++ [t])) u))) := by
        refine ⟨hx, fun s hs => ?_⟩
        rw [hb s hs]
        have ha := zk_asl hC.1 hV ht hvt.1 hno hvt.2 hs
        exact ⟨fun h => ha.mp h.2, fun h => ⟨hs, ha.mpr h⟩⟩
      refine br_t (by decide) (And.intro id (And.intro id (nm_e (And.intro id (And.intro id (nm_e ?_))))))
      rw [ec, l2, l3, zk_1t t ht, zk_nb m hm.1 (2 ^ t) (zk_p8 t ht)]
      have e1 : nI am ||| nI (2 ^ t) = nI (am ||| 2 ^ t) := by
        have := zx_or t ht am ham.1
        rwa [zk_1t t ht] at this
      rw [e1]
      refine zx_advance hC hV ht ha1 hR fun a2 ha2 => ?_
      rw [nI_1]
      rw [← zk_run_s] at ha2 hVs
      refine zx_enter (w := w ++ [t]) hC hVs ha2 (by omega) hMx fun s' lf' hlx => ?_
      have hh := hpp a2 (nI (m &&& (2 ^ t ^^^ 7))) (nI (am ||| 2 ^ t)) s' lf' (nI x) ⟨l1, ⟨_, rfl, zk_M_c (zk_M_diff hm (zk_M_bit t ht)) fun u hu => ?_⟩, _, rfl, zk_M_c (zk_M_or ham (zk_M_bit t ht) (zx_or8 t ht am ham.1)) fun u hu => ?_⟩ hlx
      · exact ⟨fun h => And.intro zy_nb1 (hh.1 h), fun h => And.intro zy_nb0 (hh.2 h)⟩
      · constructor
        · rintro ⟨⟨h1, h2⟩, h3⟩
          refine ⟨?_, h2⟩
          rcases Nat.lt_trichotomy u t with h4 | h4 | h4
          · exact absurd h2 (hno u h1 h4)
          · exact absurd h4 h3
          · exact h4
        · rintro ⟨h1, h2⟩
          exact ⟨⟨by have := hvt.1; omega, h2⟩, by omega⟩
      · constructor
        · rintro (⟨h1, h2⟩ | h)
          · refine ⟨h1, h2.imp (fun h3 => ?_) fun h3 => h3⟩
            have := hvt.1
            omega
          · subst h; exact ⟨hR, Or.inl (by omega)⟩
        · rintro ⟨h1, h2⟩
          by_cases h3 : u = t
          · exact Or.inr h3
          · refine Or.inl ⟨h1, ?_⟩
            rcases h2 with h2 | h2
            · by_cases h4 : u < tr
              · exact Or.inl h4
              · right
                exact Classical.byContradiction fun hbb => hno u (by omega) (by omega) ⟨h1, hbb⟩
            · exact Or.inr h2
    | succ e ih =>
      intro u x hu hx hb
      have hu3 : u < 3 := by omega
      refine br_f (nI_ge (b := 3) (by omega) (by decide)) (And.intro id ?_)
      rw [asl]
      refine br_c (fun e0 => nm_r (nI_1 u) ?_) (fun e0 => ?_)
      · have hbu := (zx_bit u hu3 am ham.1).mp e0
        refine ih (u + 1) x (by omega) hx (zx_M_no hb fun h => ?_)
        have := (ham.2 u hu3).mpr h.1
        rw [hbu] at this
        exact absurd this (by decide)
      · have hbu : am.testBit u = true := by
          cases e1 : am.testBit u
          · exact absurd ((zx_bit u hu3 am ham.1).mpr e1) e0
          · rfl
        have hau := (ham.2 u hu3).mp hbu
        refine zx_doTouch hC ha1 ht hu3 hR.1 hau.1.1 (fun hT => br_f (by decide) (nm_r (nI_1 u) ?_)) (fun hT => br_t rfl ?_)
        · exact ih (u + 1) x (by omega) hx (zx_M_no hb fun h => h.2 hT)
        · have hx2 := zx_M_or hx hb hu3 ⟨hau, hT⟩
          exact nm_r (zx_or u hu3 x hx) (nm_r (nI_1 u) (ih (u + 1) _ (by omega) hx2.1 hx2.2))
  exact ⟨4, key 3 0 0 rfl (by omega) (fun s hs => by simp)⟩
end
end
section
/-! the walk of the reference: what belongs earlier, one turn -/
section
variable (o g L c : Nat → Nat)
def zk_XS (w : List Nat) (tr : Nat) (ws : Nat → Int64) (wl wa : Nat → Int32) : Prop :=
  (∀ p t q, w = p ++ t :: q → zk_lx o g L c p (t + 1) (ws p.length) (wl p.length) (wa p.length)) ∧ zk_lx o g L c w tr (ws w.length) (wl w.length) (wa w.length)
def zk_YS (w : List Nat) (tr : Nat) (who what trd : Nat → Int32) (bf : Nat → Int64) : Prop :=
  (∀ p t q, w = p ++ t :: q → bf p.length = lN (zp_Y (zt_run o g L c p)) ∧ trd p.length = nI (t + 1) ∧ who p.length = nI t ∧ what p.length = nI (zc_pc (zt_run o g L c p) t)) ∧
  bf w.length = lN (zp_Y (zt_run o g L c w)) ∧ trd w.length = nI tr
end
section
variable {o g L c : Nat → Nat} {w : List Nat} {tr t : Nat}
theorem zk_XS_pop {ws : Nat → Int64} {wl wa : Nat → Int32} (h : zk_XS o g L c (w ++ [t]) tr ws wl wa) : zk_XS o g L c w (t + 1) ws wl wa :=
  ⟨fun p s q e => h.1 p s (q ++ [t]) (by rw [e]; simp), h.1 w t [] rfl⟩
theorem zk_YS_pop {who what trd : Nat → Int32} {bf : Nat → Int64} (h : zk_YS o g L c (w ++ [t]) tr who what trd bf) {x : Int32} : zk_YS o g L c w (t + 1) who what (upd trd (w ++ [t]).length x) bf := by
  have hl : (w ++ [t]).length = w.length + 1 := by simp
  refine ⟨fun p s q e => ?_, (h.1 w t [] rfl).1, ?_⟩
  · have := h.1 p s (q ++ [t]) (by rw [e]; simp)
    have hp : p.length < w.length := by rw [e]; simp
    rw [pk_un (by omega)]
    exact this
  · rw [pk_un (by omega)]; exact (h.1 w t [] rfl).2.1
theorem zk_len_lt {p q : List Nat} {s : Nat} (e : w = p ++ s :: q) : p.length < w.length := by rw [e]; simp
theorem zk_XS_push {ws : Nat → Int64} {wl wa : Nat → Int32} {s' : Int64} {lf as lf' as' : Int32} (h : zk_XS o g L c w tr ws wl wa)
    (h1 : zk_lx o g L c w (t + 1) (ws w.length) lf as) (h2 : zk_lx o g L c (w ++ [t]) 0 s' lf' as') :
    zk_XS o g L c (w ++ [t]) 0 (vp_updL ws (w.length + 1) s') (upd (upd wl w.length lf) (w.length + 1) lf') (upd (upd wa w.length as) (w.length + 1) as') := by
  have hl : (w ++ [t]).length = w.length + 1 := by simp
  refine ⟨fun p s q e => ?_, ?_⟩
  · rcases zk_snoc e with ⟨e1, e2, _⟩ | ⟨q', e1⟩
    · subst e1 e2
      rw [pk_uLn (by omega), pk_un (by omega), pk_us, pk_un (by omega), pk_us]
      exact h1
    · have := zk_len_lt e1
      rw [pk_uLn (by omega), pk_un (by omega), pk_un (by omega), pk_un (by omega), pk_un (by omega)]
      exact h.1 p s q' e1
  · rw [hl, pk_uLs, pk_us, pk_us]; exact h2
theorem zk_YS_skip {who what trd : Nat → Int32} {bf : Nat → Int64} (h : zk_YS o g L c w tr who what trd bf) : zk_YS o g L c w (tr + 1) who what (upd trd w.length (nI (tr + 1))) bf := by
  refine ⟨fun p s q e => ?_, h.2.1, pk_us⟩
  have := zk_len_lt e
  rw [pk_un (by omega)]
  exact h.1 p s q e
theorem zk_YS_push {who what trd : Nat → Int32} {bf : Nat → Int64} (h : zk_YS o g L c w t who what trd bf) :
    zk_YS o g L c (w ++ [t]) 0 (upd who w.length (nI t)) (upd what w.length (nI (zc_pc (zt_run o g L c w) t))) (upd (upd trd w.length (nI (t + 1))) (w.length + 1) 0)
      (vp_updL bf (w.length + 1) (lN (zp_Y (zc_step o g L (zt_run o g L c w) t)))) := by
  have hl : (w ++ [t]).length = w.length + 1 := by simp
  refine ⟨fun p s q e => ?_, ?_, ?_⟩
  · rcases zk_snoc e with ⟨e1, e2, _⟩ | ⟨q', e1⟩
    · subst e1 e2
      rw [pk_uLn (by omega), pk_un (by omega), pk_us, pk_us, pk_us]
      exact ⟨h.2.1, rfl, rfl, rfl⟩
    · have := zk_len_lt e1
      rw [pk_uLn (by omega), pk_un (by omega), pk_un (by omega), pk_un (by omega), pk_un (by omega)]
      exact h.1 p s q' e1
  · rw [hl, pk_uLs, zk_run_s]
  · rw [hl, pk_us]; rfl
theorem zk_lastOf {n : Nat} {p : List Nat} (h : p.length = n + 1) : ∃ p' s, p = p' ++ [s] ∧ p'.length = n := by
  rcases List.eq_nil_or_concat p with e | ⟨p', s, e⟩
  · rw [e] at h; simp at h
  · rw [List.concat_eq_append] at e
    refine ⟨p', s, e, ?_⟩
    rw [e] at h
    simp at h
    exact h
end
section
variable {o g L c : Nat → Nat} {w : List Nat} {tr : Nat} {f_steps f_count f_known f_different : Int32} {a_ops a_args a_length a_next a_table a_far a_found a_who a_what a_tried : Nat → Int32} {a_path a_list a_before : Nat → Int64}
theorem zy_bel {post : Int32 → Prop} {t k : Nat} (hC : zx_C o g L a_ops a_args a_length) (hV : zc_V o L c) (hok : zt_ok o g L c w) (hS : zk_YS o g L c w tr a_who a_what a_tried a_before) (hlen : w.length ≤ 30) (ht : t < 3)
    (hk : k < 15) (ok : o k ≤ 11) (gk : g k < 8)
    (h1 : zt_bel o g (zk_acc o g L c w) t k → post 1) (h0 : ¬ zt_bel o g (zk_acc o g L c w) t k → post 0) : wpY_belongsEarlier post (f_steps, f_count, f_known, f_different, a_ops, a_args, a_length, a_path, a_list, a_next, a_table, a_far, a_found, a_who, a_what, a_before, a_tried) (nI t) (nI k) (nI w.length) := by
  have key : ∀ n p q, p.length = n → w = p ++ q → (zt_bel o g (zk_acc o g L c p) t k → post 1) → (¬ zt_bel o g (zk_acc o g L c p) t k → post 0) →
      wY_belongsEarlier_5 post (nI t) (nI k) f_steps f_count f_known f_different a_ops a_args a_length a_path a_list a_next a_table a_far a_found a_who a_what a_before a_tried (n + 1) (nI n + (-1)) := by
    intro n
    induction n with
    | zero =>
      intro p q hp e a1 a0
      have ep : p = [] := List.length_eq_zero_iff.mp hp
      subst ep
      exact br_t (by decide) (a0 fun h => h)
    | succ n ih =>
      intro p q hp e a1 a0
      obtain ⟨p', s, ep, hp'⟩ := zk_lastOf hp
      subst ep
      have ew : w = p' ++ s :: q := by rw [e]; simp
      have hokp := (zt_ok_app p' (s :: q) c).mp (by rw [← ew]; exact hok)
      have hs3 := hokp.2.1
      have hRs := hokp.2.2.1
      have hVp := zt_V_run hC.1 p' c hV hokp.1
      have hGs := zc_R_G hC.1 hs3 hRs
      have hLs := (hC.1 s hs3).1
      have hks : zc_pc (zt_run o g L c p') s < 15 := by
        have := hRs.1
        unfold zc_pc; omega
      obtain ⟨_, _, y3, y4⟩ := hS.1 p' s q ew
      rw [hp'] at y3 y4
      have hn32 : n < 32 := by
        have := zk_len_lt ew
        omega
      have ecn : (nI n).toNatClampNeg = n := nI_clamp (by omega)
      have i32 : vp_in (nI n) 32 := vp_in_nI (by omega) (by omega)
      have ewho : a_who (nI n).toNatClampNeg = nI s := by rw [ecn]; exact y3
      have ewhat : a_what (nI n).toNatClampNeg = nI (zc_pc (zt_run o g L c p') s) := by rw [ecn]; exact y4
      rw [zk_acc_s] at a1 a0
      rw [pk_m1]
      refine br_f (nI_pos (by omega)) (And.intro i32 (pk_eq s t (fun e1 => a0 fun h => h.1.1 e1) (fun e1 => And.intro i32 ?_) ewho rfl (by omega) (by omega)))
      rw [ewhat]
      refine zy_touch hC hks hk hGs.1 ok hGs.2.1 gk (fun hT => br_f (by decide) (a0 fun h => h.1.2 hT)) (fun hT => br_t rfl (And.intro i32 ?_))
      refine pk_le s t (fun hle => nm_e (ih p' (s :: q) hp' ew (fun h => a1 ⟨⟨e1, hT⟩, Or.inr h⟩) (fun h => a0 fun h2 => ?_))) (fun hlt => a1 ⟨⟨e1, hT⟩, Or.inl hlt⟩) ewho rfl (by omega) (by omega)
      rcases h2.2 with h3 | h3
      · have h4 : t < s := h3
        omega
      · exact h h3
  refine nm_r (e' := nI w.length + (-1)) ?_ ⟨_, key w.length w [] rfl (by simp) h1 h0⟩
  exact Int32.sub_eq_add_neg _ _
theorem zy_k73 {post : Int32 → SY → Prop} {J : Int32 → Int32 → (Nat → Int32) → (Nat → Int32) → (Nat → Int32) → (Nat → Int64) → (Nat → Int64) → (Nat → Int32) → (Nat → Int32) → (Nat → Int32) → (Nat → Int32) → (Nat → Int32) → (Nat → Int32) → (Nat → Int64) → (Nat → Int32) → Prop}
    {x1 : Int32} {x : Int32} {tr' : Nat} (hC : zx_C o g L a_ops a_args a_length) (hV : zc_V o L c) (hok : zt_ok o g L c w) (hS : zk_YS o g L c w tr' a_who a_what a_tried a_before) (hlen : w.length ≤ 30) (htr : tr < 3)
    (h0 : ¬ zk_via o g L c w tr → J x1 (nI w.length) a_ops a_args a_length a_path a_list a_next a_table a_far a_found a_who a_what a_before a_tried)
    (h1 : zk_via o g L c w tr → J x1 (nI (w.length + 1)) a_ops a_args a_length a_path a_list a_next a_table a_far a_found (upd a_who w.length (nI tr)) (upd a_what w.length (nI (zc_pc (zt_run o g L c w) tr))) (vp_updL a_before (w.length + 1) (lN (zp_Y (zc_step o g L (zt_run o g L c w) tr)))) (upd a_tried (w.length + 1) 0)) :
    wY_kinds_73 post J x1 (nI w.length) (lN (zp_Y (zt_run o g L c w))) (nI tr) f_steps f_count f_known f_different a_ops a_args a_length a_path a_list a_next a_table a_far a_found a_who a_what a_before a_tried := by
  have hVw := zt_V_run hC.1 w c hV hok
  have hc := zp_bY (zx_L5 hC) hVw
  refine pk_le tr 2 (fun _ => ?_) (fun h => by omega) rfl rfl (by omega) (by omega)
  refine zy_isReady hC hVw htr (fun hR => br_f (by decide) ?_) (fun hR => br_t rfl (h0 fun h => hR h.1))
  have hG := zc_R_G hC.1 htr hR
  have hL := (hC.1 tr htr).1
  have hk : zc_pc (zt_run o g L c w) tr < 15 := by
    have := hR.1
    unfold zc_pc; omega
  refine zy_place hc htr (nm_r (e' := nI (zc_pc (zt_run o g L c w) tr)) (zy_pc tr _) ?_)
  refine zy_bel hC hV hok hS hlen htr hk hG.1 hG.2.1 (fun hb => br_f (by decide) (h0 fun h => h.2 hb)) (fun hb => br_t rfl ?_)
  have ec : (nI w.length).toNatClampNeg = w.length := nI_clamp (by omega)
  have ec1 : (nI (w.length + 1)).toNatClampNeg = w.length + 1 := nI_clamp (by omega)
  have i32 : vp_in (nI w.length) 32 := vp_in_nI (by omega) (by omega)
  have i33 : vp_in (nI (w.length + 1)) 33 := vp_in_nI (by omega) (by omega)
  refine And.intro i32 (nm_e (And.intro i32 (nm_e (nm_r (nI_1 _) ?_))))
  refine zy_after hC hVw htr hR (And.intro i33 (nm_e (And.intro i33 (nm_e ?_))))
  rw [ec, ec1]
  exact h1 ⟨hR, hb⟩
/-- one turn of the reference's walk -/
theorem zy_turn {post : Int32 → SY → Prop} {n : Nat} (hC : zx_C o g L a_ops a_args a_length) (hV : zc_V o L c) (hok : zt_ok o g L c w) (hS : zk_YS o g L c w tr a_who a_what a_tried a_before) (hlen : w.length ≤ 30) (htr : tr ≤ 3) (hn : n ≤ 2000)
    {m : Nat}
    (h0 : tr < 3 → ¬ zk_via o g L c w tr → ¬ (tr = 0 ∧ zt_end o g L (zt_run o g L c w)) → wY_kinds_26 post f_steps f_count f_known f_different m (nI n) (nI w.length) a_ops a_args a_length a_path a_list a_next a_table a_far a_found a_who a_what a_before (upd a_tried w.length (nI (tr + 1))))
    (h0' : tr = 0 → zt_end o g L (zt_run o g L c w) → wY_kinds_26 post f_steps f_count f_known f_different m (nI (n + 1)) (nI w.length) a_ops a_args a_length a_path a_list a_next a_table a_far a_found a_who a_what a_before (upd a_tried w.length (nI (tr + 1))))
    (h1 : tr < 3 → zk_via o g L c w tr → wY_kinds_26 post f_steps f_count f_known f_different m (nI n) (nI (w.length + 1)) a_ops a_args a_length a_path a_list a_next a_table a_far a_found (upd a_who w.length (nI tr)) (upd a_what w.length (nI (zc_pc (zt_run o g L c w) tr))) (vp_updL a_before (w.length + 1) (lN (zp_Y (zc_step o g L (zt_run o g L c w) tr)))) (upd (upd a_tried w.length (nI (tr + 1))) (w.length + 1) 0))
    (h3 : tr = 3 → wY_kinds_26 post f_steps f_count f_known f_different m (nI n) (nI w.length + (-1)) a_ops a_args a_length a_path a_list a_next a_table a_far a_found a_who a_what a_before (upd a_tried w.length (nI (tr + 1)))) :
    wY_kinds_26 post f_steps f_count f_known f_different (m + 1) (nI n) (nI w.length) a_ops a_args a_length a_path a_list a_next a_table a_far a_found a_who a_what a_before a_tried := by
  have hVw := zt_V_run hC.1 w c hV hok
  have ec : (nI w.length).toNatClampNeg = w.length := nI_clamp (by omega)
  have i33 : vp_in (nI w.length) 33 := vp_in_nI (by omega) (by omega)
  have eb : a_before (nI w.length).toNatClampNeg = lN (zp_Y (zt_run o g L c w)) := by rw [ec]; exact hS.2.1
  have et : a_tried (nI w.length).toNatClampNeg = nI tr := by rw [ec]; exact hS.2.2
  refine br_f (nI_pos (by omega)) (pk_lt 2000 n (fun h => by omega) (fun _ => And.intro i33 (nm_r eb (And.intro i33 (And.intro i33 (nm_r (e' := upd a_tried w.length (nI (tr + 1))) (by rw [et, ec, nI_1]) (nm_r et ?_)))))) rfl rfl (by omega) (by omega))
  have hS' := zk_YS_skip hS
  by_cases e3 : tr = 3
  · subst e3
    refine pk_eq 3 0 (fun h => by omega) (fun _ => ?_) rfl rfl (by omega) (by omega)
    exact pk_le 3 2 (fun h => by omega) (fun _ => nm_e (h3 rfl)) rfl rfl (by omega) (by omega)
  · have ht3 : tr < 3 := by omega
    refine pk_eq tr 0 (fun e0 => ?_) (fun e0 => ?_) rfl rfl (by omega) (by omega)
    · refine zy_isEnd hC hVw (fun he => br_f (by decide) (nm_r (nI_1 n) ?_)) (fun he => br_t rfl ?_)
      · refine zy_k73 (x := 0) hC hV hok hS' hlen ht3 (fun hv => h0' e0 he) (fun hv => absurd hv.1 (he tr ht3))
      · refine zy_k73 (x := 0) hC hV hok hS' hlen ht3 (fun hv => h0 ht3 hv fun h => he h.2) (fun hv => h1 ht3 hv)
    · exact zy_k73 (x := 0) hC hV hok hS' hlen ht3 (fun hv => h0 ht3 hv fun h => e0 h.1) (fun hv => h1 ht3 hv)
end
end
section
/-! both walks in step; kinds, owed -/
def zk_N (o g L c : Nat → Nat) (w : List Nat) (tr n C : Nat) : Prop :=
  ((tr = 0 ∧ zt_end o g L (zt_run o g L c w)) → n + 1 = C) ∧ (¬ (tr = 0 ∧ zt_end o g L (zt_run o g L c w)) → n = C)
theorem zk_N_s {o g L c : Nat → Nat} {w : List Nat} {tr C : Nat} : zk_N o g L c w (tr + 1) C C := ⟨fun h => by omega, fun _ => rfl⟩
section
variable {o g L c : Nat → Nat} {w : List Nat} {tr : Nat} {C G : List (List Nat)}
theorem zk_skips (I : zk_I o g L c w tr C G) : ∀ d, (∀ u, tr ≤ u → u < tr + d → ¬ zk_via o g L c w u) → zk_I o g L c w (tr + d) C G := by
  intro d
  induction d with
  | zero => intro _; exact I
  | succ d ih =>
    intro h
    have := ih fun u h1 h2 => h u h1 (by omega)
    exact zk_skip this (h (tr + d) (by omega) (by omega))
end
section
variable {o g L c : Nat → Nat} {w : List Nat} {f_steps1 f_count1 f_known1 f_different1 : Int32} {a_ops1 a_args1 a_length1 a_next1 a_table1 a_far1 a_found1 a_who1 a_what1 a_tried1 : Nat → Int32} {a_path1 a_list1 a_before1 : Nat → Int64}
theorem zy_skips {post : Int32 → SY → Prop} {C t : Nat} (hC : zx_C o g L a_ops1 a_args1 a_length1) (hV : zc_V o L c) (hok : zt_ok o g L c w) (hlen : w.length ≤ 30) (hC2 : C ≤ 2000) (ht : t ≤ 3)
    (hY : ∀ n, zk_N o g L c w t n C → ∀ (who what trd : Nat → Int32) (bf : Nat → Int64), zk_YS o g L c w t who what trd bf → ∃ m, wY_kinds_26 post f_steps1 f_count1 f_known1 f_different1 m (nI n) (nI w.length) a_ops1 a_args1 a_length1 a_path1 a_list1 a_next1 a_table1 a_far1 a_found1 who what bf trd) :
    ∀ d tr n, tr + d = t → (∀ u, tr ≤ u → u < t → ¬ zk_via o g L c w u) → zk_N o g L c w tr n C → ∀ (who what trd : Nat → Int32) (bf : Nat → Int64), zk_YS o g L c w tr who what trd bf →
      ∃ m, wY_kinds_26 post f_steps1 f_count1 f_known1 f_different1 m (nI n) (nI w.length) a_ops1 a_args1 a_length1 a_path1 a_list1 a_next1 a_table1 a_far1 a_found1 who what bf trd := by
  intro d
  induction d with
  | zero =>
    intro tr n ht hno hn who what trd bf hS
    have e : tr = t := by omega
    subst e
    exact hY n hn who what trd bf hS
  | succ d ih =>
    intro tr n htr hno hn who what trd bf hS
    obtain ⟨m, hm⟩ := ih (tr + 1) C (by omega) (fun u h1 h2 => hno u (by omega) h2) zk_N_s who what _ bf (zk_YS_skip hS)
    have hn2 : n ≤ 2000 := by
      by_cases e : tr = 0 ∧ zt_end o g L (zt_run o g L c w)
      · have := hn.1 e; omega
      · have := hn.2 e; omega
    refine ⟨m + 1, zy_turn hC hV hok hS hlen (by omega) hn2 (fun _ _ he => ?_) (fun e0 he => ?_) (fun _ hv => absurd hv (hno tr (Nat.le_refl _) (by omega))) (fun h => by omega)⟩
    · rw [hn.2 he]; exact hm
    · rw [hn.1 ⟨e0, he⟩]; exact hm
end
section
variable {o g L c : Nat → Nat} {f_steps f_foundCount : Int32} {a_ops a_args a_codeLength a_cell a_cameFrom a_cameBy a_distance a_slots a_isEnding a_walkLeft a_walkAsleep : Nat → Int32} {a_trail a_found a_walkState : Nat → Int64} {f_steps1 f_count1 f_known1 f_different1 : Int32} {a_ops1 a_args1 a_length1 a_next1 a_table1 a_far1 a_found1 a_who1 a_what1 a_tried1 : Nat → Int32} {a_path1 a_list1 a_before1 : Nat → Int64}
theorem zk_main (hX : zx_C o g L a_ops a_args a_codeLength) (hY : zx_C o g L a_ops1 a_args1 a_length1) (hV : zc_V o L c) :
    ∀ (M : Nat) (w : List Nat) (tr : Nat) (C G : List (List Nat)), zk_I o g L c w tr C G → tr ≤ 3 → 2 * G.length + w.length + M = 10000000 → C.length ≤ 2001 →
      ∃ r : Int32, (∀ (cell : Nat → Int32) (ws : Nat → Int64) (wl wa : Nat → Int32), zk_XS o g L c w tr ws wl wa → ∀ post : Int32 → SX → Prop,
          (∀ (cell : Nat → Int32) (ws : Nat → Int64) (wl wa : Nat → Int32), post r (f_steps, f_foundCount, a_ops, a_args, a_codeLength, a_trail, cell, a_found, a_cameFrom, a_cameBy, a_distance, a_slots, a_isEnding, ws, wl, wa)) →
          wX_kinds_32 post (M + 2) (nI C.length) (nI w.length) (nI (2 * G.length + w.length)) f_steps f_foundCount a_ops a_args a_codeLength a_trail cell a_found a_cameFrom a_cameBy a_distance a_slots a_isEnding ws wl wa) ∧
        (∀ n, zk_N o g L c w tr n C.length → ∀ (who what trd : Nat → Int32) (bf : Nat → Int64), zk_YS o g L c w tr who what trd bf → ∀ post : Int32 → SY → Prop,
          (∀ (who what trd : Nat → Int32) (bf : Nat → Int64), post r (f_steps1, f_count1, f_known1, f_different1, a_ops1, a_args1, a_length1, a_path1, a_list1, a_next1, a_table1, a_far1, a_found1, who, what, bf, trd)) →
          ∃ m, wY_kinds_26 post f_steps1 f_count1 f_known1 f_different1 m (nI n) (nI w.length) a_ops1 a_args1 a_length1 a_path1 a_list1 a_next1 a_table1 a_far1 a_found1 who what bf trd) := by
  -- too many kinds
  have big : ∀ (M : Nat) (w : List Nat) (tr : Nat) (C G : List (List Nat)), zk_I o g L c w tr C G → tr ≤ 3 → 2 * G.length + w.length + M = 10000000 → C.length = 2001 →
      (∀ (cell : Nat → Int32) (ws : Nat → Int64) (wl wa : Nat → Int32), ∀ post : Int32 → SX → Prop,
          (∀ (cell : Nat → Int32) (ws : Nat → Int64) (wl wa : Nat → Int32), post (-2) (f_steps, f_foundCount, a_ops, a_args, a_codeLength, a_trail, cell, a_found, a_cameFrom, a_cameBy, a_distance, a_slots, a_isEnding, ws, wl, wa)) →
          wX_kinds_32 post (M + 2) (nI C.length) (nI w.length) (nI (2 * G.length + w.length)) f_steps f_foundCount a_ops a_args a_codeLength a_trail cell a_found a_cameFrom a_cameBy a_distance a_slots a_isEnding ws wl wa) ∧
        (∀ n, zk_N o g L c w tr n C.length → ∀ (who what trd : Nat → Int32) (bf : Nat → Int64), zk_YS o g L c w tr who what trd bf → ∀ post : Int32 → SY → Prop,
          (∀ (who what trd : Nat → Int32) (bf : Nat → Int64), post (-2) (f_steps1, f_count1, f_known1, f_different1, a_ops1, a_args1, a_length1, a_path1, a_list1, a_next1, a_table1, a_far1, a_found1, who, what, bf, trd)) →
          ∃ m, wY_kinds_26 post f_steps1 f_count1 f_known1 f_different1 m (nI n) (nI w.length) a_ops1 a_args1 a_length1 a_path1 a_list1 a_next1 a_table1 a_far1 a_found1 who what bf trd) := by
    intro M w tr C G I htr hM hC
    have hlen : w.length ≤ 30 := by have := zt_len30 hX.1 hV I.1; omega
    rw [hC]
    constructor
    · intro cell ws wl wa post hp
      have fin : wX_kinds_95 post (nI 2001) f_steps f_foundCount a_ops a_args a_codeLength a_trail cell a_found a_cameFrom a_cameBy a_distance a_slots a_isEnding ws wl wa := pk_le 2001 2000 (fun h => by omega) (fun _ => hp cell ws wl wa) rfl rfl (by omega) (by omega)
      refine pk_le 10000000 (2 * G.length + w.length) (fun _ => fin) (fun _ => br_f (nI_pos (by omega)) (pk_lt 2000 2001 (fun _ => fin) (fun h => by omega) rfl rfl (by omega) (by omega))) rfl rfl (by omega) (by omega)
    · intro n hn who what trd bf hS post hp
      have st : ∀ (who what trd : Nat → Int32) (bf : Nat → Int64), wY_kinds_26 post f_steps1 f_count1 f_known1 f_different1 1 (nI 2001) (nI w.length) a_ops1 a_args1 a_length1 a_path1 a_list1 a_next1 a_table1 a_far1 a_found1 who what bf trd := by
        intro who what trd bf
        refine br_f (nI_pos (by omega)) (pk_lt 2000 2001 (fun _ => ?_) (fun h => by omega) rfl rfl (by omega) (by omega))
        exact pk_le 2001 2000 (fun h => by omega) (fun _ => hp who what trd bf) rfl rfl (by omega) (by omega)
      by_cases e : tr = 0 ∧ zt_end o g L (zt_run o g L c w)
      · have e1 := hn.1 e
        have e2 : n = 2000 := by omega
        subst e2
        refine ⟨2, zy_turn hY hV I.1 hS hlen htr (Nat.le_refl _) (fun _ _ he => absurd e he) (fun _ _ => st _ _ _ _) (fun h3 hv => absurd hv.1 (e.2 tr h3)) (fun h => by omega)⟩
      · have e1 := hn.2 e
        subst e1
        exact ⟨1, st _ _ _ _⟩
  intro M
  induction M with
  | zero =>
    intro w tr C G I htr hM hC
    by_cases h2 : C.length = 2001
    · exact ⟨-2, fun cell ws wl wa _ => (big 0 w tr C G I htr hM h2).1 cell ws wl wa, (big 0 w tr C G I htr hM h2).2⟩
    · exfalso
      have h1 := zk_bound hX.1 hV I
      have h3 := zt_len30 hX.1 hV I.1
      omega
  | succ M ih =>
    intro w tr C G I htr hM hC
    by_cases h2 : C.length = 2001
    · exact ⟨-2, fun cell ws wl wa _ => (big (M + 1) w tr C G I htr hM h2).1 cell ws wl wa, (big (M + 1) w tr C G I htr hM h2).2⟩
    have hC2 : C.length ≤ 2000 := by omega
    have hlen : w.length ≤ 30 := by have := zt_len30 hX.1 hV I.1; omega
    have ec : (nI w.length).toNatClampNeg = w.length := nI_clamp (by omega)
    by_cases hex : ∃ u, u < 3 ∧ tr ≤ u ∧ zk_via o g L c w u
    · -- a step down
      obtain ⟨t, ⟨ht3, htt, hvt⟩, hmin⟩ := zh_least (fun u => u < 3 ∧ tr ≤ u ∧ zk_via o g L c w u) hex
      have hno : ∀ u, tr ≤ u → u < t → ¬ zk_via o g L c w u := fun u h1 h2 h3 => hmin u h2 ⟨by omega, h1, h3⟩
      have It : zk_I o g L c w t C G := by
        have := zk_skips I (t - tr) (fun u h1 h2 => hno u h1 (by omega))
        have e : tr + (t - tr) = t := by omega
        rwa [e] at this
      have hok1 := zk_ok1 It.1 ht3 hvt
      have hl1 : (w ++ [t]).length = w.length + 1 := by simp
      have hlen1 : w.length < 30 := by
        have := zt_len30 hX.1 hV hok1
        omega
      obtain ⟨C', hsub, hend, hCl, hCn⟩ : ∃ C' : List (List Nat), (∀ l, l ∈ C → l ∈ C') ∧ (zt_end o g L (zt_run o g L c (w ++ [t])) → w ++ [t] ∈ C') ∧
          (zt_end o g L (zt_run o g L c (w ++ [t])) → C'.length = C.length + 1) ∧ (¬ zt_end o g L (zt_run o g L c (w ++ [t])) → C'.length = C.length) := by
        by_cases he : zt_end o g L (zt_run o g L c (w ++ [t]))
        · exact ⟨C ++ [w ++ [t]], fun l hl => by simp [hl], fun _ => by simp, fun _ => by simp, fun h => absurd he h⟩
        · exact ⟨C, fun l hl => hl, fun h => absurd h he, fun h => absurd h he, fun _ => rfl⟩
      have hC'1 : C'.length ≤ 2001 := by
        by_cases he : zt_end o g L (zt_run o g L c (w ++ [t]))
        · rw [hCl he]; omega
        · rw [hCn he]; omega
      obtain ⟨r, hx, hy⟩ := ih (w ++ [t]) 0 C' G (zk_in It ht3 hvt hsub hend) (by omega) (by rw [hl1]; omega) hC'1
      refine ⟨r, fun cell ws wl wa hS post hp => ?_, fun n hn who what trd bf hS post hp => ?_⟩
      · have hlx := hS.2
        obtain ⟨_, ⟨lm, hlm, hlM⟩, _⟩ := hlx
        have elf : wl (nI w.length).toNatClampNeg = nI lm := by rw [ec]; exact hlm
        have hlm0 : lm ≠ 0 := by
          intro e
          exact (zx_M_0 hlM).mp e t ht3 ⟨htt, hvt⟩
        refine pk_le 10000000 (2 * G.length + w.length) (fun h => by omega) (fun _ => br_f (nI_pos (by omega)) (pk_lt 2000 C.length (fun h => by omega) (fun _ => And.intro (vp_in_nI (by omega) (by omega)) ?_) rfl rfl (by omega) (by omega))) rfl rfl (by omega) (by omega)
        refine pk_eq lm 0 (fun e => absurd e hlm0) (fun _ => ?_) elf rfl (by have := hlM.1; omega) (by omega)
        refine pk_lt w.length 30 (fun _ => ?_) (fun h => by omega) rfl rfl (by omega) (by omega)
        refine zx_descend hX (zt_V_run hX.1 w c hV I.1) hlen1 hS.2 hex fun t' ht' h1 h2 h3 cell' lf as s' lf' as' k1 k2 => ?_
        have et : t' = t := by
          rcases Nat.lt_trichotomy t' t with h4 | h4 | h4
          · exact absurd h2 (hno t' h1 h4)
          · exact h4
          · exact absurd hvt (h3 t htt h4)
        subst et
        have hxx := hx cell' _ _ _ (zk_XS_push hS k1 k2) post hp
        have e5 : 2 * G.length + (w ++ [t']).length = 2 * G.length + w.length + 1 := by rw [hl1]; omega
        rw [e5, hl1] at hxx
        refine ⟨fun he => br_f (by decide) (nm_r (nI_1 _) (nm_r (nI_1 _) (nm_r (nI_1 _) ?_))), fun he => br_t rfl (nm_r (nI_add _ 0) (nm_r (nI_1 _) (nm_r (nI_1 _) ?_)))⟩
        · rw [hCl he] at hxx; exact hxx
        · rw [hCn he] at hxx; exact hxx
      · refine zy_skips hY hV I.1 hlen hC2 (show t ≤ 3 by omega) (fun n' hn' who' what' trd' bf' hS' => ?_) (t - tr) tr n (by omega) hno hn who what trd bf hS
        have hnC : n' = C.length := by
          refine hn'.2 fun h => ?_
          exact h.2 t ht3 hvt.1
        subst hnC
        obtain ⟨m, hm⟩ := hy C.length ⟨fun h => (hCl h.2).symm, fun h => (hCn fun he => h ⟨rfl, he⟩).symm⟩ _ _ _ _ (zk_YS_push hS') post hp
        rw [hl1] at hm
        exact ⟨m + 1, zy_turn hY hV I.1 hS' hlen (by omega) hC2 (fun _ hv => absurd hvt hv) (fun e0 he => absurd hvt.1 (he t ht3)) (fun _ _ => hm) (fun h => by omega)⟩
    · -- a step up
      have hno : ∀ u, tr ≤ u → u < 3 → ¬ zk_via o g L c w u := fun u h1 h2 h3 => hex ⟨u, h2, h1, h3⟩
      have I3 : zk_I o g L c w 3 C G := by
        have := zk_skips I (3 - tr) (fun u h1 h2 => hno u h1 (by omega))
        have e : tr + (3 - tr) = 3 := by omega
        rwa [e] at this
      -- what the component does
      have xup : ∀ (cell : Nat → Int32) (ws : Nat → Int64) (wl wa : Nat → Int32), zk_XS o g L c w tr ws wl wa → ∀ post : Int32 → SX → Prop,
          wX_kinds_32 post (M + 2) (nI C.length) (nI w.length + (-1)) (nI (2 * G.length + w.length + 1)) f_steps f_foundCount a_ops a_args a_codeLength a_trail cell a_found a_cameFrom a_cameBy a_distance a_slots a_isEnding ws wl wa →
          wX_kinds_32 post (M + 1 + 2) (nI C.length) (nI w.length) (nI (2 * G.length + w.length)) f_steps f_foundCount a_ops a_args a_codeLength a_trail cell a_found a_cameFrom a_cameBy a_distance a_slots a_isEnding ws wl wa := by
        intro cell ws wl wa hS post hw
        obtain ⟨_, ⟨lm, hlm, hlM⟩, _⟩ := hS.2
        have elf : wl (nI w.length).toNatClampNeg = nI lm := by rw [ec]; exact hlm
        have hlm0 : lm = 0 := (zx_M_0 hlM).mpr fun u hu h => hno u h.1 hu h.2
        refine pk_le 10000000 (2 * G.length + w.length) (fun h => by omega) (fun _ => br_f (nI_pos (by omega)) (pk_lt 2000 C.length (fun h => by omega) (fun _ => And.intro (vp_in_nI (by omega) (by omega)) ?_) rfl rfl (by omega) (by omega))) rfl rfl (by omega) (by omega)
        exact pk_eq lm 0 (fun _ => nm_e (nm_r (nI_1 _) hw)) (fun h => absurd hlm0 h) elf rfl (by omega) (by omega)
      -- what the reference does
      have yup : ∀ post : Int32 → SY → Prop, (∀ (who what trd : Nat → Int32) (bf : Nat → Int64), zk_YS o g L c w 3 who what trd bf →
            ∃ m, wY_kinds_26 post f_steps1 f_count1 f_known1 f_different1 m (nI C.length) (nI w.length + (-1)) a_ops1 a_args1 a_length1 a_path1 a_list1 a_next1 a_table1 a_far1 a_found1 who what bf (upd trd w.length (nI (3 + 1)))) →
          ∀ n, zk_N o g L c w tr n C.length → ∀ (who what trd : Nat → Int32) (bf : Nat → Int64), zk_YS o g L c w tr who what trd bf →
          ∃ m, wY_kinds_26 post f_steps1 f_count1 f_known1 f_different1 m (nI n) (nI w.length) a_ops1 a_args1 a_length1 a_path1 a_list1 a_next1 a_table1 a_far1 a_found1 who what bf trd := by
        intro post hq n hn who what trd bf hS
        refine zy_skips hY hV I.1 hlen hC2 (Nat.le_refl 3) (fun n' hn' who' what' trd' bf' hS' => ?_) (3 - tr) tr n (by omega) hno hn who what trd bf hS
        have hnC : n' = C.length := hn'.2 fun h => by omega
        subst hnC
        obtain ⟨m, hm⟩ := hq who' what' trd' bf' hS'
        exact ⟨m + 1, zy_turn hY hV I.1 hS' hlen (Nat.le_refl 3) hC2 (fun h => by omega) (fun h => by omega) (fun h => by omega) (fun _ => hm)⟩
      rcases Nat.eq_zero_or_pos w.length with hw0 | hw0
      · have ew : w = [] := List.length_eq_zero_iff.mp hw0
        subst ew
        refine ⟨nI C.length, fun cell ws wl wa hS post hp => xup cell ws wl wa hS post ?_, fun n hn who what trd bf hS post hp => yup post (fun who what trd bf hS' => ⟨1, ?_⟩) n hn who what trd bf hS⟩
        · have fin : wX_kinds_95 post (nI C.length) f_steps f_foundCount a_ops a_args a_codeLength a_trail cell a_found a_cameFrom a_cameBy a_distance a_slots a_isEnding ws wl wa := pk_le C.length 2000 (fun _ => hp cell ws wl wa) (fun h => by omega) rfl rfl (by omega) (by omega)
          refine pk_le 10000000 (2 * G.length + 0 + 1) (fun _ => fin) (fun _ => br_t (by decide) fin) rfl rfl (by omega) ?_
          have : 2 * G.length + 0 + (M + 1) = 10000000 := hM
          omega
        · exact br_t (by decide) (pk_le C.length 2000 (fun _ => hp _ _ _ _) (fun h => by omega) rfl rfl (by omega) (by omega))
      · obtain ⟨q, hq⟩ : ∃ q, w.length = q + 1 := ⟨w.length - 1, by omega⟩
        obtain ⟨w', t, ew, hl'⟩ := zk_lastOf hq
        subst ew
        have ht3 : t < 3 := zt_ok_lt _ _ I.1 t (by simp)
        have hl1 : (w' ++ [t]).length = w'.length + 1 := by simp
        have hg1 : ((w' ++ [t]) :: G).length = G.length + 1 := by simp
        obtain ⟨r, hx, hy⟩ := ih w' (t + 1) C ((w' ++ [t]) :: G) (zk_out hX.1 hV I3) (by omega) (by rw [hg1]; rw [hl1] at hM; omega) hC
        refine ⟨r, fun cell ws wl wa hS post hp => xup cell ws wl wa hS post ?_, fun n hn who what trd bf hS post hp => yup post (fun who what trd bf hS' => ?_) n hn who what trd bf hS⟩
        · have hxx := hx cell ws wl wa (zk_XS_pop hS) post hp
          have e5 : 2 * ((w' ++ [t]) :: G).length + w'.length = 2 * G.length + (w' ++ [t]).length + 1 := by rw [hg1, hl1]; omega
          rw [e5] at hxx
          rw [hl1, pk_m1, ← hl1]
          exact hxx
        · obtain ⟨m, hm⟩ := hy C.length zk_N_s _ _ _ _ (zk_YS_pop hS' (x := nI (3 + 1))) post hp
          refine ⟨m, ?_⟩
          have e6 : nI (w' ++ [t]).length + (-1) = nI w'.length := by rw [hl1, pk_m1]
          rw [e6]
          exact hm
end
theorem i_vc_kinds {k : Nat} {u : SX} {v : SY} (I : i_Rel k u v) (hk : k + 5 ≤ 2560) : wpX_kinds (fun r u' => wpY_kinds (fun r' v' => r' = r ∧ i_Rel (k + 5) u' v') v) u := by
  obtain ⟨f_steps, f_foundCount, a_ops, a_args, a_codeLength, a_trail, a_cell, a_found, a_cameFrom, a_cameBy, a_distance, a_slots, a_isEnding, a_walkState, a_walkLeft, a_walkAsleep⟩ := u
  obtain ⟨f_steps1, f_count1, f_known1, f_different1, a_ops1, a_args1, a_length1, a_path1, a_list1, a_next1, a_table1, a_far1, a_found1, a_who1, a_what1, a_before1, a_tried1⟩ := v
  obtain ⟨o, g, L, n, h, hX, hY, e1, e2, hn, hh, hkn⟩ := I
  have I' : zr_P f_steps a_ops a_args a_codeLength a_trail f_steps1 f_count1 f_known1 a_ops1 a_args1 a_length1 a_path1 a_list1 a_next1 := ⟨o, g, L, n, h, hX, hY, e1, e2, hn, hh, hkn⟩
  subst e1 e2
  obtain ⟨hx, hy, hV, hps⟩ := hh n (Nat.le_refl _)
  have hB := zp_bX (zx_L5 hX) hV
  have ecn : (nI n).toNatClampNeg = n := nI_clamp (by omega)
  have ex : a_trail (nI n).toNatClampNeg = lN (zp_X (h n)) := by rw [ecn]; exact hx
  have ey : a_path1 (nI n).toNatClampNeg = lN (zp_Y (h n)) := by rw [ecn]; exact hy
  have hM0 : zx_M 0 (fun u => zc_R o g L (zt_run o g L (h n) []) u ∧ (u < 0 ∨ zt_bel o g (zk_acc o g L (h n) []) u (zc_pc (zt_run o g L (h n) []) u))) := by
    refine ⟨by omega, fun u hu => ?_⟩
    constructor
    · intro hh; simp at hh
    · rintro ⟨_, hh | hh⟩
      · omega
      · exact absurd hh (fun x => x)
  obtain ⟨C, hCe, hCl, hCn⟩ : ∃ C : List (List Nat), (zt_end o g L (h n) → [] ∈ C) ∧ (zt_end o g L (h n) → C.length = 1) ∧ (¬ zt_end o g L (h n) → C.length = 0) := by
    by_cases he : zt_end o g L (h n)
    · exact ⟨[[]], fun _ => by simp, fun _ => rfl, fun hh => absurd he hh⟩
    · exact ⟨[], fun hh => absurd hh he, fun hh => absurd hh he, fun _ => rfl⟩
  have hC1 : C.length ≤ 2001 := by
    by_cases he : zt_end o g L (h n)
    · rw [hCl he]; omega
    · rw [hCn he]; omega
  obtain ⟨r, rx, ry⟩ := zk_main (f_steps := nI n) (f_foundCount := f_foundCount) (a_ops := a_ops) (a_args := a_args) (a_codeLength := a_codeLength) (a_trail := a_trail) (a_found := a_found) (a_cameFrom := a_cameFrom) (a_cameBy := a_cameBy) (a_distance := a_distance) (a_slots := a_slots) (a_isEnding := a_isEnding) (f_steps1 := nI n) (f_count1 := f_count1) (f_known1 := f_known1) (f_different1 := f_different1) (a_ops1 := a_ops1) (a_args1 := a_args1) (a_length1 := a_length1) (a_path1 := a_path1) (a_list1 := a_list1) (a_next1 := a_next1) (a_table1 := a_table1) (a_far1 := a_far1) (a_found1 := a_found1) hX hY hV 10000000 [] 0 C [] (zk_0 hCe) (by omega) (by simp) hC1
  unfold wpX_kinds
  refine And.intro (vp_in_nI (by omega) (by omega)) (zx_unpack' ex hB fun a1 ha1 => ?_)
  refine zx_enter (w := []) (d := 0) (a := 0) hX hV ha1 (by omega) hM0 fun s lf hlx => ?_
  have hXS : zk_XS o g L (h n) [] 0 (vp_updL a_walkState 0 s) (upd a_walkLeft 0 lf) (upd a_walkAsleep 0 (nI 0)) := by
    refine ⟨fun p t q e => ?_, ?_⟩
    · have := congrArg List.length e
      simp at this
    · show zk_lx o g L (h n) [] 0 (vp_updL a_walkState 0 s 0) (upd a_walkLeft 0 lf 0) (upd a_walkAsleep 0 (nI 0) 0)
      rw [pk_uLs, pk_us, pk_us]; exact hlx
  have hYS : zk_YS o g L (h n) [] 0 a_who1 a_what1 (upd a_tried1 0 0) (vp_updL a_before1 0 (a_path1 (nI n).toNatClampNeg)) := by
    refine ⟨fun p t q e => ?_, ?_, ?_⟩
    · have := congrArg List.length e
      simp at this
    · show vp_updL a_before1 0 (a_path1 (nI n).toNatClampNeg) 0 = _
      rw [pk_uLs, ey]; rfl
    · show upd a_tried1 0 0 0 = _
      rw [pk_us]; rfl
  have fin : ∀ (cell : Nat → Int32) (ws : Nat → Int64) (wl wa : Nat → Int32), wpY_kinds (fun r' v' => r' = r ∧ i_Rel (k + 5) (nI n, f_foundCount, a_ops, a_args, a_codeLength, a_trail, cell, a_found, a_cameFrom, a_cameBy, a_distance, a_slots, a_isEnding, ws, wl, wa) v') (nI n, f_count1, f_known1, f_different1, a_ops1, a_args1, a_length1, a_path1, a_list1, a_next1, a_table1, a_far1, a_found1, a_who1, a_what1, a_before1, a_tried1) := by
    intro cell ws wl wa
    unfold wpY_kinds
    refine And.intro (vp_in_nI (by omega) (by omega)) (nm_e (nm_e ?_))
    refine ry 0 ⟨fun hh => ?_, fun hh => ?_⟩ _ _ _ _ hYS _ fun who what trd bf => ⟨rfl, I'⟩
    · rw [hCl hh.2]
    · rw [hCn fun he => hh ⟨rfl, he⟩]
  refine ⟨fun he => br_f (by decide) ⟨10000002, ?_⟩, fun he => br_t rfl ⟨10000002, ?_⟩⟩
  · have := rx a1 _ _ _ hXS (fun r u' => wpY_kinds (fun r' v' => r' = r ∧ i_Rel (k + 5) u' v') (nI n, f_count1, f_known1, f_different1, a_ops1, a_args1, a_length1, a_path1, a_list1, a_next1, a_table1, a_far1, a_found1, a_who1, a_what1, a_before1, a_tried1)) fin
    rw [hCl he] at this
    exact this
  · have := rx a1 _ _ _ hXS (fun r u' => wpY_kinds (fun r' v' => r' = r ∧ i_Rel (k + 5) u' v') (nI n, f_count1, f_known1, f_different1, a_ops1, a_args1, a_length1, a_path1, a_list1, a_next1, a_table1, a_far1, a_found1, a_who1, a_what1, a_before1, a_tried1)) fin
    rw [hCn he] at this
    exact this
end
