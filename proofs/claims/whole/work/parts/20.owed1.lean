/-! the relation; the calls that need no search -/
def zr_P (xs : Int32) (xops xargs xlen : Nat → Int32) (xtrail : Nat → Int64) (ys yc yk : Int32) (yops yargs ylen : Nat → Int32) (ypath ylist : Nat → Int64) (ynext : Nat → Int32) : Prop :=
  ∃ (o g L : Nat → Nat) (n : Nat) (h : Nat → Nat → Nat), zx_C o g L xops xargs xlen ∧ zx_C o g L yops yargs ylen ∧ xs = nI n ∧ ys = nI n ∧ n ≤ 30 ∧
    (∀ i, i ≤ n → xtrail i = lN (zp_X (h i)) ∧ ypath i = lN (zp_Y (h i)) ∧ zc_V o L (h i) ∧ i ≤ zc_psi (h i) 0 + zc_psi (h i) 1 + zc_psi (h i) 2) ∧
    (yk = 0 ∨ (yk = 1 ∧ zy_S o g L (h n) yc ylist ynext))
def i_Rel (k : Nat) (u : SX) (v : SY) : Prop := match u, v with
  | (f_steps, f_foundCount, a_ops, a_args, a_codeLength, a_trail, a_cell, a_found, a_cameFrom, a_cameBy, a_distance, a_slots, a_isEnding, a_walkState, a_walkLeft, a_walkAsleep), (f_steps1, f_count1, f_known1, f_different1, a_ops1, a_args1, a_length1, a_path1, a_list1, a_next1, a_table1, a_far1, a_found1, a_who1, a_what1, a_before1, a_tried1) => zr_P f_steps a_ops a_args a_codeLength a_trail f_steps1 f_count1 f_known1 a_ops1 a_args1 a_length1 a_path1 a_list1 a_next1
theorem i_up {k : Nat} {u : SX} {v : SY} (h : i_Rel k u v) : i_Rel (k + 5) u v := h
/-- the relation after the code or the start has changed -/
theorem zr_new {o g L : Nat → Nat} {xops xargs xlen yops yargs ylen ynext : Nat → Int32} {xtrail ypath ylist : Nat → Int64} {yc : Int32} (hX : zx_C o g L xops xargs xlen) (hY : zx_C o g L yops yargs ylen) :
    zr_P 0 xops xargs xlen (vp_updL xtrail 0 (lN (zp_X (zr_0 L)))) 0 yc 0 yops yargs ylen (vp_updL ypath 0 (lN (zp_Y (zr_0 L)))) ylist ynext := by
  refine ⟨o, g, L, 0, fun _ => zr_0 L, hX, hY, rfl, rfl, by omega, fun i hi => ?_, Or.inl rfl⟩
  have e : i = 0 := by omega
  subst e
  exact ⟨pk_uLs, pk_uLs, zr_0_V hX.1, Nat.zero_le _⟩
theorem zr_K0 : zc_K (fun _ => 0) (fun _ => 0) (fun _ => 0) := fun t _ => ⟨Nat.zero_le _, fun p hp => absurd hp (Nat.not_lt_zero _)⟩
theorem zr_C0 : zx_C (fun _ => 0) (fun _ => 0) (fun _ => 0) (fun _ => 0) (fun _ => 0) (fun _ => 0) := ⟨zr_K0, fun i _ => rfl, fun i _ => rfl, fun t _ => rfl⟩
theorem i_vc0 : wpX_init (fun u => wpY_init (fun v => i_Rel 0 u v)) := by
  unfold wpX_init
  refine zx_returnToFirst zr_C0 fun cell => ?_
  show wpY_init _
  unfold wpY_init
  refine zy_reset zr_C0 ?_
  exact zr_new zr_C0 zr_C0
theorem zr_nI {a b : Nat} (h : nI a = nI b) (ha : a < 2 ^ 31) (hb : b < 2 ^ 31) : a = b := (nI_eq ha hb).mp h
/-- the code with one instruction written -/
theorem zr_C_up {o g L : Nat → Nat} {ops args len : Nat → Int32} {t p m b : Nat} {x y z : Int32} (hC : zx_C o g L ops args len) (ht : t < 3) (hp : p < 5) (hpL : p ≤ L t)
    (hG : zc_G m b) {n : Nat} (hn : n = L t ∨ (n = L t + 1 ∧ p = L t)) (hn5 : n ≤ 5) (hx : x = nI m) (hy : y = nI b) (hz : z = nI n) :
    zx_C (zc_up o (5 * t + p) m) (zc_up g (5 * t + p) b) (zc_up L t n) (upd ops (5 * t + p) x) (upd args (5 * t + p) y) (upd len t z) := by
  obtain ⟨k1, k2, k3, k4⟩ := hC
  refine ⟨fun t' ht' => ?_, fun i hi => ?_, fun i hi => ?_, fun i hi => ?_⟩
  · by_cases e : t' = t
    · subst e
      rw [zc_up_s]
      refine ⟨hn5, fun q hq => ?_⟩
      by_cases eq : q = p
      · subst eq; rw [zc_up_s, zc_up_s]; exact hG
      · rw [zc_up_n (by omega), zc_up_n (by omega)]
        exact (k1 t' ht').2 q (by omega)
    · rw [zc_up_n e]
      refine ⟨(k1 t' ht').1, fun q hq => ?_⟩
      have := (k1 t' ht').1
      rw [zc_up_n (by omega), zc_up_n (by omega)]
      exact (k1 t' ht').2 q hq
  · unfold upd zc_up
    split
    · exact hx
    · exact k2 i hi
  · unfold upd zc_up
    split
    · exact hy
    · exact k3 i hi
  · unfold upd zc_up
    split
    · exact hz
    · exact k4 i hi
theorem zr_up_same {f : Nat → Int32} {k : Nat} {x : Int32} (h : f k = x) : upd f k x = f := by
  funext j
  unfold upd
  split
  · rename_i e; rw [e, h]
  · rfl
theorem i_vc_add {k : Nat} {u : SX} {v : SY} (I : i_Rel k u v) (hk : k + 5 ≤ 2560) (v1 : Int32) (v2 : Int32) (v3 : Int32) : wpX_add (fun r u' => wpY_add (fun r' v' => r' = r ∧ i_Rel (k + 5) u' v') v v1 v2 v3) u v1 v2 v3 := by
  obtain ⟨f_steps, f_foundCount, a_ops, a_args, a_codeLength, a_trail, a_cell, a_found, a_cameFrom, a_cameBy, a_distance, a_slots, a_isEnding, a_walkState, a_walkLeft, a_walkAsleep⟩ := u
  obtain ⟨f_steps1, f_count1, f_known1, f_different1, a_ops1, a_args1, a_length1, a_path1, a_list1, a_next1, a_table1, a_far1, a_found1, a_who1, a_what1, a_before1, a_tried1⟩ := v
  obtain ⟨o, g, L, n, h, hX, hY, e1, e2, hn, hh, hkn⟩ := I
  have I' : zr_P f_steps a_ops a_args a_codeLength a_trail f_steps1 f_count1 f_known1 a_ops1 a_args1 a_length1 a_path1 a_list1 a_next1 := ⟨o, g, L, n, h, hX, hY, e1, e2, hn, hh, hkn⟩
  unfold wpX_add
  refine zx_isThread (fun t ht e => br_f (by decide) ?_) (fun hno => br_t rfl ?_)
  rotate_left
  · unfold wpY_add
    exact zy_within (a := 0) (b := 2) rfl rfl (by omega) (by omega) (fun t _ ht e => absurd e (hno t (by omega))) (fun _ => br_t rfl ⟨rfl, I'⟩)
  subst e
  have hL := (hX.1 t ht).1
  refine zx_isInstruction (fun m b em eb hG => br_f (by decide) ?_) (fun hno => br_t rfl ?_)
  rotate_left
  · unfold wpY_add
    refine zy_within (a := 0) (b := 2) rfl rfl (by omega) (by omega) (fun t' _ ht' e => br_f (by decide) ?_) (fun hno' => absurd rfl (hno' t (by omega) (by omega)))
    exact zy_isGood (fun m b em eb hG => absurd ⟨m, b, em, eb, hG⟩ hno) (fun _ => br_t rfl ⟨rfl, I'⟩)
  have it : vp_in (nI t) 3 := vp_in_nI ht (by omega)
  have ec : (nI t).toNatClampNeg = t := nI_clamp (by omega)
  refine And.intro it (pk_lt (L t) 5 (fun hlt => ?_) (fun hge => ?_) (zx_ln hX rfl ht) rfl (by omega) (by omega))
  · have eX := zx_ln hX (rfl : nI t = nI t) ht
    have eY := zx_ln hY (rfl : nI t = nI t) ht
    refine And.intro it (And.intro it (nm_e (And.intro it ?_)))
    have hX' := zr_C_up (x := v2) (y := v3) (z := a_codeLength (nI t).toNatClampNeg + 1) hX ht hlt (Nat.le_refl _) hG (n := L t + 1) (Or.inr ⟨rfl, rfl⟩) (by omega) em eb (by rw [eX, nI_1])
    have hY' := zr_C_up (x := v2) (y := v3) (z := a_length1 (nI t).toNatClampNeg + 1) hY ht hlt (Nat.le_refl _) hG (n := L t + 1) (Or.inr ⟨rfl, rfl⟩) (by omega) em eb (by rw [eY, nI_1])
    have ei : nI t * 5 + (upd a_codeLength (nI t).toNatClampNeg (a_codeLength (nI t).toNatClampNeg + 1) (nI t).toNatClampNeg - 1) = nI (5 * t + L t) := by
      rw [pk_us, eX, nI_1, nI_pred, zx_pc]
    unfold wpX_write
    refine And.intro (pk_in _ 15 (by omega) ei) (nm_e (And.intro (pk_in _ 15 (by omega) ei) (nm_e ?_)))
    rw [ei, nI_clamp (show 5 * t + L t < 2 ^ 31 by omega)]
    rw [ec] at hX' hY' ⊢
    refine zx_returnToFirst hX' fun cell => And.intro it ?_
    unfold wpY_add
    refine zy_within (a := 0) (b := 2) rfl rfl (by omega) (by omega) (fun t' _ ht' e => br_f (by decide) ?_) (fun hno' => absurd rfl (hno' t (by omega) (by omega)))
    refine zy_isGood (fun m b em eb hG => br_f (by decide) ?_) (fun hno => absurd ⟨m, b, em, eb, hG⟩ hno)
    refine And.intro it (pk_eq (L t) 5 (fun h5 => by omega) (fun h5 => ?_) eY rfl (by omega) (by omega))
    have ej : 5 * nI t + a_length1 (nI t).toNatClampNeg = nI (5 * t + L t) := by rw [eY, zy_pc]
    refine And.intro it (And.intro it (nm_e (nm_r ej (And.intro (vp_in_nI (by omega) (by omega)) (nm_e (And.intro (vp_in_nI (by omega) (by omega)) (nm_e ?_)))))))
    rw [nI_clamp (show 5 * t + L t < 2 ^ 31 by omega), ec]
    refine zy_reset hY' (And.intro it ⟨?_, zr_new hX' hY'⟩)
    rw [pk_us, pk_us]
    rw [ec] at eX eY
    rw [eX, eY]
  · unfold wpY_add
    refine zy_within (a := 0) (b := 2) rfl rfl (by omega) (by omega) (fun t' _ ht' e => br_f (by decide) ?_) (fun hno' => absurd rfl (hno' t (by omega) (by omega)))
    refine zy_isGood (fun m b em eb hG => br_f (by decide) ?_) (fun hno => absurd ⟨m, b, em, eb, hG⟩ hno)
    exact And.intro it (pk_eq (L t) 5 (fun h5 => ⟨rfl, I'⟩) (fun h5 => by omega) (zx_ln hY rfl ht) rfl (by omega) (by omega))
theorem i_vc_clear {k : Nat} {u : SX} {v : SY} (I : i_Rel k u v) (hk : k + 5 ≤ 2560) (v1 : Int32) : wpX_clear (fun r u' => wpY_clear (fun r' v' => r' = r ∧ i_Rel (k + 5) u' v') v v1) u v1 := by
  obtain ⟨f_steps, f_foundCount, a_ops, a_args, a_codeLength, a_trail, a_cell, a_found, a_cameFrom, a_cameBy, a_distance, a_slots, a_isEnding, a_walkState, a_walkLeft, a_walkAsleep⟩ := u
  obtain ⟨f_steps1, f_count1, f_known1, f_different1, a_ops1, a_args1, a_length1, a_path1, a_list1, a_next1, a_table1, a_far1, a_found1, a_who1, a_what1, a_before1, a_tried1⟩ := v
  obtain ⟨o, g, L, n, h, hX, hY, e1, e2, hn, hh, hkn⟩ := I
  have I' : zr_P f_steps a_ops a_args a_codeLength a_trail f_steps1 f_count1 f_known1 a_ops1 a_args1 a_length1 a_path1 a_list1 a_next1 := ⟨o, g, L, n, h, hX, hY, e1, e2, hn, hh, hkn⟩
  unfold wpX_clear
  refine zx_isThread (fun t ht e => br_f (by decide) ?_) (fun hno => br_t rfl ?_)
  rotate_left
  · unfold wpY_clear
    exact zy_within (a := 0) (b := 2) rfl rfl (by omega) (by omega) (fun t _ ht e => absurd e (hno t (by omega))) (fun _ => br_t rfl ⟨rfl, I'⟩)
  subst e
  have it : vp_in (nI t) 3 := vp_in_nI ht (by omega)
  have ec : (nI t).toNatClampNeg = t := nI_clamp (by omega)
  have cl : ∀ {ops args len : Nat → Int32}, zx_C o g L ops args len → zx_C o g (zc_up L t 0) ops args (upd len t 0) := by
    intro ops args len hC
    refine ⟨fun t' ht' => ?_, hC.2.1, hC.2.2.1, fun i hi => ?_⟩
    · by_cases e : t' = t
      · subst e; rw [zc_up_s]; exact ⟨by omega, fun p hp => by omega⟩
      · rw [zc_up_n e]; exact hC.1 t' ht'
    · unfold upd zc_up
      split
      · rfl
      · exact hC.2.2.2 i hi
  refine And.intro it (nm_r (zx_ln hX rfl ht) (And.intro it (nm_e ?_)))
  rw [ec]
  refine zx_returnToFirst (cl hX) fun cell => ?_
  show wpY_clear _ _ _
  unfold wpY_clear
  refine zy_within (a := 0) (b := 2) rfl rfl (by omega) (by omega) (fun t' _ ht' e => br_f (by decide) ?_) (fun hno' => absurd rfl (hno' t (by omega) (by omega)))
  refine And.intro it (nm_r (zx_ln hY rfl ht) (And.intro it (nm_e ?_)))
  rw [ec]
  exact zy_reset (cl hY) ⟨rfl, zr_new (cl hX) (cl hY)⟩
theorem i_vc_change {k : Nat} {u : SX} {v : SY} (I : i_Rel k u v) (hk : k + 5 ≤ 2560) (v1 : Int32) (v2 : Int32) (v3 : Int32) (v4 : Int32) : wpX_change (fun r u' => wpY_change (fun r' v' => r' = r ∧ i_Rel (k + 5) u' v') v v1 v2 v3 v4) u v1 v2 v3 v4 := by
  obtain ⟨f_steps, f_foundCount, a_ops, a_args, a_codeLength, a_trail, a_cell, a_found, a_cameFrom, a_cameBy, a_distance, a_slots, a_isEnding, a_walkState, a_walkLeft, a_walkAsleep⟩ := u
  obtain ⟨f_steps1, f_count1, f_known1, f_different1, a_ops1, a_args1, a_length1, a_path1, a_list1, a_next1, a_table1, a_far1, a_found1, a_who1, a_what1, a_before1, a_tried1⟩ := v
  obtain ⟨o, g, L, n, h, hX, hY, e1, e2, hn, hh, hkn⟩ := I
  have I' : zr_P f_steps a_ops a_args a_codeLength a_trail f_steps1 f_count1 f_known1 a_ops1 a_args1 a_length1 a_path1 a_list1 a_next1 := ⟨o, g, L, n, h, hX, hY, e1, e2, hn, hh, hkn⟩
  unfold wpX_change
  refine zx_isThread (fun t ht e => br_f (by decide) ?_) (fun hno => br_t rfl ?_)
  rotate_left
  · show wpY_change _ _ _ _ _ _
    unfold wpY_change
    exact zy_within (a := 0) (b := 2) rfl rfl (by omega) (by omega) (fun t _ ht e => absurd e (hno t (by omega))) (fun _ => br_t rfl ⟨rfl, I'⟩)
  subst e
  have it : vp_in (nI t) 3 := vp_in_nI ht (by omega)
  have ec : (nI t).toNatClampNeg = t := nI_clamp (by omega)
  have hL := (hX.1 t ht).1
  -- the reference refuses
  have no : ((¬ ∃ m b, v3 = nI m ∧ v4 = nI b ∧ zc_G m b) ∨ v2 < 0 ∨ (∃ q, q < 2 ^ 31 ∧ v2 = nI q ∧ L t ≤ q)) → wpY_change (fun r' v' => r' = 0 ∧ i_Rel (k + 5) (f_steps, f_foundCount, a_ops, a_args, a_codeLength, a_trail, a_cell, a_found, a_cameFrom, a_cameBy, a_distance, a_slots, a_isEnding, a_walkState, a_walkLeft, a_walkAsleep) v') (f_steps1, f_count1, f_known1, f_different1, a_ops1, a_args1, a_length1, a_path1, a_list1, a_next1, a_table1, a_far1, a_found1, a_who1, a_what1, a_before1, a_tried1) (nI t) v2 v3 v4 := by
    intro hno
    unfold wpY_change
    refine zy_within (a := 0) (b := 2) rfl rfl (by omega) (by omega) (fun t' _ ht' e => br_f (by decide) ?_) (fun hno' => absurd rfl (hno' t (by omega) (by omega)))
    refine br_c (fun _ => ⟨rfl, I'⟩) (fun h0 => And.intro it ?_)
    obtain ⟨q, hq, rfl⟩ := nI_of h0
    refine pk_le (L t) q (fun _ => ⟨rfl, I'⟩) (fun hlt => ?_) (zx_ln hY rfl ht) rfl (by omega) (by omega)
    refine zy_isGood (fun m b em eb hG => ?_) (fun _ => br_t rfl ⟨rfl, I'⟩)
    rcases hno with hno | hno | ⟨q', hq', e, hle⟩
    · exact absurd ⟨m, b, em, eb, hG⟩ hno
    · exact absurd hno h0
    · have := zr_nI e hq hq'
      omega
  refine zx_isInstruction (fun m b em eb hG => br_f (by decide) ?_) (fun hno => br_t rfl (no (Or.inl hno)))
  refine br_c (fun hneg => no (Or.inr (Or.inl hneg))) (fun h0 => And.intro it ?_)
  obtain ⟨q, hq, rfl⟩ := nI_of h0
  refine pk_lt q (L t) (fun hlt => ?_) (fun hge => no (Or.inr (Or.inr ⟨q, hq, rfl, hge⟩))) rfl (zx_ln hX rfl ht) (by omega) (by omega)
  have eX := hX.2.2.2 t ht
  have eY := hY.2.2.2 t ht
  have hX' := zr_C_up (x := v3) (y := v4) (z := nI (L t)) hX ht (p := q) (by omega) (by omega) hG (n := L t) (Or.inl rfl) (by omega) em eb rfl
  have hY' := zr_C_up (x := v3) (y := v4) (z := nI (L t)) hY ht (p := q) (by omega) (by omega) hG (n := L t) (Or.inl rfl) (by omega) em eb rfl
  rw [zr_up_same eX] at hX'
  rw [zr_up_same eY] at hY'
  unfold wpX_write
  refine And.intro (pk_in _ 15 (show 5 * t + q < 15 by omega) (zx_pc t q)) (nm_e (And.intro (pk_in _ 15 (show 5 * t + q < 15 by omega) (zx_pc t q)) (nm_e ?_)))
  rw [zx_pc, nI_clamp (show 5 * t + q < 2 ^ 31 by omega)]
  refine zx_returnToFirst hX' fun cell => ?_
  show wpY_change _ _ _ _ _ _
  unfold wpY_change
  refine zy_within (a := 0) (b := 2) rfl rfl (by omega) (by omega) (fun t' _ ht' e => br_f (by decide) ?_) (fun hno' => absurd rfl (hno' t (by omega) (by omega)))
  refine br_f h0 (And.intro it (pk_le (L t) q (fun h => by omega) (fun _ => ?_) (zx_ln hY rfl ht) rfl (by omega) (by omega)))
  refine zy_isGood (fun _ _ _ _ _ => br_f (by decide) ?_) (fun hno => absurd ⟨m, b, em, eb, hG⟩ hno)
  refine And.intro (pk_in _ 15 (show 5 * t + q < 15 by omega) (zy_pc t q)) (nm_e (And.intro (pk_in _ 15 (show 5 * t + q < 15 by omega) (zy_pc t q)) (nm_e ?_)))
  rw [zy_pc, nI_clamp (show 5 * t + q < 2 ^ 31 by omega)]
  exact zy_reset hY' ⟨rfl, zr_new hX' hY'⟩
