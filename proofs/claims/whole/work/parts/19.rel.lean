/-! the first state on both sides; instructions -/
section
variable {o g L : Nat → Nat}
def zr_0 (L : Nat → Nat) : Nat → Nat := zc_up (zc_up (zc_up (fun _ => 0) 7 (zc_pl L 0 0)) 8 (zc_pl L 1 0)) 9 (zc_pl L 2 0)
theorem zr_0_7 {t : Nat} (ht : t < 3) : zr_0 L (7 + t) = zc_pl L t 0 := by
  have : t = 0 ∨ t = 1 ∨ t = 2 := by omega
  rcases this with e | e | e <;> subst e <;> rfl
theorem zr_0_n {j : Nat} (h : j < 7 ∨ 10 ≤ j) : zr_0 L j = 0 := by
  unfold zr_0
  rw [zc_up_n (by omega), zc_up_n (by omega), zc_up_n (by omega)]
theorem zr_0_V (hK : zc_K o g L) : zc_V o L (zr_0 L) := by
  refine ⟨fun j hj => ?_, fun t ht => ?_, fun l hl => ?_, fun t ht => Or.inl ?_, ?_, fun j hj => ?_⟩
  · rw [zr_0_n (by omega)]; omega
  · rw [zr_0_7 ht]; exact zc_pl_v _
  · rw [zr_0_n (by omega)]; omega
  · exact zr_0_n (by omega)
  · rw [zr_0_n (by omega)]; omega
  · exact zr_0_n (by omega)
end
section
variable {o g L : Nat → Nat} {f_steps f_foundCount : Int32} {a_ops a_args a_codeLength a_cell a_cameFrom a_cameBy a_distance a_slots a_isEnding a_walkLeft a_walkAsleep : Nat → Int32} {a_trail a_found a_walkState : Nat → Int64}
theorem zx_ret23 {post : SX → Prop} (hC : zx_C o g L a_ops a_args a_codeLength)
    (hp : ∀ cell, post (0, f_foundCount, a_ops, a_args, a_codeLength, vp_updL a_trail 0 (lN (zp_X (zr_0 L))), cell, a_found, a_cameFrom, a_cameBy, a_distance, a_slots, a_isEnding, a_walkState, a_walkLeft, a_walkAsleep)) (hE : zx_E (fun _ => 0) a_cell) :
    ∃ n, wX_returnToFirst_23 post n 0 f_steps f_foundCount a_ops a_args a_codeLength a_trail a_cell a_found a_cameFrom a_cameBy a_distance a_slots a_isEnding a_walkState a_walkLeft a_walkAsleep := by
  refine ⟨4, ?_⟩
  refine br_f (by decide) (zx_place (t := 0) (n := 0) hC (by omega) hE (by omega) fun a1 h1 => nm_r (nI_1 0) ?_)
  refine br_f (by decide) (zx_place (t := 1) (n := 0) hC (by omega) h1 (by omega) fun a2 h2 => nm_r (nI_1 1) ?_)
  refine br_f (by decide) (zx_place (t := 2) (n := 0) hC (by omega) h2 (by omega) fun a3 h3 => nm_r (nI_1 2) ?_)
  refine br_t (by decide) (zx_packed (c := zr_0 L) h3 (zp_bX (zx_L5 hC) (zr_0_V hC.1)) (nm_e (hp a3)))
theorem zx_returnToFirst {post : SX → Prop} (hC : zx_C o g L a_ops a_args a_codeLength)
    (hp : ∀ cell, post (0, f_foundCount, a_ops, a_args, a_codeLength, vp_updL a_trail 0 (lN (zp_X (zr_0 L))), cell, a_found, a_cameFrom, a_cameBy, a_distance, a_slots, a_isEnding, a_walkState, a_walkLeft, a_walkAsleep)) : wpX_returnToFirst post (f_steps, f_foundCount, a_ops, a_args, a_codeLength, a_trail, a_cell, a_found, a_cameFrom, a_cameBy, a_distance, a_slots, a_isEnding, a_walkState, a_walkLeft, a_walkAsleep) := by
  have key : ∀ d i (a' : Nat → Int32), i + d = 16 → (∀ j, j < i → a' j = nI 0) → wX_returnToFirst_2 post f_steps f_foundCount (d + 1) (nI i) a_ops a_args a_codeLength a_trail a' a_found a_cameFrom a_cameBy a_distance a_slots a_isEnding a_walkState a_walkLeft a_walkAsleep := by
    intro d
    induction d with
    | zero =>
      intro i a' hi ha
      have e : i = 16 := by omega
      subst e
      exact br_t (by decide) (zx_ret23 hC hp ha)
    | succ d ih =>
      intro i a' hi ha
      refine br_f (nI_ge (b := 16) (by omega) (by decide)) (And.intro (vp_in_nI (by omega) (by omega)) (nm_e (nm_r (nI_1 i) (ih (i + 1) _ (by omega) fun j hj => ?_))))
      rw [nI_clamp (by omega)]
      unfold upd
      by_cases e : j = i
      · rw [if_pos e]; rfl
      · rw [if_neg e]; exact ha j (by omega)
  exact ⟨17, key 16 0 a_cell rfl fun j hj => by omega⟩
/-- an instruction, or not -/
theorem zx_isInstruction {post : Int32 → Prop} {op a : Int32} (h1 : ∀ m b, op = nI m → a = nI b → zc_G m b → post 1) (h0 : (¬ ∃ m b, op = nI m ∧ a = nI b ∧ zc_G m b) → post 0) :
    wpX_isInstruction post op a := by
  have bad : ∀ {m b : Nat}, m < 2 ^ 31 → b < 2 ^ 31 → ¬ zc_G m b → (¬ ∃ m' b', nI m = nI m' ∧ nI b = nI b' ∧ zc_G m' b') := by
    rintro m b hm hb hg ⟨m', b', e1, e2, hG⟩
    have := (nI_eq hm (by have := hG.1; omega)).mp e1
    have := (nI_eq hb (by have := hG.2.1; omega)).mp e2
    subst m' b'
    exact hg hG
  unfold wpX_isInstruction
  refine br_c (fun hn => h0 ?_) (fun hn => ?_)
  · rintro ⟨m, b, e1, _, hG⟩
    rw [e1] at hn
    exact nI_pos (by have := hG.1; omega) hn
  obtain ⟨m, hm, rfl⟩ := nI_of hn
  refine pk_lt 11 m (fun h => h0 ?_) (fun h11 => ?_) rfl rfl (by omega) (by omega)
  · rintro ⟨m', b, e1, _, hG⟩
    have := (nI_eq hm (by have := hG.1; omega)).mp e1
    have := hG.1
    omega
  refine br_c (fun ha => ?_) (fun ha => h0 ?_)
  rotate_left
  · rintro ⟨m', b, _, e2, hG⟩
    rw [e2] at ha
    exact ha (nI_pos' (by have := hG.2.1; omega))
  obtain ⟨b, hb, rfl⟩ := nI_of (x := a) (Int32.not_lt.mpr ha)
  refine zx_isOfVariable h11 (fun h4 => br_f (by decide) ?_) (fun h4 => br_t rfl ?_)
  · exact pk_le 4 b (fun h => h0 (bad hm hb fun hG => by have := hG.2.2.1 h4; omega)) (fun h => h1 m b rfl rfl ⟨h11, by omega, by omega, by omega, by omega⟩) rfl rfl (by omega) (by omega)
  · refine zx_isOfLock h11 (fun hl => br_f (by decide) ?_) (fun hl => br_t rfl ?_)
    · exact pk_le 2 b (fun h => h0 (bad hm hb fun hG => by have := hG.2.2.2.1 hl; omega)) (fun h => h1 m b rfl rfl ⟨h11, by omega, by omega, by omega, by omega⟩) rfl rfl (by omega) (by omega)
    · refine pk_eq m 6 (fun e6 => ?_) (fun e6 => ?_) rfl rfl (by omega) (by omega)
      · refine pk_lt b 1 (fun h => h0 (bad hm hb fun hG => by have := hG.2.2.2.2 e6; omega)) (fun h => ?_) rfl rfl (by omega) (by omega)
        exact pk_lt 3 b (fun h => h0 (bad hm hb fun hG => by have := hG.2.2.2.2 e6; omega)) (fun h' => h1 m b rfl rfl ⟨h11, by omega, by omega, by omega, by omega⟩) rfl rfl (by omega) (by omega)
      · exact pk_le 8 b (fun h => h0 (bad hm hb fun hG => by have := hG.2.1; omega)) (fun h => h1 m b rfl rfl ⟨h11, by omega, by omega, by omega, by omega⟩) rfl rfl (by omega) (by omega)
theorem zx_isThread {post : Int32 → Prop} {x : Int32} (h1 : ∀ t, t < 3 → x = nI t → post 1) (h0 : (∀ t, t < 3 → x ≠ nI t) → post 0) : wpX_isThread post x := by
  refine br_c (fun hn => h0 fun t ht e => ?_) (fun hn => ?_)
  · rw [e] at hn; exact nI_pos (by omega) hn
  obtain ⟨m, hm, rfl⟩ := nI_of hn
  exact pk_le 3 m (fun h => h0 fun t ht e => by have := (nI_eq hm (by omega)).mp e; omega) (fun h => h1 m (by omega) rfl) rfl rfl (by omega) (by omega)
theorem zx_isPlace {post : Int32 → Prop} {x : Int32} (h1 : ∀ t, t ≤ 5 → x = nI t → post 1) (h0 : (∀ t, t ≤ 5 → x ≠ nI t) → post 0) : wpX_isPlace post x := by
  refine br_c (fun hn => h0 fun t ht e => ?_) (fun hn => ?_)
  · rw [e] at hn; exact nI_pos (by omega) hn
  obtain ⟨m, hm, rfl⟩ := nI_of hn
  exact pk_lt 5 m (fun h => h0 fun t ht e => by have := (nI_eq hm (by omega)).mp e; omega) (fun h => h1 m (by omega) rfl) rfl rfl (by omega) (by omega)
end
section
variable {o g L : Nat → Nat} {f_steps f_count f_known f_different : Int32} {a_ops a_args a_length a_next a_table a_far a_found a_who a_what a_tried : Nat → Int32} {a_path a_list a_before : Nat → Int64}
theorem zy_within {post : Int32 → Prop} {x lo hi : Int32} {a b : Nat} (hlo : lo = nI a) (hhi : hi = nI b) (hb : b < 2 ^ 30) (ha : a < 2 ^ 31) (h1 : ∀ t, a ≤ t → t ≤ b → x = nI t → post 1) (h0 : (∀ t, a ≤ t → t ≤ b → x ≠ nI t) → post 0) :
    wpY_within post x lo hi := by
  subst hlo hhi
  rcases pk_ix x (n := b + 1) (by omega) with hx | hx | ⟨j, hj, rfl⟩
  · refine br_t ?_ (h0 fun t _ ht e => ?_)
    · rw [Int32.lt_iff_toInt_lt] at hx ⊢
      rw [nI_toInt ha]
      have : (0 : Int32).toInt = 0 := by decide
      omega
    · rw [e] at hx; exact nI_pos (by omega) hx
  · have hn : ¬ x < 0 := fun h => by
      rw [Int32.lt_iff_toInt_lt] at h
      rw [Int32.le_iff_toInt_le, nI_toInt (by omega)] at hx
      have : (0 : Int32).toInt = 0 := by decide
      omega
    obtain ⟨m, hm, rfl⟩ := nI_of hn
    have hm2 := (nI_leI (by omega) hm).mp hx
    have hno : ∀ t, a ≤ t → t ≤ b → nI m ≠ nI t := fun t _ ht e => by have := (nI_eq hm (by omega)).mp e; omega
    exact pk_lt m a (fun _ => h0 hno) (fun _ => pk_lt b m (fun _ => h0 hno) (fun h => by omega) rfl rfl (by omega) (by omega)) rfl rfl (by omega) (by omega)
  · refine pk_lt j a (fun h => h0 fun t ht _ e => ?_) (fun h => pk_lt b j (fun h => by omega) (fun _ => h1 j (by omega) (by omega) rfl) rfl rfl (by omega) (by omega)) rfl rfl (by omega) (by omega)
    have := (nI_eq (by omega) (by omega)).mp e
    omega
theorem zy_nb1 : narrow .boolean (.int 1) = .int 1 := lw_bz_n 1
theorem zy_nb0 : narrow .boolean (.int 0) = .int 0 := lw_bz_n 0
theorem zy_isGood {post : Int32 → Prop} {op a : Int32} (h1 : ∀ m b, op = nI m → a = nI b → zc_G m b → post 1) (h0 : (¬ ∃ m b, op = nI m ∧ a = nI b ∧ zc_G m b) → post 0) :
    wpY_isGood post op a := by
  unfold wpY_isGood
  refine zy_within (a := 0) (b := 11) rfl rfl (by omega) (by omega) (fun m _ hm e => br_f (by decide) ?_) (fun hn => br_t rfl (h0 ?_))
  rotate_left
  · rintro ⟨m, b, e1, _, hG⟩
    exact hn m (by omega) hG.1 e1
  subst e
  have wi : ∀ (lo hi : Nat), lo ≤ hi → hi < 2 ^ 30 → (∀ b, lo ≤ b → b ≤ hi → zc_G m b) → (∀ b, zc_G m b → lo ≤ b ∧ b ≤ hi) →
      wpY_within (fun r => (narrow .boolean (.int r) = .int r ∧ (post r))) a (nI lo) (nI hi) := by
    intro lo hi _ hhi hy hn
    refine zy_within rfl rfl hhi (by omega) (fun b hb1 hb2 e => And.intro zy_nb1 (h1 m b rfl e (hy b hb1 hb2))) (fun hno => And.intro zy_nb0 (h0 ?_))
    rintro ⟨m', b, e1, e2, hG⟩
    have := (nI_eq (by omega) (by have := hG.1; omega)).mp e1
    subst this
    have := hn b hG
    exact hno b this.1 this.2 e2
  refine pk_le 4 m (fun h4 => ?_) (fun h4 => ?_) rfl rfl (by omega) (by omega)
  · refine pk_eq m 6 (fun e6 => ?_) (fun e6 => ?_) rfl rfl (by omega) (by omega)
    · exact wi 1 3 (by omega) (by omega) (fun b _ _ => ⟨hm, by omega, by omega, by omega, by omega⟩) (fun b hG => hG.2.2.2.2 e6)
    · have w7 : (m = 4 ∨ m = 5 ∨ m = 9) → wY_isGood_55 post 0 a := fun hh =>
        wi 0 7 (by omega) (by omega) (fun b _ _ => ⟨hm, by omega, by omega, by omega, by omega⟩) (fun b hG => ⟨by omega, by have := hG.2.1; omega⟩)
      refine pk_eq m 4 (fun e => w7 (by omega)) (fun e4 => ?_) rfl rfl (by omega) (by omega)
      refine pk_eq m 5 (fun e => w7 (by omega)) (fun e5 => ?_) rfl rfl (by omega) (by omega)
      refine pk_eq m 9 (fun e => w7 (by omega)) (fun e9 => ?_) rfl rfl (by omega) (by omega)
      exact wi 0 1 (by omega) (by omega) (fun b _ _ => ⟨hm, by omega, by omega, by omega, by omega⟩) (fun b hG => ⟨by omega, by have := hG.2.2.2.1 (by omega); omega⟩)
  · exact wi 0 3 (by omega) (by omega) (fun b _ _ => ⟨hm, by omega, by omega, by omega, by omega⟩) (fun b hG => ⟨by omega, by have := hG.2.2.1 h4; omega⟩)
theorem zy_or5 {d : Nat → Nat} (hd : ∀ j, d j < 2 ^ zp_w j) {t : Nat} (ht : t < 3) (h0 : d (7 + t) = 0) :
    lN (zp_Y d) ||| ((5 : Int64) <<< ((21 + (3 * nI t)).toInt64 &&& 63)) = lN (zp_Y (zc_up d (7 + t) 5)) := by
  have e5 := zp_putY hd (k := 7 + t) (v := 5) (by omega) (by rw [zy_w3 (by omega)]; decide)
  have e0 := zp_putY hd (k := 7 + t) (v := 0) (by omega) (by rw [zy_w3 (by omega)]; decide)
  have hu : zc_up d (7 + t) 0 = d := by rw [← h0]; exact zp_self
  rw [hu, Nat.zero_mul] at e0
  have ez : ∀ x : Int64, x ||| lN 0 = x := by
    intro x
    apply wb_inj
    rw [Int64.toBitVec_or, wb_tb]
    simp
  rw [ez] at e0
  rw [e0] at e5
  have es : (5 : Int64) <<< ((21 + (3 * nI t)).toInt64 &&& 63) = lN (5 * 2 ^ zp_s zp_w 0 (7 + t)) := by
    rw [zy_i21, zy_s3 (by omega)]
    exact wb_shl 5 (by omega)
  rw [es]
  exact e5
theorem zy_reset {post : SY → Prop} (hC : zx_C o g L a_ops a_args a_length)
    (hp : post (0, f_count, 0, f_different, a_ops, a_args, a_length, vp_updL a_path 0 (lN (zp_Y (zr_0 L))), a_list, a_next, a_table, a_far, a_found, a_who, a_what, a_before, a_tried)) : wpY_reset post (f_steps, f_count, f_known, f_different, a_ops, a_args, a_length, a_path, a_list, a_next, a_table, a_far, a_found, a_who, a_what, a_before, a_tried) := by
  have hK := hC.1
  have st : ∀ (n t : Nat) (d : Nat → Nat), t < 3 → (∀ j, d j < 2 ^ zp_w j) → d (7 + t) = 0 →
      wY_reset_4 post f_steps f_count f_known f_different a_ops a_args a_length a_path a_list a_next a_table a_far a_found a_who a_what a_before a_tried n (lN (zp_Y (zc_up d (7 + t) (zc_pl L t 0)))) (nI (t + 1)) → wY_reset_4 post f_steps f_count f_known f_different a_ops a_args a_length a_path a_list a_next a_table a_far a_found a_who a_what a_before a_tried (n + 1) (lN (zp_Y d)) (nI t) := by
    intro n t d ht hd h0 hw
    have hL := (hK t ht).1
    refine br_f (nI_ge (b := 3) (by omega) (by decide)) (And.intro (vp_in_nI (by omega) (by omega)) (pk_eq (L t) 0 (fun e => nm_r (zy_or5 hd ht h0) (nm_r (nI_1 t) ?_)) (fun e => nm_r (nI_1 t) ?_) (zx_ln hC rfl ht) rfl (by omega) (by omega)))
    · have ep : zc_pl L t 0 = 5 := by unfold zc_pl; rw [if_neg (by omega)]
      rw [ep] at hw
      exact hw
    · have ep : zc_pl L t 0 = 0 := by unfold zc_pl; rw [if_pos (by omega)]
      rw [ep, ← h0, zp_self] at hw
      exact hw
  have pl8 : ∀ t, t < 3 → zc_pl L t 0 < 8 := by
    intro t ht
    have := (hK t ht).1
    have := zc_pl_v (L := L) (t := t) 0
    omega
  have z0 : ∀ j, (fun _ => 0 : Nat → Nat) j < 2 ^ zp_w j := fun j => Nat.two_pow_pos _
  have b1 := zy_up3 z0 (k := 7) (v := zc_pl L 0 0) (by omega) (pl8 0 (by omega))
  have b2 := zy_up3 b1 (k := 8) (v := zc_pl L 1 0) (by omega) (pl8 1 (by omega))
  refine ⟨4, ?_⟩
  have e0 : lN (zp_Y (fun _ => 0)) = 0 := by rfl
  rw [← e0]
  refine st 3 0 _ (by omega) z0 rfl (st 2 1 _ (by omega) b1 rfl (st 1 2 _ (by omega) b2 rfl ?_))
  exact br_t (by decide) (nm_e hp)
end
