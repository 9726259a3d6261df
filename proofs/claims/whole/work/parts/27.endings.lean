/-! endings -/
noncomputable def ze_v (L c : Nat → Nat) : Nat := c 0 + 8 * c 1 + 64 * c 2 + 512 * c 3 + (if c 15 = 0 then 0 else 4096) + @ite _ (zs_done L c) (Classical.propDecidable _) 0 8192
noncomputable def ze_m (o g L : Nat → Nat) (l : List (Nat → Nat)) : Nat → Nat → Nat
  | 0 => fun _ => 0
  | i + 1 => @ite _ (zt_end o g L (zb_at l i)) (Classical.propDecidable _) (zc_up (ze_m o g L l i) (ze_v L (zb_at l i)) 1) (ze_m o g L l i)
section
variable {o g L c : Nat → Nat} {l : List (Nat → Nat)}
theorem ze_v_lt (hB : ∀ j, c j < 8) : ze_v L c < 16384 := by
  have b0 := hB 0
  have b1 := hB 1
  have b2 := hB 2
  have b3 := hB 3
  unfold ze_v
  have h1 : (if c 15 = 0 then 0 else 4096) ≤ 4096 := by split <;> omega
  have h2 : @ite _ (zs_done L c) (Classical.propDecidable _) 0 8192 ≤ 8192 := by
    by_cases h : zs_done L c
    · rw [if_pos h]; omega
    · rw [if_neg h]; omega
  omega
theorem ze_m_y {i : Nat} (h : zt_end o g L (zb_at l i)) : ze_m o g L l (i + 1) = zc_up (ze_m o g L l i) (ze_v L (zb_at l i)) 1 := if_pos h
theorem ze_m_n {i : Nat} (h : ¬ zt_end o g L (zb_at l i)) : ze_m o g L l (i + 1) = ze_m o g L l i := if_neg h
theorem ze_m_1 (i e : Nat) : ze_m o g L l i e ≤ 1 := by
  induction i with
  | zero => exact Nat.zero_le _
  | succ i ih =>
    by_cases h : zt_end o g L (zb_at l i)
    · rw [ze_m_y h]
      unfold zc_up
      split
      · omega
      · exact ih
    · rw [ze_m_n h]; exact ih
theorem zh_c_le (q : Nat → Nat) : ∀ m, zh_c q m ≤ m := by
  intro m
  induction m with
  | zero => exact Nat.le_refl _
  | succ m ih =>
    show zh_c q m + (if q m = 0 then 0 else 1) ≤ m + 1
    split <;> omega
end
theorem ze_b1 : vp_nar .boolean 1 = 1 := by decide
theorem ze_b0 : vp_nar .boolean 0 = 0 := by decide
section
variable {o g L c : Nat → Nat} {l : List (Nat → Nat)} {f_steps f_foundCount : Int32} {a_ops a_args a_codeLength a_cell a_cameFrom a_cameBy a_distance a_slots a_isEnding a_walkLeft a_walkAsleep : Nat → Int32} {a_trail a_found a_walkState : Nat → Int64}
theorem zx_endingHere {post : Int32 → Prop} (hC : zx_C o g L a_ops a_args a_codeLength) (hE : zx_E c a_cell) (hB : ∀ j, c j < 8) (hp : post (nI (ze_v L c))) : wpX_endingHere post (f_steps, f_foundCount, a_ops, a_args, a_codeLength, a_trail, a_cell, a_found, a_cameFrom, a_cameBy, a_distance, a_slots, a_isEnding, a_walkState, a_walkLeft, a_walkAsleep) := by
  have b0 := hB 0
  have b1 := hB 1
  have b2 := hB 2
  have b3 := hB 3
  have b15 := hB 15
  have st : ∀ (x k : Nat), k < 16 → nI x * 8 + a_cell (nI k).toNatClampNeg = nI (x * 8 + c k) := by
    intro x k hk
    rw [zx_at hE rfl hk]
    have e : nI x * 8 = nI (x * 8) := pk_mul x 8
    rw [e, nI_add]
  have fin : ∀ (x z : Nat), z = (if c 15 = 0 then 0 else 4096) → x = c 0 + 8 * c 1 + 64 * c 2 + 512 * c 3 → wX_endingHere_43 post (nI x) (nI z) f_steps f_foundCount a_ops a_args a_codeLength a_trail a_cell a_found a_cameFrom a_cameBy a_distance a_slots a_isEnding a_walkState a_walkLeft a_walkAsleep := by
    intro x z hz hx
    refine zx_haveAllEnded hC hE hB (fun hd => br_f (by decide) ?_) (fun hd => br_t rfl ?_)
    · have e1 : nI x + nI z + 0 = nI (x + z + 0) := by rw [nI_add]; exact nI_add _ 0
      have e2 : x + z + 0 = ze_v L c := by unfold ze_v; rw [if_pos (c := zs_done L c) hd, hx, hz]
      rw [e1, e2]; exact hp
    · have e1 : nI x + nI z + 8192 = nI (x + z + 8192) := by rw [nI_add]; exact nI_add _ 8192
      have e2 : x + z + 8192 = ze_v L c := by unfold ze_v; rw [if_neg (c := zs_done L c) hd, hx, hz]
      rw [e1, e2]; exact hp
  refine ⟨5, ?_⟩
  refine br_f (by decide) (And.intro (vp_in_nI (n := 3) (by omega) (by omega)) (nm_r (st 0 3 (by omega)) (nm_r (pk_m1 2) ?_)))
  refine br_f (by decide) (And.intro (vp_in_nI (n := 2) (by omega) (by omega)) (nm_r (st _ 2 (by omega)) (nm_r (pk_m1 1) ?_)))
  refine br_f (by decide) (And.intro (vp_in_nI (n := 1) (by omega) (by omega)) (nm_r (st _ 1 (by omega)) (nm_r (pk_m1 0) ?_)))
  refine br_f (by decide) (And.intro (vp_in_nI (n := 0) (by omega) (by omega)) (nm_r (st _ 0 (by omega)) (nm_e ?_)))
  refine br_t (by decide) (pk_eq (c 15) 0 (fun e => ?_) (fun e => ?_) (hE 15 (by omega)) rfl (by omega) (by omega))
  · exact fin _ 0 (by rw [if_pos e]) (by omega)
  · exact fin _ 4096 (by rw [if_neg e]) (by omega)
theorem zx_mark26 {post : Int32 → SX → Prop} (hC : zx_C o g L a_ops a_args a_codeLength) (hV : ∀ x, x ∈ l → zc_V o L x) (hlen : l.length ≤ 1201)
    (hf : ∀ i, i < l.length → a_found i = lN (zp_X (zb_at l i)))
    (hp : ∀ (cell ie : Nat → Int32), (∀ e, e < 16384 → ie e = nI (ze_m o g L l l.length e)) → post (nI (zh_c (ze_m o g L l l.length) 16384)) (f_steps, nI l.length, a_ops, a_args, a_codeLength, a_trail, cell, a_found, a_cameFrom, a_cameBy, a_distance, a_slots, ie, a_walkState, a_walkLeft, a_walkAsleep)) :
    ∀ d i (cell ie : Nat → Int32), i + d = l.length → (∀ e, e < 16384 → ie e = nI (ze_m o g L l i e)) →
      wX_markEndings_26 post (d + 1) (nI (zh_c (ze_m o g L l i) 16384)) (nI i) f_steps (nI l.length) a_ops a_args a_codeLength a_trail cell a_found a_cameFrom a_cameBy a_distance a_slots ie a_walkState a_walkLeft a_walkAsleep := by
  intro d
  induction d with
  | zero =>
    intro i cell ie hi hm
    have e : i = l.length := by omega
    subst e
    exact pk_le l.length l.length (fun _ => hp cell ie hm) (fun h => by omega) rfl rfl (by omega) (by omega)
  | succ d ih =>
    intro i cell ie hi hm
    have hil : i < l.length := by omega
    have hVi := hV _ (zb_at_mem hil)
    have hB := zp_bX (zx_L5 hC) hVi
    have ef : a_found (nI i).toNatClampNeg = lN (zp_X (zb_at l i)) := by rw [nI_clamp (by omega)]; exact hf i hil
    refine pk_le l.length i (fun h => by omega) (fun h => And.intro (vp_in_nI (by omega) (by omega)) (zx_unpack' ef hB fun a1 ha1 => ?_)) rfl rfl (by omega) (by omega)
    refine zx_readyThreads hC hVi ha1 fun m hM => pk_eq m 0 (fun em => ?_) (fun em => nm_r (nI_1 i) ?_) rfl rfl (by have := hM.1; omega) (by omega)
    · have hend : zt_end o g L (zb_at l i) := (zx_M_0 hM).mp em
      have hv := ze_v_lt (L := L) hB
      refine zx_endingHere hC ha1 hB (And.intro (vp_in_nI (by omega) (by omega)) ?_)
      have ec : (nI (ze_v L (zb_at l i))).toNatClampNeg = ze_v L (zb_at l i) := nI_clamp (by omega)
      have m1 := ze_m_1 (o := o) (g := g) (L := L) (l := l) i (ze_v L (zb_at l i))
      have hie : ie (nI (ze_v L (zb_at l i))).toNatClampNeg = nI (ze_m o g L l i (ze_v L (zb_at l i))) := by rw [ec]; exact hm _ hv
      have cl := zh_c_le (ze_m o g L l i) 16384
      have up : ∀ e, e < 16384 → upd ie (nI (ze_v L (zb_at l i))).toNatClampNeg (vp_nar .boolean 1) e = nI (ze_m o g L l (i + 1) e) := by
        intro e he
        rw [ec, ze_b1, ze_m_y hend]
        unfold upd zc_up
        split
        · rfl
        · exact hm e he
      refine pk_eq (ze_m o g L l i (ze_v L (zb_at l i))) 0 (fun e0 => ?_) (fun e0 => ?_) hie rfl (by omega) (by omega)
      · refine nm_r (e' := nI (zh_c (ze_m o g L l (i + 1)) 16384)) ?_ (And.intro (vp_in_nI (by omega) (by omega)) (nm_e (nm_r (nI_1 i) (ih (i + 1) a1 _ (by omega) up))))
        rw [ze_m_y hend, zh_c_up e0 (by omega), if_pos hv]
        exact nI_1 _
      · refine nm_r (e' := nI (zh_c (ze_m o g L l (i + 1)) 16384)) ?_ (And.intro (vp_in_nI (by omega) (by omega)) (nm_e (nm_r (nI_1 i) (ih (i + 1) a1 _ (by omega) up))))
        have e1 : ze_m o g L l i (ze_v L (zb_at l i)) = 1 := by omega
        have e2 : zc_up (ze_m o g L l i) (ze_v L (zb_at l i)) 1 = ze_m o g L l i := by rw [← e1]; exact zp_self
        rw [ze_m_y hend, e2]
        exact nI_add _ 0
    · have hend : ¬ zt_end o g L (zb_at l i) := fun he => em ((zx_M_0 hM).mpr he)
      have := ih (i + 1) a1 ie (by omega) (by rw [ze_m_n hend]; exact hm)
      rw [ze_m_n hend] at this
      exact this
theorem zx_markEndings {post : Int32 → SX → Prop} (hC : zx_C o g L a_ops a_args a_codeLength) (hV : ∀ x, x ∈ l → zc_V o L x) (hlen : l.length ≤ 1201)
    (hf : ∀ i, i < l.length → a_found i = lN (zp_X (zb_at l i)))
    (hp : ∀ (cell ie : Nat → Int32), (∀ e, e < 16384 → ie e = nI (ze_m o g L l l.length e)) → post (nI (zh_c (ze_m o g L l l.length) 16384)) (f_steps, nI l.length, a_ops, a_args, a_codeLength, a_trail, cell, a_found, a_cameFrom, a_cameBy, a_distance, a_slots, ie, a_walkState, a_walkLeft, a_walkAsleep)) :
    wpX_markEndings post (f_steps, nI l.length, a_ops, a_args, a_codeLength, a_trail, a_cell, a_found, a_cameFrom, a_cameBy, a_distance, a_slots, a_isEnding, a_walkState, a_walkLeft, a_walkAsleep) := by
  have key : ∀ d i (ie : Nat → Int32), i + d = 16384 → (∀ e, e < i → ie e = nI 0) → wX_markEndings_2 post f_steps (nI l.length) (d + 1) (nI i) a_ops a_args a_codeLength a_trail a_cell a_found a_cameFrom a_cameBy a_distance a_slots ie a_walkState a_walkLeft a_walkAsleep := by
    intro d
    induction d with
    | zero =>
      intro i ie hi hz
      have e : i = 16384 := by omega
      subst e
      have := zx_mark26 hC hV hlen hf hp l.length 0 a_cell ie (by omega) hz
      have e0 : zh_c (ze_m o g L l 0) 16384 = 0 := zh_c_0 _ fun _ _ => rfl
      rw [e0] at this
      exact br_t (by decide) ⟨_, this⟩
    | succ d ih =>
      intro i ie hi hz
      refine br_f (nI_ge (b := 16384) (by omega) (by decide)) (And.intro (vp_in_nI (by omega) (by omega)) (nm_e (nm_r (nI_1 i) (ih (i + 1) _ (by omega) fun j hj => ?_))))
      rw [nI_clamp (by omega), ze_b0]
      unfold upd
      by_cases e : j = i
      · rw [if_pos e]; rfl
      · rw [if_neg e]; exact hz j (by omega)
  exact ⟨16385, key 16384 0 a_isEnding rfl fun j hj => by omega⟩
theorem zx_ending19 {post : Int32 → SX → Prop} {mk f : Nat → Nat} {n : Nat} {x : Int32} (hS : ze_S f n mk) (h01 : ∀ e, mk e ≤ 1) (hm : ∀ e, e < 16384 → a_isEnding e = nI (mk e)) (hn : n ≤ 1201)
    (h1 : ∀ q, q < n → x = nI q → post (nI (f q)) (f_steps, f_foundCount, a_ops, a_args, a_codeLength, a_trail, a_cell, a_found, a_cameFrom, a_cameBy, a_distance, a_slots, a_isEnding, a_walkState, a_walkLeft, a_walkAsleep)) (h0 : (∀ q, q < n → x ≠ nI q) → post (-1) (f_steps, f_foundCount, a_ops, a_args, a_codeLength, a_trail, a_cell, a_found, a_cameFrom, a_cameBy, a_distance, a_slots, a_isEnding, a_walkState, a_walkLeft, a_walkAsleep)) : ∃ n19, wX_ending_19 post x f_steps f_foundCount a_ops a_args a_codeLength a_trail a_cell a_found a_cameFrom a_cameBy a_distance a_slots a_isEnding a_walkState a_walkLeft a_walkAsleep n19 0 0 := by
  have key : ∀ d e, e + d = 16384 → (∀ q, q < n → x = nI q → e ≤ f q) → wX_ending_19 post x f_steps f_foundCount a_ops a_args a_codeLength a_trail a_cell a_found a_cameFrom a_cameBy a_distance a_slots a_isEnding a_walkState a_walkLeft a_walkAsleep (d + 1) (nI (zh_c mk e)) (nI e) := by
    intro d
    induction d with
    | zero =>
      intro e he hq
      have e16 : e = 16384 := by omega
      subst e16
      refine br_t (by decide) (h0 fun q hqn hx => ?_)
      have := hq q hqn hx
      have := (hS.2.1 q hqn).1
      omega
    | succ d ih =>
      intro e he hq
      have cl := zh_c_le mk e
      have m1 := h01 e
      have hme : a_isEnding (nI e).toNatClampNeg = nI (mk e) := by rw [nI_clamp (by omega)]; exact hm e (by omega)
      refine br_f (nI_ge (b := 16384) (by omega) (by decide)) (And.intro (vp_in_nI (by omega) (by omega)) (pk_eq (mk e) 0 (fun e0 => ?_) (fun e0 => ?_) hme rfl (by omega) (by omega)))
      · have ez : zh_c mk (e + 1) = zh_c mk e := by
          show zh_c mk e + (if mk e = 0 then 0 else 1) = _
          rw [if_pos e0]; omega
        have := ih (e + 1) (by omega) (fun q hqn hx => by
          have a := hq q hqn hx
          have b := (hS.2.1 q hqn).2
          rcases Nat.lt_or_ge e (f q) with c | c
          · exact c
          · have : f q = e := by omega
            rw [this] at b; exact absurd e0 b)
        rw [ez] at this
        exact nm_r (nI_1 e) this
      · obtain ⟨i, hi, hfi⟩ := hS.2.2 e (by omega) e0
        have hci : zh_c mk e = i := by rw [← hfi]; exact ze_nth hS hi
        refine br_c (fun hx => ?_) (fun hx => ?_)
        · rw [hci] at hx
          have := h1 i hi hx.symm
          rw [hfi] at this
          exact this
        · have ez : zh_c mk (e + 1) = zh_c mk e + 1 := by
            show zh_c mk e + (if mk e = 0 then 0 else 1) = _
            rw [if_neg e0]
          have := ih (e + 1) (by omega) (fun q hqn hxq => by
            have a := hq q hqn hxq
            rcases Nat.lt_or_ge e (f q) with c | c
            · exact c
            · exfalso
              have e1 : f q = e := by omega
              have : zh_c mk e = q := by rw [← e1]; exact ze_nth hS hqn
              rw [this] at hx
              exact hx hxq.symm)
          rw [ez] at this
          exact nm_r (nI_1 _) (nm_r (nI_1 e) this)
  exact ⟨_, key 16384 0 (by omega) fun q _ _ => Nat.zero_le _⟩
end
