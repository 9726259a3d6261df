/-! go, back, now, states -/
theorem i_vc_go {k : Nat} {u : SX} {v : SY} (I : i_Rel k u v) (hk : k + 5 ≤ 2560) (v1 : Int32) : wpX_go (fun r u' => wpY_go (fun r' v' => r' = r ∧ i_Rel (k + 5) u' v') v v1) u v1 := by
  obtain ⟨f_steps, f_foundCount, a_ops, a_args, a_codeLength, a_trail, a_cell, a_found, a_cameFrom, a_cameBy, a_distance, a_slots, a_isEnding, a_walkState, a_walkLeft, a_walkAsleep⟩ := u
  obtain ⟨f_steps1, f_count1, f_known1, f_different1, a_ops1, a_args1, a_length1, a_path1, a_list1, a_next1, a_table1, a_far1, a_found1, a_who1, a_what1, a_before1, a_tried1⟩ := v
  obtain ⟨o, g, L, n, h, hX, hY, e1, e2, hn, hh, hkn⟩ := I
  have I' : zr_P f_steps a_ops a_args a_codeLength a_trail f_steps1 f_count1 f_known1 a_ops1 a_args1 a_length1 a_path1 a_list1 a_next1 := ⟨o, g, L, n, h, hX, hY, e1, e2, hn, hh, hkn⟩
  subst e1 e2
  obtain ⟨hx, hy, hV, hps⟩ := hh n (Nat.le_refl _)
  have hB := zp_bX (zx_L5 hX) hV
  have ecn : (nI n).toNatClampNeg = n := nI_clamp (by omega)
  have ex : a_trail (nI n).toNatClampNeg = lN (zp_X (h n)) := by rw [ecn]; exact hx
  have ey : a_path1 (nI n).toNatClampNeg = lN (zp_Y (h n)) := by rw [ecn]; exact hy
  have i31 : vp_in (nI n) 31 := vp_in_nI (by omega) (by omega)
  have i32 : vp_in (nI n) 32 := vp_in_nI (by omega) (by omega)
  unfold wpX_go
  refine And.intro i31 (zx_unpack' ex hB fun a1 ha1 => ?_)
  refine zx_isThread (fun t ht e => br_f (by decide) ?_) (fun hno => br_t rfl ?_)
  rotate_left
  · show wpY_go _ _ _
    unfold wpY_go
    exact zy_within (a := 0) (b := 2) rfl rfl (by omega) (by omega) (fun t _ ht e => absurd e (hno t (by omega))) (fun _ => br_t rfl ⟨rfl, I'⟩)
  subst e
  refine zx_isReady hX hV ht ha1 (fun hR => br_f (by decide) ?_) (fun hR => br_t rfl ?_)
  rotate_left
  · show wpY_go _ _ _
    unfold wpY_go
    refine zy_within (a := 0) (b := 2) rfl rfl (by omega) (by omega) (fun t' _ ht' e => br_f (by decide) (And.intro i32 ?_)) (fun hno' => absurd rfl (hno' t (by omega) (by omega)))
    rw [ey]
    exact zy_isReady hY hV ht (fun hR' => absurd hR' hR) (fun _ => br_t rfl ⟨rfl, I'⟩)
  have hVs := zc_V_step hX.1 hV ht hR
  have hps' := zc_psi_all hX.1 hV ht hR
  have k0 := zc_psi_le hX.1 hVs (t := 0) (by omega)
  have k1 := zc_psi_le hX.1 hVs (t := 1) (by omega)
  have k2 := zc_psi_le hX.1 hVs (t := 2) (by omega)
  have hn30 : n < 30 := by omega
  have ecn1 : (nI (n + 1)).toNatClampNeg = n + 1 := nI_clamp (by omega)
  refine pk_lt n 30 (fun _ => ?_) (fun h => by omega) rfl rfl (by omega) (by omega)
  refine zx_advance hX hV ht ha1 hR fun a2 ha2 => nm_r (nI_1 n) (zx_packed ha2 (zp_bX (zx_L5 hX) hVs) (And.intro (vp_in_nI (by omega) (by omega)) (nm_e ?_)))
  show wpY_go _ _ _
  unfold wpY_go
  refine zy_within (a := 0) (b := 2) rfl rfl (by omega) (by omega) (fun t' _ ht' e => br_f (by decide) (And.intro i32 ?_)) (fun hno' => absurd rfl (hno' t (by omega) (by omega)))
  rw [ey]
  refine zy_isReady hY hV ht (fun _ => br_f (by decide) (And.intro i32 ?_)) (fun hR' => absurd hR hR')
  refine zy_after hY hV ht hR (And.intro (pk_in (n + 1) 32 (by omega) (nI_1 n)) (nm_e (nm_e ⟨nI_1 n, ?_⟩)))
  refine ⟨o, g, L, n + 1, fun i => if i = n + 1 then zc_step o g L (h n) t else h i, hX, hY, rfl, nI_1 n, by omega, fun i hi => ?_, Or.inl rfl⟩
  rw [nI_1, ecn1]
  by_cases e : i = n + 1
  · subst e
    dsimp only
    rw [pk_uLs, pk_uLs, if_pos rfl]
    exact ⟨rfl, rfl, hVs, by omega⟩
  · dsimp only
    rw [pk_uLn e, pk_uLn e, if_neg e]
    exact hh i (by omega)
theorem i_vc_back {k : Nat} {u : SX} {v : SY} (I : i_Rel k u v) (hk : k + 5 ≤ 2560) : wpX_back (fun r u' => wpY_back (fun r' v' => r' = r ∧ i_Rel (k + 5) u' v') v) u := by
  obtain ⟨f_steps, f_foundCount, a_ops, a_args, a_codeLength, a_trail, a_cell, a_found, a_cameFrom, a_cameBy, a_distance, a_slots, a_isEnding, a_walkState, a_walkLeft, a_walkAsleep⟩ := u
  obtain ⟨f_steps1, f_count1, f_known1, f_different1, a_ops1, a_args1, a_length1, a_path1, a_list1, a_next1, a_table1, a_far1, a_found1, a_who1, a_what1, a_before1, a_tried1⟩ := v
  obtain ⟨o, g, L, n, h, hX, hY, e1, e2, hn, hh, hkn⟩ := I
  have I' : zr_P f_steps a_ops a_args a_codeLength a_trail f_steps1 f_count1 f_known1 a_ops1 a_args1 a_length1 a_path1 a_list1 a_next1 := ⟨o, g, L, n, h, hX, hY, e1, e2, hn, hh, hkn⟩
  subst e1 e2
  refine pk_eq n 0 (fun e => ?_) (fun e => ?_) rfl rfl (by omega) (by omega)
  · exact pk_eq n 0 (fun _ => ⟨rfl, I'⟩) (fun e' => absurd e e') rfl rfl (by omega) (by omega)
  · have em : nI n - 1 = nI (n - 1) := pk_sub (b := 1) (by omega)
    refine nm_r em (pk_eq n 0 (fun e' => absurd e' e) (fun _ => nm_r em ⟨em, ?_⟩) rfl rfl (by omega) (by omega))
    exact ⟨o, g, L, n - 1, h, hX, hY, rfl, rfl, by omega, fun i hi => hh i (by omega), Or.inl rfl⟩
section
variable {o g L c : Nat → Nat} {f_steps f_count f_known f_different : Int32} {a_ops a_args a_length a_next a_table a_far a_found a_who a_what a_tried : Nat → Int32} {a_path a_list a_before : Nat → Int64}
theorem zy_set {post : Int32 → Prop} (hC : zx_C o g L a_ops a_args a_length) (hV : zc_V o L c)
    (hp : ∀ m, zx_M m (zc_R o g L c) → post (nI m)) : ∃ n, wY_now_111 post (lN (zp_Y c)) f_steps f_count f_known f_different a_ops a_args a_length a_path a_list a_next a_table a_far a_found a_who a_what a_before a_tried n 0 0 := by
  have key : ∀ d n m, n + d = 3 → m < 8 → (∀ u, u < 3 → (m.testBit u = true ↔ u < n ∧ zc_R o g L c u)) →
      wY_now_111 post (lN (zp_Y c)) f_steps f_count f_known f_different a_ops a_args a_length a_path a_list a_next a_table a_far a_found a_who a_what a_before a_tried (d + 1) (nI m) (nI n) := by
    intro d
    induction d with
    | zero =>
      intro n m hn hm hb
      have e : n = 3 := by omega
      subst e
      refine br_t (by decide) (hp m ⟨hm, fun u hu => ?_⟩)
      rw [hb u hu]
      exact ⟨fun h => h.2, fun h => ⟨hu, h⟩⟩
    | succ d ih =>
      intro n m hn hm hb
      refine br_f (nI_ge (b := 3) (by omega) (by decide)) (zy_isReady hC hV (by omega) (fun hR => br_f (by decide) ?_) (fun hR => br_t rfl ?_))
      · have hx := zx_M_or hm hb (by omega) hR
        exact nm_r (zx_or n (by omega) m hm) (nm_r (nI_1 n) (ih (n + 1) _ (by omega) hx.1 hx.2))
      · exact nm_r (nI_1 n) (ih (n + 1) m (by omega) hm (zx_M_no hb hR))
  exact ⟨4, key 3 0 0 rfl (by omega) (fun u hu => by simp)⟩
end
theorem i_vc_now {k : Nat} {u : SX} {v : SY} (I : i_Rel k u v) (hk : k + 5 ≤ 2560) (v1 : Int32) : wpX_now (fun r u' => wpY_now (fun r' => r' = r ∧ i_Rel (k + 5) u' v) v v1) u v1 := by
  obtain ⟨f_steps, f_foundCount, a_ops, a_args, a_codeLength, a_trail, a_cell, a_found, a_cameFrom, a_cameBy, a_distance, a_slots, a_isEnding, a_walkState, a_walkLeft, a_walkAsleep⟩ := u
  obtain ⟨f_steps1, f_count1, f_known1, f_different1, a_ops1, a_args1, a_length1, a_path1, a_list1, a_next1, a_table1, a_far1, a_found1, a_who1, a_what1, a_before1, a_tried1⟩ := v
  obtain ⟨o, g, L, n, h, hX, hY, e1, e2, hn, hh, hkn⟩ := I
  have I' : zr_P f_steps a_ops a_args a_codeLength a_trail f_steps1 f_count1 f_known1 a_ops1 a_args1 a_length1 a_path1 a_list1 a_next1 := ⟨o, g, L, n, h, hX, hY, e1, e2, hn, hh, hkn⟩
  subst e1 e2
  obtain ⟨hx, hy, hV, hps⟩ := hh n (Nat.le_refl _)
  have hB := zp_bX (zx_L5 hX) hV
  have hc := zp_bY (zx_L5 hX) hV
  have ecn : (nI n).toNatClampNeg = n := nI_clamp (by omega)
  have ex : a_trail (nI n).toNatClampNeg = lN (zp_X (h n)) := by rw [ecn]; exact hx
  have ey : a_path1 (nI n).toNatClampNeg = lN (zp_Y (h n)) := by rw [ecn]; exact hy
  have i31 : vp_in (nI n) 31 := vp_in_nI (by omega) (by omega)
  have i32 : vp_in (nI n) 32 := vp_in_nI (by omega) (by omega)
  refine br_c (fun hneg => ?_) (fun h0 => ?_)
  · exact And.intro i32 (nm_e (br_t hneg ⟨rfl, I'⟩))
  obtain ⟨w, hw, rfl⟩ := nI_of h0
  refine pk_le w 16 (fun h16 => ?_) (fun h16 => ?_) rfl rfl (by omega) (by omega)
  rotate_left
  · exact And.intro i32 (nm_e (br_f h0 (pk_le w 16 (fun h => by omega) (fun _ => ⟨rfl, I'⟩) rfl rfl (by omega) (by omega))))
  have ey0 : ∀ {P : Int64 → Prop}, P (lN (zp_Y (h n))) → ∀ x, x = a_path1 (nI n).toNatClampNeg → P x := fun hp x e => by rw [e, ey]; exact hp
  have sub : ∀ b, b ≤ w → nI w - nI b = nI (w - b) := fun b hb => pk_sub hb
  refine And.intro i31 (zx_unpack' ex hB fun a1 ha1 => ?_)
  refine pk_eq w 16 (fun e => ?_) (fun e16 => ?_) rfl rfl (by omega) (by omega)
  · refine zx_readyThreads hX hV ha1 fun m hm => ?_
    refine And.intro i32 (ey0 (br_f h0 (pk_le w 16 (fun _ => ?_) (fun h => by omega) rfl rfl (by omega) (by omega))))
    refine pk_le 4 w (fun _ => pk_le 7 w (fun _ => pk_le 10 w (fun _ => pk_le 12 w (fun _ => pk_le 15 w (fun _ => pk_eq w 15 (fun h => by omega) (fun _ => ?_) rfl rfl (by omega) (by omega)) (fun h => by omega) rfl rfl (by omega) (by omega)) (fun h => by omega) rfl rfl (by omega) (by omega)) (fun h => by omega) rfl rfl (by omega) (by omega)) (fun h => by omega) rfl rfl (by omega) (by omega)) (fun h => by omega) rfl rfl (by omega) (by omega)
    exact zy_set hY hV fun m' hm' => ⟨congrArg nI (zx_M_uniq hm' hm), I'⟩
  · -- a cell
    have fin : ∀ r, r = nI (h n w) → (¬ (10 ≤ w ∧ w < 12) → wX_now_53 (fun r u' => wpY_now (fun r' => r' = r ∧ i_Rel (k + 5) u' (nI n, f_count1, f_known1, f_different1, a_ops1, a_args1, a_length1, a_path1, a_list1, a_next1, a_table1, a_far1, a_found1, a_who1, a_what1, a_before1, a_tried1)) (nI n, f_count1, f_known1, f_different1, a_ops1, a_args1, a_length1, a_path1, a_list1, a_next1, a_table1, a_far1, a_found1, a_who1, a_what1, a_before1, a_tried1) (nI w)) (nI w) 0 (nI n) f_foundCount a_ops a_args a_codeLength a_trail a1 a_found a_cameFrom a_cameBy a_distance a_slots a_isEnding a_walkState a_walkLeft a_walkAsleep) ∧
        ((10 ≤ w ∧ w < 12) → wX_now_53 (fun r u' => wpY_now (fun r' => r' = r ∧ i_Rel (k + 5) u' (nI n, f_count1, f_known1, f_different1, a_ops1, a_args1, a_length1, a_path1, a_list1, a_next1, a_table1, a_far1, a_found1, a_who1, a_what1, a_before1, a_tried1)) (nI n, f_count1, f_known1, f_different1, a_ops1, a_args1, a_length1, a_path1, a_list1, a_next1, a_table1, a_far1, a_found1, a_who1, a_what1, a_before1, a_tried1) (nI w)) (nI w) 1 (nI n) f_foundCount a_ops a_args a_codeLength a_trail a1 a_found a_cameFrom a_cameBy a_distance a_slots a_isEnding a_walkState a_walkLeft a_walkAsleep) := by
      intro r hr
      have i16 : vp_in (nI w) 16 := vp_in_nI (by omega) (by omega)
      have cw := zx_at ha1 (rfl : nI w = nI w) (show w < 16 by omega)
      constructor
      · intro hno
        refine br_t rfl (And.intro i16 ?_)
        rw [cw]
        refine And.intro i32 (ey0 (br_f h0 (pk_le w 16 (fun _ => ?_) (fun h => by omega) rfl rfl (by omega) (by omega))))
        refine pk_le 4 w (fun h4 => ?_) (fun h4 => ?_) rfl rfl (by omega) (by omega)
        rotate_left
        · exact zy_variable hc (by omega) ⟨rfl, I'⟩
        refine pk_le 7 w (fun h7 => ?_) (fun h7 => ?_) rfl rfl (by omega) (by omega)
        rotate_left
        · have e4 : nI w - 4 = nI (w - 4) := sub 4 h4
          rw [e4]
          refine zy_acc hc (by omega) ⟨?_, I'⟩
          rw [show 4 + (w - 4) = w by omega]
        refine pk_le 10 w (fun h10 => ?_) (fun h10 => ?_) rfl rfl (by omega) (by omega)
        rotate_left
        · have e4 : nI w - 7 = nI (w - 7) := sub 7 h7
          rw [e4]
          refine zy_place hc (by omega) ⟨?_, I'⟩
          rw [show 7 + (w - 7) = w by omega]
        refine pk_le 12 w (fun h12 => ?_) (fun h12 => by omega) rfl rfl (by omega) (by omega)
        refine pk_le 15 w (fun h15 => ?_) (fun h15 => ?_) rfl rfl (by omega) (by omega)
        rotate_left
        · have e4 : nI w - 12 = nI (w - 12) := sub 12 h12
          rw [e4]
          refine zy_waiting hc (by omega) ⟨?_, I'⟩
          rw [show 12 + (w - 12) = w by omega]
        refine pk_eq w 15 (fun e15 => ?_) (fun e15 => by omega) rfl rfl (by omega) (by omega)
        subst e15
        exact zy_bad hc ⟨rfl, I'⟩
      · intro hy
        refine br_f (by decide) (And.intro i16 ?_)
        rw [cw]
        refine And.intro i32 (ey0 (br_f h0 (pk_le w 16 (fun _ => ?_) (fun h => by omega) rfl rfl (by omega) (by omega))))
        refine pk_le 4 w (fun _ => pk_le 7 w (fun _ => pk_le 10 w (fun h10 => pk_le 12 w (fun _ => by omega) (fun h => ?_) rfl rfl (by omega) (by omega)) (fun h => by omega) rfl rfl (by omega) (by omega)) (fun h => by omega) rfl rfl (by omega) (by omega)) (fun h => by omega) rfl rfl (by omega) (by omega)
        have e4 : nI w - 10 = nI (w - 10) := sub 10 h10
        rw [e4]
        refine zy_owner hc (by omega) ⟨?_, I'⟩
        rw [show 10 + (w - 10) = w by omega]
    have ff := fin _ rfl
    refine pk_lt w 10 (fun h10 => ff.1 (by omega)) (fun h10 => ?_) rfl rfl (by omega) (by omega)
    exact pk_le 12 w (fun h12 => ff.1 (by omega)) (fun h12 => ff.2 (by omega)) rfl rfl (by omega) (by omega)
theorem i_vc_states {k : Nat} {u : SX} {v : SY} (I : i_Rel k u v) (hk : k + 5 ≤ 2560) : wpX_states (fun r u' => wpY_states (fun r' v' => r' = r ∧ i_Rel (k + 5) u' v') v) u := by
  obtain ⟨f_steps, f_foundCount, a_ops, a_args, a_codeLength, a_trail, a_cell, a_found, a_cameFrom, a_cameBy, a_distance, a_slots, a_isEnding, a_walkState, a_walkLeft, a_walkAsleep⟩ := u
  obtain ⟨f_steps1, f_count1, f_known1, f_different1, a_ops1, a_args1, a_length1, a_path1, a_list1, a_next1, a_table1, a_far1, a_found1, a_who1, a_what1, a_before1, a_tried1⟩ := v
  obtain ⟨o, g, L, n, h, hX, hY, e1, e2, hn, hh, hkn⟩ := I
  subst e1 e2
  obtain ⟨hx, hy, hV, hps⟩ := hh n (Nat.le_refl _)
  unfold wpX_states
  refine zx_explore hX hV hn hx (fun hm cell found cf cb ds sl => br_t rfl ?_) (fun hm cell found cf cb ds sl K => br_f (by decide) ?_)
  · show wpY_states _ _
    unfold wpY_states
    refine zy_know hY hV hn hy hkn (fun _ count list next table hS => br_t rfl ⟨rfl, ?_⟩) (fun h _ _ _ _ _ => by omega)
    exact ⟨o, g, L, n, h, hX, hY, rfl, rfl, hn, hh, Or.inr ⟨rfl, hS⟩⟩
  · show wpY_states _ _
    unfold wpY_states
    refine zy_know hY hV hn hy hkn (fun h _ _ _ _ _ => by omega) (fun _ count list next table hS => br_f (by decide) ⟨hS.1, ?_⟩)
    exact ⟨o, g, L, n, h, hX, hY, rfl, rfl, hn, hh, Or.inr ⟨rfl, hS⟩⟩
