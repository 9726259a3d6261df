/-! race and meet, owed -/
theorem zr_Fl (o g L c0 : Nat → Nat) : (zb_F o g L c0).length ≤ 1201 := (zb_len 3600).2
theorem i_vc_race {k : Nat} {u : SX} {v : SY} (I : i_Rel k u v) (hk : k + 5 ≤ 2560) (v1 : Int32) : wpX_race (fun r u' => wpY_race (fun r' v' => r' = r ∧ i_Rel (k + 5) u' v') v v1) u v1 := by
  obtain ⟨f_steps, f_foundCount, a_ops, a_args, a_codeLength, a_trail, a_cell, a_found, a_cameFrom, a_cameBy, a_distance, a_slots, a_isEnding, a_walkState, a_walkLeft, a_walkAsleep⟩ := u
  obtain ⟨f_steps1, f_count1, f_known1, f_different1, a_ops1, a_args1, a_length1, a_path1, a_list1, a_next1, a_table1, a_far1, a_found1, a_who1, a_what1, a_before1, a_tried1⟩ := v
  obtain ⟨o, g, L, n, h, hX, hY, e1, e2, hn, hh, hkn⟩ := I
  have I' : zr_P f_steps a_ops a_args a_codeLength a_trail f_steps1 f_count1 f_known1 a_ops1 a_args1 a_length1 a_path1 a_list1 a_next1 := ⟨o, g, L, n, h, hX, hY, e1, e2, hn, hh, hkn⟩
  subst e1 e2
  obtain ⟨hx, hy, hV, hps⟩ := hh n (Nat.le_refl _)
  have hFl := zr_Fl o g L (h n)
  have hFV : ∀ x, x ∈ zb_F o g L (h n) → zc_V o L x := zb_V hX.1 hV 3600
  have no : (∀ t, 0 ≤ t → t ≤ 3 → v1 ≠ nI t) → wpY_race (fun r' v' => r' = -1 ∧ i_Rel (k + 5) (nI n, f_foundCount, a_ops, a_args, a_codeLength, a_trail, a_cell, a_found, a_cameFrom, a_cameBy, a_distance, a_slots, a_isEnding, a_walkState, a_walkLeft, a_walkAsleep) v') (nI n, f_count1, f_known1, f_different1, a_ops1, a_args1, a_length1, a_path1, a_list1, a_next1, a_table1, a_far1, a_found1, a_who1, a_what1, a_before1, a_tried1) v1 := by
    intro hno
    unfold wpY_race
    exact zy_within (a := 0) (b := 3) rfl rfl (by omega) (by omega) (fun t h0 h3 e => absurd e (hno t h0 h3)) (fun _ => br_t rfl ⟨rfl, I'⟩)
  refine br_c (fun hneg => no fun t _ ht e => by rw [e] at hneg; exact nI_pos (by omega) hneg) (fun h0 => ?_)
  obtain ⟨w, hw, rfl⟩ := nI_of h0
  refine pk_lt w 4 (fun h4 => ?_) (fun h4 => no fun t _ ht e => by have := zr_nI e hw (by omega); omega) rfl rfl (by omega) (by omega)
  have yk : ∀ (P : Int32 → SY → Prop), ((1200 < (zb_F o g L (h n)).length → ∀ (count : Int32) (list : Nat → Int64) (next table : Nat → Int32), zy_S o g L (h n) count list next → P (-2) (nI n, count, 1, f_different1, a_ops1, a_args1, a_length1, a_path1, list, next, table, a_far1, a_found1, a_who1, a_what1, a_before1, a_tried1))) →
      ((zb_F o g L (h n)).length ≤ 1200 → ∀ (count : Int32) (list : Nat → Int64) (next table : Nat → Int32), zy_S o g L (h n) count list next → ∃ n23, wY_race_23 P (nI w) (nI n) count 1 f_different1 a_ops1 a_args1 a_length1 a_path1 list next table a_far1 a_found1 a_who1 a_what1 a_before1 a_tried1 n23 0) →
      wpY_race P (nI n, f_count1, f_known1, f_different1, a_ops1, a_args1, a_length1, a_path1, a_list1, a_next1, a_table1, a_far1, a_found1, a_who1, a_what1, a_before1, a_tried1) (nI w) := by
    intro P a b
    unfold wpY_race
    refine zy_within (a := 0) (b := 3) rfl rfl (by omega) (by omega) (fun t h0 h3 e => br_f (by decide) ?_) (fun hno => absurd rfl (hno w (by omega) (by omega)))
    exact zy_know hY hV hn hy hkn (fun hm count list next table hS => br_t rfl (a hm count list next table hS)) (fun hm count list next table hS => br_f (by decide) (b hm count list next table hS))
  refine zx_explore hX hV hn hx (fun hm cell found cf cb ds sl => br_t rfl ?_) (fun hm cell found cf cb ds sl K => br_f (by decide) ⟨(zb_F o g L (h n)).length + 1, ?_⟩)
  · refine yk _ (fun _ count list next table hS => ⟨rfl, ?_⟩) (fun hm' => by omega)
    exact ⟨o, g, L, n, h, hX, hY, rfl, rfl, hn, hh, Or.inr ⟨rfl, hS⟩⟩
  · refine zx_raceL hX hFV hFl K.1 h4 (fun hr cell => ?_) (fun hr cell => ?_) _ 0 cell (by omega) (fun j hj => by omega)
    · refine yk _ (fun hm' => by omega) (fun _ count list next table hS => ⟨(zb_F o g L (h n)).length + 1, ?_⟩)
      obtain ⟨s1, s2, s3⟩ := hS
      subst s1
      exact zy_raceL hY hFV hFl s2 h4 (fun _ => ⟨rfl, o, g, L, n, h, hX, hY, rfl, rfl, hn, hh, Or.inr ⟨rfl, rfl, s2, s3⟩⟩) (fun hr' => absurd hr hr') _ 0 (by omega) (fun j hj => by omega)
    · refine yk _ (fun hm' => by omega) (fun _ count list next table hS => ⟨(zb_F o g L (h n)).length + 1, ?_⟩)
      obtain ⟨s1, s2, s3⟩ := hS
      subst s1
      exact zy_raceL hY hFV hFl s2 h4 (fun hr' => absurd hr' hr) (fun _ => ⟨rfl, o, g, L, n, h, hX, hY, rfl, rfl, hn, hh, Or.inr ⟨rfl, rfl, s2, s3⟩⟩) _ 0 (by omega) (fun j hj => by omega)
theorem i_vc_meet {k : Nat} {u : SX} {v : SY} (I : i_Rel k u v) (hk : k + 5 ≤ 2560) (v1 : Int32) (v2 : Int32) (v3 : Int32) (v4 : Int32) : wpX_meet (fun r u' => wpY_meet (fun r' v' => r' = r ∧ i_Rel (k + 5) u' v') v v1 v2 v3 v4) u v1 v2 v3 v4 := by
  obtain ⟨f_steps, f_foundCount, a_ops, a_args, a_codeLength, a_trail, a_cell, a_found, a_cameFrom, a_cameBy, a_distance, a_slots, a_isEnding, a_walkState, a_walkLeft, a_walkAsleep⟩ := u
  obtain ⟨f_steps1, f_count1, f_known1, f_different1, a_ops1, a_args1, a_length1, a_path1, a_list1, a_next1, a_table1, a_far1, a_found1, a_who1, a_what1, a_before1, a_tried1⟩ := v
  obtain ⟨o, g, L, n, h, hX, hY, e1, e2, hn, hh, hkn⟩ := I
  have I' : zr_P f_steps a_ops a_args a_codeLength a_trail f_steps1 f_count1 f_known1 a_ops1 a_args1 a_length1 a_path1 a_list1 a_next1 := ⟨o, g, L, n, h, hX, hY, e1, e2, hn, hh, hkn⟩
  subst e1 e2
  obtain ⟨hx, hy, hV, hps⟩ := hh n (Nat.le_refl _)
  have hFl := zr_Fl o g L (h n)
  have hFV : ∀ x, x ∈ zb_F o g L (h n) → zc_V o L x := zb_V hX.1 hV 3600
  have no : ((∀ t, t < 3 → v1 ≠ nI t) ∨ (∀ t, t < 3 → v3 ≠ nI t) ∨ v1 = v3 ∨ (∀ t, t ≤ 5 → v2 ≠ nI t) ∨ (∀ t, t ≤ 5 → v4 ≠ nI t)) → wpY_meet (fun r' v' => r' = -1 ∧ i_Rel (k + 5) (nI n, f_foundCount, a_ops, a_args, a_codeLength, a_trail, a_cell, a_found, a_cameFrom, a_cameBy, a_distance, a_slots, a_isEnding, a_walkState, a_walkLeft, a_walkAsleep) v') (nI n, f_count1, f_known1, f_different1, a_ops1, a_args1, a_length1, a_path1, a_list1, a_next1, a_table1, a_far1, a_found1, a_who1, a_what1, a_before1, a_tried1) v1 v2 v3 v4 := by
    intro hno
    have R : (-1 : Int32) = -1 ∧ i_Rel (k + 5) (nI n, f_foundCount, a_ops, a_args, a_codeLength, a_trail, a_cell, a_found, a_cameFrom, a_cameBy, a_distance, a_slots, a_isEnding, a_walkState, a_walkLeft, a_walkAsleep) (nI n, f_count1, f_known1, f_different1, a_ops1, a_args1, a_length1, a_path1, a_list1, a_next1, a_table1, a_far1, a_found1, a_who1, a_what1, a_before1, a_tried1) := ⟨rfl, I'⟩
    unfold wpY_meet
    refine zy_within (a := 0) (b := 2) rfl rfl (by omega) (by omega) (fun t _ ht et => br_f (by decide) ?_) (fun _ => br_t rfl R)
    refine zy_within (a := 0) (b := 2) rfl rfl (by omega) (by omega) (fun s _ hs es => br_f (by decide) ?_) (fun _ => br_t rfl R)
    refine br_c (fun _ => R) (fun hne => ?_)
    refine zy_within (a := 0) (b := 5) rfl rfl (by omega) (by omega) (fun i _ hi ei => br_f (by decide) ?_) (fun _ => br_t rfl R)
    refine zy_within (a := 0) (b := 5) rfl rfl (by omega) (by omega) (fun j _ hj ej => br_f (by decide) ?_) (fun _ => br_t rfl R)
    exfalso
    rcases hno with a | a | a | a | a
    · exact a t (by omega) et
    · exact a s (by omega) es
    · exact hne a
    · exact a i hi ei
    · exact a j hj ej
  unfold wpX_meet
  refine zx_isThread (fun t ht et => br_f (by decide) ?_) (fun hno => br_t rfl (no (Or.inl hno)))
  refine zx_isThread (fun s hs es => br_f (by decide) ?_) (fun hno => br_t rfl (no (Or.inr (Or.inl hno))))
  refine br_c (fun e => no (Or.inr (Or.inr (Or.inl e)))) (fun hne => ?_)
  refine zx_isPlace (fun i hi ei => br_f (by decide) ?_) (fun hno => br_t rfl (no (Or.inr (Or.inr (Or.inr (Or.inl hno))))))
  refine zx_isPlace (fun j hj ej => br_f (by decide) ?_) (fun hno => br_t rfl (no (Or.inr (Or.inr (Or.inr (Or.inr hno))))))
  subst et es ei ej
  have yk : ∀ (P : Int32 → SY → Prop), ((1200 < (zb_F o g L (h n)).length → ∀ (count : Int32) (list : Nat → Int64) (next table : Nat → Int32), zy_S o g L (h n) count list next → P (-2) (nI n, count, 1, f_different1, a_ops1, a_args1, a_length1, a_path1, list, next, table, a_far1, a_found1, a_who1, a_what1, a_before1, a_tried1))) →
      ((zb_F o g L (h n)).length ≤ 1200 → ∀ (count : Int32) (list : Nat → Int64) (next table : Nat → Int32), zy_S o g L (h n) count list next → ∃ n60, wY_meet_60 P (nI t) (nI i) (nI s) (nI j) (nI n) count 1 f_different1 a_ops1 a_args1 a_length1 a_path1 list next table a_far1 a_found1 a_who1 a_what1 a_before1 a_tried1 n60 0 0) →
      wpY_meet P (nI n, f_count1, f_known1, f_different1, a_ops1, a_args1, a_length1, a_path1, a_list1, a_next1, a_table1, a_far1, a_found1, a_who1, a_what1, a_before1, a_tried1) (nI t) (nI i) (nI s) (nI j) := by
    intro P a b
    unfold wpY_meet
    refine zy_within (a := 0) (b := 2) rfl rfl (by omega) (by omega) (fun _ _ _ _ => br_f (by decide) ?_) (fun hno => absurd rfl (hno t (by omega) (by omega)))
    refine zy_within (a := 0) (b := 2) rfl rfl (by omega) (by omega) (fun _ _ _ _ => br_f (by decide) ?_) (fun hno => absurd rfl (hno s (by omega) (by omega)))
    refine br_f hne ?_
    refine zy_within (a := 0) (b := 5) rfl rfl (by omega) (by omega) (fun _ _ _ _ => br_f (by decide) ?_) (fun hno => absurd rfl (hno i (by omega) (by omega)))
    refine zy_within (a := 0) (b := 5) rfl rfl (by omega) (by omega) (fun _ _ _ _ => br_f (by decide) ?_) (fun hno => absurd rfl (hno j (by omega) (by omega)))
    exact zy_know hY hV hn hy hkn (fun hm count list next table hS => br_t rfl (a hm count list next table hS)) (fun hm count list next table hS => br_f (by decide) (b hm count list next table hS))
  refine zx_explore hX hV hn hx (fun hm cell found cf cb ds sl => br_t rfl ?_) (fun hm cell found cf cb ds sl K => br_f (by decide) ⟨(zb_F o g L (h n)).length + 1, ?_⟩)
  · refine yk _ (fun _ count list next table hS => ⟨rfl, ?_⟩) (fun hm' => by omega)
    exact ⟨o, g, L, n, h, hX, hY, rfl, rfl, hn, hh, Or.inr ⟨rfl, hS⟩⟩
  · refine zx_meetL hX hFV hFl K.1 ht hs hi hj (fun cell => ?_) _ 0 cell (by omega)
    refine yk _ (fun hm' => by omega) (fun _ count list next table hS => ⟨(zb_F o g L (h n)).length + 1, ?_⟩)
    obtain ⟨s1, s2, s3⟩ := hS
    subst s1
    exact zy_meetL hY hFV hFl s2 ht hs hi hj ⟨rfl, o, g, L, n, h, hX, hY, rfl, rfl, hn, hh, Or.inr ⟨rfl, rfl, s2, s3⟩⟩ _ 0 (by omega)
