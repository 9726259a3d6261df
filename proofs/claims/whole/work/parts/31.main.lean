/-! both walks in step; kinds, owed -/
def zk_N (o g L c : Nat → Nat) (w : List Nat) (tr n C : Nat) : Prop :=
  ((tr = 0 ∧ zt_end o g L (zt_run o g L c w)) → n + 1 = C) ∧ (¬ (tr = 0 ∧ zt_end o g L (zt_run o g L c w)) → n = C)
theorem zk_N_s {o g L c : Nat → Nat} {w : List Nat} {tr C : Nat} : zk_N o g L c w (tr + 1) C C := ⟨fun h => by omega, fun _ => rfl⟩
section
variable {o g L c : Nat → Nat} {w : List Nat} {tr : Nat} {C G : List (List Nat)}
theorem zk_skips (I : zk_I o g L c w tr C G) : ∀ d, (∀ u, tr ≤ u → u < tr + d → ¬ zk_via o g L c w u) → zk_I o g L c w (tr + d) C G := by
  intro d
  induction d with
  | zero => intro _; exact I
  | succ d ih =>
    intro h
    have := ih fun u h1 h2 => h u h1 (by omega)
    exact zk_skip this (h (tr + d) (by omega) (by omega))
end
section
variable {o g L c : Nat → Nat} {w : List Nat} {f_steps1 f_count1 f_known1 f_different1 : Int32} {a_ops1 a_args1 a_length1 a_next1 a_table1 a_far1 a_found1 a_who1 a_what1 a_tried1 : Nat → Int32} {a_path1 a_list1 a_before1 : Nat → Int64}
theorem zy_skips {post : Int32 → SY → Prop} {C t : Nat} (hC : zx_C o g L a_ops1 a_args1 a_length1) (hV : zc_V o L c) (hok : zt_ok o g L c w) (hlen : w.length ≤ 30) (hC2 : C ≤ 2000) (ht : t ≤ 3)
    (hY : ∀ n, zk_N o g L c w t n C → ∀ (who what trd : Nat → Int32) (bf : Nat → Int64), zk_YS o g L c w t who what trd bf → ∃ m, wY_kinds_26 post f_steps1 f_count1 f_known1 f_different1 m (nI n) (nI w.length) a_ops1 a_args1 a_length1 a_path1 a_list1 a_next1 a_table1 a_far1 a_found1 who what bf trd) :
    ∀ d tr n, tr + d = t → (∀ u, tr ≤ u → u < t → ¬ zk_via o g L c w u) → zk_N o g L c w tr n C → ∀ (who what trd : Nat → Int32) (bf : Nat → Int64), zk_YS o g L c w tr who what trd bf →
      ∃ m, wY_kinds_26 post f_steps1 f_count1 f_known1 f_different1 m (nI n) (nI w.length) a_ops1 a_args1 a_length1 a_path1 a_list1 a_next1 a_table1 a_far1 a_found1 who what bf trd := by
  intro d
  induction d with
  | zero =>
    intro tr n ht hno hn who what trd bf hS
    have e : tr = t := by omega
    subst e
    exact hY n hn who what trd bf hS
  | succ d ih =>
    intro tr n htr hno hn who what trd bf hS
    obtain ⟨m, hm⟩ := ih (tr + 1) C (by omega) (fun u h1 h2 => hno u (by omega) h2) zk_N_s who what _ bf (zk_YS_skip hS)
    have hn2 : n ≤ 2000 := by
      by_cases e : tr = 0 ∧ zt_end o g L (zt_run o g L c w)
      · have := hn.1 e; omega
      · have := hn.2 e; omega
    refine ⟨m + 1, zy_turn hC hV hok hS hlen (by omega) hn2 (fun _ _ he => ?_) (fun e0 he => ?_) (fun _ hv => absurd hv (hno tr (Nat.le_refl _) (by omega))) (fun h => by omega)⟩
    · rw [hn.2 he]; exact hm
    · rw [hn.1 ⟨e0, he⟩]; exact hm
end
section
variable {o g L c : Nat → Nat} {f_steps f_foundCount : Int32} {a_ops a_args a_codeLength a_cell a_cameFrom a_cameBy a_distance a_slots a_isEnding a_walkLeft a_walkAsleep : Nat → Int32} {a_trail a_found a_walkState : Nat → Int64} {f_steps1 f_count1 f_known1 f_different1 : Int32} {a_ops1 a_args1 a_length1 a_next1 a_table1 a_far1 a_found1 a_who1 a_what1 a_tried1 : Nat → Int32} {a_path1 a_list1 a_before1 : Nat → Int64}
theorem zk_main (hX : zx_C o g L a_ops a_args a_codeLength) (hY : zx_C o g L a_ops1 a_args1 a_length1) (hV : zc_V o L c) :
    ∀ (M : Nat) (w : List Nat) (tr : Nat) (C G : List (List Nat)), zk_I o g L c w tr C G → tr ≤ 3 → 2 * G.length + w.length + M = 10000000 → C.length ≤ 2001 →
      ∃ r : Int32, (∀ (cell : Nat → Int32) (ws : Nat → Int64) (wl wa : Nat → Int32), zk_XS o g L c w tr ws wl wa → ∀ post : Int32 → SX → Prop,
          (∀ (cell : Nat → Int32) (ws : Nat → Int64) (wl wa : Nat → Int32), post r (f_steps, f_foundCount, a_ops, a_args, a_codeLength, a_trail, cell, a_found, a_cameFrom, a_cameBy, a_distance, a_slots, a_isEnding, ws, wl, wa)) →
          wX_kinds_32 post (M + 2) (nI C.length) (nI w.length) (nI (2 * G.length + w.length)) f_steps f_foundCount a_ops a_args a_codeLength a_trail cell a_found a_cameFrom a_cameBy a_distance a_slots a_isEnding ws wl wa) ∧
        (∀ n, zk_N o g L c w tr n C.length → ∀ (who what trd : Nat → Int32) (bf : Nat → Int64), zk_YS o g L c w tr who what trd bf → ∀ post : Int32 → SY → Prop,
          (∀ (who what trd : Nat → Int32) (bf : Nat → Int64), post r (f_steps1, f_count1, f_known1, f_different1, a_ops1, a_args1, a_length1, a_path1, a_list1, a_next1, a_table1, a_far1, a_found1, who, what, bf, trd)) →
          ∃ m, wY_kinds_26 post f_steps1 f_count1 f_known1 f_different1 m (nI n) (nI w.length) a_ops1 a_args1 a_length1 a_path1 a_list1 a_next1 a_table1 a_far1 a_found1 who what bf trd) := by
  -- too many kinds
  have big : ∀ (M : Nat) (w : List Nat) (tr : Nat) (C G : List (List Nat)), zk_I o g L c w tr C G → tr ≤ 3 → 2 * G.length + w.length + M = 10000000 → C.length = 2001 →
      (∀ (cell : Nat → Int32) (ws : Nat → Int64) (wl wa : Nat → Int32), ∀ post : Int32 → SX → Prop,
          (∀ (cell : Nat → Int32) (ws : Nat → Int64) (wl wa : Nat → Int32), post (-2) (f_steps, f_foundCount, a_ops, a_args, a_codeLength, a_trail, cell, a_found, a_cameFrom, a_cameBy, a_distance, a_slots, a_isEnding, ws, wl, wa)) →
          wX_kinds_32 post (M + 2) (nI C.length) (nI w.length) (nI (2 * G.length + w.length)) f_steps f_foundCount a_ops a_args a_codeLength a_trail cell a_found a_cameFrom a_cameBy a_distance a_slots a_isEnding ws wl wa) ∧
        (∀ n, zk_N o g L c w tr n C.length → ∀ (who what trd : Nat → Int32) (bf : Nat → Int64), zk_YS o g L c w tr who what trd bf → ∀ post : Int32 → SY → Prop,
          (∀ (who what trd : Nat → Int32) (bf : Nat → Int64), post (-2) (f_steps1, f_count1, f_known1, f_different1, a_ops1, a_args1, a_length1, a_path1, a_list1, a_next1, a_table1, a_far1, a_found1, who, what, bf, trd)) →
          ∃ m, wY_kinds_26 post f_steps1 f_count1 f_known1 f_different1 m (nI n) (nI w.length) a_ops1 a_args1 a_length1 a_path1 a_list1 a_next1 a_table1 a_far1 a_found1 who what bf trd) := by
    intro M w tr C G I htr hM hC
    have hlen : w.length ≤ 30 := by have := zt_len30 hX.1 hV I.1; omega
    rw [hC]
    constructor
    · intro cell ws wl wa post hp
      have fin : wX_kinds_95 post (nI 2001) f_steps f_foundCount a_ops a_args a_codeLength a_trail cell a_found a_cameFrom a_cameBy a_distance a_slots a_isEnding ws wl wa := pk_le 2001 2000 (fun h => by omega) (fun _ => hp cell ws wl wa) rfl rfl (by omega) (by omega)
      refine pk_le 10000000 (2 * G.length + w.length) (fun _ => fin) (fun _ => br_f (nI_pos (by omega)) (pk_lt 2000 2001 (fun _ => fin) (fun h => by omega) rfl rfl (by omega) (by omega))) rfl rfl (by omega) (by omega)
    · intro n hn who what trd bf hS post hp
      have st : ∀ (who what trd : Nat → Int32) (bf : Nat → Int64), wY_kinds_26 post f_steps1 f_count1 f_known1 f_different1 1 (nI 2001) (nI w.length) a_ops1 a_args1 a_length1 a_path1 a_list1 a_next1 a_table1 a_far1 a_found1 who what bf trd := by
        intro who what trd bf
        refine br_f (nI_pos (by omega)) (pk_lt 2000 2001 (fun _ => ?_) (fun h => by omega) rfl rfl (by omega) (by omega))
        exact pk_le 2001 2000 (fun h => by omega) (fun _ => hp who what trd bf) rfl rfl (by omega) (by omega)
      by_cases e : tr = 0 ∧ zt_end o g L (zt_run o g L c w)
      · have e1 := hn.1 e
        have e2 : n = 2000 := by omega
        subst e2
        refine ⟨2, zy_turn hY hV I.1 hS hlen htr (Nat.le_refl _) (fun _ _ he => absurd e he) (fun _ _ => st _ _ _ _) (fun h3 hv => absurd hv.1 (e.2 tr h3)) (fun h => by omega)⟩
      · have e1 := hn.2 e
        subst e1
        exact ⟨1, st _ _ _ _⟩
  intro M
  induction M with
  | zero =>
    intro w tr C G I htr hM hC
    by_cases h2 : C.length = 2001
    · exact ⟨-2, fun cell ws wl wa _ => (big 0 w tr C G I htr hM h2).1 cell ws wl wa, (big 0 w tr C G I htr hM h2).2⟩
    · exfalso
      have h1 := zk_bound hX.1 hV I
      have h3 := zt_len30 hX.1 hV I.1
      omega
  | succ M ih =>
    intro w tr C G I htr hM hC
    by_cases h2 : C.length = 2001
    · exact ⟨-2, fun cell ws wl wa _ => (big (M + 1) w tr C G I htr hM h2).1 cell ws wl wa, (big (M + 1) w tr C G I htr hM h2).2⟩
    have hC2 : C.length ≤ 2000 := by omega
    have hlen : w.length ≤ 30 := by have := zt_len30 hX.1 hV I.1; omega
    have ec : (nI w.length).toNatClampNeg = w.length := nI_clamp (by omega)
    by_cases hex : ∃ u, u < 3 ∧ tr ≤ u ∧ zk_via o g L c w u
    · -- a step down
      obtain ⟨t, ⟨ht3, htt, hvt⟩, hmin⟩ := zh_least (fun u => u < 3 ∧ tr ≤ u ∧ zk_via o g L c w u) hex
      have hno : ∀ u, tr ≤ u → u < t → ¬ zk_via o g L c w u := fun u h1 h2 h3 => hmin u h2 ⟨by omega, h1, h3⟩
      have It : zk_I o g L c w t C G := by
        have := zk_skips I (t - tr) (fun u h1 h2 => hno u h1 (by omega))
        have e : tr + (t - tr) = t := by omega
        rwa [e] at this
      have hok1 := zk_ok1 It.1 ht3 hvt
      have hl1 : (w ++ [t]).length = w.length + 1 := by simp
      have hlen1 : w.length < 30 := by
        have := zt_len30 hX.1 hV hok1
        omega
      obtain ⟨C', hsub, hend, hCl, hCn⟩ : ∃ C' : List (List Nat), (∀ l, l ∈ C → l ∈ C') ∧ (zt_end o g L (zt_run o g L c (w ++ [t])) → w ++ [t] ∈ C') ∧
          (zt_end o g L (zt_run o g L c (w ++ [t])) → C'.length = C.length + 1) ∧ (¬ zt_end o g L (zt_run o g L c (w ++ [t])) → C'.length = C.length) := by
        by_cases he : zt_end o g L (zt_run o g L c (w ++ [t]))
        · exact ⟨C ++ [w ++ [t]], fun l hl => by simp [hl], fun _ => by simp, fun _ => by simp, fun h => absurd he h⟩
        · exact ⟨C, fun l hl => hl, fun h => absurd h he, fun h => absurd h he, fun _ => rfl⟩
      have hC'1 : C'.length ≤ 2001 := by
        by_cases he : zt_end o g L (zt_run o g L c (w ++ [t]))
        · rw [hCl he]; omega
        · rw [hCn he]; omega
      obtain ⟨r, hx, hy⟩ := ih (w ++ [t]) 0 C' G (zk_in It ht3 hvt hsub hend) (by omega) (by rw [hl1]; omega) hC'1
      refine ⟨r, fun cell ws wl wa hS post hp => ?_, fun n hn who what trd bf hS post hp => ?_⟩
      · have hlx := hS.2
        obtain ⟨_, ⟨lm, hlm, hlM⟩, _⟩ := hlx
        have elf : wl (nI w.length).toNatClampNeg = nI lm := by rw [ec]; exact hlm
        have hlm0 : lm ≠ 0 := by
          intro e
          exact (zx_M_0 hlM).mp e t ht3 ⟨htt, hvt⟩
        refine pk_le 10000000 (2 * G.length + w.length) (fun h => by omega) (fun _ => br_f (nI_pos (by omega)) (pk_lt 2000 C.length (fun h => by omega) (fun _ => And.intro (vp_in_nI (by omega) (by omega)) ?_) rfl rfl (by omega) (by omega))) rfl rfl (by omega) (by omega)
        refine pk_eq lm 0 (fun e => absurd e hlm0) (fun _ => ?_) elf rfl (by have := hlM.1; omega) (by omega)
        refine pk_lt w.length 30 (fun _ => ?_) (fun h => by omega) rfl rfl (by omega) (by omega)
        refine zx_descend hX (zt_V_run hX.1 w c hV I.1) hlen1 hS.2 hex fun t' ht' h1 h2 h3 cell' lf as s' lf' as' k1 k2 => ?_
        have et : t' = t := by
          rcases Nat.lt_trichotomy t' t with h4 | h4 | h4
          · exact absurd h2 (hno t' h1 h4)
          · exact h4
          · exact absurd hvt (h3 t htt h4)
        subst et
        have hxx := hx cell' _ _ _ (zk_XS_push hS k1 k2) post hp
        have e5 : 2 * G.length + (w ++ [t']).length = 2 * G.length + w.length + 1 := by rw [hl1]; omega
        rw [e5, hl1] at hxx
        refine ⟨fun he => br_f (by decide) (nm_r (nI_1 _) (nm_r (nI_1 _) (nm_r (nI_1 _) ?_))), fun he => br_t rfl (nm_r (nI_add _ 0) (nm_r (nI_1 _) (nm_r (nI_1 _) ?_)))⟩
        · rw [hCl he] at hxx; exact hxx
        · rw [hCn he] at hxx; exact hxx
      · refine zy_skips hY hV I.1 hlen hC2 (show t ≤ 3 by omega) (fun n' hn' who' what' trd' bf' hS' => ?_) (t - tr) tr n (by omega) hno hn who what trd bf hS
        have hnC : n' = C.length := by
          refine hn'.2 fun h => ?_
          exact h.2 t ht3 hvt.1
        subst hnC
        obtain ⟨m, hm⟩ := hy C.length ⟨fun h => (hCl h.2).symm, fun h => (hCn fun he => h ⟨rfl, he⟩).symm⟩ _ _ _ _ (zk_YS_push hS') post hp
        rw [hl1] at hm
        exact ⟨m + 1, zy_turn hY hV I.1 hS' hlen (by omega) hC2 (fun _ hv => absurd hvt hv) (fun e0 he => absurd hvt.1 (he t ht3)) (fun _ _ => hm) (fun h => by omega)⟩
    · -- a step up
      have hno : ∀ u, tr ≤ u → u < 3 → ¬ zk_via o g L c w u := fun u h1 h2 h3 => hex ⟨u, h2, h1, h3⟩
      have I3 : zk_I o g L c w 3 C G := by
        have := zk_skips I (3 - tr) (fun u h1 h2 => hno u h1 (by omega))
        have e : tr + (3 - tr) = 3 := by omega
        rwa [e] at this
      -- what the component does
      have xup : ∀ (cell : Nat → Int32) (ws : Nat → Int64) (wl wa : Nat → Int32), zk_XS o g L c w tr ws wl wa → ∀ post : Int32 → SX → Prop,
          wX_kinds_32 post (M + 2) (nI C.length) (nI w.length + (-1)) (nI (2 * G.length + w.length + 1)) f_steps f_foundCount a_ops a_args a_codeLength a_trail cell a_found a_cameFrom a_cameBy a_distance a_slots a_isEnding ws wl wa →
          wX_kinds_32 post (M + 1 + 2) (nI C.length) (nI w.length) (nI (2 * G.length + w.length)) f_steps f_foundCount a_ops a_args a_codeLength a_trail cell a_found a_cameFrom a_cameBy a_distance a_slots a_isEnding ws wl wa := by
        intro cell ws wl wa hS post hw
        obtain ⟨_, ⟨lm, hlm, hlM⟩, _⟩ := hS.2
        have elf : wl (nI w.length).toNatClampNeg = nI lm := by rw [ec]; exact hlm
        have hlm0 : lm = 0 := (zx_M_0 hlM).mpr fun u hu h => hno u h.1 hu h.2
        refine pk_le 10000000 (2 * G.length + w.length) (fun h => by omega) (fun _ => br_f (nI_pos (by omega)) (pk_lt 2000 C.length (fun h => by omega) (fun _ => And.intro (vp_in_nI (by omega) (by omega)) ?_) rfl rfl (by omega) (by omega))) rfl rfl (by omega) (by omega)
        exact pk_eq lm 0 (fun _ => nm_e (nm_r (nI_1 _) hw)) (fun h => absurd hlm0 h) elf rfl (by omega) (by omega)
      -- what the reference does
      have yup : ∀ post : Int32 → SY → Prop, (∀ (who what trd : Nat → Int32) (bf : Nat → Int64), zk_YS o g L c w 3 who what trd bf →
            ∃ m, wY_kinds_26 post f_steps1 f_count1 f_known1 f_different1 m (nI C.length) (nI w.length + (-1)) a_ops1 a_args1 a_length1 a_path1 a_list1 a_next1 a_table1 a_far1 a_found1 who what bf (upd trd w.length (nI (3 + 1)))) →
          ∀ n, zk_N o g L c w tr n C.length → ∀ (who what trd : Nat → Int32) (bf : Nat → Int64), zk_YS o g L c w tr who what trd bf →
          ∃ m, wY_kinds_26 post f_steps1 f_count1 f_known1 f_different1 m (nI n) (nI w.length) a_ops1 a_args1 a_length1 a_path1 a_list1 a_next1 a_table1 a_far1 a_found1 who what bf trd := by
        intro post hq n hn who what trd bf hS
        refine zy_skips hY hV I.1 hlen hC2 (Nat.le_refl 3) (fun n' hn' who' what' trd' bf' hS' => ?_) (3 - tr) tr n (by omega) hno hn who what trd bf hS
        have hnC : n' = C.length := hn'.2 fun h => by omega
        subst hnC
        obtain ⟨m, hm⟩ := hq who' what' trd' bf' hS'
        exact ⟨m + 1, zy_turn hY hV I.1 hS' hlen (Nat.le_refl 3) hC2 (fun h => by omega) (fun h => by omega) (fun h => by omega) (fun _ => hm)⟩
      rcases Nat.eq_zero_or_pos w.length with hw0 | hw0
      · have ew : w = [] := List.length_eq_zero_iff.mp hw0
        subst ew
        refine ⟨nI C.length, fun cell ws wl wa hS post hp => xup cell ws wl wa hS post ?_, fun n hn who what trd bf hS post hp => yup post (fun who what trd bf hS' => ⟨1, ?_⟩) n hn who what trd bf hS⟩
        · have fin : wX_kinds_95 post (nI C.length) f_steps f_foundCount a_ops a_args a_codeLength a_trail cell a_found a_cameFrom a_cameBy a_distance a_slots a_isEnding ws wl wa := pk_le C.length 2000 (fun _ => hp cell ws wl wa) (fun h => by omega) rfl rfl (by omega) (by omega)
          refine pk_le 10000000 (2 * G.length + 0 + 1) (fun _ => fin) (fun _ => br_t (by decide) fin) rfl rfl (by omega) ?_
          have : 2 * G.length + 0 + (M + 1) = 10000000 := hM
          omega
        · exact br_t (by decide) (pk_le C.length 2000 (fun _ => hp _ _ _ _) (fun h => by omega) rfl rfl (by omega) (by omega))
      · obtain ⟨q, hq⟩ : ∃ q, w.length = q + 1 := ⟨w.length - 1, by omega⟩
        obtain ⟨w', t, ew, hl'⟩ := zk_lastOf hq
        subst ew
        have ht3 : t < 3 := zt_ok_lt _ _ I.1 t (by simp)
        have hl1 : (w' ++ [t]).length = w'.length + 1 := by simp
        have hg1 : ((w' ++ [t]) :: G).length = G.length + 1 := by simp
        obtain ⟨r, hx, hy⟩ := ih w' (t + 1) C ((w' ++ [t]) :: G) (zk_out hX.1 hV I3) (by omega) (by rw [hg1]; rw [hl1] at hM; omega) hC
        refine ⟨r, fun cell ws wl wa hS post hp => xup cell ws wl wa hS post ?_, fun n hn who what trd bf hS post hp => yup post (fun who what trd bf hS' => ?_) n hn who what trd bf hS⟩
        · have hxx := hx cell ws wl wa (zk_XS_pop hS) post hp
          have e5 : 2 * ((w' ++ [t]) :: G).length + w'.length = 2 * G.length + (w' ++ [t]).length + 1 := by rw [hg1, hl1]; omega
          rw [e5] at hxx
          rw [hl1, pk_m1, ← hl1]
          exact hxx
        · obtain ⟨m, hm⟩ := hy C.length zk_N_s _ _ _ _ (zk_YS_pop hS' (x := nI (3 + 1))) post hp
          refine ⟨m, ?_⟩
          have e6 : nI (w' ++ [t]).length + (-1) = nI w'.length := by rw [hl1, pk_m1]
          rw [e6]
          exact hm
end
theorem i_vc_kinds {k : Nat} {u : SX} {v : SY} (I : i_Rel k u v) (hk : k + 5 ≤ 2560) : wpX_kinds (fun r u' => wpY_kinds (fun r' v' => r' = r ∧ i_Rel (k + 5) u' v') v) u := by
  obtain ⟨f_steps, f_foundCount, a_ops, a_args, a_codeLength, a_trail, a_cell, a_found, a_cameFrom, a_cameBy, a_distance, a_slots, a_isEnding, a_walkState, a_walkLeft, a_walkAsleep⟩ := u
  obtain ⟨f_steps1, f_count1, f_known1, f_different1, a_ops1, a_args1, a_length1, a_path1, a_list1, a_next1, a_table1, a_far1, a_found1, a_who1, a_what1, a_before1, a_tried1⟩ := v
  obtain ⟨o, g, L, n, h, hX, hY, e1, e2, hn, hh, hkn⟩ := I
  have I' : zr_P f_steps a_ops a_args a_codeLength a_trail f_steps1 f_count1 f_known1 a_ops1 a_args1 a_length1 a_path1 a_list1 a_next1 := ⟨o, g, L, n, h, hX, hY, e1, e2, hn, hh, hkn⟩
  subst e1 e2
  obtain ⟨hx, hy, hV, hps⟩ := hh n (Nat.le_refl _)
  have hB := zp_bX (zx_L5 hX) hV
  have ecn : (nI n).toNatClampNeg = n := nI_clamp (by omega)
  have ex : a_trail (nI n).toNatClampNeg = lN (zp_X (h n)) := by rw [ecn]; exact hx
  have ey : a_path1 (nI n).toNatClampNeg = lN (zp_Y (h n)) := by rw [ecn]; exact hy
  have hM0 : zx_M 0 (fun u => zc_R o g L (zt_run o g L (h n) []) u ∧ (u < 0 ∨ zt_bel o g (zk_acc o g L (h n) []) u (zc_pc (zt_run o g L (h n) []) u))) := by
    refine ⟨by omega, fun u hu => ?_⟩
    constructor
    · intro hh; simp at hh
    · rintro ⟨_, hh | hh⟩
      · omega
      · exact absurd hh (fun x => x)
  obtain ⟨C, hCe, hCl, hCn⟩ : ∃ C : List (List Nat), (zt_end o g L (h n) → [] ∈ C) ∧ (zt_end o g L (h n) → C.length = 1) ∧ (¬ zt_end o g L (h n) → C.length = 0) := by
    by_cases he : zt_end o g L (h n)
    · exact ⟨[[]], fun _ => by simp, fun _ => rfl, fun hh => absurd he hh⟩
    · exact ⟨[], fun hh => absurd hh he, fun hh => absurd hh he, fun _ => rfl⟩
  have hC1 : C.length ≤ 2001 := by
    by_cases he : zt_end o g L (h n)
    · rw [hCl he]; omega
    · rw [hCn he]; omega
  obtain ⟨r, rx, ry⟩ := zk_main (f_steps := nI n) (f_foundCount := f_foundCount) (a_ops := a_ops) (a_args := a_args) (a_codeLength := a_codeLength) (a_trail := a_trail) (a_found := a_found) (a_cameFrom := a_cameFrom) (a_cameBy := a_cameBy) (a_distance := a_distance) (a_slots := a_slots) (a_isEnding := a_isEnding) (f_steps1 := nI n) (f_count1 := f_count1) (f_known1 := f_known1) (f_different1 := f_different1) (a_ops1 := a_ops1) (a_args1 := a_args1) (a_length1 := a_length1) (a_path1 := a_path1) (a_list1 := a_list1) (a_next1 := a_next1) (a_table1 := a_table1) (a_far1 := a_far1) (a_found1 := a_found1) hX hY hV 10000000 [] 0 C [] (zk_0 hCe) (by omega) (by simp) hC1
  unfold wpX_kinds
  refine And.intro (vp_in_nI (by omega) (by omega)) (zx_unpack' ex hB fun a1 ha1 => ?_)
  refine zx_enter (w := []) (d := 0) (a := 0) hX hV ha1 (by omega) hM0 fun s lf hlx => ?_
  have hXS : zk_XS o g L (h n) [] 0 (vp_updL a_walkState 0 s) (upd a_walkLeft 0 lf) (upd a_walkAsleep 0 (nI 0)) := by
    refine ⟨fun p t q e => ?_, ?_⟩
    · have := congrArg List.length e
      simp at this
    · show zk_lx o g L (h n) [] 0 (vp_updL a_walkState 0 s 0) (upd a_walkLeft 0 lf 0) (upd a_walkAsleep 0 (nI 0) 0)
      rw [pk_uLs, pk_us, pk_us]; exact hlx
  have hYS : zk_YS o g L (h n) [] 0 a_who1 a_what1 (upd a_tried1 0 0) (vp_updL a_before1 0 (a_path1 (nI n).toNatClampNeg)) := by
    refine ⟨fun p t q e => ?_, ?_, ?_⟩
    · have := congrArg List.length e
      simp at this
    · show vp_updL a_before1 0 (a_path1 (nI n).toNatClampNeg) 0 = _
      rw [pk_uLs, ey]; rfl
    · show upd a_tried1 0 0 0 = _
      rw [pk_us]; rfl
  have fin : ∀ (cell : Nat → Int32) (ws : Nat → Int64) (wl wa : Nat → Int32), wpY_kinds (fun r' v' => r' = r ∧ i_Rel (k + 5) (nI n, f_foundCount, a_ops, a_args, a_codeLength, a_trail, cell, a_found, a_cameFrom, a_cameBy, a_distance, a_slots, a_isEnding, ws, wl, wa) v') (nI n, f_count1, f_known1, f_different1, a_ops1, a_args1, a_length1, a_path1, a_list1, a_next1, a_table1, a_far1, a_found1, a_who1, a_what1, a_before1, a_tried1) := by
    intro cell ws wl wa
    unfold wpY_kinds
    refine And.intro (vp_in_nI (by omega) (by omega)) (nm_e (nm_e ?_))
    refine ry 0 ⟨fun hh => ?_, fun hh => ?_⟩ _ _ _ _ hYS _ fun who what trd bf => ⟨rfl, I'⟩
    · rw [hCl hh.2]
    · rw [hCn fun he => hh ⟨rfl, he⟩]
  refine ⟨fun he => br_f (by decide) ⟨10000002, ?_⟩, fun he => br_t rfl ⟨10000002, ?_⟩⟩
  · have := rx a1 _ _ _ hXS (fun r u' => wpY_kinds (fun r' v' => r' = r ∧ i_Rel (k + 5) u' v') (nI n, f_count1, f_known1, f_different1, a_ops1, a_args1, a_length1, a_path1, a_list1, a_next1, a_table1, a_far1, a_found1, a_who1, a_what1, a_before1, a_tried1)) fin
    rw [hCl he] at this
    exact this
  · have := rx a1 _ _ _ hXS (fun r u' => wpY_kinds (fun r' v' => r' = r ∧ i_Rel (k + 5) u' v') (nI n, f_count1, f_known1, f_different1, a_ops1, a_args1, a_length1, a_path1, a_list1, a_next1, a_table1, a_far1, a_found1, a_who1, a_what1, a_before1, a_tried1)) fin
    rw [hCn he] at this
    exact this
