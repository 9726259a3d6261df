/-! touching, race, meet -/
def zr_race (o g L c : Nat → Nat) (t u v : Nat) : Prop :=
  c (7 + t) < L t ∧ c (7 + u) < L u ∧ o (zc_pc c t) < 4 ∧ g (zc_pc c t) = v ∧ zc_T o g (zc_pc c t) (zc_pc c u)
theorem zr_race_sym {o g L c : Nat → Nat} {t u v : Nat} (h : zr_race o g L c t u v) : zr_race o g L c u t v := by
  obtain ⟨h1, h2, h3, h4, h5⟩ := h
  refine ⟨h2, h1, ?_, by rw [← h5.1]; exact h4, zc_T_sym h5⟩
  rcases h5.2 with h | h
  · omega
  · exact h.2.1
def zr_any (o g L c : Nat → Nat) (v : Nat) : Prop := zr_race o g L c 0 1 v ∨ zr_race o g L c 0 2 v ∨ zr_race o g L c 1 2 v
section
variable {o g L c : Nat → Nat} {t u : Nat} {f_steps f_foundCount : Int32} {a_ops a_args a_codeLength a_cell a_cameFrom a_cameBy a_distance a_slots a_isEnding a_walkLeft a_walkAsleep : Nat → Int32} {a_trail a_found a_walkState : Nat → Int64}
theorem zx_doTouch {post : Int32 → Prop} (hC : zx_C o g L a_ops a_args a_codeLength) (hE : zx_E c a_cell) (ht : t < 3) (hu : u < 3) (hpt : c (7 + t) < L t) (hpu : c (7 + u) < L u)
    (h1 : zc_T o g (zc_pc c t) (zc_pc c u) → post 1) (h0 : ¬ zc_T o g (zc_pc c t) (zc_pc c u) → post 0) : wpX_doTouch post (f_steps, f_foundCount, a_ops, a_args, a_codeLength, a_trail, a_cell, a_found, a_cameFrom, a_cameBy, a_distance, a_slots, a_isEnding, a_walkState, a_walkLeft, a_walkAsleep) (nI t) (nI u) := by
  have hLt := (hC.1 t ht).1
  have hLu := (hC.1 u hu).1
  have hGt := (hC.1 t ht).2 _ hpt
  have hGu := (hC.1 u hu).2 _ hpu
  have hkt : zc_pc c t < 15 := by unfold zc_pc; omega
  have hku : zc_pc c u < 15 := by unfold zc_pc; omega
  have ot : o (zc_pc c t) ≤ 11 := hGt.1
  have ou : o (zc_pc c u) ≤ 11 := hGu.1
  have gt : g (zc_pc c t) < 8 := hGt.2.1
  have gu : g (zc_pc c u) < 8 := hGu.2.1
  have it : vp_in (nI (zc_pc c t)) 15 := vp_in_nI hkt (by omega)
  have iu : vp_in (nI (zc_pc c u)) 15 := vp_in_nI hku (by omega)
  have opt := zx_op hC (rfl : nI (zc_pc c t) = nI (zc_pc c t)) hkt
  have opu := zx_op hC (rfl : nI (zc_pc c u) = nI (zc_pc c u)) hku
  have art := zx_ar hC (rfl : nI (zc_pc c t) = nI (zc_pc c t)) hkt
  have aru := zx_ar hC (rfl : nI (zc_pc c u) = nI (zc_pc c u)) hku
  have ept : nI t * 5 + a_cell (7 + nI t).toNatClampNeg = nI (zc_pc c t) := by rw [zx_at hE (zx_a7 t) (by omega), zx_pc]; rfl
  have epu : nI u * 5 + a_cell (7 + nI u).toNatClampNeg = nI (zc_pc c u) := by rw [zx_at hE (zx_a7 u) (by omega), zx_pc]; rfl
  refine And.intro (pk_in (7 + t) 16 (by omega) (zx_a7 t)) (nm_r ept (And.intro (pk_in (7 + u) 16 (by omega) (zx_a7 u)) (nm_r epu (And.intro it (And.intro iu ?_)))))
  refine pk_eq (g (zc_pc c t)) (g (zc_pc c u)) (fun eg => And.intro it ?_) (fun eg => h0 fun h => eg h.1) art aru (by omega) (by omega)
  rw [opt]
  refine zx_isOfLock ot (fun hl => br_f (by decide) (And.intro iu ?_)) (fun hl => br_t rfl (And.intro it ?_))
  · rw [opu]
    exact zx_isOfLock ou (fun hl2 => And.intro zy_nb1 (h1 ⟨eg, Or.inl ⟨hl, hl2⟩⟩)) (fun hl2 => And.intro zy_nb0 (h0 fun h => by
      rcases h.2 with h | h
      · exact hl2 h.2
      · omega))
  · refine zx_isOfVariable ot (fun hv => br_f (by decide) (And.intro iu ?_)) (fun hv => br_t rfl (br_t rfl (h0 fun h => ?_)))
    rotate_left
    · rcases h.2 with h | h
      · exact hl h.1
      · omega
    rw [opu]
    refine zx_isOfVariable ou (fun hv2 => br_f (by decide) (br_f (by decide) (And.intro it ?_))) (fun hv2 => br_t rfl (br_t rfl (h0 fun h => ?_)))
    · refine pk_eq (o (zc_pc c t)) 0 (fun e => And.intro iu ?_) (fun e => h1 ⟨eg, Or.inr ⟨hv, hv2, Or.inl e⟩⟩) opt rfl (by omega) (by omega)
      refine pk_eq (o (zc_pc c u)) 0 (fun e2 => h0 fun h => ?_) (fun e2 => h1 ⟨eg, Or.inr ⟨hv, hv2, Or.inr e2⟩⟩) opu rfl (by omega) (by omega)
      rcases h.2 with h | h
      · omega
      · omega
    · rcases h.2 with h | h
      · exact hl h.1
      · omega
theorem zx_isRaceOf {post : Int32 → Prop} {v : Nat} (hC : zx_C o g L a_ops a_args a_codeLength) (hV : zc_V o L c) (hE : zx_E c a_cell) (ht : t < 3) (hu : u < 3) (hv : v < 4)
    (h1 : zr_race o g L c t u v → post 1) (h0 : ¬ zr_race o g L c t u v → post 0) : wpX_isRaceOf post (f_steps, f_foundCount, a_ops, a_args, a_codeLength, a_trail, a_cell, a_found, a_cameFrom, a_cameBy, a_distance, a_slots, a_isEnding, a_walkState, a_walkLeft, a_walkAsleep) (nI t) (nI u) (nI v) := by
  have hB := zp_bX (zx_L5 hC) hV
  unfold wpX_isRaceOf
  refine zx_hasEnded hC ht hE hB (fun hpt => br_t rfl ?_) (fun hn => br_f (by decide) (h0 fun h => hn h.1))
  refine zx_hasEnded hC hu hE hB (fun hpu => br_t rfl ?_) (fun hn => br_f (by decide) (h0 fun h => hn h.2.1))
  have hLt := (hC.1 t ht).1
  have hGt := (hC.1 t ht).2 _ hpt
  have hkt : zc_pc c t < 15 := by unfold zc_pc; omega
  have ot : o (zc_pc c t) ≤ 11 := hGt.1
  have gt : g (zc_pc c t) < 8 := hGt.2.1
  have it : vp_in (nI (zc_pc c t)) 15 := vp_in_nI hkt (by omega)
  have ept : nI t * 5 + a_cell (7 + nI t).toNatClampNeg = nI (zc_pc c t) := by rw [zx_at hE (zx_a7 t) (by omega), zx_pc]; rfl
  refine And.intro (pk_in (7 + t) 16 (by omega) (zx_a7 t)) (nm_r ept (And.intro it ?_))
  rw [zx_op hC (rfl : nI (zc_pc c t) = nI (zc_pc c t)) hkt]
  refine zx_isOfVariable ot (fun hv4 => br_f (by decide) (And.intro it ?_)) (fun hv4 => br_t rfl (h0 fun h => hv4 h.2.2.1))
  refine pk_eq (g (zc_pc c t)) v (fun eg => ?_) (fun eg => h0 fun h => eg h.2.2.2.1) (zx_ar hC rfl hkt) rfl (by omega) (by omega)
  exact zx_doTouch hC hE ht hu hpt hpu (fun hT => br_f (by decide) (h1 ⟨hpt, hpu, hv4, eg, hT⟩)) (fun hT => br_t rfl (h0 fun h => hT h.2.2.2.2))
theorem zx_raceL {post : Int32 → SX → Prop} {v : Nat} {l : List (Nat → Nat)} (hC : zx_C o g L a_ops a_args a_codeLength) (hV : ∀ x, x ∈ l → zc_V o L x) (hlen : l.length ≤ 1201)
    (hf : ∀ i, i < l.length → a_found i = lN (zp_X (zb_at l i))) (hv : v < 4)
    (h1 : (∃ i, i < l.length ∧ zr_any o g L (zb_at l i) v) → ∀ cell, post 1 (f_steps, nI l.length, a_ops, a_args, a_codeLength, a_trail, cell, a_found, a_cameFrom, a_cameBy, a_distance, a_slots, a_isEnding, a_walkState, a_walkLeft, a_walkAsleep))
    (h0 : (¬ ∃ i, i < l.length ∧ zr_any o g L (zb_at l i) v) → ∀ cell, post 0 (f_steps, nI l.length, a_ops, a_args, a_codeLength, a_trail, cell, a_found, a_cameFrom, a_cameBy, a_distance, a_slots, a_isEnding, a_walkState, a_walkLeft, a_walkAsleep)) :
    ∀ d i cell, i + d = l.length → (∀ j, j < i → ¬ zr_any o g L (zb_at l j) v) → wX_race_23 post (nI v) (d + 1) (nI i) f_steps (nI l.length) a_ops a_args a_codeLength a_trail cell a_found a_cameFrom a_cameBy a_distance a_slots a_isEnding a_walkState a_walkLeft a_walkAsleep := by
  intro d
  induction d with
  | zero =>
    intro i cell hi hj
    refine pk_le l.length i (fun _ => h0 (fun ⟨j, hj1, hj2⟩ => hj j (by omega) hj2) cell) (fun h => by omega) rfl rfl (by omega) (by omega)
  | succ d ih =>
    intro i cell hi hj
    have hil : i < l.length := by omega
    have hVi := hV _ (zb_at_mem hil)
    have ef : a_found (nI i).toNatClampNeg = lN (zp_X (zb_at l i)) := by rw [nI_clamp (by omega)]; exact hf i hil
    refine pk_le l.length i (fun h => by omega) (fun h => And.intro (vp_in_nI (by omega) (by omega)) (zx_unpack' ef (zp_bX (zx_L5 hC) hVi) fun a1 ha1 => ?_)) rfl rfl (by omega) (by omega)
    refine zx_isRaceOf (t := 0) (u := 1) hC hVi ha1 (by omega) (by omega) hv (fun r => br_f (by decide) (h1 ⟨i, hil, Or.inl r⟩ _)) (fun r1 => br_t rfl ?_)
    refine zx_isRaceOf (t := 0) (u := 2) hC hVi ha1 (by omega) (by omega) hv (fun r => br_f (by decide) (h1 ⟨i, hil, Or.inr (Or.inl r)⟩ _)) (fun r2 => br_t rfl ?_)
    refine zx_isRaceOf (t := 1) (u := 2) hC hVi ha1 (by omega) (by omega) hv (fun r => br_f (by decide) (h1 ⟨i, hil, Or.inr (Or.inr r)⟩ _)) (fun r3 => br_t rfl (nm_r (nI_1 i) ?_))
    refine ih (i + 1) a1 (by omega) fun j hji => ?_
    by_cases e : j = i
    · subst e
      rintro (r | r | r)
      · exact r1 r
      · exact r2 r
      · exact r3 r
    · exact hj j (by omega)
def zr_mc (l : List (Nat → Nat)) (t i u j : Nat) : Nat → Nat
  | 0 => 0
  | k + 1 => zr_mc l t i u j k + (if zb_at l k (7 + t) = i ∧ zb_at l k (7 + u) = j then 1 else 0)
theorem zx_meetL {post : Int32 → SX → Prop} {i j : Nat} {l : List (Nat → Nat)} (hC : zx_C o g L a_ops a_args a_codeLength) (hV : ∀ x, x ∈ l → zc_V o L x) (hlen : l.length ≤ 1201)
    (hf : ∀ i, i < l.length → a_found i = lN (zp_X (zb_at l i))) (ht : t < 3) (hu : u < 3) (hi : i ≤ 5) (hj : j ≤ 5)
    (h1 : ∀ cell, post (nI (zr_mc l t i u j l.length)) (f_steps, nI l.length, a_ops, a_args, a_codeLength, a_trail, cell, a_found, a_cameFrom, a_cameBy, a_distance, a_slots, a_isEnding, a_walkState, a_walkLeft, a_walkAsleep)) :
    ∀ d k cell, k + d = l.length → wX_meet_52 post (nI t) (nI i) (nI u) (nI j) (d + 1) (nI (zr_mc l t i u j k)) (nI k) f_steps (nI l.length) a_ops a_args a_codeLength a_trail cell a_found a_cameFrom a_cameBy a_distance a_slots a_isEnding a_walkState a_walkLeft a_walkAsleep := by
  intro d
  induction d with
  | zero =>
    intro k cell hk
    have e : k = l.length := by omega
    subst e
    exact pk_le l.length l.length (fun _ => h1 cell) (fun h => by omega) rfl rfl (by omega) (by omega)
  | succ d ih =>
    intro k cell hk
    have hil : k < l.length := by omega
    have hVi := hV _ (zb_at_mem hil)
    have hB := zp_bX (zx_L5 hC) hVi
    have ef : a_found (nI k).toNatClampNeg = lN (zp_X (zb_at l k)) := by rw [nI_clamp (by omega)]; exact hf k hil
    have bt := hB (7 + t)
    have bu := hB (7 + u)
    refine pk_le l.length k (fun h => by omega) (fun h => And.intro (vp_in_nI (by omega) (by omega)) (zx_unpack' ef hB fun a1 ha1 => ?_)) rfl rfl (by omega) (by omega)
    refine And.intro (pk_in (7 + t) 16 (by omega) (zx_a7 t)) (pk_eq (zb_at l k (7 + t)) i (fun e1 => And.intro (pk_in (7 + u) 16 (by omega) (zx_a7 u)) ?_) (fun e1 => nm_r (nI_1 k) ?_) (zx_at ha1 (zx_a7 t) (by omega)) rfl (by omega) (by omega))
    · refine pk_eq (zb_at l k (7 + u)) j (fun e2 => ?_) (fun e2 => nm_r (nI_1 k) ?_) (zx_at ha1 (zx_a7 u) (by omega)) rfl (by omega) (by omega)
      · have e : zr_mc l t i u j (k + 1) = zr_mc l t i u j k + 1 := by simp [zr_mc, e1, e2]
        have := ih (k + 1) a1 (by omega)
        rw [e] at this
        exact nm_r (nI_1 _) (nm_r (nI_1 k) this)
      · have e : zr_mc l t i u j (k + 1) = zr_mc l t i u j k := by simp [zr_mc, e2]
        have := ih (k + 1) a1 (by omega)
        rw [e] at this
        exact this
    · have e : zr_mc l t i u j (k + 1) = zr_mc l t i u j k := by simp [zr_mc, e1]
      have := ih (k + 1) a1 (by omega)
      rw [e] at this
      exact this
end
section
variable {o g L c : Nat → Nat} {t u : Nat} {f_steps f_count f_known f_different : Int32} {a_ops a_args a_length a_next a_table a_far a_found a_who a_what a_tried : Nat → Int32} {a_path a_list a_before : Nat → Int64}
theorem zy_isOfVariable {post : Int32 → Prop} {op : Nat} (ho : op ≤ 11) (h1 : op < 4 → post 1) (h0 : ¬ op < 4 → post 0) : wpY_isOfVariable post (nI op) :=
  pk_le 4 op (fun h => h0 (by omega)) (fun h => h1 (by omega))
theorem zy_isOfLock {post : Int32 → Prop} {op : Nat} (ho : op ≤ 11) (h1 : (op = 7 ∨ op = 8 ∨ op = 10 ∨ op = 11) → post 1) (h0 : ¬ (op = 7 ∨ op = 8 ∨ op = 10 ∨ op = 11) → post 0) : wpY_isOfLock post (nI op) :=
  pk_eq op 7 (fun h => h1 (by omega)) (fun h7 => pk_eq op 8 (fun h => h1 (by omega)) (fun h8 => pk_lt op 10 (fun h => h0 (by omega)) (fun h => h1 (by omega))))
theorem zy_touch {post : Int32 → Prop} {k m : Nat} (hC : zx_C o g L a_ops a_args a_length) (hk : k < 15) (hm : m < 15) (ok : o k ≤ 11) (om : o m ≤ 11) (gk : g k < 8) (gm : g m < 8)
    (h1 : zc_T o g k m → post 1) (h0 : ¬ zc_T o g k m → post 0) : wpY_touch post (f_steps, f_count, f_known, f_different, a_ops, a_args, a_length, a_path, a_list, a_next, a_table, a_far, a_found, a_who, a_what, a_before, a_tried) (nI k) (nI m) := by
  have ik : vp_in (nI k) 15 := vp_in_nI hk (by omega)
  have im : vp_in (nI m) 15 := vp_in_nI hm (by omega)
  have opk := zx_op hC (rfl : nI k = nI k) hk
  have opm := zx_op hC (rfl : nI m = nI m) hm
  have t43 : g k = g m → ¬ ((o k = 7 ∨ o k = 8 ∨ o k = 10 ∨ o k = 11) ∧ (o m = 7 ∨ o m = 8 ∨ o m = 10 ∨ o m = 11)) → wY_touch_43 post (nI k) (nI m) f_steps f_count f_known f_different a_ops a_args a_length a_path a_list a_next a_table a_far a_found a_who a_what a_before a_tried := by
    intro eg hl
    unfold wY_touch_43
    refine And.intro ik ?_
    rw [opk]
    refine zy_isOfVariable ok (fun hv => br_f (by decide) (And.intro im ?_)) (fun hv => br_t rfl (h0 fun h => ?_))
    · rw [opm]
      refine zy_isOfVariable om (fun hv2 => br_f (by decide) (And.intro ik ?_)) (fun hv2 => br_t rfl (h0 fun h => ?_))
      · refine pk_eq (o k) 0 (fun e => And.intro im ?_) (fun e => h1 ⟨eg, Or.inr ⟨hv, hv2, Or.inl e⟩⟩) (by rfl) rfl (by omega) (by omega)
        refine pk_eq (o m) 0 (fun e2 => h0 fun h => ?_) (fun e2 => h1 ⟨eg, Or.inr ⟨hv, hv2, Or.inr e2⟩⟩) rfl rfl (by omega) (by omega)
        rcases h.2 with h | h <;> omega
      · rcases h.2 with h | h
        · exact hl h
        · omega
    · rcases h.2 with h | h
      · exact hl h
      · omega
  refine And.intro ik (And.intro im (pk_eq (g k) (g m) (fun eg => And.intro ik ?_) (fun eg => h0 fun h => eg h.1) (zx_ar hC rfl hk) (zx_ar hC rfl hm) (by omega) (by omega)))
  rw [opk]
  refine zy_isOfLock ok (fun hl => br_f (by decide) (And.intro im ?_)) (fun hl => br_t rfl (t43 eg fun h => hl h.1))
  rw [opm]
  exact zy_isOfLock om (fun hl2 => br_f (by decide) (h1 ⟨eg, Or.inl ⟨hl, hl2⟩⟩)) (fun hl2 => br_t rfl (t43 eg fun h => hl2 h.2))
theorem zy_races {post : Int32 → Prop} {v : Nat} (hC : zx_C o g L a_ops a_args a_length) (hV : zc_V o L c) (ht : t < 3) (hu : u < 3) (hv : v < 4)
    (h1 : zr_race o g L c t u v → post 1) (h0 : ¬ zr_race o g L c t u v → post 0) : wpY_races post (f_steps, f_count, f_known, f_different, a_ops, a_args, a_length, a_path, a_list, a_next, a_table, a_far, a_found, a_who, a_what, a_before, a_tried) (lN (zp_Y c)) (nI v) (nI t) (nI u) := by
  have hB := zp_bX (zx_L5 hC) hV
  have hc := zp_bY (zx_L5 hC) hV
  have bt := hB (7 + t)
  have bu := hB (7 + u)
  have hLt := (hC.1 t ht).1
  have hLu := (hC.1 u hu).1
  have vt := hV.2.1 t ht
  have vu := hV.2.1 u hu
  unfold wpY_races
  refine zy_place hc ht (zy_place hc hu ?_)
  refine pk_eq (c (7 + t)) 5 (fun e => h0 fun h => by have := h.1; omega) (fun e => ?_) rfl rfl (by omega) (by omega)
  refine pk_eq (c (7 + u)) 5 (fun e2 => h0 fun h => by have := h.2.1; omega) (fun e2 => ?_) rfl rfl (by omega) (by omega)
  have hpt : c (7 + t) < L t := by omega
  have hpu : c (7 + u) < L u := by omega
  have hGt := (hC.1 t ht).2 _ hpt
  have hGu := (hC.1 u hu).2 _ hpu
  have hkt : zc_pc c t < 15 := by unfold zc_pc; omega
  have hku : zc_pc c u < 15 := by unfold zc_pc; omega
  have ot : o (zc_pc c t) ≤ 11 := hGt.1
  have ou : o (zc_pc c u) ≤ 11 := hGu.1
  have gt : g (zc_pc c t) < 8 := hGt.2.1
  have gu : g (zc_pc c u) < 8 := hGu.2.1
  have it : vp_in (nI (zc_pc c t)) 15 := vp_in_nI hkt (by omega)
  refine nm_r (e' := nI (zc_pc c t)) (zy_pc t _) (nm_r (e' := nI (zc_pc c u)) (zy_pc u _) (And.intro it ?_))
  rw [zx_op hC (rfl : nI (zc_pc c t) = nI (zc_pc c t)) hkt]
  refine zy_isOfVariable ot (fun hv4 => br_f (by decide) (And.intro it ?_)) (fun hv4 => br_t rfl (h0 fun h => hv4 h.2.2.1))
  refine pk_eq (g (zc_pc c t)) v (fun eg => ?_) (fun eg => h0 fun h => eg h.2.2.2.1) (zx_ar hC rfl hkt) rfl (by omega) (by omega)
  exact zy_touch hC hkt hku ot ou gt gu (fun hT => br_f (by decide) (h1 ⟨hpt, hpu, hv4, eg, hT⟩)) (fun hT => br_t rfl (h0 fun h => hT h.2.2.2.2))
theorem zy_raceL {post : Int32 → SY → Prop} {v : Nat} {l : List (Nat → Nat)} (hC : zx_C o g L a_ops a_args a_length) (hV : ∀ x, x ∈ l → zc_V o L x) (hlen : l.length ≤ 1201)
    (hf : ∀ i, i < l.length → a_list i = lN (zp_Y (zb_at l i))) (hv : v < 4)
    (h1 : (∃ i, i < l.length ∧ zr_any o g L (zb_at l i) v) → post 1 (f_steps, nI l.length, f_known, f_different, a_ops, a_args, a_length, a_path, a_list, a_next, a_table, a_far, a_found, a_who, a_what, a_before, a_tried))
    (h0 : (¬ ∃ i, i < l.length ∧ zr_any o g L (zb_at l i) v) → post 0 (f_steps, nI l.length, f_known, f_different, a_ops, a_args, a_length, a_path, a_list, a_next, a_table, a_far, a_found, a_who, a_what, a_before, a_tried)) :
    ∀ d i, i + d = l.length → (∀ j, j < i → ¬ zr_any o g L (zb_at l j) v) → wY_race_23 post (nI v) f_steps (nI l.length) f_known f_different a_ops a_args a_length a_path a_list a_next a_table a_far a_found a_who a_what a_before a_tried (d + 1) (nI i) := by
  intro d
  induction d with
  | zero =>
    intro i hi hj
    exact pk_le l.length i (fun _ => h0 (fun ⟨j, hj1, hj2⟩ => hj j (by omega) hj2)) (fun h => by omega) rfl rfl (by omega) (by omega)
  | succ d ih =>
    intro i hi hj
    have hil : i < l.length := by omega
    have hVi := hV _ (zb_at_mem hil)
    have ii : vp_in (nI i) 1201 := vp_in_nI (by omega) (by omega)
    have ef : a_list (nI i).toNatClampNeg = lN (zp_Y (zb_at l i)) := by rw [nI_clamp (by omega)]; exact hf i hil
    have m0 : (0 : Int32) + 1 - (0 + 1) / 3 * 3 = nI 1 := by decide
    have m1 : nI 1 + 1 - (nI 1 + 1) / 3 * 3 = nI 2 := by decide
    have m2 : nI 2 + 1 - (nI 2 + 1) / 3 * 3 = nI 0 := by decide
    refine pk_le l.length i (fun h => by omega) (fun h => ⟨4, ?_⟩) rfl rfl (by omega) (by omega)
    refine br_f (by decide) (And.intro ii (And.intro (by decide) ?_))
    rw [ef, m0]
    refine zy_races (t := 0) (u := 1) hC hVi (by omega) (by omega) hv (fun r => br_f (by decide) (h1 ⟨i, hil, Or.inl r⟩)) (fun r1 => br_t rfl (nm_r (nI_1 0) ?_))
    refine br_f (by decide) (And.intro ii (And.intro (by decide) ?_))
    rw [ef, m1]
    refine zy_races (t := 1) (u := 2) hC hVi (by omega) (by omega) hv (fun r => br_f (by decide) (h1 ⟨i, hil, Or.inr (Or.inr r)⟩)) (fun r2 => br_t rfl (nm_r (nI_1 1) ?_))
    refine br_f (by decide) (And.intro ii (And.intro (by decide) ?_))
    rw [ef, m2]
    refine zy_races (t := 2) (u := 0) hC hVi (by omega) (by omega) hv (fun r => br_f (by decide) (h1 ⟨i, hil, Or.inr (Or.inl (zr_race_sym r))⟩)) (fun r3 => br_t rfl (nm_r (nI_1 2) ?_))
    refine br_t (by decide) (nm_r (nI_1 i) (ih (i + 1) (by omega) fun j hji => ?_))
    by_cases e : j = i
    · subst e
      rintro (r | r | r)
      · exact r1 r
      · exact r3 (zr_race_sym r)
      · exact r2 r
    · exact hj j (by omega)
theorem zy_meetL {post : Int32 → SY → Prop} {i j : Nat} {l : List (Nat → Nat)} (hC : zx_C o g L a_ops a_args a_length) (hV : ∀ x, x ∈ l → zc_V o L x) (hlen : l.length ≤ 1201)
    (hf : ∀ i, i < l.length → a_list i = lN (zp_Y (zb_at l i))) (ht : t < 3) (hu : u < 3) (hi : i ≤ 5) (hj : j ≤ 5)
    (h1 : post (nI (zr_mc l t i u j l.length)) (f_steps, nI l.length, f_known, f_different, a_ops, a_args, a_length, a_path, a_list, a_next, a_table, a_far, a_found, a_who, a_what, a_before, a_tried)) :
    ∀ d k, k + d = l.length → wY_meet_60 post (nI t) (nI i) (nI u) (nI j) f_steps (nI l.length) f_known f_different a_ops a_args a_length a_path a_list a_next a_table a_far a_found a_who a_what a_before a_tried (d + 1) (nI (zr_mc l t i u j k)) (nI k) := by
  intro d
  induction d with
  | zero =>
    intro k hk
    have e : k = l.length := by omega
    subst e
    exact pk_le l.length l.length (fun _ => h1) (fun h => by omega) rfl rfl (by omega) (by omega)
  | succ d ih =>
    intro k hk
    have hil : k < l.length := by omega
    have hVi := hV _ (zb_at_mem hil)
    have hB := zp_bX (zx_L5 hC) hVi
    have hc := zp_bY (zx_L5 hC) hVi
    have ii : vp_in (nI k) 1201 := vp_in_nI (by omega) (by omega)
    have ef : a_list (nI k).toNatClampNeg = lN (zp_Y (zb_at l k)) := by rw [nI_clamp (by omega)]; exact hf k hil
    have bt := hB (7 + t)
    have bu := hB (7 + u)
    refine pk_le l.length k (fun h => by omega) (fun h => And.intro ii ?_) rfl rfl (by omega) (by omega)
    rw [ef]
    refine zy_place hc ht (pk_eq (zb_at l k (7 + t)) i (fun e1 => And.intro ii ?_) (fun e1 => nm_r (nI_1 k) ?_) rfl rfl (by omega) (by omega))
    · refine zy_place hc hu (pk_eq (zb_at l k (7 + u)) j (fun e2 => ?_) (fun e2 => nm_r (nI_1 k) ?_) rfl rfl (by omega) (by omega))
      · have e : zr_mc l t i u j (k + 1) = zr_mc l t i u j k + 1 := by simp [zr_mc, e1, e2]
        have := ih (k + 1) (by omega)
        rw [e] at this
        exact nm_r (nI_1 _) (nm_r (nI_1 k) this)
      · have e : zr_mc l t i u j (k + 1) = zr_mc l t i u j k := by simp [zr_mc, e2]
        have := ih (k + 1) (by omega)
        rw [e] at this
        exact this
    · have e : zr_mc l t i u j (k + 1) = zr_mc l t i u j k := by simp [zr_mc, e1]
      have := ih (k + 1) (by omega)
      rw [e] at this
      exact this
end
