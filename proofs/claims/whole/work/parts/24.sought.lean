/-! what is sought; the nearest -/
def zs_done (L c : Nat → Nat) : Prop := ∀ t, t < 3 → ¬ c (7 + t) < L t
def zs_S (o g L c : Nat → Nat) (w : Nat) : Prop :=
  (w = 0 ∧ c 15 ≠ 0) ∨ (w = 1 ∧ zt_end o g L c ∧ ¬ zs_done L c) ∨ (w = 2 ∧ zs_done L c) ∨ (w = 3 ∧ zs_done L c ∧ c 15 = 0)
theorem zs_end {o g L c : Nat → Nat} (h : zs_done L c) : zt_end o g L c := fun t ht hR => h t ht hR.1
section
variable {o g L c : Nat → Nat} {f_steps f_foundCount : Int32} {a_ops a_args a_codeLength a_cell a_cameFrom a_cameBy a_distance a_slots a_isEnding a_walkLeft a_walkAsleep : Nat → Int32} {a_trail a_found a_walkState : Nat → Int64}
theorem zx_isSought {post : Int32 → Prop} {w : Nat} (hC : zx_C o g L a_ops a_args a_codeLength) (hV : zc_V o L c) (hE : zx_E c a_cell) (hw : w ≤ 3)
    (h1 : zs_S o g L c w → post 1) (h0 : ¬ zs_S o g L c w → post 0) : wpX_isSought post (f_steps, f_foundCount, a_ops, a_args, a_codeLength, a_trail, a_cell, a_found, a_cameFrom, a_cameBy, a_distance, a_slots, a_isEnding, a_walkState, a_walkLeft, a_walkAsleep) (nI w) := by
  have hB := zp_bX (zx_L5 hC) hV
  have b15 := hB 15
  have c15 : a_cell 15 = nI (c 15) := hE 15 (by omega)
  refine pk_eq w 0 (fun e0 => ?_) (fun e0 => ?_) rfl rfl (by omega) (by omega)
  · refine pk_eq (c 15) 0 (fun e => h0 fun h => ?_) (fun e => h1 (Or.inl ⟨e0, e⟩)) c15 rfl (by omega) (by omega)
    rcases h with h | h | h | h
    · exact h.2 e
    · omega
    · omega
    · omega
  refine pk_eq w 1 (fun e1 => ?_) (fun e1 => ?_) rfl rfl (by omega) (by omega)
  · refine zx_readyThreads hC hV hE fun m hm => pk_eq m 0 (fun em => ?_) (fun em => h0 fun h => ?_) rfl rfl (by have := hm.1; omega) (by omega)
    · have hend : zt_end o g L c := (zx_M_0 hm).mp em
      refine zx_haveAllEnded hC hE hB (fun hd => br_f (by decide) (h0 fun h => ?_)) (fun hd => br_t rfl (h1 (Or.inr (Or.inl ⟨e1, hend, hd⟩))))
      rcases h with h | h | h | h
      · omega
      · exact h.2.2 hd
      · omega
      · omega
    · rcases h with h | h | h | h
      · omega
      · exact em ((zx_M_0 hm).mpr h.2.1)
      · omega
      · omega
  refine zx_haveAllEnded hC hE hB (fun hd => br_f (by decide) ?_) (fun hd => br_t rfl (h0 fun h => ?_))
  · refine pk_eq w 2 (fun e2 => h1 (Or.inr (Or.inr (Or.inl ⟨e2, hd⟩)))) (fun e2 => ?_) rfl rfl (by omega) (by omega)
    refine pk_eq (c 15) 0 (fun e => h1 (Or.inr (Or.inr (Or.inr ⟨by omega, hd, e⟩)))) (fun e => h0 fun h => ?_) c15 rfl (by omega) (by omega)
    rcases h with h | h | h | h
    · omega
    · omega
    · omega
    · exact e h.2.2
  · rcases h with h | h | h | h
    · omega
    · omega
    · exact hd h.2
    · exact hd h.2.1
theorem zx_nearest {post : Int32 → SX → Prop} {w : Nat} {l : List (Nat → Nat)} (hC : zx_C o g L a_ops a_args a_codeLength) (hV : ∀ x, x ∈ l → zc_V o L x) (hlen : l.length ≤ 1201)
    (hf : ∀ i, i < l.length → a_found i = lN (zp_X (zb_at l i))) (hw : w ≤ 3)
    (h1 : ∀ G, G < l.length → zs_S o g L (zb_at l G) w → (∀ j, j < G → ¬ zs_S o g L (zb_at l j) w) → ∀ cell, post (nI G) (f_steps, nI l.length, a_ops, a_args, a_codeLength, a_trail, cell, a_found, a_cameFrom, a_cameBy, a_distance, a_slots, a_isEnding, a_walkState, a_walkLeft, a_walkAsleep))
    (h0 : (∀ j, j < l.length → ¬ zs_S o g L (zb_at l j) w) → ∀ cell, post (-1) (f_steps, nI l.length, a_ops, a_args, a_codeLength, a_trail, cell, a_found, a_cameFrom, a_cameBy, a_distance, a_slots, a_isEnding, a_walkState, a_walkLeft, a_walkAsleep)) :
    wpX_nearest post (f_steps, nI l.length, a_ops, a_args, a_codeLength, a_trail, a_cell, a_found, a_cameFrom, a_cameBy, a_distance, a_slots, a_isEnding, a_walkState, a_walkLeft, a_walkAsleep) (nI w) := by
  have key : ∀ d i cell, i + d = l.length → (∀ j, j < i → ¬ zs_S o g L (zb_at l j) w) → wX_nearest_2 post (nI w) (d + 1) (nI i) f_steps (nI l.length) a_ops a_args a_codeLength a_trail cell a_found a_cameFrom a_cameBy a_distance a_slots a_isEnding a_walkState a_walkLeft a_walkAsleep := by
    intro d
    induction d with
    | zero =>
      intro i cell hi hj
      exact pk_le l.length i (fun _ => h0 (fun j hj2 => hj j (by omega)) cell) (fun h => by omega) rfl rfl (by omega) (by omega)
    | succ d ih =>
      intro i cell hi hj
      have hil : i < l.length := by omega
      have hVi := hV _ (zb_at_mem hil)
      have ef : a_found (nI i).toNatClampNeg = lN (zp_X (zb_at l i)) := by rw [nI_clamp (by omega)]; exact hf i hil
      refine pk_le l.length i (fun h => by omega) (fun h => And.intro (vp_in_nI (by omega) (by omega)) (zx_unpack' ef (zp_bX (zx_L5 hC) hVi) fun a1 ha1 => ?_)) rfl rfl (by omega) (by omega)
      refine zx_isSought hC hVi ha1 hw (fun hs => br_f (by decide) (h1 i hil hs hj a1)) (fun hs => br_t rfl (nm_r (nI_1 i) (ih (i + 1) a1 (by omega) fun j hji => ?_)))
      by_cases e : j = i
      · subst e; exact hs
      · exact hj j (by omega)
  exact ⟨l.length + 1, key _ 0 a_cell (by omega) fun j hj => by omega⟩
/-- what soonest comes to -/
theorem zx_soonest {post : Int32 → SX → Prop} {c0 : Nat → Nat} {w : Nat} (hC : zx_C o g L a_ops a_args a_codeLength) (hV : zc_V o L c0) {n : Nat} (hn : n ≤ 30) (ht : a_trail n = lN (zp_X c0)) (hw : w ≤ 3)
    (hM : 1200 < (zb_F o g L c0).length → ∀ (cell : Nat → Int32) (found : Nat → Int64) (cf cb ds sl : Nat → Int32),
      post (-2) (nI n, nI (zb_F o g L c0).length, a_ops, a_args, a_codeLength, a_trail, cell, found, cf, cb, ds, sl, a_isEnding, a_walkState, a_walkLeft, a_walkAsleep))
    (hN : (zb_F o g L c0).length ≤ 1200 → (∀ j, j < (zb_F o g L c0).length → ¬ zs_S o g L (zb_at (zb_F o g L c0) j) w) → ∀ (cell : Nat → Int32) (found : Nat → Int64) (cf cb ds sl key d : Nat → Int32),
      zx_K o g L (zb_F o g L c0) found cf cb ds →
      post (-3) (nI n, nI (zb_F o g L c0).length, a_ops, a_args, a_codeLength, a_trail, cell, found, cf, cb, ds, sl, a_isEnding, a_walkState, a_walkLeft, a_walkAsleep))
    (hS : (zb_F o g L c0).length ≤ 1200 → ∀ G, G < (zb_F o g L c0).length → zs_S o g L (zb_at (zb_F o g L c0) G) w → (∀ j, j < G → ¬ zs_S o g L (zb_at (zb_F o g L c0) j) w) →
      ∀ (cell : Nat → Int32) (found : Nat → Int64) (cf cb ds sl : Nat → Int32) (key d : Nat → Nat), (∀ i, i < (zb_F o g L c0).length → found i = lN (zp_X (zb_at (zb_F o g L c0) i))) →
      zg_B (zb_F o g L c0).length (zb_E o g L (zb_F o g L c0)) key d → (∀ j, j < (zb_F o g L c0).length → cf j = nI (key j / 3) ∧ cb j = nI (key j % 3) ∧ ds j = nI (d j)) →
      post (nI (d G)) (nI n, nI (zb_F o g L c0).length, a_ops, a_args, a_codeLength, a_trail, cell, found, cf, cb, ds, sl, a_isEnding, a_walkState, a_walkLeft, a_walkAsleep)) :
    wpX_soonest post (nI n, f_foundCount, a_ops, a_args, a_codeLength, a_trail, a_cell, a_found, a_cameFrom, a_cameBy, a_distance, a_slots, a_isEnding, a_walkState, a_walkLeft, a_walkAsleep) (nI w) := by
  have hFl := zr_Fl o g L c0
  have hFV : ∀ x, x ∈ zb_F o g L c0 → zc_V o L x := zb_V hC.1 hV 3600
  refine br_f (nI_pos (by omega)) (pk_le w 3 (fun _ => ?_) (fun h => by omega) rfl rfl (by omega) (by omega))
  refine zx_explore hC hV hn ht (fun hm cell found cf cb ds sl => br_t rfl (hM hm _ _ _ _ _ _)) (fun hm cell found cf cb ds sl K => br_f (by decide) ?_)
  refine zx_nearest hC hFV hFl K.1 hw (fun G hG hs hf cell' => br_t (nI_pos' (by omega)) (And.intro (vp_in_nI (by omega) (by omega)) ?_)) (fun hno cell' => br_f (by decide) (hN hm hno _ _ _ _ _ _ cell' cell' K))
  obtain ⟨kf, key, d, hB, hD⟩ := K
  have e : ds (nI G).toNatClampNeg = nI (d G) := by rw [nI_clamp (by omega)]; exact (hD G hG).2.2
  rw [e]
  exact hS hm G hG hs hf _ _ _ _ _ _ key d kf hB hD
end
section
variable {o g L c : Nat → Nat} {f_steps f_count f_known f_different : Int32} {a_ops a_args a_length a_next a_table a_far a_found a_who a_what a_tried : Nat → Int32} {a_path a_list a_before : Nat → Int64}
theorem zy_isSought {post : Int32 → Prop} {w : Nat} (hC : zx_C o g L a_ops a_args a_length) (hV : zc_V o L c) (hw : w ≤ 3)
    (h1 : zs_S o g L c w → post 1) (h0 : ¬ zs_S o g L c w → post 0) : wpY_isSought post (f_steps, f_count, f_known, f_different, a_ops, a_args, a_length, a_path, a_list, a_next, a_table, a_far, a_found, a_who, a_what, a_before, a_tried) (lN (zp_Y c)) (nI w) := by
  have hc := zp_bY (zx_L5 hC) hV
  have b15 : c 15 < 2 := hV.2.2.2.2.1
  refine pk_eq w 0 (fun e0 => ?_) (fun e0 => ?_) rfl rfl (by omega) (by omega)
  · refine zy_bad hc (pk_eq (c 15) 1 (fun e => h1 (Or.inl ⟨e0, by omega⟩)) (fun e => h0 fun h => ?_) rfl rfl (by omega) (by omega))
    rcases h with h | h | h | h
    · omega
    · omega
    · omega
    · omega
  refine zy_isEnd hC hV (fun he => br_f (by decide) ?_) (fun he => br_t rfl (h0 fun h => ?_))
  · refine pk_eq w 1 (fun e1 => ?_) (fun e1 => ?_) rfl rfl (by omega) (by omega)
    · refine zy_isDone hC hV (fun hd => br_f (by decide) (h0 fun h => ?_)) (fun hd => br_t rfl (h1 (Or.inr (Or.inl ⟨e1, he, hd⟩))))
      rcases h with h | h | h | h
      · omega
      · exact h.2.2 hd
      · omega
      · omega
    · refine zy_isDone hC hV (fun hd => br_f (by decide) ?_) (fun hd => br_t rfl (h0 fun h => ?_))
      · refine pk_eq w 2 (fun e2 => h1 (Or.inr (Or.inr (Or.inl ⟨e2, hd⟩)))) (fun e2 => ?_) rfl rfl (by omega) (by omega)
        refine zy_bad hc (pk_eq (c 15) 0 (fun e => h1 (Or.inr (Or.inr (Or.inr ⟨by omega, hd, e⟩)))) (fun e => h0 fun h => ?_) rfl rfl (by omega) (by omega))
        rcases h with h | h | h | h
        · omega
        · omega
        · omega
        · exact e h.2.2
      · rcases h with h | h | h | h
        · omega
        · omega
        · exact hd h.2
        · exact hd h.2.1
  · rcases h with h | h | h | h
    · omega
    · exact he h.2.1
    · exact he (zs_end h.2)
    · exact he (zs_end h.2.1)
end
