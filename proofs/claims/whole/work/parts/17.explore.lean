/-! the component's search for the states that can come -/
section
variable {o g L c : Nat → Nat}
theorem zx_inj (hL : ∀ t, t < 3 → L t ≤ 5) : ∀ x y, zc_V o L x → zc_V o L y → lN (zp_X x) = lN (zp_X y) → x = y := by
  intro x y hx hy h
  have a := zp_X_lt hL hx
  have b := zp_X_lt hL hy
  exact zp_X_inj hL hx hy ((pk_lEQ (by omega) (by omega)).mp h)
theorem zy_inj (hL : ∀ t, t < 3 → L t ≤ 5) : ∀ x y, zc_V o L x → zc_V o L y → lN (zp_Y x) = lN (zp_Y y) → x = y := by
  intro x y hx hy h
  have a := zp_Y_lt hL hx
  have b := zp_Y_lt hL hy
  exact zp_Y_inj hL hx hy ((pk_lEQ (by omega) (by omega)).mp h)
def zx_D (o g L c0 : Nat → Nat) (e : Nat) (cf cb ds : Nat → Int32) : Prop :=
  ∃ key d, zb_D o g L (zb_L o g L c0 e) e key d ∧ ∀ j, j < (zb_L o g L c0 e).length → cf j = nI (key j / 3) ∧ cb j = nI (key j % 3) ∧ ds j = nI (d j)
theorem zx_D_same {c0 : Nat → Nat} {e : Nat} {cf cb ds : Nat → Int32} (D : zx_D o g L c0 e cf cb ds) (h1 : e / 3 < (zb_L o g L c0 e).length)
    (h : ¬ (zc_R o g L (zb_at (zb_L o g L c0 e) (e / 3)) (e % 3) ∧ (zb_L o g L c0 e).length ≤ 1200 ∧
      zc_step o g L (zb_at (zb_L o g L c0 e) (e / 3)) (e % 3) ∉ zb_L o g L c0 e)) :
    zb_L o g L c0 (e + 1) = zb_L o g L c0 e ∧ zx_D o g L c0 (e + 1) cf cb ds := by
  obtain ⟨key, d, D1, D2⟩ := D
  obtain ⟨a, b⟩ := zb_D_same D1 h1 h
  refine ⟨a, key, d, b, ?_⟩
  rw [a]; exact D2
theorem zx_D_new {c0 : Nat → Nat} {e : Nat} {cf cb ds : Nat → Int32} (D : zx_D o g L c0 e cf cb ds) (h1 : e / 3 < (zb_L o g L c0 e).length)
    (h2 : zc_R o g L (zb_at (zb_L o g L c0 e) (e / 3)) (e % 3)) (h3 : (zb_L o g L c0 e).length ≤ 1200)
    (h4 : zc_step o g L (zb_at (zb_L o g L c0 e) (e / 3)) (e % 3) ∉ zb_L o g L c0 e) {p1 p2 p3 : Int32} (e1 : p1 = nI (e / 3)) (e2 : p2 = nI (e % 3)) (e3 : p3 = ds (e / 3) + 1) :
    zb_L o g L c0 (e + 1) = zb_L o g L c0 e ++ [zc_step o g L (zb_at (zb_L o g L c0 e) (e / 3)) (e % 3)] ∧
    zx_D o g L c0 (e + 1) (upd cf (zb_L o g L c0 e).length p1) (upd cb (zb_L o g L c0 e).length p2) (upd ds (zb_L o g L c0 e).length p3) := by
  obtain ⟨key, d, D1, D2⟩ := D
  obtain ⟨a, b⟩ := zb_D_new D1 h1 h2 h3 h4
  refine ⟨a, _, _, b, ?_⟩
  rw [a]
  intro j hj
  rw [List.length_append, List.length_singleton] at hj
  by_cases ej : j = (zb_L o g L c0 e).length
  · rw [ej, pk_us, pk_us, pk_us, zc_up_s, zc_up_s, e3, (D2 _ h1).2.2]
    exact ⟨e1, e2, nI_1 _⟩
  · rw [pk_un ej, pk_un ej, pk_un ej, zc_up_n ej, zc_up_n ej]
    exact D2 j (by omega)
end
section
variable {o g L c0 : Nat → Nat} {f_steps f_foundCount : Int32} {a_ops a_args a_codeLength a_cell a_cameFrom a_cameBy a_distance a_slots a_isEnding a_walkLeft a_walkAsleep : Nat → Int32} {a_trail a_found a_walkState : Nat → Int64}
theorem zx_unpack' {post : SX → Prop} {c : Nat → Nat} {s : Int64} (hs : s = lN (zp_X c)) (hB : ∀ j, c j < 8) (hp : ∀ a', zx_E c a' → post (f_steps, f_foundCount, a_ops, a_args, a_codeLength, a_trail, a', a_found, a_cameFrom, a_cameBy, a_distance, a_slots, a_isEnding, a_walkState, a_walkLeft, a_walkAsleep)) : wpX_unpack post (f_steps, f_foundCount, a_ops, a_args, a_codeLength, a_trail, a_cell, a_found, a_cameFrom, a_cameBy, a_distance, a_slots, a_isEnding, a_walkState, a_walkLeft, a_walkAsleep) s := by
  rw [hs]; exact zx_unpack hB hp
theorem zx_ex62 {post : Int32 → SX → Prop} {J : Int32 → Int32 → Int32 → (Nat → Int32) → (Nat → Int32) → (Nat → Int32) → (Nat → Int64) → (Nat → Int32) → (Nat → Int64) → (Nat → Int32) → (Nat → Int32) → (Nat → Int32) → (Nat → Int32) → (Nat → Int32) → (Nat → Int64) → (Nat → Int32) → (Nat → Int32) → Prop}
    (hC : zx_C o g L a_ops a_args a_codeLength) (hV : zc_V o L c0) {i : Nat} (hi : i < 1200)
    (hJ : ∀ (cell : Nat → Int32) (found : Nat → Int64) (cf cb ds sl : Nat → Int32), zb_T zp_X (zb_L o g L c0 (3 * (i + 1))) found sl → zx_D o g L c0 (3 * (i + 1)) cf cb ds →
      J (nI (i + 1)) f_steps (nI (zb_L o g L c0 (3 * (i + 1))).length) a_ops a_args a_codeLength a_trail cell found cf cb ds sl a_isEnding a_walkState a_walkLeft a_walkAsleep) :
    ∀ (d t : Nat) (cell : Nat → Int32) (found : Nat → Int64) (cf cb ds sl : Nat → Int32), t + d = 3 → i < (zb_L o g L c0 (3 * i + t)).length →
      zb_T zp_X (zb_L o g L c0 (3 * i + t)) found sl → zx_D o g L c0 (3 * i + t) cf cb ds →
      wX_explore_62 post J (nI i) (d + 1) (nI t) f_steps (nI (zb_L o g L c0 (3 * i + t)).length) a_ops a_args a_codeLength a_trail cell found cf cb ds sl a_isEnding a_walkState a_walkLeft a_walkAsleep := by
  have hL := zx_L5 hC
  intro d
  induction d with
  | zero =>
    intro t cell found cf cb ds sl ht hl T D
    have e : t = 3 := by omega
    subst e
    exact br_t (by decide) (nm_r (nI_1 i) (hJ cell found cf cb ds sl T D))
  | succ d ih =>
    intro t cell found cf cb ds sl ht hl T D
    have e3 : (3 * i + t) / 3 = i := by omega
    have e4 : (3 * i + t) % 3 = t := by omega
    have hVl := zb_V hC.1 hV (3 * i + t)
    have hVi := hVl _ (zb_at_mem hl)
    have hB := zp_bX hL hVi
    have ii : vp_in (nI i) 1201 := vp_in_nI (by omega) (by omega)
    have ec : (nI i).toNatClampNeg = i := nI_clamp (by omega)
    have ef : found (nI i).toNatClampNeg = lN (zp_X (zb_at (zb_L o g L c0 (3 * i + t)) i)) := by rw [ec]; exact T.2.1 i hl
    refine br_f (nI_ge (b := 3) (by omega) (by decide)) (And.intro ii (zx_unpack' ef hB fun a1 ha1 => ?_))
    refine zx_isReady hC hVi (by omega) ha1 (fun hR => br_f (by decide) ?_) (fun hR => br_t rfl (nm_r (nI_1 t) ?_))
    · have hVs := zc_V_step hC.1 hVi (by omega) hR
      refine zx_advance hC hVi (by omega) ha1 hR fun a2 ha2 => zx_packed ha2 (zp_bX hL hVs) (And.intro ii ?_)
      refine zx_keep (P := zc_V o L) T (zx_inj hL) hVl hVs (fun h0 => nm_r (nI_1 t) ?_) (fun h1 h2 s' T' => nm_r (nI_1 t) ?_)
      · have hs := zx_D_same D (by rw [e3]; exact hl) (by
          rw [e3, e4]
          rintro ⟨_, h6, h7⟩
          rcases h0 with h0 | h0
          · exact h7 h0
          · omega)
        have := ih (t + 1) a2 found cf cb ds sl (by omega) (by show i < (zb_L o g L c0 (3 * i + t + 1)).length; rw [hs.1]; exact hl)
          (by show zb_T zp_X (zb_L o g L c0 (3 * i + t + 1)) found sl; rw [hs.1]; exact T) hs.2
        have el : (zb_L o g L c0 (3 * i + (t + 1))).length = (zb_L o g L c0 (3 * i + t)).length := congrArg List.length hs.1
        rw [el] at this
        exact this
      · have hs := zx_D_new D (by rw [e3]; exact hl) (by rw [e3, e4]; exact hR) h2 (by rw [e3, e4]; exact h1) (p1 := nI i) (p2 := nI t) (p3 := ds (nI i).toNatClampNeg + 1)
          (by rw [e3]) (by rw [e4]) (by rw [e3, ec])
        rw [e3, e4] at hs
        have el : (zb_L o g L c0 (3 * i + (t + 1))).length = (zb_L o g L c0 (3 * i + t)).length + 1 := by
          show (zb_L o g L c0 (3 * i + t + 1)).length = _
          rw [hs.1]; simp
        have := ih (t + 1) a2 (vp_updL found (zb_L o g L c0 (3 * i + t)).length (lN (zp_X (zc_step o g L (zb_at (zb_L o g L c0 (3 * i + t)) i) t))))
          (upd cf (zb_L o g L c0 (3 * i + t)).length (nI i)) (upd cb (zb_L o g L c0 (3 * i + t)).length (nI t)) (upd ds (zb_L o g L c0 (3 * i + t)).length (ds (nI i).toNatClampNeg + 1)) s' (by omega)
          (by rw [el]; omega) (by show zb_T zp_X (zb_L o g L c0 (3 * i + t + 1)) _ _; rw [hs.1]; exact T') hs.2
        rw [el] at this
        exact this
    · have hs := zx_D_same D (by rw [e3]; exact hl) (by rw [e3, e4]; exact fun h => hR h.1)
      have := ih (t + 1) a1 found cf cb ds sl (by omega) (by show i < (zb_L o g L c0 (3 * i + t + 1)).length; rw [hs.1]; exact hl)
        (by show zb_T zp_X (zb_L o g L c0 (3 * i + t + 1)) found sl; rw [hs.1]; exact T) hs.2
      have el : (zb_L o g L c0 (3 * i + (t + 1))).length = (zb_L o g L c0 (3 * i + t)).length := congrArg List.length hs.1
      rw [el] at this
      exact this
/-- what the component knows after a search -/
def zx_K (o g L : Nat → Nat) (l : List (Nat → Nat)) (found : Nat → Int64) (cf cb ds : Nat → Int32) : Prop :=
  (∀ i, i < l.length → found i = lN (zp_X (zb_at l i))) ∧ ∃ key d, zg_B l.length (zb_E o g L l) key d ∧
    ∀ j, j < l.length → cf j = nI (key j / 3) ∧ cb j = nI (key j % 3) ∧ ds j = nI (d j)
theorem zx_ex45 {post : Int32 → SX → Prop} (hC : zx_C o g L a_ops a_args a_codeLength) (hV : zc_V o L c0)
    (h0 : 1200 < (zb_F o g L c0).length → ∀ (cell : Nat → Int32) (found : Nat → Int64) (cf cb ds sl : Nat → Int32),
      post 0 (f_steps, nI (zb_F o g L c0).length, a_ops, a_args, a_codeLength, a_trail, cell, found, cf, cb, ds, sl, a_isEnding, a_walkState, a_walkLeft, a_walkAsleep))
    (h1 : (zb_F o g L c0).length ≤ 1200 → ∀ (cell : Nat → Int32) (found : Nat → Int64) (cf cb ds sl : Nat → Int32), zx_K o g L (zb_F o g L c0) found cf cb ds →
      post 1 (f_steps, nI (zb_F o g L c0).length, a_ops, a_args, a_codeLength, a_trail, cell, found, cf, cb, ds, sl, a_isEnding, a_walkState, a_walkLeft, a_walkAsleep)) :
    ∀ (d i : Nat) (cell : Nat → Int32) (found : Nat → Int64) (cf cb ds sl : Nat → Int32), i + d = 1200 →
      zb_T zp_X (zb_L o g L c0 (3 * i)) found sl → zx_D o g L c0 (3 * i) cf cb ds →
      wX_explore_45 post (d + 1) (nI i) f_steps (nI (zb_L o g L c0 (3 * i)).length) a_ops a_args a_codeLength a_trail cell found cf cb ds sl a_isEnding a_walkState a_walkLeft a_walkAsleep := by
  have fin : ∀ (i : Nat) (cell : Nat → Int32) (found : Nat → Int64) (cf cb ds sl : Nat → Int32), i ≤ 1200 → (i = 1200 ∨ (zb_L o g L c0 (3 * i)).length ≤ i) →
      zb_T zp_X (zb_L o g L c0 (3 * i)) found sl → zx_D o g L c0 (3 * i) cf cb ds →
      wX_explore_122 post f_steps (nI (zb_L o g L c0 (3 * i)).length) a_ops a_args a_codeLength a_trail cell found cf cb ds sl a_isEnding a_walkState a_walkLeft a_walkAsleep := by
    intro i cell found cf cb ds sl hi hd T D
    have hF : zb_F o g L c0 = zb_L o g L c0 (3 * i) := by
      rcases hd with e | e
      · subst e; rfl
      · exact zb_F_at (by omega) (Or.inl (by omega))
    have hlen := T.1
    rw [hF] at h0 h1
    refine pk_lt 1200 (zb_L o g L c0 (3 * i)).length (fun h => h0 h _ _ _ _ _ _) (fun h => h1 h _ _ _ _ _ _ ?_) rfl rfl (by omega) (by omega)
    obtain ⟨key, dd, D1, D2⟩ := D
    exact ⟨T.2.1, key, dd, zb_B D1 (zb_nodup _) h (by omega), D2⟩
  intro d
  induction d with
  | zero =>
    intro i cell found cf cb ds sl hi T D
    have e : i = 1200 := by omega
    subst e
    exact br_t (by decide) (fin 1200 cell found cf cb ds sl (by omega) (Or.inl rfl) T D)
  | succ d ih =>
    intro i cell found cf cb ds sl hi T D
    have hlen := T.1
    refine br_f (nI_ge (b := 1200) (by omega) (by decide)) (pk_le (zb_L o g L c0 (3 * i)).length i (fun h => ?_) (fun h => ?_) rfl rfl (by omega) (by omega))
    · exact fin i cell found cf cb ds sl (by omega) (Or.inr h) T D
    · exact ⟨4, zx_ex62 hC hV (by omega) (fun cell found cf cb ds sl T' D' => ih (i + 1) cell found cf cb ds sl (by omega) T' D') 3 0 cell found cf cb ds sl rfl h T D⟩
theorem zx_explore {post : Int32 → SX → Prop} (hC : zx_C o g L a_ops a_args a_codeLength) (hV : zc_V o L c0) {n : Nat} (hn : n ≤ 30) (ht : a_trail n = lN (zp_X c0))
    (h0 : 1200 < (zb_F o g L c0).length → ∀ (cell : Nat → Int32) (found : Nat → Int64) (cf cb ds sl : Nat → Int32),
      post 0 (nI n, nI (zb_F o g L c0).length, a_ops, a_args, a_codeLength, a_trail, cell, found, cf, cb, ds, sl, a_isEnding, a_walkState, a_walkLeft, a_walkAsleep))
    (h1 : (zb_F o g L c0).length ≤ 1200 → ∀ (cell : Nat → Int32) (found : Nat → Int64) (cf cb ds sl : Nat → Int32), zx_K o g L (zb_F o g L c0) found cf cb ds →
      post 1 (nI n, nI (zb_F o g L c0).length, a_ops, a_args, a_codeLength, a_trail, cell, found, cf, cb, ds, sl, a_isEnding, a_walkState, a_walkLeft, a_walkAsleep)) :
    wpX_explore post (nI n, f_foundCount, a_ops, a_args, a_codeLength, a_trail, a_cell, a_found, a_cameFrom, a_cameBy, a_distance, a_slots, a_isEnding, a_walkState, a_walkLeft, a_walkAsleep) := by
  have key : ∀ d i (sl : Nat → Int32), i + d = 4096 → (∀ j, j < i → sl j = 0) → wX_explore_2 post (nI n) f_foundCount (d + 1) (nI i) a_ops a_args a_codeLength a_trail a_cell a_found a_cameFrom a_cameBy a_distance sl a_isEnding a_walkState a_walkLeft a_walkAsleep := by
    intro d
    induction d with
    | zero =>
      intro i sl hi hs
      have e : i = 4096 := by omega
      subst e
      have et : a_trail (nI n).toNatClampNeg = lN (zp_X c0) := by rw [nI_clamp (by omega)]; exact ht
      refine br_t (by decide) (And.intro (vp_in_nI (by omega) (by omega)) ?_)
      rw [et]
      refine zx_keep (l := []) (P := zc_V o L) (zb_T_0 hs) (zx_inj (zx_L5 hC)) (fun x hx => by simp at hx) hV (fun h => ?_) (fun _ _ s' T' => ⟨1201, ?_⟩)
      · rcases h with h | h
        · simp at h
        · simp at h
      · refine zx_ex45 hC hV h0 h1 1200 0 _ _ _ _ _ _ (by omega) T' ?_
        refine ⟨fun _ => 0, fun _ => 0, zb_D_0, fun j hj => ?_⟩
        have hj' : j < 1 := hj
        have e0 : j = 0 := by omega
        subst e0
        exact ⟨rfl, rfl, rfl⟩
    | succ d ih =>
      intro i sl hi hs
      refine br_f (nI_ge (b := 4096) (by omega) (by decide)) (And.intro (vp_in_nI (by omega) (by omega)) (nm_e (nm_r (nI_1 i) (ih (i + 1) _ (by omega) fun j hj => ?_))))
      rw [nI_clamp (by omega)]
      unfold upd
      by_cases e : j = i
      · rw [if_pos e]
      · rw [if_neg e]; exact hs j (by omega)
  exact ⟨4097, key 4096 0 a_slots rfl fun j hj => by omega⟩
end
