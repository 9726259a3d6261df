/-! the reference's search for the states that can come -/
section
variable {o g L c0 : Nat → Nat}
theorem zb_N_up {l l' : List (Nat → Nat)} {e : Nat} {nx nx' : Nat → Int32} (N : zb_N o g L l e nx) (hle : l.length ≤ 1200) (hat : ∀ i, i < l.length → zb_at l' i = zb_at l i)
    (hlen : l.length ≤ l'.length) (he : e / 3 < l.length) (hnx : ∀ j, j ≠ e → nx' j = nx j) (hn : ¬ zc_R o g L (zb_at l (e / 3)) (e % 3) → nx' e = -1)
    (hy : zc_R o g L (zb_at l (e / 3)) (e % 3) → ∃ m, m < l'.length ∧ nx' e = nI m ∧ zb_at l' m = zc_step o g L (zb_at l (e / 3)) (e % 3)) : zb_N o g L l' (e + 1) nx' := by
  intro _ i t ht hi hb
  have hil : i < l.length := by omega
  rw [hat i hil]
  by_cases e1 : 3 * i + t = e
  · have ei : e / 3 = i := by omega
    have et : e % 3 = t := by omega
    rw [ei, et] at hn hy
    rw [e1]
    exact ⟨hn, hy⟩
  · have := N hle i t ht hil (by omega)
    rw [hnx _ e1]
    refine ⟨this.1, fun hR => ?_⟩
    obtain ⟨m, m1, m2, m3⟩ := this.2 hR
    exact ⟨m, by omega, m2, by rw [hat m m1]; exact m3⟩
theorem zb_N_big {l : List (Nat → Nat)} {e : Nat} {nx : Nat → Int32} (h : 1200 < l.length) : zb_N o g L l e nx := fun h2 => by omega
def zy_S (o g L c0 : Nat → Nat) (count : Int32) (list : Nat → Int64) (next : Nat → Int32) : Prop :=
  count = nI (zb_F o g L c0).length ∧ (∀ i, i < (zb_F o g L c0).length → list i = lN (zp_Y (zb_at (zb_F o g L c0) i))) ∧
  zb_N o g L (zb_F o g L c0) (3 * (zb_F o g L c0).length) next
end
section
variable {o g L c0 : Nat → Nat} {f_steps f_count f_known f_different : Int32} {a_ops a_args a_length a_next a_table a_far a_found a_who a_what a_tried : Nat → Int32} {a_path a_list a_before : Nat → Int64}
theorem zy_i3 (k t : Nat) : 3 * nI k + nI t = nI (3 * k + t) := by
  have e : 3 * nI k = nI (3 * k) := pk_mul 3 k
  rw [e, nI_add]
theorem zy_kn91 {post : Int32 → SY → Prop} {J : Int32 → Int32 → Int32 → Int32 → Int32 → (Nat → Int32) → (Nat → Int32) → (Nat → Int32) → (Nat → Int64) → (Nat → Int64) → (Nat → Int32) → (Nat → Int32) → (Nat → Int32) → (Nat → Int32) → (Nat → Int32) → (Nat → Int32) → (Nat → Int64) → (Nat → Int32) → Prop}
    (hC : zx_C o g L a_ops a_args a_length) (hV : zc_V o L c0) {k : Nat} (hk : k < 1200)
    (hJ : ∀ (list : Nat → Int64) (next table : Nat → Int32), zb_T zp_Y (zb_L o g L c0 (3 * (k + 1))) list table → zb_N o g L (zb_L o g L c0 (3 * (k + 1))) (3 * (k + 1)) next →
      J (nI (k + 1)) f_steps (nI (zb_L o g L c0 (3 * (k + 1))).length) f_known f_different a_ops a_args a_length a_path list next table a_far a_found a_who a_what a_before a_tried) :
    ∀ (d t : Nat) (list : Nat → Int64) (next table : Nat → Int32), t + d = 3 → k < (zb_L o g L c0 (3 * k + t)).length →
      zb_T zp_Y (zb_L o g L c0 (3 * k + t)) list table → zb_N o g L (zb_L o g L c0 (3 * k + t)) (3 * k + t) next →
      wY_know_91 post J (nI k) (d + 1) (nI t) f_steps (nI (zb_L o g L c0 (3 * k + t)).length) f_known f_different a_ops a_args a_length a_path list next table a_far a_found a_who a_what a_before a_tried := by
  have hL := zx_L5 hC
  intro d
  induction d with
  | zero =>
    intro t list next table ht hl T N
    have e : t = 3 := by omega
    subst e
    exact br_t (by decide) (nm_r (nI_1 k) (hJ list next table T N))
  | succ d ih =>
    intro t list next table ht hl T N
    have hlen := T.1
    have e3 : (3 * k + t) / 3 = k := by omega
    have e4 : (3 * k + t) % 3 = t := by omega
    have hVl := zb_V hC.1 hV (3 * k + t)
    have hVi := hVl _ (zb_at_mem hl)
    have ii : vp_in (nI k) 1201 := vp_in_nI (by omega) (by omega)
    have i3 : vp_in (3 * nI k + nI t) 3603 := pk_in (3 * k + t) 3603 (by omega) (zy_i3 k t)
    have ec3 : (3 * nI k + nI t).toNatClampNeg = 3 * k + t := by rw [zy_i3, nI_clamp (by omega)]
    have ef : list (nI k).toNatClampNeg = lN (zp_Y (zb_at (zb_L o g L c0 (3 * k + t)) k)) := by rw [nI_clamp (by omega)]; exact T.2.1 k hl
    refine br_f (nI_ge (b := 3) (by omega) (by decide)) (pk_lt 1200 (zb_L o g L c0 (3 * k + t)).length (fun hm => nm_r (nI_1 k) ?_) (fun hm => ?_) rfl rfl (by omega) (by omega))
    · have hs : zb_L o g L c0 (3 * (k + 1)) = zb_L o g L c0 (3 * k + t) := by
        have := zb_stop (o := o) (g := g) (L := L) (c0 := c0) (e := 3 * k + t) (Or.inr hm) (d + 1)
        have e : 3 * k + t + (d + 1) = 3 * (k + 1) := by omega
        rwa [e] at this
      have := hJ list next table (by rw [hs]; exact T) (by rw [hs]; exact zb_N_big hm)
      rw [hs] at this
      exact this
    · refine And.intro i3 (nm_e (And.intro ii ?_))
      rw [ef, ec3]
      refine zy_isReady hC hVi (by omega) (fun hR => br_f (by decide) (And.intro ii ?_)) (fun hR => br_t rfl (nm_r (nI_1 t) ?_))
      · have hVs := zc_V_step hC.1 hVi (by omega) hR
        refine zy_after hC hVi (by omega) hR ?_
        refine zy_number (P := zc_V o L) T hm (zy_inj hL) hVl hVs (fun m hm1 hm2 => ?_) (fun h1 s' T' => ?_)
        · refine And.intro i3 (nm_e (nm_r (nI_1 t) ?_))
          have hs : zb_L o g L c0 (3 * k + t + 1) = zb_L o g L c0 (3 * k + t) := by
            refine zb_neg ?_
            rintro ⟨_, _, _, h7⟩
            rw [e3, e4, ← hm2] at h7
            exact h7 (zb_at_mem hm1)
          have := ih (t + 1) list (upd (upd next (3 * k + t) (-1)) (3 * k + t) (nI m)) table (by omega) (by show k < (zb_L o g L c0 (3 * k + t + 1)).length; rw [hs]; exact hl)
            (by show zb_T zp_Y (zb_L o g L c0 (3 * k + t + 1)) list table; rw [hs]; exact T)
            (by
              show zb_N o g L (zb_L o g L c0 (3 * k + t + 1)) (3 * k + t + 1) _
              rw [hs]
              refine zb_N_up N hm (fun i hi => rfl) (Nat.le_refl _) (by rw [e3]; exact hl) (fun j hj => by rw [pk_un hj, pk_un hj]) (fun hn => ?_) (fun hy => ?_)
              · rw [e3, e4] at hn; exact absurd hR hn
              · rw [e3, e4]; exact ⟨m, hm1, pk_us, hm2⟩)
          have el : (zb_L o g L c0 (3 * k + (t + 1))).length = (zb_L o g L c0 (3 * k + t)).length := congrArg List.length hs
          rw [el] at this
          exact this
        · refine And.intro i3 (nm_e (nm_r (nI_1 t) ?_))
          have hs := zb_pos (o := o) (g := g) (L := L) (c0 := c0) (e := 3 * k + t) (by rw [e3]; exact hl) hm (by rw [e3, e4]; exact hR) (by rw [e3, e4]; exact h1)
          rw [e3, e4] at hs
          have el : (zb_L o g L c0 (3 * k + (t + 1))).length = (zb_L o g L c0 (3 * k + t)).length + 1 := by
            show (zb_L o g L c0 (3 * k + t + 1)).length = _
            rw [hs]; simp
          have := ih (t + 1) (vp_updL list (zb_L o g L c0 (3 * k + t)).length (lN (zp_Y (zc_step o g L (zb_at (zb_L o g L c0 (3 * k + t)) k) t))))
            (upd (upd next (3 * k + t) (-1)) (3 * k + t) (nI (zb_L o g L c0 (3 * k + t)).length)) s' (by omega) (by rw [el]; omega)
            (by show zb_T zp_Y (zb_L o g L c0 (3 * k + t + 1)) _ _; rw [hs]; exact T')
            (by
              show zb_N o g L (zb_L o g L c0 (3 * k + t + 1)) (3 * k + t + 1) _
              rw [hs]
              refine zb_N_up N hm (fun i hi => zb_at_app hi) (by simp) (by rw [e3]; exact hl) (fun j hj => by rw [pk_un hj, pk_un hj]) (fun hn => ?_) (fun hy => ?_)
              · rw [e3, e4] at hn; exact absurd hR hn
              · rw [e3, e4]; exact ⟨(zb_L o g L c0 (3 * k + t)).length, by simp, pk_us, zb_at_new⟩)
          rw [el] at this
          exact this
      · have hs : zb_L o g L c0 (3 * k + t + 1) = zb_L o g L c0 (3 * k + t) := by
          refine zb_neg ?_
          rintro ⟨_, _, h6, _⟩
          rw [e3, e4] at h6
          exact hR h6
        have := ih (t + 1) list (upd next (3 * k + t) (-1)) table (by omega) (by show k < (zb_L o g L c0 (3 * k + t + 1)).length; rw [hs]; exact hl)
          (by show zb_T zp_Y (zb_L o g L c0 (3 * k + t + 1)) list table; rw [hs]; exact T)
          (by
            show zb_N o g L (zb_L o g L c0 (3 * k + t + 1)) (3 * k + t + 1) _
            rw [hs]
            refine zb_N_up N hm (fun i hi => rfl) (Nat.le_refl _) (by rw [e3]; exact hl) (fun j hj => pk_un hj) (fun hn => pk_us) (fun hy => ?_)
            rw [e3, e4] at hy; exact absurd hy hR)
        have el : (zb_L o g L c0 (3 * k + (t + 1))).length = (zb_L o g L c0 (3 * k + t)).length := congrArg List.length hs
        rw [el] at this
        exact this
theorem zy_kn71 {post : Int32 → SY → Prop} (hC : zx_C o g L a_ops a_args a_length) (hV : zc_V o L c0)
    (h0 : 1200 < (zb_F o g L c0).length → ∀ (count : Int32) (list : Nat → Int64) (next table : Nat → Int32), zy_S o g L c0 count list next →
      post 0 (f_steps, count, f_known, f_different, a_ops, a_args, a_length, a_path, list, next, table, a_far, a_found, a_who, a_what, a_before, a_tried))
    (h1 : (zb_F o g L c0).length ≤ 1200 → ∀ (count : Int32) (list : Nat → Int64) (next table : Nat → Int32), zy_S o g L c0 count list next →
      post 1 (f_steps, count, f_known, f_different, a_ops, a_args, a_length, a_path, list, next, table, a_far, a_found, a_who, a_what, a_before, a_tried)) :
    ∀ (d k : Nat) (list : Nat → Int64) (next table : Nat → Int32), k + d = 1200 →
      zb_T zp_Y (zb_L o g L c0 (3 * k)) list table → zb_N o g L (zb_L o g L c0 (3 * k)) (3 * k) next →
      wY_know_71 post (d + 1) (nI k) f_steps (nI (zb_L o g L c0 (3 * k)).length) f_known f_different a_ops a_args a_length a_path list next table a_far a_found a_who a_what a_before a_tried := by
  have fin : ∀ (k : Nat) (list : Nat → Int64) (next table : Nat → Int32), k ≤ 1200 → (1200 < (zb_L o g L c0 (3 * k)).length ∨ (zb_L o g L c0 (3 * k)).length ≤ k) →
      zb_T zp_Y (zb_L o g L c0 (3 * k)) list table → zb_N o g L (zb_L o g L c0 (3 * k)) (3 * k) next →
      wY_know_175 post f_steps (nI (zb_L o g L c0 (3 * k)).length) f_known f_different a_ops a_args a_length a_path list next table a_far a_found a_who a_what a_before a_tried := by
    intro k list next table hk hd T N
    have hF : zb_F o g L c0 = zb_L o g L c0 (3 * k) := by
      refine zb_F_at (by omega) ?_
      rcases hd with e | e
      · exact Or.inr e
      · exact Or.inl (by omega)
    have hlen := T.1
    have hS : zy_S o g L c0 (nI (zb_L o g L c0 (3 * k)).length) list next := by
      unfold zy_S
      rw [hF]
      refine ⟨rfl, T.2.1, fun hM i t ht hi he => N hM i t ht hi ?_⟩
      omega
    rw [hF] at h0 h1
    exact pk_lt 1200 (zb_L o g L c0 (3 * k)).length (fun h => h0 h _ _ _ _ hS) (fun h => h1 h _ _ _ _ hS) rfl rfl (by omega) (by omega)
  intro d
  induction d with
  | zero =>
    intro k list next table hk T N
    have hlen := T.1
    have e : k = 1200 := by omega
    subst e
    refine pk_le (zb_L o g L c0 (3 * 1200)).length 1200 (fun h => ?_) (fun h => ?_) rfl rfl (by omega) (by omega)
    · exact fin 1200 list next table (by omega) (Or.inr h) T N
    · refine pk_lt 1200 (zb_L o g L c0 (3 * 1200)).length (fun h => ?_) (fun h2 => by omega) rfl rfl (by omega) (by omega)
      exact fin 1200 list next table (by omega) (Or.inl h) T N
  | succ d ih =>
    intro k list next table hk T N
    have hlen := T.1
    refine pk_le (zb_L o g L c0 (3 * k)).length k (fun h => ?_) (fun h => ?_) rfl rfl (by omega) (by omega)
    · exact fin k list next table (by omega) (Or.inr h) T N
    · refine pk_lt 1200 (zb_L o g L c0 (3 * k)).length (fun h => ?_) (fun h2 => ?_) rfl rfl (by omega) (by omega)
      · exact fin k list next table (by omega) (Or.inl h) T N
      · exact ⟨4, zy_kn91 hC hV (by omega) (fun list next table T' N' => ih (k + 1) list next table (by omega) T' N') 3 0 list next table rfl h T N⟩
theorem zy_know {post : Int32 → SY → Prop} (hC : zx_C o g L a_ops a_args a_length) (hV : zc_V o L c0) {n : Nat} (hn : n ≤ 30) (hpth : a_path n = lN (zp_Y c0))
    (hk : f_known = 0 ∨ (f_known = 1 ∧ zy_S o g L c0 f_count a_list a_next))
    (h0 : 1200 < (zb_F o g L c0).length → ∀ (count : Int32) (list : Nat → Int64) (next table : Nat → Int32), zy_S o g L c0 count list next →
      post 0 (nI n, count, 1, f_different, a_ops, a_args, a_length, a_path, list, next, table, a_far, a_found, a_who, a_what, a_before, a_tried))
    (h1 : (zb_F o g L c0).length ≤ 1200 → ∀ (count : Int32) (list : Nat → Int64) (next table : Nat → Int32), zy_S o g L c0 count list next →
      post 1 (nI n, count, 1, f_different, a_ops, a_args, a_length, a_path, list, next, table, a_far, a_found, a_who, a_what, a_before, a_tried)) : wpY_know post (nI n, f_count, f_known, f_different, a_ops, a_args, a_length, a_path, a_list, a_next, a_table, a_far, a_found, a_who, a_what, a_before, a_tried) := by
  rcases hk with e | ⟨e, hS⟩
  · subst e
    have key : ∀ d i (tb : Nat → Int32), i + d = 4096 → (∀ j, j < i → tb j = 0) → wY_know_30 post (nI n) f_count 1 f_different (d + 1) (nI i) a_ops a_args a_length a_path a_list a_next tb a_far a_found a_who a_what a_before a_tried := by
      intro d
      induction d with
      | zero =>
        intro i tb hi hs
        have e : i = 4096 := by omega
        subst e
        have et : a_path (nI n).toNatClampNeg = lN (zp_Y c0) := by rw [nI_clamp (by omega)]; exact hpth
        refine br_t (by decide) (And.intro (vp_in_nI (by omega) (by omega)) ?_)
        rw [et]
        refine zy_number (l := []) (P := zc_V o L) (zb_T_0 hs) (by simp) (zy_inj (zx_L5 hC)) (fun x hx => by simp at hx) hV (fun m hm => by simp at hm) (fun _ s' T' => ⟨1201, ?_⟩)
        exact zy_kn71 hC hV h0 h1 1200 0 _ _ _ (by omega) T' (fun _ i t _ _ h => by omega)
      | succ d ih =>
        intro i tb hi hs
        refine br_f (nI_ge (b := 4096) (by omega) (by decide)) (And.intro (vp_in_nI (by omega) (by omega)) (nm_e (nm_r (nI_1 i) (ih (i + 1) _ (by omega) fun j hj => ?_))))
        rw [nI_clamp (by omega)]
        unfold upd
        by_cases e : j = i
        · rw [if_pos e]
        · rw [if_neg e]; exact hs j (by omega)
    exact br_t rfl ⟨4097, key 4096 0 a_table rfl fun j hj => by omega⟩
  · subst e
    have hlen := (zb_len (o := o) (g := g) (L := L) (c0 := c0) 3600).2
    exact br_f (by decide) (pk_lt 1200 (zb_F o g L c0).length (fun h => h0 h _ _ _ _ hS) (fun h => h1 h _ _ _ _ hS) rfl hS.1 (by omega) (by unfold zb_F; omega))
end
