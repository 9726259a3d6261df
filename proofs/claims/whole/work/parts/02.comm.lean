/-! steps that do not touch: neither makes the other ready or not ready, and they commute -/
section
variable {o g L : Nat → Nat} {c : Nat → Nat} {t u : Nat}
theorem zc_pc_o (ht : t < 3) (hn : t ≠ u) : zc_pc (zc_step o g L c u) t = zc_pc c t := by
  unfold zc_pc; rw [zc_sp ht, if_neg hn]
theorem zc_s1 (ht : t < 3) (hn : t ≠ u) : zc_step o g L c u (4 + t) = c (4 + t) := by rw [zc_sa ht, if_neg hn]
theorem zc_s1p (ht : t < 3) (hn : t ≠ u) : zc_step o g L c u (7 + t) = c (7 + t) := by rw [zc_sp ht, if_neg hn]
theorem zc_s2 (hV : zc_V o L c) (ht : t < 3) (hn : t ≠ u) (hT : ¬ zc_T o g (zc_pc c u) (zc_pc c t)) :
    zc_step o g L c u (12 + t) = c (12 + t) := by
  rw [zc_sw ht]
  unfold zc_nw
  rw [if_neg (fun h => hn h.1)]
  split
  · rename_i h
    exfalso
    rcases hV.2.2.2.1 t ht with h0 | h0
    · omega
    · exact hT ⟨h.2.2.symm, Or.inl ⟨by omega, by omega⟩⟩
  · rfl
theorem zc_nv_no {j : Nat} (h : ¬ ((o (zc_pc c u) = 1 ∨ o (zc_pc c u) = 2 ∨ o (zc_pc c u) = 3) ∧ g (zc_pc c u) = j)) : zc_nv o g c u j = c j := by
  unfold zc_nv
  rw [if_neg (fun e => h ⟨by omega, e.2⟩), if_neg (fun e => h ⟨by omega, e.2⟩)]
theorem zc_s3 (hT : ¬ zc_T o g (zc_pc c u) (zc_pc c t)) (ho : o (zc_pc c t) < 4) (hg : g (zc_pc c t) < 4) :
    zc_step o g L c u (g (zc_pc c t)) = c (g (zc_pc c t)) := by
  rw [zc_sv hg]
  exact zc_nv_no fun e => hT ⟨e.2, Or.inr ⟨by omega, ho, by omega⟩⟩
theorem zc_nt_no {l : Nat} (h : ¬ ((o (zc_pc c u) = 7 ∨ o (zc_pc c u) = 8 ∨ o (zc_pc c u) = 10 ∨ o (zc_pc c u) = 11) ∧ g (zc_pc c u) = l)) : zc_nt o g c u l = c (10 + l) := by
  unfold zc_nt
  by_cases e : g (zc_pc c u) = l
  · rw [if_pos e, if_neg (fun a => h ⟨by omega, e⟩), if_neg (fun a => h ⟨by omega, e⟩), if_neg (fun a => h ⟨by omega, e⟩)]
  · rw [if_neg e]
theorem zc_s4 (hT : ¬ zc_T o g (zc_pc c u) (zc_pc c t)) (ho : o (zc_pc c t) = 7 ∨ o (zc_pc c t) = 8 ∨ o (zc_pc c t) = 10 ∨ o (zc_pc c t) = 11) (hg : g (zc_pc c t) < 2) :
    zc_step o g L c u (10 + g (zc_pc c t)) = c (10 + g (zc_pc c t)) := by
  rw [zc_st hg]
  exact zc_nt_no fun e => hT ⟨e.2, Or.inl ⟨e.1, ho⟩⟩
/-- a thread's readiness isn't changed by another's step that does not touch its own -/
theorem zc_Riff (hK : zc_K o g L) (hV : zc_V o L c) (ht : t < 3) (hn : t ≠ u) (hT : ¬ zc_T o g (zc_pc c u) (zc_pc c t)) :
    zc_R o g L (zc_step o g L c u) t ↔ zc_R o g L c t := by
  unfold zc_R
  rw [zc_pc_o ht hn, zc_s1p ht hn, zc_s2 hV ht hn hT]
  by_cases hp : c (7 + t) < L t
  · by_cases hl : o (zc_pc c t) = 7 ∨ c (12 + t) = 2
    · have hG := (hK t ht).2 _ hp
      have h7 : o (zc_pc c t) = 7 ∨ o (zc_pc c t) = 8 ∨ o (zc_pc c t) = 10 ∨ o (zc_pc c t) = 11 := by
        rcases hl with h | h
        · exact Or.inl h
        · rcases hV.2.2.2.1 t ht with h0 | h0
          · omega
          · exact Or.inr (Or.inr (Or.inl h0.2.2))
      rw [zc_s4 hT h7 (hG.2.2.2.1 h7)]
    · constructor
      · intro h; exact ⟨h.1, h.2.1, fun a => absurd a hl⟩
      · intro h; exact ⟨h.1, h.2.1, fun a => absurd a hl⟩
  · constructor
    · intro h; exact absurd h.1 hp
    · intro h; exact absurd h.1 hp
theorem zc_np_c {d : Nat → Nat} (h1 : d (4 + t) = c (4 + t)) (h2 : d (7 + t) = c (7 + t)) (h3 : d (12 + t) = c (12 + t))
    (h4 : o (zc_pc c t) = 10 → d (10 + g (zc_pc c t)) = c (10 + g (zc_pc c t))) : zc_np o g L d t = zc_np o g L c t := by
  have hp : zc_pc d t = zc_pc c t := by unfold zc_pc; rw [h2]
  unfold zc_np
  rw [hp, h1, h2, h3]
  by_cases h : o (zc_pc c t) = 10
  · rw [h4 h]
  · rw [if_neg (c := o (zc_pc c t) = 10 ∧ _) (fun a => h a.1), if_neg (c := o (zc_pc c t) = 10 ∧ _) (fun a => h a.1)]
theorem zc_na_c {d : Nat → Nat} (h1 : d (4 + t) = c (4 + t)) (h2 : d (7 + t) = c (7 + t))
    (h4 : o (zc_pc c t) < 4 → d (g (zc_pc c t)) = c (g (zc_pc c t))) : zc_na o g d t = zc_na o g c t := by
  have hp : zc_pc d t = zc_pc c t := by unfold zc_pc; rw [h2]
  unfold zc_na
  rw [hp, h1]
  by_cases h : o (zc_pc c t) = 0 ∨ o (zc_pc c t) = 2
  · rw [if_pos h, if_pos h, h4 (by omega)]
  · rw [if_neg h, if_neg h]
theorem zc_nv_c {d : Nat → Nat} {j : Nat} (h1 : d (4 + t) = c (4 + t)) (h2 : d (7 + t) = c (7 + t)) (h3 : d j = c j) : zc_nv o g d t j = zc_nv o g c t j := by
  have hp : zc_pc d t = zc_pc c t := by unfold zc_pc; rw [h2]
  unfold zc_nv
  rw [hp, h1, h3]
theorem zc_nt_c {d : Nat → Nat} {l : Nat} (h1 : d (12 + t) = c (12 + t)) (h2 : d (7 + t) = c (7 + t)) (h3 : d (10 + l) = c (10 + l)) : zc_nt o g d t l = zc_nt o g c t l := by
  have hp : zc_pc d t = zc_pc c t := by unfold zc_pc; rw [h2]
  unfold zc_nt
  rw [hp, h1, h3]
theorem zc_nw_c {d : Nat → Nat} (h1 : d (12 + t) = c (12 + t)) (h2 : d (7 + t) = c (7 + t))
    (h3 : o (zc_pc c t) = 10 → d (10 + g (zc_pc c t)) = c (10 + g (zc_pc c t))) : zc_nw o g d t t = zc_nw o g c t t := by
  have hp : zc_pc d t = zc_pc c t := by unfold zc_pc; rw [h2]
  unfold zc_nw
  rw [hp, h1]
  by_cases h : o (zc_pc c t) = 10
  · rw [h3 h]
  · rw [if_neg (c := t = t ∧ _) (fun a => h a.2), if_neg (c := t = t ∧ _) (fun a => h a.2)]
/-- the waiter of the thread that steps: the other's NOTIFY does not reach it -/
theorem zc_ww (hV : zc_V o L c) (ht : t < 3) (hn : t ≠ u) (hR : zc_R o g L c t) (hT : ¬ zc_T o g (zc_pc c t) (zc_pc c u)) (hu : u < 3) :
    zc_nw o g (zc_step o g L c t) u t = zc_nw o g c t t := by
  have e : zc_nw o g (zc_step o g L c t) u t = zc_step o g L c t (12 + t) := by
    unfold zc_nw
    rw [if_neg (fun h => hn h.1), if_neg]
    rintro ⟨h1, h2, h3⟩
    rw [zc_pc_o hu (Ne.symm hn)] at h1 h3
    rw [zc_sw ht] at h2
    unfold zc_nw at h2
    have hr := hR.2.1
    by_cases h10 : o (zc_pc c t) = 10
    · rw [if_pos ⟨rfl, h10⟩] at h2
      by_cases hc : c (12 + t) = 2
      · rw [if_pos hc] at h2; omega
      · rw [if_neg hc] at h2
        by_cases hd : c (10 + g (zc_pc c t)) = t + 1
        · have e2 : zc_np o g L c t = c (7 + t) := by
            unfold zc_np
            rw [if_neg (by omega), if_pos ⟨h10, hc, hd⟩]
          have e3 : zc_pc (zc_step o g L c t) t = zc_pc c t := by
            unfold zc_pc; rw [zc_sp ht, if_pos rfl, e2]
          rw [e3] at h3
          exact hT ⟨h3, Or.inl ⟨by omega, by omega⟩⟩
        · rw [if_neg hd] at h2; exact hr h2
    · rw [if_neg (fun a => h10 a.2)] at h2
      split at h2
      · omega
      · exact hr h2
  rw [e, zc_sw ht]
/-- the third thread's waiter -/
theorem zc_w3 {w : Nat} (hw : w < 3) (h1 : w ≠ t) (h2 : w ≠ u) (ht : t < 3) (hu : u < 3) (hn : t ≠ u) :
    zc_nw o g (zc_step o g L c t) u w = zc_nw o g (zc_step o g L c u) t w := by
  have aux : ∀ (d : Nat → Nat) (s : Nat), w ≠ s → zc_nw o g d s w = if o (zc_pc d s) = 11 ∧ d (12 + w) = 1 ∧ g (zc_pc d w) = g (zc_pc d s) then 2 else d (12 + w) := by
    intro d s hs
    unfold zc_nw
    rw [if_neg (fun h => hs h.1)]
  rw [aux _ u h2, aux _ t h1, zc_pc_o hu (Ne.symm hn), zc_pc_o ht hn, zc_pc_o hw h1, zc_pc_o hw h2, zc_sw hw, zc_sw hw, aux _ t h1, aux _ u h2]
  by_cases a1 : o (zc_pc c t) = 11 ∧ c (12 + w) = 1 ∧ g (zc_pc c w) = g (zc_pc c t)
  · by_cases a2 : o (zc_pc c u) = 11 ∧ c (12 + w) = 1 ∧ g (zc_pc c w) = g (zc_pc c u)
    · rw [if_pos a1, if_pos a2, if_neg (by omega), if_neg (by omega)]
    · rw [if_pos a1, if_neg a2, if_neg (by omega), if_pos a1]
  · by_cases a2 : o (zc_pc c u) = 11 ∧ c (12 + w) = 1 ∧ g (zc_pc c w) = g (zc_pc c u)
    · rw [if_neg a1, if_pos a2, if_neg (by omega)]
    · rw [if_neg a1, if_neg a2, if_neg a1]
theorem zc_bb (ht : t < 3) (hu : u < 3) (hn : t ≠ u) :
    zc_nb o g (zc_step o g L c t) u = zc_nb o g (zc_step o g L c u) t := by
  unfold zc_nb
  rw [zc_pc_o hu (Ne.symm hn), zc_pc_o ht hn, zc_s1 hu (Ne.symm hn), zc_s1 ht hn, zc_sb, zc_sb]
  unfold zc_nb
  by_cases a1 : o (zc_pc c t) = 9 ∧ c (4 + t) ≠ g (zc_pc c t)
  · rw [if_pos a1, if_pos a1]
    split <;> rfl
  · rw [if_neg a1, if_neg a1]
/-- steps that do not touch commute -/
theorem zc_comm (hK : zc_K o g L) (hV : zc_V o L c) (ht : t < 3) (hu : u < 3) (hn : t ≠ u)
    (hRt : zc_R o g L c t) (hRu : zc_R o g L c u) (hT : ¬ zc_T o g (zc_pc c t) (zc_pc c u)) :
    zc_step o g L (zc_step o g L c t) u = zc_step o g L (zc_step o g L c u) t := by
  have hT' : ¬ zc_T o g (zc_pc c u) (zc_pc c t) := fun h => hT (zc_T_sym h)
  have hn' : u ≠ t := Ne.symm hn
  have hGt := zc_R_G hK ht hRt
  have hGu := zc_R_G hK hu hRu
  have at1 := zc_s1 (o := o) (g := g) (L := L) (c := c) ht hn
  have at2 := zc_s1p (o := o) (g := g) (L := L) (c := c) ht hn
  have at3 := zc_s2 (L := L) hV ht hn hT'
  have at4 : o (zc_pc c t) = 10 → zc_step o g L c u (10 + g (zc_pc c t)) = c (10 + g (zc_pc c t)) := fun h =>
    zc_s4 hT' (by omega) (hGt.2.2.2.1 (by omega))
  have au1 := zc_s1 (o := o) (g := g) (L := L) (c := c) hu hn'
  have au2 := zc_s1p (o := o) (g := g) (L := L) (c := c) hu hn'
  have au3 := zc_s2 (L := L) hV hu hn' hT
  have au4 : o (zc_pc c u) = 10 → zc_step o g L c t (10 + g (zc_pc c u)) = c (10 + g (zc_pc c u)) := fun h =>
    zc_s4 hT (by omega) (hGu.2.2.2.1 (by omega))
  refine zc_ext (fun j hj => ?_) (fun w hw => ?_) (fun w hw => ?_) (fun l hl => ?_) (fun w hw => ?_) ?_ (fun j hj => ?_)
  · rw [zc_sv hj, zc_sv hj]
    by_cases hW : (o (zc_pc c u) = 1 ∨ o (zc_pc c u) = 2 ∨ o (zc_pc c u) = 3) ∧ g (zc_pc c u) = j
    · have hW2 : ¬ ((o (zc_pc c t) = 1 ∨ o (zc_pc c t) = 2 ∨ o (zc_pc c t) = 3) ∧ g (zc_pc c t) = j) := fun h =>
        hT ⟨by omega, Or.inr ⟨by omega, by omega, by omega⟩⟩
      have e1 : zc_step o g L c t j = c j := by rw [zc_sv hj]; exact zc_nv_no hW2
      rw [zc_nv_c au1 au2 e1, zc_nv_no (c := zc_step o g L c u) (by rw [zc_pc_o ht hn]; exact hW2), zc_sv hj]
    · have e1 : zc_step o g L c u j = c j := by rw [zc_sv hj]; exact zc_nv_no hW
      rw [zc_nv_c at1 at2 e1, zc_nv_no (c := zc_step o g L c t) (by rw [zc_pc_o hu hn']; exact hW), zc_sv hj]
  · rw [zc_sa hw, zc_sa hw, zc_sa hw, zc_sa hw]
    by_cases e : w = u
    · subst e
      rw [if_pos rfl, if_neg hn', if_pos rfl]
      exact zc_na_c au1 au2 fun h => zc_s3 hT h (hGu.2.2.1 h)
    · rw [if_neg e, if_neg e]
      by_cases e2 : w = t
      · subst e2
        rw [if_pos rfl, if_pos rfl]
        exact (zc_na_c at1 at2 fun h => zc_s3 hT' h (hGt.2.2.1 h)).symm
      · rw [if_neg e2, if_neg e2]
  · rw [zc_sp hw, zc_sp hw, zc_sp hw, zc_sp hw]
    by_cases e : w = u
    · subst e
      rw [if_pos rfl, if_neg hn', if_pos rfl]
      exact zc_np_c au1 au2 au3 au4
    · rw [if_neg e, if_neg e]
      by_cases e2 : w = t
      · subst e2
        rw [if_pos rfl, if_pos rfl]
        exact (zc_np_c at1 at2 at3 at4).symm
      · rw [if_neg e2, if_neg e2]
  · rw [zc_st hl, zc_st hl]
    by_cases hW : (o (zc_pc c u) = 7 ∨ o (zc_pc c u) = 8 ∨ o (zc_pc c u) = 10 ∨ o (zc_pc c u) = 11) ∧ g (zc_pc c u) = l
    · have hW2 : ¬ ((o (zc_pc c t) = 7 ∨ o (zc_pc c t) = 8 ∨ o (zc_pc c t) = 10 ∨ o (zc_pc c t) = 11) ∧ g (zc_pc c t) = l) := fun h =>
        hT ⟨by omega, Or.inl ⟨h.1, hW.1⟩⟩
      have e1 : zc_step o g L c t (10 + l) = c (10 + l) := by rw [zc_st hl]; exact zc_nt_no hW2
      rw [zc_nt_c au3 au2 e1, zc_nt_no (c := zc_step o g L c u) (by rw [zc_pc_o ht hn]; exact hW2), zc_st hl]
    · have e1 : zc_step o g L c u (10 + l) = c (10 + l) := by rw [zc_st hl]; exact zc_nt_no hW
      rw [zc_nt_c at3 at2 e1, zc_nt_no (c := zc_step o g L c t) (by rw [zc_pc_o hu hn']; exact hW), zc_st hl]
  · rw [zc_sw hw, zc_sw hw]
    by_cases e : w = u
    · subst e
      rw [zc_nw_c au3 au2 au4]
      exact (zc_ww hV hu hn' hRu hT' ht).symm
    · by_cases e2 : w = t
      · subst e2
        rw [zc_nw_c at3 at2 at4]
        exact zc_ww hV ht hn hRt hT hu
      · exact zc_w3 hw e2 e ht hu hn
  · rw [zc_sb, zc_sb]; exact zc_bb ht hu hn
  · rw [zc_sz hj, zc_sz hj, zc_sz hj, zc_sz hj]
end
